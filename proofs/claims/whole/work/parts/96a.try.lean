/-! THE CLASS TRIES A SET OF BARS -/
theorem st_gi_si_ne {σ : lf_St} {k i : Nat} {v : Int32} (h : i ≠ k) : lf_gi (lf_si σ k v) i = lf_gi σ i := by
  show va_up σ.1 k v i = _
  exact va_up_ne _ _ h
theorem st_gi_si (σ : lf_St) (k : Nat) (v : Int32) : lf_gi (lf_si σ k v) k = v := by
  show va_up σ.1 k v k = _
  exact va_up_self _ _ _
theorem st_gl_sl_ne {σ : lf_St} {k i : Nat} {v : Int64} (h : i ≠ k) : lf_gl (lf_sl σ k v) i = lf_gl σ i := by
  show va_up σ.2.1 k v i = _
  exact va_up_ne _ _ h
theorem st_gl_sl (σ : lf_St) (k : Nat) (v : Int64) : lf_gl (lf_sl σ k v) k = v := by
  show va_up σ.2.1 k v k = _
  exact va_up_self _ _ _
theorem st_al_sb_ne {σ : lf_St} {k i j : Nat} {v : Int64} (h : i ≠ k) : lf_al (lf_sb σ k j v) i = lf_al σ i := by
  show va_up σ.2.2.2 k _ i = _
  exact va_up_ne _ _ h
theorem st_al_sb (σ : lf_St) (k j : Nat) (v : Int64) : lf_al (lf_sb σ k j v) k = vp_updL (lf_al σ k) j v := by
  show va_up σ.2.2.2 k _ k = _
  exact va_up_self _ _ _
def cQ (σ0 σ : lf_St) : Prop := (∀ k, k ≠ 7 → k ≠ 34 → k ≠ 44 → k ≠ 54 → lf_gi σ k = lf_gi σ0 k) ∧ (∀ k, k ≠ 0 → k ≠ 24 → lf_gl σ k = lf_gl σ0 k) ∧ (∀ k, k ≠ 17 → lf_ai σ k = lf_ai σ0 k) ∧ (∀ k, k < 31 → lf_al σ k = lf_al σ0 k)
theorem cQ_refl (σ : lf_St) : cQ σ σ := ⟨fun _ _ _ _ _ => rfl, fun _ _ _ => rfl, fun _ _ => rfl, fun _ _ => rfl⟩
theorem cQ_trans {a b c : lf_St} (h : cQ a b) (h' : cQ b c) : cQ a c := ⟨fun k p q r s => (h'.1 k p q r s).trans (h.1 k p q r s), fun k p q => (h'.2.1 k p q).trans (h.2.1 k p q), fun k p => (h'.2.2.1 k p).trans (h.2.2.1 k p), fun k p => (h'.2.2.2 k p).trans (h.2.2.2 k p)⟩
theorem cQ_si {a b : lf_St} {k : Nat} {v : Int32} (h : cQ a b) (hk : k = 7 ∨ k = 34 ∨ k = 44 ∨ k = 54) : cQ a (lf_si b k v) := ⟨fun i p q r s => by rw [st_gi_si_ne (by omega)]; exact h.1 i p q r s, h.2.1, h.2.2.1, h.2.2.2⟩
theorem cQ_sl {a b : lf_St} {k : Nat} {v : Int64} (h : cQ a b) (hk : k = 0 ∨ k = 24) : cQ a (lf_sl b k v) := ⟨h.1, fun i p q => by rw [st_gl_sl_ne (by omega)]; exact h.2.1 i p q, h.2.2.1, h.2.2.2⟩
theorem cQ_sa {a b : lf_St} {j : Nat} {v : Int32} (h : cQ a b) : cQ a (lf_sa b 17 j v) := ⟨h.1, h.2.1, fun i p => by rw [st_ai_sa_ne p]; exact h.2.2.1 i p, h.2.2.2⟩
theorem cQ_sb {a b : lf_St} {j : Nat} {v : Int64} (h : cQ a b) : cQ a (lf_sb b 31 j v) := ⟨h.1, h.2.1, h.2.2.1, fun i p => by rw [st_al_sb_ne (by omega)]; exact h.2.2.2 i p⟩
theorem cQ_tb {a b : lf_St} {T : Nat → Nat → Int64} (h : cQ a b) : cQ a (lf_tb b T) := ⟨h.1, h.2.1, h.2.2.1, fun i p => by rw [tb_al_ne (by omega)]; exact h.2.2.2 i p⟩
theorem cQ_pK {P : pn_T} {a b : lf_St} (h : cQ a b) (hK : pK P a) : pK P b := by
  obtain ⟨h1, h2, h3, h4⟩ := h
  unfold pK at hK ⊢
  rw [h1 0 (by decide) (by decide) (by decide) (by decide), h1 1 (by decide) (by decide) (by decide) (by decide), h1 2 (by decide) (by decide) (by decide) (by decide), h1 3 (by decide) (by decide) (by decide) (by decide), h1 4 (by decide) (by decide) (by decide) (by decide), h3 2 (by decide), h3 3 (by decide), h3 4 (by decide), h3 5 (by decide), h3 6 (by decide), h3 7 (by decide), h3 8 (by decide), h3 9 (by decide), h3 10 (by decide), h3 11 (by decide), h3 12 (by decide)]
  exact hK
def cPk (P : pn_T) (s : Nat) (σ : lf_St) : Prop := ∀ i, i < pR P → lf_ai σ 17 i = nI (pn_bi s (pB P) i)
theorem sc_list {P : pn_T} {σ : lf_St} (wf : pwf P) (hK : pK P σ) (h7 : lf_gi σ 7 = nI (pR P)) {s : Nat} (hs : s < 2 ^ pB P) (hn : pn_nb s (pB P) = pR P) {Post : lf_St → Prop} (hP : ∀ σ', cQ σ σ' → lf_gi σ' 7 = nI (pR P) → cPk P s σ' → Post σ') : wp_X1_listBars (nI s) σ Post := by
  have hB := wf.2.1
  have h6 := pR_6 wf
  have hs31 : s < 2 ^ 31 := Nat.lt_of_lt_of_le hs (Nat.pow_le_pow_right (by decide) (by omega))
  unfold wp_X1_listBars
  have z := pk_loop (fun fu b (t : lf_St) => L_X1_listBars_4 Post fu (nI s) (nI (pn_nb s b)) (nI b) t) (fun b t => cQ σ t ∧ lf_gi t 7 = nI (pR P) ∧ ∀ i, i < pn_nb s b → lf_ai t 17 i = nI (pn_bi s (pB P) i)) (pB P) 0 σ (by omega) ⟨cQ_refl σ, h7, fun k h => absurd h (Nat.not_lt_zero k)⟩ ?_ ?_
  · rw [nI_0] at z
    exact z
  · intro m t ⟨a1, a2, a3⟩
    show L_X1_listBars_4 Post (m + 1) _ _ _ _
    unfold L_X1_listBars_4
    have hK2 := cQ_pK a1 hK
    rw [hK2.2.2.1]
    rw [hn] at a3
    exact ⟨fun _ => hP t a1 a2 a3, fun h => absurd (nI_le (Nat.le_refl _) (by omega)) h⟩
  · intro m b t hb ⟨a1, a2, a3⟩ ih
    show L_X1_listBars_4 Post (m + 1) _ _ _ _
    unfold L_X1_listBars_4
    have hK2 := cQ_pK a1 hK
    have hle := nb_mono s (show b ≤ pB P by omega)
    rw [hK2.2.2.1, a2, bt_test1 hs31 (by omega)]
    refine ⟨fun h => absurd h (nI_ge hb (by omega)), fun _ => ⟨fun hfull => ?_, fun hnf => ⟨fun hnb v e => ?_, fun hyb => ?_⟩⟩⟩
    · have := (nI_leI (by omega) (by omega)).mp hfull
      have e : pn_nb s b = pR P := by omega
      rw [e] at a3
      exact hP t a1 a2 a3
    · have hnb : s.testBit b = false := by
        cases q : s.testBit b
        · rfl
        · exact absurd q hnb
      rw [e, nI_1, ← nb_same hnb]
      refine ih t ⟨a1, a2, ?_⟩
      rw [nb_same hnb]
      exact a3
    · have hlt := nb_lt hyb hb
      rw [nu_cl (by omega)]
      refine ⟨vp_in_nI (by omega) (by omega), fun v6 e6 v7 e7 => ?_⟩
      rw [e6, e7, nI_1, nI_1, ← nb_succ hyb]
      refine ih _ ⟨cQ_sa a1, a2, fun i hi => ?_⟩
      rw [nb_succ hyb] at hi
      rw [st_ai_sa]
      by_cases q : i = pn_nb s b
      · rw [q, pk_us, bi_of hyb hb]
      · rw [pk_un q]; exact a3 i (by omega)
theorem sc_clear {σ : lf_St} {n : Nat} (hn : n ≤ 6) (h7 : lf_gi σ 7 = nI n) {Post : lf_St → Prop} (hP : ∀ T, (∀ i j, i < n → j < 2 * n → (T i j).toInt = if j = n + i then 1 else 0) → Post (lf_tb σ T)) : wp_X1_clearTable σ Post := by
  have hg : ∀ T, lf_gi (lf_tb σ T) 7 = nI n := fun _ => h7
  unfold wp_X1_clearTable
  have z := pk_loop (fun fu i T => L_X1_clearTable_2 Post fu (nI i) (lf_tb σ T)) (fun i T => ∀ a j, a < i → j < 2 * n → (T a j).toInt = if j = n + a then 1 else 0) n 0 (fun i => lf_al σ (32 + i)) (by omega) (fun a j h => absurd h (Nat.not_lt_zero a)) ?_ ?_
  · rw [nI_0, tb_id] at z
    exact z
  · intro m T hT
    show L_X1_clearTable_2 Post (m + 1) _ _
    unfold L_X1_clearTable_2
    rw [hg]
    exact ⟨fun _ => hP T (fun i j hi hj => hT i j hi hj), fun h => absurd (nI_le (Nat.le_refl _) (by omega)) h⟩
  · intro m i T hi hT ih
    show L_X1_clearTable_2 Post (m + 1) _ _
    unfold L_X1_clearTable_2
    rw [hg]
    refine ⟨fun h => absurd h (nI_ge hi (by omega)), fun _ => ?_⟩
    have y := pk_loop (fun fu j T => L_X1_clearTable_12 (L_X1_clearTable_2 Post m) Post fu (nI i) (nI j) (lf_tb σ T)) (fun j T => (∀ a j, a < i → j < 2 * n → (T a j).toInt = if j = n + a then 1 else 0) ∧ ∀ c, c < j → (T i c).toInt = if c = n + i then 1 else 0) (2 * n) 0 T (by omega) ⟨hT, fun c h => absurd h (Nat.not_lt_zero c)⟩ ?_ ?_
    · rw [nI_0] at y
      exact y
    · intro m2 T ⟨c1, c2⟩
      show L_X1_clearTable_12 _ Post (m2 + 1) _ _ _
      unfold L_X1_clearTable_12
      rw [hg, nu_2]
      refine ⟨fun _ v e => ?_, fun h => absurd (nI_le (Nat.le_refl _) (by omega)) h⟩
      rw [e, nI_1]
      refine ih T (fun a j ha hj => ?_)
      by_cases q : a = i
      · rw [q]; exact c2 j hj
      · exact c1 a j (by omega) hj
    · intro m2 j T hj ⟨c1, c2⟩ ih2
      show L_X1_clearTable_12 _ Post (m2 + 1) _ _ _
      unfold L_X1_clearTable_12
      rw [hg, nu_2, nI_add, nI_eq (a := j) (b := n + i) (by omega) (by omega), nu_cl (n := i) (by omega), nu_cl (n := j) (by omega), tb_sb (by omega), tb_sb (by omega)]
      have stp : ∀ w : Int64, w.toInt = (if j = n + i then 1 else 0) → ∀ v, v = nI j + 1 → L_X1_clearTable_12 (L_X1_clearTable_2 Post m) Post m2 (nI i) v (lf_tb σ (tb_up T i j w)) := by
        intro w ew v ev
        rw [ev, nI_1]
        refine ih2 _ ⟨fun a c ha hc => ?_, fun c hc => ?_⟩
        · rw [tb_up_at, if_neg (by omega)]
          exact c1 a c ha hc
        · rw [tb_up_at]
          by_cases q : c = j
          · rw [if_pos ⟨rfl, q⟩, q]; exact ew
          · rw [if_neg (by omega)]; exact c2 c (by omega)
      refine ⟨fun h => absurd h (nI_ge hj (by omega)), fun _ => ⟨vp_in_nI (by omega) (by omega), fun hne => ⟨vp_in_nI (by omega) (by omega), stp 0 ?_⟩, fun he => ⟨vp_in_nI (by omega) (by omega), stp 1 ?_⟩⟩⟩
      · rw [if_neg hne]; rfl
      · rw [if_pos he]; rfl
/-- the table as the columns come -/
def cTb (P : pn_T) (s k : Nat) (T : Nat → Nat → Int64) : Prop := ∀ i j, i < pR P → j < 2 * pR P → (T i j).toInt = if j < pR P then (if j < k then pcol P (pn_bi s (pB P) j) i else 0) else (if j = pR P + i then 1 else 0)
theorem cTb_up {P : pn_T} {s k : Nat} {T T' : Nat → Nat → Int64} (h : cTb P s k T) (hk : k < pR P) (h1 : ∀ i j, i < pR P → j ≠ k → T' i j = T i j) (h2 : ∀ i, i < pR P → (T' i k).toInt = pcol P (pn_bi s (pB P) k) i) : cTb P s (k + 1) T' := by
  intro i j hi hj
  by_cases e : j = k
  · rw [e, if_pos hk, if_pos (by omega)]
    exact h2 i hi
  · rw [h1 i j hi e, h i j hi hj]
    by_cases q : j < pR P
    · rw [if_pos q, if_pos q]
      by_cases q2 : j < k
      · rw [if_pos q2, if_pos (by omega)]
      · rw [if_neg q2, if_neg (by omega)]
    · rw [if_neg q, if_neg q]
theorem nu_ofN {z : Int} (h : z.natAbs ≤ 1000000) : (Int32.ofInt z).toInt = z := nu_ofI (by omega) (by omega)
theorem sc_fill {P : pn_T} {σ : lf_St} (wf : pwf P) (hK : pK P σ) (h7 : lf_gi σ 7 = nI (pR P)) {s k : Nat} (hn : pn_nb s (pB P) = pR P) (hp : cPk P s σ) (hk : k < pR P) {T : Nat → Nat → Int64} (hT : cTb P s k T) {Post : lf_St → Prop} (hP : ∀ T', cTb P s (k + 1) T' → Post (lf_tb σ T')) : wp_X1_fillColumn (nI k) (lf_tb σ T) Post := by
  have hJ := wf.1
  have hB := wf.2.1
  have h6 := pR_6 wf
  obtain ⟨b, hb, -, -, hbk⟩ := bi_ex (show k < pn_nb s (pB P) by omega)
  obtain ⟨f1, f2, f3⟩ := wf.2.2.2.2.2.2.2.1 b hb
  obtain ⟨k6, k7, k8, k9, -⟩ := hK.2.2.2.2.2.2.1 b hb
  have r4 : ∀ T j, j < pJ P → lf_ai (lf_tb σ T) 4 j = if pE P j then -1 else nI (pW P j) := fun T j hj => (hK.2.2.2.2.2.1 j hj).2.2.1
  have g6 : ∀ T, lf_ai (lf_tb σ T) 6 b = nI (pF P b) := fun _ => k6
  have g7 : ∀ T, lf_ai (lf_tb σ T) 7 b = nI (pT P b) := fun _ => k7
  have g8 : ∀ T, lf_ai (lf_tb σ T) 8 b = Int32.ofInt (pdx P b) := fun _ => k8
  have g9 : ∀ T, lf_ai (lf_tb σ T) 9 b = Int32.ofInt (pdy P b) := fun _ => k9
  have g17 : lf_ai (lf_tb σ T) 17 k = nI b := by rw [← hbk]; exact hp k hk
  obtain ⟨d1, d2⟩ := pdx_le wf hb
  have vb : vp_in (nI b) 10 := vp_in_nI (by omega) (by omega)
  have vk : vp_in (nI k) 12 := vp_in_nI (by omega) (by omega)
  -- the other end
  have j68 : ∀ T1, (∀ i j, i < pR P → j ≠ k → T1 i j = T i j) → (∀ i, i < pR P → (T1 i k).toInt = if pE P (pF P b) = false ∧ i = pW P (pF P b) then pdx P b else if pE P (pF P b) = false ∧ i = pW P (pF P b) + 1 then pdy P b else 0) → J_X1_fillColumn_68 Post (nI k) (nI b) (lf_tb σ T1) := by
    intro T1 t1 t2
    unfold J_X1_fillColumn_68
    rw [nu_cl (n := b) (by omega), g7, nu_cl (n := pT P b) (by omega), r4 _ _ f2, nu_cl (n := k) (by omega), g8]
    refine ⟨vb, vp_in_nI (by omega) (by omega), fun v3 e3 => ?_⟩
    cases hE : pE P (pT P b)
    · rw [hE, if_neg (by decide)] at e3
      have hW := pW_lt wf f2 hE
      subst e3
      refine ⟨fun q => absurd q (nu_nm1 (by omega)), fun _ => ⟨vp_in_nI (by omega) (by omega), vb, vk, ?_⟩⟩
      rw [nI_1, nu_cl (n := pW P (pT P b)) (by omega), nu_cl (n := pW P (pT P b) + 1) (by omega), tb_sb (by omega)]
      refine ⟨vp_in_nI (by omega) (by omega), fun s9 e9 => ⟨vb, vk, ?_⟩⟩
      subst e9
      rw [g9, tb_sb (by omega)]
      refine hP _ (cTb_up hT hk (fun i j hi hne => ?_) (fun i hi => ?_))
      · rw [tb_up_at, if_neg (by omega), tb_up_at, if_neg (by omega), t1 i j hi hne]
      · rw [hbk]
        unfold pcol
        have hdis : pE P (pF P b) = false → pn_fc (pE P) (pF P b) ≠ pn_fc (pE P) (pT P b) := fun q z => f3 (fc_inj q hE z)
        have w1 : pW P (pF P b) = 2 * pn_fc (pE P) (pF P b) := rfl
        have w2 : pW P (pT P b) = 2 * pn_fc (pE P) (pT P b) := rfl
        rw [tb_up_at]
        by_cases z2 : i = pW P (pT P b) + 1
        · rw [if_pos ⟨z2, rfl⟩, if_neg (fun q => by have := hdis q.1; omega), if_neg (fun q => by have := hdis q.1; omega), if_neg (by omega), if_pos ⟨hE, z2⟩]
          exact nu_n64 (nu_neg32 (nu_ofN (by omega)) (by omega))
        · rw [if_neg (by omega), tb_up_at]
          by_cases z1 : i = pW P (pT P b)
          · rw [if_pos ⟨z1, rfl⟩, if_neg (fun q => by have := hdis q.1; omega), if_neg (fun q => by have := hdis q.1; omega), if_pos ⟨hE, z1⟩]
            exact nu_n64 (nu_neg32 (nu_ofN (by omega)) (by omega))
          · rw [if_neg (by omega), t2 i hi]
            by_cases p1 : pE P (pF P b) = false ∧ i = pW P (pF P b)
            · rw [if_pos p1, if_pos p1]
            · rw [if_neg p1, if_neg p1]
              by_cases p2 : pE P (pF P b) = false ∧ i = pW P (pF P b) + 1
              · rw [if_pos p2, if_pos p2]
              · rw [if_neg p2, if_neg p2, if_neg (fun q => z1 q.2), if_neg (fun q => z2 q.2)]
    · rw [hE, if_pos rfl] at e3
      subst e3
      refine ⟨fun _ => hP _ (cTb_up hT hk t1 (fun i hi => ?_)), fun q => absurd rfl q⟩
      rw [hbk, t2 i hi]
      unfold pcol
      rw [hE]
      by_cases p1 : pE P (pF P b) = false ∧ i = pW P (pF P b)
      · rw [if_pos p1, if_pos p1]
      · rw [if_neg p1, if_neg p1]
        by_cases p2 : pE P (pF P b) = false ∧ i = pW P (pF P b) + 1
        · rw [if_pos p2, if_pos p2]
        · rw [if_neg p2, if_neg p2, if_neg (fun q => by cases q.1), if_neg (fun q => by cases q.1)]
  unfold wp_X1_fillColumn
  rw [nu_cl (n := k) (by omega), g17]
  refine ⟨vp_in_nI (by omega) (by omega), fun v2 e2 => ?_⟩
  subst e2
  rw [nu_cl (n := b) (by omega), g6, nu_cl (n := pF P b) (by omega), r4 _ _ f1, g8]
  refine ⟨vb, vp_in_nI (by omega) (by omega), fun v5 e5 => ?_⟩
  have old : ∀ i, i < pR P → (T i k).toInt = 0 := fun i hi => by rw [hT i k hi (by omega), if_pos hk, if_neg (by omega)]
  cases hE : pE P (pF P b)
  · rw [hE, if_neg (by decide)] at e5
    have hW := pW_lt wf f1 hE
    subst e5
    refine ⟨fun q => absurd q (nu_nm1 (by omega)), fun _ => ⟨vp_in_nI (by omega) (by omega), vb, vk, ?_⟩⟩
    rw [nI_1, nu_cl (n := pW P (pF P b)) (by omega), nu_cl (n := pW P (pF P b) + 1) (by omega), tb_sb (by omega)]
    refine ⟨vp_in_nI (by omega) (by omega), fun s9 e9 => ⟨vb, vk, ?_⟩⟩
    subst e9
    rw [g9, tb_sb (by omega)]
    refine j68 _ (fun i j hi hne => ?_) (fun i hi => ?_)
    · rw [tb_up_at, if_neg (by omega), tb_up_at, if_neg (by omega)]
    · rw [tb_up_at]
      by_cases z2 : i = pW P (pF P b) + 1
      · rw [if_pos ⟨z2, rfl⟩, if_neg (by omega), if_pos ⟨hE, z2⟩]
        exact nu_n64 (nu_ofN (by omega))
      · rw [if_neg (by omega), tb_up_at]
        by_cases z1 : i = pW P (pF P b)
        · rw [if_pos ⟨z1, rfl⟩, if_pos ⟨hE, z1⟩]
          exact nu_n64 (nu_ofN (by omega))
        · rw [if_neg (by omega), if_neg (fun q => z1 q.2), if_neg (fun q => z2 q.2), old i hi]
  · rw [hE, if_pos rfl] at e5
    subst e5
    refine ⟨fun _ => j68 T (fun _ _ _ _ => rfl) (fun i hi => ?_), fun q => absurd rfl q⟩
    rw [hE, if_neg (fun q => by cases q.1), if_neg (fun q => by cases q.1), old i hi]
def cG (P : pn_T) (s : Nat) : Nat → Nat → Int := fun i j => if j < pR P then pA P s i j else if j = pR P + i then 1 else 0
theorem sc_take {P : pn_T} {σ : lf_St} (wf : pwf P) (hK : pK P σ) {s : Nat} (hs : s < 2 ^ pB P) (hn : pn_nb s (pB P) = pR P) {Post : lf_St → Prop} (hP : ∀ σ' T, cQ σ σ' → lf_gi σ' 7 = nI (pR P) → cPk P s σ' → (∀ i j, i < pR P → j < 2 * pR P → (T i j).toInt = cG P s i j) → Post (lf_tb σ' T)) : wp_X1_take (nI s) σ Post := by
  have h6 := pR_6 wf
  unfold wp_X1_take wp_X2_rows
  intro s2 e2
  have eR : (2 : Int32) * lf_gi σ 1 = nI (pR P) := by rw [hK.2.1, nu_2]; rfl
  rw [eR] at e2
  have q2 : cQ σ s2 := by rw [e2]; exact cQ_si (cQ_refl σ) (Or.inl rfl)
  have g7 : lf_gi s2 7 = nI (pR P) := by rw [e2]; rfl
  refine sc_list wf (cQ_pK q2 hK) g7 hs hn (fun s3 q3 g3 p3 => sc_clear h6 g3 (fun T hT => ?_))
  have z := pk_loop (fun fu k T => L_X1_take_22 Post fu (nI k) (lf_tb s3 T)) (fun k T => cTb P s k T) (pR P) 0 T (by omega) (fun i j hi hj => by
    rw [hT i j hi hj]
    by_cases q : j < pR P
    · rw [if_pos q, if_neg (by omega), if_neg (by omega)]
    · rw [if_neg q]) ?_ ?_
  · rw [nI_0] at z
    exact z
  · intro m T hT
    show L_X1_take_22 Post (m + 1) _ _
    unfold L_X1_take_22
    have : lf_gi (lf_tb s3 T) 7 = nI (pR P) := g3
    rw [this]
    refine ⟨fun _ => hP s3 T (cQ_trans q2 q3) g3 p3 (fun i j hi hj => ?_), fun h => absurd (nI_le (Nat.le_refl _) (by omega)) h⟩
    rw [hT i j hi hj]
    unfold cG
    by_cases q : j < pR P
    · rw [if_pos q, if_pos q, if_pos q]; rfl
    · rw [if_neg q, if_neg q]
  · intro m k T hk hT ih
    show L_X1_take_22 Post (m + 1) _ _
    unfold L_X1_take_22
    have : lf_gi (lf_tb s3 T) 7 = nI (pR P) := g3
    rw [this]
    refine ⟨fun h => absurd h (nI_ge hk (by omega)), fun _ => sc_fill wf (cQ_pK (cQ_trans q2 q3) hK) g3 hn p3 hk hT (fun T' hT' v e => ?_)⟩
    rw [e, nI_1]
    exact ih T' hT'
