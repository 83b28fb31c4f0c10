/-! THE CLASS TRIES A SET OF BARS: its pulls -/
theorem ld_at {P : pn_T} {σ : lf_St} (wf : pwf P) (hK : pK P σ) {r : Nat} : ∀ {k : Nat}, k ≤ pJ P → r < pW P k → (lf_ai σ 5 r).toInt = - pn_ld P k r
  | 0, _, h => absurd h (Nat.not_lt_zero r)
  | k + 1, hk, h => by
    have ih := ld_at wf hK (r := r) (k := k) (by omega)
    show _ = - (if pE P k = false ∧ r = pW P k then - pU P k else if pE P k = false ∧ r = pW P k + 1 then - pV P k else pn_ld P k r)
    obtain ⟨-, -, wu, wv, -⟩ := wf.2.2.2.2.2.1 k (by omega)
    obtain ⟨-, -, -, q⟩ := hK.2.2.2.2.2.1 k (by omega)
    cases e : pE P k
    · obtain ⟨q1, q2⟩ := q e
      rw [pW_free e] at h
      by_cases e1 : r = pW P k
      · rw [if_pos ⟨rfl, e1⟩, e1, q1, nu_ofN (by omega)]
        omega
      · rw [if_neg (fun z => e1 z.2)]
        by_cases e2 : r = pW P k + 1
        · rw [if_pos ⟨rfl, e2⟩, e2, q2, nu_ofN (by omega)]
          omega
        · rw [if_neg (fun z => e2 z.2)]
          exact ih (by omega)
    · rw [pW_fix e] at h
      rw [if_neg (fun z => Bool.noConfusion z.1), if_neg (fun z => Bool.noConfusion z.1)]
      exact ih h
theorem ld_row {P : pn_T} {σ : lf_St} (wf : pwf P) (hK : pK P σ) {r : Nat} (hr : r < pR P) : (lf_ai σ 5 r).toInt = - pL P r := ld_at wf hK (Nat.le_refl _) hr
/-- the inverse stands -/
def cV (P : pn_T) (s : Nat) (σ : lf_St) : Prop := lf_gi σ 7 = nI (pR P) ∧ cPk P s σ ∧ (∀ r c, r < pR P → c < pR P → dt_sm (fun t => (lf_al σ (32 + t) (pR P + c)).toInt * pA P s r t) (pR P) = if c = r then pbel P s else 0) ∧ ∀ t c, t < pR P → c < pR P → (lf_al σ (32 + t) (pR P + c)).toInt.natAbs ≤ 24 ^ 6
theorem pch_D {P : pn_T} {s : Nat} (h : pch P s = true) : pD P s ≠ 0 := by
  intro e
  rw [pch_no2 e] at h
  cases h
theorem pbe_sys {P : pn_T} {s : Nat} (h : pch P s = true) {r : Nat} (hr : r < pR P) : dt_sm (fun t => pbe P s t * pA P s r t) (pR P) = pbel P s * pL P r := by
  have hd := pch_D h
  have cr := dt_cramer (v := pL P) hd hr
  have e0 : dt_D (pR P) (pA P s) = pD P s := rfl
  unfold pbe pbel
  by_cases q : pD P s < 0
  · rw [dt_sm_congr (g := fun t => (-1) * (dt_D (pR P) (dt_uc (pA P s) t (pL P)) * pA P s r t)) (fun t _ => by rw [if_pos q]; grind), dt_sm_mul, cr, e0]
    have : ((pD P s).natAbs : Int) = - pD P s := by omega
    rw [this]
    grind
  · rw [dt_sm_congr (g := fun t => dt_D (pR P) (dt_uc (pA P s) t (pL P)) * pA P s r t) (fun t _ => by rw [if_neg q]), cr, e0]
    have : ((pD P s).natAbs : Int) = pD P s := by omega
    rw [this]
theorem pv_sys {P : pn_T} {s : Nat} {σ : lf_St} (hV : cV P s σ) (v : Nat → Int) {r : Nat} (hr : r < pR P) : dt_sm (fun t => dt_sm (fun c => (lf_al σ (32 + t) (pR P + c)).toInt * v c) (pR P) * pA P s r t) (pR P) = pbel P s * v r := by
  rw [dt_sm_congr (g := fun t => dt_sm (fun c => v c * ((lf_al σ (32 + t) (pR P + c)).toInt * pA P s r t)) (pR P)) (fun t _ => by
    rw [Int.mul_comm, ← dt_sm_mul]
    exact dt_sm_congr (fun c _ => by grind)), dt_sm_swap, dt_sm_congr (g := fun c => v c * (if c = r then pbel P s else 0)) (fun c hc => by rw [dt_sm_mul, hV.2.2.1 r c hr hc]), dt_sm_one hr (fun j _ e => by rw [if_neg e, Int.mul_zero]), if_pos rfl, Int.mul_comm]
theorem pv_top {P : pn_T} {s : Nat} {σ : lf_St} (hc : pch P s = true) (hV : cV P s σ) {i : Nat} (hi : i < pR P) : dt_sm (fun c => (lf_al σ (32 + i) (pR P + c)).toInt * pL P c) (pR P) = pbe P s i := by
  have z := dt_uniq (n := pR P) (M := pA P s) (z := fun t => dt_sm (fun c => (lf_al σ (32 + t) (pR P + c)).toInt * pL P c) (pR P) - pbe P s t) (pch_D hc) (fun r hr => by
    rw [dt_sm_lin (a := 1) (b := -1) (g := fun t => dt_sm (fun c => (lf_al σ (32 + t) (pR P + c)).toInt * pL P c) (pR P) * pA P s r t) (h := fun t => pbe P s t * pA P s r t) (fun t _ => by grind), pv_sys hV _ hr, pbe_sys hc hr]
    omega) i hi
  have z2 : dt_sm (fun c => (lf_al σ (32 + i) (pR P + c)).toInt * pL P c) (pR P) - pbe P s i = 0 := z
  omega
theorem sc_takePull {P : pn_T} {s : Nat} {σ : lf_St} (wf : pwf P) (hc : pch P s = true) (hK : pK P σ) (hV : cV P s σ) {i : Nat} (hi : i < pR P) {Post : lf_St → Prop} (h0 : pbe P s i = 0 → ∀ v : Int64, v.toInt = pbe P s i → Post (lf_sb σ 31 (pn_bi s (pB P) i) v))
    (h1 : pbe P s i ≠ 0 → ∀ v : Int64, v.toInt = pbe P s i → Post (lf_si (lf_si (lf_sb σ 31 (pn_bi s (pB P) i) v) 44 (lf_gi σ 44 ||| nI (2 ^ pn_bi s (pB P) i))) 54 (lf_gi σ 54 ||| nI (2 ^ pF P (pn_bi s (pB P) i) ||| 2 ^ pT P (pn_bi s (pB P) i))))) : wp_X4_takePull (nI i) σ Post := by
  have h6 := pR_6 wf
  have hB := wf.2.1
  have hJ := wf.1
  have hn := pch_nb hc
  obtain ⟨b, hb, -, -, hbk⟩ := bi_ex (show i < pn_nb s (pB P) by omega)
  obtain ⟨f1, f2, f3⟩ := wf.2.2.2.2.2.2.2.1 b hb
  obtain ⟨k6, k7, -⟩ := hK.2.2.2.2.2.2.1 b hb
  have vi : vp_in (nI i) 6 := vp_in_nI (by omega) (by omega)
  have vb : vp_in (nI b) 10 := vp_in_nI (by omega) (by omega)
  have hL : ∀ r, (pL P r).natAbs ≤ 20 := fun r => pn_ld_abs wf r (Nat.le_refl _)
  have hbd : ∀ k, k ≤ pR P → (dt_sm (fun c => (lf_al σ (32 + i) (pR P + c)).toInt * pL P c) k).natAbs ≤ k * 3822059520 := fun k hk => Nat.le_trans (dt_sm_abs (g := fun _ => 3822059520) (fun j hj => nu_natAbs_mul (S := 191102976) (T := 20) (hV.2.2.2 i j hi (by omega)) (hL j))) (sn_const (fun _ _ => Nat.le_refl _))
  unfold wp_X4_takePull
  have z := pk_loop (σ := Int64) (fun fu c x => L_X4_takePull_5 Post fu (nI i) x (nI c) σ) (fun c x => x.toInt = dt_sm (fun c => (lf_al σ (32 + i) (pR P + c)).toInt * pL P c) c) (pR P) 0 0 (by omega) rfl ?_ ?_
  · rw [nI_0] at z
    exact z
  · intro m x hx
    show L_X4_takePull_5 Post (m + 1) _ _ _ _
    unfold L_X4_takePull_5
    rw [hV.1, nu_cl (by omega)]
    have ex : x.toInt = pbe P s i := hx.trans (pv_top hc hV hi)
    refine ⟨fun _ => ⟨vi, fun v3 e3 => ?_⟩, fun h => absurd (nI_le (Nat.le_refl _) (by omega)) h⟩
    rw [hV.2.1 i hi, hbk] at e3
    rw [e3, nu_cl (by omega)]
    rw [hbk] at h0 h1
    refine ⟨vb, fun q => ?_, fun q σ6 e6 σ7 e7 => ⟨vb, vb, ?_⟩⟩
    · exact h0 (by rw [← ex]; exact nu_l0.mp q) x ex
    · have q2 := h1 (fun q3 => q (nu_l0.mpr (by rw [ex]; exact q3))) x ex
      have g6 : lf_ai σ7 6 = lf_ai σ 6 := by rw [e7, e6]; rfl
      have g7 : lf_ai σ7 7 = lf_ai σ 7 := by rw [e7, e6]; rfl
      have g54 : lf_gi σ7 (50 + 4) = lf_gi σ 54 := by rw [e7, st_gi_si_ne (by decide), e6]; rfl
      rw [g6, g7, k6, k7, g54, bt_shl (by omega), bt_shl (by omega), bt_or, e7, e6, bt_shl (by omega)]
      exact q2
  · intro m c x hcl hx ih
    show L_X4_takePull_5 Post (m + 1) _ _ _ _
    unfold L_X4_takePull_5 wp_X1_at
    rw [hV.1, nI_add, nu_cl (by omega), nu_cl (by omega), nu_cl (by omega)]
    refine ⟨fun h => absurd h (nI_ge hcl (by omega)), fun _ => ⟨vi, vp_in_nI (by omega) (by omega), vp_in_nI (by omega) (by omega), fun v12 e12 v13 e13 => ?_⟩⟩
    rw [e13, nI_1]
    refine ih v12 ?_
    have eL := ld_row wf hK hcl
    have l20 := hL c
    have t20 : (lf_al σ (32 + i) (pR P + c)).toInt.natAbs ≤ 191102976 := hV.2.2.2 i c hi hcl
    have b1 := hbd c (by omega)
    have hm := nu_mul64 (S := 191102976) (T := 20) (rfl : (lf_al σ (32 + i) (pR P + c)).toInt = _) (nu_n64 eL) t20 (by omega) (by decide)
    have hmb : ((lf_al σ (32 + i) (pR P + c)).toInt * - pL P c).natAbs ≤ 3822059520 := nu_natAbs_mul (S := 191102976) (T := 20) t20 (by omega)
    rw [e12, nu_sub64 (S := 22932357120) (T := 3822059520) hx hm (by omega) hmb (by decide)]
    show _ = dt_sm _ c + _
    grind
/-- the trial, as far as place i -/
def cTi (P : pn_T) (s i : Nat) (σ : lf_St) : Prop := lf_gi σ 34 = nI s ∧ (lf_gl σ 24).toInt = pbel P s ∧ (∃ m, lf_gi σ 44 = nI m ∧ uB P s i m) ∧ (∃ m, lf_gi σ 54 = nI m ∧ uJ P s i m) ∧ ∀ b, b < pB P → (lf_al σ 31 b).toInt = if pn_nb s b < i then ppu P s b else 0
def cT (P : pn_T) (s : Nat) (σ : lf_St) : Prop := lf_gi σ 34 = nI s ∧ (lf_gl σ 24).toInt = pbel P s ∧ lf_gi σ 44 = nI (pub P s (pB P)) ∧ lf_gi σ 54 = nI (puj P s (pB P)) ∧ ∀ b, b < pB P → (lf_al σ 31 b).toInt = ppu P s b
theorem cTi_end {P : pn_T} {s : Nat} {σ : lf_St} (hc : pch P s = true) (h : cTi P s (pR P) σ) : cT P s σ := by
  obtain ⟨a1, a2, ⟨m, a3, u3⟩, ⟨m', a4, u4⟩, a5⟩ := h
  have hn := pch_nb hc
  rw [← hn] at u3 u4
  refine ⟨a1, a2, by rw [a3, uB_end u3], by rw [a4, uJ_end u4], fun b hb => ?_⟩
  rw [a5 b hb]
  by_cases q : s.testBit b = true
  · have := nb_lt q hb
    rw [if_pos (by omega)]
  · have : ppu P s b = 0 := if_neg q
    rw [this]
    split <;> rfl
theorem sc_fillPulls {σ : lf_St} {Post : lf_St → Prop} (hP : ∀ f, (∀ b, b < 10 → f b = 0) → Post (lf_sB σ 31 f)) : wp_J7_fill_d0a16 0 σ Post := by
  unfold wp_J7_fill_d0a16
  have z := pk_loop (fun fu b f => L_J7_fill_d0a16_6 Post fu 0 (nI b) 10 (lf_sB σ 31 f)) (fun b f => ∀ k, k < b → f k = 0) 10 0 (lf_al σ 31) (by omega) (fun k h => absurd h (Nat.not_lt_zero k)) ?_ ?_
  · rw [nI_0, st_sB_id] at z
    exact z
  · intro m f hf
    show L_J7_fill_d0a16_6 Post (m + 1) _ _ _ _
    unfold L_J7_fill_d0a16_6
    exact ⟨fun _ => hP f hf, fun h => absurd (by decide) h⟩
  · intro m b f hb hf ih
    show L_J7_fill_d0a16_6 Post (m + 1) _ _ _ _
    unfold L_J7_fill_d0a16_6
    have e10 : (10 : Int32) = nI 10 := rfl
    rw [nu_cl (by omega), e10]
    refine ⟨fun h => absurd h (nI_ge hb (by omega)), fun _ => ⟨vp_in_nI (by omega) (by omega), fun v3 e3 => ?_⟩⟩
    rw [e3, nI_1]
    have := ih (vp_updL f b 0) (fun k hk => by
      by_cases q : k = b
      · rw [q]; exact pk_uLs
      · rw [pk_uLn q]; exact hf k (by omega))
    rw [← st_sb_sB] at this
    exact this
theorem cG_cb {P : pn_T} (wf : pwf P) {s : Nat} (hn : pn_nb s (pB P) = pR P) : dt_cb (cG P s) (pR P) 0 1 24 := by
  have key : ∀ c, dt_sn (fun r => (cG P s r c).natAbs) (pR P) ≤ 24 := by
    intro c
    by_cases q : c < pR P
    · rw [dt_sn_congr (g := fun r => (pA P s r c).natAbs) (fun r _ => by unfold cG; rw [if_pos q])]
      exact pA_cb wf hn c
    · refine Nat.le_trans (dt_sn_le (g := fun r => if r = c - pR P then 1 else 0) (fun r hr => ?_)) (Nat.le_trans (sn_ind2 (c - pR P) 1 _) (by decide))
      unfold cG
      rw [if_neg q]
      by_cases e : c = pR P + r
      · rw [if_pos e]
        show 1 ≤ (if r = c - pR P then 1 else 0)
        rw [if_pos (by omega)]
        decide
      · rw [if_neg e]
        exact Nat.zero_le _
  intro c
  have := key c
  split <;> omega
theorem cG_D {P : pn_T} {s : Nat} : dt_D (pR P) (cG P s) = pD P s := dt_D_congr (fun r c _ hc => by unfold cG; rw [if_pos hc])
theorem cQ_sB {a b : lf_St} {f : Nat → Int64} (h : cQ a b) : cQ a (lf_sB b 31 f) := ⟨h.1, h.2.1, h.2.2.1, fun i p => by rw [st_al_sB_ne (by omega)]; exact h.2.2.2 i p⟩
def cI (a b : lf_St) : Prop := lf_gi b 7 = lf_gi a 7 ∧ lf_ai b 17 = lf_ai a 17 ∧ ∀ t, lf_al b (32 + t) = lf_al a (32 + t)
theorem cI_V {P : pn_T} {s : Nat} {a b : lf_St} (h : cI a b) (hV : cV P s a) : cV P s b := by
  obtain ⟨h1, h2, h3⟩ := h
  unfold cV cPk at hV ⊢
  rw [h1, h2]
  refine ⟨hV.1, hV.2.1, fun r c hr hc => ?_, fun t c ht hc => ?_⟩
  · rw [← hV.2.2.1 r c hr hc]
    exact dt_sm_congr (fun t _ => by rw [h3 t])
  · rw [h3 t]
    exact hV.2.2.2 t c ht hc
theorem cTi_al {P : pn_T} {s i : Nat} (hi : i < pn_nb s (pB P)) {f : Nat → Int64} (hf : ∀ b, b < pB P → (f b).toInt = if pn_nb s b < i then ppu P s b else 0) {v : Int64} (hv : v.toInt = pbe P s i) : ∀ b, b < pB P → (vp_updL f (pn_bi s (pB P) i) v b).toInt = if pn_nb s b < i + 1 then ppu P s b else 0 := by
  intro b hb
  obtain ⟨b0, hb0, t0, n0, e0⟩ := bi_ex hi
  by_cases q : b = pn_bi s (pB P) i
  · rw [q, pk_uLs, hv, e0, n0, if_pos (by omega), ← e0, ppu_bi hi]
  · rw [pk_uLn q, hf b hb]
    by_cases q2 : pn_nb s b < i
    · rw [if_pos q2, if_pos (by omega)]
    · rw [if_neg q2]
      by_cases q3 : pn_nb s b = i
      · have : ppu P s b = 0 := if_neg (fun t => q (by rw [← q3]; exact (bi_of t hb).symm))
        rw [this]
        split <;> rfl
      · rw [if_neg (by omega)]
theorem sc_tryBars {P : pn_T} {σ : lf_St} (wf : pwf P) (hK : pK P σ) {s : Nat} (hs : s < 2 ^ pB P) (hn : pn_nb s (pB P) = pR P) {Post : Int32 → lf_St → Prop} (h0 : pch P s = false → ∀ σ', cQ σ σ' → Post 0 σ') (h1 : pch P s = true → ∀ σ', cQ σ σ' → cT P s σ' → cV P s σ' → Post 1 σ') : wp_X4_tryBars (nI s) σ Post := by
  have h6 := pR_6 wf
  unfold wp_X4_tryBars
  refine sc_take wf hK hs hn (fun σ1 T q1 g7 pk hT => ?_)
  refine ci_inv (n := pR P) (G0 := cG P s) g7 h6 (cG_cb wf hn) hT (fun hz T' => ⟨fun h => absurd rfl h, fun _ => h0 (pch_no2 (by rw [← cG_D]; exact hz)) _ (cQ_tb q1)⟩) (fun hnz T' b eb sys bd => ⟨fun _ σ4 e4 σ5 e5 => ?_, fun h => absurd h (by decide)⟩)
  rw [cG_D] at hnz eb
  have hc : pch P s = true := pch_yes hn hnz
  refine sc_fillPulls (fun f hf => ?_)
  have hA : ∀ t, t < 6 → lf_al (lf_sB σ5 31 f) (32 + t) = T' t := by
    intro t ht
    rw [st_al_sB_ne (by omega), e5, e4]
    exact tb_al ht
  have Q0 : cQ σ (lf_sB σ5 31 f) := by
    rw [e5, e4]
    exact cQ_sB (cQ_si (cQ_si (cQ_sl (cQ_si (cQ_tb (cQ_sl q1 (Or.inl rfl))) (Or.inr (Or.inl rfl))) (Or.inr rfl)) (Or.inr (Or.inr (Or.inl rfl)))) (Or.inr (Or.inr (Or.inr rfl))))
  have V0 : cV P s (lf_sB σ5 31 f) := by
    refine ⟨?_, ?_, fun r c hr hc => ?_, fun t c ht hc => ?_⟩
    · rw [e5, e4]; exact g7
    · rw [e5, e4]; exact pk
    · have q := sys r c hr hc
      have eG : cG P s r (pR P + c) = if c = r then 1 else 0 := by
        unfold cG
        rw [if_neg (by omega)]
        by_cases e : c = r
        · rw [if_pos (by omega), if_pos e]
        · rw [if_neg (by omega), if_neg e]
      rw [eG, eb] at q
      rw [dt_sm_congr (g := fun t => (T' t (pR P + c)).toInt * cG P s r t) (fun t ht => by rw [hA t (by omega)]; unfold cG; rw [if_pos ht]), q]
      split
      · rw [Int.mul_one]; rfl
      · rw [Int.mul_zero]
    · rw [hA t (by omega)]
      exact bd t c ht hc
  have T0 : cTi P s 0 (lf_sB σ5 31 f) := by
    refine ⟨by rw [e5, e4]; rfl, ?_, ⟨0, by rw [e5, e4]; rfl, uB_0 P s⟩, ⟨0, by rw [e5, e4]; rfl, uJ_0 P s⟩, fun b hb => ?_⟩
    · rw [e5, e4]
      exact eb
    · rw [st_al_sB, hf b (by have := wf.2.1; omega), if_neg (Nat.not_lt_zero _)]
      rfl
  have z := pk_loop (fun fu i (t : lf_St) => L_X4_tryBars_71 Post fu (nI i) t) (fun i t => cQ σ t ∧ cTi P s i t ∧ cV P s t) (pR P) 0 (lf_sB σ5 31 f) (by omega) ⟨Q0, T0, V0⟩ ?_ ?_
  · rw [nI_0] at z
    exact z
  · intro m t ⟨a1, a2, a3⟩
    show L_X4_tryBars_71 Post (m + 1) _ _
    unfold L_X4_tryBars_71
    rw [a3.1]
    exact ⟨fun _ => h1 hc t a1 (cTi_end hc a2) a3, fun h => absurd (nI_le (Nat.le_refl _) (by omega)) h⟩
  · intro m i t hi ⟨a1, ⟨b1, b2, ⟨mb, b3, u3⟩, ⟨mj, b4, u4⟩, b5⟩, a3⟩ ih
    show L_X4_tryBars_71 Post (m + 1) _ _
    unfold L_X4_tryBars_71
    rw [a3.1]
    have hi2 : i < pn_nb s (pB P) := by omega
    refine ⟨fun h => absurd h (nI_ge hi (by omega)), fun _ => sc_takePull wf hc (cQ_pK a1 hK) a3 hi (fun hz v ev v3 e3 => ?_) (fun hz v ev v3 e3 => ?_)⟩
    · rw [e3, nI_1]
      refine ih _ ⟨cQ_sb a1, ⟨b1, b2, ⟨mb, b3, uB_skip u3 hi2 hz⟩, ⟨mj, b4, uJ_skip u4 hi2 hz⟩, ?_⟩, cI_V (a := t) ⟨rfl, rfl, fun k => st_al_sb_ne (σ := t) (k := 31) (by omega)⟩ a3⟩
      rw [st_al_sb]
      exact cTi_al hi2 b5 ev
    · rw [e3, nI_1]
      refine ih _ ⟨cQ_si (cQ_si (cQ_sb a1) (Or.inr (Or.inr (Or.inl rfl)))) (Or.inr (Or.inr (Or.inr rfl))), ⟨b1, b2, ⟨_, ?_, uB_add u3 hi2 hz⟩, ⟨_, ?_, uJ_add u4 hi2 hz⟩, ?_⟩, cI_V (a := t) ⟨rfl, rfl, fun k => st_al_sb_ne (σ := t) (k := 31) (by omega)⟩ a3⟩
      · rw [st_gi_si_ne (by decide), st_gi_si, b3, bt_or]
      · rw [st_gi_si, b4, bt_or]
      · show ∀ b, b < pB P → (lf_al (lf_sb t 31 _ _) 31 b).toInt = _
        rw [st_al_sb]
        exact cTi_al hi2 b5 ev
