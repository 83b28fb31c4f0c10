/-! THE MODEL PROVES -/
def mY (a b : lf_St) : Prop := (∀ k, lf_gi b k = lf_gi a k) ∧ (∀ k, k ≠ 25 → lf_gl b k = lf_gl a k) ∧ ∀ k, lf_ai b k = lf_ai a k
theorem mY_R {P : pn_T} {κ : mk_T} {a b : lf_St} (h : mY a b) (hR : mR P κ a) : mR P (κ.1, κ.2.1, κ.2.2.1, lf_gl b 25, lf_al b 24) b := by
  obtain ⟨h1, h2, h3⟩ := h
  obtain ⟨⟨m1, m2, m3, m4, m5, m6⟩, m7, m8⟩ := hR
  refine ⟨⟨?_, by rw [h1]; exact m2, by rw [h2 22 (by decide)]; exact m3, by rw [h2 23 (by decide)]; exact m4, rfl, rfl⟩, by rw [h1]; exact m7, ?_⟩
  · unfold pM at m1 ⊢
    rw [h1 0, h1 6, h1 9, h1 11, h3 1, h3 2, h3 3, h3 4, h3 5, h3 7, h3 8, h3 10]
    exact m1
  · unfold mRo
    rw [h3 13]
    exact m8
theorem sp_isGood {P : pn_T} {κ : mk_T} {τ : lf_St} (wf : pwf P) (hR : mR P κ τ) {s g : Nat} (hs : s < 2 ^ pB P) (hc : pch P s = true) (hg : g < 64) {Post : Int32 → lf_St → Prop} (h0 : ¬ pgood P s g → ∀ τ' a b, mR P (κ.1, κ.2.1, κ.2.2.1, a, b) τ' → Post 0 τ') (h1 : pgood P s g → ∀ τ' a b, mR P (κ.1, κ.2.1, κ.2.2.1, a, b) τ' → a.toInt = pbel P s → (∀ r, r < pR P → (b r).toInt = pff P s g r) → Post 1 τ') : wp_X6_isGood (nI s) (nI g) τ Post := by
  have hB := wf.2.1
  have h6 := pR_6 wf
  have hn := pch_nb hc
  have hl := pbel_le wf hn
  have hab := pN_abs (P := P) (s := s)
  rw [pbel_nat] at hl
  unfold wp_X6_isGood
  refine sp_isChoice wf hR hs (fun h => by rw [hc] at h; cases h) (fun _ τ1 hR1 hC => ?_)
  have stD : ∀ t0 : lf_St, mY τ1 t0 → mRw P s (pR P) (lf_al t0 15) → (∀ i, i < pR P → (lf_al t0 17 i).toInt = pwt P s g i) → wp_X6_determinant (-1) t0 (fun r2 σ2 => ∃ fu : Nat, L_X6_isGood_352 Post fu 1 r2 0 σ2) := by
    intro t0 y0 hrw hwt
    have cells : ∀ i j, i < pR P → j < pR P → (lf_al t0 15 (6 * i + j)).toInt = pN P s i j := by
      intro i j hi hj
      have := hrw i j (by omega) (by omega)
      rw [if_pos hi] at this
      exact this
    refine rd_det (n := pR P) (S := 12) (U := 36) (s := 0) (Mt := pN P s) (mY_R y0 hR1).2.1 h6 (by decide) (by decide) (by decide) (pN_cb1 wf hn) (fun i j hi hj => ⟨fun q => absurd q (nu_nm1 (by omega)), fun _ => cells i j hi hj⟩) (fun w v ev => ?_)
    have ev2 : v.toInt = dt_D (pR P) (pN P s) := by rw [ev]; exact nu_63 (by omega)
    have z := pk_loop (fun fu i (t : lf_St) => L_X6_isGood_352 Post fu 1 v (nI i) t) (fun i t => mY τ1 t ∧ lf_al t 15 = lf_al t0 15 ∧ lf_al t 17 = lf_al t0 17 ∧ ∀ k, k < i → (lf_al t 24 k).toInt = pff P s g k) (pR P) 0 (lf_sB t0 16 w) (by omega) ⟨y0, rfl, rfl, fun k h => absurd h (Nat.not_lt_zero k)⟩ ?_ ?_
    · rw [nI_0] at z
      exact z
    · intro m t ⟨a1, a2, a3, a4⟩
      show L_X6_isGood_352 Post (m + 1) _ _ _ _
      unfold L_X6_isGood_352
      rw [(mY_R a1 hR1).2.1]
      refine ⟨fun _ => sp_abs ev2 (by omega) (fun r2 e2 => ?_), fun h => absurd (nI_le (Nat.le_refl _) (by omega)) h⟩
      have a5 : mY τ1 (lf_sl t 25 r2) := ⟨a1.1, fun k hk => by rw [st_gl_sl_ne hk]; exact a1.2.1 k hk, a1.2.2⟩
      have e3 : (lf_gl (lf_sl t 25 r2) 25).toInt = pbel P s := by rw [st_gl_sl, e2, hab]; rfl
      refine sp_goodBars (g := g) wf (mY_R a5 hR1) hc (pff_fd hc g) a4 e3 (fun hno => h0 hno _ _ _ (mY_R a5 hR1)) (fun hy => h1 hy _ _ _ (mY_R a5 hR1) e3 a4)
    · intro m i t hi ⟨a1, a2, a3, a4⟩ ih
      show L_X6_isGood_352 Post (m + 1) _ _ _ _
      unfold L_X6_isGood_352
      rw [(mY_R a1 hR1).2.1]
      refine ⟨fun h => absurd h (nI_ge hi (by omega)), fun _ => rd_det (n := pR P) (S := 12) (U := 36) (s := i) (Mt := dt_uc (pN P s) i (pwt P s g)) (mY_R a1 hR1).2.1 h6 (by decide) (by decide) (by decide) (pN_cb2 wf hn g i) (fun r j hr hj => ⟨fun q => ?_, fun q => ?_⟩) (fun w2 u eu => ?_)⟩
      · have : j = i := (nI_eq (by omega) (by omega)).mp q
        unfold dt_uc
        rw [if_pos this, a3]
        exact hwt r hr
      · unfold dt_uc
        rw [if_neg (fun z => q (by rw [z])), a2]
        exact cells r j hr hj
      · have hle := pff_le0 wf hn g i
        have eu2 : u.toInt = dt_D (pR P) (dt_uc (pN P s) i (pwt P s g)) := by rw [eu]; exact nu_63 (by omega)
        have nx : ∀ u' : Int64, u'.toInt = pff P s g i → ∀ v6 : Int32, v6 = nI i + 1 → L_X6_isGood_352 Post m 1 v v6 (lf_sb (lf_sB t 16 w2) 24 i u') := by
          intro u' eu' v6 e6
          rw [e6, nI_1]
          refine ih _ ⟨a1, a2, a3, fun k hk => ?_⟩
          rw [st_al_sb]
          by_cases q : k = i
          · rw [q, pk_uLs]; exact eu'
          · rw [pk_uLn q]; exact a4 k (by omega)
        have vi : vp_in (nI i) 6 := vp_in_nI (by omega) (by omega)
        rw [nu_le64, nu_z64, ev2, nu_cl (by omega)]
        refine ⟨fun q => ⟨vi, nx u ?_⟩, fun q => ⟨vi, nx (-u) ?_⟩⟩
        · unfold pff
          rw [if_neg (by omega)]
          exact eu2
        · unfold pff
          rw [if_pos (by omega), nu_neg64 eu2 (by omega)]
  have stC : ∀ t0 : lf_St, mY τ1 t0 → mRw P s 0 (lf_al t0 15) → (∀ i, i < pR P → (lf_al t0 17 i).toInt = pwt P s g i) → ∃ fu : Nat, L_X6_isGood_159 Post fu 1 0 t0 := by
    intro t0 y0 hrw hwt
    have hR0 := mY_R y0 hR1
    have hp0 : mPk P s t0 := by
      unfold mPk
      rw [y0.2.2 19]
      exact hC.2.2
    have z := pk_loop (fun fu k (h : Nat → Int64) => L_X6_isGood_159 Post fu 1 (nI k) (lf_sB t0 15 h)) (fun k h => mRw P s k h) (pR P) 0 (lf_al t0 15) (by omega) hrw ?_ ?_
    · rw [nI_0, st_sB_id] at z
      exact z
    · intro m h hh
      show L_X6_isGood_159 Post (m + 1) _ _ _
      unfold L_X6_isGood_159
      have g14 : lf_gi (lf_sB t0 15 h) 14 = nI (pR P) := hR0.2.1
      rw [g14]
      exact ⟨fun _ => stD _ y0 hh hwt, fun h => absurd (nI_le (Nat.le_refl _) (by omega)) h⟩
    · intro m k h hk hh ih
      show L_X6_isGood_159 Post (m + 1) _ _ _
      unfold L_X6_isGood_159
      obtain ⟨b, hb, -, -, hbk⟩ := bi_ex (show k < pn_nb s (pB P) by omega)
      have g14 : lf_gi (lf_sB t0 15 h) 14 = nI (pR P) := hR0.2.1
      have g19 : lf_ai (lf_sB t0 15 h) 19 k = nI b := by rw [← hbk]; exact hp0 k hk
      have g7 : lf_ai (lf_sB t0 15 h) 7 b = nI (pF P b) := (hR0.1.1.2.2.2.2.2.1 b hb).1
      have g8 : lf_ai (lf_sB t0 15 h) 8 b = nI (pT P b) := (hR0.1.1.2.2.2.2.2.1 b hb).2
      rw [g14, nu_cl (n := k) (by omega), g19, nu_cl (n := b) (by omega), g7, g8]
      refine ⟨fun h => absurd h (nI_ge hk (by omega)), fun _ => ⟨vp_in_nI (by omega) (by omega), vp_in_nI (by omega) (by omega), fun v5 e5 => ⟨vp_in_nI (by omega) (by omega), vp_in_nI (by omega) (by omega), fun v8 e8 => ?_⟩⟩⟩
      exact sp_row wf hR0 (by omega) hb hbk hh ih e5 e8
  have stB : ∀ t0 : lf_St, mY τ1 t0 → (∀ i, i < pR P → (lf_al t0 17 i).toInt = pwt P s g i) → ∃ fu : Nat, L_X6_isGood_135 Post fu 1 0 t0 := by
    intro t0 y0 hwt
    have z := pk_loop (fun fu k (h : Nat → Int64) => L_X6_isGood_135 Post fu 1 (nI k) (lf_sB t0 15 h)) (fun k h => ∀ i, i < k → h i = 0) 36 0 (lf_al t0 15) (by omega) (fun i h => absurd h (Nat.not_lt_zero i)) ?_ ?_
    · rw [nI_0, st_sB_id] at z
      exact z
    · intro m h hh
      show L_X6_isGood_135 Post (m + 1) _ _ _
      unfold L_X6_isGood_135
      refine ⟨fun _ => stC _ y0 (fun i c hi hc => ?_) hwt, fun h => absurd (nI_le (a := 36) (b := 36) (Nat.le_refl _) (by omega)) h⟩
      rw [if_neg (by omega), st_al_sB, hh _ (by omega)]
      rfl
    · intro m k h hk hh ih
      show L_X6_isGood_135 Post (m + 1) _ _ _
      unfold L_X6_isGood_135
      refine ⟨fun h => absurd h (nI_ge (b := 36) hk (by omega)), fun _ => ⟨vp_in_nI (by omega) (by omega), fun v e => ?_⟩⟩
      rw [e, nI_1, nu_cl (by omega), st_sb_sB]
      refine ih _ (fun i hi => ?_)
      by_cases q : i = k
      · rw [q, pk_uLs]
      · rw [pk_uLn q]; exact hh i (by omega)
  have z := pk_loop (fun fu i (w : Nat → Int64) => L_X6_isGood_12 Post fu (nI g) 1 (nI (pn_us P s i)) (nI i) (lf_sB τ1 17 w)) (fun i w => ∀ k, k < i → (w k).toInt = pwt P s g k) (pR P) 0 (lf_al τ1 17) (by omega) (fun k h => absurd h (Nat.not_lt_zero k)) ?_ ?_
  · rw [st_sB_id] at z
    exact z
  · intro m w hw
    show L_X6_isGood_12 Post (m + 1) _ _ _ _ _
    unfold L_X6_isGood_12
    have g14 : lf_gi (lf_sB τ1 17 w) 14 = nI (pR P) := hR1.2.1
    rw [g14]
    exact ⟨fun _ => stB _ ⟨fun _ => rfl, fun _ _ => rfl, fun _ => rfl⟩ (by rw [st_al_sB]; exact hw), fun h => absurd (nI_le (Nat.le_refl _) (by omega)) h⟩
  · intro m i w hi hw ih
    show L_X6_isGood_12 Post (m + 1) _ _ _ _ _
    unfold L_X6_isGood_12
    obtain ⟨b, hb, hbit, hnb, hbk⟩ := bi_ex (show i < pn_nb s (pB P) by omega)
    have g14 : lf_gi (lf_sB τ1 17 w) 14 = nI (pR P) := hR1.2.1
    have g19 : lf_ai (lf_sB τ1 17 w) 19 i = nI b := by rw [← hbk]; exact hC.2.2 i hi
    have g21 : (lf_al (lf_sB τ1 17 w) 21 i).toInt = pbe P s i := hC.2.1 i hi
    have hM1 : pM P (lf_sB τ1 17 w) := hR1.1.1
    have hs' := pst_le wf hb
    have hus := us_le P s i
    have vi : vp_in (nI i) 6 := vp_in_nI (by omega) (by omega)
    rw [g14, nu_cl (n := i) (by omega), g19]
    refine ⟨fun h => absurd h (nI_ge hi (by omega)), fun _ => ⟨vi, sp_stuff wf hM1 hb (fun r3 e3 v4 e4 => ⟨vi, ?_⟩)⟩⟩
    have ev4 : v4.toInt = pst P b := by rw [e4]; exact nu_n64 e3
    have j103 : ∀ (t0 t1 x8 : Int32), t1 + t0 = nI (pn_us P s (i + 1)) → (x8 = 0 → pwt P s g i = pst P b) → (x8 ≠ 0 → pwt P s g i = - pst P b) → J_X6_isGood_103 (L_X6_isGood_12 Post m) Post (nI g) 1 (nI i) v4 x8 t0 t1 (lf_sB τ1 17 w) := by
      intro t0 t1 x8 et e0 e1 v1 ev1
      have st : ∀ u : Int64, u.toInt = pwt P s g i → ∀ v : Int32, v = nI i + 1 → L_X6_isGood_12 Post m (nI g) 1 v1 v (lf_sb (lf_sB τ1 17 w) 17 i u) := by
        intro u eu v ev
        rw [ev1, et, ev, nI_1, st_sb_sB]
        refine ih _ (fun k hk => ?_)
        by_cases q : k = i
        · rw [q, pk_uLs]; exact eu
        · rw [pk_uLn q]; exact hw k (by omega)
      rw [nu_cl (n := i) (by omega)]
      refine ⟨fun h => ⟨vi, st v4 (by rw [e0 h]; exact ev4)⟩, fun h => ⟨vi, st (-v4) (by rw [e1 h]; exact nu_neg64 ev4 (by omega))⟩⟩
    have j82 : ∀ t0 : Int32, (t0 = 0 → pwt P s g i = pst P b) → (t0 ≠ 0 → pwt P s g i = - pst P b) → J_X6_isGood_82 (L_X6_isGood_12 Post m) Post (nI g) 1 (nI (pn_us P s i)) (nI i) v4 t0 (lf_sB τ1 17 w) := by
      intro t0 e0 e1
      unfold J_X6_isGood_82
      rw [nu_cl (n := i) (by omega), nu_l0, g21]
      refine ⟨vi, fun q => j103 0 _ t0 ?_ e0 e1, fun q => j103 1 _ t0 ?_ e0 e1⟩
      · have eus : pn_us P s (i + 1) = pn_us P s i + 0 := by
          show pn_us P s i + (if pbe P s i = 0 then 1 else 0) = _
          rw [if_neg q]
        rw [eus]
        exact nI_add _ 0
      · have eus : pn_us P s (i + 1) = pn_us P s i + 1 := by
          show pn_us P s i + (if pbe P s i = 0 then 1 else 0) = _
          rw [if_pos q]
        rw [eus]
        exact nI_1 _
    rw [nu_l0, nu_le64, nu_z64, g21, bt_test1 (by omega) (by omega)]
    refine ⟨fun hne => ⟨vi, fun q => j82 0 (fun _ => ?_) (fun h => absurd rfl h), fun q => j82 1 (fun h => absurd h (by decide)) (fun _ => ?_)⟩, fun he => ⟨fun q => j82 0 (fun _ => ?_) (fun h => absurd rfl h), fun q => j82 1 (fun h => absurd h (by decide)) (fun _ => ?_)⟩⟩
    · rw [pwt_1 hbk hne, if_neg (by omega)]
    · rw [pwt_1 hbk hne, if_pos (by omega)]
    · rw [pwt_0 hbk he, if_neg q]
    · rw [pwt_0 hbk he, if_pos q]
theorem sp_unused {P : pn_T} {κ : mk_T} {τ : lf_St} (wf : pwf P) (hR : mR P κ τ) {s : Nat} (hC : mC P s τ) {Post : Int32 → lf_St → Prop} (hP : Post (nI (pn_us P s (pR P))) τ) : wp_X6_unused τ Post := by
  have h6 := pR_6 wf
  unfold wp_X6_unused
  have z := pk_loop (σ := Unit) (fun fu i _ => L_X6_unused_4 Post fu (nI (pn_us P s i)) (nI i) τ) (fun _ _ => True) (pR P) 0 () (by omega) trivial ?_ ?_
  · exact z
  · intro m _ _
    show L_X6_unused_4 Post (m + 1) _ _ _
    unfold L_X6_unused_4
    rw [hR.2.1]
    exact ⟨fun _ => hP, fun h => absurd (nI_le (Nat.le_refl _) (by omega)) h⟩
  · intro m i _ hi _ ih
    show L_X6_unused_4 Post (m + 1) _ _ _
    unfold L_X6_unused_4
    have ih' := ih () trivial
    have e1 : pn_us P s (i + 1) = pn_us P s i + (if pbe P s i = 0 then 1 else 0) := rfl
    rw [hR.2.1, nu_cl (by omega), mC_zero hC hi]
    refine ⟨fun h => absurd h (nI_ge hi (by omega)), fun _ => ⟨vp_in_nI (by omega) (by omega), fun q v4 e4 v5 e5 => ?_, fun q v6 e6 v7 e7 => ?_⟩⟩
    · rw [e1, if_neg q] at ih'
      rw [e4, e5, nI_1, show nI (pn_us P s i) + 0 = nI (pn_us P s i + 0) from nI_add _ 0]
      exact ih'
    · rw [e1, if_pos q] at ih'
      rw [e6, e7, nI_1, nI_1]
      exact ih'
/-- the next set of as many bars as rows, by codes -/
def pnx (P : pn_T) (n : Nat) (x : Int32) : Prop := (x = -6 ∧ ∀ c, c < n → pn_nb (pn_rev (pB P) c) (pB P) ≠ pR P) ∨ ∃ c, c < n ∧ x = nI (pn_rev (pB P) c) ∧ pn_nb (pn_rev (pB P) c) (pB P) = pR P ∧ ∀ c', c < c' → c' < n → pn_nb (pn_rev (pB P) c') (pB P) ≠ pR P
def pnG (P : pn_T) (n s : Nat) : Prop := pn_nb s (pB P) = pR P ∧ (n = 2 ^ pB P ∨ pah (pn_rev (pB P) n) s)
theorem pnG_iff {P : pn_T} {n c : Nat} (hn : n ≤ 2 ^ pB P) (hc : c < 2 ^ pB P) : pnG P n (pn_rev (pB P) c) ↔ pn_nb (pn_rev (pB P) c) (pB P) = pR P ∧ c < n := by
  unfold pnG
  constructor
  · intro ⟨h1, h2⟩
    refine ⟨h1, ?_⟩
    rcases h2 with e | h2
    · omega
    · rcases Nat.lt_trichotomy c n with q | q | q
      · exact q
      · rw [q] at h2; exact absurd h2 ah_irr
      · exact absurd (rev_ah _ hc q) (fun w => ah_anti w h2)
  · intro ⟨h1, h2⟩
    refine ⟨h1, ?_⟩
    by_cases e : n = 2 ^ pB P
    · exact Or.inl e
    · exact Or.inr (rev_ah _ (by omega) h2)
def pnI (P : pn_T) (n i : Nat) (x : Int32) : Prop := (x = -6 ∧ ∀ j, j < i → ¬ pnG P n j) ∨ ∃ t, t < i ∧ x = nI t ∧ pnG P n t ∧ ∀ j, j < i → pnG P n j → j = t ∨ pah t j
theorem pnI_end {P : pn_T} {n : Nat} {x : Int32} (hn : n ≤ 2 ^ pB P) (h : pnI P n (2 ^ pB P) x) : pnx P n x := by
  rcases h with ⟨h1, h2⟩ | ⟨t, h1, h2, h3, h4⟩
  · exact Or.inl ⟨h1, fun c hc e => h2 _ (rev_lt _ c) ((pnG_iff hn (by omega)).mpr ⟨e, hc⟩)⟩
  · obtain ⟨c, hc, ec⟩ := rev_ex _ h1
    rw [← ec] at h2 h3 h4
    obtain ⟨g1, g2⟩ := (pnG_iff hn hc).mp h3
    refine Or.inr ⟨c, g2, h2, g1, fun c' q1 q2 e => ?_⟩
    have hc' : c' < 2 ^ pB P := by omega
    have z := rev_ah (pB P) hc' q1
    rcases h4 _ (rev_lt _ c') ((pnG_iff hn hc').mpr ⟨e, q2⟩) with w | w
    · rw [w] at z; exact ah_irr z
    · exact ah_anti w z
theorem sp_after {P : pn_T} {κ : mk_T} {τ : lf_St} (wf : pwf P) (hR : mR P κ τ) {n : Nat} {x1 : Int32} (hn : n ≤ 2 ^ pB P) (hx : (x1 = -1 ∧ n = 2 ^ pB P) ∨ (x1 = nI (pn_rev (pB P) n) ∧ n < 2 ^ pB P)) {Post : Int32 → lf_St → Prop} (hP : ∀ x, pnx P n x → Post x τ) : wp_X6_after x1 τ Post := by
  have h10 := pow_1024 wf
  have hp0 := Nat.two_pow_pos (pB P)
  have hB := wf.2.1
  have h6 := pR_6 wf
  unfold wp_X6_after
  have z := pk_loop (σ := Int32) (fun fu i x => L_X6_after_5 Post fu x1 x (nI i) τ) (fun i x => pnI P n i x) (2 ^ pB P) 0 (-6) (by omega) (Or.inl ⟨rfl, fun j h => absurd h (Nat.not_lt_zero j)⟩) ?_ ?_
  · rw [nI_0] at z
    exact z
  · intro m x hI
    show L_X6_after_5 Post (m + 1) _ _ _ _
    unfold L_X6_after_5
    rw [hR.1.1.2.1, pow_shl wf]
    exact ⟨fun _ => hP x (pnI_end hn hI), fun h => absurd (nI_le (Nat.le_refl _) (by omega)) h⟩
  · intro m i x hi hI ih
    show L_X6_after_5 Post (m + 1) _ _ _ _
    unfold L_X6_after_5
    rw [hR.1.1.2.1, pow_shl wf]
    have hrl := rev_lt (pB P) n
    -- not good: as before
    have keep : ¬ pnG P n i → ∀ v : Int32, v = nI i + 1 → L_X6_after_5 Post m x1 x v τ := by
      intro hng v ev
      rw [ev, nI_1]
      refine ih x ?_
      rcases hI with ⟨e, q⟩ | ⟨t, q1, q2, q3, q4⟩
      · refine Or.inl ⟨e, fun j hj => ?_⟩
        by_cases w : j = i
        · rw [w]; exact hng
        · exact q j (by omega)
      · refine Or.inr ⟨t, by omega, q2, q3, fun j hj hG => ?_⟩
        by_cases w : j = i
        · rw [w] at hG; exact absurd hG hng
        · exact q4 j (by omega) hG
    have j32 : ∀ t0 : Int32, (t0 = 0 → ¬ (n = 2 ^ pB P ∨ pah (pn_rev (pB P) n) i)) → (t0 ≠ 0 → (n = 2 ^ pB P ∨ pah (pn_rev (pB P) n) i)) → J_X6_after_32 (L_X6_after_5 Post m) Post x1 x (nI i) t0 τ := by
      intro t0 e0 e1
      unfold J_X6_after_32
      refine sp_bits (by omega) ?_
      have e10 : pn_nb i 10 = pn_nb i (pB P) := by
        have := nb_up hi (10 - pB P)
        rw [show pB P + (10 - pB P) = 10 by omega] at this
        exact this
      have hle := nb_le i (pB P)
      rw [hR.2.1, e10, nI_eq (by omega) (by omega)]
      refine ⟨fun q => keep (fun z => q z.1), fun q => ⟨fun q0 => keep (fun z => e0 q0 z.2), fun q1 => ?_⟩⟩
      have hG : pnG P n i := ⟨q, e1 q1⟩
      rcases hI with ⟨e, w⟩ | ⟨t, w1, w2, w3, w4⟩
      · rw [e]
        refine ⟨fun _ v7 e7 => ?_, fun h => absurd nu_neg6 h⟩
        rw [e7, nI_1]
        refine ih _ (Or.inr ⟨i, by omega, rfl, hG, fun j hj hGj => ?_⟩)
        by_cases u : j = i
        · exact Or.inl u
        · exact absurd hGj (w j (by omega))
      · rw [w2]
        refine ⟨fun h => absurd h (nI_pos (by omega)), fun _ => sp_isAhead (by omega) (by omega) (fun hna => ⟨fun _ v10 e10 => ?_, fun h => absurd rfl h⟩) (fun ha => ⟨fun h => absurd h (by decide), fun _ v11 e11 => ?_⟩)⟩
        · rw [e10, nI_1]
          refine ih _ (Or.inr ⟨t, by omega, rfl, w3, fun j hj hGj => ?_⟩)
          by_cases u : j = i
          · rw [u]
            rcases ah_tot (show i ≠ t by omega) with y | y
            · exact absurd y hna
            · exact Or.inr y
          · exact w4 j (by omega) hGj
        · rw [e11, nI_1]
          refine ih _ (Or.inr ⟨i, by omega, rfl, hG, fun j hj hGj => ?_⟩)
          by_cases u : j = i
          · exact Or.inl u
          · rcases w4 j (by omega) hGj with y | y
            · rw [y]; exact Or.inr ha
            · exact Or.inr (ah_trans ha y)
    refine ⟨fun h => absurd h (nI_ge hi (by omega)), fun _ => ?_⟩
    rcases hx with ⟨ex, en⟩ | ⟨ex, en⟩
    · refine ⟨fun _ => j32 1 (fun h => absurd h (by decide)) (fun _ => Or.inl en), fun h => absurd (by rw [ex]; decide) h⟩
    · rw [ex] at j32 ⊢
      refine ⟨fun h => absurd h (nI_pos (by omega)), fun _ => sp_isAhead (by omega) (by omega) (fun hna => ⟨fun _ => j32 0 (fun _ z => ?_) (fun h => absurd rfl h), fun h => absurd rfl h⟩) (fun ha => ⟨fun h => absurd h (by decide), fun _ => j32 1 (fun h => absurd h (by decide)) (fun _ => Or.inr ha)⟩)⟩
      rcases z with z | z
      · omega
      · exact hna z
theorem sp_proveLoop {P : pn_T} {x y : Int64} (wf : pwf P) {s0 : Nat} {c0 : Int} (hb : pbest P 0 s0 c0) (ex : x.toInt = c0) (ey : y.toInt = pbel P s0) {Post : Int32 → lf_St → Prop} (h0 : (∀ s, s < 2 ^ pB P → pch P s = true → pmin P s → ∀ g, g < 2 ^ pn_us P s (pR P) → ¬ pgood P s g) → ∀ t a b, mR P (0, x, y, a, b) t → Post (-6) t) (h1 : ∀ s g, pfs P s g → ∀ t a b, mR P (0, x, y, a, b) t → a.toInt = pbel P s → (∀ r, r < pR P → (b r).toInt = pff P s g r) → Post (nI s) (lf_si t 12 1)) : ∀ (m n : Nat) (x1 : Int32) (t : lf_St) (a : Int64) (b : Nat → Int64), n ≤ m → n ≤ 2 ^ pB P → pnx P n x1 → mR P (0, x, y, a, b) t → (∀ c, n ≤ c → c < 2 ^ pB P → pch P (pn_rev (pB P) c) = true → pmin P (pn_rev (pB P) c) → ∀ g, g < 2 ^ pn_us P (pn_rev (pB P) c) (pR P) → ¬ pgood P (pn_rev (pB P) c) g) → L_X6_prove_22 Post (m + 1) x1 t
  | m, n, x1, t, a, b, hm, hn, hx, hR, hd => by
    have h10 := pow_1024 wf
    unfold L_X6_prove_22
    rcases hx with ⟨e, hno⟩ | ⟨c, hc, e, hnb, hbt⟩
    · rw [e]
      refine ⟨fun _ => h0 (fun s hs hp hmn g hg => ?_) t a b hR, fun h => absurd nu_neg6 h⟩
      obtain ⟨c, hc, ec⟩ := rev_ex _ hs
      rw [← ec] at hp hmn hg ⊢
      by_cases q : n ≤ c
      · exact hd c q hc hp hmn g hg
      · exact absurd (pch_nb hp) (hno c (by omega))
    · have hrl := rev_lt (pB P) c
      obtain ⟨m', em⟩ : ∃ m', m = m' + 1 := ⟨m - 1, by omega⟩
      have hd2 : (pch P (pn_rev (pB P) c) = true → pmin P (pn_rev (pB P) c) → ∀ g, g < 2 ^ pn_us P (pn_rev (pB P) c) (pR P) → ¬ pgood P (pn_rev (pB P) c) g) → ∀ c', c ≤ c' → c' < 2 ^ pB P → pch P (pn_rev (pB P) c') = true → pmin P (pn_rev (pB P) c') → ∀ g, g < 2 ^ pn_us P (pn_rev (pB P) c') (pR P) → ¬ pgood P (pn_rev (pB P) c') g := by
        intro hcc c' q1 q2 q3
        by_cases u : c' = c
        · rw [u] at q3 ⊢; exact hcc q3
        · by_cases u2 : n ≤ c'
          · exact hd c' u2 q2 q3
          · exact absurd (pch_nb q3) (hbt c' (by omega) (by omega))
      have nx : ∀ t a b, mR P (0, x, y, a, b) t → (pch P (pn_rev (pB P) c) = true → pmin P (pn_rev (pB P) c) → ∀ g, g < 2 ^ pn_us P (pn_rev (pB P) c) (pR P) → ¬ pgood P (pn_rev (pB P) c) g) → wp_X6_after (nI (pn_rev (pB P) c)) t (fun r4 σ4 => L_X6_prove_22 Post m r4 σ4) := by
        intro t a b hRt hcc
        refine sp_after (n := c) wf hRt (by omega) (Or.inr ⟨rfl, by omega⟩) (fun x' hx' => ?_)
        rw [em]
        exact sp_proveLoop wf hb ex ey h0 h1 m' c x' t a b (by omega) (by omega) hx' hRt (hd2 hcc)
      have hah : ∀ s', s' < 2 ^ pB P → pch P s' = true → pah s' (pn_rev (pB P) c) → pmin P s' → ∀ g', g' < 2 ^ pn_us P s' (pR P) → ¬ pgood P s' g' := by
        intro s' q1 q2 q3
        obtain ⟨c', hc', ec'⟩ := rev_ex _ q1
        rw [← ec'] at q2 q3 ⊢
        have hlt : c < c' := by
          rcases Nat.lt_trichotomy c c' with u | u | u
          · exact u
          · rw [u] at q3; exact absurd q3 ah_irr
          · exact absurd (rev_ah _ (by omega : c < 2 ^ pB P) u) (fun w => ah_anti w q3)
        by_cases u2 : n ≤ c'
        · exact hd c' u2 hc' q2
        · exact absurd (pch_nb q2) (hbt c' hlt (by omega))
      rw [e]
      clear hd hd2 hbt e
      generalize pn_rev (pB P) c = s at hrl hnb nx hah ⊢
      have s31 : s < 2 ^ 31 := by omega
      have n0 := pch_nb hb.2.1
      have l0 := pbel_le wf n0
      have p0 := pbel_pos hb.2.1
      have c0l := pcost_le wf n0 hb.2.2.1
      have ls := pbel_le wf hnb
      have cs := pc0_le wf hnb
      refine ⟨fun h => absurd h (nI_pos s31), fun _ => sp_isChoice wf hR hrl (fun hp t2 hR2 => ⟨fun _ => nx t2 a b hR2 (fun h => by rw [hp] at h; cases h), fun h => absurd rfl h⟩) (fun hp t2 hR2 hC => ⟨fun h => absurd h (by decide), fun _ => ?_⟩)⟩
      have ps := pbel_pos hp
      refine sp_costOf (k := 0) wf hR2 (by decide) hnb hC (fun v hv => ?_)
      have ev : v.toInt = pc0 P s := by
        rcases hv with ⟨cc, hcc, ecc⟩ | ⟨hno, -⟩
        · rw [ecc, pcost_fun hcc (Or.inl ⟨rfl, rfl⟩)]
        · exact absurd (Or.inl ⟨rfl, rfl⟩) (hno (pc0 P s))
      have g22 : lf_gl t2 22 = x := hR2.1.2.2.1
      have g23 : lf_gl t2 23 = y := hR2.1.2.2.2.1
      have m1 := nu_mul64 (S := 706000000000) (T := 2985984) ev ey (by omega) (by omega) (by decide)
      have m2 := nu_mul64 (S := 706000000000) (T := 2985984) ex hC.1 (by omega) (by omega) (by decide)
      rw [g22, g23, nu_eq64, m1, m2, ← pmin_iff hb]
      refine ⟨fun hne => nx t2 a b hR2 (fun _ h => absurd h hne), fun hmn => sp_unused wf hR2 hC (fun v9 e9 => ?_)⟩
      have h6 := pR_6 wf
      have hus := us_le P s (pR P)
      have h64 : 2 ^ pn_us P s (pR P) ≤ 64 := (Nat.pow_le_pow_right (by decide) (by omega) : 2 ^ pn_us P s (pR P) ≤ 2 ^ 6)
      have hq0 := Nat.two_pow_pos (pn_us P s (pR P))
      rw [bt_shl (by omega)] at e9
      rw [e9]
      have z := pk_loop (fun fu g (t : lf_St) => L_X6_prove_66 (L_X6_prove_22 Post m) Post fu (nI s) (nI (2 ^ pn_us P s (pR P))) (nI g) t) (fun g t => (∃ a b, mR P (0, x, y, a, b) t) ∧ ∀ g', g' < g → ¬ pgood P s g') (2 ^ pn_us P s (pR P)) 0 t2 (by omega) ⟨⟨a, b, hR2⟩, fun g' h => absurd h (Nat.not_lt_zero g')⟩ ?_ ?_
      · rw [nI_0] at z
        exact z
      · intro k t3 ⟨⟨a3, b3, hR3⟩, hng⟩
        show L_X6_prove_66 _ Post (k + 1) _ _ _ _
        unfold L_X6_prove_66
        exact ⟨fun _ => nx t3 a3 b3 hR3 (fun _ _ => hng), fun h => absurd (nI_le (Nat.le_refl _) (by omega)) h⟩
      · intro k g t3 hg ⟨⟨a3, b3, hR3⟩, hng⟩ ih
        show L_X6_prove_66 _ Post (k + 1) _ _ _ _
        unfold L_X6_prove_66
        refine ⟨fun h => absurd h (nI_ge hg (by omega)), fun _ => sp_isGood wf hR3 hrl hp (by omega) (fun hno t4 a4 b4 hR4 => ⟨fun _ v5 e5 => ?_, fun h => absurd rfl h⟩) (fun hyes t4 a4 b4 hR4 q1 q2 => ⟨fun h => absurd h (by decide), fun _ => ?_⟩)⟩
        · rw [e5, nI_1]
          refine ih t4 ⟨⟨a4, b4, hR4⟩, fun g' hg' => ?_⟩
          by_cases u : g' = g
          · rw [u]; exact hno
          · exact hng g' (by omega)
        · exact h1 s g ⟨hrl, hp, hmn, hg, hyes, hng, hah⟩ t4 a4 b4 hR4 q1 q2
termination_by m => m
