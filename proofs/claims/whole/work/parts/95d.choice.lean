def mC (P : pn_T) (s : Nat) (τ : lf_St) : Prop := (lf_gl τ 20).toInt = pbel P s ∧ (∀ i, i < pR P → (lf_al τ 21 i).toInt = pbe P s i) ∧ mPk P s τ
theorem nu_63 {z : Int} (h : z.natAbs ≤ 9000000000000000000) : (Int64.ofInt z).toInt = z := by
  rw [Int64.toInt_ofInt, Jvm.Kit.bmod64 (by omega) (by omega)]
theorem nu_neg64 {x : Int64} {z : Int} (h : x.toInt = z) (hz : z.natAbs ≤ 9000000000000000000) : (-x).toInt = -z := by
  rw [Jvm.Kit.i64_neg (by rw [h]; omega), h]
theorem nu_le64 {x y : Int64} : x ≤ y ↔ x.toInt ≤ y.toInt := Int64.le_iff_toInt_le
theorem nu_lt64 {x y : Int64} : x < y ↔ x.toInt < y.toInt := Int64.lt_iff_toInt_lt
theorem nu_eq64 {x y : Int64} : x = y ↔ x.toInt = y.toInt := Int64.toInt_inj.symm
theorem nu_z64 : (0 : Int64).toInt = 0 := rfl
theorem sp_abs {x : Int64} {z : Int} (h : x.toInt = z) (hz : z.natAbs ≤ 9000000000000000000) {τ : lf_St} {Post : Int64 → lf_St → Prop} (hP : ∀ v, v.toInt = (z.natAbs : Int) → Post v τ) : wp_X6_abs x τ Post := by
  unfold wp_X6_abs
  refine ⟨fun q => hP _ ?_, fun q => hP _ ?_⟩
  · have := nu_le64.mp q
    rw [nu_z64] at this
    omega
  · have : ¬ (0 : Int64).toInt ≤ x.toInt := fun z => q (nu_le64.mpr z)
    rw [nu_z64] at this
    rw [nu_neg64 h hz]
    omega
theorem pch_no1 {P : pn_T} {s : Nat} (h : pn_nb s (pB P) ≠ pR P) : pch P s = false := by
  unfold pch
  rw [decide_eq_false h]
  rfl
theorem pch_no2 {P : pn_T} {s : Nat} (h : pD P s = 0) : pch P s = false := by
  unfold pch
  rw [decide_eq_false (show ¬ pD P s ≠ 0 from fun q => q h), Bool.and_false]
theorem pch_yes {P : pn_T} {s : Nat} (h : pn_nb s (pB P) = pR P) (h2 : pD P s ≠ 0) : pch P s = true := by
  unfold pch
  rw [decide_eq_true h, decide_eq_true h2]
  rfl
theorem sp_bears {P : pn_T} {κ : mk_T} {τ : lf_St} (wf : pwf P) (hR : mR P κ τ) {s : Nat} (hn : pn_nb s (pB P) = pR P) (hp : mPk P s τ) (hc : mCl P s (pR P) (lf_al τ 15)) (hl : mLd P (lf_al τ 17)) (hd : (lf_gl τ 20).toInt = pD P s) {Post : Int32 → lf_St → Prop} (hP : ∀ τ', mR P κ τ' → mC P s τ' → Post 1 τ') : ∃ fu, L_X6_isChoice_102 Post fu 0 τ := by
  have h6 := pR_6 wf
  have hbel := pbel_le wf hn
  have hbel2 : pbel P s = ((pD P s).natAbs : Int) := rfl
  have z := pk_loop (fun fu i (t : lf_St) => L_X6_isChoice_102 Post fu (nI i) t) (fun i t => mR P κ t ∧ mPk P s t ∧ mCl P s (pR P) (lf_al t 15) ∧ mLd P (lf_al t 17) ∧ (lf_gl t 20).toInt = pD P s ∧ ∀ k, k < i → (lf_al t 21 k).toInt = pbe P s k) (pR P) 0 τ (by omega) ⟨hR, hp, hc, hl, hd, fun k h => absurd h (Nat.not_lt_zero k)⟩ ?_ ?_
  · rw [nI_0] at z
    exact z
  · intro m t ⟨a1, a2, a3, a4, a5, a6⟩
    show L_X6_isChoice_102 Post (m + 1) _ _
    unfold L_X6_isChoice_102
    rw [a1.2.1]
    refine ⟨fun _ => ?_, fun h => absurd (nI_le (Nat.le_refl _) (by omega)) h⟩
    exact sp_abs a5 (by omega) (fun v ev => hP _ a1 ⟨ev, a6, a2⟩)
  · intro m i t hi ⟨a1, a2, a3, a4, a5, a6⟩ ih
    show L_X6_isChoice_102 Post (m + 1) _ _
    unfold L_X6_isChoice_102
    rw [a1.2.1, nu_cl (by omega)]
    refine ⟨fun h => absurd h (nI_ge hi (by omega)), fun _ => ?_⟩
    have hbe := pbe_le wf hn i
    refine rd_det (n := pR P) (S := 5) (U := 24) (s := i) (Mt := dt_uc (pA P s) i (pL P)) a1.2.1 h6 (by decide) (by decide) (by decide) (pA_cb2 wf hn i) (fun r j hr hj => ⟨fun q => ?_, fun q => ?_⟩) (fun w v ev => ?_)
    · have : j = i := (nI_eq (by omega) (by omega)).mp q
      unfold dt_uc
      rw [if_pos this]
      exact a4 r hr
    · unfold dt_uc
      rw [if_neg (fun z => q (by rw [z])), a3 r j (by omega) (by omega), if_pos hj]
      rfl
    · have vi : vp_in (nI i) 6 := vp_in_nI (by omega) (by omega)
      have g20 : lf_gl (lf_sB t 16 w) 20 = lf_gl t 20 := rfl
      have ev2 : v.toInt = dt_D (pR P) (dt_uc (pA P s) i (pL P)) := by
        rw [ev]
        refine nu_63 ?_
        have hb := dt_D_le (pA_cb2 wf hn i) (by decide) (by decide)
        have h2 : 5 * 24 ^ pR P ≤ 5 * 24 ^ 6 := Nat.mul_le_mul_left 5 (Nat.pow_le_pow_right (by decide) h6)
        have h3 : 5 * 24 ^ 6 = 955514880 := by decide
        omega
      have stp : ∀ u, u.toInt = pbe P s i → ∀ v6, v6 = nI i + 1 → L_X6_isChoice_102 Post m v6 (lf_sb (lf_sB t 16 w) 21 i u) := by
        intro u eu v6 e6
        rw [e6, nI_1]
        refine ih _ ⟨a1, a2, a3, a4, a5, fun k hk => ?_⟩
        show (vp_updL (lf_al t 21) i u k).toInt = _
        by_cases q : k = i
        · rw [q, pk_uLs]; exact eu
        · rw [pk_uLn q]; exact a6 k (by omega)
      rw [g20]
      refine ⟨fun q => ⟨vi, stp v ?_⟩, fun q => ⟨vi, stp (-v) ?_⟩⟩
      · have := nu_le64.mp q
        rw [nu_z64] at this
        unfold pbe
        rw [if_neg (by omega)]
        exact ev2
      · have : ¬ (0 : Int64).toInt ≤ (lf_gl t 20).toInt := fun z => q (nu_le64.mpr z)
        rw [nu_z64] at this
        unfold pbe at hbe ⊢
        rw [if_pos (by omega)] at hbe ⊢
        exact nu_neg64 ev2 (by omega)
theorem sp_isChoice {P : pn_T} {κ : mk_T} {τ : lf_St} (wf : pwf P) (hR : mR P κ τ) {s : Nat} (hs : s < 2 ^ pB P) {Post : Int32 → lf_St → Prop} (h0 : pch P s = false → ∀ τ', mR P κ τ' → Post 0 τ') (h1 : pch P s = true → ∀ τ', mR P κ τ' → mC P s τ' → Post 1 τ') : wp_X6_isChoice (nI s) τ Post := by
  have hB := wf.2.1
  have h6 := pR_6 wf
  have hs31 : s < 2 ^ 31 := Nat.lt_of_lt_of_le hs (Nat.pow_le_pow_right (by decide) (by omega))
  unfold wp_X6_isChoice
  have z := pk_loop (fun fu b (t : lf_St) => L_X6_isChoice_7 Post fu (nI s) (nI b) t) (fun b t => mR P κ t ∧ lf_gi t 18 = nI (pn_nb s b) ∧ pn_nb s b ≤ pR P ∧ ∀ i, i < pn_nb s b → lf_ai t 19 i = nI (pn_bi s (pB P) i)) (pB P) 0 (lf_si τ 18 0) (by omega) ⟨hR, rfl, Nat.zero_le _, fun k h => absurd h (Nat.not_lt_zero k)⟩ ?_ ?_
  · rw [nI_0] at z
    exact z
  · intro m t ⟨a1, a2, a3, a4⟩
    show L_X6_isChoice_7 Post (m + 1) _ _ _
    unfold L_X6_isChoice_7
    rw [a1.1.1.2.1, a1.2.1, a2, nI_eq (a := pn_nb s (pB P)) (b := pR P) (by omega) (by omega)]
    refine ⟨fun _ => ⟨fun hn => ?_, fun hn => h0 (pch_no1 hn) t a1⟩, fun h => absurd (nI_le (Nat.le_refl _) (by omega)) h⟩
    rw [hn] at a4
    refine sp_layCells wf a1 hn a4 (fun f g hf hg => ?_)
    refine rd_det (τ := lf_sB (lf_sB t 15 f) 17 g) (n := pR P) (S := 5) (U := 24) (s := 0) (Mt := pA P s) a1.2.1 h6 (by decide) (by decide) (by decide) (pA_cb1 wf hn) (fun r j hr hj => ⟨fun q => ?_, fun q => ?_⟩) (fun w v ev t5 e5 => ?_)
    · exact absurd q (nu_nm1 (by omega))
    · have := hf r j (by omega) (by omega)
      rw [if_pos hj] at this
      exact this
    · have hbel := pbel_le wf hn
      have hbel2 : pbel P s = ((pD P s).natAbs : Int) := rfl
      have ev2 : v.toInt = pD P s := by rw [ev]; exact nu_63 (show (pD P s).natAbs ≤ _ by omega)
      have g20 : lf_gl t5 20 = v := by rw [e5]; rfl
      rw [g20]
      refine ⟨fun hne => ?_, fun he => ?_⟩
      · have hd : pD P s ≠ 0 := fun q => hne (nu_l0.mpr (by rw [ev2, q]))
        refine sp_bears wf (κ := κ) (s := s) ?_ hn ?_ ?_ ?_ ?_ (fun τ' c1 c2 => h1 (pch_yes hn hd) τ' c1 c2)
        · rw [e5]; exact a1
        · rw [e5]; exact a4
        · rw [e5]; exact hf
        · rw [e5]; exact hg
        · rw [g20]; exact ev2
      · refine h0 (pch_no2 ?_) t5 (by rw [e5]; exact a1)
        rw [← ev2, he]
        rfl
  · intro m b t hb ⟨a1, a2, a3, a4⟩ ih
    show L_X6_isChoice_7 Post (m + 1) _ _ _
    unfold L_X6_isChoice_7
    rw [a1.1.1.2.1, a1.2.1, a2, nI_eq (a := pn_nb s b) (b := pR P) (by omega) (by omega), bt_test1 hs31 (by omega)]
    refine ⟨fun h => absurd h (nI_ge hb (by omega)), fun _ => ⟨fun hn v e => ?_, fun hy => ⟨fun hne => ?_, fun he => ?_⟩⟩⟩
    · have hn : s.testBit b = false := by
        cases q : s.testBit b
        · rfl
        · exact absurd q hn
      rw [e, nI_1]
      refine ih _ ⟨a1, ?_, ?_, ?_⟩
      · rw [nb_same hn]; exact a2
      · rw [nb_same hn]; exact a3
      · rw [nb_same hn]; exact a4
    · rw [nu_cl (by omega)]
      refine ⟨vp_in_nI (by omega) (by omega), fun t11 e11 v e => ?_⟩
      have g18 : lf_gi t11 18 = nI (pn_nb s b) := by rw [e11]; exact a2
      rw [e, nI_1, g18, nI_1, ← nb_succ hy]
      refine ih _ ⟨by rw [e11]; exact a1, rfl, by rw [nb_succ hy]; omega, fun i hi => ?_⟩
      rw [nb_succ hy] at hi
      rw [e11]
      show upd (lf_ai t 19) (pn_nb s b) (nI b) i = _
      by_cases q : i = pn_nb s b
      · rw [q, pk_us, bi_of hy hb]
      · rw [pk_un q]; exact a4 i (by omega)
    · refine h0 (pch_no1 ?_) t a1
      have := nb_lt hy hb
      omega
