/-! THE PLAIN CALLS -/
theorem sp_in {x lo hi : Int64} {τ : lf_St} {Post : Int32 → lf_St → Prop} (h1 : lo ≤ x → x ≤ hi → Post 1 τ) (h0 : ¬ (lo ≤ x ∧ x ≤ hi) → Post 0 τ) : wp_X6_in x lo hi τ Post := by
  unfold wp_X6_in
  refine ⟨fun a => h0 (fun q => absurd q.1 (Int64.not_le.mpr a)), fun a => ⟨fun b => h0 (fun q => absurd q.2 (Int64.not_le.mpr b)), fun b => h1 (Int64.not_lt.mp a) (Int64.not_lt.mp b)⟩⟩
theorem nu_wide_le {a b : Int32} : a.toInt64 ≤ b.toInt64 ↔ a.toInt ≤ b.toInt := by
  rw [Int64.le_iff_toInt_le, Jvm.Kit.i64_of_i32, Jvm.Kit.i64_of_i32]
theorem nu_le {a b : Int32} : a ≤ b ↔ a.toInt ≤ b.toInt := Int32.le_iff_toInt_le
theorem nu_lt {a b : Int32} : a < b ↔ a.toInt < b.toInt := Int32.lt_iff_toInt_lt
theorem nu_eq {a b : Int32} : a = b ↔ a.toInt = b.toInt := Int32.toInt_inj.symm
/-- an int between two numbers -/
theorem sp_inI {x : Int32} {a b : Int32} {A B : Int64} {τ : lf_St} {Post : Int32 → lf_St → Prop} (hA : A = a.toInt64) (hB : B = b.toInt64) (h1 : a.toInt ≤ x.toInt → x.toInt ≤ b.toInt → Post 1 τ) (h0 : ¬ (a.toInt ≤ x.toInt ∧ x.toInt ≤ b.toInt) → Post 0 τ) : wp_X6_in x.toInt64 A B τ Post := by
  subst hA
  subst hB
  exact sp_in (fun p q => h1 (nu_wide_le.mp p) (nu_wide_le.mp q)) (fun p => h0 (fun q => p ⟨nu_wide_le.mpr q.1, nu_wide_le.mpr q.2⟩))
theorem nu_nI {n : Nat} (h : n < 2 ^ 31) : (nI n).toInt = (n : Int) := nI_toInt h
theorem nu_lit (n : Nat) : (OfNat.ofNat n : Int32) = nI n := rfl
theorem nu_of {x : Int32} {n : Nat} (h0 : 0 ≤ x.toInt) (h1 : x.toInt < n) (hn : n < 2 ^ 31) : ∃ j, j < n ∧ x = nI j := by
  refine ⟨x.toInt.toNat, by omega, nu_eq.mpr ?_⟩
  rw [nu_nI (by omega)]
  omega
theorem nu_pred {J : Nat} (hJ : J ≤ 100) : (nI J - 1).toInt = (J : Int) - 1 := pk_sub_toInt (a := J) (b := 1) (by omega) (by decide)
theorem sp_isJoint {τ : lf_St} {J : Nat} {x : Int32} {Post : Int32 → lf_St → Prop} (hJ : lf_gi τ 0 = nI J) (h6 : J ≤ 6) (h1 : ∀ j, j < J → x = nI j → Post 1 τ) (h0 : (∀ j, j < J → x ≠ nI j) → Post 0 τ) : wp_X6_isJoint x τ Post := by
  unfold wp_X6_isJoint
  rw [hJ]
  refine sp_inI (a := 0) (b := nI J - 1) rfl rfl (fun p q => ?_) (fun p => ⟨rfl, h0 (fun j hj e => p ?_)⟩)
  · rw [nu_pred (by omega)] at q
    obtain ⟨j, hj, e⟩ := nu_of (x := x) (n := J) p (by omega) (by omega)
    exact ⟨rfl, h1 j hj e⟩
  · rw [e, nu_nI (by omega), nu_pred (by omega)]
    have : (0 : Int32).toInt = 0 := rfl
    omega
theorem sp_isBar {τ : lf_St} {J : Nat} {x : Int32} {Post : Int32 → lf_St → Prop} (hJ : lf_gi τ 6 = nI J) (h6 : J ≤ 10) (h1 : ∀ j, j < J → x = nI j → Post 1 τ) (h0 : (∀ j, j < J → x ≠ nI j) → Post 0 τ) : wp_X6_isBar x τ Post := by
  unfold wp_X6_isBar
  rw [hJ]
  refine sp_inI (a := 0) (b := nI J - 1) rfl rfl (fun p q => ?_) (fun p => ⟨rfl, h0 (fun j hj e => p ?_)⟩)
  · rw [nu_pred (by omega)] at q
    obtain ⟨j, hj, e⟩ := nu_of (x := x) (n := J) p (by omega) (by omega)
    exact ⟨rfl, h1 j hj e⟩
  · rw [e, nu_nI (by omega), nu_pred (by omega)]
    have : (0 : Int32).toInt = 0 := rfl
    omega
theorem sp_has {J : Nat} {x : Int32} {A B : Prop} (h6 : J ≤ 100) (h1 : ∀ j, j < J → x = nI j → A) (h0 : (∀ j, j < J → x ≠ nI j) → B) : ((x < 0) → B) ∧ ((¬ (x < 0)) → (((nI J ≤ x) → B) ∧ ((¬ (nI J ≤ x)) → A))) := by
  have z : (0 : Int32).toInt = 0 := rfl
  refine ⟨fun a => h0 (fun j hj e => ?_), fun a => ⟨fun b => h0 (fun j hj e => ?_), fun b => ?_⟩⟩
  · rw [e] at a
    have := nu_lt.mp a
    rw [nu_nI (by omega)] at this
    omega
  · rw [e] at b
    have := nu_le.mp b
    rw [nu_nI (by omega), nu_nI (by omega)] at this
    omega
  · have a2 : ¬ x.toInt < (0 : Int32).toInt := fun q => a (nu_lt.mpr q)
    have b2 : ¬ (nI J).toInt ≤ x.toInt := fun q => b (nu_le.mpr q)
    rw [nu_nI (by omega)] at b2
    obtain ⟨j, hj, e⟩ := nu_of (x := x) (n := J) (by omega) (by omega) (by omega)
    exact h1 j hj e
theorem sp_hasJoint {σ : lf_St} {J : Nat} {x : Int32} {Post : Int32 → lf_St → Prop} (hJ : lf_gi σ 0 = nI J) (h6 : J ≤ 6) (h1 : ∀ j, j < J → x = nI j → Post 1 σ) (h0 : (∀ j, j < J → x ≠ nI j) → Post 0 σ) : wp_X2_hasJoint x σ Post := by
  unfold wp_X2_hasJoint
  rw [hJ]
  exact sp_has (by omega) h1 h0
theorem sp_hasBar {σ : lf_St} {J : Nat} {x : Int32} {Post : Int32 → lf_St → Prop} (hJ : lf_gi σ 2 = nI J) (h6 : J ≤ 10) (h1 : ∀ j, j < J → x = nI j → Post 1 σ) (h0 : (∀ j, j < J → x ≠ nI j) → Post 0 σ) : wp_X2_hasBar x σ Post := by
  unfold wp_X2_hasBar
  rw [hJ]
  exact sp_has (by omega) h1 h0
theorem sp_frees {τ : lf_St} {J : Nat} {f : Nat → Bool} {Post : Int32 → lf_St → Prop} (hJ : lf_gi τ 0 = nI J) (h6 : J ≤ 6) (hf : ∀ j, j < J → lf_ai τ 3 j = if f j then 1 else 0) (hP : Post (nI (pn_fc f J)) τ) : wp_X6_frees τ Post := by
  unfold wp_X6_frees
  have z := pk_loop (fun fu j (c : Nat) => L_X6_frees_4 Post fu (nI c) (nI j) τ) (fun j c => c = pn_fc f j) J 0 0 (by omega) rfl ?_ ?_
  · rw [nI_0] at z
    exact z
  · intro m c e
    show L_X6_frees_4 Post (m + 1) _ _ _
    unfold L_X6_frees_4
    rw [hJ]
    exact ⟨fun _ => by rw [e]; exact hP, fun h => absurd (nI_le (Nat.le_refl _) (by omega)) h⟩
  · intro m j c hj e ih
    show L_X6_frees_4 Post (m + 1) _ _ _
    unfold L_X6_frees_4
    rw [hJ, nu_cl (by omega), hf j hj]
    refine ⟨fun h => absurd h (nI_ge hj (by omega)), fun _ => ⟨vp_in_nI (by omega) (by omega), fun q v4 e4 v5 e5 => ?_, fun q v6 e6 v7 e7 => ?_⟩⟩
    · rw [e4, e5, nI_1, nI_1]
      refine ih _ ?_
      have : f j = false := by
        cases h : f j
        · rfl
        · rw [h] at q; exact absurd q (by decide)
      show c + 1 = pn_fc f j + (if f j then 0 else 1)
      rw [this, e]
      rfl
    · rw [e6, e7, nI_1, show nI c + 0 = nI c from nI_add c 0]
      refine ih _ ?_
      have : f j = true := by
        cases h : f j
        · rw [h] at q; exact absurd rfl q
        · rfl
      show c = pn_fc f j + (if f j then 0 else 1)
      rw [this, e]
      rfl
theorem pn_fc_mono (f : Nat → Bool) {a b : Nat} (h : a ≤ b) : pn_fc f a ≤ pn_fc f b := by
  obtain ⟨d, rfl⟩ : ∃ d, b = a + d := ⟨b - a, by omega⟩
  clear h
  induction d with
  | zero => exact Nat.le_refl _
  | succ d ih => exact Nat.le_trans ih (Nat.le_add_right _ _)
theorem pn_fc_lt {f : Nat → Bool} {j J : Nat} (h : f j = false) (hj : j < J) : pn_fc f j + 1 ≤ pn_fc f J := by
  have h1 : pn_fc f (j + 1) = pn_fc f j + 1 := by
    show pn_fc f j + (if f j then 0 else 1) = _
    rw [h]
    rfl
  rw [← h1]
  exact pn_fc_mono f hj
theorem nu_nm1 {n : Nat} (h : n < 2 ^ 31) : nI n ≠ -1 := by
  intro q
  have := congrArg Int32.toInt q
  rw [nu_nI h] at this
  have e : (-1 : Int32).toInt = -1 := by decide
  omega
/-- a call that only asks -/
theorem pu_told : lo_told pu_Inv := by
  intro σ τ hI a
  obtain ⟨P, wf, hM, hK, hC, hF⟩ := id hI
  unfold wp_X5_told
  have g0 : lf_gi σ 0 = lf_gi τ 0 := by rw [hK.1, hM.1]
  have g2 : lf_gi σ 2 = lf_gi τ 6 := by rw [hK.2.2.1, hM.2.1]
  have g3 : lf_gi σ 3 = lf_gi τ 9 := by rw [hK.2.2.2.1, hM.2.2.1]
  have g4 : lf_gi σ 4 = lf_gi τ 11 := by rw [hK.2.2.2.2.1, hM.2.2.2.1]
  unfold wp_X6_told
  refine ⟨fun e => ⟨fun _ => ⟨g0, hI⟩, fun q => absurd e q⟩, fun n0 => ⟨fun e => ⟨fun q => absurd q n0, fun _ => ⟨fun _ => ?_, fun q => absurd e q⟩⟩, fun n1 => ⟨fun e => ⟨fun q => absurd q n0, fun _ => ⟨fun q => absurd q n1, fun _ => ⟨fun _ => ⟨g2, hI⟩, fun q => absurd e q⟩⟩⟩, fun n2 => ⟨fun e => ⟨fun q => absurd q n0, fun _ => ⟨fun q => absurd q n1, fun _ => ⟨fun q => absurd q n2, fun _ => ⟨fun _ => ⟨g3, hI⟩, fun q => absurd e q⟩⟩⟩⟩, fun n3 => ⟨fun e => ⟨fun q => absurd q n0, fun _ => ⟨fun q => absurd q n1, fun _ => ⟨fun q => absurd q n2, fun _ => ⟨fun q => absurd q n3, fun _ => ⟨fun _ => ⟨g4, hI⟩, fun q => absurd e q⟩⟩⟩⟩⟩, fun n4 => ⟨fun q => absurd q n0, fun _ => ⟨fun q => absurd q n1, fun _ => ⟨fun q => absurd q n2, fun _ => ⟨fun q => absurd q n3, fun _ => ⟨fun q => absurd q n4, fun _ => ⟨rfl, hI⟩⟩⟩⟩⟩⟩⟩⟩⟩⟩⟩
  exact sp_frees hM.1 wf.1 (fun j hj => (hM.2.2.2.2.1 j hj).2.2.1) ⟨hK.2.1, hI⟩
theorem pu_about : lo_about pu_Inv := by
  intro σ τ hI a b
  obtain ⟨P, wf, hM, hK, hC, hF⟩ := id hI
  unfold wp_X5_about wp_X6_about
  refine sp_hasJoint hK.1 wf.1 (fun j hj e => ⟨fun _ => ?_, fun q => absurd q (by decide)⟩) (fun hn => ⟨fun q => absurd rfl q, fun _ => sp_isJoint hM.1 wf.1 (fun j hj e => absurd e (hn j hj)) (fun _ => ⟨fun q => absurd rfl q, fun _ => ⟨rfl, hI⟩⟩)⟩)
  subst e
  have hj6 : j < 6 := by have := wf.1; omega
  obtain ⟨k1, k2, k3, k4⟩ := hK.2.2.2.2.2.1 j hj
  obtain ⟨m1, m2, m3, m4, m5⟩ := hM.2.2.2.2.1 j hj
  have w6 : pE P j = false → pW P j + 1 < 6 := by
    intro h
    have h1 := wf.2.2.2.2.1
    have h2 : pn_fc (pE P) j + 1 ≤ pn_fc (pE P) (pJ P) := pn_fc_lt h hj
    unfold pW
    omega
  rw [nu_cl (by omega), k1, k2, k3]
  have hw : ∀ Q : Int32 → lf_St → Prop, (Q 1 τ) → wp_X6_isJoint (nI j) τ Q := fun Q h => sp_isJoint hM.1 wf.1 (fun _ _ _ => h) (fun hn => absurd rfl (hn j hj))
  have vj : vp_in (nI j) 6 := vp_in_nI hj6 (by omega)
  have vfx := wf.2.2.2.2.2.1 j hj
  refine ⟨vj, fun v4 e4 => ?_⟩
  refine ⟨fun e => ⟨vj, hw _ ⟨fun _ => ⟨fun _ => ⟨vj, m1.symm, hI⟩, fun q => absurd e q⟩, fun q => absurd q (by decide)⟩⟩, fun n0 => ⟨fun e => ⟨vj, hw _ ⟨fun _ => ⟨fun q => absurd q n0, fun _ => ⟨fun _ => ⟨vj, m2.symm, hI⟩, fun q => absurd e q⟩⟩, fun q => absurd q (by decide)⟩⟩, fun n1 => ⟨fun e => ?_, fun n2 => ⟨fun e => ?_, fun n3 => ⟨fun e => ?_, fun n4 => hw _ ⟨fun _ => ⟨fun q => absurd q n0, fun _ => ⟨fun q => absurd q n1, fun _ => ⟨fun q => absurd q n2, fun _ => ⟨fun q => absurd q n3, fun _ => ⟨fun q => absurd q n4, fun _ => ⟨rfl, hI⟩⟩⟩⟩⟩⟩, fun q => absurd q (by decide)⟩⟩⟩⟩⟩⟩
  · refine ⟨fun hne => hw _ ⟨fun _ => ⟨fun q => absurd q n0, fun _ => ⟨fun q => absurd q n1, fun _ => ⟨fun _ => ⟨vj, fun _ => ⟨rfl, hI⟩, fun q => ?_⟩, fun q => absurd e q⟩⟩⟩, fun q => absurd q (by decide)⟩, fun heq => hw _ ⟨fun _ => ⟨fun q => absurd q n0, fun _ => ⟨fun q => absurd q n1, fun _ => ⟨fun _ => ⟨vj, fun q => ?_, fun _ => ⟨rfl, hI⟩⟩, fun q => absurd e q⟩⟩⟩, fun q => absurd q (by decide)⟩⟩
    · rw [m3] at q
      cases h : pE P j
      · rw [h] at q; exact absurd rfl q
      · rw [h] at e4; exact absurd e4 hne
    · rw [m3] at q
      cases h : pE P j
      · rw [h] at e4
        exact absurd (e4.symm.trans heq) (nu_nm1 (by have := w6 h; omega))
      · rw [h] at q; exact absurd q (by decide)
  · refine ⟨fun hne => ?_, fun heq => ?_⟩
    · have hf : pE P j = false := by
        cases h : pE P j
        · rfl
        · rw [h] at e4; exact absurd e4 hne
      rw [hf] at e4
      have e4 : v4 = nI (pW P j) := e4
      subst e4
      have := w6 hf
      rw [nu_cl (by omega), (k4 hf).1]
      exact ⟨vp_in_nI (by omega) (by omega), hw _ ⟨fun _ => ⟨fun q => absurd q n0, fun _ => ⟨fun q => absurd q n1, fun _ => ⟨fun q => absurd q n2, fun _ => ⟨fun _ => ⟨vj, m4.symm, hI⟩, fun q => absurd e q⟩⟩⟩⟩, fun q => absurd q (by decide)⟩⟩
    · have hf : pE P j = true := by
        cases h : pE P j
        · rw [h] at e4
          exact absurd (e4.symm.trans heq) (nu_nm1 (by have := w6 h; omega))
        · rfl
      exact hw _ ⟨fun _ => ⟨fun q => absurd q n0, fun _ => ⟨fun q => absurd q n1, fun _ => ⟨fun q => absurd q n2, fun _ => ⟨fun _ => ⟨vj, by rw [m4, (vfx.2.2.2.2 hf).1]; rfl, hI⟩, fun q => absurd e q⟩⟩⟩⟩, fun q => absurd q (by decide)⟩
  · refine ⟨fun hne => ?_, fun heq => ?_⟩
    · have hf : pE P j = false := by
        cases h : pE P j
        · rfl
        · rw [h] at e4; exact absurd e4 hne
      rw [hf] at e4
      have e4 : v4 = nI (pW P j) := e4
      subst e4
      have := w6 hf
      rw [nI_1, nu_cl (by omega), (k4 hf).2]
      exact ⟨vp_in_nI (by omega) (by omega), hw _ ⟨fun _ => ⟨fun q => absurd q n0, fun _ => ⟨fun q => absurd q n1, fun _ => ⟨fun q => absurd q n2, fun _ => ⟨fun q => absurd q n3, fun _ => ⟨fun _ => ⟨vj, m5.symm, hI⟩, fun q => absurd e q⟩⟩⟩⟩⟩, fun q => absurd q (by decide)⟩⟩
    · have hf : pE P j = true := by
        cases h : pE P j
        · rw [h] at e4
          exact absurd (e4.symm.trans heq) (nu_nm1 (by have := w6 h; omega))
        · rfl
      exact hw _ ⟨fun _ => ⟨fun q => absurd q n0, fun _ => ⟨fun q => absurd q n1, fun _ => ⟨fun q => absurd q n2, fun _ => ⟨fun q => absurd q n3, fun _ => ⟨fun _ => ⟨vj, by rw [m5, (vfx.2.2.2.2 hf).2]; rfl, hI⟩, fun q => absurd e q⟩⟩⟩⟩⟩, fun q => absurd q (by decide)⟩
