theorem pcm_congr {P Q : pn_T} {b : Nat} : ∀ {k : Nat}, (∀ a, a < k → pcr Q b a = pcr P b a) → pcm Q b k = pcm P b k
  | 0, _ => rfl
  | k + 1, h => by
    show pcm Q b k + (if pcr Q b k then 2 ^ k else 0) = pcm P b k + (if pcr P b k then 2 ^ k else 0)
    rw [pcm_congr (fun a ha => h a (by omega)), h k (by omega)]
theorem pcm_hd (P : pn_T) (h : Nat × Nat × Nat × Nat) (b k : Nat) : pcm (h, P.2) b k = pcm P b k := pcm_congr (P := P) (Q := (h, P.2)) (fun _ _ => rfl)
theorem nu_toNat {x : Int32} (h : 0 ≤ x.toInt) : x = nI x.toInt.toNat := by
  have h2 : x.toInt < 2 ^ 31 := Int32.toInt_lt x
  refine nu_eq.mpr ?_
  rw [nu_nI (by omega)]
  omega
theorem pu_price : lo_price pu_Inv := by
  intro σ τ hI a
  obtain ⟨P, wf, hM, hK, hC, hF⟩ := id hI
  have z0 : (0 : Int32).toInt = 0 := rfl
  have z1 : (1000 : Int32).toInt = 1000 := by decide
  by_cases h : 0 ≤ a.toInt ∧ a.toInt ≤ 1000
  · unfold wp_X5_price wp_X5_forgetAnswers
    refine ⟨fun q => absurd (nu_lt.mp q) (by omega), fun _ => ⟨fun _ v4 e4 => ?_, fun q => absurd (nu_le.mpr (by omega)) q⟩⟩
    unfold wp_X6_price
    refine sp_inI (a := 0) (b := 1000) rfl rfl (fun _ _ => ⟨fun _ v3 e3 => ?_, fun q => absurd q (by decide)⟩) (fun q => absurd (by omega) q)
    refine ⟨?_, ?_⟩
    · rw [e4, e3]
      show lf_gi σ 4 = lf_gi τ 11
      rw [hK.2.2.2.2.1, hM.2.2.2.1]
    · have ea : a = nI a.toInt.toNat := nu_toNat h.1
      obtain ⟨w1, w2, w3, w4, w5⟩ := wf
      obtain ⟨m1, m2, m3, m4, m5⟩ := hM
      obtain ⟨k1, k2, k3, k4, k5, k6, k7, k8⟩ := hK
      refine ⟨((pJ P, pB P, pS P, a.toInt.toNat), P.2), ⟨w1, w2, w3, by show a.toInt.toNat ≤ 1000; omega, w5⟩, ⟨m1, m2, m3, ea, m5⟩, ⟨k1, k2, k3, k4, ea, k6, fun b hb => ?_, k8⟩, Or.inl rfl, Or.inl ⟨rfl, rfl⟩⟩
      obtain ⟨q1, q2, q3, q4, q5, q6⟩ := k7 b hb
      exact ⟨q1, q2, q3, q4, q5, q6.trans (congrArg nI (pcm_hd P _ b b).symm)⟩
  · have hm : wp_X6_price a τ (fun r' τ' => (-2 : Int32) = r' ∧ pu_Inv σ τ') := by
      unfold wp_X6_price
      exact sp_inI (a := 0) (b := 1000) rfl rfl (fun p q => absurd ⟨by omega, by omega⟩ h) (fun _ => ⟨fun q => absurd rfl q, fun _ => ⟨rfl, hI⟩⟩)
    unfold wp_X5_price
    exact ⟨fun _ => hm, fun _ => ⟨fun q => absurd (nu_le.mp q) (by have := ‹¬ a < 0›; have : ¬ a.toInt < (0 : Int32).toInt := fun z => this (nu_lt.mpr z); omega), fun _ => hm⟩⟩
theorem pu_drop : lo_drop pu_Inv := by
  intro σ τ hI
  obtain ⟨P, wf, hM, hK, hC, hF⟩ := id hI
  have hB := wf.2.1
  unfold wp_X5_drop wp_X5_forgetAnswers
  rw [hK.2.2.1]
  have zz : nI (pB P) = 0 ↔ pB P = 0 := (nI_eq (a := pB P) (b := 0) (by omega) (by omega))
  refine ⟨fun hne σ3 e3 => ?_, fun he => ?_⟩
  · have hb : pB P ≠ 0 := fun q => hne (zz.mpr q)
    have eB : nI (pB P) - 1 = nI (pB P - 1) := by
      have := nI_pred (pB P - 1)
      rwa [show pB P - 1 + 1 = pB P by omega] at this
    unfold wp_X6_drop
    rw [hM.2.1]
    refine ⟨fun _ τ2 e2 => ?_, fun q => absurd q hne⟩
    refine ⟨?_, ?_⟩
    · rw [e3, e2]
      show lf_gi σ 2 - 1 = nI (pB P) - 1
      rw [hK.2.2.1]
    · obtain ⟨w1, w2, w3, w4, w5, w6, w7, w8, w9, w10⟩ := wf
      obtain ⟨m1, m2, m3, m4, m5, m6, m7⟩ := hM
      obtain ⟨k1, k2, k3, k4, k5, k6, k7, k8⟩ := hK
      subst e3
      subst e2
      refine ⟨((pJ P, pB P - 1, pS P, pC P), P.2), ⟨w1, by show pB P - 1 ≤ 10; omega, w3, w4, w5, w6, w7, fun b hb => w8 b (by have : b < pB P - 1 := hb; omega), fun a b hab hb => w9 a b hab (by have : b < pB P - 1 := hb; omega), w10⟩, ⟨m1, eB, m3, m4, m5, fun b hb => m6 b (by have : b < pB P - 1 := hb; omega), m7⟩, ⟨k1, k2, ?_, k4, k5, k6, fun b hb => ?_, k8⟩, Or.inl rfl, Or.inl ⟨rfl, rfl⟩⟩
      · show lf_gi σ 2 - 1 = nI (pB P - 1)
        rw [k3]
        exact eB
      · obtain ⟨q1, q2, q3, q4, q5, q6⟩ := k7 b (by have : b < pB P - 1 := hb; omega)
        exact ⟨q1, q2, q3, q4, q5, q6.trans (congrArg nI (pcm_hd P _ b b).symm)⟩
  · unfold wp_X6_drop
    rw [hM.2.1]
    exact ⟨fun q => absurd he q, fun _ => ⟨rfl, hI⟩⟩
theorem nu_ofI {z : Int} (h1 : -2 ^ 31 ≤ z) (h2 : z < 2 ^ 31) : (Int32.ofInt z).toInt = z := by
  rw [Int32.toInt_ofInt, Jvm.Kit.bmod32 h1 h2]
theorem nu_iof {x : Int32} {z : Int} (h : x.toInt = z) : x = Int32.ofInt z := by rw [← h, Int32.ofInt_toInt]
/-- a difference of places, a stuff -/
theorem nu_diff {a b : Nat} (ha : a ≤ 6) (hb : b ≤ 6) : (nI a - nI b).toInt = (a : Int) - b := pk_sub_toInt (by omega) (by omega)
theorem nu_mul32 {x y : Int32} {A B : Int} {S T : Nat} (hx : x.toInt = A) (hy : y.toInt = B) (h1 : A.natAbs ≤ S) (h2 : B.natAbs ≤ T) (h : S * T < 2 ^ 31) : (x * y).toInt = A * B := by
  have := nu_natAbs_mul h1 h2
  rw [Jvm.Kit.i32_mul (by rw [hx, hy]; omega) (by rw [hx, hy]; omega), hx, hy]
theorem nu_add32 {x y : Int32} {A B : Int} {S T : Nat} (hx : x.toInt = A) (hy : y.toInt = B) (h1 : A.natAbs ≤ S) (h2 : B.natAbs ≤ T) (h : S + T < 2 ^ 31) : (x + y).toInt = A + B := by
  rw [Jvm.Kit.i32_add (by rw [hx, hy]; omega) (by rw [hx, hy]; omega), hx, hy]
theorem nu_sub32 {x y : Int32} {A B : Int} {S T : Nat} (hx : x.toInt = A) (hy : y.toInt = B) (h1 : A.natAbs ≤ S) (h2 : B.natAbs ≤ T) (h : S + T < 2 ^ 31) : (x - y).toInt = A - B := by
  rw [Jvm.Kit.i32_sub (by rw [hx, hy]; omega) (by rw [hx, hy]; omega), hx, hy]
theorem pdx_le {P : pn_T} (wf : pwf P) {b : Nat} (hb : b < pB P) : (pdx P b).natAbs ≤ 6 ∧ (pdy P b).natAbs ≤ 6 := by
  obtain ⟨h1, h2, -⟩ := wf.2.2.2.2.2.2.2.1 b hb
  have q1 := wf.2.2.2.2.2.1 _ h1
  have q2 := wf.2.2.2.2.2.1 _ h2
  unfold pdx pdy
  omega
theorem pst_le {P : pn_T} (wf : pwf P) {b : Nat} (hb : b < pB P) : 0 ≤ pst P b ∧ pst P b ≤ 72 := by
  obtain ⟨h1, h2⟩ := pdx_le wf hb
  have q1 := nu_natAbs_mul h1 h1
  have q2 := nu_natAbs_mul h2 h2
  have q3 : 0 ≤ pdx P b * pdx P b := by
    rcases Int.le_total 0 (pdx P b) with h | h
    · exact Int.mul_nonneg h h
    · exact Int.mul_nonneg_of_nonpos_of_nonpos h h
  have q4 : 0 ≤ pdy P b * pdy P b := by
    rcases Int.le_total 0 (pdy P b) with h | h
    · exact Int.mul_nonneg h h
    · exact Int.mul_nonneg_of_nonpos_of_nonpos h h
  unfold pst
  omega
theorem sp_stuff {P : pn_T} {τ : lf_St} (wf : pwf P) (hM : pM P τ) {b : Nat} (hb : b < pB P) {Post : Int32 → lf_St → Prop} (hP : ∀ v, v.toInt = pst P b → Post v τ) : wp_X6_stuff (nI b) τ Post := by
  obtain ⟨h1, h2, -⟩ := wf.2.2.2.2.2.2.2.1 b hb
  obtain ⟨m1, m2⟩ := hM.2.2.2.2.2.1 b hb
  obtain ⟨a1, a2, -⟩ := hM.2.2.2.2.1 _ h1
  obtain ⟨b1, b2, -⟩ := hM.2.2.2.2.1 _ h2
  have q1 := wf.2.2.2.2.2.1 _ h1
  have q2 := wf.2.2.2.2.2.1 _ h2
  have hJ := wf.1
  have hB := wf.2.1
  unfold wp_X6_stuff
  rw [nu_cl (by omega), m1, m2, nu_cl (by omega), nu_cl (by omega), a1, a2, b1, b2]
  have v1 : vp_in (nI b) 10 := vp_in_nI (by omega) (by omega)
  have v2 : vp_in (nI (pT P b)) 6 := vp_in_nI (by omega) (by omega)
  have v3 : vp_in (nI (pF P b)) 6 := vp_in_nI (by omega) (by omega)
  refine ⟨v1, v2, v1, v3, fun x ex => ⟨v1, v2, v1, v3, fun y ey => hP _ ?_⟩⟩
  have e1 : x.toInt = pdx P b := by rw [ex]; exact nu_diff (by omega) (by omega)
  have e2 : y.toInt = pdy P b := by rw [ey]; exact nu_diff (by omega) (by omega)
  obtain ⟨l1, l2⟩ := pdx_le wf hb
  exact nu_add32 (S := 36) (T := 36) (nu_mul32 e1 e1 l1 l1 (by decide)) (nu_mul32 e2 e2 l2 l2 (by decide)) (nu_natAbs_mul l1 l1) (nu_natAbs_mul l2 l2) (by decide)
theorem pu_ofBar : lo_ofBar pu_Inv := by
  intro σ τ hI a b
  obtain ⟨P, wf, hM, hK, hC, hF⟩ := id hI
  unfold wp_X5_ofBar wp_X6_ofBar
  refine sp_hasBar hK.2.2.1 wf.2.1 (fun j hj e => ⟨fun _ => ?_, fun q => absurd q (by decide)⟩) (fun hn => ⟨fun q => absurd rfl q, fun _ => sp_isBar hM.2.1 wf.2.1 (fun j hj e => absurd e (hn j hj)) (fun _ => ⟨fun q => absurd rfl q, fun _ => ⟨rfl, hI⟩⟩)⟩)
  subst e
  have hB := wf.2.1
  obtain ⟨k1, k2, -, -, k5, -⟩ := hK.2.2.2.2.2.2.1 j hj
  obtain ⟨m1, m2⟩ := hM.2.2.2.2.2.1 j hj
  rw [nu_cl (by omega), k1, k2, k5]
  have hw : ∀ Q : Int32 → lf_St → Prop, (Q 1 τ) → wp_X6_isBar (nI j) τ Q := fun Q h => sp_isBar hM.2.1 wf.2.1 (fun _ _ _ => h) (fun hn => absurd rfl (hn j hj))
  have vj : vp_in (nI j) 10 := vp_in_nI (by omega) (by omega)
  refine ⟨fun e => ⟨vj, hw _ ⟨fun _ => ⟨fun q => absurd e q, fun _ => ⟨vj, m1.symm, hI⟩⟩, fun q => absurd q (by decide)⟩⟩, fun n0 => ⟨fun e => ⟨vj, hw _ ⟨fun _ => ⟨fun _ => ⟨fun q => absurd e q, fun _ => ⟨vj, m2.symm, hI⟩⟩, fun q => absurd q n0⟩, fun q => absurd q (by decide)⟩⟩, fun n1 => ⟨fun e => ⟨vj, hw _ ⟨fun _ => ⟨fun _ => ⟨fun _ => ⟨fun q => absurd e q, fun _ => ?_⟩, fun q => absurd q n1⟩, fun q => absurd q n0⟩, fun q => absurd q (by decide)⟩⟩, fun n2 => hw _ ⟨fun _ => ⟨fun _ => ⟨fun _ => ⟨fun _ => ⟨rfl, hI⟩, fun q => absurd q n2⟩, fun q => absurd q n1⟩, fun q => absurd q n0⟩, fun q => absurd q (by decide)⟩⟩⟩⟩
  exact sp_stuff wf hM hj (fun v ev => ⟨(nu_iof ev).symm, hI⟩)
