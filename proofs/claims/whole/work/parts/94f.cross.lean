/-! CROSSING, the class -/
def cX (P : pn_T) (σ : lf_St) : Prop := ∀ j, j < pJ P → lf_ai σ 2 j = nI (pX P j) ∧ lf_ai σ 3 j = nI (pY P j)
theorem sc_side {P : pn_T} {σ : lf_St} (wf : pwf P) (hX : cX P σ) {a b c : Nat} (ha : a < pJ P) (hb : b < pJ P) (hc : c < pJ P) {Post : Int32 → lf_St → Prop} (hP : ∀ v, v.toInt = psd P a b c → Post v σ) : wp_X2_side (nI a) (nI b) (nI c) σ Post := by
  have hJ := wf.1
  obtain ⟨a1, a2⟩ := hX a ha
  obtain ⟨b1, b2⟩ := hX b hb
  obtain ⟨c1, c2⟩ := hX c hc
  have va : vp_in (nI a) 6 := vp_in_nI (by omega) (by omega)
  have vb : vp_in (nI b) 6 := vp_in_nI (by omega) (by omega)
  have vc : vp_in (nI c) 6 := vp_in_nI (by omega) (by omega)
  unfold wp_X2_side
  rw [nu_cl (n := a) (by omega), nu_cl (n := b) (by omega), nu_cl (n := c) (by omega), a1, a2, b1, b2, c1, c2]
  exact ⟨vb, va, vc, va, vb, va, vc, va, hP _ (nu_psd wf ha hb hc)⟩
theorem pr_box {p r : Int} : p * r ≤ 0 ↔ ¬ (0 < p ∧ 0 < r) ∧ ¬ (p < 0 ∧ r < 0) := by
  constructor
  · intro h
    refine ⟨fun q => ?_, fun q => ?_⟩
    · have := Int.mul_pos q.1 q.2
      omega
    · have := Int.mul_pos_of_neg_of_neg q.1 q.2
      omega
  · intro h
    by_cases a : 0 ≤ p ∧ r ≤ 0
    · have := Int.mul_nonneg (a := p) (b := -r) a.1 (by omega)
      rw [Int.mul_neg] at this
      omega
    · by_cases b : p ≤ 0 ∧ 0 ≤ r
      · have := Int.mul_nonneg (a := -p) (b := r) (by omega) b.2
        rw [Int.neg_mul] at this
        omega
      · omega
theorem on_box {p q r s : Int} (h : s * p = r * q) : p * r + q * s ≤ 0 ↔ p * r ≤ 0 ∧ q * s ≤ 0 := by
  constructor
  · intro hs
    have h2 : (p * r) * (q * s) = (s * p) * (s * p) := by grind
    have h3 := sq_nonneg (s * p)
    refine ⟨?_, ?_⟩
    · refine Decidable.byContradiction fun n => ?_
      have := Int.mul_neg_of_pos_of_neg (a := p * r) (b := q * s) (by omega) (by omega)
      omega
    · refine Decidable.byContradiction fun n => ?_
      have := Int.mul_neg_of_neg_of_pos (a := p * r) (b := q * s) (by omega) (by omega)
      omega
  · intro hs
    omega
theorem nu_min {a b : Nat} (ha : a < 2 ^ 31) (hb : b < 2 ^ 31) : lf_min (nI a) (nI b) = nI (min a b) := by
  unfold lf_min
  by_cases h : b < a
  · rw [if_pos ((nI_ltI hb ha).mpr h), Nat.min_eq_right (by omega)]
  · rw [if_neg (fun q => h ((nI_ltI hb ha).mp q)), Nat.min_eq_left (by omega)]
theorem nu_max {a b : Nat} (ha : a < 2 ^ 31) (hb : b < 2 ^ 31) : lf_max (nI a) (nI b) = nI (max a b) := by
  unfold lf_max
  by_cases h : a < b
  · rw [if_pos ((nI_ltI ha hb).mpr h), Nat.max_eq_right (by omega)]
  · rw [if_neg (fun q => h ((nI_ltI ha hb).mp q)), Nat.max_eq_left (by omega)]
theorem sc_isOn {P : pn_T} {σ : lf_St} (wf : pwf P) (hX : cX P σ) {a b j : Nat} (ha : a < pJ P) (hb : b < pJ P) (hj : j < pJ P) {Post : Int32 → lf_St → Prop} (hP : Post (nu_b (pon P j a b)) σ) : wp_X2_isOn (nI a) (nI b) (nI j) σ Post := by
  have hJ := wf.1
  obtain ⟨a1, a2⟩ := hX a ha
  obtain ⟨b1, b2⟩ := hX b hb
  obtain ⟨c1, c2⟩ := hX j hj
  have q1 := wf.2.2.2.2.2.1 a ha
  have q2 := wf.2.2.2.2.2.1 b hb
  have q3 := wf.2.2.2.2.2.1 j hj
  have va : vp_in (nI a) 6 := vp_in_nI (by omega) (by omega)
  have vb : vp_in (nI b) 6 := vp_in_nI (by omega) (by omega)
  have vc : vp_in (nI j) 6 := vp_in_nI (by omega) (by omega)
  unfold wp_X2_isOn
  refine sc_side wf hX ha hb hj (fun v ev => ⟨fun hne => ?_, fun h0 => ?_⟩)
  · have : pon P j a b = false := by
      unfold pon
      rw [decide_eq_false (fun q => hne (nu_eq.mpr (by rw [ev, q]; rfl)))]
      rfl
    rwa [this] at hP
  · have hs : psd P a b j = 0 := by rw [← ev, h0]; rfl
    have hs2 : ((pY P b : Int) - pY P j) * ((pX P a : Int) - pX P j) = ((pX P b : Int) - pX P j) * ((pY P a : Int) - pY P j) := by
      unfold psd at hs
      grind
    have hb2 := on_box hs2
    rw [pr_box, pr_box] at hb2
    have hd : pdot P j a b = ((pX P a : Int) - pX P j) * ((pX P b : Int) - pX P j) + ((pY P a : Int) - pY P j) * ((pY P b : Int) - pY P j) := rfl
    rw [← hd] at hb2
    have hpon : pon P j a b = decide (pdot P j a b ≤ 0) := by
      unfold pon
      rw [decide_eq_true hs]
      rfl
    rw [hpon] at hP
    have no : ¬ pdot P j a b ≤ 0 → Post 0 σ := fun n => by rwa [decide_eq_false n] at hP
    have yes : pdot P j a b ≤ 0 → Post 1 σ := fun n => by rwa [decide_eq_true n] at hP
    rw [nu_cl (n := a) (by omega), nu_cl (n := b) (by omega), nu_cl (n := j) (by omega), a1, a2, b1, b2, c1, c2, nu_min (by omega) (by omega), nu_min (by omega) (by omega), nu_max (by omega) (by omega), nu_max (by omega) (by omega)]
    have L1 : nI (pX P j) < nI (min (pX P a) (pX P b)) ↔ pX P j < min (pX P a) (pX P b) := nI_ltI (by omega) (by omega)
    have L2 : nI (max (pX P a) (pX P b)) < nI (pX P j) ↔ max (pX P a) (pX P b) < pX P j := nI_ltI (by omega) (by omega)
    have L3 : nI (pY P j) < nI (min (pY P a) (pY P b)) ↔ pY P j < min (pY P a) (pY P b) := nI_ltI (by omega) (by omega)
    have L4 : nI (max (pY P a) (pY P b)) < nI (pY P j) ↔ max (pY P a) (pY P b) < pY P j := nI_ltI (by omega) (by omega)
    rw [L1, L2, L3, L4]
    exact ⟨vc, va, vb, fun h => no (by omega), fun n1 => ⟨vc, va, vb, fun h => no (by omega), fun n2 => ⟨vc, va, vb, fun h => no (by omega), fun n3 => ⟨vc, va, vb, fun h => no (by omega), fun n4 => yes (by omega)⟩⟩⟩⟩
theorem way_on {u1 u2 w1 w2 : Int} (h : u1 * w2 - u2 * w1 = 0) (hu : 0 < u1 * u1 + u2 * u2) (hw : 0 < w1 * w1 + w2 * w2) : 0 < u1 * w1 + u2 * w2 ↔ ((u1 * u1 + u2 * u2) - (u1 * w1 + u2 * w2) ≤ 0 ∨ (w1 * w1 + w2 * w2) - (u1 * w1 + u2 * w2) ≤ 0) := by
  have hl : (u1 * w1 + u2 * w2) * (u1 * w1 + u2 * w2) + (u1 * w2 - u2 * w1) * (u1 * w2 - u2 * w1) = (u1 * u1 + u2 * u2) * (w1 * w1 + w2 * w2) := by grind
  rw [h] at hl
  generalize u1 * w1 + u2 * w2 = d at hl
  generalize u1 * u1 + u2 * u2 = U at hl hu
  generalize w1 * w1 + w2 * w2 = W at hl hw
  constructor
  · intro hd
    refine Decidable.byContradiction fun n => ?_
    have e1 := Int.mul_pos (a := U - d) (b := W) (by omega) hw
    have e2 := Int.mul_pos (a := d) (b := W - d) hd (by omega)
    have : (U - d) * W + d * (W - d) = U * W - d * d := by grind
    omega
  · intro hd
    omega
theorem far {a b c d : Int} (h : ¬ (a = c ∧ b = d)) : 0 < (a - c) * (a - c) + (b - d) * (b - d) := by
  have h1 := sq_nonneg (a - c)
  have h2 := sq_nonneg (b - d)
  refine Decidable.byContradiction fun n => h ⟨?_, ?_⟩
  · have : (a - c) * (a - c) = 0 := by omega
    rcases Int.mul_eq_zero.mp this with q | q <;> omega
  · have : (b - d) * (b - d) = 0 := by omega
    rcases Int.mul_eq_zero.mp this with q | q <;> omega
theorem apart {P : pn_T} (wf : pwf P) {a b : Nat} (ha : a < pJ P) (hb : b < pJ P) (h : a ≠ b) : ¬ ((pX P a : Int) = pX P b ∧ (pY P a : Int) = pY P b) := by
  intro q
  rcases Nat.lt_or_gt_of_ne h with z | z
  · exact wf.2.2.2.2.2.2.1 a b z hb (by omega)
  · exact wf.2.2.2.2.2.2.1 b a z ha (by omega)
theorem sc_sameWay {P : pn_T} {σ : lf_St} (wf : pwf P) (hX : cX P σ) {s o t : Nat} (hs : s < pJ P) (ho : o < pJ P) (ht : t < pJ P) (n1 : o ≠ s) (n2 : t ≠ s) {Post : Int32 → lf_St → Prop} (hP : Post (nu_b (pon P o s t || pon P t s o)) σ) : wp_X2_sameWay (nI s) (nI o) (nI t) σ Post := by
  have hJ := wf.1
  have hw := far (apart wf ht hs n2)
  have hu := far (apart wf ho hs n1)
  obtain ⟨a1, a2⟩ := hX s hs
  obtain ⟨b1, b2⟩ := hX o ho
  obtain ⟨c1, c2⟩ := hX t ht
  have va : vp_in (nI s) 6 := vp_in_nI (by omega) (by omega)
  have vb : vp_in (nI o) 6 := vp_in_nI (by omega) (by omega)
  have vc : vp_in (nI t) 6 := vp_in_nI (by omega) (by omega)
  have e1 : psd P s t o = - psd P s o t := psd_rot P s o t
  have f1 : pdot P o s t = (((pX P o : Int) - pX P s) * ((pX P o : Int) - pX P s) + ((pY P o : Int) - pY P s) * ((pY P o : Int) - pY P s)) - pdot P s o t := by unfold pdot; grind
  have f2 : pdot P t s o = (((pX P t : Int) - pX P s) * ((pX P t : Int) - pX P s) + ((pY P t : Int) - pY P s) * ((pY P t : Int) - pY P s)) - pdot P s o t := by unfold pdot; grind
  have hpon : (pon P o s t || pon P t s o) = (decide (psd P s o t = 0) && decide (0 < pdot P s o t)) := by
    unfold pon
    rw [e1, f1, f2]
    by_cases h : psd P s o t = 0
    · have := way_on (u1 := (pX P o : Int) - pX P s) (u2 := (pY P o : Int) - pY P s) (w1 := (pX P t : Int) - pX P s) (w2 := (pY P t : Int) - pY P s) h hu hw
      have e : pdot P s o t = ((pX P o : Int) - pX P s) * ((pX P t : Int) - pX P s) + ((pY P o : Int) - pY P s) * ((pY P t : Int) - pY P s) := rfl
      rw [← e] at this
      rw [decide_eq_true h, decide_eq_true (show - psd P s o t = 0 by omega), Bool.true_and, Bool.true_and, Bool.true_and, ← Bool.decide_or]
      exact decide_eq_decide.mpr this.symm
    · rw [decide_eq_false h, decide_eq_false (show ¬ - psd P s o t = 0 by omega)]
      rfl
  rw [hpon] at hP
  unfold wp_X2_sameWay
  rw [nu_cl (n := s) (by omega), nu_cl (n := o) (by omega), nu_cl (n := t) (by omega), a1, a2, b1, b2, c1, c2]
  refine ⟨vb, va, vc, va, vb, va, vc, va, fun v e => ?_⟩
  have ev : v.toInt = pdot P s o t := by rw [e]; exact nu_pdot wf hs ho ht
  have z0 : (0 : Int32).toInt = 0 := rfl
  refine sc_side wf hX hs ho ht (fun r er => ⟨fun hne => ?_, fun h0 => ⟨fun h1 => ?_, fun h1 => ?_⟩⟩)
  · rw [decide_eq_false (fun q => hne (nu_eq.mpr (by rw [er, q]; rfl)))] at hP
    exact hP
  · have := nu_le.mp h1
    rw [decide_eq_false (show ¬ 0 < pdot P s o t by omega), Bool.and_false] at hP
    exact hP
  · have : ¬ v.toInt ≤ (0 : Int32).toInt := fun q => h1 (nu_le.mpr q)
    rw [decide_eq_true (show 0 < pdot P s o t by omega), decide_eq_true (show psd P s o t = 0 by rw [← er, h0]; rfl)] at hP
    exact hP
theorem sc_touch {P : pn_T} {σ : lf_St} (wf : pwf P) (hX : cX P σ) {a b c d : Nat} (ha : a < pJ P) (hb : b < pJ P) (hc : c < pJ P) (hd : d < pJ P) (hs : ¬ (a = c ∨ a = d ∨ b = c ∨ b = d)) {Post : Int32 → lf_St → Prop} (hP : Post (nu_b (pcr4 P a b c d)) σ) : wp_X2_touch (nI a) (nI b) (nI c) (nI d) σ Post := by
  unfold pcr4 at hP
  rw [if_neg hs] at hP
  have hP : Post (nu_b (pon P c a b || (pon P d a b || (pon P a c d || (pon P b c d || (decide (psd P a b c * psd P a b d < 0) && decide (psd P c d a * psd P c d b < 0))))))) σ := by
    rw [show (pon P c a b || (pon P d a b || (pon P a c d || (pon P b c d || (decide (psd P a b c * psd P a b d < 0) && decide (psd P c d a * psd P c d b < 0)))))) = ((pon P a c d || pon P b c d || pon P c a b || pon P d a b) || (decide (psd P a b c * psd P a b d < 0) && decide (psd P c d a * psd P c d b < 0))) by
      generalize pon P a c d = q1
      generalize pon P b c d = q2
      generalize pon P c a b = q3
      generalize pon P d a b = q4
      generalize (decide (psd P a b c * psd P a b d < 0) && decide (psd P c d a * psd P c d b < 0)) = q5
      revert q1 q2 q3 q4 q5
      decide]
    exact hP
  have two : ∀ {u s t : Nat}, u < pJ P → s < pJ P → t < pJ P → ∀ {q : Bool}, Post (nu_b (pon P u s t || q)) σ → ∀ {K : lf_St → Prop}, (Post (nu_b q) σ → K σ) → wp_X2_isOn (nI s) (nI t) (nI u) σ (fun r σ3 => ((¬ r = 0) → Post 1 σ3) ∧ ((r = 0) → K σ3)) := by
    intro u s t hu hs ht q hp K hK
    refine sc_isOn wf hX hs ht hu ?_
    cases h : pon P u s t
    · rw [h] at hp
      exact ⟨fun z => absurd rfl z, fun _ => hK hp⟩
    · rw [h] at hp
      exact ⟨fun _ => hp, fun z => absurd z (by decide)⟩
  have sg : ∀ {x y : Int32} {A B : Int}, x.toInt = A → y.toInt = B → A.natAbs ≤ 72 → B.natAbs ≤ 72 → (0 ≤ x * y ↔ ¬ A * B < 0) := by
    intro x y A B hx hy h1 h2
    have := nu_mul32 (S := 72) (T := 72) hx hy h1 h2 (by decide)
    have z0 : (0 : Int32).toInt = 0 := rfl
    rw [nu_le, this]
    omega
  unfold wp_X2_touch
  refine two hc ha hb hP (fun hP => two hd ha hb hP (fun hP => two ha hc hd hP (fun hP => ?_)))
  refine sc_isOn wf hX hc hd hb ?_
  cases h : pon P b c d
  · rw [h] at hP
    refine ⟨fun _ => ?_, fun z => absurd rfl z⟩
    have hP : Post (nu_b (decide (psd P a b c * psd P a b d < 0) && decide (psd P c d a * psd P c d b < 0))) σ := hP
    refine sc_side wf hX ha hb hc (fun r1 h1 => sc_side wf hX ha hb hd (fun r2 h2 => ?_))
    rw [sg h1 h2 (psd_le wf ha hb hc) (psd_le wf ha hb hd)]
    refine ⟨fun z => ?_, fun z => sc_side wf hX hc hd ha (fun r3 h3 => sc_side wf hX hc hd hb (fun r4 h4 => ?_))⟩
    · rw [decide_eq_false z] at hP
      exact hP
    · rw [sg h3 h4 (psd_le wf hc hd ha) (psd_le wf hc hd hb)]
      refine ⟨fun z2 => ?_, fun z2 => ?_⟩
      · rw [decide_eq_false z2, Bool.and_false] at hP
        exact hP
      · rw [decide_eq_true (Decidable.not_not.mp z), decide_eq_true (Decidable.not_not.mp z2)] at hP
        exact hP
  · rw [h] at hP
    exact ⟨fun z => absurd z (by decide), fun _ => hP⟩
theorem nu_fits (b : Bool) : fits .boolean (.int (nu_b b)) = true := by cases b <;> rfl
theorem sc_meet {P : pn_T} {σ : lf_St} (wf : pwf P) (hX : cX P σ) {k l a b c d : Nat} (hk : k < 10) (hl : l < 10) (g1 : lf_ai σ 6 k = nI a) (g2 : lf_ai σ 7 k = nI b) (g3 : lf_ai σ 6 l = nI c) (g4 : lf_ai σ 7 l = nI d) (ha : a < pJ P) (hb : b < pJ P) (hc : c < pJ P) (hd : d < pJ P) (hab : a ≠ b) (hcd : c ≠ d) {Post : Int32 → lf_St → Prop} (hP : Post (nu_b (pcr4 P a b c d)) σ) : wp_X2_meet (nI k) (nI l) σ Post := by
  have hJ := wf.1
  unfold wp_X2_meet
  rw [nu_cl (n := k) (by omega), nu_cl (n := l) (by omega), g1, g2, g3, g4]
  have vk : vp_in (nI k) 10 := vp_in_nI (by omega) (by omega)
  have vl : vp_in (nI l) 10 := vp_in_nI (by omega) (by omega)
  refine ⟨vk, fun v2 e2 => ⟨vk, fun v4 e4 => ⟨vl, fun v6 e6 => ⟨vl, fun v8 e8 => ?_⟩⟩⟩⟩
  subst e2
  subst e4
  subst e6
  subst e8
  rw [nI_eq (a := a) (b := c) (by omega) (by omega), nI_eq (a := a) (b := d) (by omega) (by omega), nI_eq (a := b) (b := c) (by omega) (by omega), nI_eq (a := b) (b := d) (by omega) (by omega)]
  refine ⟨fun n1 => ⟨fun n2 => ⟨fun n3 => ⟨fun n4 => ?_, fun q => ?_⟩, fun q => ?_⟩, fun q => ?_⟩, fun q => ?_⟩
  · exact sc_touch wf hX ha hb hc hd (by omega) ⟨nu_fits _, hP⟩
  · refine sc_sameWay wf hX hb ha hc (by omega) (by omega) ⟨nu_fits _, ?_⟩
    unfold pcr4 at hP
    rw [if_pos (by omega), if_neg (by omega), show c + d - b = c by omega, ← q, pon_sym P a b c, pon_sym P c b a] at hP
    exact hP
  · refine sc_sameWay wf hX hb ha hd (by omega) (by omega) ⟨nu_fits _, ?_⟩
    unfold pcr4 at hP
    rw [if_pos (by omega), if_neg (by omega), show c + d - b = d by omega, ← q, pon_sym P d b a] at hP
    exact hP
  · refine sc_sameWay wf hX ha hb hc (by omega) (by omega) ⟨nu_fits _, ?_⟩
    unfold pcr4 at hP
    rw [if_pos (by omega), if_pos (by omega), show c + d - a = c by omega, ← q, pon_sym P b a c] at hP
    exact hP
  · refine sc_sameWay wf hX ha hb hd (by omega) (by omega) ⟨nu_fits _, ?_⟩
    unfold pcr4 at hP
    rw [if_pos (by omega), if_pos (by omega), show c + d - a = d by omega, ← q] at hP
    exact hP
