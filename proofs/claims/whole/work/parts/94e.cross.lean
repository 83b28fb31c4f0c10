/-! CROSSING -/
def nu_b (b : Bool) : Int32 := if b then 1 else 0
theorem nu_b1 {b : Bool} (h : b = true) : nu_b b = 1 := by rw [h]; rfl
theorem nu_b0 {b : Bool} (h : b = false) : nu_b b = 0 := by rw [h]; rfl
theorem sq_nonneg (a : Int) : 0 ≤ a * a := by
  rcases Int.le_total 0 a with h | h
  · exact Int.mul_nonneg h h
  · exact Int.mul_nonneg_of_nonpos_of_nonpos h h
theorem psd_le {P : pn_T} (wf : pwf P) {a b c : Nat} (ha : a < pJ P) (hb : b < pJ P) (hc : c < pJ P) : (psd P a b c).natAbs ≤ 72 := by
  have q1 := wf.2.2.2.2.2.1 a ha
  have q2 := wf.2.2.2.2.2.1 b hb
  have q3 := wf.2.2.2.2.2.1 c hc
  have h1 := nu_natAbs_mul (a := (pX P b : Int) - pX P a) (b := (pY P c : Int) - pY P a) (S := 6) (T := 6) (by omega) (by omega)
  have h2 := nu_natAbs_mul (a := (pY P b : Int) - pY P a) (b := (pX P c : Int) - pX P a) (S := 6) (T := 6) (by omega) (by omega)
  unfold psd
  omega
/-- the crossed product of ints -/
theorem nu_psd {P : pn_T} (wf : pwf P) {a b c : Nat} (ha : a < pJ P) (hb : b < pJ P) (hc : c < pJ P) : (((nI (pX P b) - nI (pX P a)) * (nI (pY P c) - nI (pY P a))) - ((nI (pY P b) - nI (pY P a)) * (nI (pX P c) - nI (pX P a)))).toInt = psd P a b c := by
  have q1 := wf.2.2.2.2.2.1 a ha
  have q2 := wf.2.2.2.2.2.1 b hb
  have q3 := wf.2.2.2.2.2.1 c hc
  refine nu_sub32 (S := 36) (T := 36) (nu_mul32 (S := 6) (T := 6) (nu_diff (by omega) (by omega)) (nu_diff (by omega) (by omega)) (by omega) (by omega) (by decide)) (nu_mul32 (S := 6) (T := 6) (nu_diff (by omega) (by omega)) (nu_diff (by omega) (by omega)) (by omega) (by omega) (by decide)) (nu_natAbs_mul (S := 6) (T := 6) (by omega) (by omega)) (nu_natAbs_mul (S := 6) (T := 6) (by omega) (by omega)) (by decide)
theorem nu_pdot {P : pn_T} (wf : pwf P) {j a b : Nat} (hj : j < pJ P) (ha : a < pJ P) (hb : b < pJ P) : (((nI (pX P a) - nI (pX P j)) * (nI (pX P b) - nI (pX P j))) + ((nI (pY P a) - nI (pY P j)) * (nI (pY P b) - nI (pY P j)))).toInt = pdot P j a b := by
  have q1 := wf.2.2.2.2.2.1 a ha
  have q2 := wf.2.2.2.2.2.1 b hb
  have q3 := wf.2.2.2.2.2.1 j hj
  refine nu_add32 (S := 36) (T := 36) (nu_mul32 (S := 6) (T := 6) (nu_diff (by omega) (by omega)) (nu_diff (by omega) (by omega)) (by omega) (by omega) (by decide)) (nu_mul32 (S := 6) (T := 6) (nu_diff (by omega) (by omega)) (nu_diff (by omega) (by omega)) (by omega) (by omega) (by decide)) (nu_natAbs_mul (S := 6) (T := 6) (by omega) (by omega)) (nu_natAbs_mul (S := 6) (T := 6) (by omega) (by omega)) (by decide)
theorem psd_sym (P : pn_T) (a b c : Nat) : psd P b a c = - psd P a b c := by unfold psd; grind
theorem psd_rot (P : pn_T) (a b c : Nat) : psd P a c b = - psd P a b c := by unfold psd; grind
theorem pdot_sym (P : pn_T) (j a b : Nat) : pdot P j b a = pdot P j a b := by unfold pdot; grind
theorem pon_sym (P : pn_T) (j a b : Nat) : pon P j b a = pon P j a b := by
  unfold pon
  rw [pdot_sym, psd_sym P a b j]
  congr 1
  exact decide_eq_decide.mpr ⟨fun h => by omega, fun h => by omega⟩
/-- the model -/
theorem sp_side {P : pn_T} {τ : lf_St} (wf : pwf P) (hM : pM P τ) {a b c : Nat} (ha : a < pJ P) (hb : b < pJ P) (hc : c < pJ P) {Post : Int32 → lf_St → Prop} (hP : ∀ v, (psd P a b c = 0 ∧ v = 0) ∨ (0 < psd P a b c ∧ v = 1) ∨ (psd P a b c < 0 ∧ v = -1) → Post v τ) : wp_X6_side (nI a) (nI b) (nI c) τ Post := by
  have hJ := wf.1
  obtain ⟨a1, a2, -⟩ := hM.2.2.2.2.1 a ha
  obtain ⟨b1, b2, -⟩ := hM.2.2.2.2.1 b hb
  obtain ⟨c1, c2, -⟩ := hM.2.2.2.2.1 c hc
  have va : vp_in (nI a) 6 := vp_in_nI (by omega) (by omega)
  have vb : vp_in (nI b) 6 := vp_in_nI (by omega) (by omega)
  have vc : vp_in (nI c) 6 := vp_in_nI (by omega) (by omega)
  unfold wp_X6_side
  rw [nu_cl (n := a) (by omega), nu_cl (n := b) (by omega), nu_cl (n := c) (by omega), a1, a2, b1, b2, c1, c2]
  refine ⟨vb, va, vc, va, vb, va, vc, va, fun v e => ?_⟩
  have ev : v.toInt = psd P a b c := by rw [e]; exact nu_psd wf ha hb hc
  have z : (0 : Int32).toInt = 0 := rfl
  refine ⟨fun h => ⟨fun h2 => hP 0 (Or.inl ⟨?_, rfl⟩), fun h2 => hP 1 (Or.inr (Or.inl ⟨?_, rfl⟩))⟩, fun h => hP (-1) (Or.inr (Or.inr ⟨?_, rfl⟩))⟩
  · have := nu_le.mp h
    have := nu_le.mp h2
    omega
  · have := nu_le.mp h
    have : ¬ v.toInt ≤ (0 : Int32).toInt := fun q => h2 (nu_le.mpr q)
    omega
  · have : ¬ (0 : Int32).toInt ≤ v.toInt := fun q => h (nu_le.mpr q)
    omega
theorem sp_isOn {P : pn_T} {τ : lf_St} (wf : pwf P) (hM : pM P τ) {j a b : Nat} (hj : j < pJ P) (ha : a < pJ P) (hb : b < pJ P) {Post : Int32 → lf_St → Prop} (hP : Post (nu_b (pon P j a b)) τ) : wp_X6_isOn (nI j) (nI a) (nI b) τ Post := by
  have hJ := wf.1
  obtain ⟨a1, a2, -⟩ := hM.2.2.2.2.1 a ha
  obtain ⟨b1, b2, -⟩ := hM.2.2.2.2.1 b hb
  obtain ⟨c1, c2, -⟩ := hM.2.2.2.2.1 j hj
  have va : vp_in (nI a) 6 := vp_in_nI (by omega) (by omega)
  have vb : vp_in (nI b) 6 := vp_in_nI (by omega) (by omega)
  have vc : vp_in (nI j) 6 := vp_in_nI (by omega) (by omega)
  unfold wp_X6_isOn
  rw [nu_cl (n := a) (by omega), nu_cl (n := b) (by omega), nu_cl (n := j) (by omega), a1, a2, b1, b2, c1, c2]
  refine ⟨va, vc, vb, vc, va, vc, vb, vc, fun v e => ?_⟩
  have ev : v.toInt = pdot P j a b := by rw [e]; exact nu_pdot wf hj ha hb
  have z : (0 : Int32).toInt = 0 := rfl
  have key0 : psd P a b j ≠ 0 ∨ 0 < pdot P j a b → Post 0 τ := fun h => by
    have : pon P j a b = false := by
      unfold pon
      rcases h with h | h
      · rw [decide_eq_false h]; rfl
      · rw [decide_eq_false (show ¬ pdot P j a b ≤ 0 by omega), Bool.and_false]
    rwa [this] at hP
  refine sp_side wf hM ha hb hj (fun r hr => ⟨fun hne => ?_, fun h0 => ⟨fun h1 => ?_, fun h1 => ?_⟩⟩)
  · refine key0 (Or.inl (fun q => hne ?_))
    rcases hr with hr | hr | hr
    · exact hr.2
    · omega
    · omega
  · have := nu_lt.mp h1
    exact key0 (Or.inr (by omega))
  · have h2 : ¬ (0 : Int32).toInt < v.toInt := fun q => h1 (nu_lt.mpr q)
    have h3 : psd P a b j = 0 := by
      rcases hr with hr | hr | hr
      · exact hr.1
      · rw [hr.2] at h0; exact absurd h0 (by decide)
      · rw [hr.2] at h0; exact absurd h0 (by decide)
    have : pon P j a b = true := by
      unfold pon
      rw [decide_eq_true h3, decide_eq_true (show pdot P j a b ≤ 0 by omega)]
      rfl
    rwa [this] at hP
theorem nu_sum {a b : Nat} : nI a + nI b = nI (a + b) := nI_add a b
theorem sgn_mul {A B : Int} {x y : Int32} (hx : (A = 0 ∧ x = 0) ∨ (0 < A ∧ x = 1) ∨ (A < 0 ∧ x = -1)) (hy : (B = 0 ∧ y = 0) ∨ (0 < B ∧ y = 1) ∨ (B < 0 ∧ y = -1)) : 0 ≤ x * y ↔ ¬ A * B < 0 := by
  rcases hx with ⟨h1, rfl⟩ | ⟨h1, rfl⟩ | ⟨h1, rfl⟩ <;> rcases hy with ⟨h2, rfl⟩ | ⟨h2, rfl⟩ | ⟨h2, rfl⟩
  · rw [h1, h2]; decide
  · rw [h1, Int.zero_mul]; decide
  · rw [h1, Int.zero_mul]; decide
  · rw [h2, Int.mul_zero]; decide
  · have := Int.mul_pos h1 h2
    exact ⟨fun _ => by omega, fun _ => by decide⟩
  · have := Int.mul_neg_of_pos_of_neg h1 h2
    exact ⟨fun q => absurd q (by decide), fun q => by omega⟩
  · rw [h2, Int.mul_zero]; decide
  · have := Int.mul_neg_of_neg_of_pos h1 h2
    exact ⟨fun q => absurd q (by decide), fun q => by omega⟩
  · have := Int.mul_pos_of_neg_of_neg h1 h2
    exact ⟨fun _ => by omega, fun _ => by decide⟩
theorem sp_crossed {P : pn_T} {τ : lf_St} (wf : pwf P) (hM : pM P τ) {k l : Nat} (hk : k < pB P) (hl : l < pB P) {Post : Int32 → lf_St → Prop} (hP : Post (nu_b (pcr P k l)) τ) : wp_X6_areCrossed (nI k) (nI l) τ Post := by
  have hJ := wf.1
  have hB := wf.2.1
  obtain ⟨ha, hb, -⟩ := wf.2.2.2.2.2.2.2.1 k hk
  obtain ⟨hc, hd, -⟩ := wf.2.2.2.2.2.2.2.1 l hl
  obtain ⟨m1, m2⟩ := hM.2.2.2.2.2.1 k hk
  obtain ⟨m3, m4⟩ := hM.2.2.2.2.2.1 l hl
  unfold wp_X6_areCrossed
  rw [nu_cl (n := k) (by omega), nu_cl (n := l) (by omega), m1, m2, m3, m4]
  unfold pcr at hP
  generalize pF P k = a at ha hP
  generalize pT P k = b at hb hP
  generalize pF P l = c at hc hP
  generalize pT P l = d at hd hP
  refine ⟨vp_in_nI (by omega) (by omega), fun v2 e2 => ⟨vp_in_nI (by omega) (by omega), fun v4 e4 => ⟨vp_in_nI (by omega) (by omega), fun v6 e6 => ⟨vp_in_nI (by omega) (by omega), fun v8 e8 => ?_⟩⟩⟩⟩
  subst e2
  subst e4
  subst e6
  subst e8
  have eqv : ∀ {x y : Nat}, x < pJ P → y < pJ P → (nI x = nI y ↔ x = y) := fun hx hy => nI_eq (by omega) (by omega)
  have hor : ∀ {p q : Bool}, (p = true → Post 1 τ) → (p = false → Post (nu_b q) τ) → Post (nu_b (p || q)) τ := fun h1 h0 => by
    rename_i p q
    cases p
    · exact h0 rfl
    · exact h1 rfl
  -- two tests, one after the other
  have two : ∀ {u s t : Nat}, u < pJ P → s < pJ P → t < pJ P → ∀ {q : Bool}, Post (nu_b (pon P u s t || q)) τ → ∀ {K : lf_St → Prop}, (Post (nu_b q) τ → K τ) → wp_X6_isOn (nI u) (nI s) (nI t) τ (fun r σ3 => ((¬ r = 0) → Post 1 σ3) ∧ ((r = 0) → K σ3)) := by
    intro u s t hu hs ht q hp K hK
    refine sp_isOn wf hM hu hs ht ?_
    cases h : pon P u s t
    · rw [h] at hp
      exact ⟨fun z => absurd rfl z, fun _ => hK hp⟩
    · rw [h] at hp
      exact ⟨fun _ => hp, fun z => absurd z (by decide)⟩
  have last : ∀ {u s t : Nat}, u < pJ P → s < pJ P → t < pJ P → Post (nu_b (pon P u s t)) τ → wp_X6_isOn (nI u) (nI s) (nI t) τ (fun r5 σ5 => ((r5 = 0) → (Post 0 σ5)) ∧ ((¬ (r5 = 0)) → (Post 1 σ5))) := by
    intro u s t hu hs ht hp
    refine sp_isOn wf hM hu hs ht ?_
    cases h : pon P u s t
    · rw [h] at hp
      exact ⟨fun _ => hp, fun z => absurd rfl z⟩
    · rw [h] at hp
      exact ⟨fun z => absurd z (by decide), fun _ => hp⟩
  have j75 : ∀ {s : Nat}, (s = a ∨ s = b) → (s = c ∨ s = d) → Post (nu_b (pon P (a + b - s) c d || pon P (c + d - s) a b)) τ → J_X6_areCrossed_75 Post (nI a) (nI b) (nI c) (nI d) (nI s) τ := by
    intro s h1 h2 hp
    unfold J_X6_areCrossed_75
    intro v1 e1 v2 e2
    have f1 : v1 = nI (a + b - s) := by rw [e1, nu_sum, pk_sub (by omega)]
    have f2 : v2 = nI (c + d - s) := by rw [e2, nu_sum, pk_sub (by omega)]
    subst f1
    subst f2
    exact two (by omega) hc hd hp (fun hp2 => last (by omega) ha hb hp2)
  have j57 : (a = c ∨ a = d ∨ b = c ∨ b = d) → J_X6_areCrossed_57 Post (nI a) (nI b) (nI c) (nI d) τ := by
    intro hs
    unfold pcr4 at hP
    rw [if_pos hs] at hP
    unfold J_X6_areCrossed_57 J_X6_areCrossed_69
    by_cases q : a = c ∨ a = d
    · rw [if_pos q] at hP
      have : J_X6_areCrossed_75 Post (nI a) (nI b) (nI c) (nI d) (nI a) τ := j75 (Or.inl rfl) q (by rw [show a + b - a = b by omega]; exact hP)
      refine ⟨fun _ => this, fun n => ⟨fun n2 => ?_, fun _ => this⟩⟩
      rcases q with q | q
      · exact absurd (by rw [q]) n
      · exact absurd (by rw [q]) n2
    · rw [if_neg q] at hP
      have : J_X6_areCrossed_75 Post (nI a) (nI b) (nI c) (nI d) (nI b) τ := j75 (Or.inr rfl) (by omega) (by rw [show a + b - b = a by omega]; exact hP)
      exact ⟨fun h => absurd ((eqv ha hc).mp h) (by omega), fun _ => ⟨fun _ => this, fun h => absurd ((eqv ha hd).mp h) (by omega)⟩⟩
  refine ⟨fun h => j57 (Or.inl ((eqv ha hc).mp h)), fun n1 => ⟨fun h => j57 (Or.inr (Or.inl ((eqv ha hd).mp h))), fun n2 => ⟨fun h => j57 (Or.inr (Or.inr (Or.inl ((eqv hb hc).mp h)))), fun n3 => ⟨fun n4 => ?_, fun h => j57 (Or.inr (Or.inr (Or.inr ((eqv hb hd).mp h))))⟩⟩⟩⟩
  have hs : ¬ (a = c ∨ a = d ∨ b = c ∨ b = d) := by
    intro h
    rcases h with h | h | h | h
    · exact n1 (by rw [h])
    · exact n2 (by rw [h])
    · exact n3 (by rw [h])
    · exact n4 (by rw [h])
  unfold pcr4 at hP
  rw [if_neg hs, Bool.or_assoc, Bool.or_assoc, Bool.or_assoc] at hP
  refine two ha hc hd hP (fun hP => two hb hc hd hP (fun hP => two hc ha hb hP (fun hP => ?_)))
  refine sp_isOn wf hM hd ha hb ?_
  cases h : pon P d a b
  · rw [h] at hP
    refine ⟨fun _ => ?_, fun z => absurd rfl z⟩
    have hP : Post (nu_b (decide (psd P a b c * psd P a b d < 0) && decide (psd P c d a * psd P c d b < 0))) τ := hP
    refine sp_side wf hM ha hb hc (fun r1 h1 => sp_side wf hM ha hb hd (fun r2 h2 => ⟨fun z => ?_, fun z => sp_side wf hM hc hd ha (fun r3 h3 => sp_side wf hM hc hd hb (fun r4 h4 => ⟨fun z2 => ?_, fun z2 => ?_⟩))⟩))
    · rw [decide_eq_false ((sgn_mul h1 h2).mp z)] at hP
      exact hP
    · rw [decide_eq_false ((sgn_mul h3 h4).mp z2), Bool.and_false] at hP
      exact hP
    · have y1 : psd P a b c * psd P a b d < 0 := Decidable.byContradiction fun q => z ((sgn_mul h1 h2).mpr q)
      have y2 : psd P c d a * psd P c d b < 0 := Decidable.byContradiction fun q => z2 ((sgn_mul h3 h4).mpr q)
      rw [decide_eq_true y1, decide_eq_true y2] at hP
      exact hP
  · rw [h] at hP
    exact ⟨fun z => absurd z (by decide), fun _ => hP⟩
