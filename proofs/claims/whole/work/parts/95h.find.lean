/-! THE BEST OF A KIND -/
theorem fr_cancel {b x y : Int} (hb : 0 < b) (h : b * x < b * y) : x < y := Int.lt_of_mul_lt_mul_left h (Int.le_of_lt hb)
theorem fr_cancel_le {b x y : Int} (hb : 0 < b) (h : b * x ≤ b * y) : x ≤ y := Int.le_of_mul_le_mul_left h hb
theorem fr_lt_le {c1 c2 c3 b1 b2 b3 : Int} (h1 : 0 < b1) (h2 : 0 < b2) (h3 : 0 < b3) (h : c1 * b2 < c2 * b1) (h' : c2 * b3 ≤ c3 * b2) : c1 * b3 < c3 * b1 := by
  refine fr_cancel h2 ?_
  have e1 := Int.mul_lt_mul_of_pos_right h h3
  have e2 := Int.mul_le_mul_of_nonneg_right h' (Int.le_of_lt h1)
  have f1 : b2 * (c1 * b3) = c1 * b2 * b3 := by grind
  have f2 : b2 * (c3 * b1) = c3 * b2 * b1 := by grind
  have f3 : c2 * b1 * b3 = c2 * b3 * b1 := by grind
  omega
theorem fr_le_lt {c1 c2 c3 b1 b2 b3 : Int} (h1 : 0 < b1) (h2 : 0 < b2) (h3 : 0 < b3) (h : c1 * b2 ≤ c2 * b1) (h' : c2 * b3 < c3 * b2) : c1 * b3 < c3 * b1 := by
  refine fr_cancel h2 ?_
  have e1 := Int.mul_le_mul_of_nonneg_right h (Int.le_of_lt h3)
  have e2 := Int.mul_lt_mul_of_pos_right h' h1
  have f1 : b2 * (c1 * b3) = c1 * b2 * b3 := by grind
  have f2 : b2 * (c3 * b1) = c3 * b2 * b1 := by grind
  have f3 : c2 * b1 * b3 = c2 * b3 * b1 := by grind
  omega
theorem fr_eq {c1 c2 c3 b1 b2 b3 : Int} (h2 : 0 < b2) (h : c1 * b2 = c2 * b1) (h' : c2 * b3 = c3 * b2) : c1 * b3 = c3 * b1 := by
  have e : b2 * (c1 * b3) = b2 * (c3 * b1) := by grind
  exact Int.eq_of_mul_eq_mul_left (by omega) e
def pbt (P : pn_T) (s : Nat) (c : Int) (s' : Nat) (c' : Int) : Prop := c * pbel P s' < c' * pbel P s ∨ (c * pbel P s' = c' * pbel P s ∧ (s = s' ∨ pah s s'))
theorem pbt_trans {P : pn_T} {s1 s2 s3 : Nat} {c1 c2 c3 : Int} (h1 : 0 < pbel P s1) (h2 : 0 < pbel P s2) (h3 : 0 < pbel P s3) (h : pbt P s1 c1 s2 c2) (h' : pbt P s2 c2 s3 c3) : pbt P s1 c1 s3 c3 := by
  rcases h with h | ⟨h, o⟩
  · rcases h' with h' | ⟨h', o'⟩
    · exact Or.inl (fr_lt_le h1 h2 h3 h (Int.le_of_lt h'))
    · exact Or.inl (fr_lt_le h1 h2 h3 h (Int.le_of_eq h'))
  · rcases h' with h' | ⟨h', o'⟩
    · exact Or.inl (fr_le_lt h1 h2 h3 (Int.le_of_eq h) h')
    · refine Or.inr ⟨fr_eq h2 h h', ?_⟩
      rcases o with rfl | o
      · exact o'
      · rcases o' with rfl | o'
        · exact Or.inr o
        · exact Or.inr (ah_trans o o')
theorem pcost_fun {P : pn_T} {k s : Nat} {c c' : Int} (h : pcost P k s c) (h' : pcost P k s c') : c = c' := by
  rcases h with ⟨a, e⟩ | ⟨a, _, e⟩ | ⟨a, _, e⟩ | ⟨a, e⟩ <;> rcases h' with ⟨a', e'⟩ | ⟨a', _, e'⟩ | ⟨a', _, e'⟩ | ⟨a', e'⟩ <;> first | omega
def pbN (P : pn_T) (k N s : Nat) (c : Int) : Prop := s < N ∧ pch P s = true ∧ pcost P k s c ∧ ∀ s' c', s' < N → pch P s' = true → pcost P k s' c' → pbt P s c s' c'
theorem pb_uniq {P : pn_T} {k s s' : Nat} {c c' : Int} (h : pbest P k s c) (h' : pbest P k s' c') : s = s' ∧ c = c' := by
  have e : s = s' := by
    have q1 := h.2.2.2 s' c' h'.1 h'.2.1 h'.2.2.1
    have q2 := h'.2.2.2 s c h.1 h.2.1 h.2.2.1
    rcases q1 with q1 | ⟨q1, o1⟩
    · rcases q2 with q2 | ⟨q2, _⟩ <;> omega
    · rcases q2 with q2 | ⟨q2, o2⟩
      · omega
      · rcases o1 with o1 | o1
        · exact o1
        · rcases o2 with o2 | o2
          · exact o2.symm
          · exact (ah_anti o1 o2).elim
  subst e
  exact ⟨rfl, pcost_fun h.2.2.1 h'.2.2.1⟩
/-- what the search of the model holds -/
def mF (P : pn_T) (k N : Nat) (x2 : Int32) (x y : Int64) : Prop := (x2 = -6 ∧ ∀ s c, s < N → pch P s = true → ¬ pcost P k s c) ∨ ∃ b c, x2 = nI b ∧ pbN P k N b c ∧ x.toInt = c ∧ y.toInt = pbel P b
theorem mF_no {P : pn_T} {k N : Nat} {x2 : Int32} {x y : Int64} (h : mF P k N x2 x y) (hn : pch P N = true → ∀ c, ¬ pcost P k N c) : mF P k (N + 1) x2 x y := by
  rcases h with ⟨h1, h2⟩ | ⟨b, c, h1, h2, h3, h4⟩
  · refine Or.inl ⟨h1, fun s c hs hp => ?_⟩
    by_cases e : s = N
    · subst e; exact hn hp c
    · exact h2 s c (by omega) hp
  · refine Or.inr ⟨b, c, h1, ⟨by have := h2.1; omega, h2.2.1, h2.2.2.1, fun s' c' hs hp hc => ?_⟩, h3, h4⟩
    by_cases e : s' = N
    · subst e; exact absurd hc (hn hp c')
    · exact h2.2.2.2 s' c' (by omega) hp hc
theorem mF_keep {P : pn_T} {k N b : Nat} {c cN : Int} (h : pbN P k N b c) (hN : pcost P k N cN) (hk : pbt P b c N cN) : pbN P k (N + 1) b c := by
  refine ⟨by have := h.1; omega, h.2.1, h.2.2.1, fun s' c' hs hp hc => ?_⟩
  by_cases e : s' = N
  · subst e
    rw [pcost_fun hc hN]
    exact hk
  · exact h.2.2.2 s' c' (by omega) hp hc
theorem mF_take {P : pn_T} {k N b : Nat} {c cN : Int} (h : pbN P k N b c) (hp : pch P N = true) (hN : pcost P k N cN) (hk : pbt P N cN b c) : pbN P k (N + 1) N cN := by
  refine ⟨by omega, hp, hN, fun s' c' hs hp' hc => ?_⟩
  by_cases e : s' = N
  · subst e
    rw [pcost_fun hc hN]
    exact Or.inr ⟨rfl, Or.inl rfl⟩
  · exact pbt_trans (pbel_pos hp) (pbel_pos h.2.1) (pbel_pos hp') hk (h.2.2.2 s' c' (by omega) hp' hc)
theorem mF_first {P : pn_T} {k N : Nat} {cN : Int} (h : ∀ s c, s < N → pch P s = true → ¬ pcost P k s c) (hp : pch P N = true) (hN : pcost P k N cN) : pbN P k (N + 1) N cN := by
  refine ⟨by omega, hp, hN, fun s' c' hs hp' hc => ?_⟩
  by_cases e : s' = N
  · subst e
    rw [pcost_fun hc hN]
    exact Or.inr ⟨rfl, Or.inl rfl⟩
  · exact absurd hc (h s' c' (by omega) hp')
theorem sp_find {P : pn_T} {κ : mk_T} {τ : lf_St} (wf : pwf P) (hI : mI P κ τ) {k : Nat} (hk4 : k < 4) {Post : Int32 → lf_St → Prop} (h0 : (∀ s c, s < 2 ^ pB P → pch P s = true → ¬ pcost P k s c) → ∀ τ' x y, mR P (κ.1, x, y, κ.2.2.2) τ' → Post (-6) τ') (h1 : ∀ s c, pbest P k s c → ∀ τ' x y, mR P (κ.1, x, y, κ.2.2.2) τ' → x.toInt = c → y.toInt = pbel P s → Post (nI s) τ') : wp_X6_find (nI k) τ Post := by
  have hB := wf.2.1
  have hp10 : 2 ^ pB P ≤ 2 ^ 10 := Nat.pow_le_pow_right (by decide) hB
  unfold wp_X6_find
  refine sp_layRows wf hI (fun τ1 hR1 => ?_)
  have z := pk_loop (fun fu N (q : Int32 × lf_St) => L_X6_find_9 Post fu (nI k) q.1 (nI N) q.2) (fun N q => ∃ x y, mR P (κ.1, x, y, κ.2.2.2) q.2 ∧ mF P k N q.1 x y) (2 ^ pB P) 0 (-6, τ1) (Nat.zero_le _) ⟨κ.2.1, κ.2.2.1, hR1, Or.inl ⟨rfl, fun s c h => absurd h (Nat.not_lt_zero s)⟩⟩ ?_ ?_
  · rw [nI_0] at z
    exact z
  · intro n ⟨x2, t⟩ ⟨x, y, hR, hF⟩
    dsimp only at hR hF
    show L_X6_find_9 Post (n + 1) _ x2 _ t
    unfold L_X6_find_9
    rw [hR.1.1.2.1, bt_shl (by omega)]
    refine ⟨fun _ => ?_, fun h => absurd (nI_le (Nat.le_refl _) (by omega)) h⟩
    rcases hF with ⟨e, h⟩ | ⟨b, c, e, h2, h3, h4⟩
    · rw [e]; exact h0 h t x y hR
    · rw [e]; exact h1 b c h2 t x y hR h3 h4
  · intro n N ⟨x2, t⟩ hN ⟨x, y, hR, hF⟩ ih
    dsimp only at hR hF
    show L_X6_find_9 Post (n + 1) _ x2 _ t
    unfold L_X6_find_9
    rw [hR.1.1.2.1, bt_shl (by omega)]
    refine ⟨fun h => absurd h (nI_ge hN (by omega)), fun _ => sp_isChoice wf hR hN (fun hch t2 hR2 => ⟨fun _ v e => ?_, fun q => absurd rfl q⟩) (fun hch t2 hR2 hC2 => ⟨fun q => absurd q (by decide), fun _ => ?_⟩)⟩
    · rw [e, nI_1]
      exact ih (x2, t2) ⟨x, y, hR2, mF_no hF (fun q => by rw [hch] at q; cases q)⟩
    · have hnb := pch_nb hch
      refine sp_costOf wf hR2 hk4 hnb hC2 (fun r5 hr5 => ?_)
      have g22 : lf_gl t2 22 = x := hR2.1.2.2.1
      have g23 : lf_gl t2 23 = y := hR2.1.2.2.2.1
      rw [g22, g23]
      have keep : mF P k (N + 1) x2 x y → ∀ v, v = nI N + 1 → L_X6_find_9 Post n (nI k) x2 v t2 := by
        intro hF2 v e
        rw [e, nI_1]
        exact ih (x2, t2) ⟨x, y, hR2, hF2⟩
      have take : (∃ c, pbN P k (N + 1) N c ∧ r5.toInt = c) → J_X6_find_121 (L_X6_find_9 Post n) Post (nI k) (nI N) r5 t2 := by
        intro ⟨c, h2, h3⟩
        unfold J_X6_find_121
        intro t1 e1 v e
        have g20 : lf_gl t1 20 = lf_gl t2 20 := by rw [e1]; rfl
        rw [e, nI_1, g20]
        refine ih (nI N, _) ⟨r5, lf_gl t2 20, ?_, Or.inr ⟨N, c, rfl, h2, h3, hC2.1⟩⟩
        rw [e1]
        exact ⟨⟨hR2.1.1, hR2.1.2.1, rfl, rfl, hR2.1.2.2.2.2.1, hR2.1.2.2.2.2.2⟩, hR2.2⟩
      have z0 := nu_z64
      rcases hr5 with ⟨c, hc, ec⟩ | ⟨hnc, ec⟩
      · have hcl := pcost_le wf hnb hc
        have nneg : ¬ r5 < 0 := fun q => by have := nu_lt64.mp q; omega
        rcases hF with ⟨e2, hno⟩ | ⟨b, cb, e2, hb, ex, ey⟩
        · have tk := take ⟨c, mF_first hno hch hc, ec⟩
          subst e2
          refine ⟨fun _ => ?_, fun q => absurd nu_neg6 q⟩
          unfold J_X6_find_58 J_X6_find_63 J_X6_find_101 J_X6_find_102
          exact ⟨fun _ => ⟨fun q => absurd q nneg, fun _ => ⟨fun _ => tk, fun q => absurd q (by decide)⟩⟩, fun q => absurd nu_neg6 q⟩
        · have hbN := hb.1
          have hbnb := pch_nb hb.2.1
          have hbc := pcost_le wf hbnb hb.2.2.1
          have hbb := pbel_le wf hbnb
          have hbN' := pbel_le wf hnb
          have p1 := pbel_pos hb.2.1
          have p2 := pbel_pos hch
          have m1 : (r5 * y).toInt = c * pbel P b := nu_mul64 (S := 706000000000) (T := 2985984) ec ey (by omega) (by omega) (by decide)
          have m2 : (x * lf_gl t2 20).toInt = cb * pbel P N := nu_mul64 (S := 706000000000) (T := 2985984) ex hC2.1 (by omega) (by omega) (by decide)
          have nx : ¬ x2 < 0 := by rw [e2]; exact nI_pos (by omega)
          refine ⟨fun q => absurd q nx, fun _ => ⟨fun hle => ?_, fun hgt => ?_⟩⟩
          · have hle := nu_le64.mp hle
            rw [m1, m2] at hle
            unfold J_X6_find_63 J_X6_find_101 J_X6_find_102
            rw [g22, g23]
            refine ⟨fun q => absurd q nx, fun _ => ⟨fun hne => ⟨fun q => absurd q nneg, fun _ => ⟨fun q => absurd rfl q, fun _ => ⟨fun _ => keep ?_, fun q => absurd rfl q⟩⟩⟩, fun heq => ?_⟩⟩
            · have hne : c * pbel P b ≠ cb * pbel P N := fun q => hne (nu_eq64.mpr (by rw [m1, m2, q]))
              exact Or.inr ⟨b, cb, e2, mF_keep hb hc (Or.inl (by omega)), ex, ey⟩
            · have heq := nu_eq64.mp heq
              rw [m1, m2] at heq
              rw [e2]
              refine sp_isAhead (by omega) (by omega) (fun hna => ⟨fun _ => ?_, fun q => absurd rfl q⟩) (fun hya => ⟨fun q => absurd q (by decide), fun _ => ?_⟩)
              · refine ⟨fun q => absurd q nneg, fun _ => ⟨fun q => absurd rfl q, fun _ => ⟨fun _ => ?_, fun q => absurd rfl q⟩⟩⟩
                rw [← e2]
                refine keep (Or.inr ⟨b, cb, e2, mF_keep hb hc (Or.inr ⟨heq.symm, ?_⟩), ex, ey⟩)
                rcases ah_tot (show b ≠ N by omega) with o | o
                · exact Or.inr o
                · exact absurd o hna
              · have tk := take ⟨c, mF_take hb hch hc (Or.inr ⟨heq, Or.inr hya⟩), ec⟩
                exact ⟨fun q => absurd q nneg, fun _ => ⟨fun q => absurd rfl q, fun _ => ⟨fun q => absurd q (by decide), fun _ => tk⟩⟩⟩
          · have hgt : ¬ (x * lf_gl t2 20).toInt ≤ (r5 * y).toInt := fun q => hgt (nu_le64.mpr q)
            rw [m1, m2] at hgt
            have tk := take ⟨c, mF_take hb hch hc (Or.inl (by omega)), ec⟩
            unfold J_X6_find_58 J_X6_find_63 J_X6_find_101 J_X6_find_102
            rw [g22, g23]
            refine ⟨fun q => absurd q nx, fun _ => ⟨fun hne => ⟨fun q => absurd q nneg, fun _ => ⟨fun _ => tk, fun q => absurd q (by decide)⟩⟩, fun heq => ?_⟩⟩
            have heq := nu_eq64.mp heq
            rw [m1, m2] at heq
            omega
      · have neg : r5 < 0 := nu_lt64.mpr (by rw [ec, z0]; decide)
        have kp := keep (mF_no hF (fun _ => hnc))
        have all102 : ∀ x6 t0, J_X6_find_102 (L_X6_find_9 Post n) Post (nI k) x2 (nI N) r5 x6 t0 t2 := by
          intro x6 t0
          unfold J_X6_find_102
          exact ⟨fun _ => kp, fun q => absurd neg q⟩
        have all63 : ∀ t0, J_X6_find_63 (L_X6_find_9 Post n) Post (nI k) x2 (nI N) r5 t0 t2 := by
          intro t0
          unfold J_X6_find_63 J_X6_find_101
          refine ⟨fun _ => all102 _ _, fun nx => ⟨fun _ => all102 _ _, fun _ => ?_⟩⟩
          rcases hF with ⟨e2, _⟩ | ⟨b, cb, e2, hb, _⟩
          · rw [e2] at nx; exact absurd nu_neg6 nx
          · have := hb.1
            have e2' := e2
            rw [e2']
            rw [e2'] at all102
            exact sp_isAhead (by omega) (by omega) (fun _ => ⟨fun _ => all102 _ _, fun q => absurd rfl q⟩) (fun _ => ⟨fun q => absurd q (by decide), fun _ => all102 _ _⟩)
        unfold J_X6_find_58
        exact ⟨fun _ => all63 _, fun _ => ⟨fun _ => all63 _, fun _ => all63 _⟩⟩
