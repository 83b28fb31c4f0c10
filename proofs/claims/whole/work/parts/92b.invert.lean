/-! THE CLASS'S invert: whole elimination above and below -/
def ci_v (G : Nat → Nat → Int) (k i j : Nat) : Int := if i < k then dt_x G k j i else dt_b G k i j
def ci_St (G : Nat → Nat → Int) (n k : Nat) (T : Nat → Nat → Int64) : Prop := ∀ i j, i < n → j < 2 * n → (T i j).toInt = ci_v G k i j
theorem ci_v_le {G : Nat → Nat → Int} {n k i j : Nat} (h : dt_cb G n 0 1 24) (hn : n ≤ 6) (hk : k < n) (hi : i < n) : (ci_v G k i j).natAbs ≤ 24 ^ 6 := by
  unfold ci_v
  split
  · exact Nat.le_trans (dt_x_le h (by omega)) (Nat.pow_le_pow_right (by decide) (by omega))
  · by_cases q : j < k
    · rw [dt_b_left q]
      decide
    · exact Nat.le_trans (dt_b_le h (by decide) (by omega) hi (by omega)) (by rw [Nat.one_mul]; exact Nat.pow_le_pow_right (by decide) (by omega))
theorem ci_row {σ : lf_St} {T : Nat → Nat → Int64} {n k : Nat} (hr : lf_gi σ 7 = nI n) (hn : n ≤ 6) (hk : k < n) {Post : Int32 → lf_St → Prop} (h0 : (∀ i, k ≤ i → i < n → (T i k).toInt = 0) → Post (-1) (lf_tb σ T)) (h1 : ∀ r, k ≤ r → r < n → (T r k).toInt ≠ 0 → Post (nI r) (lf_tb σ T)) : wp_X1_rowWithPivot (nI k) (lf_tb σ T) Post := by
  have hg : lf_gi (lf_tb σ T) 7 = nI n := hr
  unfold wp_X1_rowWithPivot
  refine pk_loop (fun fu i (_ : Unit) => L_X1_rowWithPivot_2 Post fu (nI k) (nI i) (lf_tb σ T)) (fun i _ => k ≤ i ∧ ∀ a, k ≤ a → a < i → (T a k).toInt = 0) n k () (by omega) ⟨Nat.le_refl _, fun a b c => by omega⟩ ?_ ?_
  · intro m _ ⟨_, hq⟩
    show L_X1_rowWithPivot_2 Post (m + 1) _ _ _
    unfold L_X1_rowWithPivot_2
    rw [hg]
    exact ⟨fun _ => h0 hq, fun h => absurd (nI_le (Nat.le_refl _) (by omega)) h⟩
  · intro m i _ hin ⟨hki, hq⟩ ih
    show L_X1_rowWithPivot_2 Post (m + 1) _ _ _
    unfold L_X1_rowWithPivot_2
    rw [hg, nu_cl (by omega), nu_cl (by omega), tb_al (by omega)]
    refine ⟨fun h => absurd h (nI_ge hin (by omega)), fun _ => ⟨vp_in_nI (by omega) (by omega), vp_in_nI (by omega) (by omega), fun hz v5 e5 => ?_, fun hz => h1 i hki hin (fun z => hz (nu_l0.mpr z))⟩⟩
    rw [e5, nI_1]
    refine ih () ⟨by omega, fun a b c => ?_⟩
    by_cases q : a = i
    · rw [q]
      exact nu_l0.mp hz
    · exact hq a b (by omega)
theorem ci_swap {σ : lf_St} {T : Nat → Nat → Int64} {n k r : Nat} (hr : lf_gi σ 7 = nI n) (hn : n ≤ 6) (hk : k < n) (hrn : r < n) {Post : lf_St → Prop} (h : ∀ T', (∀ i j, i < n → j < 2 * n → T' i j = T (if i = k then r else if i = r then k else i) j) → Post (lf_tb σ T')) : wp_X1_swapRows (nI r) (nI k) (lf_tb σ T) Post := by
  have hg : ∀ T, lf_gi (lf_tb σ T) 7 = nI n := fun _ => hr
  unfold wp_X1_swapRows
  have z := pk_loop (fun fu j T' => L_X1_swapRows_2 Post fu (nI r) (nI k) (nI j) (lf_tb σ T')) (fun j T' => ∀ i c, i < n → c < 2 * n → T' i c = T (if c < j then (if i = k then r else if i = r then k else i) else i) c) (2 * n) 0 T (by omega) (fun i c _ _ => by rw [if_neg (by omega)]) ?_ ?_
  · rw [nI_0] at z
    exact z
  · intro m T' hq
    show L_X1_swapRows_2 Post (m + 1) _ _ _ _
    unfold L_X1_swapRows_2
    rw [hg, nu_2]
    exact ⟨fun _ => h T' (fun i c a b => by rw [hq i c a b, if_pos b]), fun h => absurd (nI_le (Nat.le_refl _) (by omega)) h⟩
  · intro m j T' hjn hq ih
    show L_X1_swapRows_2 Post (m + 1) _ _ _ _
    unfold L_X1_swapRows_2
    rw [hg, nu_2, nu_cl (n := r) (by omega), nu_cl (n := k) (by omega), nu_cl (n := j) (by omega), tb_al (i := r) (by omega), tb_al (i := k) (by omega), tb_sb (i := r) (by omega)]
    refine ⟨fun h => absurd h (nI_ge hjn (by omega)), fun _ => ⟨vp_in_nI (by omega) (by omega), vp_in_nI (by omega) (by omega), fun v4 e4 => ⟨vp_in_nI (by omega) (by omega), vp_in_nI (by omega) (by omega), vp_in_nI (by omega) (by omega), vp_in_nI (by omega) (by omega), vp_in_nI (by omega) (by omega), vp_in_nI (by omega) (by omega), fun v11 e11 => ?_⟩⟩⟩
    rw [e11, nI_1, tb_sb (i := k) (by omega)]
    refine ih _ (fun i c a1 a2 => ?_)
    rw [tb_up_at, tb_up_at]
    by_cases q : c < j
    · rw [if_neg (by omega), if_neg (by omega), hq i c a1 a2, if_pos q, if_pos (show c < j + 1 by omega)]
    · by_cases q2 : c = j
      · subst q2
        rw [if_pos (show c < c + 1 by omega)]
        by_cases e1 : i = k
        · subst e1
          rw [if_pos ⟨rfl, rfl⟩, if_pos rfl, e4, hq r c hrn hjn, if_neg q]
        · rw [if_neg (fun z => e1 z.1), if_neg e1]
          by_cases e2 : i = r
          · subst e2
            rw [if_pos ⟨rfl, rfl⟩, if_pos rfl, hq k c hk hjn, if_neg q]
          · rw [if_neg (fun z => e2 z.1), if_neg e2, hq i c a1 a2, if_neg q]
      · rw [if_neg (by omega), if_neg (by omega), hq i c a1 a2, if_neg q, if_neg (show ¬ c < j + 1 by omega)]
/-- the value behind step k -/
theorem ci_next {G : Nat → Nat → Int} {k i j : Nat} (h1 : dt_b G k k k ≠ 0) (hik : i ≠ k) : dt_b G k k k * ci_v G k i j - ci_v G k i k * dt_b G k k j = dt_D k G * ci_v G (k + 1) i j := by
  unfold ci_v
  by_cases q : i < k
  · rw [if_pos q, if_pos q, if_pos (by omega)]
    exact dt_jordan h1 q
  · rw [if_neg q, if_neg q, if_neg (by omega)]
    exact dt_sylv h1
theorem ci_clear {σ : lf_St} {T : Nat → Nat → Int64} {n k : Nat} {G : Nat → Nat → Int} (hr : lf_gi σ 7 = nI n) (hn : n ≤ 6) (hk : k < n) (hcb : dt_cb G n 0 1 24) {x2 : Int64} (hx2 : x2.toInt = dt_D k G) (h0 : dt_D k G ≠ 0) (h1 : dt_b G k k k ≠ 0) (hT : ci_St G n k T) {Post : lf_St → Prop} (h : ∀ T', ci_St G n (k + 1) T' → Post (lf_tb σ T')) : wp_X1_clearColumn (nI k) x2 (lf_tb σ T) Post := by
  have hg : ∀ T, lf_gi (lf_tb σ T) 7 = nI n := fun _ => hr
  have hkk : ∀ j, ci_v G k k j = dt_b G k k j := fun j => by unfold ci_v; rw [if_neg (by omega)]
  unfold wp_X1_clearColumn
  rw [nu_cl (by omega), tb_al (by omega)]
  refine ⟨fun _ => ⟨vp_in_nI (by omega) (by omega), vp_in_nI (by omega) (by omega), fun x4 e4 => ?_⟩, fun z => absurd (nu_l0.mp z) (by rw [hx2]; exact h0)⟩
  have hx4 : x4.toInt = dt_b G k k k := by rw [e4, hT k k hk (by omega), hkk]
  have z := pk_loop (fun fu i T' => L_X1_clearColumn_20 Post fu (nI k) x2 x4 (nI i) (lf_tb σ T')) (fun i T' => ∀ a c, a < n → c < 2 * n → (T' a c).toInt = if a < i ∧ a ≠ k then ci_v G (k + 1) a c else ci_v G k a c) n 0 T (by omega) (fun a c a1 a2 => by rw [if_neg (by omega)]; exact hT a c a1 a2) ?_ ?_
  · rw [nI_0] at z
    exact z
  · intro m T' hq
    show L_X1_clearColumn_20 Post (m + 1) _ _ _ _ _
    unfold L_X1_clearColumn_20
    rw [hg]
    refine ⟨fun _ => h T' (fun a c a1 a2 => ?_), fun h => absurd (nI_le (Nat.le_refl _) (by omega)) h⟩
    rw [hq a c a1 a2]
    by_cases q : a = k
    · subst q
      rw [if_neg (by omega), hkk]
      unfold ci_v
      rw [if_pos (by omega), dt_jordan_k h0 h1]
    · rw [if_pos ⟨a1, q⟩]
  · intro m i T' hin hq ih
    show L_X1_clearColumn_20 Post (m + 1) _ _ _ _ _
    unfold L_X1_clearColumn_20
    rw [hg, nu_cl (n := i) (by omega), nu_cl (n := k) (by omega), tb_al (by omega)]
    refine ⟨fun h => absurd h (nI_ge hin (by omega)), fun _ => ⟨vp_in_nI (by omega) (by omega), vp_in_nI (by omega) (by omega), fun x7 e7 => ?_⟩⟩
    by_cases hik : i = k
    · subst hik
      refine ⟨1, ?_⟩
      unfold L_X1_clearColumn_43
      have hd : ∀ v : Int32, v = nI i + 1 → L_X1_clearColumn_20 Post m (nI i) x2 x4 v (lf_tb σ T') := fun v e => by
        rw [e, nI_1]
        refine ih T' (fun a c a1 a2 => ?_)
        rw [hq a c a1 a2]
        by_cases q : a < i ∧ a ≠ i
        · rw [if_pos q, if_pos (by omega)]
        · rw [if_neg q, if_neg (by omega)]
      exact ⟨fun _ v e => hd v e, fun _ => ⟨fun _ v e => hd v e, fun z => absurd rfl z⟩⟩
    · have hx7 : x7.toInt = ci_v G k i k := by rw [e7, hq i k hin (by omega), if_neg (by omega)]
      have y := pk_loop (fun fu j T' => L_X1_clearColumn_43 (L_X1_clearColumn_20 Post m) Post fu (nI k) x2 x4 (nI i) x7 (nI j) (lf_tb σ T')) (fun j T' => ∀ a c, a < n → c < 2 * n → (T' a c).toInt = if (a < i ∧ a ≠ k) ∨ (a = i ∧ c < j) then ci_v G (k + 1) a c else ci_v G k a c) (2 * n) 0 T' (by omega) (fun a c a1 a2 => by
        rw [hq a c a1 a2]
        by_cases q : a < i ∧ a ≠ k
        · rw [if_pos q, if_pos (Or.inl q)]
        · rw [if_neg q, if_neg (by omega)]) ?_ ?_
      · rw [nI_0] at y
        exact y
      · intro f T2 hq2
        show L_X1_clearColumn_43 _ Post (f + 1) _ _ _ _ _ _ _
        unfold L_X1_clearColumn_43
        rw [hg, nu_2]
        refine ⟨fun _ v e => ?_, fun h => absurd (nI_le (Nat.le_refl _) (by omega)) h⟩
        rw [e, nI_1]
        refine ih T2 (fun a c a1 a2 => ?_)
        rw [hq2 a c a1 a2]
        by_cases q : (a < i ∧ a ≠ k) ∨ (a = i ∧ c < 2 * n)
        · rw [if_pos q, if_pos (by omega)]
        · rw [if_neg q, if_neg (by omega)]
      · intro f j T2 hjn hq2 ihj
        show L_X1_clearColumn_43 _ Post (f + 1) _ _ _ _ _ _ _
        unfold L_X1_clearColumn_43
        rw [hg, nu_2, nu_cl (n := i) (by omega), nu_cl (n := k) (by omega), nu_cl (n := j) (by omega), tb_al (i := i) (by omega), tb_al (i := k) (by omega), tb_sb (i := i) (by omega)]
        refine ⟨fun h => absurd h (nI_ge hjn (by omega)), fun _ => ⟨fun z => absurd ((nI_eq (by omega) (by omega)).mp z) hik, fun _ => ⟨vp_in_nI (by omega) (by omega), vp_in_nI (by omega) (by omega), vp_in_nI (by omega) (by omega), vp_in_nI (by omega) (by omega), vp_in_nI (by omega) (by omega), fun z => h0 (by rw [← hx2]; exact nu_l0.mp z), vp_in_nI (by omega) (by omega), fun v12 e12 => ?_⟩⟩⟩
        rw [e12, nI_1]
        refine ihj _ (fun a c a1 a2 => ?_)
        rw [tb_up_at]
        by_cases q : a = i ∧ c = j
        · obtain ⟨q1, q2⟩ := q
          subst q1
          subst q2
          rw [if_pos ⟨rfl, rfl⟩, if_pos (Or.inr ⟨rfl, by omega⟩)]
          have g1 := hq2 a c a1 a2
          rw [if_neg (by omega)] at g1
          have g2 := hq2 k c hk a2
          rw [if_neg (by omega), hkk] at g2
          have hb := fun a j (ha : a < n) => ci_v_le (j := j) hcb hn hk ha
          have hbk := fun j => hkk j ▸ hb k j hk
          refine nu_bar (T := 24 ^ 6) (by rw [hx4]; exact hbk k) (by rw [g1]; exact hb a c a1) (by rw [hx7]; exact hb a k a1) (by rw [g2]; exact hbk c) (by decide) (by rw [hx2]; exact h0) ?_
          rw [hx4, g1, hx7, g2, hx2]
          exact ci_next h1 hik
        · rw [if_neg q, hq2 a c a1 a2]
          by_cases q3 : (a < i ∧ a ≠ k) ∨ (a = i ∧ c < j)
          · rw [if_pos q3, if_pos (by omega)]
          · rw [if_neg q3, if_neg (by omega)]
