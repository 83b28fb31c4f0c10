/-! BORDERED MINORS: what whole elimination (Bareiss, and with the rows above: Jordan) holds at each step -/
def dt_bd (M : Nat → Nat → Int) (k r j : Nat) : Nat → Nat → Int := fun i c => M (if i = k then r else i) (if c = k then j else c)
def dt_b (M : Nat → Nat → Int) (k r j : Nat) : Int := dt_D (k + 1) (dt_bd M k r j)
def dt_x (M : Nat → Nat → Int) (k j t : Nat) : Int := - (dt_sg (k + t) * dt_D k (fun i c => M i (if dt_sk t c = k then j else dt_sk t c)))
theorem dt_sg_2 (k : Nat) : dt_sg (k + k) = 1 := by
  induction k with
  | zero => rfl
  | succ k ih =>
    rw [show k + 1 + (k + 1) = (k + k) + 1 + 1 by omega]
    show - - dt_sg (k + k) = 1
    rw [ih]
    rfl
theorem dt_b_exp (M : Nat → Nat → Int) (k r j : Nat) : dt_b M k r j = dt_D k M * M r j - dt_sm (fun t => dt_x M k j t * M r t) k := by
  unfold dt_b
  rw [dt_D_succ, dt_sm_split]
  have e1 : dt_sg (k + k) * dt_bd M k r j k k * dt_D k (fun i c => dt_bd M k r j i (dt_sk k c)) = dt_D k M * M r j := by
    rw [dt_sg_2]
    have : dt_D k (fun i c => dt_bd M k r j i (dt_sk k c)) = dt_D k M := dt_D_congr (fun i c hi hc => by
      show dt_bd M k r j i (dt_sk k c) = M i c
      unfold dt_bd dt_sk
      rw [if_pos hc, if_neg (by omega), if_neg (by omega)])
    rw [this]
    unfold dt_bd
    rw [if_pos rfl, if_pos rfl]
    grind
  have e2 : dt_sm (fun t => dt_sg (k + t) * dt_bd M k r j k t * dt_D k (fun i c => dt_bd M k r j i (dt_sk t c))) k = dt_sm (fun t => (-1) * (dt_x M k j t * M r t)) k := by
    apply dt_sm_congr
    intro t ht
    have : dt_D k (fun i c => dt_bd M k r j i (dt_sk t c)) = dt_D k (fun i c => M i (if dt_sk t c = k then j else dt_sk t c)) := dt_D_congr (fun i c hi hc => by
      show dt_bd M k r j i (dt_sk t c) = _
      unfold dt_bd
      rw [if_neg (by omega)])
    rw [this]
    unfold dt_x dt_bd
    rw [if_pos rfl, if_neg (by omega)]
    grind
  rw [e1, e2, dt_sm_mul]
  omega
theorem dt_b_top {M : Nat → Nat → Int} {k r j : Nat} (h : r < k) : dt_b M k r j = 0 := by
  unfold dt_b
  refine dt_eqr (c := r) (d := k) (by omega) (by omega) (by omega) (fun c _ => ?_)
  unfold dt_bd
  rw [if_neg (by omega : ¬ r = k), if_pos rfl]
theorem dt_x_sys {M : Nat → Nat → Int} {k r j : Nat} (h : r < k) : dt_sm (fun t => dt_x M k j t * M r t) k = dt_D k M * M r j := by
  have e := dt_b_exp M k r j
  rw [dt_b_top h] at e
  omega
theorem dt_b_sys (M : Nat → Nat → Int) (k r j : Nat) : dt_sm (fun t => dt_x M k j t * M r t) k = dt_D k M * M r j - dt_b M k r j := by
  have e := dt_b_exp M k r j
  omega
theorem dt_P_succ (M : Nat → Nat → Int) (k : Nat) : dt_D (k + 1) M = dt_b M k k k := by
  unfold dt_b
  apply dt_D_congr
  intro r c hr hc
  unfold dt_bd
  by_cases e1 : r = k <;> by_cases e2 : c = k <;> simp [e1, e2]
theorem dt_b_0 (M : Nat → Nat → Int) (r j : Nat) : dt_b M 0 r j = M r j := by
  rw [dt_b_exp]
  show 1 * M r j - 0 = M r j
  omega
/-- the heart: from step k to step k + 1 -/
theorem dt_z {M : Nat → Nat → Int} {k j : Nat} (h1 : dt_b M k k k ≠ 0) : ∀ t, t < k + 1 → (if t = k then dt_D k M * dt_b M k k j else dt_b M k k k * dt_x M k j t - dt_x M k k t * dt_b M k k j) = dt_D k M * dt_x M (k + 1) j t := by
  have key : ∀ t, t < k + 1 → (if t = k then dt_D k M * dt_b M k k j else dt_b M k k k * dt_x M k j t - dt_x M k k t * dt_b M k k j) - dt_D k M * dt_x M (k + 1) j t = 0 := by
    refine dt_uniq (n := k + 1) (M := M) (z := fun t => (if t = k then dt_D k M * dt_b M k k j else dt_b M k k k * dt_x M k j t - dt_x M k k t * dt_b M k k j) - dt_D k M * dt_x M (k + 1) j t) (by rw [dt_P_succ]; exact h1) (fun r hr => ?_)
    have s1 : dt_sm (fun t => ((if t = k then dt_D k M * dt_b M k k j else dt_b M k k k * dt_x M k j t - dt_x M k k t * dt_b M k k j) - dt_D k M * dt_x M (k + 1) j t) * M r t) (k + 1) = 1 * dt_sm (fun t => (if t = k then dt_D k M * dt_b M k k j else dt_b M k k k * dt_x M k j t - dt_x M k k t * dt_b M k k j) * M r t) (k + 1) + (- dt_D k M) * dt_sm (fun t => dt_x M (k + 1) j t * M r t) (k + 1) := dt_sm_lin (fun t _ => by grind)
    rw [s1, dt_x_sys hr, dt_sm_split]
    have s2 : dt_sm (fun t => (if t = k then dt_D k M * dt_b M k k j else dt_b M k k k * dt_x M k j t - dt_x M k k t * dt_b M k k j) * M r t) k = dt_b M k k k * dt_sm (fun t => dt_x M k j t * M r t) k + (- dt_b M k k j) * dt_sm (fun t => dt_x M k k t * M r t) k := dt_sm_lin (fun t ht => by rw [if_neg (by omega)]; grind)
    rw [s2, dt_P_succ, if_pos rfl, dt_b_sys, dt_b_sys]
    by_cases e : r = k
    · subst e
      grind
    · rw [dt_b_top (by omega : r < k), dt_b_top (by omega : r < k)]
      grind
  intro t ht
  have := key t ht
  omega
theorem dt_jordan {M : Nat → Nat → Int} {k j t : Nat} (h1 : dt_b M k k k ≠ 0) (ht : t < k) : dt_b M k k k * dt_x M k j t - dt_x M k k t * dt_b M k k j = dt_D k M * dt_x M (k + 1) j t := by
  have := dt_z (j := j) h1 t (by omega)
  rw [if_neg (by omega)] at this
  exact this
theorem dt_jordan_k {M : Nat → Nat → Int} {k j : Nat} (h0 : dt_D k M ≠ 0) (h1 : dt_b M k k k ≠ 0) : dt_x M (k + 1) j k = dt_b M k k j := by
  have := dt_z (j := j) h1 k (by omega)
  rw [if_pos rfl] at this
  exact (Int.eq_of_mul_eq_mul_left h0 this).symm
theorem dt_sylv {M : Nat → Nat → Int} {k i j : Nat} (h1 : dt_b M k k k ≠ 0) : dt_b M k k k * dt_b M k i j - dt_b M k i k * dt_b M k k j = dt_D k M * dt_b M (k + 1) i j := by
  rw [dt_b_exp M (k + 1) i j, dt_sm_split]
  have s : dt_D k M * (dt_sm (fun t => dt_x M (k + 1) j t * M i t) k + dt_x M (k + 1) j k * M i k) = dt_b M k k k * dt_sm (fun t => dt_x M k j t * M i t) k + (- dt_b M k k j) * dt_sm (fun t => dt_x M k k t * M i t) k + dt_D k M * dt_b M k k j * M i k := by
    have e1 : dt_sm (fun t => dt_D k M * (dt_x M (k + 1) j t * M i t)) k = dt_b M k k k * dt_sm (fun t => dt_x M k j t * M i t) k + (- dt_b M k k j) * dt_sm (fun t => dt_x M k k t * M i t) k := dt_sm_lin (fun t ht => by
      have := dt_jordan (j := j) h1 ht
      grind)
    rw [dt_sm_mul] at e1
    have e2 := dt_z (j := j) h1 k (by omega)
    rw [if_pos rfl] at e2
    rw [Int.mul_add, e1]
    grind
  rw [Int.mul_sub, s, dt_b_sys, dt_b_sys, dt_P_succ]
  grind
/-- no pivot: the determinant is 0 -/
theorem dt_sing {M : Nat → Nat → Int} {k n : Nat} (hk : k < n) (h0 : dt_D k M ≠ 0) (h : ∀ r, k ≤ r → r < n → dt_b M k r k = 0) : dt_D n M = 0 := by
  have e1 : dt_D n (dt_uc M k (fun r => dt_D k M * M r k)) = dt_D k M * dt_D n M := by
    rw [dt_lin_mul hk, dt_uc_id]
  have e2 : dt_D n (dt_uc M k (fun r => dt_D k M * M r k)) = dt_D n (dt_uc M k (fun r => dt_sm (fun t => dt_x M k k t * M r t) k)) := dt_D_congr (fun r c hr _ => by
    unfold dt_uc
    by_cases q : c = k
    · rw [if_pos q, if_pos q]
      show dt_D k M * M r k = dt_sm (fun t => dt_x M k k t * M r t) k
      rw [dt_b_sys]
      by_cases q2 : r < k
      · rw [dt_b_top q2]
        omega
      · rw [h r (by omega) hr]
        omega
    · rw [if_neg q, if_neg q])
  rw [e2, dt_lin_sm hk] at e1
  rw [dt_sm_zero (fun t ht => by
    rw [dt_eq2 (c := t) (d := k) (by omega) (by omega) hk (fun r _ => by simp [dt_uc, show ¬ t = k by omega])]
    exact Int.mul_zero _)] at e1
  rcases Int.mul_eq_zero.mp e1.symm with q | q
  · exact absurd q h0
  · exact q
/-- what stands above and beside is all that counts -/
theorem dt_b_same {M N : Nat → Nat → Int} {k r r' j : Nat} (h : ∀ i c, i < k → M i c = N i c) (hr : ∀ c, M r c = N r' c) : dt_b M k r j = dt_b N k r' j := by
  unfold dt_b
  apply dt_D_congr
  intro i c hi hc
  unfold dt_bd
  by_cases e : i = k
  · rw [if_pos e, if_pos e]
    exact hr _
  · rw [if_neg e, if_neg e]
    exact h i _ (by omega)
theorem dt_x_same {M N : Nat → Nat → Int} {k j t : Nat} (h : ∀ i c, i < k → M i c = N i c) : dt_x M k j t = dt_x N k j t := by
  unfold dt_x
  rw [dt_D_congr (M := fun i c => M i (if dt_sk t c = k then j else dt_sk t c)) (N := fun i c => N i (if dt_sk t c = k then j else dt_sk t c)) (fun i c hi _ => h i _ hi)]
theorem dt_D_same {M N : Nat → Nat → Int} {k : Nat} (h : ∀ i c, i < k → M i c = N i c) : dt_D k M = dt_D k N := dt_D_congr (fun i c hi _ => h i c hi)
/-- Cramer -/
theorem dt_cramer {n : Nat} {A : Nat → Nat → Int} {v : Nat → Int} (hd : dt_D n A ≠ 0) {r : Nat} (hr : r < n) : dt_sm (fun t => dt_D n (dt_uc A t v) * A r t) n = dt_D n A * v r := by
  obtain ⟨M, hM⟩ : ∃ M, M = dt_uc A n v := ⟨_, rfl⟩
  have hMA : ∀ i c, c < n → M i c = A i c := fun i c hc => by rw [hM]; unfold dt_uc; rw [if_neg (by omega)]
  have hMn : ∀ i, M i n = v i := fun i => by rw [hM]; unfold dt_uc; rw [if_pos rfl]
  have hP : dt_D n M = dt_D n A := dt_D_congr (fun i c _ hc => hMA i c hc)
  have hs : ∀ i, i < n → dt_sm (fun t => dt_x M n n t * A i t) n = dt_D n A * v i := fun i hi => by
    have := dt_x_sys (M := M) (j := n) hi
    rw [hP, hMn] at this
    rw [← this]
    exact dt_sm_congr (fun t ht => by rw [hMA i t ht])
  have hy : ∀ t, t < n → dt_D n (dt_uc A t v) = dt_x M n n t := fun t ht => by
    have e1 : dt_D n (dt_uc A t (fun i => dt_D n A * v i)) = dt_D n A * dt_D n (dt_uc A t v) := dt_lin_mul ht
    have e2 : dt_D n (dt_uc A t (fun i => dt_D n A * v i)) = dt_D n (dt_uc A t (fun i => dt_sm (fun c => dt_x M n n c * A i c) n)) := dt_D_congr (fun i c hi _ => by
      unfold dt_uc
      by_cases q : c = t
      · rw [if_pos q, if_pos q]
        exact (hs i hi).symm
      · rw [if_neg q, if_neg q])
    rw [e2, dt_own ht] at e1
    refine (Int.eq_of_mul_eq_mul_left hd ?_).symm
    rw [← e1, Int.mul_comm]
  rw [← hs r hr]
  exact dt_sm_congr (fun t ht => by rw [hy t ht])
