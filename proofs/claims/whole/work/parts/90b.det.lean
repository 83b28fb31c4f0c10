/-! columns that are the same; sums of columns -/
theorem dt_uc_id {M : Nat → Nat → Int} {c : Nat} : dt_uc M c (fun r => M r c) = M := by
  funext r k
  unfold dt_uc
  by_cases e : k = c
  · rw [if_pos e, e]
  · rw [if_neg e]
theorem dt_uc_uc {M : Nat → Nat → Int} {c : Nat} {u v : Nat → Int} : dt_uc (dt_uc M c u) c v = dt_uc M c v := by
  funext r k
  unfold dt_uc
  by_cases e : k = c
  · rw [if_pos e, if_pos e]
  · rw [if_neg e, if_neg e, if_neg e]
theorem dt_uc_comm {M : Nat → Nat → Int} {c d : Nat} {u v : Nat → Int} (h : c ≠ d) : dt_uc (dt_uc M c u) d v = dt_uc (dt_uc M d v) c u := by
  funext r k
  unfold dt_uc
  by_cases e : k = c
  · subst e
    rw [if_neg h, if_pos rfl, if_pos rfl]
  · by_cases e2 : k = d
    · rw [if_pos e2, if_neg e, if_pos e2]
    · rw [if_neg e2, if_neg e, if_neg e, if_neg e2]
/-- neighbouring columns trade places -/
theorem dt_adj_swap {n : Nat} {M : Nat → Nat → Int} {c : Nat} (h : c + 1 < n) (u v : Nat → Int) : dt_D n (dt_uc (dt_uc M c u) (c + 1) v) = - dt_D n (dt_uc (dt_uc M c v) (c + 1) u) := by
  have z : ∀ w : Nat → Int, dt_D n (dt_uc (dt_uc M c w) (c + 1) w) = 0 := fun w => dt_adj n _ c h (fun r _ => by simp [dt_uc])
  have l1 : ∀ w : Nat → Int, dt_D n (dt_uc (dt_uc M c w) (c + 1) (fun r => 1 * u r + 1 * v r)) = 1 * dt_D n (dt_uc (dt_uc M c w) (c + 1) u) + 1 * dt_D n (dt_uc (dt_uc M c w) (c + 1) v) := fun w => dt_lin n _ (c + 1) 1 1 u v h
  have l2 : ∀ w : Nat → Int, dt_D n (dt_uc (dt_uc M c (fun r => 1 * u r + 1 * v r)) (c + 1) w) = 1 * dt_D n (dt_uc (dt_uc M c u) (c + 1) w) + 1 * dt_D n (dt_uc (dt_uc M c v) (c + 1) w) := fun w => by
    rw [dt_uc_comm (by omega), dt_lin n _ c 1 1 u v (by omega), dt_uc_comm (by omega), dt_uc_comm (M := M) (c := c + 1) (d := c) (by omega)]
  have e := z (fun r => 1 * u r + 1 * v r)
  rw [l2, l1, l1, z u, z v] at e
  omega
theorem dt_eqc : ∀ (k n : Nat) (M : Nat → Nat → Int) (c d : Nat), d = c + 1 + k → d < n → (∀ r, r < n → M r c = M r d) → dt_D n M = 0
  | 0, n, M, c, d, e, h, q => by
    subst e
    exact dt_adj n M c h q
  | k + 1, n, M, c, d, e, h, q => by
    have e2 : M = dt_uc (dt_uc M (d - 1) (fun r => M r (d - 1))) (d - 1 + 1) (fun r => M r d) := by
      rw [dt_uc_id, show d - 1 + 1 = d by omega, dt_uc_id]
    rw [e2, dt_adj_swap (by omega)]
    have z : dt_D n (dt_uc (dt_uc M (d - 1) (fun r => M r d)) (d - 1 + 1) (fun r => M r (d - 1))) = 0 := by
      refine dt_eqc k n _ c (d - 1) (by omega) (by omega) (fun r hr => ?_)
      show dt_uc _ _ _ r c = dt_uc _ _ _ r (d - 1)
      unfold dt_uc
      rw [if_neg (by omega), if_neg (by omega), if_neg (by omega), if_pos rfl]
      exact q r hr
    rw [z]
    rfl
theorem dt_eq2 {n : Nat} {M : Nat → Nat → Int} {c d : Nat} (hne : c ≠ d) (hc : c < n) (hd : d < n) (q : ∀ r, r < n → M r c = M r d) : dt_D n M = 0 := by
  rcases Nat.lt_or_ge c d with h | h
  · exact dt_eqc (d - c - 1) n M c d (by omega) hd q
  · exact dt_eqc (c - d - 1) n M d c (by omega) hc (fun r hr => (q r hr).symm)
theorem dt_lin_mul {n : Nat} {M : Nat → Nat → Int} {c : Nat} {a : Int} {u : Nat → Int} (h : c < n) : dt_D n (dt_uc M c (fun r => a * u r)) = a * dt_D n (dt_uc M c u) := by
  have := dt_lin n M c a 0 u u h
  simpa using this
theorem dt_lin_add {n : Nat} {M : Nat → Nat → Int} {c : Nat} {u v : Nat → Int} (h : c < n) : dt_D n (dt_uc M c (fun r => u r + v r)) = dt_D n (dt_uc M c u) + dt_D n (dt_uc M c v) := by
  have := dt_lin n M c 1 1 u v h
  simpa using this
theorem dt_uc_zero {n : Nat} {M : Nat → Nat → Int} {c : Nat} (h : c < n) : dt_D n (dt_uc M c (fun _ => 0)) = 0 := by
  have := dt_lin n M c 0 0 (fun _ => 0) (fun _ => 0) h
  simpa using this
theorem dt_lin_sm {n : Nat} {M : Nat → Nat → Int} {c : Nat} (h : c < n) (x : Nat → Int) (u : Nat → Nat → Int) : ∀ k : Nat, dt_D n (dt_uc M c (fun r => dt_sm (fun t => x t * u r t) k)) = dt_sm (fun t => x t * dt_D n (dt_uc M c (fun r => u r t))) k
  | 0 => dt_uc_zero h
  | k + 1 => by
    show dt_D n (dt_uc M c (fun r => dt_sm (fun t => x t * u r t) k + x k * u r k)) = _
    rw [dt_lin_add h, dt_lin_mul h, dt_lin_sm h x u k]
    rfl
/-- column c out of all columns: only its own part counts -/
theorem dt_own {n : Nat} {M : Nat → Nat → Int} {c : Nat} (h : c < n) (x : Nat → Int) : dt_D n (dt_uc M c (fun r => dt_sm (fun t => x t * M r t) n)) = x c * dt_D n M := by
  rw [dt_lin_sm h]
  rw [dt_sm_one (c := c) h]
  · rw [dt_uc_id]
  · intro j hj hne
    rw [dt_eq2 (c := c) (d := j) (fun e => hne e.symm) h hj (fun r _ => by simp [dt_uc, hne])]
    exact Int.mul_zero _
/-- one answer at most -/
theorem dt_uniq {n : Nat} {M : Nat → Nat → Int} {z : Nat → Int} (hd : dt_D n M ≠ 0) (h : ∀ r, r < n → dt_sm (fun t => z t * M r t) n = 0) : ∀ c, c < n → z c = 0 := by
  intro c hc
  have e := dt_own (M := M) hc z
  have e2 : dt_D n (dt_uc M c (fun r => dt_sm (fun t => z t * M r t) n)) = dt_D n (dt_uc M c (fun _ => 0)) := dt_D_congr (fun r k hr _ => by
    unfold dt_uc
    by_cases q : k = c
    · rw [if_pos q, if_pos q]
      exact h r hr
    · rw [if_neg q, if_neg q])
  rw [e2, dt_uc_zero hc] at e
  rcases Int.mul_eq_zero.mp e.symm with q | q
  · exact q
  · exact absurd q hd
/-! rows as columns -/
theorem dt_sg_add (a b : Nat) : dt_sg (a + b) = dt_sg a * dt_sg b := by
  induction b with
  | zero => simp [dt_sg]
  | succ b ih =>
    show - dt_sg (a + b) = dt_sg a * - dt_sg b
    rw [ih]
    grind
theorem dt_lastcol : ∀ (n : Nat) (M : Nat → Nat → Int), dt_D (n + 1) M = dt_sm (fun i => dt_sg (n + i) * M i n * dt_D n (fun r c => M (dt_sk i r) c)) (n + 1)
  | 0, M => rfl
  | n + 1, M => by
    rw [dt_D_succ, dt_sm_split, dt_sm_split (n := n + 1)]
    have a1 : dt_D (n + 1) (fun r c => M r (dt_sk (n + 1) c)) = dt_D (n + 1) (fun r c => M (dt_sk (n + 1) r) c) := dt_D_congr (fun r c hr hc => by
      show M r (dt_sk (n + 1) c) = M (dt_sk (n + 1) r) c
      unfold dt_sk
      rw [if_pos hc, if_pos hr])
    rw [a1]
    congr 1
    have b1 : ∀ j, j < n + 1 → dt_sg (n + 1 + j) * M (n + 1) j * dt_D (n + 1) (fun r c => M r (dt_sk j c)) = dt_sm (fun i => dt_sg (n + 1 + j) * M (n + 1) j * (dt_sg (n + i) * M i (n + 1) * dt_D n (fun r c => M (dt_sk i r) (dt_sk j c)))) (n + 1) := by
      intro j hj
      rw [dt_lastcol n, dt_sm_mul]
      congr 1
      apply dt_sm_congr
      intro i hi
      rw [show dt_sk j n = n + 1 by unfold dt_sk; split <;> omega]
    have b2 : ∀ i, i < n + 1 → dt_sg (n + 1 + i) * M i (n + 1) * dt_D (n + 1) (fun r c => M (dt_sk i r) c) = dt_sm (fun j => dt_sg (n + 1 + i) * M i (n + 1) * (dt_sg (n + j) * M (n + 1) j * dt_D n (fun r c => M (dt_sk i r) (dt_sk j c)))) (n + 1) := by
      intro i hi
      rw [dt_D_succ, dt_sm_mul]
      congr 1
      apply dt_sm_congr
      intro j hj
      rw [show dt_sk i n = n + 1 by unfold dt_sk; split <;> omega]
    rw [dt_sm_congr b1, dt_sm_congr b2, dt_sm_swap]
    apply dt_sm_congr
    intro i hi
    apply dt_sm_congr
    intro j hj
    rw [show n + 1 + j = (n + j) + 1 by omega, show n + 1 + i = (n + i) + 1 by omega]
    show - dt_sg (n + j) * _ * (dt_sg (n + i) * _ * _) = - dt_sg (n + i) * _ * (dt_sg (n + j) * _ * _)
    grind
theorem dt_T : ∀ (n : Nat) (M : Nat → Nat → Int), dt_D n (fun r c => M c r) = dt_D n M
  | 0, _ => rfl
  | n + 1, M => by
    rw [dt_lastcol n M, dt_D_succ]
    apply dt_sm_congr
    intro j hj
    rw [← dt_T n (fun r c => M (dt_sk j r) c)]
/-- row c becomes v -/
def dt_ur (M : Nat → Nat → Int) (c : Nat) (v : Nat → Int) : Nat → Nat → Int := fun k r => if k = c then v r else M k r
theorem dt_ur_T {n : Nat} {M : Nat → Nat → Int} {c : Nat} {v : Nat → Int} : dt_D n (dt_ur M c v) = dt_D n (dt_uc (fun r k => M k r) c v) := by
  rw [← dt_T n (dt_ur M c v)]
  rfl
theorem dt_eqr {n : Nat} {M : Nat → Nat → Int} {c d : Nat} (hne : c ≠ d) (hc : c < n) (hd : d < n) (q : ∀ k, k < n → M c k = M d k) : dt_D n M = 0 := by
  rw [← dt_T]
  exact dt_eq2 hne hc hd q
/-- two rows trade places -/
def dt_sw (M : Nat → Nat → Int) (a b : Nat) : Nat → Nat → Int := fun r k => if r = a then M b k else if r = b then M a k else M r k
theorem dt_swr {n : Nat} {M : Nat → Nat → Int} {a b : Nat} (hne : a ≠ b) (ha : a < n) (hb : b < n) : dt_D n (dt_sw M a b) = - dt_D n M := by
  have hT : ∀ N : Nat → Nat → Int, dt_D n N = dt_D n (fun r c => N c r) := fun N => (dt_T n N).symm
  rw [hT, hT M]
  have e1 : (fun r c => dt_sw M a b c r) = dt_uc (dt_uc (fun r c => M c r) a (fun r => M b r)) b (fun r => M a r) := by
    funext r c
    unfold dt_sw dt_uc
    by_cases h1 : c = a
    · subst h1
      rw [if_pos rfl, if_neg hne, if_pos rfl]
    · by_cases h2 : c = b
      · rw [if_neg h1, if_pos h2, if_pos h2]
      · rw [if_neg h1, if_neg h2, if_neg h2, if_neg h1]
  have e2 : (fun r c => M c r) = dt_uc (dt_uc (fun r c => M c r) a (fun r => M a r)) b (fun r => M b r) := by
    funext r c
    unfold dt_uc
    by_cases h1 : c = a
    · subst h1
      rw [if_neg hne, if_pos rfl]
    · by_cases h2 : c = b
      · rw [if_pos h2, h2]
      · rw [if_neg h2, if_neg h1]
  have e3 : dt_D n (fun r c => M c r) = dt_D n (dt_uc (dt_uc (fun r c => M c r) a (fun r => M a r)) b (fun r => M b r)) := congrArg (dt_D n) e2
  rw [e1, e3]
  clear e1 e2 e3 hT
  generalize (fun r c => M c r) = N
  generalize (fun r => M a r) = u
  generalize (fun r => M b r) = v
  have z : ∀ w : Nat → Int, dt_D n (dt_uc (dt_uc N a w) b w) = 0 := fun w => dt_eq2 hne ha hb (fun r _ => by simp [dt_uc, hne])
  have l1 : ∀ w : Nat → Int, dt_D n (dt_uc (dt_uc N a w) b (fun r => 1 * u r + 1 * v r)) = 1 * dt_D n (dt_uc (dt_uc N a w) b u) + 1 * dt_D n (dt_uc (dt_uc N a w) b v) := fun w => dt_lin n _ b 1 1 u v hb
  have l2 : ∀ w : Nat → Int, dt_D n (dt_uc (dt_uc N a (fun r => 1 * u r + 1 * v r)) b w) = 1 * dt_D n (dt_uc (dt_uc N a u) b w) + 1 * dt_D n (dt_uc (dt_uc N a v) b w) := fun w => by
    rw [dt_uc_comm hne, dt_lin n _ a 1 1 u v ha, dt_uc_comm (fun q => hne q.symm), dt_uc_comm (M := N) (c := b) (d := a) (fun q => hne q.symm)]
  have e := z (fun r => 1 * u r + 1 * v r)
  rw [l2, l1, l1, z u, z v] at e
  omega
