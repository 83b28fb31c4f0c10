/-! DETERMINANTS of whole numbers, by the last row -/
def dt_sm (f : Nat → Int) : Nat → Int
  | 0 => 0
  | n + 1 => dt_sm f n + f n
def dt_sg : Nat → Int
  | 0 => 1
  | n + 1 => - dt_sg n
def dt_sk (j c : Nat) : Nat := if c < j then c else c + 1
def dt_D : Nat → (Nat → Nat → Int) → Int
  | 0, _ => 1
  | n + 1, M => dt_sm (fun j => dt_sg (n + j) * M n j * dt_D n (fun r c => M r (dt_sk j c))) (n + 1)
theorem dt_sm_congr {f g : Nat → Int} : ∀ {n : Nat}, (∀ j, j < n → f j = g j) → dt_sm f n = dt_sm g n
  | 0, _ => rfl
  | n + 1, h => by
    show dt_sm f n + f n = dt_sm g n + g n
    rw [dt_sm_congr (fun j hj => h j (by omega)), h n (by omega)]
theorem dt_sm_lin {f g h : Nat → Int} {a b : Int} : ∀ {n : Nat}, (∀ j, j < n → f j = a * g j + b * h j) → dt_sm f n = a * dt_sm g n + b * dt_sm h n
  | 0, _ => by simp [dt_sm]
  | n + 1, q => by
    have h1 := dt_sm_lin (f := f) (g := g) (h := h) (a := a) (b := b) (n := n) (fun j hj => q j (by omega))
    have h2 := q n (by omega)
    show dt_sm f n + f n = a * (dt_sm g n + g n) + b * (dt_sm h n + h n)
    rw [h1, h2]
    grind
theorem dt_sm_zero {f : Nat → Int} {n : Nat} (h : ∀ j, j < n → f j = 0) : dt_sm f n = 0 := by
  induction n with
  | zero => rfl
  | succ n ih =>
    show dt_sm f n + f n = 0
    rw [ih (fun j hj => h j (by omega)), h n (by omega)]
    rfl
theorem dt_sm_add (f g : Nat → Int) (n : Nat) : dt_sm (fun j => f j + g j) n = dt_sm f n + dt_sm g n := by
  have := dt_sm_lin (f := fun j => f j + g j) (g := f) (h := g) (a := 1) (b := 1) (n := n) (fun j _ => by simp)
  simpa using this
theorem dt_sm_mul (a : Int) (f : Nat → Int) (n : Nat) : dt_sm (fun j => a * f j) n = a * dt_sm f n := by
  have := dt_sm_lin (f := fun j => a * f j) (g := f) (h := f) (a := a) (b := 0) (n := n) (fun j _ => by simp)
  simpa using this
theorem dt_sm_swap (F : Nat → Nat → Int) (m : Nat) : ∀ n, dt_sm (fun i => dt_sm (F i) m) n = dt_sm (fun j => dt_sm (fun i => F i j) n) m
  | 0 => by
    show (0 : Int) = _
    exact (dt_sm_zero (fun j _ => rfl)).symm
  | n + 1 => by
    show dt_sm (fun i => dt_sm (F i) m) n + dt_sm (F n) m = dt_sm (fun j => dt_sm (fun i => F i j) n + F n j) m
    rw [dt_sm_add, dt_sm_swap F m n]
/-- only place c counts -/
theorem dt_sm_one {f : Nat → Int} {c : Nat} : ∀ {n : Nat}, c < n → (∀ j, j < n → j ≠ c → f j = 0) → dt_sm f n = f c
  | 0, h, _ => absurd h (Nat.not_lt_zero c)
  | n + 1, h, q => by
    show dt_sm f n + f n = f c
    by_cases e : c = n
    · subst e
      rw [dt_sm_zero (fun j hj => q j (by omega) (by omega))]
      simp
    · rw [dt_sm_one (c := c) (n := n) (by omega) (fun j hj hne => q j (by omega) hne), q n (by omega) (fun z => e z.symm)]
      simp
theorem dt_sm_two {f : Nat → Int} {c d : Nat} : ∀ {n : Nat}, c < d → d < n → (∀ j, j < n → j ≠ c → j ≠ d → f j = 0) → dt_sm f n = f c + f d
  | 0, _, h, _ => absurd h (Nat.not_lt_zero d)
  | n + 1, hcd, h, q => by
    show dt_sm f n + f n = f c + f d
    by_cases e : d = n
    · subst e
      rw [dt_sm_one (c := c) (n := d) hcd (fun j hj hne => q j (by omega) hne (by omega))]
    · rw [dt_sm_two (c := c) (d := d) (n := n) hcd (by omega) (fun j hj h1 h2 => q j (by omega) h1 h2), q n (by omega) (by omega) (fun z => e z.symm)]
      simp
theorem dt_sm_split (f : Nat → Int) (n : Nat) : dt_sm f (n + 1) = dt_sm f n + f n := rfl
theorem dt_D_succ (n : Nat) (M : Nat → Nat → Int) : dt_D (n + 1) M = dt_sm (fun j => dt_sg (n + j) * M n j * dt_D n (fun r c => M r (dt_sk j c))) (n + 1) := rfl
theorem dt_sk_lt {j c n : Nat} (h : c < n) : dt_sk j c < n + 1 := by
  unfold dt_sk
  split <;> omega
theorem dt_sk_ne (j c : Nat) : dt_sk j c ≠ j := by
  unfold dt_sk
  split <;> omega
theorem dt_D_congr : ∀ {n : Nat} {M N : Nat → Nat → Int}, (∀ r c, r < n → c < n → M r c = N r c) → dt_D n M = dt_D n N
  | 0, _, _, _ => rfl
  | n + 1, M, N, h => by
    rw [dt_D_succ, dt_D_succ]
    apply dt_sm_congr
    intro j hj
    rw [h n j (by omega) hj, dt_D_congr (M := fun r c => M r (dt_sk j c)) (N := fun r c => N r (dt_sk j c)) (fun r c hr hc => h r _ (by omega) (dt_sk_lt hc))]
/-- column c becomes v -/
def dt_uc (M : Nat → Nat → Int) (c : Nat) (v : Nat → Int) : Nat → Nat → Int := fun r k => if k = c then v r else M r k
def dt_pc (j c : Nat) : Nat := if c < j then c else c - 1
theorem dt_sk_pc {j c k : Nat} (h : j ≠ c) : dt_sk j k = c ↔ k = dt_pc j c := by
  unfold dt_sk dt_pc
  split <;> split <;> omega
theorem dt_pc_lt {j c n : Nat} (h : j ≠ c) (hc : c < n + 1) (hj : j < n + 1) : dt_pc j c < n := by
  unfold dt_pc
  split <;> omega
theorem dt_uc_minor {M : Nat → Nat → Int} {c j : Nat} {v : Nat → Int} (h : j ≠ c) : (fun r k => dt_uc M c v r (dt_sk j k)) = dt_uc (fun r k => M r (dt_sk j k)) (dt_pc j c) v := by
  funext r k
  unfold dt_uc
  by_cases e : dt_sk j k = c
  · rw [if_pos e, if_pos ((dt_sk_pc h).mp e)]
  · rw [if_neg e, if_neg (fun z => e ((dt_sk_pc h).mpr z))]
theorem dt_uc_self {M : Nat → Nat → Int} {c : Nat} {v : Nat → Int} : (fun r k => dt_uc M c v r (dt_sk c k)) = (fun r k => M r (dt_sk c k)) := by
  funext r k
  unfold dt_uc
  rw [if_neg (dt_sk_ne c k)]
theorem dt_lin : ∀ (n : Nat) (M : Nat → Nat → Int) (c : Nat) (a b : Int) (u v : Nat → Int), c < n → dt_D n (dt_uc M c (fun r => a * u r + b * v r)) = a * dt_D n (dt_uc M c u) + b * dt_D n (dt_uc M c v)
  | 0, _, _, _, _, _, _, h => absurd h (Nat.not_lt_zero _)
  | n + 1, M, c, a, b, u, v, h => by
    rw [dt_D_succ, dt_D_succ, dt_D_succ]
    apply dt_sm_lin
    intro j hj
    by_cases e : j = c
    · subst e
      rw [dt_uc_self, dt_uc_self, dt_uc_self]
      simp only [dt_uc, if_true]
      grind
    · rw [dt_uc_minor e, dt_uc_minor e, dt_uc_minor e, dt_lin n _ _ a b u v (dt_pc_lt e h hj)]
      simp only [dt_uc, if_neg e]
      grind
theorem dt_adj : ∀ (n : Nat) (M : Nat → Nat → Int) (c : Nat), c + 1 < n → (∀ r, r < n → M r c = M r (c + 1)) → dt_D n M = 0
  | 0, _, _, h, _ => absurd h (Nat.not_lt_zero _)
  | n + 1, M, c, h, q => by
    rw [dt_D_succ, dt_sm_two (c := c) (d := c + 1) (by omega) h]
    · have e : dt_D n (fun r k => M r (dt_sk c k)) = dt_D n (fun r k => M r (dt_sk (c + 1) k)) := by
        apply dt_D_congr
        intro r k hr hk
        unfold dt_sk
        by_cases e1 : k < c
        · rw [if_pos e1, if_pos (by omega)]
        · by_cases e2 : k = c
          · subst e2
            rw [if_neg (by omega), if_pos (by omega), q r (by omega)]
          · rw [if_neg e1, if_neg (by omega)]
      rw [e, q n (by omega), show n + (c + 1) = (n + c) + 1 by omega]
      show dt_sg (n + c) * _ * _ + - dt_sg (n + c) * _ * _ = 0
      grind
    · intro j hj h1 h2
      have z : dt_D n (fun r k => M r (dt_sk j k)) = 0 := by
        by_cases e : j < c
        · refine dt_adj n _ (c - 1) (by omega) (fun r hr => ?_)
          show M r (dt_sk j (c - 1)) = M r (dt_sk j (c - 1 + 1))
          rw [show dt_sk j (c - 1) = c by unfold dt_sk; split <;> omega, show dt_sk j (c - 1 + 1) = c + 1 by unfold dt_sk; split <;> omega]
          exact q r (by omega)
        · refine dt_adj n _ c (by omega) (fun r hr => ?_)
          show M r (dt_sk j c) = M r (dt_sk j (c + 1))
          rw [show dt_sk j c = c by unfold dt_sk; split <;> omega, show dt_sk j (c + 1) = c + 1 by unfold dt_sk; split <;> omega]
          exact q r (by omega)
      rw [z, Int.mul_zero]
