/-! BOUNDS: determinants against sums without signs -/
def dt_sn (f : Nat → Nat) : Nat → Nat
  | 0 => 0
  | n + 1 => dt_sn f n + f n
def dt_pm : Nat → (Nat → Nat → Nat) → Nat
  | 0, _ => 1
  | n + 1, N => dt_sn (fun j => N n j * dt_pm n (fun r c => N r (dt_sk j c))) (n + 1)
def dt_pr (L : Nat → Nat) : Nat → Nat
  | 0 => 1
  | n + 1 => dt_pr L n * L n
theorem dt_sn_le {f g : Nat → Nat} : ∀ {n : Nat}, (∀ j, j < n → f j ≤ g j) → dt_sn f n ≤ dt_sn g n
  | 0, _ => Nat.le_refl _
  | n + 1, h => Nat.add_le_add (dt_sn_le (fun j hj => h j (by omega))) (h n (by omega))
theorem dt_sn_congr {f g : Nat → Nat} : ∀ {n : Nat}, (∀ j, j < n → f j = g j) → dt_sn f n = dt_sn g n
  | 0, _ => rfl
  | n + 1, h => by
    show dt_sn f n + f n = dt_sn g n + g n
    rw [dt_sn_congr (fun j hj => h j (by omega)), h n (by omega)]
theorem dt_sn_mul (f : Nat → Nat) (a : Nat) : ∀ n, dt_sn (fun j => f j * a) n = dt_sn f n * a
  | 0 => by simp [dt_sn]
  | n + 1 => by
    show dt_sn (fun j => f j * a) n + f n * a = (dt_sn f n + f n) * a
    rw [dt_sn_mul f a n, Nat.add_mul]
theorem dt_sm_abs {f : Nat → Int} {g : Nat → Nat} : ∀ {n : Nat}, (∀ j, j < n → (f j).natAbs ≤ g j) → (dt_sm f n).natAbs ≤ dt_sn g n
  | 0, _ => Nat.le_refl _
  | n + 1, h => by
    have h1 := dt_sm_abs (f := f) (g := g) (n := n) (fun j hj => h j (by omega))
    have h2 := h n (by omega)
    have h3 := Int.natAbs_add_le (dt_sm f n) (f n)
    show (dt_sm f n + f n).natAbs ≤ dt_sn g n + g n
    omega
theorem dt_sg_abs (k : Nat) : (dt_sg k).natAbs = 1 := by
  induction k with
  | zero => rfl
  | succ k ih =>
    show (- dt_sg k).natAbs = 1
    rw [Int.natAbs_neg, ih]
theorem dt_D_pm : ∀ (n : Nat) (M : Nat → Nat → Int), (dt_D n M).natAbs ≤ dt_pm n (fun r c => (M r c).natAbs)
  | 0, _ => Nat.le_refl _
  | n + 1, M => by
    rw [dt_D_succ]
    show _ ≤ dt_sn (fun j => (M n j).natAbs * dt_pm n (fun r c => (M r (dt_sk j c)).natAbs)) (n + 1)
    apply dt_sm_abs
    intro j hj
    rw [Int.natAbs_mul, Int.natAbs_mul, dt_sg_abs, Nat.one_mul]
    exact Nat.mul_le_mul (Nat.le_refl _) (dt_D_pm n _)
theorem dt_pm_le : ∀ (n : Nat) {M N : Nat → Nat → Nat}, (∀ r c, r < n → c < n → M r c ≤ N r c) → dt_pm n M ≤ dt_pm n N
  | 0, _, _, _ => Nat.le_refl _
  | n + 1, M, N, h => by
    show dt_sn _ (n + 1) ≤ dt_sn _ (n + 1)
    apply dt_sn_le
    intro j hj
    exact Nat.mul_le_mul (h n j (by omega) hj) (dt_pm_le n (fun r c hr hc => h r _ (by omega) (dt_sk_lt hc)))
theorem dt_sn_skip (f : Nat → Nat) (j : Nat) : ∀ n, dt_sn (fun c => f (dt_sk j c)) n ≤ dt_sn f (n + 1)
  | 0 => Nat.zero_le _
  | n + 1 => by
    show dt_sn (fun c => f (dt_sk j c)) n + f (dt_sk j n) ≤ dt_sn f (n + 1) + f (n + 1)
    by_cases e : n < j
    · have e2 : dt_sn (fun c => f (dt_sk j c)) n = dt_sn f n := dt_sn_congr (fun c hc => by unfold dt_sk; rw [if_pos (by omega)])
      rw [e2, show dt_sk j n = n by unfold dt_sk; rw [if_pos e]]
      show dt_sn f n + f n ≤ dt_sn f n + f n + f (n + 1)
      omega
    · have := dt_sn_skip f j n
      rw [show dt_sk j n = n + 1 by unfold dt_sk; rw [if_neg e]]
      omega
theorem dt_pm_pr : ∀ (n : Nat) (N : Nat → Nat → Nat) (L : Nat → Nat), (∀ r, r < n → dt_sn (N r) n ≤ L r) → dt_pm n N ≤ dt_pr L n
  | 0, _, _, _ => Nat.le_refl _
  | n + 1, N, L, h => by
    have h1 : dt_pm (n + 1) N ≤ dt_sn (fun j => N n j * dt_pr L n) (n + 1) := by
      show dt_sn _ (n + 1) ≤ _
      apply dt_sn_le
      intro j hj
      refine Nat.mul_le_mul (Nat.le_refl _) (dt_pm_pr n _ L (fun r hr => Nat.le_trans (dt_sn_skip (N r) j n) (h r (by omega))))
    rw [dt_sn_mul] at h1
    refine Nat.le_trans h1 ?_
    show _ ≤ dt_pr L n * L n
    rw [Nat.mul_comm]
    exact Nat.mul_le_mul (Nat.le_refl _) (h n (by omega))
theorem dt_pr_congr {L L' : Nat → Nat} : ∀ {n : Nat}, (∀ r, r < n → L r = L' r) → dt_pr L n = dt_pr L' n
  | 0, _ => rfl
  | n + 1, h => by
    show dt_pr L n * L n = dt_pr L' n * L' n
    rw [dt_pr_congr (fun r hr => h r (by omega)), h n (by omega)]
/-- by columns -/
theorem dt_D_cols (n : Nat) (M : Nat → Nat → Int) (L : Nat → Nat) (h : ∀ c, c < n → dt_sn (fun r => (M r c).natAbs) n ≤ L c) : (dt_D n M).natAbs ≤ dt_pr L n := by
  rw [← dt_T]
  exact Nat.le_trans (dt_D_pm n _) (dt_pm_pr n _ L h)
/-- the sum over some rows is no more than over all: rows 0 .. k - 1 and one behind them -/
theorem dt_sn_part (f : Nat → Nat) {k r : Nat} (hr : k ≤ r) : ∀ {n : Nat}, r < n → dt_sn f k + f r ≤ dt_sn f n
  | 0, h => absurd h (Nat.not_lt_zero _)
  | n + 1, h => by
    show _ ≤ dt_sn f n + f n
    by_cases e : r = n
    · subst e
      have : ∀ d, dt_sn f k ≤ dt_sn f (k + d) := by
        intro d
        induction d with
        | zero => exact Nat.le_refl _
        | succ d ih => exact Nat.le_trans ih (Nat.le_add_right _ _)
      have := this (r - k)
      rw [show k + (r - k) = r by omega] at this
      omega
    · have := dt_sn_part f hr (n := n) (by omega)
      omega
theorem dt_sn_mono (f : Nat → Nat) {k n : Nat} (h : k ≤ n) : dt_sn f k ≤ dt_sn f n := by
  obtain ⟨d, rfl⟩ : ∃ d, n = k + d := ⟨n - k, by omega⟩
  clear h
  induction d with
  | zero => exact Nat.le_refl _
  | succ d ih => exact Nat.le_trans ih (Nat.le_add_right _ _)
/-- columns of the matrix: each sums to U at most, but column s to S U -/
def dt_cb (M : Nat → Nat → Int) (n s S U : Nat) : Prop := ∀ c, dt_sn (fun r => (M r c).natAbs) n ≤ if c = s then S * U else U
theorem dt_pr_U (s S U : Nat) (hS : 1 ≤ S) : ∀ k, dt_pr (fun c => if c = s then S * U else U) k ≤ (if s < k then S else 1) * U ^ k
  | 0 => by simp [dt_pr]
  | k + 1 => by
    show dt_pr _ k * (if k = s then S * U else U) ≤ _
    have ih := dt_pr_U s S U hS k
    by_cases e : k = s
    · subst e
      rw [if_pos rfl, if_pos (by omega)]
      rw [if_neg (by omega)] at ih
      calc _ ≤ (1 * U ^ k) * (S * U) := Nat.mul_le_mul ih (Nat.le_refl _)
        _ = S * U ^ (k + 1) := by rw [Nat.pow_succ]; grind
    · rw [if_neg e]
      have e2 : (s < k + 1) = (s < k) := by simp; omega
      simp only [e2]
      calc _ ≤ ((if s < k then S else 1) * U ^ k) * U := Nat.mul_le_mul ih (Nat.le_refl _)
        _ = _ := by rw [Nat.pow_succ, Nat.mul_assoc]
theorem dt_b_le {M : Nat → Nat → Int} {n s S U k r j : Nat} (h : dt_cb M n s S U) (hS : 1 ≤ S) (hkr : k ≤ r) (hr : r < n) (hkj : k ≤ j) : (dt_b M k r j).natAbs ≤ S * U ^ (k + 1) := by
  unfold dt_b
  have h1 : (dt_D (k + 1) (dt_bd M k r j)).natAbs ≤ dt_pr (fun c => if (if c = k then j else c) = s then S * U else U) (k + 1) := by
    apply dt_D_cols
    intro c hc
    refine Nat.le_trans ?_ (h (if c = k then j else c))
    show dt_sn (fun i => (dt_bd M k r j i c).natAbs) k + (dt_bd M k r j k c).natAbs ≤ _
    have e1 : dt_sn (fun i => (dt_bd M k r j i c).natAbs) k = dt_sn (fun i => (M i (if c = k then j else c)).natAbs) k := dt_sn_congr (fun i hi => by unfold dt_bd; rw [if_neg (by omega : ¬ i = k)])
    rw [e1]
    unfold dt_bd
    rw [if_pos rfl]
    exact dt_sn_part (fun i => (M i (if c = k then j else c)).natAbs) hkr hr
  refine Nat.le_trans h1 ?_
  show dt_pr _ k * (if (if k = k then j else k) = s then S * U else U) ≤ _
  rw [dt_pr_congr (L' := fun c => if c = s then S * U else U) (fun c hc => by rw [if_neg (by omega : ¬ c = k)]), if_pos rfl]
  have h2 := dt_pr_U s S U hS k
  by_cases e : j = s
  · rw [if_pos e]
    rw [if_neg (by omega)] at h2
    calc _ ≤ (1 * U ^ k) * (S * U) := Nat.mul_le_mul h2 (Nat.le_refl _)
      _ = _ := by rw [Nat.pow_succ]; grind
  · rw [if_neg e]
    have h3 : (if s < k then S else 1) ≤ S := by split <;> omega
    calc _ ≤ (S * U ^ k) * U := Nat.mul_le_mul (Nat.le_trans h2 (Nat.mul_le_mul h3 (Nat.le_refl _))) (Nat.le_refl _)
      _ = _ := by rw [Nat.pow_succ, Nat.mul_assoc]
/-- a sum with two places traded -/
theorem dt_sn_upd (f : Nat → Nat) (a v : Nat) : ∀ {n : Nat}, a < n → dt_sn (fun r => if r = a then v else f r) n + f a = dt_sn f n + v
  | 0, h => absurd h (Nat.not_lt_zero _)
  | n + 1, h => by
    show dt_sn (fun r => if r = a then v else f r) n + (if n = a then v else f n) + f a = dt_sn f n + f n + v
    by_cases e : n = a
    · subst e
      have : dt_sn (fun r => if r = n then v else f r) n = dt_sn f n := dt_sn_congr (fun r hr => by rw [if_neg (by omega)])
      rw [this, if_pos rfl]
      omega
    · have := dt_sn_upd f a v (n := n) (by omega)
      rw [if_neg e]
      omega
theorem dt_sn_sw (f : Nat → Nat) {g : Nat → Nat} {a b n : Nat} (ha : a < n) (hb : b < n) (hg : ∀ r, g r = if r = a then f b else if r = b then f a else f r) : dt_sn g n = dt_sn f n := by
  by_cases e : a = b
  · subst e
    exact dt_sn_congr (fun r _ => by rw [hg]; by_cases q : r = a <;> simp [q])
  · have e1 : dt_sn g n = dt_sn (fun r => if r = a then f b else if r = b then f a else f r) n := dt_sn_congr (fun r _ => hg r)
    have h1 := dt_sn_upd (fun r => if r = b then f a else f r) a (f b) ha
    have h2 := dt_sn_upd f b (f a) hb
    simp only [if_neg e] at h1
    rw [e1]
    omega
theorem dt_cb_sw {M : Nat → Nat → Int} {n s S U a b : Nat} (h : dt_cb M n s S U) (ha : a < n) (hb : b < n) : dt_cb (dt_sw M a b) n s S U := by
  intro c
  refine Nat.le_trans (Nat.le_of_eq ?_) (h c)
  exact dt_sn_sw (fun r => (M r c).natAbs) ha hb (fun r => by
    unfold dt_sw
    by_cases h1 : r = a
    · rw [if_pos h1, if_pos h1]
    · rw [if_neg h1, if_neg h1]
      by_cases h2 : r = b
      · rw [if_pos h2, if_pos h2]
      · rw [if_neg h2, if_neg h2])
