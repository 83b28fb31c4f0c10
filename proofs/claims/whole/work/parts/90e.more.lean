theorem dt_D_le {M : Nat → Nat → Int} {n s S U : Nat} (h : dt_cb M n s S U) (hS : 1 ≤ S) (hU : 1 ≤ U) : (dt_D n M).natAbs ≤ S * U ^ n := by
  have h1 := dt_D_cols n M (fun c => if c = s then S * U else U) (fun c _ => h c)
  refine Nat.le_trans h1 (Nat.le_trans (dt_pr_U s S U hS n) (Nat.mul_le_mul ?_ (Nat.le_refl _)))
  split <;> omega
theorem rd_pow {S U n : Nat} (hS : 1 ≤ S) (hU : 1 ≤ U) (hn : n ≤ 6) : S * U ^ n ≤ S * U ^ 5 * (S * U ^ 5) := by
  have h1 : S * U ^ n ≤ S * U ^ 6 := Nat.mul_le_mul (Nat.le_refl _) (Nat.pow_le_pow_right hU hn)
  have h2 : S * U ^ 6 ≤ S * U ^ 5 * (S * U ^ 5) := by
    have : U ^ 6 = U ^ 5 * U := rfl
    rw [this, ← Nat.mul_assoc]
    refine Nat.mul_le_mul (Nat.le_refl _) ?_
    calc U = 1 * (1 * U) := by omega
      _ ≤ S * (U ^ 4 * U) := Nat.mul_le_mul hS (Nat.mul_le_mul (Nat.one_le_pow 4 U hU) (Nat.le_refl _))
      _ = S * U ^ 5 := rfl
  exact Nat.le_trans h1 h2
