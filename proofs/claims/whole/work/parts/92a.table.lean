/-! THE CLASS'S TABLE: rows 32 .. 37 -/
def lf_tb (σ : lf_St) (T : Nat → Nat → Int64) : lf_St := (σ.1, σ.2.1, σ.2.2.1, fun k => if 32 ≤ k ∧ k < 38 then T (k - 32) else σ.2.2.2 k)
def tb_up (T : Nat → Nat → Int64) (i j : Nat) (v : Int64) : Nat → Nat → Int64 := fun a => if a = i then vp_updL (T i) j v else T a
theorem tb_al {σ : lf_St} {T : Nat → Nat → Int64} {i : Nat} (h : i < 6) : lf_al (lf_tb σ T) (32 + i) = T i := by
  show (if 32 ≤ 32 + i ∧ 32 + i < 38 then T (32 + i - 32) else _) = T i
  rw [if_pos (by omega), show 32 + i - 32 = i by omega]
theorem tb_al_ne {σ : lf_St} {T : Nat → Nat → Int64} {k : Nat} (h : k < 32) : lf_al (lf_tb σ T) k = lf_al σ k := by
  show (if 32 ≤ k ∧ k < 38 then T (k - 32) else _) = _
  rw [if_neg (by omega)]
  rfl
theorem tb_sb {σ : lf_St} {T : Nat → Nat → Int64} {i j : Nat} {v : Int64} (h : i < 6) : lf_sb (lf_tb σ T) (32 + i) j v = lf_tb σ (tb_up T i j v) := by
  have e : va_up (fun k => if 32 ≤ k ∧ k < 38 then T (k - 32) else σ.2.2.2 k) (32 + i) (vp_updL (T i) j v) = (fun k => if 32 ≤ k ∧ k < 38 then tb_up T i j v (k - 32) else σ.2.2.2 k) := by
    funext k
    unfold va_up tb_up
    by_cases e : k = 32 + i
    · subst e
      rw [if_pos rfl, if_pos (by omega), if_pos (by omega)]
    · rw [if_neg e]
      show (if 32 ≤ k ∧ k < 38 then T (k - 32) else σ.2.2.2 k) = _
      by_cases q : 32 ≤ k ∧ k < 38
      · rw [if_pos q, if_pos q, if_neg (by omega)]
      · rw [if_neg q, if_neg q]
  show (σ.1, σ.2.1, σ.2.2.1, va_up _ (32 + i) (vp_updL (lf_al (lf_tb σ T) (32 + i)) j v)) = _
  rw [tb_al h]
  exact congrArg (fun f => (σ.1, σ.2.1, σ.2.2.1, f)) e
theorem tb_id (σ : lf_St) : lf_tb σ (fun i => lf_al σ (32 + i)) = σ := by
  have e : (fun k => if 32 ≤ k ∧ k < 38 then lf_al σ (32 + (k - 32)) else σ.2.2.2 k) = σ.2.2.2 := by
    funext k
    by_cases q : 32 ≤ k ∧ k < 38
    · rw [if_pos q, show 32 + (k - 32) = k by omega]
      rfl
    · rw [if_neg q]
  show (σ.1, σ.2.1, σ.2.2.1, _) = σ
  rw [e]
theorem tb_tb (σ : lf_St) (T T' : Nat → Nat → Int64) : lf_tb (lf_tb σ T) T' = lf_tb σ T' := by
  have e : (fun k => if 32 ≤ k ∧ k < 38 then T' (k - 32) else (lf_tb σ T).2.2.2 k) = (fun k => if 32 ≤ k ∧ k < 38 then T' (k - 32) else σ.2.2.2 k) := by
    funext k
    by_cases q : 32 ≤ k ∧ k < 38
    · rw [if_pos q, if_pos q]
    · rw [if_neg q, if_neg q]
      show (if 32 ≤ k ∧ k < 38 then T (k - 32) else _) = _
      rw [if_neg q]
  exact congrArg (fun f => (σ.1, σ.2.1, σ.2.2.1, f)) e
theorem tb_up_at (T : Nat → Nat → Int64) (i j : Nat) (v : Int64) (a b : Nat) : tb_up T i j v a b = if a = i ∧ b = j then v else T a b := by
  unfold tb_up
  by_cases e : a = i
  · subst e
    rw [if_pos rfl]
    by_cases q : b = j
    · subst q
      rw [pk_uLs, if_pos ⟨rfl, rfl⟩]
    · rw [pk_uLn q, if_neg (fun z => q z.2)]
  · rw [if_neg e, if_neg (fun z => e z.1)]
theorem nu_2 (n : Nat) : (2 : Int32) * nI n = nI (2 * n) := by
  rw [show (2 : Int32) = nI 2 from rfl, pk_mul]
theorem dt_b_left {M : Nat → Nat → Int} {k r j : Nat} (h : j < k) : dt_b M k r j = 0 := by
  unfold dt_b
  refine dt_eq2 (c := j) (d := k) (by omega) (by omega) (by omega) (fun i _ => ?_)
  unfold dt_bd
  rw [if_neg (by omega : ¬ j = k), if_pos rfl]
theorem dt_x_le {M : Nat → Nat → Int} {n s U k j t : Nat} (h : dt_cb M n s 1 U) (hk : k ≤ n) : (dt_x M k j t).natAbs ≤ U ^ k := by
  unfold dt_x
  rw [Int.natAbs_neg, Int.natAbs_mul, dt_sg_abs, Nat.one_mul]
  have h1 := dt_D_cols k (fun i c => M i (if dt_sk t c = k then j else dt_sk t c)) (fun _ => U) (fun c _ => by
    have := h (if dt_sk t c = k then j else dt_sk t c)
    have h2 : (if (if dt_sk t c = k then j else dt_sk t c) = s then 1 * U else U) = U := by rw [Nat.one_mul, ite_self]
    rw [h2] at this
    exact Nat.le_trans (dt_sn_mono _ hk) this)
  refine Nat.le_trans h1 ?_
  clear h1 h hk
  induction k with
  | zero => exact Nat.le_refl _
  | succ k ih =>
    show dt_pr (fun _ => U) k * U ≤ U ^ k * U
    exact Nat.mul_le_mul ih (Nat.le_refl _)
