/-! rows about states and numbers -/
theorem st_al_sB (σ : lf_St) (k : Nat) (f : Nat → Int64) : lf_al (lf_sB σ k f) k = f := by
  show va_up σ.2.2.2 k f k = f
  exact va_up_self _ _ _
theorem st_al_sB_ne {σ : lf_St} {k i : Nat} {f : Nat → Int64} (h : i ≠ k) : lf_al (lf_sB σ k f) i = lf_al σ i := by
  show va_up σ.2.2.2 k f i = _
  exact va_up_ne _ _ h
theorem st_sB_sB (σ : lf_St) (k : Nat) (f g : Nat → Int64) : lf_sB (lf_sB σ k f) k g = lf_sB σ k g := by
  show (σ.1, σ.2.1, σ.2.2.1, va_up (va_up σ.2.2.2 k f) k g) = (σ.1, σ.2.1, σ.2.2.1, va_up σ.2.2.2 k g)
  rw [bx_uu]
theorem st_sb_sB (σ : lf_St) (k : Nat) (f : Nat → Int64) (j : Nat) (v : Int64) : lf_sb (lf_sB σ k f) k j v = lf_sB σ k (vp_updL f j v) := by
  show lf_sB (lf_sB σ k f) k (vp_updL (lf_al (lf_sB σ k f) k) j v) = _
  rw [st_sB_sB, st_al_sB]
theorem st_sB_id (σ : lf_St) (k : Nat) : lf_sB σ k (lf_al σ k) = σ := by
  show (σ.1, σ.2.1, σ.2.2.1, va_up σ.2.2.2 k (σ.2.2.2 k)) = σ
  have : va_up σ.2.2.2 k (σ.2.2.2 k) = σ.2.2.2 := by
    funext j
    unfold va_up
    by_cases e : j = k
    · rw [if_pos e, e]
    · rw [if_neg e]
  rw [this]
theorem nu_ix {i j : Nat} : (6 : Int32) * nI i + nI j = nI (6 * i + j) := by
  rw [show (6 : Int32) = nI 6 from rfl, pk_mul, nI_add]
theorem nu_cl {n : Nat} (h : n < 2 ^ 31) : (nI n).toNatClampNeg = n := nI_clamp h
theorem nu_natAbs_mul {a b : Int} {S T : Nat} (h1 : a.natAbs ≤ S) (h2 : b.natAbs ≤ T) : (a * b).natAbs ≤ S * T := by
  rw [Int.natAbs_mul]
  exact Nat.mul_le_mul h1 h2
theorem nu_l0 {x : Int64} : x = 0 ↔ x.toInt = 0 := by
  rw [← Int64.toInt_inj]
  rfl
theorem nu_lof {x : Int64} {z : Int} (h : x.toInt = z) : x = Int64.ofInt z := by
  rw [← h, Int64.ofInt_toInt]
/-- a b - c d over p, where it comes out even -/
theorem nu_bar {a b c d p : Int64} {R : Int} {T : Nat} (ha : a.toInt.natAbs ≤ T) (hb : b.toInt.natAbs ≤ T) (hc : c.toInt.natAbs ≤ T) (hd : d.toInt.natAbs ≤ T) (hT : 2 * (T * T) < 2 ^ 63) (hp : p.toInt ≠ 0) (hR : a.toInt * b.toInt - c.toInt * d.toInt = p.toInt * R) : ((a * b - c * d) / p).toInt = R := by
  have h1 := nu_natAbs_mul ha hb
  have h2 := nu_natAbs_mul hc hd
  have e1 : (a * b).toInt = a.toInt * b.toInt := Jvm.Kit.i64_mul (by omega) (by omega)
  have e2 : (c * d).toInt = c.toInt * d.toInt := Jvm.Kit.i64_mul (by omega) (by omega)
  have e3 : (a * b - c * d).toInt = a.toInt * b.toInt - c.toInt * d.toInt := by
    rw [Jvm.Kit.i64_sub (by rw [e1, e2]; omega) (by rw [e1, e2]; omega), e1, e2]
  rw [Jvm.Kit.i64_div (by rw [e3]; omega), e3, hR]
  exact Int.mul_tdiv_cancel_left R hp
