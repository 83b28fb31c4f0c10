/-! BITS, THE ORDER OF CHOICES -/
theorem sp_bits {τ : lf_St} {s : Nat} (hs : s < 2 ^ 31) {Post : Int32 → lf_St → Prop} (hP : Post (nI (pn_nb s 10)) τ) : wp_X6_bits (nI s) τ Post := by
  unfold wp_X6_bits
  have z := pk_loop (fun fu k (_ : Unit) => L_X6_bits_4 Post fu (nI s) (nI (pn_nb s k)) (nI k) τ) (fun _ _ => True) 10 0 () (by omega) trivial ?_ ?_
  · rw [nI_0] at z
    exact z
  · intro m _ _
    show L_X6_bits_4 Post (m + 1) _ _ _ _
    unfold L_X6_bits_4
    exact ⟨fun _ => hP, fun h => absurd (nI_le (a := 10) (b := 10) (Nat.le_refl _) (by omega)) h⟩
  · intro m k _ hk _ ih
    show L_X6_bits_4 Post (m + 1) _ _ _ _
    unfold L_X6_bits_4
    refine ⟨fun h => absurd h (nI_ge (b := 10) hk (by omega)), fun _ v2 e2 v3 e3 => ?_⟩
    rw [e2, e3, bt_test hs (by omega), nI_add, nI_1]
    exact ih () trivial
theorem nu_negN {x : Nat} (h : x < 2 ^ 32) : - nI x = nI (2 ^ 32 - x) := by
  apply Int32.toBitVec_inj.mp
  apply BitVec.eq_of_toNat_eq
  rw [Int32.toBitVec_neg, BitVec.toNat_neg]
  show (2 ^ 32 - x % 2 ^ 32) % 2 ^ 32 = (2 ^ 32 - x) % 2 ^ 32
  rw [Nat.mod_eq_of_lt h]
theorem low_bits {x i : Nat} (h : ∀ j, j < i → x.testBit j = false) : x % 2 ^ i = 0 := by
  apply Nat.eq_of_testBit_eq
  intro j
  rw [Nat.testBit_mod_two_pow, Nat.zero_testBit]
  by_cases e : j < i
  · rw [h j e, Bool.and_false]
  · rw [decide_eq_false e]; rfl
theorem neg_bit {x i : Nat} (hx : 0 < x) (h : x < 2 ^ 32) : (2 ^ 32 - x).testBit i = (decide (i < 32) && !(x - 1).testBit i) := by
  have := Nat.testBit_two_pow_sub_succ (n := 32) (x := x - 1) (by omega) i
  rw [show x - 1 + 1 = x by omega] at this
  exact this
theorem dv_mul {p q r : Nat} (h : r < p) : (p * q + r) / p = q := by
  rw [Nat.mul_add_div (by omega), Nat.div_eq_of_lt h, Nat.add_zero]
theorem ah_iff {a b : Nat} (ha : a < 2 ^ 31) (hb : b < 2 ^ 31) : (a &&& (a ^^^ b) &&& (2 ^ 32 - (a ^^^ b))) ≠ 0 ↔ pah a b := by
  have hx : a ^^^ b < 2 ^ 31 := Nat.xor_lt_two_pow ha hb
  have bits : ∀ i, (a ^^^ b).testBit i = (a.testBit i != b.testBit i) := fun i => by rw [Nat.testBit_xor]
  constructor
  · intro hne
    obtain ⟨k, hk⟩ := Nat.exists_testBit_of_ne_zero hne
    rw [Nat.testBit_and, Nat.testBit_and] at hk
    obtain ⟨h1, h3⟩ := Bool.and_eq_true_iff.mp hk
    obtain ⟨h1, h2⟩ := Bool.and_eq_true_iff.mp h1
    have hpos : 0 < a ^^^ b := by
      refine Nat.pos_of_ne_zero (fun q => ?_)
      rw [q, Nat.zero_testBit] at h2
      cases h2
    rw [neg_bit hpos (by omega)] at h3
    have h4 : ((a ^^^ b) - 1).testBit k = false := by
      have := (Bool.and_eq_true_iff.mp h3).2
      cases q : ((a ^^^ b) - 1).testBit k
      · rfl
      · rw [q] at this; cases this
    refine ⟨k, h1, ?_, fun j hj => ?_⟩
    · rw [bits, h1] at h2
      cases q : b.testBit k
      · rfl
      · rw [q] at h2; cases h2
    · refine Decidable.byContradiction fun hn => ?_
      have hj1 : (a ^^^ b).testBit j = true := by
        rw [bits]
        cases q1 : a.testBit j <;> cases q2 : b.testBit j <;> rw [q1, q2] at hn <;> first | exact absurd rfl hn | rfl
      have hmod : (a ^^^ b) % 2 ^ k ≠ 0 := by
        intro q
        have := Nat.testBit_mod_two_pow (a ^^^ b) k j
        rw [q, Nat.zero_testBit, decide_eq_true hj, hj1] at this
        cases this
      rw [Nat.testBit_eq_decide_div_mod_eq] at h2 h4
      have e : ((a ^^^ b) - 1) / 2 ^ k = (a ^^^ b) / 2 ^ k := by
        generalize a ^^^ b = x at hmod hpos
        have hp : 0 < 2 ^ k := Nat.two_pow_pos k
        have := Nat.div_add_mod x (2 ^ k)
        have hm := Nat.mod_lt x hp
        have e9 : x - 1 = 2 ^ k * (x / 2 ^ k) + (x % 2 ^ k - 1) := by omega
        exact (congrArg (· / 2 ^ k) e9).trans (dv_mul (by omega))
      rw [e, h2] at h4
      cases h4
  · intro ⟨i, h1, h2, h3⟩ hz
    have hxi : (a ^^^ b).testBit i = true := by rw [bits, h1, h2]; rfl
    have hpos : 0 < a ^^^ b := by
      refine Nat.pos_of_ne_zero (fun q => ?_)
      rw [q, Nat.zero_testBit] at hxi
      cases hxi
    have hi : i < 31 := by
      refine Decidable.byContradiction fun n => ?_
      rw [Nat.testBit_lt_two_pow (Nat.lt_of_lt_of_le hx (Nat.pow_le_pow_right (by decide) (by omega)))] at hxi
      cases hxi
    have hmod : (a ^^^ b) % 2 ^ i = 0 := low_bits (fun j hj => by rw [bits, h3 j hj]; cases b.testBit j <;> rfl)
    have h4 : ((a ^^^ b) - 1).testBit i = false := by
      rw [Nat.testBit_eq_decide_div_mod_eq] at hxi ⊢
      generalize a ^^^ b = x at hmod hpos hxi
      have hp : 0 < 2 ^ i := Nat.two_pow_pos i
      have hd := Nat.div_add_mod x (2 ^ i)
      have hq := of_decide_eq_true hxi
      obtain ⟨q, eq⟩ : ∃ q, q + 1 = x / 2 ^ i := by
        have hne : x / 2 ^ i ≠ 0 := by
          intro z
          rw [z] at hq
          cases hq
        exact ⟨x / 2 ^ i - 1, Nat.succ_pred_eq_of_ne_zero hne⟩
      rw [← eq] at hd hq
      rw [hmod, Nat.mul_succ] at hd
      have e : (x - 1) / 2 ^ i = q := by
        have e9 : x - 1 = 2 ^ i * q + (2 ^ i - 1) := by omega
        exact (congrArg (· / 2 ^ i) e9).trans (dv_mul (by omega))
      rw [e]
      exact decide_eq_false (by omega)
    have := congrArg (fun x => Nat.testBit x i) hz
    rw [Nat.testBit_and, Nat.testBit_and, h1, hxi, neg_bit hpos (by omega), h4, decide_eq_true (by omega), Nat.zero_testBit] at this
    cases this
theorem ah_irr {a : Nat} : ¬ pah a a := fun ⟨i, h1, h2, _⟩ => by rw [h1] at h2; cases h2
theorem ah_anti {a b : Nat} (h : pah a b) (h' : pah b a) : False := by
  obtain ⟨i, h1, h2, h3⟩ := h
  obtain ⟨j, g1, g2, g3⟩ := h'
  rcases Nat.lt_trichotomy i j with z | z | z
  · have := g3 i z; rw [h1, h2] at this; cases this
  · subst z; rw [h1] at g2; cases g2
  · have := h3 j z; rw [g1, g2] at this; cases this
theorem ah_trans {a b c : Nat} (h : pah a b) (h' : pah b c) : pah a c := by
  obtain ⟨i, h1, h2, h3⟩ := h
  obtain ⟨j, g1, g2, g3⟩ := h'
  rcases Nat.lt_trichotomy i j with z | z | z
  · exact ⟨i, h1, by rw [← g3 i z]; exact h2, fun k hk => by rw [h3 k hk, g3 k (by omega)]⟩
  · subst z; rw [h2] at g1; cases g1
  · exact ⟨j, by rw [h3 j z]; exact g1, g2, fun k hk => by rw [h3 k (by omega), g3 k hk]⟩
theorem ah_tot {a b : Nat} (h : a ≠ b) : pah a b ∨ pah b a := by
  have : ∃ i, a.testBit i ≠ b.testBit i := by
    refine Classical.byContradiction fun n => h (Nat.eq_of_testBit_eq fun i => ?_)
    exact Classical.byContradiction fun q => n ⟨i, q⟩
  obtain ⟨i, hi, hm⟩ := pk_least _ this
  have hm : ∀ j, j < i → a.testBit j = b.testBit j := fun j hj => Classical.not_not.mp (hm j hj)
  cases h1 : a.testBit i
  · cases h2 : b.testBit i
    · rw [h1, h2] at hi; exact absurd rfl hi
    · exact Or.inr ⟨i, h2, h1, fun j hj => (hm j hj).symm⟩
  · cases h2 : b.testBit i
    · exact Or.inl ⟨i, h1, h2, hm⟩
    · rw [h1, h2] at hi; exact absurd rfl hi
theorem sp_isAhead {τ : lf_St} {a b : Nat} (ha : a < 2 ^ 31) (hb : b < 2 ^ 31) {Post : Int32 → lf_St → Prop} (h0 : ¬ pah a b → Post 0 τ) (h1 : pah a b → Post 1 τ) : wp_X6_isAhead (nI a) (nI b) τ Post := by
  unfold wp_X6_isAhead
  intro v e
  have hx : a ^^^ b < 2 ^ 31 := Nat.xor_lt_two_pow ha hb
  rw [bt_xor] at e
  rw [e, nu_negN (by omega), bt_and, bt_and]
  have hlt : (a &&& (a ^^^ b) &&& (2 ^ 32 - (a ^^^ b))) < 2 ^ 31 := Nat.lt_of_le_of_lt (Nat.le_trans Nat.and_le_left Nat.and_le_left) ha
  have hz : nI (a &&& (a ^^^ b) &&& (2 ^ 32 - (a ^^^ b))) = 0 ↔ (a &&& (a ^^^ b) &&& (2 ^ 32 - (a ^^^ b))) = 0 := nI_eq (b := 0) hlt (by decide)
  rw [hz]
  refine ⟨fun q => h0 (fun p => (ah_iff ha hb).mpr p q), fun q => h1 ((ah_iff ha hb).mp q)⟩
