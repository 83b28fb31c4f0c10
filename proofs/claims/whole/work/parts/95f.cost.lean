/-! WHAT A CHOICE COSTS, the model -/
theorem ppu_bi {P : pn_T} {s i : Nat} (hi : i < pn_nb s (pB P)) : ppu P s (pn_bi s (pB P) i) = pbe P s i := by
  obtain ⟨b, h1, h2, h3, h4⟩ := bi_ex hi
  rw [h4]
  unfold ppu
  rw [h2, h3]
  rfl
theorem ppu_bit {P : pn_T} {s b : Nat} (h : ppu P s b ≠ 0) : s.testBit b = true := by
  cases q : s.testBit b
  · unfold ppu at h
    rw [q] at h
    exact absurd rfl h
  · rfl
theorem pub_bs (P : pn_T) (s : Nat) : ∀ k, pub P s k = pn_bs (fun b => decide (ppu P s b ≠ 0)) k
  | 0 => rfl
  | k + 1 => by
    show pub P s k + (if ppu P s k = 0 then 0 else 2 ^ k) = pn_bs _ k + (if decide (ppu P s k ≠ 0) = true then 2 ^ k else 0)
    rw [pub_bs P s k]
    by_cases e : ppu P s k = 0
    · rw [if_pos e, if_neg (by rw [decide_eq_false (fun q => q e)]; decide)]
    · rw [if_neg e, if_pos (decide_eq_true e)]
theorem puj_bit (P : pn_T) (s j : Nat) : ∀ k, (puj P s k).testBit j = true ↔ ∃ b, b < k ∧ ppu P s b ≠ 0 ∧ (pF P b = j ∨ pT P b = j)
  | 0 => ⟨fun h => (by rw [show puj P s 0 = 0 from rfl, Nat.zero_testBit] at h; cases h), fun ⟨b, h, _⟩ => absurd h (Nat.not_lt_zero b)⟩
  | k + 1 => by
    have ih := puj_bit P s j k
    have e0 : puj P s (k + 1) = if ppu P s k = 0 then puj P s k else puj P s k ||| (2 ^ pF P k ||| 2 ^ pT P k) := rfl
    rw [e0]
    by_cases e : ppu P s k = 0
    · rw [if_pos e, ih]
      refine ⟨fun ⟨b, h1, h2⟩ => ⟨b, by omega, h2⟩, fun ⟨b, h1, h2, h3⟩ => ⟨b, ?_, h2, h3⟩⟩
      by_cases q : b = k
      · rw [q] at h2; exact absurd e h2
      · omega
    · rw [if_neg e, Nat.testBit_or, Nat.testBit_or, Nat.testBit_two_pow, Nat.testBit_two_pow, Bool.or_eq_true, Bool.or_eq_true, ih]
      constructor
      · rintro (⟨b, h1, h2⟩ | h | h)
        · exact ⟨b, by omega, h2⟩
        · exact ⟨k, by omega, e, Or.inl (of_decide_eq_true h)⟩
        · exact ⟨k, by omega, e, Or.inr (of_decide_eq_true h)⟩
      · intro ⟨b, h1, h2, h3⟩
        by_cases q : b = k
        · subst q
          rcases h3 with h3 | h3
          · exact Or.inr (Or.inl (decide_eq_true h3))
          · exact Or.inr (Or.inr (decide_eq_true h3))
        · exact Or.inl ⟨b, by omega, h2, h3⟩
/-- sets gathered by places -/
def uB (P : pn_T) (s i m : Nat) : Prop := ∀ k, m.testBit k = true ↔ k < pB P ∧ pn_nb s k < i ∧ ppu P s k ≠ 0
def uJ (P : pn_T) (s i m : Nat) : Prop := ∀ j, m.testBit j = true ↔ ∃ b, b < pB P ∧ pn_nb s b < i ∧ ppu P s b ≠ 0 ∧ (pF P b = j ∨ pT P b = j)
theorem uB_0 (P : pn_T) (s : Nat) : uB P s 0 0 := fun k => ⟨fun h => (by rw [Nat.zero_testBit] at h; cases h), fun h => absurd h.2.1 (Nat.not_lt_zero _)⟩
theorem uJ_0 (P : pn_T) (s : Nat) : uJ P s 0 0 := fun k => ⟨fun h => (by rw [Nat.zero_testBit] at h; cases h), fun ⟨b, h⟩ => absurd h.2.1 (Nat.not_lt_zero _)⟩
theorem nb_pl {P : pn_T} {s i k b : Nat} (hb : s.testBit b = true) (h3 : pn_nb s b = i) (hk : ppu P s k ≠ 0) : pn_nb s k < i + 1 ↔ pn_nb s k < i ∨ k = b := by
  have hk2 := ppu_bit hk
  constructor
  · intro h
    rcases Nat.lt_trichotomy k b with z | z | z
    · have := nb_lt hk2 z; omega
    · exact Or.inr z
    · have := nb_lt hb z; omega
  · rintro (h | h)
    · omega
    · rw [h]; omega
theorem uB_skip {P : pn_T} {s i m : Nat} (h : uB P s i m) (hi : i < pn_nb s (pB P)) (hz : pbe P s i = 0) : uB P s (i + 1) m := by
  obtain ⟨b, h1, h2, h3, h4⟩ := bi_ex hi
  have hb : ppu P s b = 0 := by rw [← h4, ppu_bi hi, hz]
  intro k
  rw [h k]
  refine ⟨fun ⟨a, c, d⟩ => ⟨a, by omega, d⟩, fun ⟨a, c, d⟩ => ⟨a, ?_, d⟩⟩
  rcases (nb_pl h2 h3 d).mp c with q | q
  · exact q
  · rw [q] at d; exact absurd hb d
theorem uB_add {P : pn_T} {s i m : Nat} (h : uB P s i m) (hi : i < pn_nb s (pB P)) (hz : pbe P s i ≠ 0) : uB P s (i + 1) (m ||| 2 ^ pn_bi s (pB P) i) := by
  obtain ⟨b, h1, h2, h3, h4⟩ := bi_ex hi
  have hb : ppu P s b ≠ 0 := by rw [← h4, ppu_bi hi]; exact hz
  intro k
  rw [h4, Nat.testBit_or, Bool.or_eq_true, h k, Nat.testBit_two_pow]
  constructor
  · rintro (⟨a, c, d⟩ | q)
    · exact ⟨a, by omega, d⟩
    · have q := of_decide_eq_true q
      subst q
      exact ⟨h1, by omega, hb⟩
  · intro ⟨a, c, d⟩
    rcases (nb_pl h2 h3 d).mp c with q | q
    · exact Or.inl ⟨a, q, d⟩
    · exact Or.inr (decide_eq_true q.symm)
theorem uJ_skip {P : pn_T} {s i m : Nat} (h : uJ P s i m) (hi : i < pn_nb s (pB P)) (hz : pbe P s i = 0) : uJ P s (i + 1) m := by
  obtain ⟨b, h1, h2, h3, h4⟩ := bi_ex hi
  have hb : ppu P s b = 0 := by rw [← h4, ppu_bi hi, hz]
  intro j
  rw [h j]
  refine ⟨fun ⟨k, a, c, d⟩ => ⟨k, a, by omega, d⟩, fun ⟨k, a, c, d, e⟩ => ⟨k, a, ?_, d, e⟩⟩
  rcases (nb_pl h2 h3 d).mp c with q | q
  · exact q
  · rw [q] at d; exact absurd hb d
theorem uJ_add {P : pn_T} {s i m : Nat} (h : uJ P s i m) (hi : i < pn_nb s (pB P)) (hz : pbe P s i ≠ 0) : uJ P s (i + 1) (m ||| (2 ^ pF P (pn_bi s (pB P) i) ||| 2 ^ pT P (pn_bi s (pB P) i))) := by
  obtain ⟨b, h1, h2, h3, h4⟩ := bi_ex hi
  have hb : ppu P s b ≠ 0 := by rw [← h4, ppu_bi hi]; exact hz
  intro j
  rw [h4, Nat.testBit_or, Bool.or_eq_true, h j, Nat.testBit_or, Bool.or_eq_true, Nat.testBit_two_pow, Nat.testBit_two_pow]
  constructor
  · rintro (⟨k, a, c, d⟩ | q | q)
    · exact ⟨k, a, by omega, d⟩
    · exact ⟨b, h1, by omega, hb, Or.inl (of_decide_eq_true q)⟩
    · exact ⟨b, h1, by omega, hb, Or.inr (of_decide_eq_true q)⟩
  · intro ⟨k, a, c, d, e⟩
    rcases (nb_pl h2 h3 d).mp c with q | q
    · exact Or.inl ⟨k, a, q, d, e⟩
    · subst q
      rcases e with e | e
      · exact Or.inr (Or.inl (decide_eq_true e))
      · exact Or.inr (Or.inr (decide_eq_true e))
theorem uB_end {P : pn_T} {s m : Nat} (h : uB P s (pn_nb s (pB P)) m) : m = pub P s (pB P) := by
  apply Nat.eq_of_testBit_eq
  intro k
  rw [pub_bs, bs_bit]
  have := h k
  rw [Bool.eq_iff_iff, this, Bool.and_eq_true, decide_eq_true_iff, decide_eq_true_iff]
  exact ⟨fun ⟨a, _, c⟩ => ⟨a, c⟩, fun ⟨a, c⟩ => ⟨a, nb_lt (ppu_bit c) a, c⟩⟩
theorem uJ_end {P : pn_T} {s m : Nat} (h : uJ P s (pn_nb s (pB P)) m) : m = puj P s (pB P) := by
  apply Nat.eq_of_testBit_eq
  intro k
  rw [Bool.eq_iff_iff, h k, puj_bit]
  exact ⟨fun ⟨b, a, _, c⟩ => ⟨b, a, c⟩, fun ⟨b, a, c⟩ => ⟨b, a, nb_lt (ppu_bit c.1) a, c⟩⟩
theorem puj_lt {P : pn_T} (wf : pwf P) (s : Nat) : ∀ {k : Nat}, k ≤ pB P → puj P s k < 2 ^ 6
  | 0, _ => by show 0 < 2 ^ 6; decide
  | k + 1, hk => by
    have ih := puj_lt wf s (k := k) (by omega)
    obtain ⟨h1, h2, -⟩ := wf.2.2.2.2.2.2.2.1 k (by omega)
    have hJ := wf.1
    have e0 : puj P s (k + 1) = if ppu P s k = 0 then puj P s k else puj P s k ||| (2 ^ pF P k ||| 2 ^ pT P k) := rfl
    rw [e0]
    by_cases e : ppu P s k = 0
    · rw [if_pos e]; exact ih
    · rw [if_neg e]
      exact Nat.or_lt_two_pow ih (Nat.or_lt_two_pow (Nat.pow_lt_pow_right (by decide) (by omega)) (Nat.pow_lt_pow_right (by decide) (by omega)))
theorem nb_up {s : Nat} {k : Nat} (h : s < 2 ^ k) : ∀ d, pn_nb s (k + d) = pn_nb s k
  | 0 => rfl
  | d + 1 => by
    rw [show k + (d + 1) = (k + d) + 1 by omega, nb_same (Nat.testBit_lt_two_pow (Nat.lt_of_lt_of_le h (Nat.pow_le_pow_right (by decide) (by omega)))), nb_up h d]
theorem mC_zero {P : pn_T} {τ : lf_St} {s i : Nat} (h : mC P s τ) (hi : i < pR P) : lf_al τ 21 i = 0 ↔ pbe P s i = 0 := by
  rw [nu_l0, h.2.1 i hi]
theorem sp_usedBars {P : pn_T} {κ : mk_T} {τ : lf_St} (wf : pwf P) (hR : mR P κ τ) {s : Nat} (hn : pn_nb s (pB P) = pR P) (hC : mC P s τ) {Post : Int32 → lf_St → Prop} (hP : Post (nI (pub P s (pB P))) τ) : wp_X6_usedBars τ Post := by
  have h6 := pR_6 wf
  have hB := wf.2.1
  unfold wp_X6_usedBars
  have z := pk_loop (fun fu i (m : Nat) => L_X6_usedBars_4 Post fu (nI m) (nI i) τ) (fun i m => uB P s i m) (pR P) 0 0 (by omega) (uB_0 P s) ?_ ?_
  · rw [nI_0] at z
    exact z
  · intro n m hm
    show L_X6_usedBars_4 Post (n + 1) _ _ _
    unfold L_X6_usedBars_4
    rw [hR.2.1]
    rw [← hn] at hm
    rw [uB_end hm]
    exact ⟨fun _ => hP, fun h => absurd (nI_le (Nat.le_refl _) (by omega)) h⟩
  · intro n i m hi hm ih
    show L_X6_usedBars_4 Post (n + 1) _ _ _
    unfold L_X6_usedBars_4
    obtain ⟨b, h1, h2, h3, h4⟩ := bi_ex (show i < pn_nb s (pB P) by omega)
    rw [hR.2.1, nu_cl (by omega), hC.2.2 i hi, mC_zero hC hi]
    refine ⟨fun h => absurd h (nI_ge hi (by omega)), fun _ => ⟨vp_in_nI (by omega) (by omega), fun hz v4 e4 v5 e5 => ?_, fun hz => ⟨vp_in_nI (by omega) (by omega), fun v4 e4 v5 e5 => ?_⟩⟩⟩
    · rw [e4, e5, nI_1, show (0 : Int32) = nI 0 from rfl, bt_or, Nat.or_zero]
      exact ih _ (uB_skip hm (by omega) hz)
    · rw [e4, e5, nI_1, bt_shl (by omega), bt_or]
      exact ih _ (uB_add hm (by omega) hz)
theorem sp_usedJoints {P : pn_T} {κ : mk_T} {τ : lf_St} (wf : pwf P) (hR : mR P κ τ) {s : Nat} (hn : pn_nb s (pB P) = pR P) (hC : mC P s τ) {Post : Int32 → lf_St → Prop} (hP : Post (nI (puj P s (pB P))) τ) : wp_X6_usedJoints τ Post := by
  have h6 := pR_6 wf
  have hB := wf.2.1
  have hJ := wf.1
  unfold wp_X6_usedJoints
  have z := pk_loop (fun fu i (m : Nat) => L_X6_usedJoints_4 Post fu (nI m) (nI i) τ) (fun i m => uJ P s i m) (pR P) 0 0 (by omega) (uJ_0 P s) ?_ ?_
  · rw [nI_0] at z
    exact z
  · intro n m hm
    show L_X6_usedJoints_4 Post (n + 1) _ _ _
    unfold L_X6_usedJoints_4
    rw [hR.2.1]
    rw [← hn] at hm
    rw [uJ_end hm]
    exact ⟨fun _ => hP, fun h => absurd (nI_le (Nat.le_refl _) (by omega)) h⟩
  · intro n i m hi hm ih
    show L_X6_usedJoints_4 Post (n + 1) _ _ _
    unfold L_X6_usedJoints_4
    obtain ⟨b, h1, h2, h3, h4⟩ := bi_ex (show i < pn_nb s (pB P) by omega)
    obtain ⟨f1, f2, -⟩ := wf.2.2.2.2.2.2.2.1 b h1
    obtain ⟨m1, m2⟩ := hR.1.1.2.2.2.2.2.1 b h1
    rw [hR.2.1, nu_cl (n := i) (by omega), hC.2.2 i hi, mC_zero hC hi, h4, nu_cl (n := b) (by omega), m1, m2]
    refine ⟨fun h => absurd h (nI_ge hi (by omega)), fun _ => ⟨vp_in_nI (by omega) (by omega), fun hz v4 e4 v5 e5 => ?_, fun hz => ⟨vp_in_nI (by omega) (by omega), vp_in_nI (by omega) (by omega), vp_in_nI (by omega) (by omega), vp_in_nI (by omega) (by omega), fun v4 e4 v5 e5 => ?_⟩⟩⟩
    · rw [e4, e5, nI_1, show (0 : Int32) = nI 0 from rfl, bt_or, Nat.or_zero]
      exact ih _ (uJ_skip hm (by omega) hz)
    · rw [e4, e5, nI_1, bt_shl (by omega), bt_shl (by omega), bt_or, bt_or, ← h4]
      exact ih _ (uJ_add hm (by omega) hz)
/-- the least size -/
theorem nu_mul64 {x y : Int64} {A B : Int} {S T : Nat} (hx : x.toInt = A) (hy : y.toInt = B) (h1 : A.natAbs ≤ S) (h2 : B.natAbs ≤ T) (h : S * T < 9000000000000000000) : (x * y).toInt = A * B := by
  have := nu_natAbs_mul h1 h2
  rw [Jvm.Kit.i64_mul (by rw [hx, hy]; omega) (by rw [hx, hy]; omega), hx, hy]
theorem nu_add64 {x y : Int64} {A B : Int} {S T : Nat} (hx : x.toInt = A) (hy : y.toInt = B) (h1 : A.natAbs ≤ S) (h2 : B.natAbs ≤ T) (h : S + T < 9000000000000000000) : (x + y).toInt = A + B := by
  rw [Jvm.Kit.i64_add (by rw [hx, hy]; omega) (by rw [hx, hy]; omega), hx, hy]
theorem nu_sub64 {x y : Int64} {A B : Int} {S T : Nat} (hx : x.toInt = A) (hy : y.toInt = B) (h1 : A.natAbs ≤ S) (h2 : B.natAbs ≤ T) (h : S + T < 9000000000000000000) : (x - y).toInt = A - B := by
  rw [Jvm.Kit.i64_sub (by rw [hx, hy]; omega) (by rw [hx, hy]; omega), hx, hy]
def pn_lv (n : Nat) : Int32 := if n = 0 then -6 else nI n
theorem ls_le {P : pn_T} (wf : pwf P) (s b : Nat) : ∀ {k : Nat}, k ≤ pS P → pn_ls P s b k ≤ 200
  | 0, _ => Nat.zero_le _
  | k + 1, hk => by
    have ih := ls_le wf s b (k := k) (by omega)
    have := wf.2.2.2.2.2.2.2.2.2 k (by omega)
    show (if ((ppu P s b).natAbs : Int) ≤ (pZ P k : Int) * pbel P s ∧ (pn_ls P s b k = 0 ∨ pZ P k < pn_ls P s b k) then pZ P k else pn_ls P s b k) ≤ 200
    by_cases e : ((ppu P s b).natAbs : Int) ≤ (pZ P k : Int) * pbel P s ∧ (pn_ls P s b k = 0 ∨ pZ P k < pn_ls P s b k)
    · rw [if_pos e]; omega
    · rw [if_neg e]; exact ih
theorem sp_sizeFor {P : pn_T} {τ : lf_St} (wf : pwf P) (hM : pM P τ) {s b : Nat} (hn : pn_nb s (pB P) = pR P) (hl : (lf_gl τ 20).toInt = pbel P s) {x : Int64} (hx : x.toInt = ppu P s b) {Post : Int32 → lf_St → Prop} (hP : Post (if ppu P s b = 0 then 0 else pn_lv (pls P s b)) τ) : wp_X6_sizeFor x τ Post := by
  have hS := wf.2.2.1
  have hbl := pbel_le wf hn
  have hbl0 : 0 ≤ pbel P s := Int.natCast_nonneg _
  have hpu := ppu_le wf hn b
  unfold wp_X6_sizeFor
  refine ⟨fun hne => ?_, fun he => ?_⟩
  · have hnz : ppu P s b ≠ 0 := fun q => hne (nu_l0.mpr (by rw [hx, q]))
    rw [if_neg hnz] at hP
    have z := pk_loop (fun fu k (_ : Unit) => L_X6_sizeFor_14 Post fu x (pn_lv (pn_ls P s b k)) (nI k) τ) (fun _ _ => True) (pS P) 0 () (by omega) trivial ?_ ?_
    · rw [nI_0] at z
      exact z
    · intro n _ _
      show L_X6_sizeFor_14 Post (n + 1) _ _ _ _
      unfold L_X6_sizeFor_14
      rw [hM.2.2.1]
      exact ⟨fun _ => hP, fun h => absurd (nI_le (Nat.le_refl _) (by omega)) h⟩
    · intro n k _ hk _ ih
      show L_X6_sizeFor_14 Post (n + 1) _ _ _ _
      unfold L_X6_sizeFor_14 J_X6_sizeFor_49 J_X6_sizeFor_71
      have hz := hM.2.2.2.2.2.2 k hk
      have hz2 := wf.2.2.2.2.2.2.2.2.2 k hk
      have hls := ls_le wf s b (k := k) (by omega)
      have vk : vp_in (nI k) 5 := vp_in_nI (by omega) (by omega)
      rw [hM.2.2.1, nu_cl (by omega), hz]
      have hmul : ((nI (pZ P k)).toInt64 * lf_gl τ 20).toInt = (pZ P k : Int) * pbel P s := nu_mul64 (S := 200) (T := 2985984) (nu_n64 (nu_nI (by omega))) hl (by omega) (by omega) (by decide)
      have keep : ¬ (((ppu P s b).natAbs : Int) ≤ (pZ P k : Int) * pbel P s ∧ (pn_ls P s b k = 0 ∨ pZ P k < pn_ls P s b k)) → ∀ v, v = nI k + 1 → L_X6_sizeFor_14 Post n x (pn_lv (pn_ls P s b k)) v τ := by
        intro hnot v ev
        rw [ev, nI_1]
        have := ih () trivial
        have e0 : pn_ls P s b (k + 1) = pn_ls P s b k := by
          show (if _ then _ else _) = _
          rw [if_neg hnot]
        rw [e0] at this
        exact this
      have take : (((ppu P s b).natAbs : Int) ≤ (pZ P k : Int) * pbel P s ∧ (pn_ls P s b k = 0 ∨ pZ P k < pn_ls P s b k)) → ∀ v2, v2 = nI (pZ P k) → ∀ v, v = nI k + 1 → L_X6_sizeFor_14 Post n x v2 v τ := by
        intro hyes v2 e2 v ev
        rw [ev, nI_1, e2]
        have := ih () trivial
        have e0 : pn_ls P s b (k + 1) = pZ P k := by
          show (if _ then _ else _) = _
          rw [if_pos hyes]
        rw [e0] at this
        unfold pn_lv at this
        rw [if_neg (by omega)] at this
        exact this
      refine ⟨fun h => absurd h (nI_ge hk (by omega)), fun _ => ⟨vk, sp_abs hx (by omega) (fun r er => ⟨fun hlt => ⟨fun _ => keep (fun q => ?_), fun q => absurd rfl q⟩, fun hge => ⟨fun q => absurd q (by decide), fun _ => ?_⟩⟩)⟩⟩
      · have := nu_lt64.mp hlt
        rw [hmul, er] at this
        omega
      · have hge2 : ((ppu P s b).natAbs : Int) ≤ (pZ P k : Int) * pbel P s := by
          have : ¬ ((nI (pZ P k)).toInt64 * lf_gl τ 20).toInt < r.toInt := fun q => hge (nu_lt64.mpr q)
          rw [hmul, er] at this
          omega
        rw [hz]
        unfold pn_lv at keep ⊢
        by_cases e : pn_ls P s b k = 0
        · rw [if_pos e] at keep ⊢
          exact ⟨fun _ => ⟨vk, take ⟨hge2, Or.inl e⟩⟩, fun q => absurd nu_neg6 q⟩
        · rw [if_neg e] at keep ⊢
          refine ⟨fun q => absurd q (nI_pos (by omega)), fun _ => ⟨vk, fun hle => keep (fun q => ?_), fun hgt => ⟨vk, take ⟨hge2, Or.inr ?_⟩⟩⟩⟩
          · have := (nI_leI (by omega) (by omega)).mp hle
            omega
          · have : ¬ pn_ls P s b k ≤ pZ P k := fun q => hgt (nI_le q (by omega))
            omega
  · have hz : ppu P s b = 0 := by rw [← hx, he]; rfl
    rw [if_pos hz] at hP
    exact hP
theorem sp_placeOf {P : pn_T} {κ : mk_T} {τ : lf_St} (wf : pwf P) (hR : mR P κ τ) {s b : Nat} (hn : pn_nb s (pB P) = pR P) (hC : mC P s τ) (hb : b < pB P) {Post : Int32 → lf_St → Prop} (h0 : s.testBit b = false → Post (-6) τ) (h1 : s.testBit b = true → Post (nI (pn_nb s b)) τ) : wp_X6_placeOf (nI b) τ Post := by
  have h6 := pR_6 wf
  have hB := wf.2.1
  unfold wp_X6_placeOf
  have z := pk_loop (fun fu i (v : Int32) => L_X6_placeOf_5 Post fu (nI b) v (nI i) τ) (fun i v => v = if s.testBit b = true ∧ pn_nb s b < i then nI (pn_nb s b) else -6) (pR P) 0 (-6) (by omega) (by rw [if_neg (by omega)]) ?_ ?_
  · rw [nI_0] at z
    exact z
  · intro n v hv
    show L_X6_placeOf_5 Post (n + 1) _ _ _ _
    unfold L_X6_placeOf_5
    rw [hR.2.1]
    refine ⟨fun _ => ?_, fun h => absurd (nI_le (Nat.le_refl _) (by omega)) h⟩
    rw [hv]
    cases q : s.testBit b
    · rw [if_neg (fun z => by cases z.1)]
      exact h0 q
    · rw [if_pos ⟨rfl, by have := nb_lt q hb; omega⟩]
      exact h1 q
  · intro n i v hi hv ih
    show L_X6_placeOf_5 Post (n + 1) _ _ _ _
    unfold L_X6_placeOf_5
    obtain ⟨c, c1, c2, c3, c4⟩ := bi_ex (show i < pn_nb s (pB P) by omega)
    rw [hR.2.1, nu_cl (by omega), hC.2.2 i hi, c4, nI_eq (a := c) (b := b) (by omega) (by omega)]
    refine ⟨fun h => absurd h (nI_ge hi (by omega)), fun _ => ⟨vp_in_nI (by omega) (by omega), fun hne v4 e4 => ?_, fun he v4 e4 => ?_⟩⟩
    · rw [e4, nI_1]
      refine ih _ ?_
      rw [hv]
      by_cases q : s.testBit b = true ∧ pn_nb s b < i
      · rw [if_pos q, if_pos ⟨q.1, by omega⟩]
      · rw [if_neg q, if_neg (fun z => ?_)]
        have w1 : ¬ pn_nb s b < i := fun w => q ⟨z.1, w⟩
        have w2 := z.2
        have : pn_nb s b = pn_nb s c := by omega
        rcases Nat.lt_trichotomy b c with y | y | y
        · have := nb_lt z.1 y; omega
        · exact hne y.symm
        · have := nb_lt c2 y; omega
    · rw [e4, nI_1]
      refine ih _ ?_
      subst he
      rw [if_pos ⟨c2, by omega⟩, c3]
