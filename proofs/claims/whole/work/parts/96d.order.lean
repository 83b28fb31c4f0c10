/-! THE CODES FALL, THE SETS COME IN ORDER -/
theorem db_0 {x d : Nat} (hd : d < 2) : (2 * x + d).testBit 0 = decide (d = 1) := by
  rw [Nat.testBit_zero]
  exact decide_eq_decide.mpr (by omega)
theorem db_s {x d i : Nat} (hd : d < 2) : (2 * x + d).testBit (i + 1) = x.testBit i := by
  rw [Nat.testBit_succ, show (2 * x + d) / 2 = x by omega]
theorem ah_dbl {x y d : Nat} (hd : d < 2) (h : pah x y) : pah (2 * x + d) (2 * y + d) := by
  obtain ⟨i, h1, h2, h3⟩ := h
  refine ⟨i + 1, by rw [db_s hd]; exact h1, by rw [db_s hd]; exact h2, fun j hj => ?_⟩
  cases j with
  | zero => rw [db_0 hd, db_0 hd]
  | succ j => rw [db_s hd, db_s hd]; exact h3 j (by omega)
theorem md_2 {p a : Nat} (h : a < 2 * p) : (a < p ∧ a % p = a ∧ a / p % 2 = 0) ∨ (p ≤ a ∧ a % p = a - p ∧ a / p % 2 = 1) := by
  by_cases q : a < p
  · exact Or.inl ⟨q, Nat.mod_eq_of_lt q, by rw [Nat.div_eq_of_lt q]⟩
  · refine Or.inr ⟨by omega, ?_, ?_⟩
    · rw [Nat.mod_eq_sub_mod (by omega), Nat.mod_eq_of_lt (by omega)]
    · have e : a / p = 1 := by
        rw [Nat.div_eq_sub_div (by omega) (by omega), Nat.div_eq_of_lt (by omega)]
      rw [e]
theorem rev_lt : ∀ (B c : Nat), pn_rev B c < 2 ^ B
  | 0, _ => by show 0 < 1; decide
  | B + 1, c => by
    have := rev_lt B (c % 2 ^ B)
    show 2 * pn_rev B (c % 2 ^ B) + c / 2 ^ B % 2 < 2 ^ (B + 1)
    rw [Nat.pow_succ]
    omega
theorem rev_ah : ∀ (B : Nat) {a b : Nat}, a < 2 ^ B → b < a → pah (pn_rev B a) (pn_rev B b)
  | 0, a, b, h, h' => by
    have : a < 1 := h
    omega
  | B + 1, a, b, h, h' => by
    show pah (2 * pn_rev B (a % 2 ^ B) + a / 2 ^ B % 2) (2 * pn_rev B (b % 2 ^ B) + b / 2 ^ B % 2)
    rw [Nat.pow_succ] at h
    rcases md_2 (p := 2 ^ B) (a := a) (by omega) with ⟨q1, q2, q3⟩ | ⟨q1, q2, q3⟩
    · rcases md_2 (p := 2 ^ B) (a := b) (by omega) with ⟨r1, r2, r3⟩ | ⟨r1, r2, r3⟩
      · rw [q2, q3, r2, r3]
        exact ah_dbl (by decide) (rev_ah B q1 h')
      · omega
    · rcases md_2 (p := 2 ^ B) (a := b) (by omega) with ⟨r1, r2, r3⟩ | ⟨r1, r2, r3⟩
      · rw [q3, r3]
        exact ⟨0, by rw [db_0 (by decide)]; rfl, by rw [db_0 (by decide)]; rfl, fun j hj => absurd hj (Nat.not_lt_zero j)⟩
      · rw [q2, q3, r2, r3]
        exact ah_dbl (by decide) (rev_ah B (by omega) (by omega))
theorem rev_ex : ∀ (B : Nat) {s : Nat}, s < 2 ^ B → ∃ c, c < 2 ^ B ∧ pn_rev B c = s
  | 0, s, h => ⟨0, by decide, by have : s < 1 := h; show 0 = s; omega⟩
  | B + 1, s, h => by
    rw [Nat.pow_succ] at h
    obtain ⟨c, h1, h2⟩ := rev_ex B (s := s / 2) (by omega)
    rcases Nat.mod_two_eq_zero_or_one s with e | e
    · refine ⟨c, by rw [Nat.pow_succ]; omega, ?_⟩
      show 2 * pn_rev B (c % 2 ^ B) + c / 2 ^ B % 2 = s
      rw [Nat.mod_eq_of_lt h1, Nat.div_eq_of_lt h1, h2]
      omega
    · refine ⟨c + 2 ^ B, by rw [Nat.pow_succ]; omega, ?_⟩
      show 2 * pn_rev B ((c + 2 ^ B) % 2 ^ B) + (c + 2 ^ B) / 2 ^ B % 2 = s
      rcases md_2 (p := 2 ^ B) (a := c + 2 ^ B) (by omega) with ⟨q1, q2, q3⟩ | ⟨q1, q2, q3⟩
      · omega
      · rw [q2, q3, show c + 2 ^ B - 2 ^ B = c by omega, h2]
        omega
theorem rev_bit : ∀ (B c i : Nat), (pn_rev B c).testBit i = (decide (i < B) && c.testBit (B - 1 - i))
  | 0, c, i => by
    show Nat.testBit 0 i = _
    rw [Nat.zero_testBit, decide_eq_false (Nat.not_lt_zero i), Bool.false_and]
  | B + 1, c, i => by
    show (2 * pn_rev B (c % 2 ^ B) + c / 2 ^ B % 2).testBit i = _
    have hd : c / 2 ^ B % 2 < 2 := Nat.mod_lt _ (by decide)
    cases i with
    | zero =>
      rw [db_0 hd, decide_eq_true (by omega : 0 < B + 1), Bool.true_and, Nat.testBit_eq_decide_div_mod_eq]
      rfl
    | succ i =>
      rw [db_s hd, rev_bit B (c % 2 ^ B) i, Nat.testBit_mod_two_pow]
      by_cases q : i < B
      · rw [decide_eq_true q, decide_eq_true (by omega : i + 1 < B + 1), decide_eq_true (by omega : B - 1 - i < B), Bool.true_and, Bool.true_and, Bool.true_and, show B + 1 - 1 - (i + 1) = B - 1 - i by omega]
      · rw [decide_eq_false q, decide_eq_false (by omega : ¬ i + 1 < B + 1), Bool.false_and, Bool.false_and]
theorem rev_nb : ∀ B, B < 11 → ∀ c, c < 2 ^ B → pn_nb (pn_rev B c) B = pn_nb c B := by decide +kernel
/-- the choices of the codes from n on, in order -/
def pql (P : pn_T) (n : Nat) : List Nat := ((List.range' n (2 ^ pB P - n)).reverse.map (pn_rev (pB P))).filter (pch P)
theorem pql_top (P : pn_T) : pql P (2 ^ pB P) = [] := by
  unfold pql
  rw [Nat.sub_self]
  rfl
theorem pql_0 (P : pn_T) : pql P 0 = pchs P := by
  unfold pql pchs
  rw [List.range_eq_range']
  rfl
theorem pql_step {P : pn_T} {n : Nat} (h : n < 2 ^ pB P) : pql P n = pql P (n + 1) ++ (if pch P (pn_rev (pB P) n) then [pn_rev (pB P) n] else []) := by
  unfold pql
  rw [show 2 ^ pB P - n = (2 ^ pB P - (n + 1)) + 1 by omega, List.range'_succ, List.reverse_cons, List.map_append, List.filter_append]
  congr 1
  show List.filter (pch P) [pn_rev (pB P) n] = _
  rw [List.filter_cons]
  split <;> rfl
theorem pql_mem {P : pn_T} {n s : Nat} : s ∈ pql P n ↔ pch P s = true ∧ ∃ c, n ≤ c ∧ c < 2 ^ pB P ∧ pn_rev (pB P) c = s := by
  unfold pql
  rw [List.mem_filter, List.mem_map]
  constructor
  · intro ⟨⟨c, h1, h2⟩, h3⟩
    rw [List.mem_reverse, List.mem_range'_1] at h1
    exact ⟨h3, c, h1.1, by omega, h2⟩
  · intro ⟨h3, c, h1, h2, h4⟩
    refine ⟨⟨c, ?_, h4⟩, h3⟩
    rw [List.mem_reverse, List.mem_range'_1]
    exact ⟨h1, by omega⟩
theorem pql_all {P : pn_T} {s : Nat} (hs : s < 2 ^ pB P) (h : pch P s = true) : s ∈ pql P 0 := by
  obtain ⟨c, h1, h2⟩ := rev_ex _ hs
  exact pql_mem.mpr ⟨h, c, Nat.zero_le _, h1, h2⟩
theorem pql_lt {P : pn_T} {n s : Nat} (h : s ∈ pql P n) : s < 2 ^ pB P ∧ pch P s = true := by
  obtain ⟨h1, c, -, -, h2⟩ := pql_mem.mp h
  exact ⟨by rw [← h2]; exact rev_lt _ _, h1⟩
theorem pql_ah {P : pn_T} {n s : Nat} (h : s ∈ pql P (n + 1)) : pah s (pn_rev (pB P) n) := by
  obtain ⟨-, c, h1, h2, h3⟩ := pql_mem.mp h
  rw [← h3]
  exact rev_ah _ h2 (by omega)
/-- how many codes from n on have as many bits as there are rows -/
def pct (B R n : Nat) : Nat := ((List.range' n (2 ^ B - n)).filter (fun c => decide (pn_nb c B = R))).length
theorem pct_step {B R n : Nat} (h : n < 2 ^ B) : pct B R n = (if pn_nb n B = R then 1 else 0) + pct B R (n + 1) := by
  unfold pct
  rw [show 2 ^ B - n = (2 ^ B - (n + 1)) + 1 by omega, List.range'_succ, List.filter_cons]
  by_cases q : pn_nb n B = R
  · rw [if_pos (decide_eq_true q), if_pos q, List.length_cons]
    omega
  · rw [if_neg (by rw [decide_eq_false q]; decide), if_neg q]
    omega
theorem pct_mono {B R : Nat} : ∀ n, n ≤ 2 ^ B → pct B R n ≤ pct B R 0
  | 0, _ => Nat.le_refl _
  | n + 1, h => by
    have h1 := pct_mono (B := B) (R := R) n (by omega)
    have h2 := pct_step (B := B) (R := R) (n := n) (by omega)
    omega
theorem pct_all : ∀ B, B < 11 → ∀ f, f < 4 → pct B (2 * f) 0 ≤ 210 := by decide +kernel
theorem pct_210 {P : pn_T} (wf : pwf P) {n : Nat} (h : n ≤ 2 ^ pB P) : pct (pB P) (pR P) n ≤ 210 := by
  have h1 := wf.2.1
  have h2 := wf.2.2.2.2.1
  exact Nat.le_trans (pct_mono n h) (pct_all _ (by omega) _ (by omega))
theorem pql_len {P : pn_T} (wf : pwf P) : ∀ (k n : Nat), n + k = 2 ^ pB P → (pql P n).length ≤ pct (pB P) (pR P) n
  | 0, n, h => by
    have e : n = 2 ^ pB P := by omega
    rw [e, pql_top]
    exact Nat.zero_le _
  | k + 1, n, h => by
    have ih := pql_len wf k (n + 1) (by omega)
    have hn : n < 2 ^ pB P := by omega
    rw [pql_step hn, pct_step hn, List.length_append]
    by_cases q : pch P (pn_rev (pB P) n) = true
    · have e := pch_nb q
      rw [rev_nb _ (by have := wf.2.1; omega) n hn] at e
      rw [if_pos q, if_pos e]
      show _ + 1 ≤ _
      omega
    · rw [if_neg q]
      show _ + 0 ≤ _
      omega
theorem pchs_len {P : pn_T} (wf : pwf P) : (pchs P).length ≤ 210 := by
  rw [← pql_0]
  exact Nat.le_trans (pql_len wf _ 0 (Nat.zero_add _)) (pct_210 wf (Nat.zero_le _))
theorem sc_mirrored {P : pn_T} {σ : lf_St} (wf : pwf P) (hK : pK P σ) {c : Nat} (hc : c < 2 ^ pB P) {Post : Int32 → lf_St → Prop} (hP : Post (nI (pn_rev (pB P) c)) σ) : wp_X4_mirrored (nI c) σ Post := by
  have hB := wf.2.1
  have hc31 : c < 2 ^ 31 := Nat.lt_of_lt_of_le hc (Nat.pow_le_pow_right (by decide) (by omega))
  unfold wp_X4_mirrored
  have z := pk_loop (σ := Unit) (fun fu i _ => L_X4_mirrored_4 Post fu (nI c) (nI (pn_bs (fun j => c.testBit (pB P - 1 - j)) i)) (nI i) σ) (fun _ _ => True) (pB P) 0 () (by omega) trivial ?_ ?_
  · exact z
  · intro m _ _
    show L_X4_mirrored_4 Post (m + 1) _ _ _ _
    unfold L_X4_mirrored_4
    rw [hK.2.2.1]
    refine ⟨fun _ => ?_, fun h => absurd (nI_le (Nat.le_refl _) (by omega)) h⟩
    have e : pn_bs (fun j => c.testBit (pB P - 1 - j)) (pB P) = pn_rev (pB P) c := Nat.eq_of_testBit_eq (fun i => by rw [bs_bit, rev_bit])
    rw [e]
    exact hP
  · intro m i _ hi _ ih
    show L_X4_mirrored_4 Post (m + 1) _ _ _ _
    unfold L_X4_mirrored_4
    have ih' := ih () trivial
    have e1 : nI (pB P) - 1 - nI i = nI (pB P - 1 - i) := by
      rw [show pB P = (pB P - 1) + 1 by omega, nI_pred, Nat.add_sub_cancel]
      have e3 : nI (pB P - 1) = nI (pB P - 1 - i) + nI i := by rw [nI_add]; congr 1; omega
      rw [e3, Int32.add_sub_cancel]
    rw [hK.2.2.1, e1, bt_test1 hc31 (by omega), bt_shl (by omega), bt_or, bs_or]
    have e2 : pn_bs (fun j => c.testBit (pB P - 1 - j)) (i + 1) = pn_bs (fun j => c.testBit (pB P - 1 - j)) i + (if c.testBit (pB P - 1 - i) then 2 ^ i else 0) := rfl
    refine ⟨fun h => absurd h (nI_ge hi (by omega)), fun _ => ⟨fun q v3 e3 => ?_, fun q v4 e4 v5 e5 => ?_⟩⟩
    · rw [e2, if_neg q] at ih'
      rw [e3, nI_1]
      exact ih'
    · rw [e2, if_pos q] at ih'
      rw [e4, e5, nI_1]
      exact ih'
