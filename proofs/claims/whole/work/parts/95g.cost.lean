theorem sm_le {f : Nat → Int} {v : Int} (hv : 0 ≤ v) : ∀ {n : Nat}, (∀ j, j < n → 0 ≤ f j ∧ f j ≤ v) → 0 ≤ dt_sm f n ∧ dt_sm f n ≤ (n : Int) * v
  | 0, _ => ⟨Int.le_refl 0, by show (0 : Int) ≤ (0 : Nat) * v; rw [Int.natCast_zero, Int.zero_mul]; exact Int.le_refl 0⟩
  | n + 1, h => by
    have ih := sm_le hv (n := n) (fun j hj => h j (by omega))
    have h2 := h n (by omega)
    have e : dt_sm f (n + 1) = dt_sm f n + f n := rfl
    have e2 : ((n + 1 : Nat) : Int) * v = (n : Int) * v + v := by grind
    rw [e, e2]
    omega
theorem mul_le {a b A B : Int} (ha : 0 ≤ a) (hA : a ≤ A) (hb : 0 ≤ b) (hB : b ≤ B) : 0 ≤ a * b ∧ a * b ≤ A * B := ⟨Int.mul_nonneg ha hb, Int.mul_le_mul hA hB hb (by omega)⟩
theorem pc0_le {P : pn_T} (wf : pwf P) {s : Nat} (hn : pn_nb s (pB P) = pR P) : 0 ≤ pc0 P s ∧ pc0 P s ≤ 687970713600 := by
  have hB := wf.2.1
  have h := sm_le (f := fun b => pst P b * ((ppu P s b).natAbs : Int)) (v := 72 * 955514880) (by decide) (n := pB P) (fun b hb => by
    have h1 := pst_le wf hb
    have h2 := ppu_le wf hn b
    exact mul_le h1.1 h1.2 (Int.natCast_nonneg _) (by omega))
  have h3 : (pB P : Int) * (72 * 955514880) ≤ 10 * (72 * 955514880) := Int.mul_le_mul_of_nonneg_right (by omega) (by decide)
  exact ⟨h.1, by have := h.2; unfold pc0; omega⟩
theorem pc2_le {P : pn_T} (wf : pwf P) {s : Nat} (hn : pn_nb s (pB P) = pR P) : 0 ≤ pc2 P s ∧ pc2 P s ≤ 144000 * 2985984 := by
  have hB := wf.2.1
  have h := sm_le (f := fun b => if ppu P s b = 0 then 0 else pst P b * (pls P s b : Int)) (v := 72 * 200) (by decide) (n := pB P) (fun b hb => by
    have h1 := pst_le wf hb
    have h2 := ls_le wf s b (Nat.le_refl _)
    by_cases e : ppu P s b = 0
    · rw [if_pos e]
      exact ⟨Int.le_refl _, by decide⟩
    · rw [if_neg e]
      exact mul_le h1.1 h1.2 (Int.natCast_nonneg _) (by unfold pls; omega))
  have h3 : (pB P : Int) * (72 * 200) ≤ 10 * (72 * 200) := Int.mul_le_mul_of_nonneg_right (by omega) (by decide)
  exact mul_le h.1 (by have := h.2; omega) (Int.natCast_nonneg _) (pbel_le wf hn)
theorem nb6_le (m : Nat) : pn_nb m 6 ≤ 6 := nb_le m 6
theorem pcost_le {P : pn_T} (wf : pwf P) {k s : Nat} {c : Int} (hn : pn_nb s (pB P) = pR P) (h : pcost P k s c) : 0 ≤ c ∧ c ≤ 706000000000 := by
  have h0 := pc0_le wf hn
  have h2 := pc2_le wf hn
  rcases h with ⟨_, e⟩ | ⟨_, _, e⟩ | ⟨_, _, e⟩ | ⟨_, e⟩
  · omega
  · omega
  · omega
  · have hC := wf.2.2.2.1
    have h6 := nb6_le (puj P s (pB P))
    have h3 := mul_le (a := (pC P : Int)) (b := (pn_nb (puj P s (pB P)) 6 : Int)) (A := 1000) (B := 6) (by omega) (by omega) (by omega) (by omega)
    have h4 := mul_le h3.1 h3.2 (Int.natCast_nonneg _) (pbel_le wf hn)
    have h5 : (0 : Int) ≤ (pC P : Int) * (pn_nb (puj P s (pB P)) 6 : Int) * pbel P s ∧ (pC P : Int) * (pn_nb (puj P s (pB P)) 6 : Int) * pbel P s ≤ 1000 * 6 * 2985984 := h4
    omega
def pcv (P : pn_T) (k s : Nat) (v : Int64) : Prop := (∃ c, pcost P k s c ∧ v.toInt = c) ∨ ((∀ c, ¬ pcost P k s c) ∧ v.toInt = -1)
/-- a summand by places -/
def pn_tm (P : pn_T) (k s i : Nat) : Int := if k = 2 then pst P (pn_bi s (pB P) i) * ((if pbe P s i = 0 then 0 else (pls P s (pn_bi s (pB P) i) : Int)) * pbel P s) else pst P (pn_bi s (pB P) i) * ((pbe P s i).natAbs : Int)
theorem tm_le {P : pn_T} (wf : pwf P) {k s i : Nat} (hn : pn_nb s (pB P) = pR P) (hi : i < pR P) : 0 ≤ pn_tm P k s i ∧ pn_tm P k s i ≤ 72 * 955514880 := by
  obtain ⟨b, h1, -, -, h4⟩ := bi_ex (show i < pn_nb s (pB P) by omega)
  unfold pn_tm
  have hs := pst_le wf h1
  have hbe := pbe_le wf hn i
  have hbl := pbel_le wf hn
  have hbl0 : 0 ≤ pbel P s := Int.natCast_nonneg _
  have hls := ls_le wf s b (Nat.le_refl _)
  rw [h4]
  by_cases e : k = 2
  · rw [if_pos e]
    have h2 : (0 : Int) ≤ (if pbe P s i = 0 then 0 else (pls P s b : Int)) ∧ (if pbe P s i = 0 then 0 else (pls P s b : Int)) ≤ 200 := by
      by_cases q : pbe P s i = 0
      · rw [if_pos q]; omega
      · rw [if_neg q]; unfold pls; omega
    have h3 := mul_le h2.1 h2.2 hbl0 hbl
    exact mul_le hs.1 hs.2 h3.1 (by omega)
  · rw [if_neg e]
    exact mul_le hs.1 hs.2 (Int.natCast_nonneg _) (by omega)
theorem tm_0 {P : pn_T} {k s : Nat} (hn : pn_nb s (pB P) = pR P) (hk : k ≠ 2) : dt_sm (pn_tm P k s) (pR P) = pc0 P s := by
  have h := sm_place s (fun b i => pst P b * ((pbe P s i).natAbs : Int)) (pB P)
  rw [hn] at h
  have e1 : dt_sm (pn_tm P k s) (pR P) = dt_sm (fun i => pst P (pn_bi s (pB P) i) * ((pbe P s i).natAbs : Int)) (pR P) := dt_sm_congr (fun i _ => by unfold pn_tm; rw [if_neg hk])
  rw [e1, h]
  unfold pc0
  refine dt_sm_congr (fun b _ => ?_)
  unfold ppu
  cases s.testBit b
  · show (0 : Int) = pst P b * ((0 : Int).natAbs : Int)
    rw [show ((0 : Int).natAbs : Int) = 0 from rfl, Int.mul_zero]
  · rfl
theorem tm_2 {P : pn_T} {s : Nat} (hn : pn_nb s (pB P) = pR P) : dt_sm (pn_tm P 2 s) (pR P) = pc2 P s := by
  have h := sm_place s (fun b i => pst P b * ((if pbe P s i = 0 then 0 else (pls P s b : Int)) * pbel P s)) (pB P)
  rw [hn] at h
  have e1 : dt_sm (pn_tm P 2 s) (pR P) = dt_sm (fun i => pst P (pn_bi s (pB P) i) * ((if pbe P s i = 0 then 0 else (pls P s (pn_bi s (pB P) i) : Int)) * pbel P s)) (pR P) := dt_sm_congr (fun i _ => by unfold pn_tm; rw [if_pos rfl])
  rw [e1, h]
  unfold pc2
  rw [Int.mul_comm, ← dt_sm_mul]
  refine dt_sm_congr (fun b _ => ?_)
  by_cases q : ppu P s b = 0
  · rw [if_pos q, Int.mul_zero]
    cases e : s.testBit b
    · rfl
    · unfold ppu at q
      rw [e] at q
      have q : pbe P s (pn_nb s b) = 0 := q
      rw [if_pos rfl, if_pos q, Int.zero_mul, Int.mul_zero]
  · have e := ppu_bit q
    rw [if_neg q, if_pos e]
    unfold ppu at q
    rw [e] at q
    have q : ¬ pbe P s (pn_nb s b) = 0 := q
    rw [if_neg q]
    grind
/-- a pair of places that cross -/
def pn_x (P : pn_T) (s i j : Nat) : Prop := pbe P s i ≠ 0 ∧ pbe P s j ≠ 0 ∧ pcr P (pn_bi s (pB P) i) (pn_bi s (pB P) j) = true
theorem px1_pl {P : pn_T} {s : Nat} : px1 P s ↔ ∃ i j, j < i ∧ i < pn_nb s (pB P) ∧ pn_x P s i j := by
  constructor
  · intro ⟨b, a, h1, h2, h3, h4, h5⟩
    have tb := ppu_bit h3
    have ta := ppu_bit h4
    refine ⟨pn_nb s b, pn_nb s a, nb_lt ta h1, nb_lt tb h2, ?_, ?_, ?_⟩
    · have := ppu_bi (P := P) (nb_lt tb h2)
      rw [bi_of tb h2] at this
      rw [← this]
      exact h3
    · have := ppu_bi (P := P) (nb_lt ta (show a < pB P by omega))
      rw [bi_of ta (by omega)] at this
      rw [← this]
      exact h4
    · rw [bi_of tb h2, bi_of ta (by omega)]
      exact h5
  · intro ⟨i, j, h1, h2, h3, h4, h5⟩
    obtain ⟨b, b1, b2, b3, b4⟩ := bi_ex h2
    obtain ⟨a, a1, a2, a3, a4⟩ := bi_ex (show j < pn_nb s (pB P) by omega)
    refine ⟨b, a, ?_, b1, ?_, ?_, ?_⟩
    · rcases Nat.lt_trichotomy a b with z | z | z
      · exact z
      · rw [z] at a3; omega
      · have := nb_lt b2 z; omega
    · rw [← b4, ppu_bi h2]; exact h3
    · rw [← a4, ppu_bi (by omega)]; exact h4
    · rw [b4, a4] at h5; exact h5
theorem px2_pl {P : pn_T} {s : Nat} : px2 P s ↔ ∃ i, i < pn_nb s (pB P) ∧ pbe P s i ≠ 0 ∧ pls P s (pn_bi s (pB P) i) = 0 := by
  constructor
  · intro ⟨b, h1, h2, h3⟩
    have tb := ppu_bit h2
    refine ⟨pn_nb s b, nb_lt tb h1, ?_, ?_⟩
    · have := ppu_bi (P := P) (nb_lt tb h1)
      rw [bi_of tb h1] at this
      rw [← this]
      exact h2
    · rw [bi_of tb h1]; exact h3
  · intro ⟨i, h1, h2, h3⟩
    obtain ⟨b, b1, b2, b3, b4⟩ := bi_ex h1
    exact ⟨b, b1, by rw [← b4, ppu_bi h1]; exact h2, by rw [← b4]; exact h3⟩
theorem nu_k {k m : Nat} (hk : k < 100) (hm : m < 100) : nI k = nI m ↔ k = m := nI_eq (by omega) (by omega)
theorem sp_inner {P : pn_T} {κ : mk_T} {τ : lf_St} (wf : pwf P) (hR : mR P κ τ) {s k i : Nat} (hk4 : k < 4) (hn : pn_nb s (pB P) = pR P) (hC : mC P s τ) (hi : i < pR P) {x2 : Int64} {K : Int32 → Int64 → Int32 → lf_St → Prop} {Post : Int64 → lf_St → Prop} (hK : (k = 1 → ∀ j, j < i → ¬ pn_x P s i j) → K (nI k) x2 (nI (i + 1)) τ) (hX : k = 1 → (∃ j, j < i ∧ pn_x P s i j) → Post (-1) τ) : ∃ fu, L_X6_costOf_86 K Post fu (nI k) x2 (nI i) 0 τ := by
  have h6 := pR_6 wf
  have hB := wf.2.1
  have z := pk_loop (fun fu j (_ : Unit) => L_X6_costOf_86 K Post fu (nI k) x2 (nI i) (nI j) τ) (fun j _ => k = 1 → ∀ j', j' < j → ¬ pn_x P s i j') i 0 () (by omega) (fun _ j' h => absurd h (Nat.not_lt_zero j')) ?_ ?_
  · rw [nI_0] at z
    exact z
  · intro n _ hq
    show L_X6_costOf_86 K Post (n + 1) _ _ _ _ _
    unfold L_X6_costOf_86
    refine ⟨fun _ v e => ?_, fun h => absurd (nI_le (Nat.le_refl _) (by omega)) h⟩
    rw [e, nI_1]
    exact hK hq
  · intro n j _ hj hq ih
    show L_X6_costOf_86 K Post (n + 1) _ _ _ _ _
    unfold L_X6_costOf_86
    obtain ⟨a, a1, -, -, a4⟩ := bi_ex (show i < pn_nb s (pB P) by omega)
    obtain ⟨b, b1, -, -, b4⟩ := bi_ex (show j < pn_nb s (pB P) by omega)
    rw [show (1 : Int32) = nI 1 from rfl, nu_k (k := k) (m := 1) (by omega) (by omega), nu_cl (n := i) (by omega), nu_cl (n := j) (by omega), mC_zero hC hi, mC_zero hC (show j < pR P by omega), hC.2.2 i hi, hC.2.2 j (by omega)]
    have vi : vp_in (nI i) 6 := vp_in_nI (by omega) (by omega)
    have vj : vp_in (nI j) 6 := vp_in_nI (by omega) (by omega)
    have go : ¬ pn_x P s i j → ∀ v, v = nI j + nI 1 → L_X6_costOf_86 K Post n (nI k) x2 (nI i) v τ := by
      intro hnx v e
      rw [e, nI_add]
      refine ih () (fun hk1 j' hj' => ?_)
      by_cases q : j' = j
      · rw [q]; exact hnx
      · exact hq hk1 j' (by omega)
    refine ⟨fun h => absurd h (nI_ge hj (by omega)), fun _ => ⟨fun hne v e => ?_, fun hk1 => ⟨vi, fun hz => go (fun q => q.1 hz), fun hnz => ⟨vj, fun hz => go (fun q => q.2.1 hz), fun hnz2 => ⟨vi, vj, ?_⟩⟩⟩⟩⟩
    · rw [e, nI_add]
      exact hK (fun q => absurd q hne)
    · rw [a4, b4]
      refine sp_crossed wf hR.1.1 a1 b1 ?_
      cases hc : pcr P a b
      · exact ⟨fun _ => go (fun q => by have := q.2.2; rw [a4, b4, hc] at this; cases this), fun q => absurd rfl q⟩
      · exact ⟨fun q => absurd q (by decide), fun _ => hX hk1 ⟨j, hj, hnz, hnz2, by rw [a4, b4]; exact hc⟩⟩
theorem sp_costOf {P : pn_T} {κ : mk_T} {τ : lf_St} (wf : pwf P) (hR : mR P κ τ) {s k : Nat} (hk4 : k < 4) (hn : pn_nb s (pB P) = pR P) (hC : mC P s τ) {Post : Int64 → lf_St → Prop} (hP : ∀ v, pcv P k s v → Post v τ) : wp_X6_costOf (nI k) τ Post := by
  have h6 := pR_6 wf
  have hB := wf.2.1
  have hbl := pbel_le wf hn
  have hbl0 : 0 ≤ pbel P s := Int.natCast_nonneg _
  have m1 : ((-1 : Int64)).toInt = -1 := by decide
  unfold wp_X6_costOf
  have z := pk_loop (fun fu i (x : Int64) => L_X6_costOf_5 Post fu (nI k) x (nI i) τ) (fun i x => x.toInt = dt_sm (pn_tm P k s) i ∧ (k = 1 → ∀ i1 i2, i2 < i1 → i1 < i → ¬ pn_x P s i1 i2) ∧ (k = 2 → ∀ i1, i1 < i → pbe P s i1 ≠ 0 → pls P s (pn_bi s (pB P) i1) ≠ 0)) (pR P) 0 0 (by omega) ⟨rfl, fun _ _ _ _ h => absurd h (Nat.not_lt_zero _), fun _ _ h => absurd h (Nat.not_lt_zero _)⟩ ?_ ?_
  · rw [nI_0] at z
    exact z
  · intro n x ⟨q1, q2, q3⟩
    show L_X6_costOf_5 Post (n + 1) _ _ _ _
    unfold L_X6_costOf_5
    rw [hR.2.1, show (3 : Int32) = nI 3 from rfl, nu_k (k := k) (m := 3) (by omega) (by omega)]
    refine ⟨fun _ => ⟨fun hk3 => hP _ (Or.inl ?_), fun hk3 => ?_⟩, fun h => absurd (nI_le (Nat.le_refl _) (by omega)) h⟩
    · rw [Int64.add_zero, q1]
      by_cases e2 : k = 2
      · subst e2
        rw [tm_2 hn]
        refine ⟨_, Or.inr (Or.inr (Or.inl ⟨rfl, fun hx => ?_, rfl⟩)), rfl⟩
        obtain ⟨i, i1, i2, i3⟩ := px2_pl.mp hx
        exact q3 rfl i (by omega) i2 i3
      · rw [tm_0 hn e2]
        by_cases e1 : k = 1
        · refine ⟨_, Or.inr (Or.inl ⟨e1, fun hx => ?_, rfl⟩), rfl⟩
          obtain ⟨i, j, i1, i2, i3⟩ := px1_pl.mp hx
          exact q2 e1 i j i1 (by omega) i3
        · exact ⟨_, Or.inl ⟨by omega, rfl⟩, rfl⟩
    · subst hk3
      refine sp_usedJoints wf hR hn hC ?_
      have hl := puj_lt wf s (Nat.le_refl _)
      refine sp_bits (Nat.lt_of_lt_of_le hl (by decide)) (hP _ (Or.inl ?_))
      rw [show (10 : Nat) = 6 + 4 from rfl, nb_up hl 4, hR.1.1.2.2.2.1]
      have hnb := nb6_le (puj P s (pB P))
      have hCc := wf.2.2.2.1
      have e1 := nu_mul64 (x := (nI (pC P)).toInt64) (y := (nI (pn_nb (puj P s (pB P)) 6)).toInt64) (S := 1000) (T := 6) (nu_n64 (nu_nI (n := pC P) (by omega))) (nu_n64 (nu_nI (n := pn_nb (puj P s (pB P)) 6) (by omega))) (by omega) (by omega) (by decide)
      have e2 := nu_mul64 (y := lf_gl τ 20) (S := 6000) (T := 2985984) e1 hC.1 (nu_natAbs_mul (S := 1000) (T := 6) (by omega) (by omega)) (by omega) (by decide)
      have hpc := pc0_le wf hn
      rw [tm_0 hn (by decide)] at q1
      have e3 := nu_add64 (S := 687970713600) (T := 6000 * 2985984) q1 e2 (by omega) (nu_natAbs_mul (S := 6000) (T := 2985984) (nu_natAbs_mul (S := 1000) (T := 6) (by omega) (by omega)) (by omega)) (by decide)
      exact ⟨_, Or.inr (Or.inr (Or.inr ⟨rfl, rfl⟩)), e3⟩
  · intro n i x hi ⟨q1, q2, q3⟩ ih
    show L_X6_costOf_5 Post (n + 1) _ _ _ _
    unfold L_X6_costOf_5 J_X6_costOf_41 J_X6_costOf_80
    have vi : vp_in (nI i) 6 := vp_in_nI (by omega) (by omega)
    obtain ⟨b, b1, b2, b3, b4⟩ := bi_ex (show i < pn_nb s (pB P) by omega)
    have hpi : ppu P s b = pbe P s i := by rw [← b4]; exact ppu_bi (by omega)
    have hbe := pbe_le wf hn i
    have hst := pst_le wf b1
    have hls := ls_le wf s b (Nat.le_refl _)
    have hsum := sm_le (f := pn_tm P k s) (v := 72 * 955514880) (by decide) (n := i) (fun j hj => tm_le wf hn (by omega))
    have htm := tm_le wf (k := k) hn hi
    have h3 : (i : Int) * (72 * 955514880) ≤ 6 * (72 * 955514880) := Int.mul_le_mul_of_nonneg_right (by omega) (by decide)
    rw [hR.2.1, nu_cl (by omega), show (2 : Int32) = nI 2 from rfl, nu_k (k := k) (m := 2) (by omega) (by omega)]
    refine ⟨fun h => absurd h (nI_ge hi (by omega)), fun _ => ⟨vi, ?_⟩⟩
    refine sp_sizeFor wf hR.1.1 (b := b) hn hC.1 (by rw [hpi]; exact hC.2.1 i hi) ?_
    -- on with the sum
    have go : ∀ y : Int64, y.toInt = dt_sm (pn_tm P k s) (i + 1) → (k = 2 → pbe P s i ≠ 0 → pls P s b ≠ 0) → ∃ fu, L_X6_costOf_86 (L_X6_costOf_5 Post n) Post fu (nI k) y (nI i) 0 τ := by
      intro y ey hz
      refine sp_inner wf hR hk4 hn hC hi (fun hnx => ih y ⟨ey, fun e1 i1 i2 h21 h1 => ?_, fun e2 i1 h1 hne => ?_⟩) (fun e1 ⟨j, hj, hx⟩ => hP _ (Or.inr ⟨fun c hc => ?_, m1⟩))
      · by_cases q : i1 = i
        · subst q; exact hnx e1 i2 h21
        · exact q2 e1 i1 i2 h21 (by omega)
      · by_cases q : i1 = i
        · subst q; rw [b4]; exact hz e2 hne
        · exact q3 e2 i1 (by omega) hne
      · have : px1 P s := px1_pl.mpr ⟨i, j, hj, by omega, hx⟩
        rcases hc with ⟨e, _⟩ | ⟨_, hc, _⟩ | ⟨e, _⟩ | ⟨e, _⟩
        · omega
        · exact hc this
        · omega
        · omega
    have esum : dt_sm (pn_tm P k s) (i + 1) = dt_sm (pn_tm P k s) i + pn_tm P k s i := rfl
    have not2 : ∀ r : Int32, k ≠ 2 → vp_in (nI i) 6 ∧ (wp_X6_stuff (lf_ai τ 19 i) τ (fun r2 σ2 => ((¬ k = 2) → (vp_in (nI i) 6 ∧ (wp_X6_abs (lf_al σ2 21 i) σ2 (fun r5 σ5 => ∀ v1 : Int64, v1 = (x + ((r2.toInt64) * r5)) → (∃ fu : Nat, L_X6_costOf_86 (L_X6_costOf_5 Post n) Post fu (nI k) v1 (nI i) 0 σ5))))) ∧ ((k = 2) → (∀ v1 : Int64, v1 = (x + ((r2.toInt64) * ((r.toInt64) * (lf_gl σ2 20)))) → (∃ fu : Nat, L_X6_costOf_86 (L_X6_costOf_5 Post n) Post fu (nI k) v1 (nI i) 0 σ2))))) := by
      intro r hk2
      refine ⟨vi, ?_⟩
      rw [hC.2.2 i hi, b4]
      refine sp_stuff wf hR.1.1 b1 (fun r2 e2 => ⟨fun _ => ⟨vi, sp_abs (hC.2.1 i hi) (by omega) (fun r5 e5 v1 ev => go v1 ?_ (fun q => absurd q hk2))⟩, fun q => absurd q hk2⟩)
      have e6 := nu_mul64 (S := 72) (T := 955514880) (nu_n64 e2) e5 (by omega) (by omega) (by decide)
      have et : pst P b * ((pbe P s i).natAbs : Int) = pn_tm P k s i := by unfold pn_tm; rw [if_neg hk2, b4]
      rw [et] at e6
      rw [ev, esum]
      exact nu_add64 (S := 6 * (72 * 955514880)) (T := 72 * 955514880) q1 e6 (by omega) (by omega) (by decide)
    refine ⟨fun hk2 => not2 _ hk2, fun hk2 => ?_⟩
    have e6 : (if ppu P s b = 0 then (0 : Int32) else pn_lv (pls P s b)) = if pbe P s i ≠ 0 ∧ pls P s b = 0 then -6 else nI (if pbe P s i = 0 then 0 else pls P s b) := by
      rw [hpi]
      unfold pn_lv
      by_cases a : pbe P s i = 0
      · rw [if_pos a, if_neg (fun q => q.1 a), if_pos a]; rfl
      · rw [if_neg a, if_neg a]
        by_cases c : pls P s b = 0
        · rw [if_pos c, if_pos ⟨a, c⟩]
        · rw [if_neg c, if_neg (fun q => c q.2)]
    rw [e6]
    by_cases bad : pbe P s i ≠ 0 ∧ pls P s b = 0
    · rw [if_pos bad]
      refine ⟨fun q => absurd q (by decide), fun _ => hP _ (Or.inr ⟨fun c hc => ?_, m1⟩)⟩
      have : px2 P s := px2_pl.mpr ⟨i, by omega, bad.1, by rw [b4]; exact bad.2⟩
      rcases hc with ⟨e, _⟩ | ⟨e, _⟩ | ⟨_, hc, _⟩ | ⟨e, _⟩
      · omega
      · omega
      · exact hc this
      · omega
    · rw [if_neg bad]
      have hlz : (if pbe P s i = 0 then 0 else pls P s b) ≤ 200 := by
        by_cases a : pbe P s i = 0
        · rw [if_pos a]; omega
        · rw [if_neg a]; exact hls
      refine ⟨fun _ => ⟨vi, ?_⟩, fun q => absurd (nI_pos' (by omega)) q⟩
      rw [hC.2.2 i hi, b4]
      refine sp_stuff wf hR.1.1 b1 (fun r2 e2 => ⟨fun q => absurd hk2 q, fun _ v1 ev => go v1 ?_ (fun _ a c => bad ⟨a, c⟩)⟩)
      have f1 := nu_mul64 (x := (nI (if pbe P s i = 0 then 0 else pls P s b)).toInt64) (y := lf_gl τ 20) (S := 200) (T := 2985984) (nu_n64 (nu_nI (n := if pbe P s i = 0 then 0 else pls P s b) (by omega))) hC.1 (by omega) (by omega) (by decide)
      have f2 := nu_mul64 (S := 72) (T := 200 * 2985984) (nu_n64 e2) f1 (by omega) (nu_natAbs_mul (by omega) (by omega)) (by decide)
      have et : pst P b * (((if pbe P s i = 0 then 0 else pls P s b : Nat) : Int) * pbel P s) = pn_tm P k s i := by
        unfold pn_tm
        rw [if_pos hk2, b4]
        by_cases a : pbe P s i = 0
        · rw [if_pos a, if_pos a]; rfl
        · rw [if_neg a, if_neg a]
      rw [et] at f2
      rw [ev, esum]
      exact nu_add64 (S := 6 * (72 * 955514880)) (T := 72 * 955514880) q1 f2 (by omega) (by omega) (by decide)
