/-! BITS -/
theorem st_sa_sa (σ : lf_St) (k j : Nat) (v w : Int32) : lf_sa (lf_sa σ k j v) k j w = lf_sa σ k j w := by
  show (σ.1, σ.2.1, va_up (va_up σ.2.2.1 k (upd (σ.2.2.1 k) j v)) k (upd (va_up σ.2.2.1 k (upd (σ.2.2.1 k) j v) k) j w), σ.2.2.2) = (σ.1, σ.2.1, va_up σ.2.2.1 k (upd (σ.2.2.1 k) j w), σ.2.2.2)
  rw [bx_uu, va_up_self]
  have : upd (upd (σ.2.2.1 k) j v) j w = upd (σ.2.2.1 k) j w := by
    funext i
    unfold upd
    by_cases e : i = j
    · rw [if_pos e, if_pos e]
    · rw [if_neg e, if_neg e, if_neg e]
  rw [this]
theorem st_ai_sa (σ : lf_St) (k j : Nat) (v : Int32) : lf_ai (lf_sa σ k j v) k = upd (lf_ai σ k) j v := by
  show va_up σ.2.2.1 k _ k = _
  exact va_up_self _ _ _
theorem st_ai_sa_ne {σ : lf_St} {k i j : Nat} {v : Int32} (h : i ≠ k) : lf_ai (lf_sa σ k j v) i = lf_ai σ i := by
  show va_up σ.2.2.1 k _ i = _
  exact va_up_ne _ _ h
theorem bt_or (a b : Nat) : nI a ||| nI b = nI (a ||| b) := by
  apply Int32.toBitVec_inj.mp
  rw [Int32.toBitVec_or]
  show BitVec.ofNat 32 a ||| BitVec.ofNat 32 b = BitVec.ofNat 32 (a ||| b)
  exact BitVec.ofNat_or.symm
theorem bt_and (a b : Nat) : nI a &&& nI b = nI (a &&& b) := by
  apply Int32.toBitVec_inj.mp
  rw [Int32.toBitVec_and]
  show BitVec.ofNat 32 a &&& BitVec.ofNat 32 b = BitVec.ofNat 32 (a &&& b)
  exact BitVec.ofNat_and.symm
theorem bt_xor (a b : Nat) : nI a ^^^ nI b = nI (a ^^^ b) := by
  apply Int32.toBitVec_inj.mp
  rw [Int32.toBitVec_xor]
  show BitVec.ofNat 32 a ^^^ BitVec.ofNat 32 b = BitVec.ofNat 32 (a ^^^ b)
  exact BitVec.ofNat_xor.symm
theorem bt_s31 : ∀ i, i < 16 → ((nI i &&& 31).toBitVec.smod 32).toNat = i := by decide
theorem bt_shl {i : Nat} (h : i < 16) : (1 : Int32) <<< (nI i &&& 31) = nI (2 ^ i) := by
  have := pk_shlN (n := 1) (nI i &&& 31) i (bt_s31 i h) (by have := Nat.pow_lt_pow_right (a := 2) (by decide) h; omega)
  rw [Nat.one_mul] at this
  exact this
theorem bt_shr {m i : Nat} (hm : m < 2 ^ 31) (h : i < 16) : nI m >>> (nI i &&& 31) = nI (m / 2 ^ i) := pk_shrN hm _ i (bt_s31 i h)
theorem bt_and1 (m : Nat) (hm : m < 2 ^ 31) : nI m &&& 1 = nI (m % 2) := pk_andN (by omega) 1 (by decide)
theorem bt_test {m i : Nat} (hm : m < 2 ^ 31) (h : i < 16) : (nI m >>> (nI i &&& 31)) &&& 1 = nI (if m.testBit i then 1 else 0) := by
  rw [bt_shr hm h, bt_and1 _ (Nat.lt_of_le_of_lt (Nat.div_le_self _ _) hm), Nat.testBit_eq_decide_div_mod_eq]
  by_cases q : m / 2 ^ i % 2 = 1
  · rw [q]; rfl
  · rw [show m / 2 ^ i % 2 = 0 by omega]; rfl
theorem bt_test1 {m i : Nat} (hm : m < 2 ^ 31) (h : i < 16) : ((nI m >>> (nI i &&& 31)) &&& 1) = 1 ↔ m.testBit i = true := by
  rw [bt_test hm h]
  cases m.testBit i
  · exact ⟨fun q => absurd q (by decide), fun q => by cases q⟩
  · exact ⟨fun _ => rfl, fun _ => rfl⟩
/-- a set by its bits -/
def pn_bs (f : Nat → Bool) : Nat → Nat
  | 0 => 0
  | i + 1 => pn_bs f i + (if f i then 2 ^ i else 0)
theorem bs_lt (f : Nat → Bool) : ∀ k, pn_bs f k < 2 ^ k
  | 0 => Nat.one_pos
  | k + 1 => by
    have := bs_lt f k
    show pn_bs f k + (if f k then 2 ^ k else 0) < 2 ^ (k + 1)
    rw [Nat.pow_succ]
    cases f k
    · show pn_bs f k + 0 < _; omega
    · show pn_bs f k + 2 ^ k < _; omega
theorem bs_bit (f : Nat → Bool) : ∀ k i, (pn_bs f k).testBit i = (decide (i < k) && f i)
  | 0, i => by
    show (0 : Nat).testBit i = _
    rw [Nat.zero_testBit, decide_eq_false (Nat.not_lt_zero i)]
    rfl
  | k + 1, i => by
    have ih := bs_bit f k i
    have hl := bs_lt f k
    show (pn_bs f k + (if f k then 2 ^ k else 0)).testBit i = _
    by_cases e : i = k
    · subst e
      rw [decide_eq_true (Nat.lt_succ_self i), Bool.true_and]
      cases h : f i
      · show (pn_bs f i + 0).testBit i = false
        rw [Nat.add_zero]
        exact Nat.testBit_lt_two_pow hl
      · show (pn_bs f i + 2 ^ i).testBit i = true
        rw [Nat.add_comm, Nat.testBit_two_pow_add_eq, Nat.testBit_lt_two_pow hl]
        rfl
    · have e2 : decide (i < k + 1) = decide (i < k) := decide_eq_decide.mpr ⟨fun _ => by omega, fun _ => by omega⟩
      rw [e2, ← ih]
      cases h : f k
      · rfl
      · show (pn_bs f k + 2 ^ k).testBit i = _
        by_cases q : i < k
        · rw [Nat.add_comm, Nat.testBit_two_pow_add_gt q]
        · rw [Nat.testBit_lt_two_pow (x := pn_bs f k) (Nat.lt_of_lt_of_le hl (Nat.pow_le_pow_right (by decide) (by omega)))]
          exact Nat.testBit_lt_two_pow (Nat.lt_of_lt_of_le (show pn_bs f k + 2 ^ k < 2 ^ (k + 1) by rw [Nat.pow_succ]; omega) (Nat.pow_le_pow_right (by decide) (by omega)))
theorem bs_or (f : Nat → Bool) (k : Nat) : pn_bs f k ||| 2 ^ k = pn_bs f k + 2 ^ k := by
  have := Nat.two_pow_add_eq_or_of_lt (bs_lt f k) 1
  rw [Nat.mul_one] at this
  rw [Nat.or_comm, ← this, Nat.add_comm]
theorem bs_congr {f g : Nat → Bool} : ∀ {k : Nat}, (∀ i, i < k → f i = g i) → pn_bs f k = pn_bs g k
  | 0, _ => rfl
  | k + 1, h => by
    show pn_bs f k + (if f k then 2 ^ k else 0) = pn_bs g k + (if g k then 2 ^ k else 0)
    rw [bs_congr (fun i hi => h i (by omega)), h k (by omega)]
theorem pcm_bs (P : pn_T) (b : Nat) : ∀ k, pcm P b k = pn_bs (pcr P b) k
  | 0 => rfl
  | k + 1 => by
    show pcm P b k + _ = pn_bs (pcr P b) k + _
    rw [pcm_bs P b k]
/-! BAR -/
def pn_br (P : pn_T) (a b : Nat) : pn_T := ((pJ P, pB P + 1, pS P, pC P), pX P, pY P, pE P, pU P, pV P, (fun k => if k = pB P then a else pF P k), (fun k => if k = pB P then b else pT P k), pZ P)
theorem br_F {P : pn_T} {a b k : Nat} : pF (pn_br P a b) k = if k = pB P then a else pF P k := rfl
theorem br_T {P : pn_T} {a b k : Nat} : pT (pn_br P a b) k = if k = pB P then b else pT P k := rfl
theorem br_old {P : pn_T} {a b k : Nat} (h : k < pB P) : pF (pn_br P a b) k = pF P k ∧ pT (pn_br P a b) k = pT P k := by
  rw [br_F, br_T, if_neg (by omega), if_neg (by omega)]
  exact ⟨rfl, rfl⟩
theorem br_new {P : pn_T} {a b : Nat} : pF (pn_br P a b) (pB P) = a ∧ pT (pn_br P a b) (pB P) = b := by
  rw [br_F, br_T, if_pos rfl, if_pos rfl]
  exact ⟨rfl, rfl⟩
theorem br_bar {P : pn_T} {a b k : Nat} (h : k < pB P) : pdx (pn_br P a b) k = pdx P k ∧ pdy (pn_br P a b) k = pdy P k ∧ pcm (pn_br P a b) k k = pcm P k k := by
  obtain ⟨h1, h2⟩ := br_old (a := a) (b := b) h
  refine ⟨?_, ?_, pcm_congr (fun i hi => ?_)⟩
  · unfold pdx
    rw [h1, h2]
    rfl
  · unfold pdy
    rw [h1, h2]
    rfl
  · obtain ⟨h3, h4⟩ := br_old (P := P) (a := a) (b := b) (k := i) (by omega)
    unfold pcr
    rw [h1, h2, h3, h4]
    rfl
def pn_dp (P : pn_T) (a b k : Nat) : Prop := (pF P k = a ∧ pT P k = b) ∨ (pF P k = b ∧ pT P k = a)
theorem br_wf {P : pn_T} (wf : pwf P) {a b : Nat} (ha : a < pJ P) (hb : b < pJ P) (hab : a ≠ b) (hB : pB P < 10) (hne : ∀ k, k < pB P → ¬ pn_dp P a b k) : pwf (pn_br P a b) := by
  obtain ⟨w1, w2, w3, w4, w5, w6, w7, w8, w9, w10⟩ := wf
  refine ⟨w1, hB, w3, w4, w5, w6, w7, fun k hk => ?_, fun i k hik hk => ?_, w10⟩
  · have hk : k < pB P + 1 := hk
    by_cases e : k = pB P
    · subst e
      rw [br_new.1, br_new.2]
      exact ⟨ha, hb, hab⟩
    · rw [(br_old (by omega)).1, (br_old (by omega)).2]
      exact w8 k (by omega)
  · have hk : k < pB P + 1 := hk
    rw [(br_old (P := P) (a := a) (b := b) (k := i) (by omega)).1, (br_old (P := P) (a := a) (b := b) (k := i) (by omega)).2]
    by_cases e : k = pB P
    · subst e
      rw [br_new.1, br_new.2]
      exact ⟨fun q => hne i hik (Or.inl q), fun q => hne i hik (Or.inr ⟨q.1, q.2⟩)⟩
    · rw [(br_old (by omega)).1, (br_old (by omega)).2]
      exact w9 i k hik (by omega)
theorem sc_between {P : pn_T} {σ : lf_St} (wf : pwf P) (hK : pK P σ) {a b : Nat} (ha : a < pJ P) (hb : b < pJ P) {Post : Int32 → lf_St → Prop} (h1 : ∀ k, k < pB P → pn_dp P a b k → Post 1 σ) (h0 : (∀ k, k < pB P → ¬ pn_dp P a b k) → Post 0 σ) : wp_X2_hasBarBetween (nI a) (nI b) σ Post := by
  have hJ := wf.1
  have hB := wf.2.1
  unfold wp_X2_hasBarBetween
  have z := pk_loop (fun fu k (_ : Unit) => L_X2_hasBarBetween_2 Post fu (nI a) (nI b) (nI k) σ) (fun k _ => ∀ i, i < k → ¬ pn_dp P a b i) (pB P) 0 () (by omega) (fun i h => absurd h (Nat.not_lt_zero i)) ?_ ?_
  · rw [nI_0] at z
    exact z
  · intro m _ hq
    show L_X2_hasBarBetween_2 _ (m + 1) _ _ _ _
    unfold L_X2_hasBarBetween_2
    rw [hK.2.2.1]
    exact ⟨fun _ => h0 hq, fun h => absurd (nI_le (Nat.le_refl _) (by omega)) h⟩
  · intro m k _ hk hq ih
    show L_X2_hasBarBetween_2 _ (m + 1) _ _ _ _
    unfold L_X2_hasBarBetween_2 J_X2_hasBarBetween_30
    obtain ⟨q1, q2, -⟩ := hK.2.2.2.2.2.2.1 k hk
    obtain ⟨f1, f2, -⟩ := wf.2.2.2.2.2.2.2.1 k hk
    rw [hK.2.2.1, nu_cl (by omega), q1, q2, nI_eq (a := pF P k) (b := a) (by omega) (by omega), nI_eq (a := pF P k) (b := b) (by omega) (by omega), nI_eq (a := pT P k) (b := a) (by omega) (by omega), nI_eq (a := pT P k) (b := b) (by omega) (by omega)]
    have vk : vp_in (nI k) 10 := vp_in_nI (by omega) (by omega)
    have go : ¬ pn_dp P a b k → ∀ v, v = nI k + 1 → L_X2_hasBarBetween_2 Post m (nI a) (nI b) v σ := by
      intro hn v e
      rw [e, nI_1]
      refine ih () (fun i hi => ?_)
      by_cases q : i = k
      · rw [q]; exact hn
      · exact hq i (by omega)
    unfold pn_dp at go
    refine ⟨fun h => absurd h (nI_ge hk (by omega)), fun _ => ⟨vk, fun n1 => ⟨vk, fun n2 => go (by omega), fun n2 => ⟨vk, fun n3 => go (by omega), fun n3 => h1 k hk (Or.inr ⟨n2, n3⟩)⟩⟩, fun n1 => ⟨vk, fun n2 => h1 k hk (Or.inl ⟨n1, n2⟩), fun n2 => ⟨vk, fun n3 => go (by omega), fun n3 => ⟨vk, fun n4 => go (by omega), fun n4 => h1 k hk (Or.inr ⟨n3, n4⟩)⟩⟩⟩⟩⟩
theorem sp_barLoop {P : pn_T} {τ : lf_St} (wf : pwf P) (hM : pM P τ) {a b : Nat} (ha : a < pJ P) (hb : b < pJ P) (hB10 : pB P < 10) {Post : Int32 → lf_St → Prop} (h1 : ∀ k, k < pB P → pn_dp P a b k → Post (-5) τ) (h0 : (∀ k, k < pB P → ¬ pn_dp P a b k) → Post (nI (pB P)) (lf_si (lf_si (lf_sa (lf_sa τ 7 (pB P) (nI a)) 8 (pB P) (nI b)) 6 (nI (pB P + 1))) 12 0)) : ∃ fu, L_X6_bar_37 Post fu (nI a) (nI b) 0 τ := by
  have hJ := wf.1
  have hB := wf.2.1
  have z := pk_loop (fun fu k (_ : Unit) => L_X6_bar_37 Post fu (nI a) (nI b) (nI k) τ) (fun k _ => ∀ i, i < k → ¬ pn_dp P a b i) (pB P) 0 () (by omega) (fun i h => absurd h (Nat.not_lt_zero i)) ?_ ?_
  · rw [nI_0] at z
    exact z
  · intro m _ hq
    show L_X6_bar_37 _ (m + 1) _ _ _ _
    unfold L_X6_bar_37
    rw [hM.2.1, nu_cl (by omega)]
    refine ⟨fun _ => ?_, fun h => absurd (nI_le (Nat.le_refl _) (by omega)) h⟩
    have vB : vp_in (nI (pB P)) 10 := vp_in_nI (by omega) (by omega)
    refine ⟨vB, fun t3 e3 => ?_⟩
    have g3 : lf_gi t3 6 = nI (pB P) := by rw [e3]; exact hM.2.1
    rw [g3, nu_cl (by omega)]
    refine ⟨vB, fun t5 e5 t6 e6 => ?_⟩
    have g5 : lf_gi t5 6 = nI (pB P) := by rw [e5]; exact g3
    rw [g5, nI_1] at e6
    have g6 : lf_gi t6 6 = nI (pB P + 1) := by rw [e6]; rfl
    rw [g6, nI_pred, e6, e5, e3]
    exact h0 hq
  · intro m k _ hk hq ih
    show L_X6_bar_37 _ (m + 1) _ _ _ _
    unfold L_X6_bar_37 J_X6_bar_65
    obtain ⟨q1, q2⟩ := hM.2.2.2.2.2.1 k hk
    obtain ⟨f1, f2, -⟩ := wf.2.2.2.2.2.2.2.1 k hk
    rw [hM.2.1, nu_cl (n := k) (by omega), q1, q2, nI_eq (a := pF P k) (b := a) (by omega) (by omega), nI_eq (a := pF P k) (b := b) (by omega) (by omega), nI_eq (a := pT P k) (b := a) (by omega) (by omega), nI_eq (a := pT P k) (b := b) (by omega) (by omega)]
    have vk : vp_in (nI k) 10 := vp_in_nI (by omega) (by omega)
    have go : ¬ pn_dp P a b k → ∀ v, v = nI k + 1 → L_X6_bar_37 Post m (nI a) (nI b) v τ := by
      intro hn v e
      rw [e, nI_1]
      refine ih () (fun i hi => ?_)
      by_cases q : i = k
      · rw [q]; exact hn
      · exact hq i (by omega)
    unfold pn_dp at go
    refine ⟨fun h => absurd h (nI_ge hk (by omega)), fun _ => ⟨vk, fun n1 => ⟨vk, fun n2 => go (by omega), fun n2 => ⟨vk, fun n3 => go (by omega), fun n3 => h1 k hk (Or.inr ⟨n2, n3⟩)⟩⟩, fun n1 => ⟨vk, fun n2 => h1 k hk (Or.inl ⟨n1, n2⟩), fun n2 => ⟨vk, fun n3 => go (by omega), fun n3 => ⟨vk, fun n4 => go (by omega), fun n4 => h1 k hk (Or.inr ⟨n3, n4⟩)⟩⟩⟩⟩⟩
/-- the class lays a bar down -/
theorem sc_addBar {P : pn_T} {σ : lf_St} (wf : pwf P) (hK : pK P σ) {a b : Nat} (ha : a < pJ P) (hb : b < pJ P) (hab : a ≠ b) (hB10 : pB P < 10) (wf' : pwf (pn_br P a b)) {Post : Int32 → lf_St → Prop} (h : ∀ σ', pK (pn_br P a b) σ' → lf_gi σ' 6 = lf_gi σ 6 → lf_gi σ' 8 = lf_gi σ 8 → Post (nI (pB P)) σ') : wp_X2_addBar (nI a) (nI b) σ Post := by
  have hJ := wf.1
  have hB := wf.2.1
  obtain ⟨k1, k2, k3, k4, k5, k6, k7, k8, k9⟩ := hK
  unfold wp_X2_addBar
  intro v1 e1
  rw [k3] at e1
  subst e1
  rw [nu_cl (n := pB P) (by omega), nu_cl (n := a) (by omega), nu_cl (n := b) (by omega)]
  have vB : vp_in (nI (pB P)) 10 := vp_in_nI (by omega) (by omega)
  have va : vp_in (nI a) 6 := vp_in_nI (by omega) (by omega)
  have vb : vp_in (nI b) 6 := vp_in_nI (by omega) (by omega)
  refine ⟨vB, vB, fun s4 e4 => ⟨vb, va, vB, fun s8 e8 => ⟨vb, va, vB, fun s12 e12 => ⟨vB, vB, vB, vB, vB, vB, ?_⟩⟩⟩⟩
  obtain ⟨xa, ya⟩ : lf_ai σ 2 a = nI (pX P a) ∧ lf_ai σ 3 a = nI (pY P a) := ⟨(k6 a ha).1, (k6 a ha).2.1⟩
  obtain ⟨xb, yb⟩ : lf_ai σ 2 b = nI (pX P b) ∧ lf_ai σ 3 b = nI (pY P b) := ⟨(k6 b hb).1, (k6 b hb).2.1⟩
  have q1 := wf.2.2.2.2.2.1 a ha
  have q2 := wf.2.2.2.2.2.1 b hb
  have dx : (nI (pX P b) - nI (pX P a)).toInt = pdx (pn_br P a b) (pB P) := by
    unfold pdx
    rw [br_new.1, br_new.2]
    exact nu_diff (by omega) (by omega)
  have dy : (nI (pY P b) - nI (pY P a)).toInt = pdy (pn_br P a b) (pB P) := by
    unfold pdy
    rw [br_new.1, br_new.2]
    exact nu_diff (by omega) (by omega)
  have eX : lf_ai s4 2 b - lf_ai s4 2 a = nI (pX P b) - nI (pX P a) := by
    rw [e4]
    show lf_ai σ 2 b - lf_ai σ 2 a = _
    rw [xa, xb]
  have eY : lf_ai s8 3 b - lf_ai s8 3 a = nI (pY P b) - nI (pY P a) := by
    rw [e8, e4]
    show lf_ai σ 3 b - lf_ai σ 3 a = _
    rw [ya, yb]
  have e8v : lf_ai s12 8 (pB P) = nI (pX P b) - nI (pX P a) := by
    rw [e12, e8]
    show upd (lf_ai s4 8) (pB P) (lf_ai s4 2 b - lf_ai s4 2 a) (pB P) = _
    rw [pk_us, eX]
  have e9v : lf_ai s12 9 (pB P) = nI (pY P b) - nI (pY P a) := by
    rw [e12]
    show upd (lf_ai s8 9) (pB P) (lf_ai s8 3 b - lf_ai s8 3 a) (pB P) = _
    rw [pk_us, eY]
  have hwd := pdx_le wf' (b := pB P) (Nat.lt_succ_self _)
  have ds : (((nI (pX P b) - nI (pX P a)) * (nI (pX P b) - nI (pX P a))) + ((nI (pY P b) - nI (pY P a)) * (nI (pY P b) - nI (pY P a)))).toInt = pst (pn_br P a b) (pB P) := nu_add32 (S := 36) (T := 36) (nu_mul32 (S := 6) (T := 6) dx dx (by omega) (by omega) (by decide)) (nu_mul32 (S := 6) (T := 6) dy dy (by omega) (by omega) (by decide)) (nu_natAbs_mul (S := 6) (T := 6) (by omega) (by omega)) (nu_natAbs_mul (S := 6) (T := 6) (by omega) (by omega)) (by decide)
  rw [e8v, e9v]
  obtain ⟨s0, hs0⟩ : ∃ z, z = lf_sa s12 10 (pB P) (((nI (pX P b) - nI (pX P a)) * (nI (pX P b) - nI (pX P a))) + ((nI (pY P b) - nI (pY P a)) * (nI (pY P b) - nI (pY P a)))) := ⟨_, rfl⟩
  rw [← hs0]
  -- what s0 holds
  have hgi : ∀ i, lf_gi s0 i = lf_gi σ i := fun i => by rw [hs0, e12, e8, e4]; rfl
  have hai : ∀ i, i ≠ 6 → i ≠ 7 → i ≠ 8 → i ≠ 9 → i ≠ 10 → lf_ai s0 i = lf_ai σ i := fun i n1 n2 n3 n4 n5 => by
    rw [hs0, st_ai_sa_ne n5, e12, st_ai_sa_ne n4, e8, st_ai_sa_ne n3, e4, st_ai_sa_ne n2, st_ai_sa_ne n1]
  have a6 : lf_ai s0 6 = upd (lf_ai σ 6) (pB P) (nI a) := by rw [hs0, e12, e8, e4]; rfl
  have a7 : lf_ai s0 7 = upd (lf_ai σ 7) (pB P) (nI b) := by rw [hs0, e12, e8, e4]; rfl
  have a8 : lf_ai s0 8 = upd (lf_ai σ 8) (pB P) (nI (pX P b) - nI (pX P a)) := by
    rw [hs0, e12, e8, eX, e4]; rfl
  have a9 : lf_ai s0 9 = upd (lf_ai σ 9) (pB P) (nI (pY P b) - nI (pY P a)) := by
    rw [hs0, e12, eY, e8, e4]; rfl
  have a10 : lf_ai s0 10 = upd (lf_ai σ 10) (pB P) (((nI (pX P b) - nI (pX P a)) * (nI (pX P b) - nI (pX P a))) + ((nI (pY P b) - nI (pY P a)) * (nI (pY P b) - nI (pY P a)))) := by
    rw [hs0, e12, e8, e4]; rfl
  have z := pk_loop (fun fu k (s : lf_St) => L_X2_addBar_100 Post fu (nI (pB P)) (nI k) s) (fun k s => s = lf_sa s0 11 (pB P) (nI (pcm (pn_br P a b) (pB P) k))) (pB P) 0 (lf_sa s0 11 (pB P) 0) (by omega) (by rw [show pcm (pn_br P a b) (pB P) 0 = 0 from rfl, nI_0]) ?_ ?_
  · rw [nI_0] at z
    exact z
  · intro m s es
    show L_X2_addBar_100 _ (m + 1) _ _ _
    unfold L_X2_addBar_100
    refine ⟨fun _ => h _ ?_ ?_ ?_, fun h => absurd (nI_le (Nat.le_refl _) (by omega)) h⟩
    · rw [es]
      have g2 : lf_gi (lf_sa s0 11 (pB P) (nI (pcm (pn_br P a b) (pB P) (pB P)))) 2 + 1 = nI (pB P + 1) := by
        show lf_gi s0 2 + 1 = _
        rw [hgi, k3, nI_1]
      rw [g2]
      refine ⟨(hgi 0).trans k1, (hgi 1).trans k2, rfl, (hgi 3).trans k4, (hgi 4).trans k5, fun j hj => ?_, fun k hk => ?_, fun k hk => ?_, fun r hr1 hr2 => ?_⟩
      · show lf_ai s0 2 j = _ ∧ lf_ai s0 3 j = _ ∧ lf_ai s0 4 j = _ ∧ (_ → lf_ai s0 5 _ = _ ∧ lf_ai s0 5 _ = _)
        rw [hai 2 (by decide) (by decide) (by decide) (by decide) (by decide), hai 3 (by decide) (by decide) (by decide) (by decide) (by decide), hai 4 (by decide) (by decide) (by decide) (by decide) (by decide), hai 5 (by decide) (by decide) (by decide) (by decide) (by decide)]
        exact k6 j hj
      · have hk : k < pB P + 1 := hk
        show lf_ai s0 6 k = _ ∧ lf_ai s0 7 k = _ ∧ lf_ai s0 8 k = _ ∧ lf_ai s0 9 k = _ ∧ lf_ai s0 10 k = _ ∧ upd (lf_ai s0 11) (pB P) (nI (pcm (pn_br P a b) (pB P) (pB P))) k = _
        rw [a6, a7, a8, a9, a10]
        by_cases e : k = pB P
        · subst e
          rw [pk_us, pk_us, pk_us, pk_us, pk_us, pk_us, br_new.1, br_new.2]
          exact ⟨rfl, rfl, nu_iof dx, nu_iof dy, nu_iof ds, rfl⟩
        · have hk2 : k < pB P := by omega
          obtain ⟨o1, o2⟩ := br_old (a := a) (b := b) hk2
          obtain ⟨o3, o4, o5⟩ := br_bar (a := a) (b := b) hk2
          have o6 : pst (pn_br P a b) k = pst P k := by unfold pst; rw [o3, o4]
          rw [pk_un e, pk_un e, pk_un e, pk_un e, pk_un e, pk_un e, hai 11 (by decide) (by decide) (by decide) (by decide) (by decide), o1, o2, o3, o4, o5, o6]
          exact k7 k hk2
      · show lf_ai s0 12 k = _
        rw [hai 12 (by decide) (by decide) (by decide) (by decide) (by decide)]
        exact k8 k hk
      · show lf_ai s0 5 r = _
        rw [hai 5 (by decide) (by decide) (by decide) (by decide) (by decide)]
        exact k9 r hr1 hr2
    · rw [es]
      exact hgi 6
    · rw [es]
      exact hgi 8
  · intro m k s hk es ih
    show L_X2_addBar_100 _ (m + 1) _ _ _
    unfold L_X2_addBar_100
    refine ⟨fun h => absurd h (nI_ge hk (by omega)), fun _ => ⟨vB, ?_⟩⟩
    rw [nu_cl (n := pB P) (by omega)]
    obtain ⟨f1, f2, f3⟩ := wf.2.2.2.2.2.2.2.1 k hk
    have hX : cX P s := fun j hj => by
      rw [es]
      show lf_ai s0 2 j = _ ∧ lf_ai s0 3 j = _
      rw [hai 2 (by decide) (by decide) (by decide) (by decide) (by decide), hai 3 (by decide) (by decide) (by decide) (by decide) (by decide)]
      exact ⟨(k6 j hj).1, (k6 j hj).2.1⟩
    have e11 : lf_ai s 11 (pB P) = nI (pcm (pn_br P a b) (pB P) k) := by
      rw [es, st_ai_sa, pk_us]
    have hc4 : pcr4 P a b (pF P k) (pT P k) = pcr (pn_br P a b) (pB P) k := by
      unfold pcr
      rw [br_new.1, br_new.2, (br_old hk).1, (br_old hk).2]
      rfl
    refine sc_meet wf hX (a := a) (b := b) (c := pF P k) (d := pT P k) (by omega) (by omega) ?_ ?_ ?_ ?_ ha hb f1 f2 hab f3 ?_
    · rw [es]
      show lf_ai s0 6 (pB P) = _
      rw [a6, pk_us]
    · rw [es]
      show lf_ai s0 7 (pB P) = _
      rw [a7, pk_us]
    · rw [es]
      show lf_ai s0 6 k = _
      rw [a6, pk_un (by omega)]
      exact (k7 k hk).1
    · rw [es]
      show lf_ai s0 7 k = _
      rw [a7, pk_un (by omega)]
      exact (k7 k hk).2.1
    · rw [hc4, e11]
      have stp : ∀ w, w = nI (pcm (pn_br P a b) (pB P) (k + 1)) → ∀ v, v = nI k + 1 → L_X2_addBar_100 Post m (nI (pB P)) v (lf_sa s 11 (pB P) w) := by
        intro w ew v ev
        rw [ev, nI_1]
        refine ih _ ?_
        rw [es, st_sa_sa, ew]
      cases hcr : pcr (pn_br P a b) (pB P) k
      · refine ⟨fun _ => ⟨vB, stp _ ?_⟩, fun q => absurd rfl q⟩
        rw [show (0 : Int32) = nI 0 from rfl, bt_or, Nat.or_zero]
        show nI (pcm (pn_br P a b) (pB P) k) = nI (pcm (pn_br P a b) (pB P) k + (if pcr (pn_br P a b) (pB P) k then 2 ^ k else 0))
        rw [hcr]
        rfl
      · refine ⟨fun q => absurd q (by decide), fun _ => ⟨vB, stp _ ?_⟩⟩
        rw [bt_shl (by omega), bt_or, pcm_bs, bs_or, ← pcm_bs]
        show nI (pcm (pn_br P a b) (pB P) k + 2 ^ k) = nI (pcm (pn_br P a b) (pB P) k + (if pcr (pn_br P a b) (pB P) k then 2 ^ k else 0))
        rw [hcr]
        rfl
theorem pK_forget {P : pn_T} {σ : lf_St} (hK : pK P σ) : pK P (lf_si (lf_si σ 6 0) 8 0) := hK
theorem pu_bar : lo_bar pu_Inv := by
  intro σ τ hI x y
  obtain ⟨P, wf, hM, hK, hC, hF⟩ := id hI
  have hJ := wf.1
  have hB := wf.2.1
  have eB : nI (pB P) = 10 ↔ pB P = 10 := nI_eq (a := pB P) (b := 10) (by omega) (by omega)
  have um : ∀ {x y : Int32} {Q : Int32 → lf_St → Prop}, wp_X6_isJoint x τ (fun r1 σ1 => ((r1 = 0) → (Q (-1) σ1)) ∧ ((¬ (r1 = 0)) → (wp_X6_isJoint y σ1 (fun r3 σ3 => ((r3 = 0) → (Q (-1) σ3)) ∧ ((¬ (r3 = 0)) → (((¬ x = y) → (((¬ (lf_gi σ3 6) = 10) → (∃ fu : Nat, L_X6_bar_37 Q fu x y 0 σ3)) ∧ (((lf_gi σ3 6) = 10) → (Q (-4) σ3)))) ∧ ((x = y) → (Q (-1) σ3)))))))) → wp_X6_bar x y τ Q := fun h => h
  unfold wp_X5_bar
  refine sp_hasJoint hK.1 wf.1 (fun a ha e => ⟨fun q => absurd q (by decide), fun _ => ?_⟩) (fun hn => ⟨fun _ => um (sp_isJoint hM.1 wf.1 (fun j hj e => absurd e (hn j hj)) (fun _ => ⟨fun _ => ⟨rfl, hI⟩, fun q => absurd rfl q⟩)), fun q => absurd rfl q⟩)
  subst e
  have ma : ∀ Q : Int32 → lf_St → Prop, (Q 1 τ) → wp_X6_isJoint (nI a) τ Q := fun Q h => sp_isJoint hM.1 wf.1 (fun _ _ _ => h) (fun hn => absurd rfl (hn a ha))
  refine sp_hasJoint hK.1 wf.1 (fun b hb e => ⟨fun q => absurd q (by decide), fun _ => ?_⟩) (fun hn => ⟨fun _ => um (ma _ ⟨fun q => absurd q (by decide), fun _ => sp_isJoint hM.1 wf.1 (fun j hj e => absurd e (hn j hj)) (fun _ => ⟨fun _ => ⟨rfl, hI⟩, fun q => absurd rfl q⟩)⟩), fun q => absurd rfl q⟩)
  subst e
  have mb : ∀ Q : Int32 → lf_St → Prop, (Q 1 τ) → wp_X6_isJoint (nI b) τ Q := fun Q h => sp_isJoint hM.1 wf.1 (fun _ _ _ => h) (fun hn => absurd rfl (hn b hb))
  have fin : ∀ Q : Int32 → lf_St → Prop, (((¬ nI a = nI b) → (((¬ (lf_gi τ 6) = 10) → (∃ fu : Nat, L_X6_bar_37 Q fu (nI a) (nI b) 0 τ)) ∧ (((lf_gi τ 6) = 10) → (Q (-4) τ)))) ∧ ((nI a = nI b) → (Q (-1) τ))) → wp_X6_bar (nI a) (nI b) τ Q := by
    intro Q h
    exact um (ma _ ⟨fun q => absurd q (by decide), fun _ => mb _ ⟨fun q => absurd q (by decide), fun _ => h⟩⟩)
  refine ⟨fun hne => ?_, fun he => fin _ ⟨fun q => absurd he q, fun _ => ⟨rfl, hI⟩⟩⟩
  have hab : a ≠ b := fun q => hne (by rw [q])
  rw [hK.2.2.1]
  refine ⟨fun hlt => ?_, fun hge => ?_⟩
  · have hB10 : pB P < 10 := by
      have := nu_lt.mp hlt
      rw [nu_nI (by omega)] at this
      have : (10 : Int32).toInt = 10 := rfl
      omega
    have hn10 : ¬ lf_gi τ 6 = 10 := fun q => by have := eB.mp (hM.2.1.symm.trans q); omega
    refine sc_between wf hK ha hb (fun k hk hd => ⟨fun q => absurd q (by decide), fun _ => ?_⟩) (fun hnd => ⟨fun _ => ?_, fun q => absurd rfl q⟩)
    · exact fin _ ⟨fun _ => ⟨fun _ => sp_barLoop wf hM ha hb hB10 (fun _ _ _ => ⟨rfl, hI⟩) (fun q => absurd hd (q k hk)), fun q => absurd q hn10⟩, fun q => absurd q hne⟩
    · have wf' := br_wf wf ha hb hab hB10 hnd
      unfold wp_X5_forgetAnswers
      refine sc_addBar wf (pK_forget hK) ha hb hab hB10 wf' (fun σ' hK' h6 h8 => ?_)
      refine fin _ ⟨fun _ => ⟨fun _ => sp_barLoop wf hM ha hb hB10 (fun k hk q => absurd q (hnd k hk)) (fun _ => ⟨rfl, pn_br P a b, wf', ?_, hK', Or.inl h6, Or.inl ⟨h8, rfl⟩⟩), fun q => absurd q hn10⟩, fun q => absurd q hne⟩
      obtain ⟨m1, m2, m3, m4, m5, m6, m7⟩ := hM
      refine ⟨m1, rfl, m3, m4, m5, fun k hk => ?_, m7⟩
      have hk : k < pB P + 1 := hk
      show upd (lf_ai τ 7) (pB P) (nI a) k = _ ∧ upd (lf_ai τ 8) (pB P) (nI b) k = _
      by_cases e : k = pB P
      · subst e
        rw [pk_us, pk_us, br_new.1, br_new.2]
        exact ⟨rfl, rfl⟩
      · rw [pk_un e, pk_un e, (br_old (by omega)).1, (br_old (by omega)).2]
        exact m6 k (by omega)
  · have h10 : pB P = 10 := by
      have : ¬ (nI (pB P)).toInt < (10 : Int32).toInt := fun q => hge (nu_lt.mpr q)
      rw [nu_nI (by omega)] at this
      have : (10 : Int32).toInt = 10 := rfl
      omega
    exact fin _ ⟨fun _ => ⟨fun q => absurd (hM.2.1.trans (eB.mpr h10)) q, fun _ => ⟨rfl, hI⟩⟩, fun q => absurd q hne⟩
theorem pcr4_sym (P : pn_T) {a b c d : Nat} (hn : ¬ (a = c ∧ b = d) ∧ ¬ (a = d ∧ b = c)) (hab : a ≠ b) (hcd : c ≠ d) : pcr4 P c d a b = pcr4 P a b c d := by
  unfold pcr4
  by_cases h : a = c ∨ a = d ∨ b = c ∨ b = d
  · rw [if_pos h, if_pos (by omega)]
    by_cases h1 : a = c
    · rw [if_pos (by omega), if_pos (by omega), Bool.or_comm, show a + b - c = b by omega, show c + d - a = d by omega]
    · by_cases h2 : a = d
      · rw [if_neg (by omega), if_pos (by omega), Bool.or_comm, show a + b - d = b by omega, show c + d - a = c by omega]
      · by_cases h3 : b = c
        · rw [if_pos (by omega), if_neg (by omega), Bool.or_comm, show a + b - c = a by omega, show c + d - b = d by omega]
        · rw [if_neg (by omega), if_neg (by omega), Bool.or_comm, show a + b - d = a by omega, show c + d - b = c by omega]
  · rw [if_neg h, if_neg (by omega)]
    rw [Bool.and_comm (decide (psd P c d a * psd P c d b < 0))]
    generalize (decide (psd P a b c * psd P a b d < 0) && decide (psd P c d a * psd P c d b < 0)) = q5
    generalize pon P a c d = q1
    generalize pon P b c d = q2
    generalize pon P c a b = q3
    generalize pon P d a b = q4
    revert q1 q2 q3 q4 q5
    decide
theorem pcr_sym {P : pn_T} (wf : pwf P) {k l : Nat} (hk : k < pB P) (hl : l < pB P) (hne : k ≠ l) : pcr P l k = pcr P k l := by
  unfold pcr
  obtain ⟨-, -, n1⟩ := wf.2.2.2.2.2.2.2.1 k hk
  obtain ⟨-, -, n2⟩ := wf.2.2.2.2.2.2.2.1 l hl
  refine pcr4_sym P ?_ n1 n2
  rcases Nat.lt_or_gt_of_ne hne with z | z
  · exact wf.2.2.2.2.2.2.2.2.1 k l z hl
  · have := wf.2.2.2.2.2.2.2.2.1 l k z hk
    omega
theorem pu_cross : lo_cross pu_Inv := by
  intro σ τ hI x y
  obtain ⟨P, wf, hM, hK, hC, hF⟩ := id hI
  have hB := wf.2.1
  unfold wp_X5_cross wp_X6_cross
  refine sp_hasBar hK.2.2.1 wf.2.1 (fun a ha e => ⟨fun q => absurd q (by decide), fun _ => ?_⟩) (fun hn => ⟨fun _ => sp_isBar hM.2.1 wf.2.1 (fun j hj e => absurd e (hn j hj)) (fun _ => ⟨fun _ => ⟨rfl, hI⟩, fun q => absurd rfl q⟩), fun q => absurd rfl q⟩)
  subst e
  have ma : ∀ Q : Int32 → lf_St → Prop, (Q 1 τ) → wp_X6_isBar (nI a) τ Q := fun Q h => sp_isBar hM.2.1 wf.2.1 (fun _ _ _ => h) (fun hn => absurd rfl (hn a ha))
  refine sp_hasBar hK.2.2.1 wf.2.1 (fun b hb e => ⟨fun q => absurd q (by decide), fun _ => ?_⟩) (fun hn => ⟨fun _ => ma _ ⟨fun q => absurd q (by decide), fun _ => sp_isBar hM.2.1 wf.2.1 (fun j hj e => absurd e (hn j hj)) (fun _ => ⟨fun _ => ⟨rfl, hI⟩, fun q => absurd rfl q⟩)⟩, fun q => absurd rfl q⟩)
  subst e
  have mb : ∀ Q : Int32 → lf_St → Prop, (Q 1 τ) → wp_X6_isBar (nI b) τ Q := fun Q h => sp_isBar hM.2.1 wf.2.1 (fun _ _ _ => h) (fun hn => absurd rfl (hn b hb))
  refine ⟨fun hne => ?_, fun he => ma _ ⟨fun q => absurd q (by decide), fun _ => mb _ ⟨fun q => absurd q (by decide), fun _ => ⟨fun _ => ⟨rfl, hI⟩, fun q => absurd he q⟩⟩⟩⟩
  have hab : a ≠ b := fun q => hne (by rw [q])
  have fin : ∀ r : Int32, r = nu_b (pcr P a b) → wp_X6_isBar (nI a) τ (fun r1 σ1 => ((r1 = 0) → ((r = -1) ∧ pu_Inv σ σ1)) ∧ ((¬ (r1 = 0)) → (wp_X6_isBar (nI b) σ1 (fun r3 σ3 => ((r3 = 0) → ((r = -1) ∧ pu_Inv σ σ3)) ∧ ((¬ (r3 = 0)) → (((nI a = nI b) → ((r = -1) ∧ pu_Inv σ σ3)) ∧ ((¬ (nI a = nI b)) → (wp_X6_areCrossed (nI a) (nI b) σ3 (fun r6 σ6 => ((r6 = 0) → ((r = 0) ∧ pu_Inv σ σ6)) ∧ ((¬ (r6 = 0)) → ((r = 1) ∧ pu_Inv σ σ6))))))))))) := by
    intro r er
    refine ma _ ⟨fun q => absurd q (by decide), fun _ => mb _ ⟨fun q => absurd q (by decide), fun _ => ⟨fun q => absurd q hne, fun _ => sp_crossed wf hM ha hb ?_⟩⟩⟩
    rw [er]
    cases pcr P a b
    · exact ⟨fun _ => ⟨rfl, hI⟩, fun q => absurd rfl q⟩
    · exact ⟨fun q => absurd q (by decide), fun _ => ⟨rfl, hI⟩⟩
  unfold wp_X2_barsCross
  rw [nu_max (by omega) (by omega), nu_min (by omega) (by omega), nu_cl (by omega), (hK.2.2.2.2.2.2.1 (max a b) (by omega)).2.2.2.2.2]
  have hlt : pcm P (max a b) (max a b) < 2 ^ 31 := by
    rw [pcm_bs]
    exact Nat.lt_of_lt_of_le (bs_lt _ _) (Nat.pow_le_pow_right (by decide) (by omega))
  rw [bt_test1 hlt (by omega), pcm_bs, bs_bit, decide_eq_true (show min a b < max a b by omega), Bool.true_and]
  have hsym : pcr P (max a b) (min a b) = pcr P a b := by
    rcases Nat.lt_or_gt_of_ne hab with z | z
    · rw [Nat.max_eq_right (by omega), Nat.min_eq_left (by omega)]
      exact pcr_sym wf ha hb hab
    · rw [Nat.max_eq_left (by omega), Nat.min_eq_right (by omega)]
  rw [hsym]
  refine ⟨vp_in_nI (by omega) (by omega), fun hn => ⟨fun _ => fin 0 ?_, fun q => absurd rfl q⟩, fun hy => ⟨fun q => absurd q (by decide), fun _ => fin 1 ?_⟩⟩
  · cases h : pcr P a b
    · rfl
    · exact absurd h hn
  · rw [hy]
    rfl
