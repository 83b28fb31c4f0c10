/-! FRACTIONS IN LOWEST TERMS -/
theorem nu_lN {x : Int64} {n : Nat} (h : x.toInt = (n : Int)) (hn : n < 2 ^ 63) : x = lN n := Int64.toInt_inj.mp (by rw [h, pk_lT hn])
theorem eu_half {a b k : Nat} (hb : b < 2 ^ (k + 1)) (h : a % b ≠ 0) (h0 : b ≠ 0) : b % (a % b) < 2 ^ k := by
  rw [Nat.pow_succ] at hb
  have h1 := Nat.mod_lt a (show 0 < b by omega)
  have h2 := Nat.mod_lt b (show 0 < a % b by omega)
  have h3 : b % (a % b) ≤ b - a % b := by
    rw [Nat.mod_eq_sub_mod (by omega)]
    exact Nat.mod_le _ _
  omega
theorem eu_rec {a b : Nat} : Nat.gcd (a % b) b = Nat.gcd b a := (Nat.gcd_rec b a).symm
theorem lN_0 {b : Nat} (h : b < 2 ^ 63) : lN b = 0 ↔ b = 0 := pk_lEQ h (by decide)
theorem sc_euclid {σ : lf_St} {Post : Int64 → lf_St → Prop} : ∀ (k a b i : Nat), b < 2 ^ k → a < 2 ^ 63 → b < 2 ^ 63 → i + 2 * k ≤ 200 → Post (lN (Nat.gcd b a)) σ → L_X5_commonDivisor_9 Post (2 * k + 1) (lN a) (lN b) (nI i) σ
  | 0, a, b, i, hb, ha, hb2, hi, hP => by
    have e : b = 0 := by
      have : b < 1 := hb
      omega
    rw [e, Nat.gcd_zero_left] at hP
    show L_X5_commonDivisor_9 Post (0 + 1) _ _ _ _
    unfold L_X5_commonDivisor_9
    exact ⟨fun _ => hP, fun _ => ⟨fun _ => hP, fun h => absurd (by rw [e]; rfl) h⟩⟩
  | k + 1, a, b, i, hb, ha, hb2, hi, hP => by
    have e200 : (200 : Int32) = nI 200 := rfl
    show L_X5_commonDivisor_9 Post ((2 * k + 1) + 1 + 1) _ _ _ _
    unfold L_X5_commonDivisor_9
    rw [e200, lN_0 hb2]
    refine ⟨fun h => absurd h (nI_ge (by omega) (by omega)), fun _ => ⟨fun h => by rw [h, Nat.gcd_zero_left] at hP; exact hP, fun h => ⟨h, fun v4 e4 v5 e5 => ?_⟩⟩⟩
    have hr := Nat.mod_lt a (show 0 < b by omega)
    rw [pk_lRem ha (by omega) hb2] at e4
    rw [e4, e5, nI_1]
    unfold L_X5_commonDivisor_9
    rw [e200, lN_0 (by omega)]
    refine ⟨fun h => absurd h (nI_ge (by omega) (by omega)), fun _ => ⟨fun h => ?_, fun h2 => ⟨h2, fun v4 e4 v5 e5 => ?_⟩⟩⟩
    · rw [← eu_rec, h, Nat.gcd_zero_left] at hP
      exact hP
    · rw [pk_lRem hb2 (by omega) (by omega)] at e4
      rw [e4, e5, nI_1]
      have hr2 := Nat.mod_lt b (show 0 < a % b by omega)
      exact sc_euclid k (a % b) (b % (a % b)) (i + 1 + 1) (eu_half hb h2 h) (by omega) (by omega) (by omega) (by rw [eu_rec, eu_rec]; exact hP)
theorem sp_euclid {τ : lf_St} {Post : Int64 → lf_St → Prop} : ∀ (k a b : Nat), b < 2 ^ k → a < 2 ^ 63 → b < 2 ^ 63 → Post (lN (Nat.gcd b a)) τ → L_X6_common_17 Post (2 * k + 1) (lN a) (lN b) τ
  | 0, a, b, hb, ha, hb2, hP => by
    have e : b = 0 := by
      have : b < 1 := hb
      omega
    rw [e, Nat.gcd_zero_left] at hP
    show L_X6_common_17 Post (0 + 1) _ _ _
    unfold L_X6_common_17
    exact ⟨fun _ => hP, fun h => absurd (by rw [e]; rfl) h⟩
  | k + 1, a, b, hb, ha, hb2, hP => by
    show L_X6_common_17 Post ((2 * k + 1) + 1 + 1) _ _ _
    unfold L_X6_common_17
    rw [lN_0 hb2]
    refine ⟨fun h => by rw [h, Nat.gcd_zero_left] at hP; exact hP, fun h => ⟨h, fun v4 e4 => ?_⟩⟩
    have hr := Nat.mod_lt a (show 0 < b by omega)
    rw [pk_lRem ha (by omega) hb2] at e4
    rw [e4]
    unfold L_X6_common_17
    rw [lN_0 (by omega)]
    refine ⟨fun h => ?_, fun h2 => ⟨h2, fun v4 e4 => ?_⟩⟩
    · rw [← eu_rec, h, Nat.gcd_zero_left] at hP
      exact hP
    · rw [pk_lRem hb2 (by omega) (by omega)] at e4
      rw [e4]
      have hr2 := Nat.mod_lt b (show 0 < a % b by omega)
      exact sp_euclid k (a % b) (b % (a % b)) (eu_half hb h2 h) (by omega) (by omega) (by rw [eu_rec, eu_rec]; exact hP)
/-- a part of a fraction -/
def tq (A : Int) (B : Nat) (p : Int32) : Int := if p = 0 then A.tdiv (Nat.gcd B A.natAbs : Int) else (B : Int).tdiv (Nat.gcd B A.natAbs : Int)
theorem tq_off {B : Nat} (h : 0 < B) (p : Int32) : tq 0 B p = tq 0 1 p := by
  unfold tq
  rw [show (0 : Int).natAbs = 0 from rfl, Nat.gcd_zero_right, Nat.gcd_zero_right]
  split
  · rw [Int.zero_tdiv, Int.zero_tdiv]
  · rw [Int.tdiv_self (by omega), Int.tdiv_self (by omega)]
theorem tq_div {x0 x2 r : Int64} {A : Int} {B : Nat} (hx : x0.toInt = A) (hA : A.natAbs ≤ 9000000000000000000) (hy : x2.toInt = (B : Int)) (hr : r = lN (Nat.gcd B A.natAbs)) (h0 : 0 < B) (hB : B < 2 ^ 63) : r ≠ 0 ∧ (x0 / r).toInt = A.tdiv (Nat.gcd B A.natAbs : Int) ∧ (x2 / r).toInt = (B : Int).tdiv (Nat.gcd B A.natAbs : Int) := by
  have hg := Nat.gcd_le_left A.natAbs h0
  have hp := Nat.gcd_pos_of_pos_left A.natAbs h0
  have hg2 : Nat.gcd B A.natAbs < 2 ^ 63 := by omega
  refine ⟨?_, ?_, ?_⟩
  · rw [hr, Ne, lN_0 hg2]
    omega
  · rw [Jvm.Kit.i64_div (by rw [hx]; omega), hx, hr, pk_lT hg2]
  · rw [Jvm.Kit.i64_div (by rw [hy]; omega), hy, hr, pk_lT hg2]
theorem sc_part {x0 x2 : Int64} {A : Int} {B : Nat} {x4 : Int32} (hx : x0.toInt = A) (hA : A.natAbs ≤ 9000000000000000000) (hy : x2.toInt = (B : Int)) (h0 : 0 < B) (hB : B < 2 ^ 60) {σ : lf_St} {Post : Int64 → lf_St → Prop} (hP : ∀ v, v.toInt = tq A B x4 → Post v σ) : wp_X5_partOf x0 x2 x4 σ Post := by
  unfold wp_X5_partOf wp_X5_commonDivisor
  have e1 := nu_lN (nu_labs hx hA) (by omega)
  have e2 := nu_lN hy (by omega)
  rw [e1, e2]
  refine ⟨2 * 60 + 1, sc_euclid 60 _ _ 0 hB (by omega) (by omega) (by decide) ?_⟩
  obtain ⟨d1, d2, d3⟩ := tq_div (r := lN (Nat.gcd B A.natAbs)) hx hA hy rfl h0 (by omega)
  rw [← e2]
  refine ⟨fun _ => ⟨fun h => ⟨d1, hP _ ?_⟩, fun h => ⟨d1, hP _ ?_⟩⟩, fun h => absurd h d1⟩
  · unfold tq; rw [if_neg h]; exact d3
  · unfold tq; rw [if_pos h]; exact d2
theorem sp_term {x0 x2 : Int64} {A : Int} {B : Nat} {x4 : Int32} (hx : x0.toInt = A) (hA : A.natAbs ≤ 9000000000000000000) (hy : x2.toInt = (B : Int)) (h0 : 0 < B) (hB : B < 2 ^ 60) {τ : lf_St} {Post : Int64 → lf_St → Prop} (hP : ∀ v, v.toInt = tq A B x4 → Post v τ) : wp_X6_term x0 x2 x4 τ Post := by
  unfold wp_X6_term wp_X6_common
  have e2 := nu_lN hy (by omega)
  obtain ⟨d1, d2, d3⟩ := tq_div (r := lN (Nat.gcd B A.natAbs)) hx hA hy rfl h0 (by omega)
  have key : ∀ y, y = lN A.natAbs → ∃ fu, L_X6_common_17 (fun r1 σ1 => ((¬ x4 = 0) → ((¬ r1 = 0) ∧ (Post (x2 / r1) σ1))) ∧ ((x4 = 0) → ((¬ r1 = 0) ∧ (Post (x0 / r1) σ1)))) fu y x2 τ := by
    intro y ey
    rw [ey]
    refine ⟨2 * 60 + 1, ?_⟩
    have z := sp_euclid (τ := τ) (Post := fun r1 σ1 => ((¬ x4 = 0) → ((¬ r1 = 0) ∧ (Post (x2 / r1) σ1))) ∧ ((x4 = 0) → ((¬ r1 = 0) ∧ (Post (x0 / r1) σ1)))) 60 A.natAbs B hB (by omega) (by omega) ⟨fun h => ⟨d1, hP _ (by unfold tq; rw [if_neg h]; exact d3)⟩, fun h => ⟨d1, hP _ (by unfold tq; rw [if_pos h]; exact d2)⟩⟩
    rw [← e2] at z
    exact z
  refine ⟨fun h => key _ (nu_lN ?_ (by omega)), fun h v2 e => key _ (nu_lN ?_ (by omega))⟩
  · have := nu_le64.mp h
    rw [nu_z64] at this
    omega
  · have : ¬ (0 : Int64).toInt ≤ x0.toInt := fun z => h (nu_le64.mpr z)
    rw [nu_z64] at this
    rw [e, nu_neg64 hx hA]
    omega
theorem sc_kind {x : Int32} {σ : lf_St} {Post : Int32 → lf_St → Prop} (h1 : ∀ k, k < 4 → x = nI k → Post 1 σ) (h0 : (∀ k, k < 4 → x ≠ nI k) → Post 0 σ) : wp_X5_isKind x σ Post := sp_has (J := 4) (by decide) h1 h0
theorem sp_rng {x : Int32} {n : Nat} {A : Int64} (hn : n < 100) (hA : A = (nI n).toInt64) {τ : lf_St} {Post : Int32 → lf_St → Prop} (h1 : ∀ k, k < n + 1 → x = nI k → Post 1 τ) (h0 : (∀ k, k < n + 1 → x ≠ nI k) → Post 0 τ) : wp_X6_in x.toInt64 0 A τ (fun r1 σ1 => (fits .boolean (.int r1) = true) ∧ Post r1 σ1) := by
  refine sp_inI (a := 0) (b := nI n) rfl hA (fun p q => ?_) (fun p => ⟨rfl, h0 (fun j hj e => p ?_)⟩)
  · rw [nu_nI (by omega)] at q
    obtain ⟨j, hj, e⟩ := nu_of (x := x) (n := n + 1) p (by omega) (by omega)
    exact ⟨rfl, h1 j hj e⟩
  · rw [e, nu_nI (by omega), nu_nI (by omega)]
    have : (0 : Int32).toInt = 0 := rfl
    omega
theorem sp_kind {x : Int32} {τ : lf_St} {Post : Int32 → lf_St → Prop} (h1 : ∀ k, k < 4 → x = nI k → Post 1 τ) (h0 : (∀ k, k < 4 → x ≠ nI k) → Post 0 τ) : wp_X6_isKind x τ Post := sp_rng (n := 3) (by decide) rfl h1 h0
theorem sp_part {x : Int32} {τ : lf_St} {Post : Int32 → lf_St → Prop} (h1 : ∀ k, k < 2 → x = nI k → Post 1 τ) (h0 : (∀ k, k < 2 → x ≠ nI k) → Post 0 τ) : wp_X6_isPart x τ Post := sp_rng (n := 1) (by decide) rfl h1 h0
theorem sc_isPart {x : Int32} {σ : lf_St} {Post : Int32 → lf_St → Prop} (h1 : ∀ k, k < 2 → x = nI k → Post 1 σ) (h0 : (∀ k, k < 2 → x ≠ nI k) → Post 0 σ) : wp_X5_isPart x σ Post := by
  unfold wp_X5_isPart
  refine ⟨fun h => h1 0 (by decide) h, fun ha => ⟨fun hb => h0 (fun k hk e => ?_), fun h => h1 1 (by decide) h⟩⟩
  rcases (show k = 0 ∨ k = 1 by omega) with q | q
  · rw [q] at e; exact ha e
  · rw [q] at e; exact hb e
/-- both sides have looked: all is as it was -/
theorem inv_back {P : pn_T} {σ τ σ' τ' : lf_St} {x y : Int64} (wf : pwf P) (hpf : (lf_gi σ 8 = 0 ∧ lf_gi τ 12 = 0) ∨ (lf_gi σ 8 = 1 ∧ lf_gi τ 12 = 1 ∧ pPf P σ τ)) (hS : cS P σ σ') (h6 : lf_gi σ' 6 = 1) (hkn : pKn P σ') (hR : mR P (lf_gi τ 12, x, y, lf_gl τ 25, lf_al τ 24) τ') : pu_Inv σ' τ' := by
  obtain ⟨s1, s2, s3, s4, s5⟩ := hS
  obtain ⟨⟨m1, m2, m3, m4, m5, m6⟩, m7, m8⟩ := hR
  refine ⟨P, wf, m1, s1, Or.inr ⟨h6, hkn⟩, ?_⟩
  rcases hpf with ⟨p1, p2⟩ | ⟨p1, p2, p, g, f, q1, q2, q3, q4, q5, q6, q7⟩
  · exact Or.inl ⟨s2.trans p1, m2.trans p2⟩
  · refine Or.inr ⟨s2.trans p1, m2.trans p2, p, g, f, q1, s3.trans q2, q3, by rw [s4]; exact q4, by rw [m5]; exact q5, ?_, m8⟩
    rw [s5, m6]
    exact q6
theorem inv_mI {P : pn_T} {τ : lf_St} (hM : pM P τ) : mI P (lf_gi τ 12, lf_gl τ 22, lf_gl τ 23, lf_gl τ 25, lf_al τ 24) τ := ⟨hM, rfl, rfl, rfl, rfl, rfl⟩
theorem sc_frameOf {P : pn_T} {σ : lf_St} (wf : pwf P) (hK : pK P σ) (hkn : lf_gi σ 6 = 0 ∨ (lf_gi σ 6 = 1 ∧ pKn P σ)) {k : Nat} (hk : k < 4) {Post : lf_St → Prop} (hP : ∀ σ', cS P σ σ' → lf_gi σ' 6 = 1 → pKn P σ' → Post σ') : wp_X4_frameOf (nI k) σ Post := sc_run wf hK hkn (fun σ' a b c => ⟨vp_in_nI hk (by omega), hP σ' a b c⟩)
