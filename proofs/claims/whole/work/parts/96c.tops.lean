/-! THE CLASS'S COSTS OF A TRIAL -/
theorem nu_labs {x : Int64} {z : Int} (h : x.toInt = z) (hz : z.natAbs ≤ 9000000000000000000) : (lf_abs x).toInt = (z.natAbs : Int) := by
  unfold lf_abs
  by_cases q : 0 < x
  · rw [if_pos q]
    have := nu_lt64.mp q
    rw [nu_z64] at this
    omega
  · rw [if_neg q, nu_neg64 h hz]
    have : ¬ (0 : Int64).toInt < x.toInt := fun z => q (nu_lt64.mpr z)
    rw [nu_z64] at this
    omega
theorem sc_least {P : pn_T} {σ : lf_St} (wf : pwf P) (hK : pK P σ) {k s b : Nat} (hn : pn_nb s (pB P) = pR P) (hb : b < pB P) (hl : (lf_gl σ (20 + k)).toInt = pbel P s) (hp : (lf_al σ (27 + k) b).toInt = ppu P s b) {Post : Int32 → lf_St → Prop} (hP : Post (nI (pls P s b)) σ) : wp_X4_leastSizeFor k (nI b) σ Post := by
  have hB := wf.2.1
  have hS := wf.2.2.1
  have hbl := pbel_le wf hn
  have hbl0 : 0 ≤ pbel P s := by unfold pbel; omega
  have hpp := ppu_le wf hn b
  have ha := nu_labs hp (by omega)
  have vb : vp_in (nI b) 10 := vp_in_nI (by omega) (by omega)
  unfold wp_X4_leastSizeFor
  have z := pk_loop (σ := Unit) (fun fu i _ => L_X4_leastSizeFor_5 k Post fu (nI b) (nI (pn_ls P s b i)) (nI i) σ) (fun _ _ => True) (pS P) 0 () (by omega) trivial ?_ ?_
  · exact z
  · intro m _ _
    show L_X4_leastSizeFor_5 k Post (m + 1) _ _ _ _
    unfold L_X4_leastSizeFor_5
    rw [hK.2.2.2.1]
    exact ⟨fun _ => hP, fun h => absurd (nI_le (Nat.le_refl _) (by omega)) h⟩
  · intro m i _ hi _ ih
    show L_X4_leastSizeFor_5 k Post (m + 1) _ _ _ _
    unfold L_X4_leastSizeFor_5
    have hz := wf.2.2.2.2.2.2.2.2.2 i hi
    have hls := ls_le wf s b (show i ≤ pS P by omega)
    rw [hK.2.2.2.1, nu_cl (by omega), nu_cl (by omega)]
    refine ⟨fun h => absurd h (nI_ge hi (by omega)), fun _ => ⟨vp_in_nI (by omega) (by omega), fun v3 e3 => ⟨vb, ?_⟩⟩⟩
    rw [hK.2.2.2.2.2.2.2.1 i hi] at e3
    have em : (v3.toInt64 * lf_gl σ (20 + k)).toInt = (pZ P i : Int) * pbel P s := by
      rw [e3]
      exact nu_mul64 (S := 200) (T := 2985984) (nu_n64 (nu_nI (by omega))) hl (by omega) (by omega) (by decide)
    have ih' := ih () trivial
    have e1 : pn_ls P s b (i + 1) = if ((ppu P s b).natAbs : Int) ≤ (pZ P i : Int) * pbel P s ∧ (pn_ls P s b i = 0 ∨ pZ P i < pn_ls P s b i) then pZ P i else pn_ls P s b i := rfl
    rw [nu_lt64, em, ha]
    refine ⟨fun q v6 e6 => ?_, fun q => ⟨fun q2 v8 e8 => ?_, fun q2 => ⟨fun q3 v10 e10 => ?_, fun q3 v11 e11 => ?_⟩⟩⟩
    · rw [e6, nI_1]
      rw [e1, if_neg (fun z => by omega)] at ih'
      exact ih'
    · have q4 : pn_ls P s b i = 0 := (nI_eq (by omega) (by omega)).mp q2
      rw [e1, if_pos ⟨by omega, Or.inl q4⟩] at ih'
      rw [e8, e3, nI_1]
      exact ih'
    · rw [e3] at q3
      have q4 := (nI_leI (by omega) (by omega)).mp q3
      have q5 : pn_ls P s b i ≠ 0 := fun z => q2 (by rw [z]; rfl)
      rw [e1, if_neg (fun z => by omega)] at ih'
      rw [e10, nI_1]
      exact ih'
    · rw [e3] at q3
      have q4 : ¬ pn_ls P s b i ≤ pZ P i := fun z => q3 ((nI_leI (by omega) (by omega)).mpr z)
      rw [e1, if_pos ⟨by omega, Or.inr (by omega)⟩] at ih'
      rw [e11, e3, nI_1]
      exact ih'
theorem sc_lightest {P : pn_T} {σ : lf_St} (wf : pwf P) (hK : pK P σ) {s : Nat} (hn : pn_nb s (pB P) = pR P) (hT : cT P s σ) {Post : Int64 → lf_St → Prop} (hP : ∀ v, v.toInt = pc0 P s → Post v σ) : wp_X4_lightestTop σ Post := by
  have hB := wf.2.1
  unfold wp_X4_lightestTop
  have hbd : ∀ b, b < pB P → 0 ≤ pst P b * ((ppu P s b).natAbs : Int) ∧ pst P b * ((ppu P s b).natAbs : Int) ≤ 72 * 955514880 := fun b hb => by
    have h1 := pst_le wf hb
    have h2 := ppu_le wf hn b
    exact mul_le h1.1 h1.2 (by omega) (by omega)
  have z := pk_loop (σ := Int64) (fun fu i x => L_X4_lightestTop_4 Post fu x (nI i) σ) (fun i x => x.toInt = dt_sm (fun b => pst P b * ((ppu P s b).natAbs : Int)) i) (pB P) 0 0 (by omega) rfl ?_ ?_
  · rw [nI_0] at z
    exact z
  · intro m x hx
    show L_X4_lightestTop_4 Post (m + 1) _ _ _
    unfold L_X4_lightestTop_4
    rw [hK.2.2.1]
    exact ⟨fun _ => hP x hx, fun h => absurd (nI_le (Nat.le_refl _) (by omega)) h⟩
  · intro m i x hi hx ih
    show L_X4_lightestTop_4 Post (m + 1) _ _ _
    unfold L_X4_lightestTop_4
    have vb : vp_in (nI i) 10 := vp_in_nI (by omega) (by omega)
    obtain ⟨-, -, -, -, k10, -⟩ := hK.2.2.2.2.2.2.1 i hi
    rw [hK.2.2.1, nu_cl (by omega), k10]
    refine ⟨fun h => absurd h (nI_ge hi (by omega)), fun _ => ⟨vb, vb, fun v4 e4 v5 e5 => ?_⟩⟩
    rw [e5, nI_1]
    refine ih v4 ?_
    have h1 := pst_le wf hi
    have h2 := ppu_le wf hn i
    have h3 := hbd i hi
    have h4 := sm_le (v := 72 * 955514880) (by decide) (fun j (hj : j < i) => hbd j (by omega))
    have ea := nu_labs (hT.2.2.2.2 i hi) (by omega)
    have em := nu_mul64 (S := 72) (T := 955514880) (nu_n64 (nu_ofN (z := pst P i) (by omega))) ea (by omega) (by omega) (by decide)
    rw [e4]
    show _ = dt_sm _ i + pst P i * ((ppu P s i).natAbs : Int)
    exact nu_add64 (S := 10 * (72 * 955514880)) (T := 72 * 955514880) hx em (by omega) (by omega) (by decide)
theorem sc_uses {P : pn_T} {σ : lf_St} (wf : pwf P) {k s b : Nat} (hb : b < pB P) (hu : lf_gi σ (40 + k) = nI (pub P s (pB P))) {Post : Int32 → lf_St → Prop} (h0 : ppu P s b = 0 → Post 0 σ) (h1 : ppu P s b ≠ 0 → Post 1 σ) : wp_X0_uses k (nI b) σ Post := by
  have hB := wf.2.1
  have hlt : pub P s (pB P) < 2 ^ 31 := by
    rw [pub_bs]
    exact Nat.lt_of_lt_of_le (bs_lt _ _) (Nat.pow_le_pow_right (by decide) (by omega))
  unfold wp_X0_uses
  rw [hu, bt_test1 hlt (by omega), pub_bs, bs_bit, decide_eq_true hb, Bool.true_and, decide_eq_true_iff]
  exact ⟨fun h => h0 (Decidable.not_not.mp h), h1⟩
theorem cm_meet {P : pn_T} {s b : Nat} (hb : b < pB P) : (pcm P b b &&& pub P s (pB P)) ≠ 0 ↔ ∃ a, a < b ∧ ppu P s a ≠ 0 ∧ pcr P b a = true := by
  constructor
  · intro h
    obtain ⟨a, ha⟩ := Nat.exists_testBit_of_ne_zero h
    rw [Nat.testBit_and, pcm_bs, pub_bs, bs_bit, bs_bit, Bool.and_eq_true, Bool.and_eq_true, Bool.and_eq_true, decide_eq_true_iff, decide_eq_true_iff, decide_eq_true_iff] at ha
    exact ⟨a, ha.1.1, ha.2.2, ha.1.2⟩
  · intro ⟨a, h1, h2, h3⟩ h
    have : (pcm P b b &&& pub P s (pB P)).testBit a = true := by
      rw [Nat.testBit_and, pcm_bs, pub_bs, bs_bit, bs_bit, Bool.and_eq_true, Bool.and_eq_true, Bool.and_eq_true, decide_eq_true_iff, decide_eq_true_iff, decide_eq_true_iff]
      exact ⟨⟨h1, h3⟩, by omega, h2⟩
    rw [h, Nat.zero_testBit] at this
    cases this
theorem sc_cross {P : pn_T} {σ : lf_St} (wf : pwf P) (hK : pK P σ) {s : Nat} (hT : cT P s σ) {Post : Int32 → lf_St → Prop} (h0 : ¬ px1 P s → Post 0 σ) (h1 : px1 P s → Post 1 σ) : wp_X4_usedBarsCross σ Post := by
  have hB := wf.2.1
  unfold wp_X4_usedBarsCross
  have z := pk_loop (σ := Unit) (fun fu i _ => L_X4_usedBarsCross_2 Post fu (nI i) σ) (fun i _ => ∀ b a, b < i → a < b → ppu P s b ≠ 0 → ppu P s a ≠ 0 → pcr P b a = true → False) (pB P) 0 () (by omega) (fun b a h => absurd h (Nat.not_lt_zero b)) ?_ ?_
  · rw [nI_0] at z
    exact z
  · intro m _ hx
    show L_X4_usedBarsCross_2 Post (m + 1) _ _
    unfold L_X4_usedBarsCross_2
    rw [hK.2.2.1]
    exact ⟨fun _ => h0 (fun ⟨b, a, q1, q2, q3, q4, q5⟩ => hx b a q2 q1 q3 q4 q5), fun h => absurd (nI_le (Nat.le_refl _) (by omega)) h⟩
  · intro m i _ hi hx ih
    show L_X4_usedBarsCross_2 Post (m + 1) _ _
    unfold L_X4_usedBarsCross_2
    obtain ⟨-, -, -, -, -, k11⟩ := hK.2.2.2.2.2.2.1 i hi
    rw [hK.2.2.1]
    refine ⟨fun h => absurd h (nI_ge hi (by omega)), fun _ => sc_uses (k := 4) wf hi hT.2.2.1 (fun hz => ⟨fun _ v4 e4 => ?_, fun h => absurd rfl h⟩) (fun hz => ⟨fun h => absurd h (by decide), fun _ => ⟨vp_in_nI (by omega) (by omega), ?_⟩⟩)⟩
    · rw [e4, nI_1]
      refine ih () (fun b a hb hab p1 p2 p3 => ?_)
      by_cases e : b = i
      · rw [e] at p1; exact p1 hz
      · exact hx b a (by omega) hab p1 p2 p3
    · have e44 : lf_gi σ (40 + 4) = nI (pub P s (pB P)) := hT.2.2.1
      have l1 : (pcm P i i &&& pub P s (pB P)) < 2 ^ 31 := Nat.lt_of_le_of_lt Nat.and_le_left (by rw [pcm_bs]; exact Nat.lt_of_lt_of_le (bs_lt _ _) (Nat.pow_le_pow_right (by decide) (by omega)))
      rw [nu_cl (by omega), k11, e44, bt_and]
      have ez : nI (pcm P i i &&& pub P s (pB P)) = 0 ↔ (pcm P i i &&& pub P s (pB P)) = 0 := nI_eq l1 (by decide)
      rw [ez]
      refine ⟨fun q v7 e7 => ?_, fun q => ?_⟩
      · rw [e7, nI_1]
        refine ih () (fun b a hb hab p1 p2 p3 => ?_)
        by_cases e : b = i
        · rw [e] at hab p3
          exact (cm_meet hi).mpr ⟨a, hab, p2, p3⟩ q
        · exact hx b a (by omega) hab p1 p2 p3
      · obtain ⟨a, p1, p2, p3⟩ := (cm_meet hi).mp q
        exact h1 ⟨i, a, p1, hi, hz, p2, p3⟩
theorem sc_whole {P : pn_T} {σ : lf_St} (wf : pwf P) (hK : pK P σ) {s : Nat} (hn : pn_nb s (pB P) = pR P) (hT : cT P s σ) {Post : Int64 → lf_St → Prop} (h0 : ¬ px2 P s → ∀ v, v.toInt = pc2 P s → Post v σ) (h1 : px2 P s → Post (-1) σ) : wp_X4_wholeSizesTop σ Post := by
  have hB := wf.2.1
  have hbl := pbel_le wf hn
  have hbl0 : 0 ≤ pbel P s := by unfold pbel; omega
  have hbd : ∀ b, b < pB P → 0 ≤ (if ppu P s b = 0 then 0 else pst P b * (pls P s b : Int)) ∧ (if ppu P s b = 0 then 0 else pst P b * (pls P s b : Int)) ≤ 72 * 200 := fun b hb => by
    have e1 := pst_le wf hb
    have e2 : pls P s b ≤ 200 := ls_le wf s b (Nat.le_refl _)
    split
    · exact ⟨by decide, by decide⟩
    · exact mul_le e1.1 e1.2 (by omega) (by omega)
  unfold wp_X4_wholeSizesTop
  have z := pk_loop (σ := Int64) (fun fu i x => L_X4_wholeSizesTop_4 Post fu x (nI i) σ) (fun i x => x.toInt = dt_sm (fun b => if ppu P s b = 0 then 0 else pst P b * (pls P s b : Int)) i ∧ ∀ b, b < i → ppu P s b ≠ 0 → pls P s b ≠ 0) (pB P) 0 0 (by omega) ⟨rfl, fun b h => absurd h (Nat.not_lt_zero b)⟩ ?_ ?_
  · rw [nI_0] at z
    exact z
  · intro m x ⟨hx, hy⟩
    show L_X4_wholeSizesTop_4 Post (m + 1) _ _ _
    unfold L_X4_wholeSizesTop_4
    rw [hK.2.2.1]
    refine ⟨fun _ => h0 (fun ⟨b, q1, q2, q3⟩ => hy b q1 q2 q3) _ ?_, fun h => absurd (nI_le (Nat.le_refl _) (by omega)) h⟩
    have h4 := sm_le (v := 72 * 200) (by decide) hbd
    exact nu_mul64 (S := 144000) (T := 2985984) hx hT.2.1 (by omega) (by omega) (by decide)
  · intro m i x hi ⟨hx, hy⟩ ih
    show L_X4_wholeSizesTop_4 Post (m + 1) _ _ _
    unfold L_X4_wholeSizesTop_4
    obtain ⟨-, -, -, -, k10, -⟩ := hK.2.2.2.2.2.2.1 i hi
    rw [hK.2.2.1]
    have h4 := sm_le (v := 72 * 200) (by decide) (fun j (hj : j < i) => hbd j (by omega))
    refine ⟨fun h => absurd h (nI_ge hi (by omega)), fun _ => sc_uses (k := 4) wf hi hT.2.2.1 (fun hz => ⟨fun _ v4 e4 => ?_, fun h => absurd rfl h⟩) (fun hz => ⟨fun h => absurd h (by decide), fun _ => sc_least (k := 4) wf hK hn hi hT.2.1 (hT.2.2.2.2 i hi) ⟨fun hne => ⟨vp_in_nI (by omega) (by omega), fun v8 e8 v9 e9 => ?_⟩, fun he => ?_⟩⟩)⟩
    · rw [e4, nI_1]
      refine ih x ⟨?_, fun b hb p1 => ?_⟩
      · show _ = dt_sm _ i + (if ppu P s i = 0 then 0 else pst P i * (pls P s i : Int))
        rw [hx, if_pos hz, Int.add_zero]
      · by_cases e : b = i
        · rw [e] at p1; exact absurd hz p1
        · exact hy b (by omega) p1
    · have e2 : pls P s i ≤ 200 := ls_le wf s i (Nat.le_refl _)
      have h1 := pst_le wf hi
      have h3 := hbd i hi
      rw [if_neg hz] at h3
      rw [e9, nI_1]
      refine ih v8 ⟨?_, fun b hb p1 => ?_⟩
      · rw [e8, nu_cl (by omega), k10]
        show _ = dt_sm _ i + (if ppu P s i = 0 then 0 else pst P i * (pls P s i : Int))
        rw [if_neg hz]
        exact nu_add64 (S := 144000) (T := 14400) hx (nu_n64 (nu_mul32 (S := 72) (T := 200) (nu_ofN (z := pst P i) (by omega)) (nu_nI (n := pls P s i) (by omega)) (by omega) (by omega) (by decide))) (by omega) (by omega) (by decide)
      · by_cases e : b = i
        · rw [e]; exact fun q => hne (by rw [q]; rfl)
        · exact hy b (by omega) p1
    · have e2 : pls P s i ≤ 200 := ls_le wf s i (Nat.le_refl _)
      exact h1 ⟨i, hi, hz, (nI_eq (by omega) (by decide)).mp he⟩
def bc_f (x : Int32) : Int32 :=
  let v1 := x - (((x.toUInt32 >>> ((1 : Int32).toUInt32 &&& Int32.toUInt32 31)).toInt32) &&& 1431655765)
  let v2 := (v1 &&& 858993459) + (((v1.toUInt32 >>> ((2 : Int32).toUInt32 &&& Int32.toUInt32 31)).toInt32) &&& 858993459)
  let v3 := (v2 + ((v2.toUInt32 >>> ((4 : Int32).toUInt32 &&& Int32.toUInt32 31)).toInt32)) &&& 252645135
  let v4 := v3 + ((v3.toUInt32 >>> ((8 : Int32).toUInt32 &&& Int32.toUInt32 31)).toInt32)
  let v5 := v4 + ((v4.toUInt32 >>> ((16 : Int32).toUInt32 &&& Int32.toUInt32 31)).toInt32)
  v5 &&& 63
theorem bc_all : ∀ n, n < 1024 → bc_f (nI n) = nI (pn_nb n 10) := by decide +kernel
theorem sc_bits {σ : lf_St} {n : Nat} (hn : n < 2 ^ 10) {Post : Int32 → lf_St → Prop} (hP : Post (nI (pn_nb n 10)) σ) : wp_J6_bitCount_0f7a4 (nI n) σ Post := by
  intro v1 e1 v2 e2 v3 e3 v4 e4 v5 e5
  have h : v5 &&& 63 = bc_f (nI n) := by rw [e5, e4, e3, e2, e1]; rfl
  rw [h, bc_all n hn]
  exact hP
theorem sc_prices {P : pn_T} {σ : lf_St} (wf : pwf P) (hK : pK P σ) {s : Nat} (hn : pn_nb s (pB P) = pR P) (hT : cT P s σ) {Post : Int64 → lf_St → Prop} (hP : ∀ v, v.toInt = (pC P : Int) * (pn_nb (puj P s (pB P)) 6 : Int) * pbel P s → Post v σ) : wp_X4_pricesTop σ Post := by
  have hbl := pbel_le wf hn
  have hbl0 : 0 ≤ pbel P s := by unfold pbel; omega
  have hlt := puj_lt wf s (Nat.le_refl (pB P))
  have hC := wf.2.2.2.1
  have n6 := nb6_le (puj P s (pB P))
  have e54 : lf_gi σ (50 + 4) = nI (puj P s (pB P)) := hT.2.2.2.1
  unfold wp_X4_pricesTop
  rw [e54]
  refine sc_bits (Nat.lt_trans hlt (by decide)) (hP _ ?_)
  rw [show pn_nb (puj P s (pB P)) 10 = pn_nb (puj P s (pB P)) 6 from nb_up hlt 4, hK.2.2.2.2.1]
  have hm := mul_le (a := (pC P : Int)) (b := (pn_nb (puj P s (pB P)) 6 : Int)) (A := 1000) (B := 6) (by omega) (by omega) (by omega) (by omega)
  exact nu_mul64 (S := 6000) (T := 2985984) (nu_n64 (nu_mul32 (S := 1000) (T := 6) (nu_nI (by omega)) (nu_nI (by omega)) (by omega) (by omega) (by decide))) hT.2.1 (by omega) (by omega) (by decide)
theorem sc_trialTop {P : pn_T} {σ : lf_St} (wf : pwf P) (hK : pK P σ) {s k : Nat} (hk : k < 4) (hn : pn_nb s (pB P) = pR P) (hT : cT P s σ) {Post : Int64 → lf_St → Prop} (hP : ∀ v, pcv P k s v → Post v σ) : wp_X4_trialTop (nI k) σ Post := by
  unfold wp_X4_trialTop
  have hbl := pbel_le wf hn
  have hbl0 : 0 ≤ pbel P s := by unfold pbel; omega
  have c0 := pc0_le wf hn
  refine ⟨fun q => ?_, fun q1 => ⟨fun q => ?_, fun q2 => ⟨fun q => ?_, fun q3 => ?_⟩⟩⟩
  · have e : k = 1 := (nI_eq (by omega) (by decide)).mp q
    refine sc_cross wf hK hT (fun hx => ⟨fun _ => sc_lightest wf hK hn hT (fun v ev => hP v (Or.inl ⟨_, Or.inr (Or.inl ⟨e, hx, rfl⟩), ev⟩)), fun h => absurd rfl h⟩) (fun hx => ⟨fun h => absurd h (by decide), fun _ => hP _ (Or.inr ⟨fun c hc => ?_, rfl⟩)⟩)
    rcases hc with ⟨h, -⟩ | ⟨-, h, -⟩ | ⟨h, -⟩ | ⟨h, -⟩
    · omega
    · exact h hx
    · omega
    · omega
  · have e : k = 2 := (nI_eq (by omega) (by decide)).mp q
    refine sc_whole wf hK hn hT (fun hx v ev => hP v (Or.inl ⟨_, Or.inr (Or.inr (Or.inl ⟨e, hx, rfl⟩)), ev⟩)) (fun hx => hP _ (Or.inr ⟨fun c hc => ?_, rfl⟩))
    rcases hc with ⟨h, -⟩ | ⟨h, -⟩ | ⟨-, h, -⟩ | ⟨h, -⟩
    · omega
    · omega
    · exact h hx
    · omega
  · have e : k = 3 := (nI_eq (by omega) (by decide)).mp q
    have n6 := nb6_le (puj P s (pB P))
    have hC := wf.2.2.2.1
    have hm := mul_le (a := (pC P : Int)) (b := (pn_nb (puj P s (pB P)) 6 : Int)) (A := 1000) (B := 6) (by omega) (by omega) (by omega) (by omega)
    have hm2 := mul_le (a := (pC P : Int) * (pn_nb (puj P s (pB P)) 6 : Int)) (b := pbel P s) (A := 6000) (B := 2985984) (by omega) (by omega) (by omega) (by omega)
    exact sc_lightest wf hK hn hT (fun v ev => sc_prices wf hK hn hT (fun w ew => hP _ (Or.inl ⟨_, Or.inr (Or.inr (Or.inr ⟨e, rfl⟩)), nu_add64 (S := 687970713600) (T := 6000 * 2985984) ev ew (by omega) (by omega) (by decide)⟩)))
  · have e : k = 0 := by
      have n1 : k ≠ 1 := fun z => q1 (by rw [z]; rfl)
      have n2 : k ≠ 2 := fun z => q2 (by rw [z]; rfl)
      have n3 : k ≠ 3 := fun z => q3 (by rw [z]; rfl)
      omega
    exact sc_lightest wf hK hn hT (fun v ev => hP v (Or.inl ⟨_, Or.inl ⟨e, rfl⟩, ev⟩))
