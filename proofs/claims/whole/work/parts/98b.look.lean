/-! THE CLASS LOOKS FOR A PROOF -/
theorem sc_fieldTop {P : pn_T} {σ : lf_St} (wf : pwf P) (hK : pK P σ) {f : Nat → Int} (hf : ∀ r, r < pR P → (lf_al σ 20 r).toInt = f r) {j w : Nat} (hj : j < pJ P) (hw : w < 2) {Post : Int64 → lf_St → Prop} (hP : ∀ v, v.toInt = pfv P f j w → Post v σ) : wp_X3_fieldTop (nI j) (nI w) σ Post := by
  have hJ := wf.1
  have h6 := pR_6 wf
  unfold wp_X3_fieldTop
  rw [nu_cl (by omega), (hK.2.2.2.2.2.1 j hj).2.2.1]
  refine ⟨vp_in_nI (by omega) (by omega), fun v2 e2 => ?_⟩
  unfold pfv at hP
  cases e : pE P j
  · have hW := pW_lt wf hj e
    rw [e, if_neg (by decide)] at e2 hP
    rw [e2, nI_add, nu_cl (by omega)]
    exact ⟨fun _ => ⟨vp_in_nI (by omega) (by omega), hP _ (hf _ (by omega))⟩, fun h => absurd h (nu_nm1 (by omega))⟩
  · rw [e, if_pos rfl] at e2 hP
    rw [e2]
    exact ⟨fun h => absurd rfl h, fun _ => hP _ rfl⟩
theorem sc_slackTop {P : pn_T} {σ : lf_St} (wf : pwf P) (hK : pK P σ) {f : Nat → Int} (hf : ∀ r, r < pR P → (lf_al σ 20 r).toInt = f r) (hfl : ∀ r, r < pR P → (f r).natAbs ≤ 26121388032) {D : Int} (hD : (lf_gl σ 1).toInt = D) (hD0 : 0 ≤ D) (hD1 : D ≤ 2985984) {b : Nat} (hb : b < pB P) {Post : Int64 → lf_St → Prop} (hP : ∀ v, v.toInt = pst P b * D - ((pnum P f b).natAbs : Int) → Post v σ) : wp_X3_slackTop (nI b) σ Post := by
  have hB := wf.2.1
  obtain ⟨f1, f2, f3⟩ := wf.2.2.2.2.2.2.2.1 b hb
  obtain ⟨k6, k7, k8, k9, k10, -⟩ := hK.2.2.2.2.2.2.1 b hb
  obtain ⟨d1, d2⟩ := pdx_6 wf hb
  have vb : vp_in (nI b) 10 := vp_in_nI (by omega) (by omega)
  have hs := pst_le wf hb
  have a1 := pfv_le wf hfl f1 (w := 0) (by decide)
  have a2 := pfv_le wf hfl f2 (w := 0) (by decide)
  have a3 := pfv_le wf hfl f1 (w := 1) (by decide)
  have a4 := pfv_le wf hfl f2 (w := 1) (by decide)
  have hnl := pnum_le wf hfl hb
  unfold wp_X3_slackTop
  rw [nu_cl (by omega), k6, k7, k8]
  refine ⟨vb, fun v2 e2 => ⟨vb, fun v4 e4 => ⟨vb, ?_⟩⟩⟩
  rw [e2, e4]
  refine sc_fieldTop (w := 0) wf hK hf f2 (by decide) (fun r6 q6 => sc_fieldTop (w := 0) wf hK hf f1 (by decide) (fun r7 q7 => ⟨vb, sc_fieldTop (w := 1) wf hK hf f2 (by decide) (fun r9 q9 => sc_fieldTop (w := 1) wf hK hf f1 (by decide) (fun r10 q10 v11 e11 => ⟨vb, hP _ ?_⟩))⟩))
  rw [k9] at e11
  rw [k10]
  have t1 := nu_sub64 (S := 26121388032) (T := 26121388032) q6 q7 a2 a1 (by decide)
  have t2 := nu_sub64 (S := 26121388032) (T := 26121388032) q9 q10 a4 a3 (by decide)
  have m1 := nu_mul64 (S := 6) (T := 52242776064) (nu_n64 (nu_ofN (z := pdx P b) (by omega))) t1 d1 (by omega) (by decide)
  have m2 := nu_mul64 (S := 6) (T := 52242776064) (nu_n64 (nu_ofN (z := pdy P b) (by omega))) t2 d2 (by omega) (by decide)
  have n1 := nu_natAbs_mul d1 (show (pfv P f (pT P b) 0 - pfv P f (pF P b) 0).natAbs ≤ 52242776064 by omega)
  have n2 := nu_natAbs_mul d2 (show (pfv P f (pT P b) 1 - pfv P f (pF P b) 1).natAbs ≤ 52242776064 by omega)
  have t3 := nu_add64 (S := 6 * 52242776064) (T := 6 * 52242776064) m1 m2 n1 n2 (by decide)
  rw [← e11, ← pnum_eval wf f hb] at t3
  have ta := nu_labs t3 (by omega)
  have m3 := nu_mul64 (S := 72) (T := 2985984) (nu_n64 (nu_ofN (z := pst P b) (by omega))) hD (by omega) (by omega) (by decide)
  have n3 := mul_le hs.1 hs.2 hD0 hD1
  exact nu_sub64 (S := 72 * 2985984) (T := 626913312768) m3 ta (by omega) (by omega) (by decide)
theorem sc_noBar {P : pn_T} {σ : lf_St} (wf : pwf P) (hK : pK P σ) {s g : Nat} (hc : pch P s = true) {f : Nat → Int} (hfd : pfd P s g f) (hf : ∀ r, r < pR P → (lf_al σ 20 r).toInt = f r) (hD : (lf_gl σ 1).toInt = pbel P s) {Post : Int32 → lf_St → Prop} (h0 : ¬ pgood P s g → Post 0 σ) (h1 : pgood P s g → Post 1 σ) : wp_X3_noBarExceeds σ Post := by
  have hB := wf.2.1
  have hn := pch_nb hc
  have hl := pbel_le wf hn
  have hp := pbel_pos hc
  rw [pgood_iff hc hfd] at h0 h1
  unfold wp_X3_noBarExceeds
  have z := pk_loop (σ := Unit) (fun fu i _ => L_X3_noBarExceeds_2 Post fu (nI i) σ) (fun i _ => ∀ b, b < i → ((pnum P f b).natAbs : Int) ≤ pst P b * pbel P s) (pB P) 0 () (by omega) (fun b h => absurd h (Nat.not_lt_zero b)) ?_ ?_
  · rw [nI_0] at z
    exact z
  · intro m _ hx
    show L_X3_noBarExceeds_2 Post (m + 1) _ _
    unfold L_X3_noBarExceeds_2
    rw [hK.2.2.1]
    exact ⟨fun _ => h1 hx, fun h => absurd (nI_le (Nat.le_refl _) (by omega)) h⟩
  · intro m i _ hi hx ih
    show L_X3_noBarExceeds_2 Post (m + 1) _ _
    unfold L_X3_noBarExceeds_2
    rw [hK.2.2.1]
    refine ⟨fun h => absurd h (nI_ge hi (by omega)), fun _ => sc_slackTop wf hK hf (fun r hr => pfd_le wf hc hfd hr) hD (by omega) hl hi (fun v ev => ?_)⟩
    rw [nu_le64, nu_z64, ev]
    refine ⟨fun q v4 e4 => ?_, fun q => h0 (fun hall => q (by have := hall i hi; omega))⟩
    rw [e4, nI_1]
    refine ih () (fun b hb => ?_)
    by_cases e : b = i
    · rw [e]; omega
    · exact hx b (by omega)
/-- what the wanted and the field change -/
def cY (a b : lf_St) : Prop := (∀ k, lf_gi b k = lf_gi a k) ∧ (∀ k, k ≠ 1 → lf_gl b k = lf_gl a k) ∧ (∀ k, lf_ai b k = lf_ai a k) ∧ ∀ k, k ≠ 20 → k ≠ 21 → lf_al b k = lf_al a k
theorem cY_T {P : pn_T} {s : Nat} {a b : lf_St} (h : cY a b) (hT : cT P s a) : cT P s b := by
  obtain ⟨h1, h2, h3, h4⟩ := h
  unfold cT at hT ⊢
  rw [h1 34, h1 44, h1 54, h2 24 (by decide), h4 31 (by decide) (by decide)]
  exact hT
theorem cY_V {P : pn_T} {s : Nat} {a b : lf_St} (h : cY a b) (hV : cV P s a) : cV P s b := cI_V ⟨h.1 7, h.2.2.1 17, fun t => h.2.2.2 _ (by omega) (by omega)⟩ hV
theorem cY_K {P : pn_T} {a b : lf_St} (h : cY a b) (hK : pK P a) : pK P b := pK_of (fun i _ => h.1 i) (fun i _ => h.2.2.1 i) hK
theorem pwt_0 {P : pn_T} {s g i b : Nat} (hb : pn_bi s (pB P) i = b) (h : pbe P s i = 0) : pwt P s g i = if g.testBit (pn_us P s i) = true then - pst P b else pst P b := by
  unfold pwt
  rw [hb]
  by_cases q : g.testBit (pn_us P s i) = true
  · rw [if_pos (by rw [if_pos h]; exact q), if_pos q]
  · rw [if_neg (by rw [if_pos h]; exact q), if_neg q]
theorem pwt_1 {P : pn_T} {s g i b : Nat} (hb : pn_bi s (pB P) i = b) (h : pbe P s i ≠ 0) : pwt P s g i = if pbe P s i < 0 then - pst P b else pst P b := by
  unfold pwt
  rw [hb]
  by_cases q : pbe P s i < 0
  · rw [if_pos (by rw [if_neg h]; exact q), if_pos q]
  · rw [if_neg (by rw [if_neg h]; exact q), if_neg q]
theorem sc_wanted {P : pn_T} {σ : lf_St} (wf : pwf P) (hK : pK P σ) {s g : Nat} (hc : pch P s = true) (hT : cT P s σ) (hV : cV P s σ) (hg : g < 64) {Post : lf_St → Prop} (hP : ∀ w, (∀ i, i < pR P → (w i).toInt = pwt P s g i) → Post (lf_sB σ 21 w)) : wp_X3_setWanted (nI g) σ Post := by
  have hB := wf.2.1
  have h6 := pR_6 wf
  have hn := pch_nb hc
  unfold wp_X3_setWanted
  have z := pk_loop (fun fu i (w : Nat → Int64) => L_X3_setWanted_4 Post fu (nI (g / 2 ^ pn_us P s i)) (nI i) (lf_sB σ 21 w)) (fun i w => ∀ k, k < i → (w k).toInt = pwt P s g k) (pR P) 0 (lf_al σ 21) (by omega) (fun k h => absurd h (Nat.not_lt_zero k)) ?_ ?_
  · rw [st_sB_id, show g / 2 ^ pn_us P s 0 = g from Nat.div_one g] at z
    exact z
  · intro m w hw
    show L_X3_setWanted_4 Post (m + 1) _ _ _
    unfold L_X3_setWanted_4
    have g7 : lf_gi (lf_sB σ 21 w) 7 = nI (pR P) := hV.1
    rw [g7]
    exact ⟨fun _ => hP w hw, fun h => absurd (nI_le (Nat.le_refl _) (by omega)) h⟩
  · intro m i w hi hw ih
    show L_X3_setWanted_4 Post (m + 1) _ _ _
    unfold L_X3_setWanted_4
    obtain ⟨b, hb, hbit, hnb, hbk⟩ := bi_ex (show i < pn_nb s (pB P) by omega)
    have g7 : lf_gi (lf_sB σ 21 w) 7 = nI (pR P) := hV.1
    have g17 : lf_ai (lf_sB σ 21 w) 17 i = nI b := by rw [← hbk]; exact hV.2.1 i hi
    have g31 : (lf_al (lf_sB σ 21 w) (27 + 4) b).toInt = pbe P s i := by
      have : lf_al (lf_sB σ 21 w) (27 + 4) = lf_al σ 31 := rfl
      rw [this, hT.2.2.2.2 b hb, ← hbk, ppu_bi (by omega)]
    have g10 : lf_ai (lf_sB σ 21 w) 10 b = Int32.ofInt (pst P b) := (hK.2.2.2.2.2.2.1 b hb).2.2.2.2.1
    have g44 : lf_gi (lf_sB σ 21 w) (40 + 4) = nI (pub P s (pB P)) := hT.2.2.1
    have epp : ppu P s b = pbe P s i := by rw [← hbk]; exact ppu_bi (by omega)
    have hs := pst_le wf hb
    have vb : vp_in (nI b) 10 := vp_in_nI (by omega) (by omega)
    have vi : vp_in (nI i) 6 := vp_in_nI (by omega) (by omega)
    have hus := us_le P s i
    have hgl : g / 2 ^ pn_us P s i ≤ g := Nat.div_le_self _ _
    -- the last step
    have j90 : ∀ (x2 : Int32) (t0 : Int32), x2 = nI (g / 2 ^ pn_us P s (i + 1)) → (t0 = 0 → pwt P s g i = pst P b) → (t0 ≠ 0 → pwt P s g i = - pst P b) → J_X3_setWanted_90 (L_X3_setWanted_4 Post m) Post x2 (nI i) (nI b) t0 (lf_sB σ 21 w) := by
      intro x2 t0 ex e0 e1
      unfold J_X3_setWanted_90
      rw [nu_cl (by omega), nu_cl (by omega), g10, ex]
      have st : ∀ v : Int64, v.toInt = pwt P s g i → L_X3_setWanted_4 Post m (nI (g / 2 ^ pn_us P s (i + 1))) (nI (i + 1)) (lf_sB σ 21 (vp_updL w i v)) := by
        intro v ev
        refine ih _ (fun k hk => ?_)
        by_cases q : k = i
        · rw [q, pk_uLs]; exact ev
        · rw [pk_uLn q]; exact hw k (by omega)
      refine ⟨fun h => ⟨vb, vi, fun v4 e4 => ?_⟩, fun h => ⟨vb, vi, fun v4 e4 => ?_⟩⟩
      · rw [e4, nI_1, st_sb_sB]
        exact st _ (by rw [e0 h]; exact nu_n64 (nu_ofN (by omega)))
      · rw [e4, nI_1, st_sb_sB]
        exact st _ (by rw [e1 h]; exact nu_n64 (nu_neg32 (nu_ofN (z := pst P b) (by omega)) (by omega)))
    have j55 : ∀ t0 : Int32, (pbe P s i ≠ 0 → ((t0 = 0 → ¬ pbe P s i < 0) ∧ (t0 ≠ 0 → pbe P s i < 0))) → J_X3_setWanted_55 (L_X3_setWanted_4 Post m) Post (nI (g / 2 ^ pn_us P s i)) (nI i) (nI b) t0 (lf_sB σ 21 w) := by
      intro t0 ht0
      unfold J_X3_setWanted_55
      refine sc_uses (k := 4) wf hb g44 (fun hz => ⟨fun h => absurd rfl h, fun _ => ?_⟩) (fun hz => ⟨fun _ => ?_, fun h => absurd h (by decide)⟩)
      · rw [epp] at hz
        have eus : pn_us P s (i + 1) = pn_us P s i + 1 := by
          show pn_us P s i + (if pbe P s i = 0 then 1 else 0) = _
          rw [if_pos hz]
        have esh : nI (g / 2 ^ pn_us P s i) >>> (1 &&& 31) = nI (g / 2 ^ pn_us P s (i + 1)) := by
          have := bt_shr (m := g / 2 ^ pn_us P s i) (i := 1) (by omega) (by decide)
          rw [Nat.div_div_eq_div_mul, ← Nat.pow_add, ← eus] at this
          exact this
        have ebit : nI (g / 2 ^ pn_us P s i) &&& 1 = 1 ↔ g.testBit (pn_us P s i) = true := by
          rw [bt_and1 _ (by omega), Nat.testBit_eq_decide_div_mod_eq, decide_eq_true_iff]
          exact nI_eq (b := 1) (by omega) (by decide)
        rw [ebit]
        unfold J_X3_setWanted_84
        refine ⟨fun q v1 e1 => j90 v1 0 (by rw [e1]; exact esh) (fun _ => ?_) (fun h => absurd rfl h), fun q v1 e1 => j90 v1 1 (by rw [e1]; exact esh) (fun h => absurd h (by decide)) (fun _ => ?_)⟩
        · rw [pwt_0 hbk hz, if_neg q]
        · rw [pwt_0 hbk hz, if_pos q]
      · rw [epp] at hz
        have eus : pn_us P s (i + 1) = pn_us P s i := by
          show pn_us P s i + (if pbe P s i = 0 then 1 else 0) = _
          rw [if_neg hz]
          rfl
        refine j90 _ t0 (by rw [eus]) (fun h => ?_) (fun h => ?_)
        · rw [pwt_1 hbk hz, if_neg ((ht0 hz).1 h)]
        · rw [pwt_1 hbk hz, if_pos ((ht0 hz).2 h)]
    rw [g7, nu_cl (n := i) (by omega), g17]
    refine ⟨fun h => absurd h (nI_ge hi (by omega)), fun _ => ⟨vi, fun v3 e3 => ?_⟩⟩
    rw [e3, nu_cl (by omega), nu_le64, nu_z64, g31]
    refine ⟨vb, fun q => j55 0 (fun _ => ⟨fun _ => by omega, fun h => absurd rfl h⟩), fun q => j55 1 (fun _ => ⟨fun h => absurd h (by decide), fun _ => by omega⟩)⟩
theorem sc_field {P : pn_T} {σ : lf_St} (wf : pwf P) {s g : Nat} (hc : pch P s = true) (hT : cT P s σ) (hV : cV P s σ) (hw : ∀ i, i < pR P → (lf_al σ 21 i).toInt = pwt P s g i) {Post : lf_St → Prop} (hP : ∀ f F, pfd P s g f → (∀ r, r < pR P → (F r).toInt = f r) → Post (lf_sB (lf_sl σ 1 (lf_gl σ 24)) 20 F)) : wp_X3_setField σ Post := by
  have h6 := pR_6 wf
  have hn := pch_nb hc
  unfold wp_X3_setField
  have hA : ∀ F t, lf_al (lf_sB (lf_sl σ 1 (lf_gl σ (20 + 4))) 20 F) (32 + t) = lf_al σ (32 + t) := fun F t => st_al_sB_ne (by omega)
  have hW : ∀ F, lf_al (lf_sB (lf_sl σ 1 (lf_gl σ (20 + 4))) 20 F) 21 = lf_al σ 21 := fun F => rfl
  have h7 : ∀ F, lf_gi (lf_sB (lf_sl σ 1 (lf_gl σ (20 + 4))) 20 F) 7 = nI (pR P) := fun F => hV.1
  have hbd : ∀ r k, r < pR P → k ≤ pR P → (dt_sm (fun t => (lf_al σ (32 + t) (pR P + r)).toInt * pwt P s g t) k).natAbs ≤ k * 13759414272 := fun r k hr hk => Nat.le_trans (dt_sm_abs (g := fun _ => 13759414272) (fun j hj => nu_natAbs_mul (S := 191102976) (T := 72) (hV.2.2.2 j r (by omega) hr) (pwt_abs wf hn g (by omega)))) (sn_const (fun _ _ => Nat.le_refl _))
  have z := pk_loop (fun fu r (F : Nat → Int64) => L_X3_setField_16 Post fu (nI r) (lf_sB (lf_sl σ 1 (lf_gl σ (20 + 4))) 20 F)) (fun r F => ∀ k, k < r → (F k).toInt = - dt_sm (fun t => (lf_al σ (32 + t) (pR P + k)).toInt * pwt P s g t) (pR P)) (pR P) 0 (lf_al (lf_sl σ 1 (lf_gl σ (20 + 4))) 20) (by omega) (fun k h => absurd h (Nat.not_lt_zero k)) ?_ ?_
  · rw [nI_0, st_sB_id] at z
    exact z
  · intro m F hF
    show L_X3_setField_16 Post (m + 1) _ _
    unfold L_X3_setField_16
    rw [h7]
    exact ⟨fun _ => hP _ F (cV_field hc hV (fun r hr => rfl)) (fun r hr => hF r hr), fun h => absurd (nI_le (Nat.le_refl _) (by omega)) h⟩
  · intro m r F hr hF ih
    show L_X3_setField_16 Post (m + 1) _ _
    unfold L_X3_setField_16
    rw [h7]
    refine ⟨fun h => absurd h (nI_ge hr (by omega)), fun _ => ?_⟩
    have y := pk_loop (σ := Int64) (fun fu t x => L_X3_setField_35 (L_X3_setField_16 Post m) Post fu (nI r) x (nI t) (lf_sB (lf_sl σ 1 (lf_gl σ (20 + 4))) 20 F)) (fun t x => x.toInt = - dt_sm (fun t => (lf_al σ (32 + t) (pR P + r)).toInt * pwt P s g t) t) (pR P) 0 0 (by omega) rfl ?_ ?_
    · rw [nI_0] at y
      exact y
    · intro m2 x hx
      show L_X3_setField_35 _ Post (m2 + 1) _ _ _ _
      unfold L_X3_setField_35
      rw [h7, nu_cl (by omega)]
      refine ⟨fun _ => ⟨vp_in_nI (by omega) (by omega), fun v3 e3 => ?_⟩, fun h => absurd (nI_le (Nat.le_refl _) (by omega)) h⟩
      rw [e3, nI_1, st_sb_sB]
      refine ih _ (fun k hk => ?_)
      by_cases q : k = r
      · rw [q, pk_uLs]; exact hx
      · rw [pk_uLn q]; exact hF k (by omega)
    · intro m2 t x ht hx ih2
      show L_X3_setField_35 _ Post (m2 + 1) _ _ _ _
      unfold L_X3_setField_35 wp_X1_at
      rw [h7, nI_add, nu_cl (n := r) (by omega), nu_cl (n := t) (by omega), nu_cl (n := pR P + r) (by omega), hA]
      dsimp only
      rw [hW]
      refine ⟨fun h => absurd h (nI_ge ht (by omega)), fun _ => ⟨vp_in_nI (by omega) (by omega), vp_in_nI (by omega) (by omega), vp_in_nI (by omega) (by omega), fun v6 e6 v7 e7 => ?_⟩⟩
      rw [e7, nI_1]
      refine ih2 v6 ?_
      have t20 : (lf_al σ (32 + t) (pR P + r)).toInt.natAbs ≤ 191102976 := hV.2.2.2 t r ht hr
      have w20 := pwt_abs wf hn g ht
      have b1 := hbd r t hr (by omega)
      have hm := nu_mul64 (S := 191102976) (T := 72) (rfl : (lf_al σ (32 + t) (pR P + r)).toInt = _) (hw t ht) t20 w20 (by decide)
      have hmb : ((lf_al σ (32 + t) (pR P + r)).toInt * pwt P s g t).natAbs ≤ 13759414272 := nu_natAbs_mul (S := 191102976) (T := 72) t20 w20
      rw [e6, nu_sub64 (S := 82556485632) (T := 13759414272) hx hm (by omega) hmb (by decide)]
      show _ = - (dt_sm (fun t => (lf_al σ (32 + t) (pR P + r)).toInt * pwt P s g t) t + (lf_al σ (32 + t) (pR P + r)).toInt * pwt P s g t)
      omega
/-- what the look for a proof changes -/
def cZ (a b : lf_St) : Prop := (∀ k, k ≠ 7 → k ≠ 8 → k ≠ 9 → k ≠ 34 → k ≠ 44 → k ≠ 54 → lf_gi b k = lf_gi a k) ∧ (∀ k, k ≠ 0 → k ≠ 1 → k ≠ 24 → lf_gl b k = lf_gl a k) ∧ (∀ k, k ≠ 17 → lf_ai b k = lf_ai a k) ∧ ∀ k, k < 31 → k ≠ 20 → k ≠ 21 → lf_al b k = lf_al a k
theorem cZ_refl (a : lf_St) : cZ a a := ⟨fun _ _ _ _ _ _ _ => rfl, fun _ _ _ _ => rfl, fun _ _ => rfl, fun _ _ _ _ => rfl⟩
theorem cZ_trans {a b c : lf_St} (h : cZ a b) (h' : cZ b c) : cZ a c := ⟨fun k p q r s t u => (h'.1 k p q r s t u).trans (h.1 k p q r s t u), fun k p q r => (h'.2.1 k p q r).trans (h.2.1 k p q r), fun k p => (h'.2.2.1 k p).trans (h.2.2.1 k p), fun k p q r => (h'.2.2.2 k p q r).trans (h.2.2.2 k p q r)⟩
theorem cZ_Q {a b : lf_St} (h : cQ a b) : cZ a b := ⟨fun k p _ _ s t u => h.1 k p s t u, fun k p _ r => h.2.1 k p r, h.2.2.1, fun k p _ _ => h.2.2.2 k p⟩
theorem cZ_Y {a b : lf_St} (h : cY a b) : cZ a b := ⟨fun k _ _ _ _ _ _ => h.1 k, fun k _ q _ => h.2.1 k q, fun k _ => h.2.2.1 k, fun k _ q r => h.2.2.2 k q r⟩
theorem cZ_si {a b : lf_St} {k : Nat} {v : Int32} (h : cZ a b) (hk : k = 8 ∨ k = 9) : cZ a (lf_si b k v) := ⟨fun i p q r s t u => by rw [st_gi_si_ne (by omega)]; exact h.1 i p q r s t u, h.2.1, h.2.2.1, h.2.2.2⟩
theorem cZ_K {P : pn_T} {a b : lf_St} (h : cZ a b) (hK : pK P a) : pK P b := pK_of (fun i _ => h.1 i (by omega) (by omega) (by omega) (by omega) (by omega) (by omega)) (fun i _ => h.2.2.1 i (by omega)) hK
theorem cZ_Fr {P : pn_T} {a b : lf_St} {k : Nat} (hk : k < 4) (h : cZ a b) (hF : pFr P a k) : pFr P b k := by
  unfold pFr at hF ⊢
  rw [h.1 (20 + k) (by omega) (by omega) (by omega) (by omega) (by omega) (by omega), h.1 (30 + k) (by omega) (by omega) (by omega) (by omega) (by omega) (by omega), h.1 (40 + k) (by omega) (by omega) (by omega) (by omega) (by omega) (by omega), h.1 (50 + k) (by omega) (by omega) (by omega) (by omega) (by omega) (by omega), h.2.1 (10 + k) (by omega) (by omega) (by omega), h.2.1 (20 + k) (by omega) (by omega) (by omega), h.2.2.2 (27 + k) (by omega) (by omega) (by omega)]
  exact hF
theorem cZ_Kn {P : pn_T} {a b : lf_St} (h : cZ a b) (hK : pKn P a) : pKn P b := by
  refine ⟨?_, ?_, fun k hk => cZ_Fr hk h (hK.2.2 k hk)⟩
  · rw [h.1 5 (by decide) (by decide) (by decide) (by decide) (by decide) (by decide)]; exact hK.1
  · rw [h.2.2.1 14 (by decide)]; exact hK.2.1
/-- a field stands in the class -/
def cFd (P : pn_T) (s g : Nat) (σ : lf_St) : Prop := (lf_gl σ 1).toInt = pbel P s ∧ ∃ f, pfd P s g f ∧ ∀ r, r < pR P → (lf_al σ 20 r).toInt = f r
theorem sc_trial {P : pn_T} {σ : lf_St} (wf : pwf P) (hK : pK P σ) {s : Nat} (hc : pch P s = true) (hT : cT P s σ) (hV : cV P s σ) (h8 : lf_gi σ 8 = 0) {Post : lf_St → Prop} (h0 : (∀ g, g < 2 ^ pn_us P s (pR P) → ¬ pgood P s g) → ∀ σ', cZ σ σ' → lf_gi σ' 8 = 0 → Post σ') (h1 : ∀ g, g < 2 ^ pn_us P s (pR P) → pgood P s g → (∀ g', g' < g → ¬ pgood P s g') → ∀ σ', cZ σ σ' → lf_gi σ' 8 = 1 → lf_gi σ' 9 = nI s → cFd P s g σ' → Post σ') : wp_X3_lookAtTrial σ Post := by
  have h6 := pR_6 wf
  have hn := pch_nb hc
  have hB := wf.2.1
  have husl := us_le P s (pR P)
  have hcnt := us_cnt wf hn
  have h64 : 2 ^ pn_us P s (pR P) ≤ 64 := (Nat.pow_le_pow_right (by decide) (by omega) : 2 ^ pn_us P s (pR P) ≤ 2 ^ 6)
  have hp0 := Nat.two_pow_pos (pn_us P s (pR P))
  have hub : pub P s (pB P) < 2 ^ 10 := by
    rw [pub_bs]
    exact Nat.lt_of_lt_of_le (bs_lt _ _) (Nat.pow_le_pow_right (by decide) hB)
  have e44 : lf_gi σ (40 + 4) = nI (pub P s (pB P)) := hT.2.2.1
  unfold wp_X3_lookAtTrial
  rw [e44]
  refine sc_bits hub (fun v2 e2 => ?_)
  have ev : v2 = nI (pn_us P s (pR P)) := by
    have e3 : nI (pR P) = nI (pn_us P s (pR P)) + nI (pn_nb (pub P s (pB P)) 10) := by rw [nI_add]; congr 1; omega
    rw [e2, hV.1, e3, Int32.add_sub_cancel]
  rw [ev]
  have z := pk_loop (fun fu g (t : lf_St) => L_X3_lookAtTrial_27 Post fu (nI (pn_us P s (pR P))) (nI g) t) (fun g t => cZ σ t ∧ cT P s t ∧ cV P s t ∧ ((lf_gi t 8 = 0 ∧ ∀ g', g' < g → ¬ pgood P s g') ∨ (lf_gi t 8 = 1 ∧ ∃ g0, g0 < 2 ^ pn_us P s (pR P) ∧ pgood P s g0 ∧ (∀ g', g' < g0 → ¬ pgood P s g') ∧ cFd P s g0 t))) (2 ^ pn_us P s (pR P)) 0 σ (by omega) ⟨cZ_refl σ, hT, hV, Or.inl ⟨h8, fun g' h => absurd h (Nat.not_lt_zero g')⟩⟩ ?_ ?_
  · rw [nI_0] at z
    exact z
  · intro m t ⟨a1, a2, a3, a4⟩
    show L_X3_lookAtTrial_27 Post (m + 1) _ _ _
    unfold L_X3_lookAtTrial_27 J_X3_lookAtTrial_64
    rw [bt_shl (by omega)]
    refine ⟨fun _ => ?_, fun h => absurd (nI_le (Nat.le_refl _) (by omega)) h⟩
    rcases a4 with ⟨b1, b2⟩ | ⟨b1, g0, b2, b3, b4, b5⟩
    · exact h0 b2 _ (cZ_si a1 (Or.inr rfl)) b1
    · exact h1 g0 b2 b3 b4 _ (cZ_si a1 (Or.inr rfl)) b1 (by rw [st_gi_si]; exact a2.1) b5
  · intro m g t hg ⟨a1, a2, a3, a4⟩ ih
    show L_X3_lookAtTrial_27 Post (m + 1) _ _ _
    unfold L_X3_lookAtTrial_27 J_X3_lookAtTrial_64
    rw [bt_shl (by omega)]
    refine ⟨fun h => absurd h (nI_ge hg (by omega)), fun _ => ?_⟩
    rcases a4 with ⟨b1, b2⟩ | ⟨b1, g0, b2, b3, b4, b5⟩
    · refine ⟨fun h => absurd b1 h, fun _ => ?_⟩
      have hK1 := cZ_K a1 hK
      refine sc_wanted wf hK1 hc a2 a3 (by omega) (fun w hw => ?_)
      have y1 : cY t (lf_sB t 21 w) := ⟨fun _ => rfl, fun _ _ => rfl, fun _ => rfl, fun k _ q => st_al_sB_ne q⟩
      refine sc_field (g := g) wf hc (cY_T y1 a2) (cY_V y1 a3) (by rw [st_al_sB]; exact hw) (fun f F hfd hF => ?_)
      have y2 : cY t (lf_sB (lf_sl (lf_sB t 21 w) 1 (lf_gl (lf_sB t 21 w) 24)) 20 F) := ⟨fun _ => rfl, fun k q => st_gl_sl_ne q, fun _ => rfl, fun k q r => by rw [st_al_sB_ne q]; exact st_al_sB_ne r⟩
      have y8 : ∀ v, lf_gi (lf_si (lf_sB (lf_sl (lf_sB t 21 w) 1 (lf_gl (lf_sB t 21 w) 24)) 20 F) 8 v) 8 = v := fun v => st_gi_si _ _ _
      have hfd2 : cFd P s g (lf_sB (lf_sl (lf_sB t 21 w) 1 (lf_gl (lf_sB t 21 w) 24)) 20 F) := ⟨a2.2.1, f, hfd, by rw [st_al_sB]; exact hF⟩
      generalize lf_sB (lf_sl (lf_sB t 21 w) 1 (lf_gl (lf_sB t 21 w) 24)) 20 F = t2 at y2 y8 hfd2
      obtain ⟨q1, f2, q2, q3⟩ := hfd2
      have T2 := cY_T y2 a2
      have V2 := cY_V y2 a3
      have nx : ∀ v : Int32, cT P s (lf_si t2 8 v) ∧ cV P s (lf_si t2 8 v) := fun v => ⟨T2, cI_V (a := t2) ⟨rfl, rfl, fun _ => rfl⟩ V2⟩
      refine sc_noBar wf (cY_K y2 hK1) hc q2 q3 q1 (fun hno => ⟨rfl, fun v7 e7 => ?_⟩) (fun hyes => ⟨rfl, fun v7 e7 => ?_⟩)
      · rw [e7, nI_1]
        refine ih _ ⟨cZ_si (cZ_trans a1 (cZ_Y y2)) (Or.inl rfl), (nx 0).1, (nx 0).2, Or.inl ⟨y8 0, fun g' hg' => ?_⟩⟩
        by_cases e : g' = g
        · rw [e]; exact hno
        · exact b2 g' (by omega)
      · rw [e7, nI_1]
        exact ih _ ⟨cZ_si (cZ_trans a1 (cZ_Y y2)) (Or.inl rfl), (nx 1).1, (nx 1).2, Or.inr ⟨y8 1, g, hg, hyes, b2, q1, f2, q2, q3⟩⟩
    · refine ⟨fun _ => ?_, fun h => absurd h (by rw [b1]; decide)⟩
      exact h1 g0 b2 b3 b4 _ (cZ_si a1 (Or.inr rfl)) b1 (by rw [st_gi_si]; exact a2.1) b5
theorem pmin_iff {P : pn_T} {s s0 : Nat} {c0 : Int} (hb : pbest P 0 s0 c0) : pmin P s ↔ pc0 P s * pbel P s0 = c0 * pbel P s := by
  constructor
  · intro ⟨s1, c1, h1, h2⟩
    obtain ⟨e1, e2⟩ := pb_uniq hb h1
    rw [e1, e2]
    exact h2
  · intro h
    exact ⟨s0, c0, hb, h⟩
theorem sc_proof {P : pn_T} {σ : lf_St} (wf : pwf P) (hK : pK P σ) (hKn : pKn P σ) (h8 : lf_gi σ 8 = 0) (h20 : lf_gi σ 20 ≠ 0) {Post : lf_St → Prop} (h0 : (∀ p g, ¬ pfirst P p g) → ∀ σ', cZ σ σ' → lf_gi σ' 8 = 0 → Post σ') (h1 : ∀ p g, pfirst P p g → ∀ σ', cZ σ σ' → lf_gi σ' 8 = 1 → lf_gi σ' 9 = nI ((pchs P).getD p 0) → cFd P ((pchs P).getD p 0) g σ' → Post σ') : wp_X3_look 0 σ Post := by
  have hlen := pchs_len wf
  obtain ⟨s0, c0, hb, e10, e20⟩ : ∃ s c, pbest P 0 s c ∧ (lf_gl σ 10).toInt = c ∧ (lf_gl σ 20).toInt = pbel P s := by
    rcases hKn.2.2 0 (by decide) with ⟨f1, -⟩ | ⟨f1, s, c, f2, f3, f4, f5, f6, f7, f8⟩
    · exact absurd f1 h20
    · exact ⟨s, c, f2, f6, f7⟩
  have n0 := pch_nb hb.2.1
  have l0 := pbel_le wf n0
  have p0 := pbel_pos hb.2.1
  have c0l := pcost_le wf n0 hb.2.2.1
  unfold wp_X3_look
  have z := pk_loop (fun fu p (t : lf_St) => L_X3_look_2 0 Post fu (nI p) t) (fun p t => cZ σ t ∧ ((lf_gi t 8 = 0 ∧ ∀ p', p' < p → pmin P ((pchs P).getD p' 0) → ∀ g', g' < 2 ^ pn_us P ((pchs P).getD p' 0) (pR P) → ¬ pgood P ((pchs P).getD p' 0) g') ∨ (lf_gi t 8 = 1 ∧ ∃ p0 g, pfirst P p0 g ∧ lf_gi t 9 = nI ((pchs P).getD p0 0) ∧ cFd P ((pchs P).getD p0 0) g t))) (pchs P).length 0 σ (by omega) ⟨cZ_refl σ, Or.inl ⟨h8, fun p' h => absurd h (Nat.not_lt_zero p')⟩⟩ ?_ ?_
  · rw [nI_0] at z
    exact z
  · intro m t ⟨a1, a2⟩
    show L_X3_look_2 0 Post (m + 1) _ _
    unfold L_X3_look_2
    rw [(cZ_Kn a1 hKn).1]
    refine ⟨fun _ => ?_, fun h => absurd (nI_le (Nat.le_refl _) (by omega)) h⟩
    rcases a2 with ⟨b1, b2⟩ | ⟨b1, p1, g, b2, b3, b4⟩
    · refine h0 (fun p g hf => ?_) t a1 b1
      exact b2 p hf.1 hf.2.1 g hf.2.2.1 hf.2.2.2.1
    · exact h1 p1 g b2 t a1 b1 b3 b4
  · intro m p t hp ⟨a1, a2⟩ ih
    show L_X3_look_2 0 Post (m + 1) _ _
    unfold L_X3_look_2
    have kn := cZ_Kn a1 hKn
    have hK1 := cZ_K a1 hK
    rw [kn.1, nu_cl (by omega), kn.2.1 p hp]
    refine ⟨fun h => absurd h (nI_ge hp (by omega)), fun _ => ?_⟩
    rcases a2 with ⟨b1, b2⟩ | ⟨b1, p1, g, b2, b3, b4⟩
    · refine ⟨fun h => absurd b1 h, fun _ => ⟨vp_in_nI (by omega) (by omega), ?_⟩⟩
      have hm := pchs_mem.mp (pchs_at hp)
      have hpf : ∀ g, g < 2 ^ pn_us P ((pchs P).getD p 0) (pR P) → pmin P ((pchs P).getD p 0) → pgood P ((pchs P).getD p 0) g → (∀ g', g' < g → ¬ pgood P ((pchs P).getD p 0) g') → pfirst P p g := fun g c1 c2 c3 c4 => ⟨hp, c2, c1, c3, c4, b2⟩
      have nx : ∀ t', cZ σ t' → lf_gi t' 8 = 0 → (pmin P ((pchs P).getD p 0) → ∀ g', g' < 2 ^ pn_us P ((pchs P).getD p 0) (pR P) → ¬ pgood P ((pchs P).getD p 0) g') → ∀ v : Int32, v = nI p + 1 → L_X3_look_2 0 Post m v t' := by
        intro t' c1 c2 c3 v ev
        rw [ev, nI_1]
        refine ih t' ⟨c1, Or.inl ⟨c2, fun p' hp' => ?_⟩⟩
        by_cases e : p' = p
        · rw [e]; exact c3
        · exact b2 p' (by omega)
      have fin : ∀ t', cZ σ t' → lf_gi t' 8 = 1 → (∃ p0 g, pfirst P p0 g ∧ lf_gi t' 9 = nI ((pchs P).getD p0 0) ∧ cFd P ((pchs P).getD p0 0) g t') → ∀ v : Int32, v = nI p + 1 → L_X3_look_2 0 Post m v t' := by
        intro t' c1 c2 c3 v ev
        rw [ev, nI_1]
        exact ih t' ⟨c1, Or.inr ⟨c2, c3⟩⟩
      obtain ⟨s, es⟩ : ∃ s, (pchs P).getD p 0 = s := ⟨_, rfl⟩
      rw [es] at hm hpf nx ⊢
      have hn := pch_nb hm.2
      have hl := pbel_le wf hn
      have hpos := pbel_pos hm.2
      have c0b := pc0_le wf hn
      refine sc_tryBars wf hK1 hm.1 hn (fun h => by rw [hm.2] at h; cases h) (fun _ t1 q hT hV => ⟨fun h => absurd h (by decide), fun _ => ?_⟩)
      have z1 := cZ_trans a1 (cZ_Q q)
      have b8 : lf_gi t1 8 = 0 := (q.1 8 (by decide) (by decide) (by decide) (by decide)).trans b1
      have hK2 := cZ_K z1 hK
      unfold wp_X3_costsAsMuchAs
      refine sc_lightest wf hK2 hn hT (fun v ev => ?_)
      have g20 : lf_gl t1 (20 + 0) = lf_gl σ 20 := z1.2.1 20 (by decide) (by decide) (by decide)
      have g10 : lf_gl t1 (10 + 0) = lf_gl σ 10 := z1.2.1 10 (by decide) (by decide) (by decide)
      have g24 : (lf_gl t1 (20 + 4)).toInt = pbel P s := hT.2.1
      have m1 := nu_mul64 (S := 706000000000) (T := 2985984) ev e20 (by omega) (by omega) (by decide)
      have m2 := nu_mul64 (S := 706000000000) (T := 2985984) e10 g24 (by omega) (by omega) (by decide)
      rw [g20, g10, nu_eq64, m1, m2, ← pmin_iff hb]
      refine ⟨fun hne => ⟨fun _ => nx t1 z1 b8 (fun h => absurd h hne), fun h => absurd rfl h⟩, fun he => ⟨fun h => absurd h (by decide), fun _ => ?_⟩⟩
      refine sc_trial wf hK2 hm.2 hT hV b8 (fun hno t2 d1 d2 => nx t2 (cZ_trans z1 d1) d2 (fun _ => hno)) (fun g k1 k2 k3 t2 d1 d2 d3 d4 => fin t2 (cZ_trans z1 d1) d2 ?_)
      exact ⟨p, g, hpf g k1 he k2 k3, by rw [es]; exact d3, by rw [es]; exact d4⟩
    · refine ⟨fun _ => h1 p1 g b2 t a1 b1 b3 b4, fun h => absurd h (by rw [b1]; decide)⟩
