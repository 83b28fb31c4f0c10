/-! THE MODEL TRIES A FIELD -/
theorem ab_sum {a b : Int} {S T : Nat} (h1 : a.natAbs ≤ S) (h2 : b.natAbs ≤ T) : (a + b).natAbs ≤ S + T := by omega
theorem ab_neg {a : Int} {S : Nat} (h : a.natAbs ≤ S) : (-a).natAbs ≤ S := by omega
theorem sp_number {P : pn_T} {τ : lf_St} (wf : pwf P) (hM : pM P τ) (hRo : mRo P τ) {f : Nat → Int} (hf : ∀ r, r < pR P → (lf_al τ 24 r).toInt = f r) (hfl : ∀ r, r < pR P → (f r).natAbs ≤ 26121388032) {b : Nat} (hb : b < pB P) {Post : Int64 → lf_St → Prop} (hP : ∀ v, v.toInt = pnum P f b → Post v τ) : wp_X6_numberOf (nI b) τ Post := by
  have hJ := wf.1
  have hB := wf.2.1
  have h6 := pR_6 wf
  obtain ⟨f1, f2, f3⟩ := wf.2.2.2.2.2.2.2.1 b hb
  obtain ⟨k7, k8⟩ := hM.2.2.2.2.2.1 b hb
  obtain ⟨d1, d2⟩ := pdx_6 wf hb
  have vb : vp_in (nI b) 10 := vp_in_nI (by omega) (by omega)
  have va : vp_in (nI (pF P b)) 6 := vp_in_nI (by omega) (by omega)
  have vc : vp_in (nI (pT P b)) 6 := vp_in_nI (by omega) (by omega)
  have q1 := wf.2.2.2.2.2.1 _ f1
  have q2 := wf.2.2.2.2.2.1 _ f2
  have x1 := (hM.2.2.2.2.1 _ f1).1
  have x2 := (hM.2.2.2.2.1 _ f2).1
  have y1 := (hM.2.2.2.2.1 _ f1).2.1
  have y2 := (hM.2.2.2.2.1 _ f2).2.1
  have dx1 : ((nI (pX P (pT P b)) - nI (pX P (pF P b))) : Int32).toInt64.toInt = pdx P b := nu_n64 (nu_diff (by omega) (by omega))
  have dy1 : ((nI (pY P (pT P b)) - nI (pY P (pF P b))) : Int32).toInt64.toInt = pdy P b := nu_n64 (nu_diff (by omega) (by omega))
  have dx2 : ((nI (pX P (pF P b)) - nI (pX P (pT P b))) : Int32).toInt64.toInt = - pdx P b := by
    rw [nu_n64 (nu_diff (by omega) (by omega))]
    unfold pdx
    omega
  have dy2 : ((nI (pY P (pF P b)) - nI (pY P (pT P b))) : Int32).toInt64.toInt = - pdy P b := by
    rw [nu_n64 (nu_diff (by omega) (by omega))]
    unfold pdy
    omega
  have a1 := pfv_le wf hfl f1 (w := 0) (by decide)
  have a2 := pfv_le wf hfl f2 (w := 0) (by decide)
  have a3 := pfv_le wf hfl f1 (w := 1) (by decide)
  have a4 := pfv_le wf hfl f2 (w := 1) (by decide)
  have m1 := nu_natAbs_mul (ab_neg d1) a1
  have m2 := nu_natAbs_mul (ab_neg d2) a3
  have m3 := nu_natAbs_mul d1 a2
  have m4 := nu_natAbs_mul d2 a4
  have tot : (- pdx P b * pfv P f (pF P b) 0 + - pdy P b * pfv P f (pF P b) 1) + (pdx P b * pfv P f (pT P b) 0 + pdy P b * pfv P f (pT P b) 1) = pnum P f b := by
    rw [pnum_eval wf f hb]
    grind
  -- one end
  have one : ∀ {j : Nat} {u v : Int64} {U V : Int}, j < pJ P → pE P j = false → u.toInt = U → v.toInt = V → U.natAbs ≤ 6 → V.natAbs ≤ 6 → (u * lf_al τ 24 (pW P j) + v * lf_al τ 24 (pW P j + 1)).toInt = U * pfv P f j 0 + V * pfv P f j 1 := by
    intro j u v U V hj e eu ev hU hV
    have hW := pW_lt wf hj e
    have e0 : pfv P f j 0 = f (pW P j) := by unfold pfv; rw [e]; rfl
    have e1 : pfv P f j 1 = f (pW P j + 1) := by unfold pfv; rw [e]; rfl
    have l0 := hfl (pW P j) (by omega)
    have l1 := hfl (pW P j + 1) (by omega)
    rw [e0, e1]
    have n1 := nu_natAbs_mul hU l0
    have n2 := nu_natAbs_mul hV l1
    exact nu_add64 (S := 156728328192) (T := 156728328192) (nu_mul64 (S := 6) (T := 26121388032) eu (hf _ (by omega)) hU l0 (by decide)) (nu_mul64 (S := 6) (T := 26121388032) ev (hf _ (by omega)) hV l1 (by decide)) n1 n2 (by decide)
  have off : ∀ {j : Nat} (U V : Int), pE P j = true → U * pfv P f j 0 + V * pfv P f j 1 = 0 := by
    intro j U V e
    unfold pfv
    rw [e, if_pos rfl, if_pos rfl]
    omega
  have j92 : ∀ x : Int64, x.toInt = - pdx P b * pfv P f (pF P b) 0 + - pdy P b * pfv P f (pF P b) 1 → J_X6_numberOf_92 Post x (nI (pF P b)) (nI (pT P b)) τ := by
    intro x ex
    unfold J_X6_numberOf_92
    rw [nu_cl (n := pT P b) (by omega), nu_cl (n := pF P b) (by omega), hRo _ f2]
    refine ⟨vc, ?_⟩
    cases e : pE P (pT P b)
    · have hW := pW_lt wf f2 e
      rw [if_neg (by decide), nI_1, nu_cl (n := pW P (pT P b)) (by omega), nu_cl (n := pW P (pT P b) + 1) (by omega), x1, x2, y1, y2]
      refine ⟨fun h => absurd h (nI_pos (by omega)), fun _ => ⟨vc, va, vc, vp_in_nI (by omega) (by omega), vc, va, vc, vp_in_nI (by omega) (by omega), fun v11 e11 => hP v11 ?_⟩⟩
      rw [e11, ← tot]
      exact nu_add64 (S := 313456656384) (T := 313456656384) ex (one f2 e dx1 dy1 d1 d2) (ab_sum m1 m2) (ab_sum m3 m4) (by decide)
    · rw [if_pos rfl]
      refine ⟨fun _ => hP x ?_, fun h => absurd nu_neg6 h⟩
      rw [ex, ← tot, off (pdx P b) (pdy P b) e]
      omega
  unfold wp_X6_numberOf
  rw [nu_cl (n := b) (by omega), k7, k8]
  refine ⟨vb, fun v2 e2 => ⟨vb, fun v4 e4 => ?_⟩⟩
  rw [e2, e4, nu_cl (n := pF P b) (by omega), nu_cl (n := pT P b) (by omega), hRo _ f1]
  refine ⟨va, ?_⟩
  cases e : pE P (pF P b)
  · have hW := pW_lt wf f1 e
    rw [if_neg (by decide), nI_1, nu_cl (n := pW P (pF P b)) (by omega), nu_cl (n := pW P (pF P b) + 1) (by omega), x1, x2, y1, y2]
    refine ⟨fun h => absurd h (nI_pos (by omega)), fun _ => ⟨va, vc, va, vp_in_nI (by omega) (by omega), va, vc, va, vp_in_nI (by omega) (by omega), fun v15 e15 => j92 v15 ?_⟩⟩
    rw [e15, Int64.zero_add]
    exact one f1 e dx2 dy2 (ab_neg d1) (ab_neg d2)
  · rw [if_pos rfl]
    refine ⟨fun _ => j92 0 ?_, fun h => absurd nu_neg6 h⟩
    rw [off _ _ e]
    rfl
/-- rows of the field's cells -/
def mRw (P : pn_T) (s k : Nat) (f : Nat → Int64) : Prop := ∀ i c, i < 6 → c < 6 → (f (6 * i + c)).toInt = if i < k then - pcol P (pn_bi s (pB P) i) c else 0
theorem mRw_up {P : pn_T} {s k : Nat} {f g : Nat → Int64} (h : mRw P s k f) (h1 : ∀ i c, i < 6 → c < 6 → i ≠ k → g (6 * i + c) = f (6 * i + c)) (h2 : ∀ c, c < 6 → (g (6 * k + c)).toInt = - pcol P (pn_bi s (pB P) k) c) : mRw P s (k + 1) g := by
  intro i c hi hc
  by_cases e : i = k
  · rw [e, if_pos (by omega)]
    exact h2 c hc
  · rw [h1 i c hi hc e, h i c hi hc]
    by_cases q : i < k
    · rw [if_pos q, if_pos (by omega)]
    · rw [if_neg q, if_neg (by omega)]
theorem sp_row {P : pn_T} {κ : mk_T} {τ : lf_St} (wf : pwf P) (hR : mR P κ τ) {s k b : Nat} (hk : k < 6) (hb : b < pB P) (hbk : pn_bi s (pB P) k = b) {f : Nat → Int64} (hf : mRw P s k f) {x3 : Int32} {K : Int32 → Int32 → lf_St → Prop} {Post : Int32 → lf_St → Prop} (ih : ∀ g, mRw P s (k + 1) g → K x3 (nI (k + 1)) (lf_sB τ 15 g)) {v5 v8 : Int32} (e5 : v5 = nI (pF P b)) (e8 : v8 = nI (pT P b)) : vp_in v5 6 ∧ ((((lf_ai (lf_sB τ 15 f) 13 v5.toNatClampNeg) < 0) → (J_X6_isGood_266 K Post x3 (nI k) v5 v8 (lf_sB τ 15 f))) ∧ ((¬ ((lf_ai (lf_sB τ 15 f) 13 v5.toNatClampNeg) < 0)) → (vp_in v5 6 ∧ (vp_in v5 6 ∧ (vp_in v8 6 ∧ (wp_X6_put (nI k) (lf_ai (lf_sB τ 15 f) 13 v5.toNatClampNeg) ((((lf_ai (lf_sB τ 15 f) 1 v5.toNatClampNeg) - (lf_ai (lf_sB τ 15 f) 1 v8.toNatClampNeg)) : Int32).toInt64) (lf_sB τ 15 f) (fun σ14 => vp_in v5 6 ∧ (vp_in v5 6 ∧ (vp_in v8 6 ∧ (wp_X6_put (nI k) ((lf_ai σ14 13 v5.toNatClampNeg) + 1) ((((lf_ai σ14 2 v5.toNatClampNeg) - (lf_ai σ14 2 v8.toNatClampNeg)) : Int32).toInt64) σ14 (fun σ18 => J_X6_isGood_266 K Post x3 (nI k) v5 v8 σ18))))))))))) := by
  have hJ := wf.1
  have h6 := pR_6 wf
  obtain ⟨f1, f2, f3⟩ := wf.2.2.2.2.2.2.2.1 b hb
  subst e5
  subst e8
  rw [nu_cl (n := pF P b) (by omega), nu_cl (n := pT P b) (by omega)]
  have va : vp_in (nI (pF P b)) 6 := vp_in_nI (by omega) (by omega)
  have vc : vp_in (nI (pT P b)) 6 := vp_in_nI (by omega) (by omega)
  have r1 : ∀ g, lf_ai (lf_sB τ 15 g) 13 (pF P b) = if pE P (pF P b) then -6 else nI (pW P (pF P b)) := fun _ => hR.2.2 _ f1
  have r2 : ∀ g, lf_ai (lf_sB τ 15 g) 13 (pT P b) = if pE P (pT P b) then -6 else nI (pW P (pT P b)) := fun _ => hR.2.2 _ f2
  have x1 : ∀ g, lf_ai (lf_sB τ 15 g) 1 (pF P b) = nI (pX P (pF P b)) := fun _ => (hR.1.1.2.2.2.2.1 _ f1).1
  have x2 : ∀ g, lf_ai (lf_sB τ 15 g) 1 (pT P b) = nI (pX P (pT P b)) := fun _ => (hR.1.1.2.2.2.2.1 _ f2).1
  have y1 : ∀ g, lf_ai (lf_sB τ 15 g) 2 (pF P b) = nI (pY P (pF P b)) := fun _ => (hR.1.1.2.2.2.2.1 _ f1).2.1
  have y2 : ∀ g, lf_ai (lf_sB τ 15 g) 2 (pT P b) = nI (pY P (pT P b)) := fun _ => (hR.1.1.2.2.2.2.1 _ f2).2.1
  have q1 := wf.2.2.2.2.2.1 _ f1
  have q2 := wf.2.2.2.2.2.1 _ f2
  have dx1 : ((nI (pX P (pT P b)) - nI (pX P (pF P b))) : Int32).toInt64.toInt = pdx P b := nu_n64 (nu_diff (by omega) (by omega))
  have dy1 : ((nI (pY P (pT P b)) - nI (pY P (pF P b))) : Int32).toInt64.toInt = pdy P b := nu_n64 (nu_diff (by omega) (by omega))
  have dx2 : ((nI (pX P (pF P b)) - nI (pX P (pT P b))) : Int32).toInt64.toInt = - pdx P b := by
    rw [nu_n64 (nu_diff (by omega) (by omega))]
    unfold pdx
    omega
  have dy2 : ((nI (pY P (pF P b)) - nI (pY P (pT P b))) : Int32).toInt64.toInt = - pdy P b := by
    rw [nu_n64 (nu_diff (by omega) (by omega))]
    unfold pdy
    omega
  have w1 : pW P (pF P b) = 2 * pn_fc (pE P) (pF P b) := rfl
  have w2 : pW P (pT P b) = 2 * pn_fc (pE P) (pT P b) := rfl
  have nneg : ∀ n, n < 100 → ¬ nI n < 0 := fun n hn => nI_pos (by omega)
  have j266 : ∀ g, (∀ i c, i < 6 → c < 6 → i ≠ k → g (6 * i + c) = f (6 * i + c)) → (∀ c, c < 6 → (g (6 * k + c)).toInt = if pE P (pF P b) = false ∧ c = pW P (pF P b) then - pdx P b else if pE P (pF P b) = false ∧ c = pW P (pF P b) + 1 then - pdy P b else 0) → J_X6_isGood_266 K Post x3 (nI k) (nI (pF P b)) (nI (pT P b)) (lf_sB τ 15 g) := by
    intro g g1 g2
    unfold J_X6_isGood_266
    rw [nu_cl (n := pF P b) (by omega), nu_cl (n := pT P b) (by omega), r2 g]
    refine ⟨vc, ?_⟩
    cases hE : pE P (pT P b)
    · have hW := pW_lt wf f2 hE
      have hdis : pE P (pF P b) = false → pn_fc (pE P) (pF P b) ≠ pn_fc (pE P) (pT P b) := fun q z => f3 (fc_inj q hE z)
      rw [if_neg (by decide)]
      refine ⟨fun h => absurd h (nneg _ (by omega)), fun _ => ⟨vc, vc, va, ?_⟩⟩
      rw [x1 g, x2 g]
      refine sp_put hk (by omega) ⟨vc, vc, va, ?_⟩
      rw [r2, y1, y2, hE, if_neg (by decide), nI_1]
      refine sp_put hk (by omega) (fun v e => ?_)
      rw [e, nI_1]
      refine ih _ (mRw_up hf (fun i c hi hc hne => ?_) (fun c hc => ?_))
      · rw [uL_at _ _ _ _ (by omega) hc, if_neg (by omega), uL_at _ _ _ _ (by omega) hc, if_neg (by omega), g1 i c hi hc hne]
      · rw [hbk, pcol_two wf hb c, uL_at _ _ _ _ (by omega) hc]
        by_cases z2 : c = pW P (pT P b) + 1
        · rw [if_pos ⟨rfl, z2⟩, if_neg (fun q => by have := hdis q.1; omega), if_neg (fun q => by have := hdis q.1; omega), if_neg (by omega), if_pos ⟨hE, z2⟩, dy1]
          omega
        · rw [if_neg (by omega), uL_at _ _ _ _ (by omega) hc]
          by_cases z1 : c = pW P (pT P b)
          · rw [if_pos ⟨rfl, z1⟩, if_neg (fun q => by have := hdis q.1; omega), if_neg (fun q => by have := hdis q.1; omega), if_pos ⟨hE, z1⟩, dx1]
            omega
          · rw [if_neg (by omega), g2 c hc, if_neg (c := pE P (pT P b) = false ∧ c = pW P (pT P b)) (fun q => z1 q.2), if_neg (c := pE P (pT P b) = false ∧ c = pW P (pT P b) + 1) (fun q => z2 q.2), Int.add_zero]
    · rw [if_pos rfl]
      refine ⟨fun _ v e => ?_, fun h => absurd nu_neg6 h⟩
      rw [e, nI_1]
      refine ih _ (mRw_up hf g1 (fun c hc => ?_))
      rw [hbk, g2 c hc, pcol_two wf hb c, if_neg (c := pE P (pT P b) = false ∧ c = pW P (pT P b)) (fun q => by rw [hE] at q; cases q.1), if_neg (c := pE P (pT P b) = false ∧ c = pW P (pT P b) + 1) (fun q => by rw [hE] at q; cases q.1), Int.add_zero]
  rw [r1 f]
  refine ⟨va, ?_⟩
  cases hE : pE P (pF P b)
  · have hW := pW_lt wf f1 hE
    rw [if_neg (by decide)]
    refine ⟨fun h => absurd h (nneg _ (by omega)), fun _ => ⟨va, va, vc, ?_⟩⟩
    rw [x1 f, x2 f]
    refine sp_put hk (by omega) ⟨va, va, vc, ?_⟩
    rw [r1, y1, y2, hE, if_neg (by decide), nI_1]
    refine sp_put hk (by omega) (j266 _ (fun i c hi hc hne => ?_) (fun c hc => ?_))
    · rw [uL_at _ _ _ _ (by omega) hc, if_neg (by omega), uL_at _ _ _ _ (by omega) hc, if_neg (by omega)]
    · rw [uL_at _ _ _ _ (by omega) hc]
      by_cases z2 : c = pW P (pF P b) + 1
      · rw [if_pos ⟨rfl, z2⟩, if_neg (by omega), if_pos ⟨hE, z2⟩]
        exact dy2
      · rw [if_neg (by omega), uL_at _ _ _ _ (by omega) hc]
        by_cases z1 : c = pW P (pF P b)
        · rw [if_pos ⟨rfl, z1⟩, if_pos ⟨hE, z1⟩]
          exact dx2
        · rw [if_neg (by omega), if_neg (fun q => z1 q.2), if_neg (fun q => z2 q.2), hf k c hk hc, if_neg (by omega)]
  · rw [if_pos rfl]
    refine ⟨fun _ => j266 f (fun _ _ _ _ _ => rfl) (fun c hc => ?_), fun h => absurd nu_neg6 h⟩
    rw [if_neg (fun q => by rw [hE] at q; cases q.1), if_neg (fun q => by rw [hE] at q; cases q.1), hf k c hk hc, if_neg (by omega)]
/-- bars are held against the field -/
theorem sp_goodBars {P : pn_T} {κ : mk_T} {τ : lf_St} (wf : pwf P) (hR : mR P κ τ) {s g : Nat} (hc : pch P s = true) {f : Nat → Int} (hfd : pfd P s g f) (hf : ∀ r, r < pR P → (lf_al τ 24 r).toInt = f r) (hD : (lf_gl τ 25).toInt = pbel P s) {Post : Int32 → lf_St → Prop} (h0 : ¬ pgood P s g → Post 0 τ) (h1 : pgood P s g → Post 1 τ) : ∃ fu, L_X6_isGood_409 Post fu 1 0 τ := by
  have hB := wf.2.1
  have hn := pch_nb hc
  have hl := pbel_le wf hn
  have hp := pbel_pos hc
  rw [pgood_iff hc hfd] at h0 h1
  have hfl : ∀ r, r < pR P → (f r).natAbs ≤ 26121388032 := fun r hr => pfd_le wf hc hfd hr
  have z := pk_loop (σ := Int32) (fun fu i x => L_X6_isGood_409 Post fu x (nI i) τ) (fun i x => (x = 1 ∧ ∀ b, b < i → ((pnum P f b).natAbs : Int) ≤ pst P b * pbel P s) ∨ (x = 0 ∧ ¬ ∀ b, b < pB P → ((pnum P f b).natAbs : Int) ≤ pst P b * pbel P s)) (pB P) 0 1 (by omega) (Or.inl ⟨rfl, fun b h => absurd h (Nat.not_lt_zero b)⟩) ?_ ?_
  · rw [nI_0] at z
    exact z
  · intro m x hx
    show L_X6_isGood_409 Post (m + 1) _ _ _
    unfold L_X6_isGood_409
    rw [hR.1.1.2.1]
    refine ⟨fun _ => ?_, fun h => absurd (nI_le (Nat.le_refl _) (by omega)) h⟩
    rcases hx with ⟨e, q⟩ | ⟨e, q⟩
    · rw [e]; exact ⟨rfl, h1 q⟩
    · rw [e]; exact ⟨rfl, h0 q⟩
  · intro m i x hi hx ih
    show L_X6_isGood_409 Post (m + 1) _ _ _
    unfold L_X6_isGood_409
    rw [hR.1.1.2.1]
    refine ⟨fun h => absurd h (nI_ge hi (by omega)), fun _ => ?_⟩
    rcases hx with ⟨e, q⟩ | ⟨e, q⟩
    · rw [e]
      refine ⟨fun h => absurd h (by decide), fun _ => sp_number wf hR.1.1 hR.2.2 hf hfl hi (fun v ev => sp_abs ev (by have := pnum_le wf hfl hi; omega) (fun va eva => sp_stuff wf hR.1.1 hi (fun w ew => ?_)))⟩
      have hs := pst_le wf hi
      have m1 := nu_mul64 (S := 72) (T := 2985984) (nu_n64 ew) hD (by omega) (by omega) (by decide)
      rw [nu_lt64, m1, eva]
      refine ⟨fun hlt v9 e9 => ?_, fun hge v10 e10 => ?_⟩
      · rw [e9, nI_1]
        exact ih 0 (Or.inr ⟨rfl, fun hall => by have := hall i hi; omega⟩)
      · rw [e10, nI_1]
        refine ih 1 (Or.inl ⟨rfl, fun b hb => ?_⟩)
        by_cases e : b = i
        · rw [e]; omega
        · exact q b (by omega)
    · rw [e]
      exact ⟨fun _ => ⟨rfl, h0 q⟩, fun h => absurd rfl h⟩
