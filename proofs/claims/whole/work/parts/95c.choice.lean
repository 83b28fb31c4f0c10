/-! THE MODEL'S CHOICES -/
abbrev mk_T : Type := Int32 × Int64 × Int64 × Int64 × (Nat → Int64)
def mI (P : pn_T) (κ : mk_T) (τ : lf_St) : Prop := pM P τ ∧ lf_gi τ 12 = κ.1 ∧ lf_gl τ 22 = κ.2.1 ∧ lf_gl τ 23 = κ.2.2.1 ∧ lf_gl τ 25 = κ.2.2.2.1 ∧ lf_al τ 24 = κ.2.2.2.2
def mRo (P : pn_T) (τ : lf_St) : Prop := ∀ j, j < pJ P → lf_ai τ 13 j = if pE P j then -6 else nI (pW P j)
def mR (P : pn_T) (κ : mk_T) (τ : lf_St) : Prop := mI P κ τ ∧ lf_gi τ 14 = nI (pR P) ∧ mRo P τ
theorem pW_free {P : pn_T} {j : Nat} (h : pE P j = false) : pW P (j + 1) = pW P j + 2 := by
  show 2 * (pn_fc (pE P) j + (if pE P j then 0 else 1)) = 2 * pn_fc (pE P) j + 2
  rw [h]
  show 2 * (pn_fc (pE P) j + 1) = _
  omega
theorem pW_fix {P : pn_T} {j : Nat} (h : pE P j = true) : pW P (j + 1) = pW P j := by
  show 2 * (pn_fc (pE P) j + (if pE P j then 0 else 1)) = 2 * pn_fc (pE P) j
  rw [h]
  rfl
theorem pW_lt {P : pn_T} (wf : pwf P) {j : Nat} (hj : j < pJ P) (h : pE P j = false) : pW P j + 1 < pR P := by
  have := pn_fc_lt h hj
  unfold pW pR
  omega
theorem pW_le {P : pn_T} (wf : pwf P) {j : Nat} (hj : j ≤ pJ P) : pW P j ≤ 6 := by
  have := pn_fc_mono (pE P) hj
  have := wf.2.2.2.2.1
  unfold pW
  omega
theorem sp_layRows {P : pn_T} {κ : mk_T} {τ : lf_St} (wf : pwf P) (h0 : mI P κ τ) {Post : lf_St → Prop} (hP : ∀ τ', mR P κ τ' → Post τ') : wp_X6_layRows τ Post := by
  have hJ := wf.1
  unfold wp_X6_layRows
  have z := pk_loop (fun fu j (s : lf_St) => L_X6_layRows_7 Post fu (nI j) s) (fun j s => mI P κ s ∧ lf_gi s 14 = nI (pW P j) ∧ ∀ i, i < j → lf_ai s 13 i = if pE P i then -6 else nI (pW P i)) (pJ P) 0 (lf_si τ 14 0) (by omega) ⟨h0, rfl, fun i h => absurd h (Nat.not_lt_zero i)⟩ ?_ ?_
  · rw [nI_0] at z
    exact z
  · intro m s ⟨a, b, c⟩
    show L_X6_layRows_7 Post (m + 1) _ _
    unfold L_X6_layRows_7
    rw [a.1.1]
    exact ⟨fun _ => hP s ⟨a, b, c⟩, fun h => absurd (nI_le (Nat.le_refl _) (by omega)) h⟩
  · intro m j s hj ⟨a, b, c⟩ ih
    show L_X6_layRows_7 Post (m + 1) _ _
    unfold L_X6_layRows_7 J_X6_layRows_38
    have hf := (a.1.2.2.2.2.1 j hj).2.2.1
    rw [a.1.1, nu_cl (by omega), hf]
    have vj : vp_in (nI j) 6 := vp_in_nI (by omega) (by omega)
    refine ⟨fun h => absurd h (nI_ge hj (by omega)), fun _ => ⟨vj, fun q => ⟨vj, fun s2 e2 => ?_⟩, fun q => ⟨vj, fun s2 e2 => ?_⟩⟩⟩
    · have hfree : pE P j = false := by
        cases h : pE P j
        · rfl
        · rw [h] at q; exact absurd q (by decide)
      have hf2 : lf_ai s2 3 j = if pE P j then 1 else 0 := by rw [e2]; exact hf
      have g14 : lf_gi s2 14 = nI (pW P j) := by rw [e2]; exact b
      rw [hf2, hfree, g14]
      refine ⟨vj, fun _ v e => ?_, fun q => absurd rfl q⟩
      rw [e, nI_1, show nI (pW P j) + 2 = nI (pW P j + 2) from nI_add _ 2, ← pW_free hfree]
      refine ih _ ⟨by rw [e2]; exact a, rfl, fun i hi => ?_⟩
      rw [e2]
      show upd (lf_ai s 13) j (lf_gi s 14) i = _
      by_cases q : i = j
      · rw [q, pk_us, hfree, b]; rfl
      · rw [pk_un q]; exact c i (by omega)
    · have hfix : pE P j = true := by
        cases h : pE P j
        · rw [h] at q; exact absurd rfl q
        · rfl
      have hf2 : lf_ai s2 3 j = if pE P j then 1 else 0 := by rw [e2]; exact hf
      have g14 : lf_gi s2 14 = nI (pW P j) := by rw [e2]; exact b
      rw [hf2, hfix, g14]
      refine ⟨vj, fun q => absurd q (by decide), fun _ v e => ?_⟩
      rw [e, nI_1, show nI (pW P j) + 0 = nI (pW P j + 0) from nI_add _ 0, Nat.add_zero, ← pW_fix hfix]
      refine ih _ ⟨by rw [e2]; exact a, rfl, fun i hi => ?_⟩
      rw [e2]
      show upd (lf_ai s 13) j (-6) i = _
      by_cases q : i = j
      · rw [q, pk_us, hfix]; rfl
      · rw [pk_un q]; exact c i (by omega)
theorem nu_n64 {x : Int32} {z : Int} (h : x.toInt = z) : x.toInt64.toInt = z := by rw [Jvm.Kit.i64_of_i32, h]
theorem nu_neg6 : ((-6 : Int32) < 0) := by decide
theorem nu_neg32 {x : Int32} {z : Int} (h : x.toInt = z) (hz : z.natAbs ≤ 1000000) : (-x).toInt = -z := by
  rw [Jvm.Kit.i32_neg (by rw [h]; omega), h]
theorem sp_put {τ : lf_St} {f : Nat → Int64} {r c : Nat} {v : Int64} (hr : r < 6) (hc : c < 6) {Post : lf_St → Prop} (h : Post (lf_sB τ 15 (vp_updL f (6 * r + c) v))) : wp_X6_put (nI r) (nI c) v (lf_sB τ 15 f) Post := by
  unfold wp_X6_put
  rw [nu_ix, nu_cl (by omega), st_sb_sB]
  exact ⟨vp_in_nI (by omega) (by omega), h⟩
def mCl (P : pn_T) (s k : Nat) (f : Nat → Int64) : Prop := ∀ r c, r < 6 → c < 6 → (f (6 * r + c)).toInt = if c < k then pcol P (pn_bi s (pB P) c) r else 0
theorem mCl_up {P : pn_T} {s k : Nat} {f g : Nat → Int64} (h : mCl P s k f) (hk : k < 6) (h1 : ∀ r c, r < 6 → c < 6 → c ≠ k → g (6 * r + c) = f (6 * r + c)) (h2 : ∀ r, r < 6 → (g (6 * r + k)).toInt = pcol P (pn_bi s (pB P) k) r) : mCl P s (k + 1) g := by
  intro r c hr hc
  by_cases e : c = k
  · rw [e, if_pos (by omega)]
    exact h2 r hr
  · rw [h1 r c hr hc e, h r c hr hc]
    by_cases q : c < k
    · rw [if_pos q, if_pos (by omega)]
    · rw [if_neg q, if_neg (by omega)]
theorem ix_ne {r c r' c' : Nat} (h1 : c < 6) (h2 : c' < 6) (h : ¬ (r = r' ∧ c = c')) : 6 * r + c ≠ 6 * r' + c' := by omega
theorem uL_at (f : Nat → Int64) (r c : Nat) (v : Int64) {r' c' : Nat} (h1 : c < 6) (h2 : c' < 6) : vp_updL f (6 * r + c) v (6 * r' + c') = if r' = r ∧ c' = c then v else f (6 * r' + c') := by
  by_cases e : r' = r ∧ c' = c
  · rw [if_pos e, e.1, e.2, pk_uLs]
  · rw [if_neg e, pk_uLn (ix_ne h2 h1 e)]
/-- one column of a bar -/
theorem sp_col {P : pn_T} {κ : mk_T} {τ : lf_St} (wf : pwf P) (hR : mR P κ τ) {s k b : Nat} (hk : k < 6) (hb : b < pB P) (hbk : pn_bi s (pB P) k = b) {f : Nat → Int64} (hf : mCl P s k f) {K : Int32 → lf_St → Prop} {Post : lf_St → Prop} (ih : ∀ g, mCl P s (k + 1) g → K (nI (k + 1)) (lf_sB τ 15 g)) {v4 v7 : Int32} (e4 : v4 = nI (pF P b)) (e7 : v7 = nI (pT P b)) : vp_in v4 6 ∧ ((((lf_ai (lf_sB τ 15 f) 13 v4.toNatClampNeg) < 0) → (J_X6_layCells_116 K Post (nI k) v4 v7 (lf_sB τ 15 f))) ∧ ((¬ ((lf_ai (lf_sB τ 15 f) 13 v4.toNatClampNeg) < 0)) → (vp_in v4 6 ∧ (vp_in v7 6 ∧ (vp_in v4 6 ∧ (wp_X6_put (lf_ai (lf_sB τ 15 f) 13 v4.toNatClampNeg) (nI k) ((((lf_ai (lf_sB τ 15 f) 1 v7.toNatClampNeg) - (lf_ai (lf_sB τ 15 f) 1 v4.toNatClampNeg)) : Int32).toInt64) (lf_sB τ 15 f) (fun σ13 => vp_in v4 6 ∧ (vp_in v7 6 ∧ (vp_in v4 6 ∧ (wp_X6_put ((lf_ai σ13 13 v4.toNatClampNeg) + 1) (nI k) ((((lf_ai σ13 2 v7.toNatClampNeg) - (lf_ai σ13 2 v4.toNatClampNeg)) : Int32).toInt64) σ13 (fun σ17 => J_X6_layCells_116 K Post (nI k) v4 v7 σ17))))))))))) := by
  have hJ := wf.1
  obtain ⟨f1, f2, f3⟩ := wf.2.2.2.2.2.2.2.1 b hb
  subst e4
  subst e7
  rw [nu_cl (n := pF P b) (by omega), nu_cl (n := pT P b) (by omega)]
  have va : vp_in (nI (pF P b)) 6 := vp_in_nI (by omega) (by omega)
  have vc : vp_in (nI (pT P b)) 6 := vp_in_nI (by omega) (by omega)
  have r1 : ∀ g, lf_ai (lf_sB τ 15 g) 13 (pF P b) = if pE P (pF P b) then -6 else nI (pW P (pF P b)) := fun _ => hR.2.2 _ f1
  have r2 : ∀ g, lf_ai (lf_sB τ 15 g) 13 (pT P b) = if pE P (pT P b) then -6 else nI (pW P (pT P b)) := fun _ => hR.2.2 _ f2
  have x1 : ∀ g, lf_ai (lf_sB τ 15 g) 1 (pF P b) = nI (pX P (pF P b)) := fun _ => (hR.1.1.2.2.2.2.1 _ f1).1
  have x2 : ∀ g, lf_ai (lf_sB τ 15 g) 1 (pT P b) = nI (pX P (pT P b)) := fun _ => (hR.1.1.2.2.2.2.1 _ f2).1
  have y1 : ∀ g, lf_ai (lf_sB τ 15 g) 2 (pF P b) = nI (pY P (pF P b)) := fun _ => (hR.1.1.2.2.2.2.1 _ f1).2.1
  have y2 : ∀ g, lf_ai (lf_sB τ 15 g) 2 (pT P b) = nI (pY P (pT P b)) := fun _ => (hR.1.1.2.2.2.2.1 _ f2).2.1
  have q1 := wf.2.2.2.2.2.1 _ f1
  have q2 := wf.2.2.2.2.2.1 _ f2
  have dx1 : ((nI (pX P (pT P b)) - nI (pX P (pF P b))) : Int32).toInt64.toInt = pdx P b := nu_n64 (nu_diff (by omega) (by omega))
  have dy1 : ((nI (pY P (pT P b)) - nI (pY P (pF P b))) : Int32).toInt64.toInt = pdy P b := nu_n64 (nu_diff (by omega) (by omega))
  have dx2 : ((nI (pX P (pF P b)) - nI (pX P (pT P b))) : Int32).toInt64.toInt = - pdx P b := by
    rw [nu_n64 (nu_diff (by omega) (by omega))]
    unfold pdx
    omega
  have dy2 : ((nI (pY P (pF P b)) - nI (pY P (pT P b))) : Int32).toInt64.toInt = - pdy P b := by
    rw [nu_n64 (nu_diff (by omega) (by omega))]
    unfold pdy
    omega
  have nneg : ∀ n, n < 100 → ¬ nI n < 0 := fun n hn => nI_pos (by omega)
  -- the other end
  have j116 : ∀ g, (∀ r c, r < 6 → c < 6 → c ≠ k → g (6 * r + c) = f (6 * r + c)) → (∀ r, r < 6 → (g (6 * r + k)).toInt = if pE P (pF P b) = false ∧ r = pW P (pF P b) then pdx P b else if pE P (pF P b) = false ∧ r = pW P (pF P b) + 1 then pdy P b else 0) → J_X6_layCells_116 K Post (nI k) (nI (pF P b)) (nI (pT P b)) (lf_sB τ 15 g) := by
    intro g g1 g2
    unfold J_X6_layCells_116
    rw [nu_cl (n := pF P b) (by omega), nu_cl (n := pT P b) (by omega), r2 g]
    refine ⟨vc, ?_⟩
    cases hE : pE P (pT P b)
    · have hW := pW_lt wf f2 hE
      have h6 := pR_6 wf
      rw [if_neg (by decide)]
      refine ⟨fun h => absurd h (nneg _ (by omega)), fun _ => ⟨vc, va, vc, ?_⟩⟩
      rw [x1 g, x2 g]
      refine sp_put (by omega) hk ⟨vc, va, vc, ?_⟩
      rw [r2, y1, y2, hE, if_neg (by decide), nI_1]
      refine sp_put (by omega) hk (fun v e => ?_)
      rw [e, nI_1]
      refine ih _ (mCl_up hf hk (fun r c hr hc hne => ?_) (fun r hr => ?_))
      · rw [uL_at _ _ _ _ hk hc, if_neg (by omega), uL_at _ _ _ _ hk hc, if_neg (by omega), g1 r c hr hc hne]
      · rw [hbk]
        unfold pcol
        have hdis : pE P (pF P b) = false → pn_fc (pE P) (pF P b) ≠ pn_fc (pE P) (pT P b) := fun q z => f3 (fc_inj q hE z)
        have w1 : pW P (pF P b) = 2 * pn_fc (pE P) (pF P b) := rfl
        have w2 : pW P (pT P b) = 2 * pn_fc (pE P) (pT P b) := rfl
        rw [uL_at _ _ _ _ hk hk]
        by_cases z2 : r = pW P (pT P b) + 1
        · rw [if_pos ⟨z2, rfl⟩, if_neg (fun q => by have := hdis q.1; omega), if_neg (fun q => by have := hdis q.1; omega), if_neg (by omega), if_pos ⟨hE, z2⟩]
          exact dy2
        · rw [if_neg (by omega), uL_at _ _ _ _ hk hk]
          by_cases z1 : r = pW P (pT P b)
          · rw [if_pos ⟨z1, rfl⟩, if_neg (fun q => by have := hdis q.1; omega), if_neg (fun q => by have := hdis q.1; omega), if_pos ⟨hE, z1⟩]
            exact dx2
          · rw [if_neg (by omega), g2 r hr]
            by_cases p1 : pE P (pF P b) = false ∧ r = pW P (pF P b)
            · rw [if_pos p1, if_pos p1]
            · rw [if_neg p1, if_neg p1]
              by_cases p2 : pE P (pF P b) = false ∧ r = pW P (pF P b) + 1
              · rw [if_pos p2, if_pos p2]
              · rw [if_neg p2, if_neg p2, if_neg (fun q => z1 q.2), if_neg (fun q => z2 q.2)]
    · rw [if_pos rfl]
      refine ⟨fun _ v e => ?_, fun h => absurd nu_neg6 h⟩
      rw [e, nI_1]
      refine ih _ (mCl_up hf hk g1 (fun r hr => ?_))
      rw [hbk, g2 r hr]
      unfold pcol
      rw [hE]
      by_cases p1 : pE P (pF P b) = false ∧ r = pW P (pF P b)
      · rw [if_pos p1, if_pos p1]
      · rw [if_neg p1, if_neg p1]
        by_cases p2 : pE P (pF P b) = false ∧ r = pW P (pF P b) + 1
        · rw [if_pos p2, if_pos p2]
        · rw [if_neg p2, if_neg p2, if_neg (fun q => by cases q.1), if_neg (fun q => by cases q.1)]
  rw [r1 f]
  refine ⟨va, ?_⟩
  cases hE : pE P (pF P b)
  · have hW := pW_lt wf f1 hE
    have h6 := pR_6 wf
    rw [if_neg (by decide)]
    refine ⟨fun h => absurd h (nneg _ (by omega)), fun _ => ⟨va, vc, va, ?_⟩⟩
    rw [x1 f, x2 f]
    refine sp_put (by omega) hk ⟨va, vc, va, ?_⟩
    rw [r1, y1, y2, hE, if_neg (by decide), nI_1]
    refine sp_put (by omega) hk (j116 _ (fun r c hr hc hne => ?_) (fun r hr => ?_))
    · rw [uL_at _ _ _ _ hk hc, if_neg (by omega), uL_at _ _ _ _ hk hc, if_neg (by omega)]
    · rw [uL_at _ _ _ _ hk hk]
      by_cases z2 : r = pW P (pF P b) + 1
      · rw [if_pos ⟨z2, rfl⟩, if_neg (by omega), if_pos ⟨hE, z2⟩]
        exact dy1
      · rw [if_neg (by omega), uL_at _ _ _ _ hk hk]
        by_cases z1 : r = pW P (pF P b)
        · rw [if_pos ⟨z1, rfl⟩, if_pos ⟨hE, z1⟩]
          exact dx1
        · rw [if_neg (by omega), if_neg (fun q => z1 q.2), if_neg (fun q => z2 q.2), hf r k hr hk, if_neg (by omega)]
  · rw [if_pos rfl]
    refine ⟨fun _ => j116 f (fun _ _ _ _ _ => rfl) (fun r hr => ?_), fun h => absurd nu_neg6 h⟩
    rw [hE, if_neg (fun q => by cases q.1), if_neg (fun q => by cases q.1), hf r k hr hk, if_neg (by omega)]
def mPk (P : pn_T) (s : Nat) (τ : lf_St) : Prop := ∀ i, i < pR P → lf_ai τ 19 i = nI (pn_bi s (pB P) i)
def mLd (P : pn_T) (g : Nat → Int64) : Prop := ∀ r, r < pR P → (g r).toInt = pL P r
theorem sp_layCells {P : pn_T} {κ : mk_T} {τ : lf_St} (wf : pwf P) (hR : mR P κ τ) {s : Nat} (hn : pn_nb s (pB P) = pR P) (hp : mPk P s τ) {Post : lf_St → Prop} (hP : ∀ f g, mCl P s (pR P) f → mLd P g → Post (lf_sB (lf_sB τ 15 f) 17 g)) : wp_X6_layCells τ Post := by
  have hJ := wf.1
  have hB := wf.2.1
  have h6 := pR_6 wf
  -- the loads
  have l3 : ∀ f, mCl P s (pR P) f → ∃ fu, L_X6_layCells_185 Post fu 0 (lf_sB τ 15 f) := by
    intro f hf
    have z := pk_loop (fun fu j (g : Nat → Int64) => L_X6_layCells_185 Post fu (nI j) (lf_sB (lf_sB τ 15 f) 17 g)) (fun j g => ∀ r, r < pW P j → (g r).toInt = pn_ld P j r) (pJ P) 0 (lf_al (lf_sB τ 15 f) 17) (by omega) (fun r h => absurd h (Nat.not_lt_zero r)) ?_ ?_
    · rw [nI_0, st_sB_id] at z
      exact z
    · intro m g hg
      show L_X6_layCells_185 Post (m + 1) _ _
      unfold L_X6_layCells_185
      have : lf_gi (lf_sB (lf_sB τ 15 f) 17 g) 0 = nI (pJ P) := hR.1.1.1
      rw [this]
      exact ⟨fun _ => hP f g hf hg, fun h => absurd (nI_le (Nat.le_refl _) (by omega)) h⟩
    · intro m j g hj hg ih
      show L_X6_layCells_185 Post (m + 1) _ _
      unfold L_X6_layCells_185
      have g0 : lf_gi (lf_sB (lf_sB τ 15 f) 17 g) 0 = nI (pJ P) := hR.1.1.1
      have g13 : ∀ g, lf_ai (lf_sB (lf_sB τ 15 f) 17 g) 13 j = if pE P j then -6 else nI (pW P j) := fun _ => hR.2.2 j hj
      have g4 : ∀ g, lf_ai (lf_sB (lf_sB τ 15 f) 17 g) 4 j = Int32.ofInt (pU P j) := fun _ => (hR.1.1.2.2.2.2.1 j hj).2.2.2.1
      have g5 : ∀ g, lf_ai (lf_sB (lf_sB τ 15 f) 17 g) 5 j = Int32.ofInt (pV P j) := fun _ => (hR.1.1.2.2.2.2.1 j hj).2.2.2.2
      obtain ⟨-, -, hu, hv, -⟩ := wf.2.2.2.2.2.1 j hj
      have vj : vp_in (nI j) 6 := vp_in_nI (by omega) (by omega)
      rw [g0, nu_cl (by omega), g13, g4]
      refine ⟨fun h => absurd h (nI_ge hj (by omega)), fun _ => ⟨vj, ?_⟩⟩
      cases hE : pE P j
      · have hW := pW_lt wf hj hE
        rw [if_neg (by decide)]
        refine ⟨fun h => absurd h (nI_pos (by omega)), fun _ => ⟨vj, vj, vp_in_nI (by omega) (by omega), fun s8 e8 => ?_⟩⟩
        rw [nu_cl (by omega), st_sb_sB] at e8
        subst e8
        rw [g13, g5, hE, if_neg (by decide), nI_1, nu_cl (by omega)]
        refine ⟨vj, vj, vp_in_nI (by omega) (by omega), fun v e => ?_⟩
        rw [e, nI_1, st_sb_sB]
        refine ih _ (fun r hr => ?_)
        rw [pW_free hE] at hr
        show _ = (if pE P j = false ∧ r = pW P j then - pU P j else if pE P j = false ∧ r = pW P j + 1 then - pV P j else pn_ld P j r)
        by_cases z1 : r = pW P j
        · rw [z1, pk_uLn (by omega), pk_uLs, if_pos ⟨hE, rfl⟩]
          exact nu_n64 (nu_neg32 (nu_ofI (by omega) (by omega)) (by omega))
        · by_cases z2 : r = pW P j + 1
          · rw [z2, pk_uLs, if_neg (by omega), if_pos ⟨hE, rfl⟩]
            exact nu_n64 (nu_neg32 (nu_ofI (by omega) (by omega)) (by omega))
          · rw [pk_uLn z2, pk_uLn z1, if_neg (fun q => z1 q.2), if_neg (fun q => z2 q.2)]
            exact hg r (by omega)
      · rw [if_pos rfl]
        refine ⟨fun _ v e => ?_, fun h => absurd nu_neg6 h⟩
        rw [e, nI_1]
        refine ih _ (fun r hr => ?_)
        rw [pW_fix hE] at hr
        show _ = (if pE P j = false ∧ r = pW P j then - pU P j else if pE P j = false ∧ r = pW P j + 1 then - pV P j else pn_ld P j r)
        rw [hE, if_neg (fun q => by cases q.1), if_neg (fun q => by cases q.1)]
        exact hg r hr
  -- the columns
  have l2 : ∀ f, mCl P s 0 f → ∃ fu, L_X6_layCells_23 Post fu 0 (lf_sB τ 15 f) := by
    intro f hf
    have z := pk_loop (fun fu k (f : Nat → Int64) => L_X6_layCells_23 Post fu (nI k) (lf_sB τ 15 f)) (fun k f => mCl P s k f) (pR P) 0 f (by omega) hf ?_ ?_
    · rw [nI_0] at z
      exact z
    · intro m f hf
      show L_X6_layCells_23 Post (m + 1) _ _
      unfold L_X6_layCells_23
      have : lf_gi (lf_sB τ 15 f) 14 = nI (pR P) := hR.2.1
      rw [this]
      exact ⟨fun _ => l3 f hf, fun h => absurd (nI_le (Nat.le_refl _) (by omega)) h⟩
    · intro m k f hk hf ih
      show L_X6_layCells_23 Post (m + 1) _ _
      unfold L_X6_layCells_23
      have g14 : lf_gi (lf_sB τ 15 f) 14 = nI (pR P) := hR.2.1
      obtain ⟨b, hb, -, -, hbk⟩ := bi_ex (show k < pn_nb s (pB P) by omega)
      have g19 : lf_ai (lf_sB τ 15 f) 19 k = nI b := by rw [← hbk]; exact hp k hk
      have g7 : lf_ai (lf_sB τ 15 f) 7 b = nI (pF P b) := (hR.1.1.2.2.2.2.2.1 b hb).1
      have g8 : lf_ai (lf_sB τ 15 f) 8 b = nI (pT P b) := (hR.1.1.2.2.2.2.2.1 b hb).2
      rw [g14, nu_cl (n := k) (by omega), g19, nu_cl (n := b) (by omega), g7, g8]
      refine ⟨fun h => absurd h (nI_ge hk (by omega)), fun _ => ⟨vp_in_nI (by omega) (by omega), vp_in_nI (by omega) (by omega), fun v4 e4 => ⟨vp_in_nI (by omega) (by omega), vp_in_nI (by omega) (by omega), fun v7 e7 => ?_⟩⟩⟩
      exact sp_col wf hR (by omega) hb hbk hf ih e4 e7
  unfold wp_X6_layCells
  have z := pk_loop (fun fu k (f : Nat → Int64) => L_X6_layCells_2 Post fu (nI k) (lf_sB τ 15 f)) (fun k f => ∀ i, i < k → f i = 0) 36 0 (lf_al τ 15) (by omega) (fun i h => absurd h (Nat.not_lt_zero i)) ?_ ?_
  · rw [nI_0, st_sB_id] at z
    exact z
  · intro m f hf
    show L_X6_layCells_2 Post (m + 1) _ _
    unfold L_X6_layCells_2
    refine ⟨fun _ => l2 f (fun r c hr hc => ?_), fun h => absurd (nI_le (a := 36) (b := 36) (Nat.le_refl _) (by omega)) h⟩
    rw [hf _ (by omega), if_neg (by omega)]
    rfl
  · intro m k f hk hf ih
    show L_X6_layCells_2 Post (m + 1) _ _
    unfold L_X6_layCells_2
    refine ⟨fun h => absurd h (nI_ge (b := 36) hk (by omega)), fun _ => ⟨vp_in_nI (by omega) (by omega), fun v e => ?_⟩⟩
    rw [e, nI_1, nu_cl (by omega), st_sb_sB]
    refine ih _ (fun i hi => ?_)
    by_cases q : i = k
    · rw [q, pk_uLs]
    · rw [pk_uLn q]; exact hf i (by omega)
