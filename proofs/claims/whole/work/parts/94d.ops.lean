theorem psd_ag {P Q : pn_T} {J : Nat} (h : ∀ j, j < J → pX Q j = pX P j ∧ pY Q j = pY P j) {a b c : Nat} (ha : a < J) (hb : b < J) (hc : c < J) : psd Q a b c = psd P a b c := by
  unfold psd
  rw [(h a ha).1, (h a ha).2, (h b hb).1, (h b hb).2, (h c hc).1, (h c hc).2]
theorem pon_ag {P Q : pn_T} {J : Nat} (h : ∀ j, j < J → pX Q j = pX P j ∧ pY Q j = pY P j) {a b c : Nat} (ha : a < J) (hb : b < J) (hc : c < J) : pon Q a b c = pon P a b c := by
  unfold pon
  rw [psd_ag h hb hc ha]
  unfold pdot
  rw [(h a ha).1, (h a ha).2, (h b hb).1, (h b hb).2, (h c hc).1, (h c hc).2]
theorem pcr4_ag {P Q : pn_T} {J : Nat} (h : ∀ j, j < J → pX Q j = pX P j ∧ pY Q j = pY P j) {a b c d : Nat} (ha : a < J) (hb : b < J) (hc : c < J) (hd : d < J) : pcr4 Q a b c d = pcr4 P a b c d := by
  unfold pcr4
  by_cases q : a = c ∨ a = d ∨ b = c ∨ b = d
  · rw [if_pos q, if_pos q]
    by_cases q2 : a = c ∨ a = d
    · rw [if_pos q2, if_pos q2, pon_ag h hb hc hd, pon_ag h (by omega) ha hb]
    · rw [if_neg q2, if_neg q2, pon_ag h ha hc hd, pon_ag h (by omega) ha hb]
  · rw [if_neg q, if_neg q, pon_ag h ha hc hd, pon_ag h hb hc hd, pon_ag h hc ha hb, pon_ag h hd ha hb, psd_ag h ha hb hc, psd_ag h ha hb hd, psd_ag h hc hd ha, psd_ag h hc hd hb]
theorem pn_fc_congr {f g : Nat → Bool} : ∀ {j : Nat}, (∀ i, i < j → f i = g i) → pn_fc f j = pn_fc g j
  | 0, _ => rfl
  | j + 1, h => by
    show pn_fc f j + _ = pn_fc g j + _
    rw [pn_fc_congr (fun i hi => h i (by omega)), h j (by omega)]
/-- the plan with one joint more -/
def pn_jt (P : pn_T) (x y : Nat) (e : Bool) : pn_T := ((pJ P + 1, pB P, pS P, pC P), (fun j => if j = pJ P then x else pX P j), (fun j => if j = pJ P then y else pY P j), (fun j => if j = pJ P then e else pE P j), (fun j => if j = pJ P then 0 else pU P j), (fun j => if j = pJ P then 0 else pV P j), pF P, pT P, pZ P)
theorem jt_X {P : pn_T} {x y : Nat} {e : Bool} {j : Nat} : pX (pn_jt P x y e) j = if j = pJ P then x else pX P j := rfl
theorem jt_Y {P : pn_T} {x y : Nat} {e : Bool} {j : Nat} : pY (pn_jt P x y e) j = if j = pJ P then y else pY P j := rfl
theorem jt_E {P : pn_T} {x y : Nat} {e : Bool} {j : Nat} : pE (pn_jt P x y e) j = if j = pJ P then e else pE P j := rfl
theorem jt_U {P : pn_T} {x y : Nat} {e : Bool} {j : Nat} : pU (pn_jt P x y e) j = if j = pJ P then 0 else pU P j := rfl
theorem jt_V {P : pn_T} {x y : Nat} {e : Bool} {j : Nat} : pV (pn_jt P x y e) j = if j = pJ P then 0 else pV P j := rfl
theorem jt_fc {P : pn_T} {x y : Nat} {e : Bool} {j : Nat} (h : j ≤ pJ P) : pn_fc (pE (pn_jt P x y e)) j = pn_fc (pE P) j := pn_fc_congr (fun i hi => by rw [jt_E, if_neg (by omega)])
theorem jt_fcJ {P : pn_T} {x y : Nat} {e : Bool} : pn_fc (pE (pn_jt P x y e)) (pJ P + 1) = pn_fc (pE P) (pJ P) + (if e then 0 else 1) := by
  show pn_fc (pE (pn_jt P x y e)) (pJ P) + (if pE (pn_jt P x y e) (pJ P) then 0 else 1) = _
  rw [jt_fc (Nat.le_refl _), jt_E, if_pos rfl]
theorem jt_ag {P : pn_T} {x y : Nat} {e : Bool} : ∀ j, j < pJ P → pX (pn_jt P x y e) j = pX P j ∧ pY (pn_jt P x y e) j = pY P j := fun j hj => ⟨by rw [jt_X, if_neg (by omega)], by rw [jt_Y, if_neg (by omega)]⟩
theorem jt_bar {P : pn_T} (wf : pwf P) {x y : Nat} {e : Bool} {b : Nat} (hb : b < pB P) : pdx (pn_jt P x y e) b = pdx P b ∧ pdy (pn_jt P x y e) b = pdy P b ∧ pcm (pn_jt P x y e) b b = pcm P b b := by
  obtain ⟨h1, h2, -⟩ := wf.2.2.2.2.2.2.2.1 b hb
  refine ⟨?_, ?_, pcm_congr (fun a ha => ?_)⟩
  · show (pX (pn_jt P x y e) (pT P b) : Int) - pX (pn_jt P x y e) (pF P b) = _
    rw [(jt_ag _ h1).1, (jt_ag _ h2).1]
    rfl
  · show (pY (pn_jt P x y e) (pT P b) : Int) - pY (pn_jt P x y e) (pF P b) = _
    rw [(jt_ag _ h1).2, (jt_ag _ h2).2]
    rfl
  · obtain ⟨h3, h4, -⟩ := wf.2.2.2.2.2.2.2.1 a (by omega)
    exact pcr4_ag jt_ag h1 h2 h3 h4
theorem jt_wf {P : pn_T} (wf : pwf P) {x y : Nat} {e : Bool} (hx : x ≤ 6) (hy : y ≤ 6) (hJ : pJ P < 6) (hf : e = false → pn_fc (pE P) (pJ P) < 3) (hne : ∀ i, i < pJ P → ¬ (pX P i = x ∧ pY P i = y)) : pwf (pn_jt P x y e) := by
  obtain ⟨w1, w2, w3, w4, w5, w6, w7, w8, w9, w10⟩ := wf
  refine ⟨hJ, w2, w3, w4, ?_, fun j hj => ?_, fun i j hij hj => ?_, fun b hb => ?_, w9, w10⟩
  · show pn_fc (pE (pn_jt P x y e)) (pJ P + 1) ≤ 3
    rw [jt_fcJ]
    cases e
    · have := hf rfl
      show pn_fc (pE P) (pJ P) + 1 ≤ 3
      omega
    · exact w5
  · have hj : j < pJ P + 1 := hj
    rw [jt_X, jt_Y, jt_U, jt_V, jt_E]
    by_cases q : j = pJ P
    · rw [if_pos q, if_pos q, if_pos q, if_pos q, if_pos q]
      exact ⟨hx, hy, by decide, by decide, fun _ => ⟨rfl, rfl⟩⟩
    · rw [if_neg q, if_neg q, if_neg q, if_neg q, if_neg q]
      exact w6 j (by omega)
  · have hj : j < pJ P + 1 := hj
    rw [jt_X, jt_X, jt_Y, jt_Y, if_neg (by omega : ¬ i = pJ P), if_neg (by omega : ¬ i = pJ P)]
    by_cases q : j = pJ P
    · rw [if_pos q, if_pos q]
      exact hne i (by omega)
    · rw [if_neg q, if_neg q]
      exact w7 i j hij (by omega)
  · obtain ⟨h1, h2, h3⟩ := w8 b hb
    exact ⟨by show pF P b < pJ P + 1; omega, by show pT P b < pJ P + 1; omega, h3⟩
theorem nu_zb (e : Bool) : vp_nar .boolean (if e then (1 : Int32) else 0) = if e then 1 else 0 := by cases e <;> rfl
theorem nu_eqn {x : Int32} {a : Nat} (h : x.toInt = a) : x = nI a := by
  have h2 : x.toInt < 2 ^ 31 := Int32.toInt_lt x
  refine nu_eq.mpr ?_
  rw [nu_nI (by omega), h]
theorem pu_joint : lo_joint pu_Inv := by
  intro σ τ hI a b c hc
  obtain ⟨P, wf, hM, hK, hC, hF⟩ := id hI
  have hJ := wf.1
  have z0 : (0 : Int32).toInt = 0 := rfl
  have z6 : (6 : Int32).toInt = 6 := rfl
  have hp : ∀ (x : Int32) (Q : Int32 → lf_St → Prop), (0 ≤ x.toInt → x.toInt ≤ 6 → Q 1 σ) → (¬ (0 ≤ x.toInt ∧ x.toInt ≤ 6) → Q 0 σ) → wp_X5_isPlace x σ Q := by
    intro x Q h1 h0
    unfold wp_X5_isPlace
    refine ⟨fun q => h0 (fun z => by have := nu_lt.mp q; omega), fun q => ⟨fun p => h0 (fun z => by have := nu_lt.mp p; omega), fun p => h1 ?_ ?_⟩⟩
    · have : ¬ x.toInt < (0 : Int32).toInt := fun z => q (nu_lt.mpr z)
      omega
    · have : ¬ (6 : Int32).toInt < x.toInt := fun z => p (nu_lt.mpr z)
      omega
  have hmM : ∀ (x : Int32) (Q : Int32 → lf_St → Prop), (0 ≤ x.toInt → x.toInt ≤ 6 → Q 1 τ) → (¬ (0 ≤ x.toInt ∧ x.toInt ≤ 6) → Q 0 τ) → wp_X6_in x.toInt64 0 6 τ Q := by
    intro x Q h1 h0
    exact sp_inI (a := 0) (b := 6) rfl rfl (fun p q => h1 (by omega) (by omega)) (fun p => h0 (fun z => p (by omega)))
  unfold wp_X5_joint
  refine hp a _ (fun a1 a2 => ⟨fun q => absurd q (by decide), fun _ => ?_⟩) (fun ha => ⟨fun _ => ?_, fun q => absurd rfl q⟩)
  · refine hp b _ (fun b1 b2 => ⟨fun _ => ?_, fun q => absurd q (by decide)⟩) (fun hb => ⟨fun q => absurd rfl q, fun _ => ?_⟩)
    · -- the model, as far as the places go
      have hmm : ∀ Q : Int32 → lf_St → Prop, (((lf_gi τ 0 = 6) → Q (-4) τ) ∧ ((¬ (lf_gi τ 0 = 6)) → (((¬ c = 0) → (∃ fu : Nat, L_X6_joint_54 Q fu a b c 0 τ)) ∧ ((c = 0) → (wp_X6_frees τ (fun r7 σ7 => ((¬ r7 = 3) → (∃ fu : Nat, L_X6_joint_54 Q fu a b c 0 σ7)) ∧ ((r7 = 3) → (Q (-4) σ7)))))))) → wp_X6_joint a b c τ Q := by
        intro Q h
        unfold wp_X6_joint
        exact hmM a _ (fun _ _ => ⟨fun q => absurd q (by decide), fun _ => hmM b _ (fun _ _ => ⟨fun _ => h, fun q => absurd q (by decide)⟩) (fun q => absurd ⟨b1, b2⟩ q)⟩) (fun q => absurd ⟨a1, a2⟩ q)
      have frs : ∀ Q : Int32 → lf_St → Prop, Q (nI (pn_fc (pE P) (pJ P))) τ → wp_X6_frees τ Q := fun Q h => sp_frees hM.1 hJ (fun j hj => (hM.2.2.2.2.1 j hj).2.2.1) h
      rw [hK.1, hK.2.1]
      have eJ : nI (pJ P) = 6 ↔ pJ P = 6 := nI_eq (a := pJ P) (b := 6) (by omega) (by omega)
      have hw5 := wf.2.2.2.2.1
      have e3 : nI (pn_fc (pE P) (pJ P)) = 3 ↔ pn_fc (pE P) (pJ P) = 3 := nI_eq (a := pn_fc (pE P) (pJ P)) (b := 3) (by omega) (by omega)
      refine ⟨fun hfull => ?_, fun hnf => ?_⟩
      · have : pJ P = 6 := by
          have := nu_le.mp hfull
          rw [nu_nI (by omega)] at this
          omega
        exact hmm _ ⟨fun _ => ⟨rfl, hI⟩, fun q => absurd (hM.1.trans (eJ.mpr this)) q⟩
      · have hJ6 : pJ P < 6 := by
          have : ¬ (6 : Int32).toInt ≤ (nI (pJ P)).toInt := fun q => hnf (nu_le.mpr q)
          rw [nu_nI (by omega)] at this
          omega
        have hn6 : ¬ lf_gi τ 0 = 6 := fun q => by have := eJ.mp (hM.1.symm.trans q); omega
        obtain ⟨e, he⟩ : ∃ e : Bool, c = if e then 1 else 0 := by
          rcases hc with q | q
          · exact ⟨false, q⟩
          · exact ⟨true, q⟩
        have ea : a = nI a.toInt.toNat := nu_toNat a1
        have eb : b = nI b.toInt.toNat := nu_toNat b1
        -- the rest of the model, with room
        have key : (e = false → pn_fc (pE P) (pJ P) < 3) → J_X5_joint_47 (fun r σ' => wp_X6_joint a b c τ (fun r' τ' => r = r' ∧ pu_Inv σ' τ')) a b c σ := by
          intro hroom
          have hm3 : ∀ Q : Int32 → lf_St → Prop, (∃ fu : Nat, L_X6_joint_54 Q fu a b c 0 τ) → wp_X6_joint a b c τ Q := by
            intro Q h
            refine hmm Q ⟨fun q => absurd q hn6, fun _ => ⟨fun _ => h, fun hc0 => frs _ ⟨fun _ => h, fun q => ?_⟩⟩⟩
            have : e = false := by
              cases e
              · rfl
              · rw [he] at hc0; exact absurd hc0 (by decide)
            have := hroom this
            have := e3.mp q
            omega
          unfold J_X5_joint_47 wp_X2_hasJointAt
          have z := pk_loop (fun fu k (_ : Unit) => L_X2_hasJointAt_2 (fun r1 σ1 => ((r1 = 0) → (wp_X5_forgetAnswers σ1 (fun σ3 => wp_X2_addJoint a b c σ3 (fun r4 σ4 => (fun r σ' => wp_X6_joint a b c τ (fun r' τ' => r = r' ∧ pu_Inv σ' τ')) r4 σ4)))) ∧ ((¬ (r1 = 0)) → ((fun r σ' => wp_X6_joint a b c τ (fun r' τ' => r = r' ∧ pu_Inv σ' τ')) (-5) σ1))) fu a b (nI k) σ) (fun k _ => ∀ i, i < k → ¬ (nI (pX P i) = a ∧ nI (pY P i) = b)) (pJ P) 0 () (by omega) (fun i h => absurd h (Nat.not_lt_zero i)) ?_ ?_
          · rw [nI_0] at z
            exact z
          · intro m _ hq
            show L_X2_hasJointAt_2 _ (m + 1) _ _ _ _
            unfold L_X2_hasJointAt_2
            rw [hK.1]
            refine ⟨fun _ => ⟨fun _ => ?_, fun q => absurd rfl q⟩, fun h => absurd (nI_le (Nat.le_refl _) (by omega)) h⟩
            have hne : ∀ i, i < pJ P → ¬ (pX P i = a.toInt.toNat ∧ pY P i = b.toInt.toNat) := fun i hi q => hq i hi ⟨by rw [q.1]; exact ea.symm, by rw [q.2]; exact eb.symm⟩
            obtain ⟨σ', hσ'⟩ : ∃ z, z = lf_si (lf_si σ 6 0) 8 0 := ⟨_, rfl⟩
            have hwf := jt_wf wf (x := a.toInt.toNat) (y := b.toInt.toNat) (e := e) (by omega) (by omega) hJ6 hroom hne
            -- the model's end
            have hend : ∀ σ4, pK (pn_jt P a.toInt.toNat b.toInt.toNat e) σ4 → lf_gi σ4 6 = 0 → lf_gi σ4 8 = 0 → wp_X6_joint a b c τ (fun r' τ' => nI (pJ P) = r' ∧ pu_Inv σ4 τ') := by
              intro σ4 hk4 h6 h8
              refine hm3 _ ?_
              have y := pk_loop (fun fu k (_ : Unit) => L_X6_joint_54 (fun r' τ' => nI (pJ P) = r' ∧ pu_Inv σ4 τ') fu a b c (nI k) τ) (fun _ _ => True) (pJ P) 0 () (by omega) trivial ?_ ?_
              · rw [nI_0] at y
                exact y
              · intro m2 _ _
                show L_X6_joint_54 _ (m2 + 1) _ _ _ _ _
                unfold L_X6_joint_54
                rw [hM.1]
                refine ⟨fun _ => ?_, fun h => absurd (nI_le (Nat.le_refl _) (by omega)) h⟩
                have vJ : vp_in (nI (pJ P)) 6 := vp_in_nI hJ6 (by omega)
                refine ⟨vJ, fun t3 f3 => ?_⟩
                have g3 : lf_gi t3 0 = nI (pJ P) := by rw [f3]; exact hM.1
                rw [g3]
                refine ⟨vJ, fun t5 f5 => ?_⟩
                have g5 : lf_gi t5 0 = nI (pJ P) := by rw [f5]; exact g3
                rw [g5]
                refine ⟨vJ, fun t7 f7 => ?_⟩
                have g7 : lf_gi t7 0 = nI (pJ P) := by rw [f7]; exact g5
                rw [g7]
                refine ⟨vJ, fun t9 f9 => ?_⟩
                have g9 : lf_gi t9 0 = nI (pJ P) := by rw [f9]; exact g7
                rw [g9]
                refine ⟨vJ, fun t11 f11 t12 f12 => ?_⟩
                have g11 : lf_gi t11 0 = nI (pJ P) := by rw [f11]; exact g9
                rw [g11, nI_1] at f12
                have g12 : lf_gi t12 0 = nI (pJ P + 1) := by rw [f12]; rfl
                rw [nu_cl (by omega)] at f3 f5 f7 f9 f11
                rw [g12]
                refine ⟨(nI_pred (pJ P)).symm, pn_jt P a.toInt.toNat b.toInt.toNat e, hwf, ?_, hk4, Or.inl h6, Or.inl ⟨h8, by rw [f12]; rfl⟩⟩
                subst f3
                subst f5
                subst f7
                subst f9
                subst f11
                subst f12
                obtain ⟨m1, m2, m3, m4, m5, m6, m7⟩ := hM
                refine ⟨rfl, m2, m3, m4, fun j hj => ?_, m6, m7⟩
                have hj : j < pJ P + 1 := hj
                rw [jt_X, jt_Y, jt_U, jt_V, jt_E]
                show upd (lf_ai τ 1) (pJ P) a j = _ ∧ upd (lf_ai τ 2) (pJ P) b j = _ ∧ upd (lf_ai τ 3) (pJ P) (vp_nar .boolean c) j = _ ∧ upd (lf_ai τ 4) (pJ P) 0 j = _ ∧ upd (lf_ai τ 5) (pJ P) 0 j = _
                by_cases q : j = pJ P
                · rw [if_pos q, if_pos q, if_pos q, if_pos q, if_pos q, q, pk_us, pk_us, pk_us, pk_us, pk_us, he, nu_zb]
                  exact ⟨ea, eb, rfl, rfl, rfl⟩
                · rw [if_neg q, if_neg q, if_neg q, if_neg q, if_neg q, pk_un q, pk_un q, pk_un q, pk_un q, pk_un q]
                  exact m5 j (by omega)
              · intro m2 k _ hk _ ih
                show L_X6_joint_54 _ (m2 + 1) _ _ _ _ _
                unfold L_X6_joint_54
                rw [hM.1, nu_cl (n := k) (by omega), (hM.2.2.2.2.1 k hk).1, (hM.2.2.2.2.1 k hk).2.1]
                refine ⟨fun h => absurd h (nI_ge hk (by omega)), fun _ => ⟨vp_in_nI (by omega) (by omega), fun _ v e => ?_, fun q1 => ⟨vp_in_nI (by omega) (by omega), fun _ v e => ?_, fun q2 => absurd ⟨q1, q2⟩ (hq k hk)⟩⟩⟩
                · rw [e, nI_1]; exact ih () trivial
                · rw [e, nI_1]; exact ih () trivial
            -- the class's end
            unfold wp_X5_forgetAnswers wp_X2_addJoint
            dsimp only
            rw [← hσ']
            have g0 : lf_gi σ' 0 = nI (pJ P) := by rw [hσ']; exact hK.1
            refine fun v1 e1 => ?_
            rw [g0] at e1
            subst e1
            have vJ : vp_in (nI (pJ P)) 6 := vp_in_nI hJ6 (by omega)
            rw [nu_cl (by omega)]
            obtain ⟨k1, k2, k3, k4, k5, k6, k7, k8, k9⟩ := hK
            have hbars : ∀ d, d < pB P → lf_ai σ 6 d = nI (pF P d) ∧ lf_ai σ 7 d = nI (pT P d) ∧ lf_ai σ 8 d = Int32.ofInt (pdx (pn_jt P a.toInt.toNat b.toInt.toNat e) d) ∧ lf_ai σ 9 d = Int32.ofInt (pdy (pn_jt P a.toInt.toNat b.toInt.toNat e) d) ∧ lf_ai σ 10 d = Int32.ofInt (pst (pn_jt P a.toInt.toNat b.toInt.toNat e) d) ∧ lf_ai σ 11 d = nI (pcm (pn_jt P a.toInt.toNat b.toInt.toNat e) d d) := by
              intro d hd
              obtain ⟨q1, q2, q3, q4, q5, q6⟩ := k7 d hd
              obtain ⟨b1, b2, b3⟩ := jt_bar wf (x := a.toInt.toNat) (y := b.toInt.toNat) (e := e) hd
              have b4 : pst (pn_jt P a.toInt.toNat b.toInt.toNat e) d = pst P d := by unfold pst; rw [b1, b2]
              rw [b1, b2, b3, b4]
              exact ⟨q1, q2, q3, q4, q5, q6⟩
            refine ⟨vJ, vJ, vJ, fun hc1 => ?_, fun hc0 σ6 e6 => ?_⟩
            · have hee : e = true := by
                cases e
                · rw [he] at hc1; exact absurd rfl hc1
                · rfl
              unfold J_X2_addJoint_55
              refine hend _ ⟨?_, ?_, ?_, ?_, ?_, fun j hj => ?_, ?_, ?_, ?_⟩ (by rw [hσ']; rfl) (by rw [hσ']; rfl)
              · show lf_gi σ' 0 + 1 = nI (pJ P + 1)
                rw [g0, nI_1]
              · show lf_gi σ' 1 = nI (pn_fc (pE (pn_jt P a.toInt.toNat b.toInt.toNat e)) (pJ P + 1))
                rw [jt_fcJ, hee, hσ']
                exact k2
              · rw [hσ']; exact k3
              · rw [hσ']; exact k4
              · rw [hσ']; exact k5
              · have hj : j < pJ P + 1 := hj
                rw [jt_X, jt_Y, jt_E, jt_U, jt_V]
                show upd (lf_ai σ' 2) (pJ P) a j = _ ∧ upd (lf_ai σ' 3) (pJ P) b j = _ ∧ upd (lf_ai σ' 4) (pJ P) (-1) j = _ ∧ (_ → lf_ai σ' 5 _ = _ ∧ lf_ai σ' 5 _ = _)
                have hW : pW (pn_jt P a.toInt.toNat b.toInt.toNat e) j = pW P j := by unfold pW; rw [jt_fc (by omega)]
                rw [hW]
                by_cases q : j = pJ P
                · rw [if_pos q, if_pos q, if_pos q, if_pos q, if_pos q, q, pk_us, pk_us, pk_us, hee]
                  exact ⟨ea, eb, rfl, fun q => absurd q (by decide)⟩
                · rw [if_neg q, if_neg q, if_neg q, if_neg q, if_neg q, pk_un q, pk_un q, pk_un q, hσ']
                  exact k6 j (by omega)
              · rw [hσ']; exact hbars
              · rw [hσ']; exact k8
              · intro r h1 h2
                rw [hσ']
                refine k9 r ?_ h2
                have h1 : 2 * pn_fc (pE (pn_jt P a.toInt.toNat b.toInt.toNat e)) (pJ P + 1) ≤ r := h1
                rw [jt_fcJ, hee] at h1
                exact h1
            · have hee : e = false := by
                cases e
                · rfl
                · rw [he] at hc0; exact absurd hc0 (by decide)
              have hr3 := hroom hee
              unfold wp_X2_rows
              have g1 : lf_gi σ6 1 = nI (pn_fc (pE P) (pJ P)) := by rw [e6, hσ']; exact k2
              rw [g1, nu_2]
              refine ⟨vJ, fun σ9 e9 => ?_⟩
              unfold J_X2_addJoint_55
              have g9 : lf_gi σ9 1 = nI (pn_fc (pE P) (pJ P)) := by rw [e9]; exact g1
              rw [g9, nI_1]
              refine hend _ ⟨?_, ?_, ?_, ?_, ?_, fun j hj => ?_, ?_, ?_, ?_⟩ (by rw [e9, e6, hσ']; rfl) (by rw [e9, e6, hσ']; rfl)
              · show lf_gi σ9 0 + 1 = nI (pJ P + 1)
                have : lf_gi σ9 0 = nI (pJ P) := by rw [e9, e6]; exact g0
                rw [this, nI_1]
              · show nI (pn_fc (pE P) (pJ P) + 1) = nI (pn_fc (pE (pn_jt P a.toInt.toNat b.toInt.toNat e)) (pJ P + 1))
                rw [jt_fcJ, hee]
                rfl
              · rw [e9, e6, hσ']; exact k3
              · rw [e9, e6, hσ']; exact k4
              · rw [e9, e6, hσ']; exact k5
              · have hj : j < pJ P + 1 := hj
                rw [jt_X, jt_Y, jt_E, jt_U, jt_V, e9, e6]
                show upd (lf_ai σ' 2) (pJ P) a j = _ ∧ upd (lf_ai σ' 3) (pJ P) b j = _ ∧ upd (upd (lf_ai σ' 4) (pJ P) (-1)) (pJ P) (nI (2 * pn_fc (pE P) (pJ P))) j = _ ∧ (_ → lf_ai σ' 5 _ = _ ∧ lf_ai σ' 5 _ = _)
                have hW : pW (pn_jt P a.toInt.toNat b.toInt.toNat e) j = pW P j := by unfold pW; rw [jt_fc (by omega)]
                rw [hW]
                by_cases q : j = pJ P
                · rw [if_pos q, if_pos q, if_pos q, if_pos q, if_pos q, q, pk_us, pk_us, pk_us, hee]
                  refine ⟨ea, eb, rfl, fun _ => ?_⟩
                  rw [hσ']
                  exact ⟨k9 _ (Nat.le_refl _) (by show 2 * _ < 6; omega), k9 _ (Nat.le_succ _) (by show 2 * _ + 1 < 6; omega)⟩
                · rw [if_neg q, if_neg q, if_neg q, if_neg q, if_neg q, pk_un q, pk_un q, pk_un q, pk_un q, hσ']
                  exact k6 j (by omega)
              · rw [e9, e6, hσ']; exact hbars
              · rw [e9, e6, hσ']; exact k8
              · intro r h1 h2
                rw [e9, e6, hσ']
                refine k9 r ?_ h2
                have h1 : 2 * pn_fc (pE (pn_jt P a.toInt.toNat b.toInt.toNat e)) (pJ P + 1) ≤ r := h1
                rw [jt_fcJ] at h1
                show 2 * pn_fc (pE P) (pJ P) ≤ r
                omega
          · intro m k _ hk hq ih
            show L_X2_hasJointAt_2 _ (m + 1) _ _ _ _
            unfold L_X2_hasJointAt_2
            rw [hK.1, nu_cl (n := k) (by omega), (hK.2.2.2.2.2.1 k hk).1, (hK.2.2.2.2.2.1 k hk).2.1]
            refine ⟨fun h => absurd h (nI_ge hk (by omega)), fun _ => ⟨vp_in_nI (by omega) (by omega), fun hne v e => ?_, fun q1 => ⟨vp_in_nI (by omega) (by omega), fun hne v e => ?_, fun q2 => ⟨fun q => absurd q (by decide), fun _ => ?_⟩⟩⟩⟩
            · rw [e, nI_1]
              refine ih () (fun i hi => ?_)
              by_cases q : i = k
              · rw [q]; exact fun z => hne z.1
              · exact hq i (by omega)
            · rw [e, nI_1]
              refine ih () (fun i hi => ?_)
              by_cases q : i = k
              · rw [q]; exact fun z => hne z.2
              · exact hq i (by omega)
            · show wp_X6_joint a b c τ _
              refine hm3 _ ?_
              have y := pk_loop (fun fu i (_ : Unit) => L_X6_joint_54 (fun r' τ' => (-5 : Int32) = r' ∧ pu_Inv σ τ') fu a b c (nI i) τ) (fun i _ => i ≤ k) (pJ P) 0 () (by omega) (by omega) ?_ ?_
              · rw [nI_0] at y
                exact y
              · intro m2 _ hle
                exact absurd hle (by omega)
              · intro m2 i _ hi hle ih2
                show L_X6_joint_54 _ (m2 + 1) _ _ _ _ _
                unfold L_X6_joint_54
                rw [hM.1, nu_cl (n := i) (by omega), (hM.2.2.2.2.1 i hi).1, (hM.2.2.2.2.1 i hi).2.1]
                refine ⟨fun h => absurd h (nI_ge hi (by omega)), fun _ => ⟨vp_in_nI (by omega) (by omega), fun hne v e => ?_, fun q1 => ⟨vp_in_nI (by omega) (by omega), fun hne v e => ?_, fun _ => ⟨rfl, hI⟩⟩⟩⟩
                · rw [e, nI_1]
                  refine ih2 () ?_
                  by_cases q : i = k
                  · subst q; exact absurd q1 hne
                  · omega
                · rw [e, nI_1]
                  refine ih2 () ?_
                  by_cases q : i = k
                  · subst q; exact absurd q2 hne
                  · omega
        refine ⟨fun hc1 => key (fun q => ?_), fun hc0 => ⟨fun hlt => key (fun _ => ?_), fun hge => ?_⟩⟩
        · rw [he, q] at hc1
          exact absurd rfl hc1
        · have := nu_lt.mp hlt
          rw [nu_nI (by omega)] at this
          have : (3 : Int32).toInt = 3 := rfl
          omega
        · have h3 : pn_fc (pE P) (pJ P) = 3 := by
            have : ¬ (nI (pn_fc (pE P) (pJ P))).toInt < (3 : Int32).toInt := fun q => hge (nu_lt.mpr q)
            rw [nu_nI (by omega)] at this
            have : (3 : Int32).toInt = 3 := rfl
            omega
          exact hmm _ ⟨fun q => absurd q hn6, fun _ => ⟨fun q => absurd hc0 q, fun _ => frs _ ⟨fun q => absurd (e3.mpr h3) q, fun _ => ⟨rfl, hI⟩⟩⟩⟩
    · unfold wp_X6_joint
      exact hmM a _ (fun _ _ => ⟨fun q => absurd q (by decide), fun _ => hmM b _ (fun p q => absurd ⟨p, q⟩ hb) (fun _ => ⟨fun q => absurd rfl q, fun _ => ⟨rfl, hI⟩⟩)⟩) (fun q => absurd ⟨a1, a2⟩ q)
  · unfold wp_X6_joint
    exact hmM a _ (fun p q => absurd ⟨p, q⟩ ha) (fun _ => ⟨fun _ => ⟨rfl, hI⟩, fun q => absurd rfl q⟩)
