theorem pu_size : lo_size pu_Inv := by
  intro σ τ hI a
  obtain ⟨P, wf, hM, hK, hC, hF⟩ := id hI
  have hS := wf.2.2.1
  have z1 : (1 : Int32).toInt = 1 := rfl
  have z2 : (200 : Int32).toInt = 200 := by decide
  by_cases h : 1 ≤ a.toInt ∧ a.toInt ≤ 200
  · have ea : a = nI a.toInt.toNat := nu_toNat (by omega)
    have hm1 : ∀ Q : Int32 → lf_St → Prop, Q 1 τ → wp_X6_in a.toInt64 1 200 τ Q := fun Q q => sp_inI (a := 1) (b := 200) rfl rfl (fun _ _ => q) (fun q => absurd (by omega) q)
    unfold wp_X5_size
    refine ⟨fun q => absurd (nu_lt.mp q) (by omega), fun _ => ⟨fun _ => ?_, fun q => absurd (nu_le.mpr (by omega)) q⟩⟩
    rw [hK.2.2.2.1]
    refine ⟨fun hlt => ?_, fun hge => ?_⟩
    · have hlt5 : pS P < 5 := by
        have := nu_lt.mp hlt
        rw [nu_nI (by omega)] at this
        have : (5 : Int32).toInt = 5 := rfl
        omega
      have h5 : ¬ nI (pS P) = 5 := fun q => by
        have := (nI_eq (a := pS P) (b := 5) (by omega) (by omega)).mp q
        omega
      unfold wp_X2_hasSize
      have z := pk_loop (fun fu k (_ : Unit) => L_X2_hasSize_2 (fun r4 σ4 => ((r4 = 0) → (wp_X5_forgetAnswers σ4 (fun σ6 => wp_X2_addSize a σ6 (fun r7 σ7 => (fun r σ' => wp_X6_size a τ (fun r' τ' => r = r' ∧ pu_Inv σ' τ')) r7 σ7)))) ∧ ((¬ (r4 = 0)) → ((fun r σ' => wp_X6_size a τ (fun r' τ' => r = r' ∧ pu_Inv σ' τ')) (-5) σ4))) fu a (nI k) σ) (fun k _ => ∀ i, i < k → nI (pZ P i) ≠ a) (pS P) 0 () (by omega) (fun i h => absurd h (Nat.not_lt_zero i)) ?_ ?_
      · rw [nI_0] at z
        exact z
      · intro m _ hq
        show L_X2_hasSize_2 _ (m + 1) _ _ _
        unfold L_X2_hasSize_2
        rw [hK.2.2.2.1]
        refine ⟨fun _ => ⟨fun _ => ?_, fun q => absurd rfl q⟩, fun h => absurd (nI_le (Nat.le_refl _) (by omega)) h⟩
        unfold wp_X5_forgetAnswers wp_X2_addSize
        have g3 : lf_gi (lf_si (lf_si σ 6 0) 8 0) 3 = nI (pS P) := hK.2.2.2.1
        dsimp only
        rw [g3]
        refine ⟨vp_in_nI (by omega) (by omega), fun σ2 e2 σ3 e3 => ?_⟩
        unfold wp_X6_size
        refine hm1 _ ⟨fun _ => ⟨fun _ => ?_, fun q => absurd q (by rw [hM.2.2.1]; exact h5)⟩, fun q => absurd q (by decide)⟩
        have y := pk_loop (fun fu k (_ : Unit) => L_X6_size_28 (fun r' τ' => lf_gi σ3 3 = r' ∧ pu_Inv σ3 τ') fu a (nI k) τ) (fun _ _ => True) (pS P) 0 () (by omega) trivial ?_ ?_
        · rw [nI_0] at y
          exact y
        · intro m2 _ _
          show L_X6_size_28 _ (m2 + 1) _ _ _
          unfold L_X6_size_28
          rw [hM.2.2.1]
          refine ⟨fun _ => ⟨vp_in_nI (by omega) (by omega), fun τ3 f3 τ4 f4 => ?_⟩, fun h => absurd (nI_le (Nat.le_refl _) (by omega)) h⟩
          subst e2
          subst e3
          subst f3
          subst f4
          have s1 : lf_gi σ 3 + 1 = nI (pS P + 1) := by rw [hK.2.2.2.1]; exact nI_1 _
          have s2 : lf_gi τ 9 + 1 = nI (pS P + 1) := by rw [hM.2.2.1]; exact nI_1 _
          refine ⟨s1.trans s2.symm, ?_⟩
          obtain ⟨w1, w2, w3, w4, w5, w6, w7, w8, w9, w10⟩ := wf
          obtain ⟨m1, m2, m3, m4, m5, m6, m7⟩ := hM
          obtain ⟨k1, k2, k3, k4, k5, k6, k7, k8, k9⟩ := hK
          refine ⟨((pJ P, pB P, pS P + 1, pC P), pX P, pY P, pE P, pU P, pV P, pF P, pT P, fun k => if k = pS P then a.toInt.toNat else pZ P k), ⟨w1, w2, hlt5, w4, w5, w6, w7, w8, w9, fun k hk => ?_⟩, ⟨m1, m2, s2, m4, m5, m6, fun k hk => ?_⟩, ⟨k1, k2, k3, s1, k5, k6, fun b hb => ?_, fun k hk => ?_, k9⟩, Or.inl rfl, Or.inl ⟨rfl, rfl⟩⟩
          · show 1 ≤ (if k = pS P then a.toInt.toNat else pZ P k) ∧ (if k = pS P then a.toInt.toNat else pZ P k) ≤ 200
            by_cases e : k = pS P
            · rw [if_pos e]; omega
            · rw [if_neg e]; exact w10 k (by have : k < pS P + 1 := hk; omega)
          · show upd (lf_ai τ 10) (nI (pS P)).toNatClampNeg a k = nI (if k = pS P then a.toInt.toNat else pZ P k)
            rw [nu_cl (by omega)]
            by_cases e : k = pS P
            · rw [if_pos e, e, pk_us]; exact ea
            · rw [if_neg e, pk_un e]; exact m7 k (by have : k < pS P + 1 := hk; omega)
          · obtain ⟨q1, q2, q3, q4, q5, q6⟩ := k7 b hb
            refine ⟨q1, q2, q3, q4, q5, q6.trans (congrArg nI ?_)⟩
            exact Eq.symm (pcm_congr (fun _ _ => rfl))
          · show upd (lf_ai σ 12) (nI (pS P)).toNatClampNeg a k = nI (if k = pS P then a.toInt.toNat else pZ P k)
            rw [nu_cl (by omega)]
            by_cases e : k = pS P
            · rw [if_pos e, e, pk_us]; exact ea
            · rw [if_neg e, pk_un e]; exact k8 k (by have : k < pS P + 1 := hk; omega)
        · intro m2 k _ hk _ ih
          show L_X6_size_28 _ (m2 + 1) _ _ _
          unfold L_X6_size_28
          rw [hM.2.2.1, nu_cl (n := k) (by omega), hM.2.2.2.2.2.2 k hk]
          refine ⟨fun h => absurd h (nI_ge hk (by omega)), fun _ => ⟨vp_in_nI (by omega) (by omega), fun _ v e => ?_, fun q => absurd q (hq k hk)⟩⟩
          rw [e, nI_1]
          exact ih () trivial
      · intro m k _ hk hq ih
        show L_X2_hasSize_2 _ (m + 1) _ _ _
        unfold L_X2_hasSize_2
        rw [hK.2.2.2.1, nu_cl (by omega), hK.2.2.2.2.2.2.2.1 k hk]
        refine ⟨fun h => absurd h (nI_ge hk (by omega)), fun _ => ⟨vp_in_nI (by omega) (by omega), fun hne v e => ?_, fun heq => ⟨fun q => absurd q (by decide), fun _ => ?_⟩⟩⟩
        · rw [e, nI_1]
          refine ih () (fun i hi => ?_)
          by_cases q : i = k
          · rw [q]; exact hne
          · exact hq i (by omega)
        · show wp_X6_size a τ _
          unfold wp_X6_size
          refine hm1 _ ⟨fun _ => ⟨fun _ => ?_, fun q => absurd q (by rw [hM.2.2.1]; exact h5)⟩, fun q => absurd q (by decide)⟩
          have y := pk_loop (fun fu i (_ : Unit) => L_X6_size_28 (fun r' τ' => (-5 : Int32) = r' ∧ pu_Inv σ τ') fu a (nI i) τ) (fun i _ => i ≤ k) (pS P) 0 () (by omega) (by omega) ?_ ?_
          · rw [nI_0] at y
            exact y
          · intro m2 _ hle
            exact absurd hle (by omega)
          · intro m2 i _ hi hle ih2
            show L_X6_size_28 _ (m2 + 1) _ _ _
            unfold L_X6_size_28
            rw [hM.2.2.1, nu_cl (n := i) (by omega), hM.2.2.2.2.2.2 i hi]
            refine ⟨fun h => absurd h (nI_ge hi (by omega)), fun _ => ⟨vp_in_nI (by omega) (by omega), fun hne v e => ?_, fun _ => ⟨rfl, hI⟩⟩⟩
            rw [e, nI_1]
            refine ih2 () ?_
            by_cases q : i = k
            · rw [q] at hne; exact absurd heq hne
            · omega
    · have h5 : nI (pS P) = 5 := by
        have : ¬ (nI (pS P)).toInt < (5 : Int32).toInt := fun q => hge (nu_lt.mpr q)
        rw [nu_nI (by omega)] at this
        have : (5 : Int32).toInt = 5 := rfl
        rw [show pS P = 5 by omega]
        rfl
      show wp_X6_size a τ _
      unfold wp_X6_size
      exact hm1 _ ⟨fun _ => ⟨fun q => absurd (hM.2.2.1.trans h5) q, fun _ => ⟨rfl, hI⟩⟩, fun q => absurd q (by decide)⟩
  · have hm : wp_X6_size a τ (fun r' τ' => (-2 : Int32) = r' ∧ pu_Inv σ τ') := by
      unfold wp_X6_size
      exact sp_inI (a := 1) (b := 200) rfl rfl (fun p q => absurd ⟨by omega, by omega⟩ h) (fun _ => ⟨fun q => absurd rfl q, fun _ => ⟨rfl, hI⟩⟩)
    unfold wp_X5_size
    refine ⟨fun _ => hm, fun h1 => ⟨fun h2 => ?_, fun _ => hm⟩⟩
    have q1 : ¬ a.toInt < (1 : Int32).toInt := fun z => h1 (nu_lt.mpr z)
    have q2 := nu_le.mp h2
    exact absurd ⟨by omega, by omega⟩ h
theorem pu_load : lo_load pu_Inv := by
  intro σ τ hI a b c
  obtain ⟨P, wf, hM, hK, hC, hF⟩ := id hI
  have z1 : (-20 : Int32).toInt = -20 := by decide
  have z2 : (20 : Int32).toInt = 20 := by decide
  unfold wp_X5_load
  have hmL : ∀ (x : Int32) (Q : Int32 → lf_St → Prop), (-20 ≤ x.toInt → x.toInt ≤ 20 → Q 1 σ) → (¬ (-20 ≤ x.toInt ∧ x.toInt ≤ 20) → Q 0 σ) → wp_X5_isLoad x σ Q := by
    intro x Q h1 h0
    unfold wp_X5_isLoad
    refine ⟨fun q => h0 (fun z => by have := nu_lt.mp q; omega), fun q => ⟨fun p => h0 (fun z => by have := nu_lt.mp p; omega), fun p => h1 ?_ ?_⟩⟩
    · have : ¬ x.toInt < (-20 : Int32).toInt := fun z => q (nu_lt.mpr z)
      omega
    · have : ¬ (20 : Int32).toInt < x.toInt := fun z => p (nu_lt.mpr z)
      omega
  have hmM : ∀ (x : Int32) (Q : Int32 → lf_St → Prop), (-20 ≤ x.toInt → x.toInt ≤ 20 → Q 1 τ) → (¬ (-20 ≤ x.toInt ∧ x.toInt ≤ 20) → Q 0 τ) → wp_X6_in x.toInt64 (-20) 20 τ Q := by
    intro x Q h1 h0
    exact sp_inI (a := -20) (b := 20) (by decide) rfl (fun p q => h1 (by omega) (by omega)) (fun p => h0 (fun z => p (by omega)))
  refine sp_hasJoint hK.1 wf.1 (fun j hj e => ⟨fun _ => ?_, fun q => absurd q (by decide)⟩) (fun hn => ⟨fun q => absurd rfl q, fun _ => ?_⟩)
  · subst e
    have hj6 : j < 6 := by have := wf.1; omega
    have hw : ∀ Q : Int32 → lf_St → Prop, (Q 1 τ) → wp_X6_isJoint (nI j) τ Q := fun Q h => sp_isJoint hM.1 wf.1 (fun _ _ _ => h) (fun hn => absurd rfl (hn j hj))
    have vj : vp_in (nI j) 6 := vp_in_nI hj6 (by omega)
    refine hmL b _ (fun b1 b2 => ⟨fun q => absurd q (by decide), fun _ => ?_⟩) (fun hb => ⟨fun _ => ?_, fun q => absurd rfl q⟩)
    · refine hmL c _ (fun c1 c2 => ⟨fun _ => ?_, fun q => absurd q (by decide)⟩) (fun hc => ⟨fun q => absurd rfl q, fun _ => ?_⟩)
      · obtain ⟨k1, k2, k3, k4⟩ := hK.2.2.2.2.2.1 j hj
        obtain ⟨n1, n2, n3, n4, n5⟩ := hM.2.2.2.2.1 j hj
        rw [nu_cl (by omega), k3]
        refine ⟨vj, fun v8 e8 => ⟨fun hne => ?_, fun heq => ?_⟩⟩
        · have hf : pE P j = false := by
            cases h : pE P j
            · rfl
            · rw [h] at e8; exact absurd e8 hne
          rw [hf] at e8
          have e8 : v8 = nI (pW P j) := e8
          subst e8
          have w6 : pW P j + 1 < 6 := by
            have h1 := wf.2.2.2.2.1
            have h2 : pn_fc (pE P) j + 1 ≤ pn_fc (pE P) (pJ P) := pn_fc_lt hf hj
            unfold pW
            omega
          unfold wp_X5_forgetAnswers
          rw [nI_1, nu_cl (by omega), nu_cl (by omega)]
          refine ⟨vp_in_nI (by omega) (by omega), vp_in_nI (by omega) (by omega), ?_⟩
          unfold wp_X6_load
          refine hw _ ⟨fun _ => hmM b _ (fun _ _ => ⟨fun q => absurd q (by decide), fun _ => hmM c _ (fun _ _ => ⟨fun _ => ?_, fun q => absurd q (by decide)⟩) (fun q => absurd ⟨c1, c2⟩ q)⟩) (fun q => absurd ⟨b1, b2⟩ q), fun q => absurd q (by decide)⟩
          rw [nu_cl (by omega), n3, hf]
          refine ⟨vj, fun _ => ⟨vj, vj, rfl, ?_⟩, fun q => absurd rfl q⟩
          obtain ⟨w1, w2, w3, w4, w5, w6', w7, w8, w9, w10⟩ := wf
          obtain ⟨m1, m2, m3, m4, m5, m6, m7⟩ := hM
          obtain ⟨j1, j2, j3, j4, j5, j6, j7, j8, j9⟩ := hK
          refine ⟨((pJ P, pB P, pS P, pC P), pX P, pY P, pE P, (fun i => if i = j then b.toInt else pU P i), (fun i => if i = j then c.toInt else pV P i), pF P, pT P, pZ P), ⟨w1, w2, w3, w4, w5, fun i hi => ?_, w7, w8, w9, w10⟩, ⟨m1, m2, m3, m4, fun i hi => ?_, m6, m7⟩, ⟨j1, j2, j3, j4, j5, fun i hi => ?_, fun d hd => ?_, j8, fun r hr1 hr2 => ?_⟩, Or.inl rfl, Or.inl ⟨rfl, rfl⟩⟩
          · obtain ⟨q1, q2, q3, q4, q5⟩ := w6' i hi
            refine ⟨q1, q2, ?_, ?_, fun q => ?_⟩
            · show (if i = j then b.toInt else pU P i).natAbs ≤ 20
              by_cases e : i = j
              · rw [if_pos e]; omega
              · rw [if_neg e]; exact q3
            · show (if i = j then c.toInt else pV P i).natAbs ≤ 20
              by_cases e : i = j
              · rw [if_pos e]; omega
              · rw [if_neg e]; exact q4
            · have hne : i ≠ j := fun e => by
                have q : pE P i = true := q
                rw [e, hf] at q
                cases q
              show (if i = j then b.toInt else pU P i) = 0 ∧ (if i = j then c.toInt else pV P i) = 0
              rw [if_neg hne, if_neg hne]
              exact q5 q
          · obtain ⟨q1, q2, q3, q4, q5⟩ := m5 i hi
            refine ⟨q1, q2, q3, ?_, ?_⟩
            · show upd (lf_ai τ 4) j b i = Int32.ofInt (if i = j then b.toInt else pU P i)
              by_cases e : i = j
              · rw [if_pos e, e, pk_us, Int32.ofInt_toInt]
              · rw [if_neg e, pk_un e]; exact q4
            · show upd (lf_ai τ 5) j c i = Int32.ofInt (if i = j then c.toInt else pV P i)
              by_cases e : i = j
              · rw [if_pos e, e, pk_us, Int32.ofInt_toInt]
              · rw [if_neg e, pk_un e]; exact q5
          · obtain ⟨q1, q2, q3, q4⟩ := j6 i hi
            refine ⟨q1, q2, q3, fun hfi => ?_⟩
            show upd (upd (lf_ai σ 5) (pW P j) b) (pW P j + 1) c (pW P i) = Int32.ofInt (if i = j then b.toInt else pU P i) ∧ upd (upd (lf_ai σ 5) (pW P j) b) (pW P j + 1) c (pW P i + 1) = Int32.ofInt (if i = j then c.toInt else pV P i)
            have hfi : pE P i = false := hfi
            by_cases e : i = j
            · subst e
              rw [if_pos rfl, if_pos rfl, pk_un (by omega), pk_us, pk_us, Int32.ofInt_toInt, Int32.ofInt_toInt]
              exact ⟨rfl, rfl⟩
            · have hne : pn_fc (pE P) i ≠ pn_fc (pE P) j := by
                rcases Nat.lt_or_gt_of_ne e with q | q
                · have := pn_fc_lt hfi q; omega
                · have := pn_fc_lt hf q; omega
              have : pW P i ≠ pW P j := by unfold pW; omega
              have hh : pW P i = 2 * pn_fc (pE P) i := rfl
              have hh2 : pW P j = 2 * pn_fc (pE P) j := rfl
              rw [if_neg e, if_neg e, pk_un (by omega), pk_un (by omega), pk_un (by omega), pk_un (by omega)]
              exact q4 hfi
          · obtain ⟨q1, q2, q3, q4, q5, q6⟩ := j7 d hd
            refine ⟨q1, q2, q3, q4, q5, q6.trans (congrArg nI ?_)⟩
            exact Eq.symm (pcm_congr (fun _ _ => rfl))
          · show upd (upd (lf_ai σ 5) (pW P j) b) (pW P j + 1) c r = 0
            have hr1 : pR P ≤ r := hr1
            have h2 : pn_fc (pE P) j + 1 ≤ pn_fc (pE P) (pJ P) := pn_fc_lt hf hj
            have hh : pR P = 2 * pn_fc (pE P) (pJ P) := rfl
            have hh2 : pW P j = 2 * pn_fc (pE P) j := rfl
            rw [pk_un (by omega), pk_un (by omega)]
            exact j9 r hr1 hr2
        · have hf : pE P j = true := by
            cases h : pE P j
            · rw [h] at e8
              have h1 := wf.2.2.2.2.1
              have h2 : pn_fc (pE P) j + 1 ≤ pn_fc (pE P) (pJ P) := pn_fc_lt h hj
              exact absurd (e8.symm.trans heq) (nu_nm1 (by show 2 * pn_fc (pE P) j < _; omega))
            · rfl
          unfold wp_X6_load
          refine hw _ ⟨fun _ => hmM b _ (fun _ _ => ⟨fun q => absurd q (by decide), fun _ => hmM c _ (fun _ _ => ⟨fun _ => ?_, fun q => absurd q (by decide)⟩) (fun q => absurd ⟨c1, c2⟩ q)⟩) (fun q => absurd ⟨b1, b2⟩ q), fun q => absurd q (by decide)⟩
          rw [nu_cl (by omega), n3, hf]
          exact ⟨vj, fun q => absurd q (by decide), fun _ => ⟨rfl, hI⟩⟩
      · unfold wp_X6_load
        exact hw _ ⟨fun _ => hmM b _ (fun _ _ => ⟨fun q => absurd q (by decide), fun _ => hmM c _ (fun p q => absurd ⟨p, q⟩ hc) (fun _ => ⟨fun q => absurd rfl q, fun _ => ⟨rfl, hI⟩⟩)⟩) (fun q => absurd ⟨b1, b2⟩ q), fun q => absurd q (by decide)⟩
    · unfold wp_X6_load
      exact hw _ ⟨fun _ => hmM b _ (fun p q => absurd ⟨p, q⟩ hb) (fun _ => ⟨fun _ => ⟨rfl, hI⟩, fun q => absurd rfl q⟩), fun q => absurd q (by decide)⟩
  · unfold wp_X6_load
    exact sp_isJoint hM.1 wf.1 (fun j hj e => absurd e (hn j hj)) (fun _ => ⟨fun q => absurd rfl q, fun _ => ⟨rfl, hI⟩⟩)
