/-! PROVE, FIELD, SLACK -/
theorem pfs_to {P : pn_T} {s g : Nat} (h : pfs P s g) : ∃ p, pfirst P p g ∧ (pchs P).getD p 0 = s := by
  obtain ⟨h1, h2, h3, h4, h5, h6, h7⟩ := h
  obtain ⟨p, hp, ep⟩ := pchs_ix (pchs_mem.mpr ⟨h1, h2⟩)
  refine ⟨p, ⟨hp, by rw [ep]; exact h3, by rw [ep]; exact h4, by rw [ep]; exact h5, by rw [ep]; exact h6, fun p' hp' => ?_⟩, ep⟩
  have hm := pchs_mem.mp (pchs_at (show p' < (pchs P).length by omega))
  have ho := pchs_ord hp' hp
  rw [ep] at ho
  exact h7 _ hm.1 hm.2 ho
theorem sp_prove {P : pn_T} {τ : lf_St} (wf : pwf P) (hM : pM P τ) {Post : Int32 → lf_St → Prop} (h0 : (∀ s g, ¬ pfs P s g) → ∀ t x y a b, mR P (0, x, y, a, b) t → Post (-6) t) (h1 : ∀ s g, pfs P s g → ∀ t x y a b, mR P (0, x, y, a, b) t → a.toInt = pbel P s → (∀ r, r < pR P → (b r).toInt = pff P s g r) → Post (nI s) (lf_si t 12 1)) : wp_X6_prove τ Post := by
  intro τ1 e1
  have hI : mI P (0, lf_gl τ 22, lf_gl τ 23, lf_gl τ 25, lf_al τ 24) τ1 := by
    rw [e1]
    exact ⟨hM, rfl, rfl, rfl, rfl, rfl⟩
  refine sp_find (k := 0) wf hI (by decide) (fun hno t x y hR => ⟨fun h => absurd h m6_neg, fun _ => h0 (fun s g hf => ?_) t x y _ _ hR⟩) (fun s0 c0 hb t x y hR ex ey => ⟨fun _ => ?_, fun h => absurd (nI_nn (set_31 wf hb.1)) h⟩)
  · obtain ⟨s1, c1, hb, -⟩ := hf.2.2.1
    exact hno s1 c1 hb.1 hb.2.1 hb.2.2.1
  · refine sp_after (n := 2 ^ pB P) wf hR (Nat.le_refl _) (Or.inl ⟨rfl, rfl⟩) (fun x1 hx => ⟨2 ^ pB P + 1, ?_⟩)
    refine sp_proveLoop wf hb ex ey (fun hall t' a b hR' => h0 (fun s g hf => ?_) t' x y a b hR') (fun s g hf t' a b hR' q1 q2 => h1 s g hf t' x y a b hR' q1 q2) (2 ^ pB P) (2 ^ pB P) x1 t _ _ (Nat.le_refl _) (Nat.le_refl _) hx hR (fun c q1 q2 => absurd q2 (by omega))
    exact hall s hf.1 hf.2.1 hf.2.2.1 g hf.2.2.2.1 hf.2.2.2.2.1
theorem pu_prove : lo_prove pu_Inv := by
  intro σ τ ⟨P, wf, hM, hK, hkn, hpf⟩
  unfold wp_X5_prove
  refine sc_frameOf (k := 0) wf hK hkn (by decide) (fun σ1 hS h6 hKn => ⟨vp_in_nI (n := 0) (by decide) (by decide), ?_⟩)
  show ((lf_gi σ1 20 = 0) → J_X5_prove_34 _ σ1) ∧ ((¬ (lf_gi σ1 20 = 0)) → (((¬ (lf_gi σ1 8) = 0) → J_X5_prove_34 _ σ1) ∧ (((lf_gi σ1 8) = 0) → wp_X3_look 0 σ1 (fun σ5 => J_X5_prove_34 _ σ5))))
  -- nothing is proved
  have none : ∀ σ' : lf_St, pK P σ' → lf_gi σ' 6 = 1 → pKn P σ' → lf_gi σ' 8 = 0 → (∀ s g, ¬ pfs P s g) → wp_X6_prove τ (fun r' τ' => (-6 : Int32) = r' ∧ pu_Inv σ' τ') := by
    intro σ' k1 k2 k3 k4 hno
    exact sp_prove wf hM (fun _ t x y a b hR => ⟨rfl, P, wf, hR.1.1, k1, Or.inr ⟨k2, k3⟩, Or.inl ⟨k4, hR.1.2.1⟩⟩) (fun s g hf => absurd hf (hno s g))
  have some : ∀ (σ' : lf_St) (p g : Nat), pK P σ' → lf_gi σ' 6 = 1 → pKn P σ' → lf_gi σ' 8 = 1 → pfirst P p g → lf_gi σ' 9 = nI ((pchs P).getD p 0) → cFd P ((pchs P).getD p 0) g σ' → wp_X6_prove τ (fun r' τ' => lf_gi σ' 9 = r' ∧ pu_Inv σ' τ') := by
    intro σ' p g k1 k2 k3 k4 hf k5 ⟨k6, f, k7, k8⟩
    have hfs := pfs_of hf
    refine sp_prove wf hM (fun hno => absurd hfs (hno _ _)) (fun s g' hf' t x y a b hR ea eb => ?_)
    obtain ⟨es, eg⟩ := pfs_uniq hfs hf'
    rw [← es] at ea eb ⊢
    rw [← eg] at eb
    have g25 : lf_gl t 25 = a := hR.1.2.2.2.2.1
    have g24 : lf_al t 24 = b := hR.1.2.2.2.2.2
    refine ⟨k5, P, wf, hR.1.1, k1, Or.inr ⟨k2, k3⟩, Or.inr ⟨k4, rfl, p, g, f, hf, k5, k7, k6, ?_, fun r hr => ⟨k8 r hr, ?_⟩, hR.2.2⟩⟩
    · show (lf_gl t 25).toInt = _
      rw [g25]; exact ea
    · show (lf_al t 24 r).toInt = _
      rw [g24, eb r hr]
      exact pfd_uniq hfs.2.1 (pff_fd hfs.2.1 g) k7 r hr
  refine ⟨fun hz => ?_, fun hnz => ⟨fun h8 => ?_, fun h8 => ?_⟩⟩
  · have hno : ∀ s g, ¬ pfs P s g := by
      intro s g hf
      obtain ⟨s1, c1, hb, -⟩ := hf.2.2.1
      rcases hKn.2.2 0 (by decide) with ⟨-, f2⟩ | ⟨f1, -⟩
      · exact f2 s1 c1 hb.1 hb.2.1 hb.2.2.1
      · rw [show lf_gi σ1 (20 + 0) = lf_gi σ1 20 from rfl, hz] at f1
        cases f1
    have e8 : lf_gi σ1 8 = 0 := by
      rcases hpf with ⟨p1, -⟩ | ⟨-, -, p, g, f, q1, -⟩
      · exact hS.2.1.trans p1
      · exact absurd (pfs_of q1) (hno _ _)
    unfold J_X5_prove_34
    exact ⟨fun _ => none σ1 hS.1 h6 hKn e8 hno, fun h => absurd e8 h⟩
  · unfold J_X5_prove_34
    refine ⟨fun h => absurd h h8, fun _ => ?_⟩
    rcases hpf with ⟨p1, -⟩ | ⟨p1, -, p, g, f, q1, q2, q3, q4, q5, q6, q7⟩
    · exact absurd (hS.2.1.trans p1) h8
    · exact some σ1 p g hS.1 h6 hKn (hS.2.1.trans p1) q1 (hS.2.2.1.trans q2) ⟨by rw [hS.2.2.2.1]; exact q4, f, q3, fun r hr => by rw [hS.2.2.2.2]; exact (q6 r hr).1⟩
  · refine sc_proof wf hS.1 hKn h8 hnz (fun hno σ' hZ e8 => ?_) (fun p g hf σ' hZ e8 e9 hfd => ?_)
    · unfold J_X5_prove_34
      refine ⟨fun _ => none σ' (cZ_K hZ hS.1) ((hZ.1 6 (by decide) (by decide) (by decide) (by decide) (by decide) (by decide)).trans h6) (cZ_Kn hZ hKn) e8 (fun s g hf => ?_), fun h => absurd e8 h⟩
      obtain ⟨p, hp, -⟩ := pfs_to hf
      exact hno p g hp
    · unfold J_X5_prove_34
      refine ⟨fun h => absurd h (by rw [e8]; decide), fun _ => some σ' p g (cZ_K hZ hS.1) ((hZ.1 6 (by decide) (by decide) (by decide) (by decide) (by decide) (by decide)).trans h6) (cZ_Kn hZ hKn) e8 hf e9 hfd⟩
theorem pu_slack : lo_slack pu_Inv := by
  intro σ τ ⟨P, wf, hM, hK, hkn, hpf⟩ a b
  have hB := wf.2.1
  have inv : pu_Inv σ τ := ⟨P, wf, hM, hK, hkn, hpf⟩
  unfold wp_X5_slack wp_X6_slack
  rcases hpf with ⟨p1, p2⟩ | ⟨p1, p2, p, g, f, q1, q2, q3, q4, q5, q6, q7⟩
  · rw [p1, p2]
    exact ⟨fun h => absurd rfl h, fun _ => ⟨fun h => absurd rfl h, fun _ => ⟨rfl, inv⟩⟩⟩
  · have hfs := pfs_of q1
    have hc := hfs.2.1
    have hn := pch_nb hc
    have hl := pbel_le wf hn
    have hp := pbel_pos hc
    have hfl : ∀ r, r < pR P → (f r).natAbs ≤ 26121388032 := fun r hr => pfd_le wf hc q3 hr
    rw [p1, p2]
    refine ⟨fun _ => ?_, fun h => absurd h (by decide)⟩
    refine sp_hasBar hK.2.2.1 hB (fun j hj ej => ⟨fun _ => ?_, fun h => absurd h (by decide)⟩) (fun hnb => ⟨fun h => absurd rfl h, fun _ => ?_⟩)
    · rw [ej]
      refine sc_isPart (fun w hw ew => ⟨fun _ => ?_, fun h => absurd h (by decide)⟩) (fun hno => ⟨fun h => absurd rfl h, fun _ => ?_⟩)
      · refine sc_slackTop wf hK (fun r hr => (q6 r hr).1) hfl q4 (by omega) hl hj (fun v ev => ?_)
        have hs := pst_le wf hj
        have hnl := pnum_le wf hfl hj
        have ml := mul_le hs.1 hs.2 (show 0 ≤ pbel P ((pchs P).getD p 0) by omega) hl
        have q4' := q4
        have q5' := q5
        rw [pbel_nat] at q4' q5'
        have hl' := hl
        have hp' := hp
        rw [pbel_nat] at hl' hp'
        refine sc_part ev (by omega) q4' (by omega) (by omega) (fun u eu => ?_)
        refine ⟨fun _ => sp_isBar hM.2.1 hB (fun _ _ _ => ⟨fun _ => sp_part (fun _ _ _ => ⟨fun _ => ?_, fun h => absurd h (by decide)⟩) (fun h => absurd ew (h w hw)), fun h => absurd h (by decide)⟩) (fun h => absurd rfl (h j hj)), fun h => absurd h (by decide)⟩
        refine sp_stuff wf hM hj (fun r6 e6 => sp_number wf hM q7 (fun r hr => (q6 r hr).2) hfl hj (fun r7 e7 => sp_abs e7 (by omega) (fun r8 e8 => ?_)))
        have m1 := nu_mul64 (S := 72) (T := 2985984) (nu_n64 e6) q5 (by omega) (by omega) (by decide)
        have m2 := nu_sub64 (S := 72 * 2985984) (T := 626913312768) m1 e8 (by omega) (by omega) (by decide)
        exact sp_term m2 (by omega) q5' (by omega) (by omega) (fun u' eu' => ⟨nu_eq64.mpr (by rw [eu, eu']), inv⟩)
      · exact ⟨fun _ => sp_isBar hM.2.1 hB (fun _ _ _ => ⟨fun _ => sp_part (fun w hw ew => absurd ew (hno w hw)) (fun _ => ⟨fun h => absurd rfl h, fun _ => ⟨rfl, inv⟩⟩), fun h => absurd h (by decide)⟩) (fun h => absurd rfl (h j hj)), fun h => absurd h (by decide)⟩
    · exact ⟨fun _ => sp_isBar hM.2.1 hB (fun j hj ej => absurd ej (hnb j hj)) (fun _ => ⟨fun h => absurd rfl h, fun _ => ⟨rfl, inv⟩⟩), fun h => absurd h (by decide)⟩
theorem pu_field : lo_field pu_Inv := by
  intro σ τ ⟨P, wf, hM, hK, hkn, hpf⟩ a b d
  have hJ := wf.1
  have h6' := pR_6 wf
  have inv : pu_Inv σ τ := ⟨P, wf, hM, hK, hkn, hpf⟩
  unfold wp_X5_field wp_X6_field
  rcases hpf with ⟨p1, p2⟩ | ⟨p1, p2, p, g, f, q1, q2, q3, q4, q5, q6, q7⟩
  · rw [p1, p2]
    exact ⟨fun h => absurd rfl h, fun _ => ⟨fun h => absurd rfl h, fun _ => ⟨rfl, inv⟩⟩⟩
  · have hfs := pfs_of q1
    have hc := hfs.2.1
    have hn := pch_nb hc
    have hl := pbel_le wf hn
    have hp := pbel_pos hc
    have hfl : ∀ r, r < pR P → (f r).natAbs ≤ 26121388032 := fun r hr => pfd_le wf hc q3 hr
    rw [p1, p2]
    refine ⟨fun _ => ?_, fun h => absurd h (by decide)⟩
    refine sp_hasJoint hK.1 hJ (fun j hj ej => ⟨fun _ => ?_, fun h => absurd h (by decide)⟩) (fun hnb => ⟨fun h => absurd rfl h, fun _ => ?_⟩)
    · rw [ej]
      have out : (∀ w, w < 2 → b ≠ nI w) → (¬ ((1 : Int32) = 0) → (wp_X6_isJoint (nI j) τ (fun r2 σ2 => ((¬ r2 = 0) → (wp_X6_isPart b σ2 (fun r4 σ4 => ((r4 = 0) → ((-1000000000000002 : Int64) = -1000000000000002 ∧ pu_Inv σ σ4)) ∧ ((¬ (r4 = 0)) → (wp_X6_isPart d σ4 (fun r6 σ6 => ((¬ r6 = 0) → (vp_in (nI j) 6 ∧ ((((lf_ai σ6 3 (nI j).toNatClampNeg) = 0) → (vp_in (nI j) 6 ∧ (vp_in ((lf_ai σ6 13 (nI j).toNatClampNeg) + b) 6 ∧ (wp_X6_term (lf_al σ6 24 (((lf_ai σ6 13 (nI j).toNatClampNeg) + b) : Int32).toNatClampNeg) (lf_gl σ6 25) d σ6 (fun r12 σ12 => (-1000000000000002 : Int64) = r12 ∧ pu_Inv σ σ12))))) ∧ ((¬ ((lf_ai σ6 3 (nI j).toNatClampNeg) = 0)) → (wp_X6_term 0 1 d σ6 (fun r13 σ13 => (-1000000000000002 : Int64) = r13 ∧ pu_Inv σ σ13)))))) ∧ ((r6 = 0) → ((-1000000000000002 : Int64) = -1000000000000002 ∧ pu_Inv σ σ6)))))))) ∧ ((r2 = 0) → ((-1000000000000002 : Int64) = -1000000000000001 ∧ pu_Inv σ σ2))))) := by
        intro hno _
        exact sp_isJoint hM.1 hJ (fun _ _ _ => ⟨fun _ => sp_part (fun w hw ew => absurd ew (hno w hw)) (fun _ => ⟨fun _ => ⟨rfl, inv⟩, fun h => absurd rfl h⟩), fun h => absurd h (by decide)⟩) (fun h => absurd rfl (h j hj))
      have z0 : (0 : Int32).toInt = 0 := rfl
      have z1 : (1 : Int32).toInt = 1 := rfl
      refine ⟨fun h => ⟨out (fun w hw ew => ?_), fun h => absurd h (by decide)⟩, fun h0 => ⟨fun h => ⟨out (fun w hw ew => ?_), fun h => absurd h (by decide)⟩, fun h1 => ?_⟩⟩
      · rw [ew] at h
        exact nI_pos (by omega) h
      · rw [ew] at h
        exact nI_nlt (b := w) (a := 1) (by omega) (by decide) h
      · obtain ⟨w, hw, ew⟩ : ∃ w, w < 2 ∧ b = nI w := nu_of (n := 2) (by
          have : ¬ b.toInt < (0 : Int32).toInt := fun q => h0 (nu_lt.mpr q)
          omega) (by
          have : ¬ (1 : Int32).toInt < b.toInt := fun q => h1 (nu_lt.mpr q)
          omega) (by decide)
        rw [ew]
        refine sc_isPart (fun u hu eu => ⟨fun _ => ?_, fun h => absurd h (by decide)⟩) (fun hno => ⟨fun h => absurd rfl h, fun _ => ?_⟩)
        · have q4' := q4
          have q5' := q5
          have hl' := hl
          have hp' := hp
          rw [pbel_nat] at q4' q5' hl' hp'
          refine sc_fieldTop wf hK (fun r hr => (q6 r hr).1) hj hw (fun v ev => ?_)
          have hvl := pfv_le wf hfl hj hw
          refine sc_part ev (by omega) q4' (by omega) (by omega) (fun y ey => ?_)
          refine ⟨fun _ => sp_isJoint hM.1 hJ (fun _ _ _ => ⟨fun _ => sp_part (fun _ _ _ => ⟨fun h => absurd h (by decide), fun _ => sp_part (fun _ _ _ => ⟨fun _ => ?_, fun h => absurd h (by decide)⟩) (fun h => absurd eu (h u hu))⟩) (fun h => absurd rfl (h w hw)), fun h => absurd h (by decide)⟩) (fun h => absurd rfl (h j hj)), fun h => absurd h (by decide)⟩
          rw [nu_cl (n := j) (by omega), (hM.2.2.2.2.1 j hj).2.2.1, q7 j hj]
          have vj : vp_in (nI j) 6 := vp_in_nI (by omega) (by omega)
          refine ⟨vj, ?_⟩
          unfold pfv at ev ey hvl
          cases e : pE P j
          · have hW := pW_lt wf hj e
            rw [e, if_neg (by decide)] at ey hvl
            rw [if_neg (by decide), if_neg (by decide), nI_add, nu_cl (n := pW P j + w) (by omega)]
            refine ⟨fun _ => ⟨vj, vp_in_nI (by omega) (by omega), ?_⟩, fun h => absurd rfl h⟩
            exact sp_term (q6 _ (by omega)).2 (by omega) q5' (by omega) (by omega) (fun y' ey' => ⟨nu_eq64.mpr (by rw [ey, ey']), inv⟩)
          · rw [e, if_pos rfl, tq_off (by omega)] at ey
            rw [if_pos rfl]
            refine ⟨fun h => absurd h (by decide), fun _ => ?_⟩
            exact sp_term (A := 0) (B := 1) rfl (by decide) rfl (by decide) (by decide) (fun y' ey' => ⟨nu_eq64.mpr (by rw [ey, ey']), inv⟩)
        · exact ⟨fun _ => sp_isJoint hM.1 hJ (fun _ _ _ => ⟨fun _ => sp_part (fun _ _ _ => ⟨fun h => absurd h (by decide), fun _ => sp_part (fun u hu eu => absurd eu (hno u hu)) (fun _ => ⟨fun h => absurd rfl h, fun _ => ⟨rfl, inv⟩⟩)⟩) (fun h => absurd rfl (h w hw)), fun h => absurd h (by decide)⟩) (fun h => absurd rfl (h j hj)), fun h => absurd h (by decide)⟩
    · exact ⟨fun _ => sp_isJoint hM.1 hJ (fun j hj ej => absurd ej (hnb j hj)) (fun _ => ⟨fun h => absurd rfl h, fun _ => ⟨rfl, inv⟩⟩), fun h => absurd h (by decide)⟩
