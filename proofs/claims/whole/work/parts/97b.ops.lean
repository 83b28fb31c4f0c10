/-! WHAT IS ASKED OF THE SEARCH -/
theorem m6_neg : ¬ ((0 : Int32) ≤ -6) := by decide
theorem nI_nn {n : Nat} (h : n < 2 ^ 31) : (0 : Int32) ≤ nI n := nu_le.mpr (by rw [nu_nI h]; have : (0 : Int32).toInt = 0 := rfl; omega)
theorem set_31 {P : pn_T} (wf : pwf P) {s : Nat} (hs : s < 2 ^ pB P) : s < 2 ^ 31 := Nat.lt_of_lt_of_le hs (Nat.pow_le_pow_right (by decide) (by have := wf.2.1; omega))
theorem pu_frame : lo_frame pu_Inv := by
  intro σ τ ⟨P, wf, hM, hK, hkn, hpf⟩ a
  unfold wp_X5_frame
  refine sc_kind (fun k hk e => ⟨fun _ => ?_, fun h => absurd h (by decide)⟩) (fun hno => ⟨fun h => absurd rfl h, fun _ => ?_⟩)
  · rw [e]
    refine sc_frameOf wf hK hkn hk (fun σ' hS h6 hKn => ?_)
    rw [nu_cl (by omega)]
    refine ⟨vp_in_nI hk (by omega), ?_⟩
    unfold wp_X6_frame
    rcases hKn.2.2 k hk with ⟨f1, f2⟩ | ⟨f1, s, c, f2, f3, -⟩
    · rw [f1]
      refine ⟨fun _ => ?_, fun h => absurd rfl h⟩
      refine sp_kind (fun _ _ _ => ⟨fun h => absurd h (by decide), fun _ => sp_find wf (inv_mI hM) hk (fun _ τ' x y hR => ⟨rfl, inv_back wf hpf hS h6 hKn hR⟩) (fun s c hb => absurd hb.2.2.1 (f2 s c hb.1 hb.2.1))⟩) (fun h => absurd rfl (h k hk))
    · rw [f1, f3]
      refine ⟨fun h => absurd h (by decide), fun _ => ?_⟩
      refine sp_kind (fun _ _ _ => ⟨fun h => absurd h (by decide), fun _ => sp_find wf (inv_mI hM) hk (fun hn => absurd f2.2.2.1 (hn s c f2.1 f2.2.1)) (fun s' c' hb τ' x y hR _ _ => ⟨by rw [(pb_uniq f2 hb).1], inv_back wf hpf hS h6 hKn hR⟩)⟩) (fun h => absurd rfl (h k hk))
  · unfold wp_X6_frame
    exact sp_kind (fun k hk e => absurd e (hno k hk)) (fun _ => ⟨fun _ => ⟨rfl, P, wf, hM, hK, hkn, hpf⟩, fun h => absurd rfl h⟩)
theorem pbel_nat {P : pn_T} {s : Nat} : pbel P s = ((pD P s).natAbs : Int) := rfl
theorem pu_cost : lo_cost pu_Inv := by
  intro σ τ ⟨P, wf, hM, hK, hkn, hpf⟩ a b
  unfold wp_X5_cost
  refine sc_kind (fun k hk e => ⟨fun h => absurd h (by decide), fun _ => ?_⟩) (fun hno => ⟨fun _ => ?_, fun h => absurd rfl h⟩)
  · rw [e]
    refine sc_isPart (fun w hw ew => ⟨fun _ => ?_, fun h => absurd h (by decide)⟩) (fun hno => ⟨fun h => absurd rfl h, fun _ => ?_⟩)
    · refine sc_frameOf wf hK hkn hk (fun σ' hS h6 hKn => ?_)
      rw [nu_cl (by omega)]
      refine ⟨vp_in_nI hk (by omega), ?_⟩
      unfold wp_X6_cost
      rcases hKn.2.2 k hk with ⟨f1, f2⟩ | ⟨f1, s, c, f2, f3, f4, f5, f6, f7, f8⟩
      · rw [f1]
        refine ⟨fun h => absurd rfl h, fun _ => ?_⟩
        refine sp_kind (fun _ _ _ => ⟨fun h => absurd h (by decide), fun _ => sp_part (fun _ _ _ => ⟨fun _ => sp_find wf (inv_mI hM) hk (fun _ τ' x y hR => ⟨fun h => absurd h m6_neg, fun _ => ⟨rfl, inv_back wf hpf hS h6 hKn hR⟩⟩) (fun s c hb => absurd hb.2.2.1 (f2 s c hb.1 hb.2.1)), fun h => absurd h (by decide)⟩) (fun h => absurd ew (h w hw))⟩) (fun h => absurd rfl (h k hk))
      · rw [f1]
        refine ⟨fun _ => ?_, fun h => absurd h (by decide)⟩
        have hn := pch_nb f2.2.1
        have hc := pcost_le wf hn f2.2.2.1
        have hl := pbel_le wf hn
        have hl0 := pbel_pos f2.2.1
        rw [pbel_nat] at hl hl0 f7
        refine sc_part f6 (by omega) f7 (by omega) (by omega) (fun v ev => ?_)
        refine sp_kind (fun _ _ _ => ⟨fun h => absurd h (by decide), fun _ => sp_part (fun _ _ _ => ⟨fun _ => sp_find wf (inv_mI hM) hk (fun hn => absurd f2.2.2.1 (hn s c f2.1 f2.2.1)) (fun s' c' hb τ' x y hR e22 e23 => ?_), fun h => absurd h (by decide)⟩) (fun h => absurd ew (h w hw))⟩) (fun h => absurd rfl (h k hk))
        obtain ⟨u1, u2⟩ := pb_uniq f2 hb
        rw [← u2] at e22
        rw [← u1, pbel_nat] at e23
        have g22 : lf_gl τ' 22 = x := hR.1.2.2.1
        have g23 : lf_gl τ' 23 = y := hR.1.2.2.2.1
        refine ⟨fun _ => ?_, fun h => absurd (nI_nn (set_31 wf hb.1)) h⟩
        rw [g22, g23]
        exact sp_term e22 (by omega) e23 (by omega) (by omega) (fun v' ev' => ⟨nu_eq64.mpr (by rw [ev, ev']), inv_back wf hpf hS h6 hKn hR⟩)
    · unfold wp_X6_cost
      exact sp_kind (fun _ _ _ => ⟨fun h => absurd h (by decide), fun _ => sp_part (fun w hw ew => absurd ew (hno w hw)) (fun _ => ⟨fun h => absurd rfl h, fun _ => ⟨rfl, P, wf, hM, hK, hkn, hpf⟩⟩)⟩) (fun h => absurd rfl (h k hk))
  · unfold wp_X6_cost
    exact sp_kind (fun k hk e => absurd e (hno k hk)) (fun _ => ⟨fun _ => ⟨rfl, P, wf, hM, hK, hkn, hpf⟩, fun h => absurd rfl h⟩)
/-- the model finds the frame and tries it again -/
theorem sp_again {P : pn_T} {τ : lf_St} (wf : pwf P) (hM : pM P τ) {k s : Nat} (hk : k < 4) {c : Int} (hb : pbest P k s c) {Post : Int32 → lf_St → Prop} (hP : ∀ τ' x y, mR P (lf_gi τ 12, x, y, lf_gl τ 25, lf_al τ 24) τ' → mC P s τ' → Post 1 τ') : wp_X6_find (nI k) τ (fun r σ => r = nI s ∧ wp_X6_isChoice (nI s) σ Post) :=
  sp_find wf (inv_mI hM) hk (fun hn => absurd hb.2.2.1 (hn s c hb.1 hb.2.1)) (fun s' c' hb' τ' x y hR _ _ => ⟨by rw [(pb_uniq hb hb').1], sp_isChoice wf hR hb.1 (fun h => by rw [hb.2.1] at h; cases h) (fun _ τ'' hR2 hC => hP τ'' x y hR2 hC)⟩)
theorem pu_used : lo_used pu_Inv := by
  intro σ τ ⟨P, wf, hM, hK, hkn, hpf⟩ a b
  unfold wp_X5_used
  refine sc_kind (fun k hk e => ⟨fun h => absurd h (by decide), fun _ => ?_⟩) (fun hno => ⟨fun _ => ?_, fun h => absurd rfl h⟩)
  · rw [e]
    have out : (∀ w, w < 2 → b ≠ nI w) → wp_X6_used (nI k) b τ (fun r' τ' => (-2 : Int32) = r' ∧ pu_Inv σ τ') := by
      intro hno
      unfold wp_X6_used
      exact sp_kind (fun _ _ _ => ⟨fun h => absurd h (by decide), fun _ => sp_part (fun w hw ew => absurd ew (hno w hw)) (fun _ => ⟨fun h => absurd rfl h, fun _ => ⟨rfl, P, wf, hM, hK, hkn, hpf⟩⟩)⟩) (fun h => absurd rfl (h k hk))
    have z0 : (0 : Int32).toInt = 0 := rfl
    have z1 : (1 : Int32).toInt = 1 := rfl
    refine ⟨fun h => out (fun w hw ew => ?_), fun h0 => ⟨fun h1 => ?_, fun h => out (fun w hw ew => ?_)⟩⟩
    · rw [ew] at h
      exact nI_pos (by omega) h
    · obtain ⟨w, hw, ew⟩ : ∃ w, w < 2 ∧ b = nI w := nu_of (n := 2) (by
        have : ¬ b.toInt < (0 : Int32).toInt := fun q => h0 (nu_lt.mpr q)
        omega) (by have := nu_le.mp h1; omega) (by decide)
      refine sc_frameOf wf hK hkn hk (fun σ' hS h6 hKn => ?_)
      rw [nu_cl (by omega)]
      refine ⟨vp_in_nI hk (by omega), ?_⟩
      unfold wp_X6_used
      rcases hKn.2.2 k hk with ⟨f1, f2⟩ | ⟨f1, s, c, f2, f3, f4, f5, f6, f7, f8⟩
      · rw [f1]
        refine ⟨fun h => absurd rfl h, fun _ => ?_⟩
        refine sp_kind (fun _ _ _ => ⟨fun h => absurd h (by decide), fun _ => sp_part (fun _ _ _ => ⟨fun _ => sp_find wf (inv_mI hM) hk (fun _ τ' x y hR => ⟨fun _ => ⟨rfl, inv_back wf hpf hS h6 hKn hR⟩, fun h => absurd nu_neg6 h⟩) (fun s c hb => absurd hb.2.2.1 (f2 s c hb.1 hb.2.1)), fun h => absurd h (by decide)⟩) (fun h => absurd ew (h w hw))⟩) (fun h => absurd rfl (h k hk))
      · rw [f1]
        have hn := pch_nb f2.2.1
        have go : ∀ r : Int32, r = (if b = 0 then nI (pub P s (pB P)) else nI (puj P s (pB P))) → wp_X6_isKind (nI k) τ (fun r1 σ1 => ((r1 = 0) → ((r = -2) ∧ pu_Inv σ' σ1)) ∧ ((¬ (r1 = 0)) → (wp_X6_isPart b σ1 (fun r3 σ3 => ((¬ r3 = 0) → (wp_X6_find (nI k) σ3 (fun r5 σ5 => ((r5 < 0) → ((r = -6) ∧ pu_Inv σ' σ5)) ∧ ((¬ (r5 < 0)) → (wp_X6_isChoice r5 σ5 (fun r7 σ7 => ((¬ r7 = 0) → (((¬ b = 0) → (wp_X6_usedJoints σ7 (fun r10 σ10 => r = r10 ∧ pu_Inv σ' σ10))) ∧ ((b = 0) → (wp_X6_usedBars σ7 (fun r11 σ11 => r = r11 ∧ pu_Inv σ' σ11))))) ∧ ((r7 = 0) → ((r = -6) ∧ pu_Inv σ' σ7)))))))) ∧ ((r3 = 0) → ((r = -2) ∧ pu_Inv σ' σ3)))))) := by
          intro r er
          refine sp_kind (fun _ _ _ => ⟨fun h => absurd h (by decide), fun _ => sp_part (fun _ _ _ => ⟨fun _ => sp_find wf (inv_mI hM) hk (fun hn => absurd f2.2.2.1 (hn s c f2.1 f2.2.1)) (fun s' c' hb τ' x y hR _ _ => ⟨fun h => absurd h (nI_pos (set_31 wf hb.1)), fun _ => ?_⟩), fun h => absurd h (by decide)⟩) (fun h => absurd ew (h w hw))⟩) (fun h => absurd rfl (h k hk))
          rw [← (pb_uniq f2 hb).1]
          refine sp_isChoice wf hR f2.1 (fun h => by rw [f2.2.1] at h; cases h) (fun _ τ'' hR2 hC => ⟨fun _ => ⟨fun q => ?_, fun q => ?_⟩, fun h => absurd h (by decide)⟩)
          · rw [if_neg q] at er
            exact sp_usedJoints wf hR2 hn hC ⟨er, inv_back wf hpf hS h6 hKn hR2⟩
          · rw [if_pos q] at er
            exact sp_usedBars wf hR2 hn hC ⟨er, inv_back wf hpf hS h6 hKn hR2⟩
        exact ⟨fun _ => ⟨fun q => go _ (by rw [if_neg q]; exact f5), fun q => go _ (by rw [if_pos q]; exact f4)⟩, fun h => absurd h (by decide)⟩
    · rw [ew] at h
      exact h (nI_le (b := 1) (by omega) (by decide))
  · unfold wp_X6_used
    exact sp_kind (fun k hk e => absurd e (hno k hk)) (fun _ => ⟨fun _ => ⟨rfl, P, wf, hM, hK, hkn, hpf⟩, fun h => absurd rfl h⟩)
