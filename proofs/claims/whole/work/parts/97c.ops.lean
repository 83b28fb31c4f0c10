/-! WHAT IS ASKED OF THE SEARCH: pull, sized, stiff, choices -/
theorem pu_pull : lo_pull pu_Inv := by
  intro σ τ ⟨P, wf, hM, hK, hkn, hpf⟩ a b d
  have hB := wf.2.1
  have inv : pu_Inv σ τ := ⟨P, wf, hM, hK, hkn, hpf⟩
  unfold wp_X5_pull
  refine sp_hasBar hK.2.2.1 hB (fun j hj ej => ⟨fun _ => ?_, fun h => absurd h (by decide)⟩) (fun hnb => ⟨fun h => absurd rfl h, fun _ => ?_⟩)
  · refine sc_kind (fun k hk e => ⟨fun h => absurd h (by decide), fun _ => ?_⟩) (fun hno => ⟨fun _ => ?_, fun h => absurd rfl h⟩)
    · rw [e, ej]
      refine sc_isPart (fun w hw ew => ⟨fun _ => ?_, fun h => absurd h (by decide)⟩) (fun hno => ⟨fun h => absurd rfl h, fun _ => ?_⟩)
      · refine sc_frameOf wf hK hkn hk (fun σ' hS h6 hKn => ?_)
        rw [nu_cl (by omega), nu_cl (by omega)]
        refine ⟨vp_in_nI hk (by omega), ?_⟩
        unfold wp_X6_pull
        rcases hKn.2.2 k hk with ⟨f1, f2⟩ | ⟨f1, s, c, f2, f3, f4, f5, f6, f7, f8⟩
        · rw [f1]
          refine ⟨fun h => absurd rfl h, fun _ => ?_⟩
          exact sp_isBar hM.2.1 hB (fun _ _ _ => ⟨fun _ => sp_kind (fun _ _ _ => ⟨fun h => absurd h (by decide), fun _ => sp_part (fun _ _ _ => ⟨fun _ => sp_find wf (inv_mI hM) hk (fun _ τ' x y hR => ⟨fun _ => ⟨rfl, inv_back wf hpf hS h6 hKn hR⟩, fun h => absurd nu_neg6 h⟩) (fun s c hb => absurd hb.2.2.1 (f2 s c hb.1 hb.2.1)), fun h => absurd h (by decide)⟩) (fun h => absurd ew (h w hw))⟩) (fun h => absurd rfl (h k hk)), fun h => absurd h (by decide)⟩) (fun h => absurd rfl (h j hj))
        · rw [f1]
          refine ⟨fun _ => ⟨vp_in_nI (by omega) (by omega), ?_⟩, fun h => absurd h (by decide)⟩
          have hn := pch_nb f2.2.1
          have hl := pbel_le wf hn
          have hl0 := pbel_pos f2.2.1
          have hp := ppu_le wf hn j
          have h6' := pR_6 wf
          rw [pbel_nat] at hl hl0 f7
          refine sc_part (f8 j hj) (by omega) f7 (by omega) (by omega) (fun v ev => ?_)
          refine sp_isBar hM.2.1 hB (fun _ _ _ => ⟨fun _ => sp_kind (fun _ _ _ => ⟨fun h => absurd h (by decide), fun _ => sp_part (fun _ _ _ => ⟨fun _ => sp_find wf (inv_mI hM) hk (fun hn => absurd f2.2.2.1 (hn s c f2.1 f2.2.1)) (fun s' c' hb τ' x y hR _ _ => ⟨fun h => absurd h (nI_pos (set_31 wf hb.1)), fun _ => ?_⟩), fun h => absurd h (by decide)⟩) (fun h => absurd ew (h w hw))⟩) (fun h => absurd rfl (h k hk)), fun h => absurd h (by decide)⟩) (fun h => absurd rfl (h j hj))
          rw [← (pb_uniq f2 hb).1]
          refine sp_isChoice wf hR f2.1 (fun h => by rw [f2.2.1] at h; cases h) (fun _ τ'' hR2 hC => ⟨fun _ => sp_placeOf wf hR2 hn hC hj (fun q => ⟨fun h => absurd h m6_neg, fun _ => ?_⟩) (fun q => ⟨fun _ => ?_, fun h => absurd (nI_nn (by have := nb_le s j; omega)) h⟩), fun h => absurd h (by decide)⟩)
          · have e0 : ppu P s j = 0 := if_neg (by rw [q]; decide)
            rw [e0, tq_off (by omega)] at ev
            exact sp_term (A := 0) (B := 1) rfl (by decide) rfl (by decide) (by decide) (fun v' ev' => ⟨nu_eq64.mpr (by rw [ev, ev']), inv_back wf hpf hS h6 hKn hR2⟩)
          · have lt := nb_lt q hj
            rw [nu_cl (by omega)]
            refine ⟨vp_in_nI (by omega) (by omega), ?_⟩
            have e0 : ppu P s j = pbe P s (pn_nb s j) := if_pos q
            have e1 := hC.2.1 (pn_nb s j) (by omega)
            have e2 := hC.1
            rw [← e0] at e1
            rw [pbel_nat] at e2
            exact sp_term e1 (by omega) e2 (by omega) (by omega) (fun v' ev' => ⟨nu_eq64.mpr (by rw [ev, ev']), inv_back wf hpf hS h6 hKn hR2⟩)
      · unfold wp_X6_pull
        exact sp_isBar hM.2.1 hB (fun _ _ _ => ⟨fun _ => sp_kind (fun _ _ _ => ⟨fun h => absurd h (by decide), fun _ => sp_part (fun w hw ew => absurd ew (hno w hw)) (fun _ => ⟨fun h => absurd rfl h, fun _ => ⟨rfl, inv⟩⟩)⟩) (fun h => absurd rfl (h k hk)), fun h => absurd h (by decide)⟩) (fun h => absurd rfl (h j hj))
    · unfold wp_X6_pull
      exact sp_isBar hM.2.1 hB (fun _ _ _ => ⟨fun _ => sp_kind (fun k hk e => absurd e (hno k hk)) (fun _ => ⟨fun _ => ⟨rfl, inv⟩, fun h => absurd rfl h⟩), fun h => absurd h (by decide)⟩) (fun h => absurd ej (h j hj))
  · unfold wp_X6_pull
    exact sp_isBar hM.2.1 hB (fun j hj ej => absurd ej (hnb j hj)) (fun _ => ⟨fun h => absurd rfl h, fun _ => ⟨rfl, inv⟩⟩)
theorem pu_sized : lo_sized pu_Inv := by
  intro σ τ ⟨P, wf, hM, hK, hkn, hpf⟩ b
  have hB := wf.2.1
  have inv : pu_Inv σ τ := ⟨P, wf, hM, hK, hkn, hpf⟩
  unfold wp_X5_sized
  refine sp_hasBar hK.2.2.1 hB (fun j hj ej => ⟨fun _ => ?_, fun h => absurd h (by decide)⟩) (fun hnb => ⟨fun h => absurd rfl h, fun _ => ?_⟩)
  · rw [ej]
    refine sc_frameOf (k := 2) wf hK hkn (by decide) (fun σ' hS h6 hKn => ?_)
    refine ⟨vp_in_nI (n := 2) (by decide) (by decide), ?_⟩
    show ((¬ (lf_gi σ' (20 + 2)) = 0) → (wp_X0_uses 2 (nI j) σ' (fun r6 σ6 => ((r6 = 0) → _) ∧ ((¬ (r6 = 0)) → (wp_X4_leastSizeFor 2 (nI j) σ6 _))))) ∧ (((lf_gi σ' (20 + 2)) = 0) → _)
    unfold wp_X6_sized
    rcases hKn.2.2 2 (by decide) with ⟨f1, f2⟩ | ⟨f1, s, c, f2, f3, f4, f5, f6, f7, f8⟩
    · rw [f1]
      refine ⟨fun h => absurd rfl h, fun _ => ?_⟩
      exact sp_isBar hM.2.1 hB (fun _ _ _ => ⟨fun _ => sp_find (k := 2) wf (inv_mI hM) (by decide) (fun _ τ' x y hR => ⟨fun _ => ⟨rfl, inv_back wf hpf hS h6 hKn hR⟩, fun h => absurd nu_neg6 h⟩) (fun s c hb => absurd hb.2.2.1 (f2 s c hb.1 hb.2.1)), fun h => absurd h (by decide)⟩) (fun h => absurd rfl (h j hj))
    · rw [f1]
      refine ⟨fun _ => ?_, fun h => absurd h (by decide)⟩
      have hn := pch_nb f2.2.1
      have h6' := pR_6 wf
      have go : ∀ r : Int32, r = (if ppu P s j = 0 then 0 else pn_lv (pls P s j)) → wp_X6_isBar (nI j) τ (fun r1 σ1 => ((¬ r1 = 0) → (wp_X6_find 2 σ1 (fun r3 σ3 => ((r3 < 0) → ((r = -6) ∧ pu_Inv σ' σ3)) ∧ ((¬ (r3 < 0)) → (wp_X6_isChoice r3 σ3 (fun r5 σ5 => ((¬ r5 = 0) → (wp_X6_placeOf (nI j) σ5 (fun r7 σ7 => ((0 ≤ r7) → (vp_in r7 6 ∧ (wp_X6_sizeFor (lf_al σ7 21 r7.toNatClampNeg) σ7 (fun r10 σ10 => r = r10 ∧ pu_Inv σ' σ10)))) ∧ ((¬ (0 ≤ r7)) → ((r = 0) ∧ pu_Inv σ' σ7))))) ∧ ((r5 = 0) → ((r = -6) ∧ pu_Inv σ' σ5)))))))) ∧ ((r1 = 0) → ((r = -1) ∧ pu_Inv σ' σ1))) := by
        intro r er
        refine sp_isBar hM.2.1 hB (fun _ _ _ => ⟨fun _ => sp_find (k := 2) wf (inv_mI hM) (by decide) (fun hn => absurd f2.2.2.1 (hn s c f2.1 f2.2.1)) (fun s' c' hb τ' x y hR _ _ => ⟨fun h => absurd h (nI_pos (set_31 wf hb.1)), fun _ => ?_⟩), fun h => absurd h (by decide)⟩) (fun h => absurd rfl (h j hj))
        rw [← (pb_uniq f2 hb).1]
        refine sp_isChoice wf hR f2.1 (fun h => by rw [f2.2.1] at h; cases h) (fun _ τ'' hR2 hC => ⟨fun _ => sp_placeOf wf hR2 hn hC hj (fun q => ⟨fun h => absurd h m6_neg, fun _ => ?_⟩) (fun q => ⟨fun _ => ?_, fun h => absurd (nI_nn (by have := nb_le s j; omega)) h⟩), fun h => absurd h (by decide)⟩)
        · have e0 : ppu P s j = 0 := if_neg (by rw [q]; decide)
          rw [if_pos e0] at er
          exact ⟨er, inv_back wf hpf hS h6 hKn hR2⟩
        · have lt := nb_lt q hj
          rw [nu_cl (by omega)]
          refine ⟨vp_in_nI (by omega) (by omega), ?_⟩
          have e0 : ppu P s j = pbe P s (pn_nb s j) := if_pos q
          have e1 := hC.2.1 (pn_nb s j) (by omega)
          rw [← e0] at e1
          exact sp_sizeFor wf hR2.1.1 hn hC.1 e1 ⟨er, inv_back wf hpf hS h6 hKn hR2⟩
      have hx : ¬ px2 P s := by
        rcases f2.2.2.1 with ⟨h, -⟩ | ⟨h, -⟩ | ⟨-, h, -⟩ | ⟨h, -⟩
        · cases h
        · cases h
        · exact h
        · cases h
      refine sc_uses (k := 2) wf hj f4 (fun hz => ⟨fun _ => go _ (by rw [if_pos hz]), fun h => absurd rfl h⟩) (fun hz => ⟨fun h => absurd h (by decide), fun _ => sc_least (k := 2) wf hS.1 hn hj f7 (f8 j hj) (go _ ?_)⟩)
      rw [if_neg hz]
      unfold pn_lv
      rw [if_neg (fun q => hx ⟨j, hj, hz, q⟩)]
  · unfold wp_X6_sized
    exact sp_isBar hM.2.1 hB (fun j hj ej => absurd ej (hnb j hj)) (fun _ => ⟨fun h => absurd rfl h, fun _ => ⟨rfl, inv⟩⟩)
theorem pchs_mem {P : pn_T} {s : Nat} : s ∈ pchs P ↔ s < 2 ^ pB P ∧ pch P s = true := by
  rw [← pql_0]
  exact ⟨fun h => pql_lt h, fun h => pql_all h.1 h.2⟩
theorem pchs_at {P : pn_T} {i : Nat} (h : i < (pchs P).length) : (pchs P).getD i 0 ∈ pchs P := by
  rw [List.getD_eq_getElem?_getD, List.getElem?_eq_getElem h]
  exact List.getElem_mem h
theorem pchs_ix {P : pn_T} {s : Nat} (h : s ∈ pchs P) : ∃ i, i < (pchs P).length ∧ (pchs P).getD i 0 = s := by
  obtain ⟨i, hi, e⟩ := List.mem_iff_getElem.mp h
  refine ⟨i, hi, ?_⟩
  rw [List.getD_eq_getElem?_getD, List.getElem?_eq_getElem hi]
  exact e
theorem sc_hasChoice {P : pn_T} {σ : lf_St} (wf : pwf P) (hKn : pKn P σ) {x : Int32} {Post : Int32 → lf_St → Prop} (h0 : (∀ s, s < 2 ^ pB P → pch P s = true → ¬ (nI s &&& (x ^^^ (-1))) = 0) → Post 0 σ) (h1 : (∃ s, s < 2 ^ pB P ∧ pch P s = true ∧ (nI s &&& (x ^^^ (-1))) = 0) → Post 1 σ) : wp_X4_hasChoiceIn x σ Post := by
  have hl := pchs_len wf
  unfold wp_X4_hasChoiceIn
  have z := pk_loop (σ := Unit) (fun fu i _ => L_X4_hasChoiceIn_2 Post fu x (nI i) σ) (fun i _ => ∀ j, j < i → ¬ (nI ((pchs P).getD j 0) &&& (x ^^^ (-1))) = 0) (pchs P).length 0 () (by omega) (fun j h => absurd h (Nat.not_lt_zero j)) ?_ ?_
  · rw [nI_0] at z
    exact z
  · intro m _ hx
    show L_X4_hasChoiceIn_2 Post (m + 1) _ _ _
    unfold L_X4_hasChoiceIn_2
    rw [hKn.1]
    refine ⟨fun _ => h0 (fun s hs hp => ?_), fun h => absurd (nI_le (Nat.le_refl _) (by omega)) h⟩
    obtain ⟨i, hi, e⟩ := pchs_ix (pchs_mem.mpr ⟨hs, hp⟩)
    rw [← e]
    exact hx i hi
  · intro m i _ hi hx ih
    show L_X4_hasChoiceIn_2 Post (m + 1) _ _ _
    unfold L_X4_hasChoiceIn_2
    rw [hKn.1, nu_cl (by omega), hKn.2.1 i hi]
    refine ⟨fun h => absurd h (nI_ge hi (by omega)), fun _ => ⟨vp_in_nI (by omega) (by omega), fun q v4 e4 => ?_, fun q => ?_⟩⟩
    · rw [e4, nI_1]
      refine ih () (fun j hj => ?_)
      by_cases e : j = i
      · rw [e]; exact q
      · exact hx j (by omega)
    · have := pchs_mem.mp (pchs_at hi)
      exact h1 ⟨_, this.1, this.2, q⟩
theorem pow_shl {P : pn_T} (wf : pwf P) : (1 : Int32) <<< (nI (pB P) &&& 31) = nI (2 ^ pB P) := bt_shl (by have := wf.2.1; omega)
theorem pow_1024 {P : pn_T} (wf : pwf P) : 2 ^ pB P ≤ 1024 := (Nat.pow_le_pow_right (by decide) wf.2.1 : 2 ^ pB P ≤ 2 ^ 10)
theorem pu_stiff : lo_stiff pu_Inv := by
  intro σ τ ⟨P, wf, hM, hK, hkn, hpf⟩ a
  have h10 := pow_1024 wf
  have hp0 := Nat.two_pow_pos (pB P)
  have inv : pu_Inv σ τ := ⟨P, wf, hM, hK, hkn, hpf⟩
  have out : (∀ n, n < 2 ^ pB P → a ≠ nI n) → wp_X6_stiff a τ (fun r' τ' => (-2 : Int32) = r' ∧ pu_Inv σ τ') := by
    intro hno
    unfold wp_X6_stiff
    rw [hM.2.1, pow_shl wf]
    refine sp_inI (a := 0) (b := nI (2 ^ pB P) - 1) rfl rfl (fun p q => ?_) (fun p => ⟨fun h => absurd rfl h, fun _ => ⟨rfl, inv⟩⟩)
    rw [show (nI (2 ^ pB P) - 1).toInt = ((2 ^ pB P : Nat) : Int) - 1 from pk_sub_toInt (a := 2 ^ pB P) (b := 1) (by omega) (by decide)] at q
    obtain ⟨j, hj, e⟩ := nu_of (x := a) (n := 2 ^ pB P) p (by omega) (by omega)
    exact absurd e (hno j hj)
  unfold wp_X5_stiff
  rw [hK.2.2.1, pow_shl wf]
  refine ⟨fun h => out (fun n hn e => ?_), fun h0 => ⟨fun h1 => ?_, fun h => out (fun n hn e => ?_)⟩⟩
  · rw [e] at h
    exact nI_pos (by omega) h
  · refine sc_run wf hK hkn (fun σ' hS h6 hKn => ?_)
    have go : ∀ r : Int32, (r = 0 ∧ ∀ s, s < 2 ^ pB P → pch P s = true → ¬ (nI s &&& (a ^^^ (-1))) = 0) ∨ (r = 1 ∧ ∃ s, s < 2 ^ pB P ∧ pch P s = true ∧ (nI s &&& (a ^^^ (-1))) = 0) → wp_X6_stiff a τ (fun r' τ' => r = r' ∧ pu_Inv σ' τ') := by
      intro r hr
      unfold wp_X6_stiff
      rw [hM.2.1, pow_shl wf]
      refine sp_inI (a := 0) (b := nI (2 ^ pB P) - 1) rfl rfl (fun p q => ⟨fun _ => ?_, fun h => absurd h (by decide)⟩) (fun p => absurd ⟨?_, ?_⟩ p)
      · refine sp_layRows wf (inv_mI hM) (fun τ1 hR1 => ?_)
        have z := pk_loop (fun fu i (t : lf_St) => L_X6_stiff_27 (fun r' τ' => r = r' ∧ pu_Inv σ' τ') fu a (nI i) t) (fun i t => mR P (lf_gi τ 12, lf_gl τ 22, lf_gl τ 23, lf_gl τ 25, lf_al τ 24) t ∧ ∀ s, s < i → pch P s = true → ¬ (nI s &&& (a ^^^ (-1))) = 0) (2 ^ pB P) 0 τ1 (by omega) ⟨hR1, fun s h => absurd h (Nat.not_lt_zero s)⟩ ?_ ?_
        · rw [nI_0] at z
          exact z
        · intro m t ⟨a1, a2⟩
          show L_X6_stiff_27 _ (m + 1) _ _ _
          unfold L_X6_stiff_27
          rw [a1.1.1.2.1, pow_shl wf]
          refine ⟨fun _ => ⟨?_, inv_back wf hpf hS h6 hKn a1⟩, fun h => absurd (nI_le (Nat.le_refl _) (by omega)) h⟩
          rcases hr with ⟨e, -⟩ | ⟨-, s, s1, s2, s3⟩
          · exact e
          · exact absurd s3 (a2 s s1 s2)
        · intro m i t hi ⟨a1, a2⟩ ih
          show L_X6_stiff_27 _ (m + 1) _ _ _
          unfold L_X6_stiff_27
          rw [a1.1.1.2.1, pow_shl wf]
          have nx : ∀ t', mR P (lf_gi τ 12, lf_gl τ 22, lf_gl τ 23, lf_gl τ 25, lf_al τ 24) t' → (pch P i = true → ¬ (nI i &&& (a ^^^ (-1))) = 0) → ∀ v : Int32, v = nI i + 1 → L_X6_stiff_27 (fun r' τ' => r = r' ∧ pu_Inv σ' τ') m a v t' := by
            intro t' b1 b2 v e
            rw [e, nI_1]
            refine ih t' ⟨b1, fun s hs hp => ?_⟩
            by_cases q : s = i
            · rw [q] at hp ⊢; exact b2 hp
            · exact a2 s (by omega) hp
          refine ⟨fun h => absurd h (nI_ge hi (by omega)), fun _ => ⟨fun q => nx t a1 (fun _ => q), fun q => sp_isChoice wf a1 hi (fun hp t' b1 => ⟨fun _ => nx t' b1 (fun h => by rw [hp] at h; cases h), fun h => absurd rfl h⟩) (fun hp t' b1 _ => ⟨fun h => absurd h (by decide), fun _ => ⟨?_, inv_back wf hpf hS h6 hKn b1⟩⟩)⟩⟩
          rcases hr with ⟨-, e⟩ | ⟨e, -⟩
          · exact absurd q (e i hi hp)
          · exact e
      · have : ¬ a.toInt < (0 : Int32).toInt := fun q => h0 (nu_lt.mpr q)
        omega
      · rw [show (nI (2 ^ pB P) - 1).toInt = ((2 ^ pB P : Nat) : Int) - 1 from pk_sub_toInt (a := 2 ^ pB P) (b := 1) (by omega) (by decide)]
        have := nu_lt.mp h1
        rw [nu_nI (by omega)] at this
        omega
    exact sc_hasChoice wf hKn (fun h => ⟨fun _ => go 0 (Or.inl ⟨rfl, h⟩), fun h => absurd rfl h⟩) (fun h => ⟨fun h => absurd h (by decide), fun _ => go 1 (Or.inr ⟨rfl, h⟩)⟩)
  · rw [e] at h
    exact h (nI_lt hn (by omega))
/-! as many choices one way as the other -/
theorem sn_split (f : Nat → Nat) (a : Nat) : ∀ b, dt_sn f (a + b) = dt_sn f a + dt_sn (fun c => f (a + c)) b
  | 0 => rfl
  | b + 1 => by
    show dt_sn f (a + b) + f (a + b) = dt_sn f a + (dt_sn (fun c => f (a + c)) b + f (a + b))
    rw [sn_split f a b]
    omega
theorem sn_pair (f : Nat → Nat) : ∀ n, dt_sn f (2 * n) = dt_sn (fun s => f (2 * s)) n + dt_sn (fun s => f (2 * s + 1)) n
  | 0 => rfl
  | n + 1 => by
    show dt_sn f (2 * n) + f (2 * n) + f (2 * n + 1) = dt_sn (fun s => f (2 * s)) n + f (2 * n) + (dt_sn (fun s => f (2 * s + 1)) n + f (2 * n + 1))
    rw [sn_pair f n]
    omega
theorem sn_rev : ∀ (B : Nat) (f : Nat → Nat), dt_sn (fun c => f (pn_rev B c)) (2 ^ B) = dt_sn f (2 ^ B)
  | 0, f => rfl
  | B + 1, f => by
    rw [show 2 ^ (B + 1) = 2 * 2 ^ B by rw [Nat.pow_succ]; omega, sn_pair f, ← sn_rev B (fun s => f (2 * s)), ← sn_rev B (fun s => f (2 * s + 1)), show 2 * 2 ^ B = 2 ^ B + 2 ^ B by omega, sn_split]
    congr 1
    · refine dt_sn_congr (fun c hc => ?_)
      show f (2 * pn_rev B (c % 2 ^ B) + c / 2 ^ B % 2) = _
      rw [Nat.mod_eq_of_lt hc, Nat.div_eq_of_lt hc]
      rfl
    · refine dt_sn_congr (fun c hc => ?_)
      show f (2 * pn_rev B ((2 ^ B + c) % 2 ^ B) + (2 ^ B + c) / 2 ^ B % 2) = _
      rcases md_2 (p := 2 ^ B) (a := 2 ^ B + c) (by omega) with ⟨q1, q2, q3⟩ | ⟨q1, q2, q3⟩
      · omega
      · rw [q2, q3, show 2 ^ B + c - 2 ^ B = c by omega]
def pcc (P : pn_T) : Nat → Nat := dt_sn (fun s => if pch P s then 1 else 0)
theorem pchs_cnt {P : pn_T} : ∀ n, n ≤ 2 ^ pB P → (pchs P).length = (pql P n).length + dt_sn (fun c => if pch P (pn_rev (pB P) c) then 1 else 0) n
  | 0, _ => by rw [pql_0]; rfl
  | n + 1, h => by
    rw [pchs_cnt n (by omega), pql_step (by omega), List.length_append]
    show _ = _ + (dt_sn _ n + if pch P (pn_rev (pB P) n) then 1 else 0)
    by_cases q : pch P (pn_rev (pB P) n) = true
    · rw [if_pos q, if_pos q]
      show _ + 1 + _ = _
      omega
    · rw [if_neg q, if_neg q]
      show _ + 0 + _ = _
      omega
theorem pchs_pcc {P : pn_T} : (pchs P).length = pcc P (2 ^ pB P) := by
  rw [pchs_cnt _ (Nat.le_refl _), pql_top]
  have := sn_rev (pB P) (fun s => if pch P s then 1 else 0)
  unfold pcc
  rw [← this]
  exact Nat.zero_add _
theorem pu_choices : lo_choices pu_Inv := by
  intro σ τ ⟨P, wf, hM, hK, hkn, hpf⟩
  have h10 := pow_1024 wf
  have hp0 := Nat.two_pow_pos (pB P)
  unfold wp_X5_choices
  refine sc_run wf hK hkn (fun σ' hS h6 hKn => ?_)
  rw [hKn.1, pchs_pcc]
  unfold wp_X6_choices
  refine sp_layRows wf (inv_mI hM) (fun τ1 hR1 => ?_)
  have z := pk_loop (fun fu i (t : lf_St) => L_X6_choices_8 (fun r' τ' => nI (pcc P (2 ^ pB P)) = r' ∧ pu_Inv σ' τ') fu (nI (pcc P i)) (nI i) t) (fun i t => mR P (lf_gi τ 12, lf_gl τ 22, lf_gl τ 23, lf_gl τ 25, lf_al τ 24) t) (2 ^ pB P) 0 τ1 (by omega) hR1 ?_ ?_
  · exact z
  · intro m t a1
    show L_X6_choices_8 _ (m + 1) _ _ _
    unfold L_X6_choices_8
    rw [a1.1.1.2.1, pow_shl wf]
    exact ⟨fun _ => ⟨rfl, inv_back wf hpf hS h6 hKn a1⟩, fun h => absurd (nI_le (Nat.le_refl _) (by omega)) h⟩
  · intro m i t hi a1 ih
    show L_X6_choices_8 _ (m + 1) _ _ _
    unfold L_X6_choices_8
    rw [a1.1.1.2.1, pow_shl wf]
    have e1 : pcc P (i + 1) = pcc P i + (if pch P i then 1 else 0) := rfl
    refine ⟨fun h => absurd h (nI_ge hi (by omega)), fun _ => sp_isChoice wf a1 hi (fun hp t' b1 => ⟨fun _ v4 e4 v5 e5 => ?_, fun h => absurd rfl h⟩) (fun hp t' b1 _ => ⟨fun h => absurd h (by decide), fun _ v6 e6 v7 e7 => ?_⟩)⟩
    · have ih' := ih t' b1
      rw [hp] at e1
      rw [e1] at ih'
      rw [e4, e5, nI_1, show nI (pcc P i) + 0 = nI (pcc P i + 0) from nI_add _ 0]
      exact ih'
    · have ih' := ih t' b1
      rw [hp] at e1
      rw [e1] at ih'
      rw [e6, e7, nI_1, nI_1]
      exact ih'
