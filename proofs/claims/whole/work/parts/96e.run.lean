/-! THE CLASS'S SEARCH -/
theorem pK_of {P : pn_T} {a b : lf_St} (h1 : ∀ i, i < 5 → lf_gi b i = lf_gi a i) (h3 : ∀ i, i < 13 → lf_ai b i = lf_ai a i) (hK : pK P a) : pK P b := by
  unfold pK at hK ⊢
  rw [h1 0 (by decide), h1 1 (by decide), h1 2 (by decide), h1 3 (by decide), h1 4 (by decide), h3 2 (by decide), h3 3 (by decide), h3 4 (by decide), h3 5 (by decide), h3 6 (by decide), h3 7 (by decide), h3 8 (by decide), h3 9 (by decide), h3 10 (by decide), h3 11 (by decide), h3 12 (by decide)]
  exact hK
/-- what the search leaves as it was -/
def cS (P : pn_T) (σ0 σ : lf_St) : Prop := pK P σ ∧ lf_gi σ 8 = lf_gi σ0 8 ∧ lf_gi σ 9 = lf_gi σ0 9 ∧ lf_gl σ 1 = lf_gl σ0 1 ∧ lf_al σ 20 = lf_al σ0 20
theorem cS_Q {P : pn_T} {σ0 a b : lf_St} (h : cS P σ0 a) (q : cQ a b) : cS P σ0 b := ⟨cQ_pK q h.1, (q.1 8 (by decide) (by decide) (by decide) (by decide)).trans h.2.1, (q.1 9 (by decide) (by decide) (by decide) (by decide)).trans h.2.2.1, (q.2.1 1 (by decide) (by decide)).trans h.2.2.2.1, (q.2.2.2 20 (by decide)).trans h.2.2.2.2⟩
def cL (Ls : List Nat) (σ : lf_St) : Prop := lf_gi σ 5 = nI Ls.length ∧ ∀ i, i < Ls.length → lf_ai σ 14 i = nI (Ls.getD i 0)
theorem cL_Q {Ls : List Nat} {a b : lf_St} (h : cL Ls a) (q : cQ a b) : cL Ls b := by
  unfold cL at h ⊢
  rw [q.1 5 (by decide) (by decide) (by decide) (by decide), q.2.2.1 14 (by decide)]
  exact h
/-- the frame of a kind among the sets of a list -/
def cFl (P : pn_T) (Ls : List Nat) (σ : lf_St) (k : Nat) : Prop :=
  (lf_gi σ (20 + k) = 0 ∧ ∀ s c, s ∈ Ls → ¬ pcost P k s c) ∨
  (lf_gi σ (20 + k) = 1 ∧ ∃ s c, s ∈ Ls ∧ pcost P k s c ∧ (∀ s' c', s' ∈ Ls → pcost P k s' c' → pbt P s c s' c') ∧ lf_gi σ (30 + k) = nI s ∧ lf_gi σ (40 + k) = nI (pub P s (pB P)) ∧ lf_gi σ (50 + k) = nI (puj P s (pB P)) ∧ (lf_gl σ (10 + k)).toInt = c ∧ (lf_gl σ (20 + k)).toInt = pbel P s ∧ ∀ b, b < pB P → (lf_al σ (27 + k) b).toInt = ppu P s b)
def cFe (k : Nat) (a b : lf_St) : Prop := lf_gi b (20 + k) = lf_gi a (20 + k) ∧ lf_gi b (30 + k) = lf_gi a (30 + k) ∧ lf_gi b (40 + k) = lf_gi a (40 + k) ∧ lf_gi b (50 + k) = lf_gi a (50 + k) ∧ lf_gl b (10 + k) = lf_gl a (10 + k) ∧ lf_gl b (20 + k) = lf_gl a (20 + k) ∧ lf_al b (27 + k) = lf_al a (27 + k)
theorem cFl_of {P : pn_T} {Ls : List Nat} {a b : lf_St} {k : Nat} (h : cFe k a b) (hF : cFl P Ls a k) : cFl P Ls b k := by
  obtain ⟨h1, h2, h3, h4, h5, h6, h7⟩ := h
  unfold cFl at hF ⊢
  rw [h1, h2, h3, h4, h5, h6, h7]
  exact hF
theorem cFe_Q {a b : lf_St} {k : Nat} (hk : k < 4) (q : cQ a b) : cFe k a b := ⟨q.1 _ (by omega) (by omega) (by omega) (by omega), q.1 _ (by omega) (by omega) (by omega) (by omega), q.1 _ (by omega) (by omega) (by omega) (by omega), q.1 _ (by omega) (by omega) (by omega) (by omega), q.2.1 _ (by omega) (by omega), q.2.1 _ (by omega) (by omega), q.2.2.2 _ (by omega)⟩
theorem cFl_no {P : pn_T} {Ls : List Nat} {σ : lf_St} {k s : Nat} (h : cFl P Ls σ k) (hn : ∀ c, ¬ pcost P k s c) : cFl P (Ls ++ [s]) σ k := by
  rcases h with ⟨h1, h2⟩ | ⟨h1, s0, c0, h2, h3, h4, h5⟩
  · refine Or.inl ⟨h1, fun s' c' hm => ?_⟩
    rcases List.mem_append.mp hm with q | q
    · exact h2 s' c' q
    · rw [List.mem_singleton.mp q]; exact hn c'
  · refine Or.inr ⟨h1, s0, c0, List.mem_append.mpr (Or.inl h2), h3, fun s' c' hm hc => ?_, h5⟩
    rcases List.mem_append.mp hm with q | q
    · exact h4 s' c' q hc
    · rw [List.mem_singleton.mp q] at hc; exact absurd hc (hn c')
/-- a frame becomes the trial -/
def cBe (k : Nat) (v : Int64) (a b : lf_St) : Prop := lf_gi b (20 + k) = 1 ∧ lf_gi b (30 + k) = lf_gi a 34 ∧ lf_gi b (40 + k) = lf_gi a 44 ∧ lf_gi b (50 + k) = lf_gi a 54 ∧ lf_gl b (10 + k) = v ∧ lf_gl b (20 + k) = lf_gl a 24 ∧ (∀ j, j < 10 → lf_al b (27 + k) j = lf_al a 31 j) ∧ (∀ i, i ≠ 20 + k → i ≠ 30 + k → i ≠ 40 + k → i ≠ 50 + k → lf_gi b i = lf_gi a i) ∧ (∀ i, i ≠ 10 + k → i ≠ 20 + k → lf_gl b i = lf_gl a i) ∧ (∀ i, lf_ai b i = lf_ai a i) ∧ ∀ i, i ≠ 27 + k → lf_al b i = lf_al a i
theorem sc_become {σ : lf_St} {k : Nat} (hk : k < 4) {v : Int64} {Post : lf_St → Prop} (hP : ∀ σ', cBe k v σ σ' → Post σ') : wp_X0_become k 4 v σ Post := by
  intro σ1 e1 σ2 e2 σ3 e3 σ4 e4
  refine hP _ ?_
  have ge : lf_gi σ4 = lf_gi (lf_si σ3 (50 + k) (lf_gi σ3 (50 + 4))) := by rw [e4]; rfl
  have le : lf_gl σ4 = lf_gl (lf_sl σ (10 + k) v) := by rw [e4, e3, e2, e1]; rfl
  have ae : ∀ i, lf_ai σ4 i = lf_ai σ i := fun i => by rw [e4, e3, e2, e1]; rfl
  have be : ∀ i, lf_al σ4 i = lf_al σ i := fun i => by rw [e4, e3, e2, e1]; rfl
  have g0 : ∀ w f i, lf_gi (lf_sB (lf_sl σ4 (20 + k) w) (27 + k) f) i = lf_gi (lf_si σ3 (50 + k) (lf_gi σ3 (50 + 4))) i := fun w f i => congrFun ge i
  have l0 : ∀ w f i, lf_gl (lf_sB (lf_sl σ4 (20 + k) w) (27 + k) f) i = lf_gl (lf_sl σ4 (20 + k) w) i := fun w f i => rfl
  refine ⟨?_, ?_, ?_, ?_, ?_, ?_, ?_, ?_, ?_, ?_, ?_⟩
  · rw [g0, st_gi_si_ne (by omega), e3, st_gi_si_ne (by omega), e2, st_gi_si_ne (by omega), e1, st_gi_si]
  · rw [g0, st_gi_si_ne (by omega), e3, st_gi_si_ne (by omega), e2, st_gi_si, e1, st_gi_si_ne (by omega)]
  · rw [g0, st_gi_si_ne (by omega), e3, st_gi_si, e2, st_gi_si_ne (by omega), e1, st_gi_si_ne (by omega)]
  · rw [g0, st_gi_si, e3, st_gi_si_ne (by omega), e2, st_gi_si_ne (by omega), e1, st_gi_si_ne (by omega)]
  · rw [l0, st_gl_sl_ne (by omega), le, st_gl_sl]
  · rw [l0, st_gl_sl, le, st_gl_sl_ne (by omega)]
  · intro j hj
    rw [st_al_sB, pk_cpy_in (by omega) (by omega), show 0 + (j - 0) = j by omega]
    exact congrFun (be (27 + 4)) j
  · intro i q1 q2 q3 q4
    rw [g0, st_gi_si_ne q4, e3, st_gi_si_ne q3, e2, st_gi_si_ne q2, e1, st_gi_si_ne q1]
  · intro i q1 q2
    rw [l0, st_gl_sl_ne q2, le, st_gl_sl_ne q1]
  · exact ae
  · intro i q
    rw [st_al_sB_ne q]
    exact be i
theorem cBe_S {P : pn_T} {σ0 a b : lf_St} {k : Nat} {v : Int64} (hk : k < 4) (h : cBe k v a b) (hS : cS P σ0 a) : cS P σ0 b := by
  obtain ⟨-, -, -, -, -, -, -, h8, h9, h10, h11⟩ := h
  refine ⟨pK_of (fun i hi => h8 i (by omega) (by omega) (by omega) (by omega)) (fun i _ => h10 i) hS.1, (h8 8 (by omega) (by omega) (by omega) (by omega)).trans hS.2.1, (h8 9 (by omega) (by omega) (by omega) (by omega)).trans hS.2.2.1, (h9 1 (by omega) (by omega)).trans hS.2.2.2.1, (h11 20 (by omega)).trans hS.2.2.2.2⟩
theorem cBe_L {Ls : List Nat} {a b : lf_St} {k : Nat} {v : Int64} (hk : k < 4) (h : cBe k v a b) (hL : cL Ls a) : cL Ls b := by
  obtain ⟨-, -, -, -, -, -, -, h8, h9, h10, h11⟩ := h
  unfold cL at hL ⊢
  rw [h8 5 (by omega) (by omega) (by omega) (by omega), h10 14]
  exact hL
theorem cBe_T {P : pn_T} {s : Nat} {a b : lf_St} {k : Nat} {v : Int64} (hk : k < 4) (h : cBe k v a b) (hT : cT P s a) : cT P s b := by
  obtain ⟨-, -, -, -, -, -, -, h8, h9, h10, h11⟩ := h
  unfold cT at hT ⊢
  rw [h8 34 (by omega) (by omega) (by omega) (by omega), h8 44 (by omega) (by omega) (by omega) (by omega), h8 54 (by omega) (by omega) (by omega) (by omega), h9 24 (by omega) (by omega), h11 31 (by omega)]
  exact hT
theorem cBe_F {P : pn_T} {Ls : List Nat} {a b : lf_St} {k j : Nat} {v : Int64} (hk : k < 4) (hj : j < 4) (hne : j ≠ k) (h : cBe k v a b) (hF : cFl P Ls a j) : cFl P Ls b j := by
  obtain ⟨-, -, -, -, -, -, -, h8, h9, h10, h11⟩ := h
  exact cFl_of ⟨h8 _ (by omega) (by omega) (by omega) (by omega), h8 _ (by omega) (by omega) (by omega) (by omega), h8 _ (by omega) (by omega) (by omega) (by omega), h8 _ (by omega) (by omega) (by omega) (by omega), h9 _ (by omega) (by omega), h9 _ (by omega) (by omega), h11 _ (by omega)⟩ hF
/-- the new one is the best -/
theorem cBe_take {P : pn_T} {Ls : List Nat} {a b : lf_St} {k s : Nat} {v : Int64} {c : Int} (hB : pB P ≤ 10) (h : cBe k v a b) (hT : cT P s a) (hc : pcost P k s c) (hv : v.toInt = c) (hbest : ∀ s' c', s' ∈ Ls → pcost P k s' c' → pbt P s c s' c') : cFl P (Ls ++ [s]) b k := by
  obtain ⟨h1, h2, h3, h4, h5, h6, h7, -⟩ := h
  refine Or.inr ⟨h1, s, c, List.mem_append.mpr (Or.inr (List.mem_singleton.mpr rfl)), hc, fun s' c' hm hc' => ?_, h2.trans hT.1, h3.trans hT.2.2.1, h4.trans hT.2.2.2.1, by rw [h5]; exact hv, by rw [h6]; exact hT.2.1, fun j hj => by rw [h7 j (by omega)]; exact hT.2.2.2.2 j hj⟩
  rcases List.mem_append.mp hm with q | q
  · exact hbest s' c' q hc'
  · have e := List.mem_singleton.mp q
    rw [e] at hc' ⊢
    rw [pcost_fun hc hc']
    exact Or.inr ⟨rfl, Or.inl rfl⟩
theorem pbt_le {P : pn_T} {s s' : Nat} {c c' : Int} (h : pbt P s c s' c') : c * pbel P s' ≤ c' * pbel P s := by
  rcases h with h | ⟨h, -⟩ <;> omega
theorem sc_look {P : pn_T} {σ0 σ : lf_St} (wf : pwf P) {n : Nat} (hn : n < 2 ^ pB P) (hnb : pn_nb n (pB P) = pR P) (hS : cS P σ0 σ) (hL : cL (pql P (n + 1)) σ) (hF : ∀ k, k < 4 → cFl P (pql P (n + 1)) σ k) {Post : lf_St → Prop} (hP : ∀ σ', cS P σ0 σ' → cL (pql P n) σ' → (∀ k, k < 4 → cFl P (pql P n) σ' k) → Post σ') : wp_X4_look (nI (pn_rev (pB P) n)) σ Post := by
  have hB := wf.2.1
  have hlen : (pql P (n + 1)).length < 210 := by
    have h1 := pql_len wf (2 ^ pB P - (n + 1)) (n + 1) (by omega)
    have h2 := pct_step (R := pR P) hn
    have h3 := pct_210 wf (Nat.le_of_lt hn)
    rw [if_pos hnb] at h2
    omega
  have hs := rev_lt (pB P) n
  have hrn := rev_nb _ (by omega) n hn
  rw [hnb] at hrn
  have hst := pql_step hn
  have hah : ∀ s', s' ∈ pql P (n + 1) → pah s' (pn_rev (pB P) n) := fun s' h => pql_ah h
  have hlt : ∀ s', s' ∈ pql P (n + 1) → pch P s' = true := fun s' h => (pql_lt h).2
  generalize pn_rev (pB P) n = s at hs hrn hst hah ⊢
  unfold wp_X4_look
  have e210 : (210 : Int32) = nI 210 := rfl
  rw [hL.1, e210]
  refine ⟨fun h => absurd h (nI_ge hlen (by omega)), fun _ => sc_tryBars wf hS.1 hs hrn (fun hp σ2 q => ⟨fun h => absurd rfl h, fun _ => ?_⟩) (fun hp σ2 q hT hV => ⟨fun _ => ?_, fun h => absurd h (by decide)⟩)⟩
  · rw [hp] at hst
    have e : pql P n = pql P (n + 1) := by rw [hst]; exact List.append_nil _
    rw [e] at hP
    exact hP σ2 (cS_Q hS q) (cL_Q hL q) (fun k hk => cFl_of (cFe_Q hk q) (hF k hk))
  rw [if_pos hp] at hst
  have hL2 := cL_Q hL q
  have hS2 := cS_Q hS q
  rw [hL2.1, nu_cl (by omega)]
  refine ⟨vp_in_nI hlen (by omega), fun σ5 e5 => ?_⟩
  have g5 : lf_gi σ5 5 = nI (pql P (n + 1)).length := by rw [e5]; exact hL2.1
  rw [g5, nI_1]
  have L0 : cL (pql P n) (lf_si σ5 5 (nI ((pql P (n + 1)).length + 1))) := by
    have el : (pql P n).length = (pql P (n + 1)).length + 1 := by rw [hst, List.length_append]; rfl
    refine ⟨by rw [st_gi_si, el], fun i hi => ?_⟩
    show lf_ai σ5 14 i = _
    rw [e5, st_ai_sa, hst]
    by_cases z : i = (pql P (n + 1)).length
    · rw [z, pk_us, List.getD_eq_getElem?_getD, List.getElem?_append_right (Nat.le_refl _), Nat.sub_self]
      rfl
    · rw [pk_un z, hL2.2 i (by omega), List.getD_eq_getElem?_getD, List.getD_eq_getElem?_getD, List.getElem?_append_left (by omega)]
  have hbel := pbel_le wf hrn
  have hpos := pbel_pos hp
  have z := pk_loop (fun fu k (t : lf_St) => L_X4_look_41 Post fu (nI k) t) (fun k t => cS P σ0 t ∧ cT P s t ∧ cL (pql P n) t ∧ (∀ j, j < k → j < 4 → cFl P (pql P n) t j) ∧ ∀ j, k ≤ j → j < 4 → cFl P (pql P (n + 1)) t j) 4 0 (lf_si σ5 5 (nI ((pql P (n + 1)).length + 1))) (by omega) ⟨?_, ?_, L0, fun j h => absurd h (Nat.not_lt_zero j), fun j _ hj => ?_⟩ ?_ ?_
  · rw [nI_0] at z
    exact z
  · refine ⟨pK_of (a := σ2) (fun i hi => by rw [st_gi_si_ne (by omega), e5]; rfl) (fun i hi => by show lf_ai σ5 i = _; rw [e5, st_ai_sa_ne (by omega)]) hS2.1, ?_, ?_, ?_, ?_⟩
    · rw [st_gi_si_ne (by decide), e5]; exact hS2.2.1
    · rw [st_gi_si_ne (by decide), e5]; exact hS2.2.2.1
    · rw [e5]; exact hS2.2.2.2.1
    · rw [e5]; exact hS2.2.2.2.2
  · rw [e5]
    exact hT
  · refine cFl_of (a := σ2) ?_ (cFl_of (cFe_Q hj q) (hF j hj))
    refine ⟨?_, ?_, ?_, ?_, ?_, ?_, ?_⟩
    · rw [st_gi_si_ne (by omega), e5]; rfl
    · rw [st_gi_si_ne (by omega), e5]; rfl
    · rw [st_gi_si_ne (by omega), e5]; rfl
    · rw [st_gi_si_ne (by omega), e5]; rfl
    · rw [e5]; rfl
    · rw [e5]; rfl
    · rw [e5]; rfl
  · intro m t ⟨a1, a2, a3, a4, a5⟩
    show L_X4_look_41 Post (m + 1) _ _
    unfold L_X4_look_41
    exact ⟨fun _ => hP t a1 a3 (fun k hk => a4 k hk hk), fun h => absurd (by decide) h⟩
  · intro m k t hk ⟨a1, a2, a3, a4, a5⟩ ih
    show L_X4_look_41 Post (m + 1) _ _
    unfold L_X4_look_41
    have e4 : (4 : Int32) = nI 4 := rfl
    rw [e4, nu_cl (by omega)]
    have vk : vp_in (nI k) 4 := vp_in_nI hk (by omega)
    have keep : cFl P (pql P n) t k → ∀ v, v = nI k + 1 → L_X4_look_41 Post m v t := by
      intro hk2 v ev
      rw [ev, nI_1]
      refine ih t ⟨a1, a2, a3, fun j hj hj4 => ?_, fun j hj hj4 => a5 j (by omega) hj4⟩
      by_cases e : j = k
      · rw [e]; exact hk2
      · exact a4 j (by omega) hj4
    refine ⟨fun h => absurd h (nI_ge hk (by omega)), fun _ => sc_trialTop wf a1.1 hk hrn a2 (fun v hv => ?_)⟩
    rcases hv with ⟨c, hc, ev⟩ | ⟨hno, ev⟩
    · have hcl := pcost_le wf hrn hc
      refine ⟨fun h => ?_, fun _ => ⟨vk, ?_⟩⟩
      · rw [h] at ev
        have : (-1 : Int64).toInt = -1 := rfl
        omega
      have take : (∀ s' c', s' ∈ pql P (n + 1) → pcost P k s' c' → pbt P s c s' c') → ∀ r : Int32, r = 1 → ((r = 0) → ∀ v8 : Int32, v8 = nI k + 1 → L_X4_look_41 Post m v8 t) ∧ ((¬ (r = 0)) → (vp_in (nI k) 4 ∧ (wp_X0_become k 4 v t (fun σ10 => ∀ v11 : Int32, v11 = nI k + 1 → (L_X4_look_41 Post m v11 σ10))))) := by
        intro hb r hr
        rw [hr]
        refine ⟨fun h => absurd h (by decide), fun _ => ⟨vk, sc_become hk (fun σ10 hbe v11 e11 => ?_)⟩⟩
        rw [e11, nI_1]
        refine ih σ10 ⟨cBe_S hk hbe a1, cBe_T hk hbe a2, cBe_L hk hbe a3, fun j hj hj4 => ?_, fun j hj hj4 => cBe_F hk hj4 (by omega) hbe (a5 j (by omega) hj4)⟩
        by_cases e : j = k
        · rw [e, hst]; exact cBe_take hB hbe a2 hc ev hb
        · exact cBe_F hk hj4 e hbe (a4 j (by omega) hj4)
      have e24 : (lf_gl t (20 + 4)).toInt = pbel P s := a2.2.1
      unfold wp_X0_givesWayTo
      rcases a5 k (Nat.le_refl _) hk with ⟨f1, f2⟩ | ⟨f1, s0, c0, f2, f3, f4, f5, f6, f7, f8, f9, f10⟩
      · rw [f1]
        exact ⟨fun _ => take (fun s' c' hm hc' => absurd hc' (f2 s' c' hm)) 1 rfl, fun h => absurd rfl h⟩
      · rw [f1]
        have p0 := hlt s0 f2
        have n0 := pch_nb p0
        have b0 := pbel_le wf n0
        have q0 := pbel_pos p0
        have c0l := pcost_le wf n0 f3
        have m1 := nu_mul64 (S := 706000000000) (T := 2985984) f8 e24 (by omega) (by omega) (by decide)
        have m2 := nu_mul64 (S := 706000000000) (T := 2985984) ev f9 (by omega) (by omega) (by decide)
        refine ⟨fun h => absurd h (by decide), fun _ => ?_⟩
        rw [nu_le64, m1, m2]
        refine ⟨fun hle => ⟨fun _ => keep ?_, fun h => absurd rfl h⟩, fun hgt => take (fun s' c' hm hc' => ?_) 1 rfl⟩
        · rw [hst]
          refine Or.inr ⟨f1, s0, c0, List.mem_append.mpr (Or.inl f2), f3, fun s' c' hm hc' => ?_, f5, f6, f7, f8, f9, f10⟩
          rcases List.mem_append.mp hm with w | w
          · exact f4 s' c' w hc'
          · rw [List.mem_singleton.mp w] at hc' ⊢
            rw [pcost_fun hc' hc]
            by_cases e : c0 * pbel P s = c * pbel P s0
            · exact Or.inr ⟨e, Or.inr (hah s0 f2)⟩
            · exact Or.inl (by omega)
        · have w := pbt_le (f4 s' c' hm hc')
          exact Or.inl (fr_lt_le hpos q0 (pbel_pos (hlt s' hm)) (by omega) w)
    · refine ⟨fun _ => keep ?_, fun h => absurd (nu_eq64.mpr ev) h⟩
      rw [hst]
      exact cFl_no (a5 k (Nat.le_refl _) hk) hno
theorem cFl_Fr {P : pn_T} {σ : lf_St} {k : Nat} (h : cFl P (pql P 0) σ k) : pFr P σ k := by
  rcases h with ⟨h1, h2⟩ | ⟨h1, s, c, h2, h3, h4, h5⟩
  · exact Or.inl ⟨h1, fun s c hs hp => h2 s c (pql_all hs hp)⟩
  · exact Or.inr ⟨h1, s, c, ⟨(pql_lt h2).1, (pql_lt h2).2, h3, fun s' c' hs hp hc => h4 s' c' (pql_all hs hp) hc⟩, h5⟩
theorem sc_run {P : pn_T} {σ : lf_St} (wf : pwf P) (hK : pK P σ) (hkn : lf_gi σ 6 = 0 ∨ (lf_gi σ 6 = 1 ∧ pKn P σ)) {Post : lf_St → Prop} (hP : ∀ σ', cS P σ σ' → lf_gi σ' 6 = 1 → pKn P σ' → Post σ') : wp_X4_run σ Post := by
  have hB := wf.2.1
  have h10 : 2 ^ pB P ≤ 2 ^ 10 := Nat.pow_le_pow_right (by decide) (by omega)
  have hpp := Nat.two_pow_pos (pB P)
  unfold wp_X4_run
  refine ⟨fun _ => ?_, fun h => ?_⟩
  · have z := pk_loop (fun fu k (t : lf_St) => L_X4_run_15 Post fu (nI k) t) (fun k t => cS P σ t ∧ lf_gi t 5 = nI 0 ∧ ∀ j, j < k → lf_gi t (20 + j) = 0) 4 0 (lf_si σ 5 0) (by omega) ⟨⟨pK_of (a := σ) (fun i hi => st_gi_si_ne (by omega)) (fun _ _ => rfl) hK, rfl, rfl, rfl, rfl⟩, rfl, fun j h => absurd h (Nat.not_lt_zero j)⟩ ?_ ?_
    · rw [nI_0] at z
      exact z
    · intro m t ⟨a1, a2, a3⟩
      show L_X4_run_15 Post (m + 1) _ _
      unfold L_X4_run_15
      refine ⟨fun _ v2 e2 => ?_, fun h => absurd (by decide) h⟩
      rw [a1.1.2.2.1, bt_shl (by omega)] at e2
      rw [e2]
      have y := pk_loop (fun fu i (t : lf_St) => L_X4_run_48 Post fu (nI (2 ^ pB P - i) - 1) t) (fun i t => cS P σ t ∧ cL (pql P (2 ^ pB P - i)) t ∧ ∀ k, k < 4 → cFl P (pql P (2 ^ pB P - i)) t k) (2 ^ pB P) 0 t (by omega) ⟨a1, ?_, fun k hk => ?_⟩ ?_ ?_
      · exact y
      · rw [Nat.sub_zero, pql_top]
        exact ⟨a2, fun i h => absurd h (Nat.not_lt_zero i)⟩
      · rw [Nat.sub_zero, pql_top]
        exact Or.inl ⟨a3 k hk, fun s c h => absurd h List.not_mem_nil⟩
      · intro m2 t ⟨b1, b2, b3⟩
        rw [Nat.sub_self] at b2 b3
        show L_X4_run_48 Post (m2 + 1) _ _
        unfold L_X4_run_48
        rw [Nat.sub_self]
        refine ⟨fun _ => hP _ ⟨pK_of (a := t) (fun i hi => st_gi_si_ne (by omega)) (fun _ _ => rfl) b1.1, b1.2⟩ rfl ⟨?_, ?_, fun k hk => ?_⟩, fun h => absurd (by decide) h⟩
        · rw [← pql_0]; exact b2.1
        · rw [← pql_0]; exact b2.2
        · refine cFl_Fr (cFl_of (a := t) ⟨st_gi_si_ne (by omega), st_gi_si_ne (by omega), st_gi_si_ne (by omega), st_gi_si_ne (by omega), rfl, rfl, rfl⟩ (b3 k hk))
      · intro m2 i t hi ⟨b1, b2, b3⟩ ih
        obtain ⟨n, en, hn⟩ : ∃ n, 2 ^ pB P - i = n + 1 ∧ n < 2 ^ pB P := ⟨2 ^ pB P - i - 1, by omega, by omega⟩
        have en2 : 2 ^ pB P - (i + 1) = n := by omega
        rw [en] at b2 b3
        rw [en2] at ih
        show L_X4_run_48 Post (m2 + 1) (nI (2 ^ pB P - i) - 1) _
        unfold L_X4_run_48
        rw [en, nI_pred]
        have nx : ∀ v : Int32, v = nI n + (-1) → v = nI n - 1 := fun v e => by rw [e, Int32.sub_eq_add_neg]
        refine ⟨fun h => absurd h (nI_pos (by omega)), fun _ => sc_bits (by omega) ?_⟩
        have e10 : pn_nb n 10 = pn_nb n (pB P) := by
          have := nb_up hn (10 - pB P)
          rw [show pB P + (10 - pB P) = 10 by omega] at this
          exact this
        have hle := nb_le n (pB P)
        have h6 := pR_6 wf
        unfold wp_X2_rows
        rw [e10, b1.1.2.1, nu_2]
        have er : 2 * pn_fc (pE P) (pJ P) = pR P := rfl
        rw [er]
        dsimp only
        rw [nI_eq (by omega) (by omega)]
        refine ⟨fun hne v5 e5 => ?_, fun he => sc_mirrored wf b1.1 hn (sc_look wf hn he b1 b2 b3 (fun σ' c1 c2 c3 v8 e8 => ?_))⟩
        · rw [nx v5 e5]
          have hno : ¬ pch P (pn_rev (pB P) n) = true := fun q => hne (by rw [← pch_nb q]; exact (rev_nb _ (by omega) n hn).symm)
          have e : pql P n = pql P (n + 1) := by rw [pql_step hn, if_neg hno]; exact List.append_nil _
          refine ih t ⟨b1, ?_, ?_⟩
          · rw [e]; exact b2
          · rw [e]; exact b3
        · rw [nx v8 e8]
          exact ih σ' ⟨c1, c2, c3⟩
    · intro m k t hk ⟨a1, a2, a3⟩ ih
      show L_X4_run_15 Post (m + 1) _ _
      unfold L_X4_run_15
      have e4 : (4 : Int32) = nI 4 := rfl
      rw [e4, nu_cl (by omega)]
      refine ⟨fun h => absurd h (nI_ge hk (by omega)), fun _ => ⟨vp_in_nI hk (by omega), fun v4 ev4 => ?_⟩⟩
      rw [ev4, nI_1]
      refine ih _ ⟨⟨pK_of (a := t) (fun i hi => st_gi_si_ne (by omega)) (fun _ _ => rfl) a1.1, ?_, ?_, a1.2.2.2.1, a1.2.2.2.2⟩, ?_, fun j hj => ?_⟩
      · rw [st_gi_si_ne (by omega)]; exact a1.2.1
      · rw [st_gi_si_ne (by omega)]; exact a1.2.2.1
      · rw [st_gi_si_ne (by omega)]; exact a2
      · by_cases e : j = k
        · rw [e, st_gi_si]
        · rw [st_gi_si_ne (by omega)]; exact a3 j (by omega)
  · rcases hkn with hk | ⟨hk, hkn⟩
    · exact absurd hk h
    · exact hP σ ⟨hK, rfl, rfl, rfl, rfl⟩ hk hkn
