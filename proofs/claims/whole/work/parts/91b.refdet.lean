/-! THE REFERENCE'S determinant: whole elimination by rows -/
def rd_St (M : Nat → Nat → Int) (n k : Nat) (w : Nat → Int64) : Prop := ∀ i c, k ≤ i → i < n → k ≤ c → c < n → (w (6 * i + c)).toInt = dt_b M k i c
/-- in the midst of step k: rows before i, and of row i the columns before j, are of step k + 1 -/
def rd_Q (M : Nat → Nat → Int) (n k i j : Nat) (w : Nat → Int64) : Prop := ∀ i' c, k ≤ i' → i' < n → k ≤ c → c < n → (w (6 * i' + c)).toInt = if k < c ∧ (k < i' ∧ i' < i ∨ i' = i ∧ c < j) then dt_b M (k + 1) i' c else dt_b M k i' c
theorem rd_elimj {τ : lf_St} {n S U s : Nat} {M : Nat → Nat → Int} (hn : lf_gi τ 14 = nI n) (hn6 : n ≤ 6) (hcb : dt_cb M n s S U) (hS : 1 ≤ S) (hU : 1 ≤ U) (hB : 2 * (S * U ^ 5 * (S * U ^ 5)) < 2 ^ 63) {k i : Nat} (hk : k < i) (hi : i < n) {x2 x4 : Int64} (hx2 : x2.toInt = dt_D k M) (h0 : dt_D k M ≠ 0) (h1 : dt_b M k k k ≠ 0)
    {K : Int64 → Int64 → Int32 → Int32 → lf_St → Prop} {Post : Int64 → lf_St → Prop} (hK : ∀ w, rd_Q M n k (i + 1) (k + 1) w → K x2 x4 (nI k) (nI (i + 1)) (lf_sB τ 16 w)) {w : Nat → Int64} (hw : rd_Q M n k i (k + 1) w) : ∃ fu, L_X6_determinant_240 K Post fu x2 x4 (nI k) (nI i) (nI (k + 1)) (lf_sB τ 16 w) := by
  have hg : ∀ w, lf_gi (lf_sB τ 16 w) 14 = nI n := fun _ => hn
  refine pk_loop (fun fu j w => L_X6_determinant_240 K Post fu x2 x4 (nI k) (nI i) (nI j) (lf_sB τ 16 w)) (fun j w => k < j ∧ rd_Q M n k i j w) n (k + 1) w (by omega) ⟨by omega, hw⟩ ?_ ?_
  · intro m w ⟨hj, hq⟩
    show L_X6_determinant_240 K Post (m + 1) _ _ _ _ _ _
    unfold L_X6_determinant_240
    rw [hg]
    refine ⟨fun _ v2 e2 => ?_, fun h => absurd (nI_le (Nat.le_refl _) (by omega)) h⟩
    rw [e2, nI_1]
    refine hK w (fun i' c a1 a2 a3 a4 => ?_)
    rw [hq i' c a1 a2 a3 a4]
    by_cases q : k < c ∧ (k < i' ∧ i' < i ∨ i' = i ∧ c < n)
    · rw [if_pos q, if_pos ⟨q.1, by omega⟩]
    · rw [if_neg q, if_neg (fun z => q ⟨z.1, by omega⟩)]
  · intro m j w hjn ⟨hj, hq⟩ ih
    show L_X6_determinant_240 K Post (m + 1) _ _ _ _ _ _
    unfold L_X6_determinant_240
    rw [hg]
    refine ⟨fun h => absurd h (nI_ge hjn (by omega)), fun _ => ?_⟩
    rw [nu_ix, nu_ix, nu_ix, nu_ix, nu_cl (by omega), nu_cl (by omega), nu_cl (by omega), nu_cl (by omega), st_al_sB, st_sb_sB]
    refine ⟨vp_in_nI (by omega) (by omega), vp_in_nI (by omega) (by omega), vp_in_nI (by omega) (by omega), vp_in_nI (by omega) (by omega), fun z => h0 (by rw [← hx2]; exact nu_l0.mp z), vp_in_nI (by omega) (by omega), fun v9 e9 => ?_⟩
    rw [e9, nI_1]
    refine ih _ ⟨by omega, ?_⟩
    intro i' c a1 a2 a3 a4
    have g1 := hq i j (by omega) hi (by omega) hjn
    have g2 := hq k k (by omega) (by omega) (by omega) (by omega)
    have g3 := hq i k (by omega) hi (by omega) (by omega)
    have g4 := hq k j (by omega) (by omega) (by omega) hjn
    rw [if_neg (by omega)] at g1 g2 g3 g4
    by_cases e : 6 * i' + c = 6 * i + j
    · have e1 : i' = i := by omega
      have e2 : c = j := by omega
      subst e1
      subst e2
      rw [pk_uLs, if_pos (by omega)]
      have hT : ∀ r c', k ≤ r → r < n → k ≤ c' → (dt_b M k r c').natAbs ≤ S * U ^ 5 := fun r c' b1 b2 b3 => Nat.le_trans (dt_b_le hcb hS b1 b2 b3) (Nat.mul_le_mul (Nat.le_refl _) (Nat.pow_le_pow_right hU (by omega)))
      refine nu_bar (T := S * U ^ 5) (by rw [g1]; exact hT _ _ (by omega) hi (by omega)) (by rw [g2]; exact hT _ _ (by omega) (by omega) (by omega)) (by rw [g3]; exact hT _ _ (by omega) hi (by omega)) (by rw [g4]; exact hT _ _ (by omega) (by omega) (by omega)) hB (by rw [hx2]; exact h0) ?_
      rw [g1, g2, g3, g4, hx2, ← dt_sylv h1]
      grind
    · rw [pk_uLn e, hq i' c a1 a2 a3 a4]
      by_cases q : k < c ∧ (k < i' ∧ i' < i ∨ i' = i ∧ c < j)
      · rw [if_pos q, if_pos ⟨q.1, by omega⟩]
      · rw [if_neg q, if_neg (fun z => q ⟨z.1, by
          rcases z.2 with z | z
          · exact Or.inl z
          · exact Or.inr ⟨z.1, by
              have := z.2
              have := z.1
              omega⟩⟩)]
theorem rd_elim {τ : lf_St} {n S U s : Nat} {M : Nat → Nat → Int} (hn : lf_gi τ 14 = nI n) (hn6 : n ≤ 6) (hcb : dt_cb M n s S U) (hS : 1 ≤ S) (hU : 1 ≤ U) (hB : 2 * (S * U ^ 5 * (S * U ^ 5)) < 2 ^ 63) {k : Nat} (hk : k < n) {x2 x4 : Int64} (hx2 : x2.toInt = dt_D k M) (h0 : dt_D k M ≠ 0) (h1 : dt_b M k k k ≠ 0)
    {K : Int64 → Int64 → Int32 → lf_St → Prop} {Post : Int64 → lf_St → Prop} (hK : ∀ w, rd_St M n (k + 1) w → (w (6 * k + k)).toInt = dt_b M k k k → K (w (6 * k + k)) x4 (nI (k + 1)) (lf_sB τ 16 w)) {w : Nat → Int64} (hw : rd_St M n k w) : ∃ fu, L_X6_determinant_225 K Post fu x2 x4 (nI k) (nI (k + 1)) (lf_sB τ 16 w) := by
  have hg : ∀ w, lf_gi (lf_sB τ 16 w) 14 = nI n := fun _ => hn
  refine pk_loop (fun fu i w => L_X6_determinant_225 K Post fu x2 x4 (nI k) (nI i) (lf_sB τ 16 w)) (fun i w => k < i ∧ rd_Q M n k i (k + 1) w) n (k + 1) w (by omega) ⟨by omega, ?_⟩ ?_ ?_
  · intro i' c a1 a2 a3 a4
    rw [if_neg (by omega)]
    exact hw i' c a1 a2 a3 a4
  · intro m w ⟨hi, hq⟩
    show L_X6_determinant_225 K Post (m + 1) _ _ _ _ _
    unfold L_X6_determinant_225
    rw [hg]
    refine ⟨fun _ => ?_, fun h => absurd (nI_le (Nat.le_refl _) (by omega)) h⟩
    rw [nu_ix, nu_cl (by omega), st_al_sB]
    refine ⟨vp_in_nI (by omega) (by omega), fun v3 e3 v4 e4 => ?_⟩
    rw [e3, e4, nI_1]
    refine hK w (fun i' c a1 a2 a3 a4 => ?_) ?_
    · rw [hq i' c (by omega) a2 (by omega) a4, if_pos (by omega)]
    · rw [hq k k (by omega) hk (by omega) hk, if_neg (by omega)]
  · intro m i w hin ⟨hi, hq⟩ ih
    show L_X6_determinant_225 K Post (m + 1) _ _ _ _ _
    unfold L_X6_determinant_225
    rw [hg]
    refine ⟨fun h => absurd h (nI_ge hin (by omega)), fun _ v5 e5 => ?_⟩
    rw [e5, nI_1]
    exact rd_elimj hn hn6 hcb hS hU hB hi hin hx2 h0 h1 (fun w' hw' => ih w' ⟨by omega, hw'⟩) hq
/-- rows r and k trade places -/
theorem rd_swap {τ : lf_St} {n : Nat} (hn : lf_gi τ 14 = nI n) (hn6 : n ≤ 6) {k r : Nat} (hk : k < n) (hr : r < n) (hkr : k ≠ r) {x2 x4 : Int64} {K : Int64 → Int64 → Int32 → lf_St → Prop} {Post : Int64 → lf_St → Prop} {w0 : Nat → Int64}
    (hK : ∀ w, (∀ i c, i < n → c < n → w (6 * i + c) = w0 (6 * (if i = k then r else if i = r then k else i) + c)) → ∃ fu, L_X6_determinant_225 K Post fu x2 (-x4) (nI k) (nI (k + 1)) (lf_sB τ 16 w)) : ∃ fu, L_X6_determinant_143 K Post fu x2 x4 (nI k) (nI r) 0 (lf_sB τ 16 w0) := by
  have hg : ∀ w, lf_gi (lf_sB τ 16 w) 14 = nI n := fun _ => hn
  have z := pk_loop (fun fu j w => L_X6_determinant_143 K Post fu x2 x4 (nI k) (nI r) (nI j) (lf_sB τ 16 w)) (fun j w => ∀ i c, i < n → c < n → w (6 * i + c) = w0 (6 * (if c < j then (if i = k then r else if i = r then k else i) else i) + c)) n 0 w0 (by omega) (fun i c _ _ => by rw [if_neg (by omega)]) ?_ ?_
  · rw [nI_0] at z
    exact z
  · intro m w hq
    show L_X6_determinant_143 K Post (m + 1) _ _ _ _ _ _
    unfold L_X6_determinant_143
    rw [hg]
    refine ⟨fun _ v2 e2 v3 e3 => ?_, fun h => absurd (nI_le (Nat.le_refl _) (by omega)) h⟩
    rw [e2, e3, nI_1]
    exact hK w (fun i c a1 a2 => by rw [hq i c a1 a2, if_pos a2])
  · intro m j w hjn hq ih
    show L_X6_determinant_143 K Post (m + 1) _ _ _ _ _ _
    unfold L_X6_determinant_143
    rw [hg]
    refine ⟨fun h => absurd h (nI_ge hjn (by omega)), fun _ => ?_⟩
    rw [nu_ix, nu_ix, nu_cl (by omega), nu_cl (by omega), st_al_sB, st_sb_sB]
    refine ⟨vp_in_nI (by omega) (by omega), fun v5 e5 => ⟨vp_in_nI (by omega) (by omega), vp_in_nI (by omega) (by omega), vp_in_nI (by omega) (by omega), fun v9 e9 => ?_⟩⟩
    rw [e9, nI_1, st_sb_sB]
    refine ih _ (fun i c a1 a2 => ?_)
    by_cases e1 : 6 * i + c = 6 * k + j
    · have : i = k := by omega
      have : c = j := by omega
      subst i
      subst c
      rw [pk_uLs, e5, hq r j hr hjn, if_neg (by omega), if_pos (by omega), if_pos rfl]
    · rw [pk_uLn e1]
      by_cases e2 : 6 * i + c = 6 * r + j
      · have : i = r := by omega
        have : c = j := by omega
        subst i
        subst c
        rw [pk_uLs, hq k j hk hjn, if_neg (by omega), if_pos (by omega), if_neg (fun z => hkr z.symm), if_pos rfl]
      · rw [pk_uLn e2, hq i c a1 a2]
        by_cases q : c < j
        · rw [if_pos q, if_pos (show c < j + 1 by omega)]
        · rw [if_neg q]
          by_cases q2 : c = j
          · rw [if_pos (show c < j + 1 by omega), if_neg (show ¬ i = k by omega), if_neg (show ¬ i = r by omega)]
          · rw [if_neg (show ¬ c < j + 1 by omega)]
/-- from step k on -/
theorem rd_steps {τ : lf_St} {n S U s : Nat} {Mt : Nat → Nat → Int} (hn : lf_gi τ 14 = nI n) (hn6 : n ≤ 6) (hS : 1 ≤ S) (hU : 1 ≤ U) (hB : 2 * (S * U ^ 5 * (S * U ^ 5)) < 2 ^ 63) {Post : Int64 → lf_St → Prop} (hP : ∀ w v, v = Int64.ofInt (dt_D n Mt) → Post v (lf_sB τ 16 w)) (hcb : dt_cb Mt n s S U) {w : Nat → Int64} (hw : rd_St Mt n 0 w) : ∃ fu, L_X6_determinant_76 Post fu 1 1 0 (lf_sB τ 16 w) := by
  have hg : ∀ w, lf_gi (lf_sB τ 16 w) 14 = nI n := fun _ => hn
  have z := pk_loop (σ := Int64 × Int64 × (Nat → Int64)) (fun fu k q => L_X6_determinant_76 Post fu q.1 q.2.1 (nI k) (lf_sB τ 16 q.2.2)) (fun k q => ∃ M, dt_cb M n s S U ∧ q.1.toInt = dt_D k M ∧ dt_D k M ≠ 0 ∧ (q.2.1.toInt = 1 ∨ q.2.1.toInt = -1) ∧ q.2.1.toInt * dt_D n M = dt_D n Mt ∧ rd_St M n k q.2.2) n 0 (1, 1, w) (by omega) ⟨Mt, hcb, rfl, by show (1 : Int) ≠ 0; decide, Or.inl rfl, by show (1 : Int) * _ = _; omega, hw⟩ ?_ ?_
  · rw [nI_0] at z
    exact z
  · intro m ⟨x2, x4, w⟩ ⟨M, c1, c2, c3, c4, c5, c6⟩
    show L_X6_determinant_76 Post (m + 1) x2 x4 _ _
    unfold L_X6_determinant_76
    rw [hg]
    refine ⟨fun _ => ?_, fun h => absurd (nI_le (Nat.le_refl _) (by omega)) h⟩
    refine hP w _ (nu_lof ?_)
    dsimp only at c2 c4 c5
    have hle : -2 ^ 63 ≤ x2.toInt ∧ x2.toInt < 2 ^ 63 := ⟨Int64.le_toInt x2, Int64.toInt_lt x2⟩
    rcases c4 with e | e
    · rw [Jvm.Kit.i64_mul (by rw [e]; omega) (by rw [e]; omega), c2, c5]
    · have hne : x2.toInt ≠ -2 ^ 63 := by
        intro q
        have hb := dt_D_le c1 hS hU
        rw [← c2, q] at hb
        have : S * U ^ n ≤ S * U ^ 5 * (S * U ^ 5) := rd_pow hS hU hn6
        omega
      rw [Jvm.Kit.i64_mul (by rw [e]; omega) (by rw [e]; omega), c2, c5]
  · intro m k ⟨x2, x4, w⟩ hkn ⟨M, c1, c2, c3, c4, c5, c6⟩ ih
    dsimp only at c2 c4 c5 c6
    show L_X6_determinant_76 Post (m + 1) x2 x4 _ _
    unfold L_X6_determinant_76
    rw [hg]
    refine ⟨fun h => absurd h (nI_ge hkn (by omega)), fun _ => ?_⟩
    refine pk_loop (fun fu r (_ : Unit) => L_X6_determinant_89 (L_X6_determinant_76 Post m) Post fu x2 x4 (nI k) (nI r) (lf_sB τ 16 w)) (fun r _ => k ≤ r ∧ ∀ i, k ≤ i → i < r → (w (6 * i + k)).toInt = 0) n k () (by omega) ⟨Nat.le_refl _, fun i a b => by omega⟩ ?_ ?_
    · intro f _ ⟨_, hq⟩
      show L_X6_determinant_89 _ Post (f + 1) _ _ _ _ _
      unfold L_X6_determinant_89
      rw [hg]
      refine ⟨fun _ => ?_, fun h => absurd (nI_le (Nat.le_refl _) (by omega)) h⟩
      unfold J_X6_determinant_122
      rw [hg]
      refine ⟨fun h => absurd rfl h, fun _ => ?_⟩
      refine hP w _ ?_
      have : dt_D n M = 0 := dt_sing hkn c3 (fun r a b => by rw [← c6 r k a b (Nat.le_refl _) hkn]; exact hq r a b)
      rw [← c5, this, Int.mul_zero]
      rfl
    · intro f r _ hrn ⟨hkr, hq⟩ ihr
      show L_X6_determinant_89 _ Post (f + 1) _ _ _ _ _
      unfold L_X6_determinant_89
      rw [hg]
      refine ⟨fun h => absurd h (nI_ge hrn (by omega)), fun _ => ?_⟩
      rw [nu_ix, nu_cl (by omega), st_al_sB]
      refine ⟨vp_in_nI (by omega) (by omega), fun hne => ?_, fun h0 v4 e4 => ?_⟩
      · have hp : dt_b M k r k ≠ 0 := fun q => hne (nu_l0.mpr (by rw [c6 r k hkr hrn (Nat.le_refl _) hkn]; exact q))
        unfold J_X6_determinant_122
        rw [hg]
        refine ⟨fun _ => ⟨fun e v3 e3 => ?_, fun e => ?_⟩, fun e => absurd ((nI_eq (by omega) (by omega)).mp e) (by omega)⟩
        · have er : r = k := (nI_eq (by omega) (by omega)).mp e
          subst er
          rw [e3, nI_1]
          refine rd_elim hn hn6 c1 hS hU hB hkn c2 c3 hp (fun w' h1 h2 => ?_) c6
          exact ih (w' (6 * r + r), x4, w') ⟨M, c1, by show _ = _; rw [h2, dt_P_succ], by rw [dt_P_succ]; exact hp, c4, c5, h1⟩
        · have er : k ≠ r := fun q => e (by rw [q])
          refine rd_swap hn hn6 hkn hrn er (fun w' hw' => ?_)
          have hup : ∀ i c, i < k → dt_sw M k r i c = M i c := fun i c hi => by unfold dt_sw; rw [if_neg (by omega), if_neg (by omega)]
          have hDk : dt_D k (dt_sw M k r) = dt_D k M := dt_D_same hup
          have hSt : rd_St (dt_sw M k r) n k w' := by
            intro i c a1 a2 a3 a4
            rw [hw' i c a2 a4]
            by_cases q1 : i = k
            · subst q1
              rw [if_pos rfl, c6 r c (by omega) hrn a3 a4]
              exact (dt_b_same hup (fun c => by unfold dt_sw; rw [if_pos rfl])).symm
            · rw [if_neg q1]
              by_cases q2 : i = r
              · subst q2
                rw [if_pos rfl, c6 k c (Nat.le_refl _) hkn a3 a4]
                exact (dt_b_same hup (fun c => by unfold dt_sw; rw [if_neg q1, if_pos rfl])).symm
              · rw [if_neg q2, c6 i c a1 a2 a3 a4]
                exact (dt_b_same hup (fun c => by unfold dt_sw; rw [if_neg q1, if_neg q2])).symm
          have hpk : dt_b (dt_sw M k r) k k k ≠ 0 := by
            rw [dt_b_same (N := M) (r' := r) hup (fun c => by unfold dt_sw; rw [if_pos rfl])]
            exact hp
          have hs4 : (-x4).toInt = - x4.toInt := Jvm.Kit.i64_neg (by rcases c4 with q | q <;> rw [q] <;> decide)
          refine rd_elim hn hn6 (dt_cb_sw c1 hkn hrn) hS hU hB hkn (by rw [hDk]; exact c2) (by rw [hDk]; exact c3) hpk (fun w'' h1 h2 => ?_) hSt
          refine ih (w'' (6 * k + k), -x4, w'') ⟨dt_sw M k r, dt_cb_sw c1 hkn hrn, by show _ = _; rw [h2, dt_P_succ], by rw [dt_P_succ]; exact hpk, ?_, ?_, h1⟩
          · show (-x4).toInt = 1 ∨ (-x4).toInt = -1
            rw [hs4]
            rcases c4 with q | q <;> rw [q]
            · exact Or.inr rfl
            · exact Or.inl rfl
          · show (-x4).toInt * _ = _
            rw [hs4, dt_swr er hkn hrn, ← c5]
            grind
      · rw [e4, nI_1]
        refine ihr () ⟨by omega, fun i a b => ?_⟩
        by_cases q : i = r
        · rw [q]
          exact nu_l0.mp h0
        · exact hq i a (by omega)
/-- determinant(instead): the determinant of the cells, one column replaced -/
theorem rd_det {τ : lf_St} {n S U s : Nat} {Mt : Nat → Nat → Int} {x1 : Int32} (hn : lf_gi τ 14 = nI n) (hn6 : n ≤ 6) (hS : 1 ≤ S) (hU : 1 ≤ U) (hB : 2 * (S * U ^ 5 * (S * U ^ 5)) < 2 ^ 63) (hcb : dt_cb Mt n s S U) (he : ∀ i j, i < n → j < n → (nI j = x1 → (lf_al τ 17 i).toInt = Mt i j) ∧ (¬ nI j = x1 → (lf_al τ 15 (6 * i + j)).toInt = Mt i j))
    {Post : Int64 → lf_St → Prop} (hP : ∀ w v, v = Int64.ofInt (dt_D n Mt) → Post v (lf_sB τ 16 w)) : wp_X6_determinant x1 τ Post := by
  have hg : ∀ w, lf_gi (lf_sB τ 16 w) 14 = nI n := fun _ => hn
  have h15 : ∀ w, lf_al (lf_sB τ 16 w) 15 = lf_al τ 15 := fun w => st_al_sB_ne (by decide)
  have h17 : ∀ w, lf_al (lf_sB τ 16 w) 17 = lf_al τ 17 := fun w => st_al_sB_ne (by decide)
  unfold wp_X6_determinant
  have z := pk_loop (fun fu i w => L_X6_determinant_2 Post fu x1 (nI i) (lf_sB τ 16 w)) (fun i w => ∀ i' c, i' < i → c < n → (w (6 * i' + c)).toInt = Mt i' c) n 0 (lf_al τ 16) (by omega) (fun i' c a _ => by omega) ?_ ?_
  · rw [nI_0, st_sB_id] at z
    exact z
  · intro m w hq
    show L_X6_determinant_2 Post (m + 1) _ _ _
    unfold L_X6_determinant_2
    rw [hg]
    refine ⟨fun _ => ?_, fun h => absurd (nI_le (Nat.le_refl _) (by omega)) h⟩
    exact rd_steps hn hn6 hS hU hB hP hcb (fun i c _ a2 _ a4 => by rw [dt_b_0]; exact hq i c a2 a4)
  · intro m i w hin hq ih
    show L_X6_determinant_2 Post (m + 1) _ _ _
    unfold L_X6_determinant_2
    rw [hg]
    refine ⟨fun h => absurd h (nI_ge hin (by omega)), fun _ => ?_⟩
    have y := pk_loop (fun fu j w => L_X6_determinant_12 (L_X6_determinant_2 Post m) Post fu x1 (nI i) (nI j) (lf_sB τ 16 w)) (fun j w => ∀ i' c, (i' < i ∨ i' = i ∧ c < j) → c < n → (w (6 * i' + c)).toInt = Mt i' c) n 0 w (by omega) (fun i' c a b => by
      rcases a with a | a
      · exact hq i' c a b
      · omega) ?_ ?_
    · rw [nI_0] at y
      exact y
    · intro f w hq2
      show L_X6_determinant_12 _ Post (f + 1) _ _ _ _
      unfold L_X6_determinant_12
      rw [hg]
      refine ⟨fun _ v2 e2 => ?_, fun h => absurd (nI_le (Nat.le_refl _) (by omega)) h⟩
      rw [e2, nI_1]
      exact ih w (fun i' c a b => hq2 i' c (by omega) b)
    · intro f j w hjn hq2 ihj
      have hstep : ∀ v : Int64, v.toInt = Mt i j → ∀ i' c, (i' < i ∨ i' = i ∧ c < j + 1) → c < n → (vp_updL w (6 * i + j) v (6 * i' + c)).toInt = Mt i' c := by
        intro v hv i' c a b
        by_cases e : 6 * i' + c = 6 * i + j
        · have e1 : i' = i := by omega
          have e2 : c = j := by omega
          subst e1
          subst e2
          rw [pk_uLs]
          exact hv
        · rw [pk_uLn e]
          exact hq2 i' c (by omega) b
      show L_X6_determinant_12 _ Post (f + 1) _ _ _ _
      unfold L_X6_determinant_12
      rw [hg, h15, h17]
      refine ⟨fun h => absurd h (nI_ge hjn (by omega)), fun _ => ?_⟩
      rw [nu_ix, nu_cl (by omega), nu_cl (by omega), st_sb_sB, st_sb_sB]
      refine ⟨fun hne => ⟨vp_in_nI (by omega) (by omega), vp_in_nI (by omega) (by omega), fun v6 e6 => ?_⟩, fun he1 => ⟨vp_in_nI (by omega) (by omega), vp_in_nI (by omega) (by omega), fun v9 e9 => ?_⟩⟩
      · rw [e6, nI_1]
        exact ihj _ (hstep _ ((he i j hin hjn).2 hne))
      · rw [e9, nI_1]
        exact ihj _ (hstep _ ((he i j hin hjn).1 he1))
