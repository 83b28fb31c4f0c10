theorem ci_turn {σ : lf_St} {T : Nat → Nat → Int64} {n : Nat} (hr : lf_gi σ 7 = nI n) (hn : n ≤ 6) {Post : lf_St → Prop} (h : ∀ T', (∀ i c, i < n → c < n → T' i (n + c) = - T i (n + c)) → Post (lf_tb (lf_sl σ 0 (- lf_gl σ 0)) T')) : wp_X1_turnSigns (lf_tb σ T) Post := by
  obtain ⟨σ2, hσ2⟩ : ∃ z, z = lf_sl σ 0 (- lf_gl σ 0) := ⟨_, rfl⟩
  have hg : ∀ T, lf_gi (lf_tb σ2 T) 7 = nI n := fun _ => by rw [hσ2]; exact hr
  unfold wp_X1_turnSigns
  have e0 : lf_sl (lf_tb σ T) 0 (- lf_gl (lf_tb σ T) 0) = lf_tb σ2 T := by rw [hσ2]; rfl
  rw [e0]
  rw [← hσ2] at h
  have z := pk_loop (fun fu i T' => L_X1_turnSigns_11 Post fu (nI i) (lf_tb σ2 T')) (fun i T' => ∀ a c, a < n → c < n → T' a (n + c) = if a < i then - T a (n + c) else T a (n + c)) n 0 T (by omega) (fun a c _ _ => by rw [if_neg (by omega)]) ?_ ?_
  · rw [nI_0] at z
    exact z
  · intro m T' hq
    show L_X1_turnSigns_11 Post (m + 1) _ _
    unfold L_X1_turnSigns_11
    rw [hg]
    exact ⟨fun _ => h T' (fun i c a b => by rw [hq i c a b, if_pos a]), fun h => absurd (nI_le (Nat.le_refl _) (by omega)) h⟩
  · intro m i T' hin hq ih
    show L_X1_turnSigns_11 Post (m + 1) _ _
    unfold L_X1_turnSigns_11
    rw [hg]
    refine ⟨fun h => absurd h (nI_ge hin (by omega)), fun _ v2 e2 => ?_⟩
    rw [e2]
    refine pk_loop (fun fu j T2 => L_X1_turnSigns_24 (L_X1_turnSigns_11 Post m) Post fu (nI i) (nI j) (lf_tb σ2 T2)) (fun j T2 => n ≤ j ∧ ∀ a c, a < n → c < n → T2 a (n + c) = if a < i ∨ (a = i ∧ n + c < j) then - T a (n + c) else T a (n + c)) (2 * n) n T' (by omega) ⟨Nat.le_refl _, fun a c a1 a2 => by
      rw [hq a c a1 a2]
      by_cases q : a < i
      · rw [if_pos q, if_pos (Or.inl q)]
      · rw [if_neg q, if_neg (by omega)]⟩ ?_ ?_
    · intro f T2 ⟨_, hq2⟩
      show L_X1_turnSigns_24 _ Post (f + 1) _ _ _
      unfold L_X1_turnSigns_24
      rw [hg, nu_2]
      refine ⟨fun _ v e => ?_, fun h => absurd (nI_le (Nat.le_refl _) (by omega)) h⟩
      rw [e, nI_1]
      refine ih T2 (fun a c a1 a2 => ?_)
      rw [hq2 a c a1 a2]
      by_cases q : a < i ∨ (a = i ∧ n + c < 2 * n)
      · rw [if_pos q, if_pos (by omega)]
      · rw [if_neg q, if_neg (by omega)]
    · intro f j T2 hjn ⟨hnj, hq2⟩ ihj
      show L_X1_turnSigns_24 _ Post (f + 1) _ _ _
      unfold L_X1_turnSigns_24
      rw [hg, nu_2, nu_cl (n := i) (by omega), nu_cl (n := j) (by omega), tb_al (by omega), tb_sb (by omega)]
      refine ⟨fun h => absurd h (nI_ge hjn (by omega)), fun _ => ⟨vp_in_nI (by omega) (by omega), vp_in_nI (by omega) (by omega), vp_in_nI (by omega) (by omega), vp_in_nI (by omega) (by omega), fun v7 e7 => ?_⟩⟩
      rw [e7, nI_1]
      refine ihj _ ⟨by omega, fun a c a1 a2 => ?_⟩
      rw [tb_up_at]
      by_cases q : a = i ∧ n + c = j
      · obtain ⟨q1, q2⟩ := q
        subst q1
        subst q2
        rw [if_pos ⟨rfl, rfl⟩, if_pos (Or.inr ⟨rfl, by omega⟩), hq2 a c a1 a2, if_neg (by omega)]
      · rw [if_neg q, hq2 a c a1 a2]
        by_cases q3 : a < i ∨ (a = i ∧ n + c < j)
        · rw [if_pos q3, if_pos (by omega)]
        · rw [if_neg q3, if_neg (by omega)]
theorem ci_inv {σ : lf_St} {T0 : Nat → Nat → Int64} {n : Nat} {G0 : Nat → Nat → Int} (hr : lf_gi σ 7 = nI n) (hn : n ≤ 6) (hcb0 : dt_cb G0 n 0 1 24) (hT0 : ∀ i j, i < n → j < 2 * n → (T0 i j).toInt = G0 i j) {Post : Int32 → lf_St → Prop} (hz : dt_D n G0 = 0 → ∀ T, Post 0 (lf_tb σ T))
    (hnz : dt_D n G0 ≠ 0 → ∀ (T : Nat → Nat → Int64) (b : Int64), b.toInt = ((dt_D n G0).natAbs : Int) → (∀ r c, r < n → c < n → dt_sm (fun t => (T t (n + c)).toInt * G0 r t) n = b.toInt * G0 r (n + c)) → (∀ t c, t < n → c < n → (T t (n + c)).toInt.natAbs ≤ 24 ^ 6) → Post 1 (lf_tb (lf_sl σ 0 b) T)) : wp_X1_invert (lf_tb σ T0) Post := by
  have hg : ∀ T, lf_gi (lf_tb σ T) 7 = nI n := fun _ => hr
  unfold wp_X1_invert
  have z := pk_loop (σ := Int64 × (Nat → Nat → Int64)) (fun fu k q => L_X1_invert_4 Post fu q.1 (nI k) (lf_tb σ q.2)) (fun k q => ∃ G, dt_cb G n 0 1 24 ∧ q.1.toInt = dt_D k G ∧ dt_D k G ≠ 0 ∧ (dt_D n G = dt_D n G0 ∨ dt_D n G = - dt_D n G0) ∧ (∀ r, r < n → ∃ r', r' < n ∧ ∀ c, G r' c = G0 r c) ∧ ci_St G n k q.2) n 0 (1, T0) (by omega) ⟨G0, hcb0, rfl, by show (1 : Int) ≠ 0; decide, Or.inl rfl, fun r hr => ⟨r, hr, fun _ => rfl⟩, fun i j a b => by
    show (T0 i j).toInt = _
    rw [hT0 i j a b]
    unfold ci_v
    rw [if_neg (by omega), dt_b_0]⟩ ?_ ?_
  · rw [nI_0] at z
    exact z
  · intro m ⟨x1, T⟩ ⟨G, c1, c2, c3, c4, c5, c6⟩
    dsimp only at c2 c6
    show L_X1_invert_4 Post (m + 1) x1 _ _
    unfold L_X1_invert_4
    rw [hg]
    refine ⟨fun _ σ2 e2 => ?_, fun h => absurd (nI_le (Nat.le_refl _) (by omega)) h⟩
    have e3 : σ2 = lf_tb (lf_sl σ 0 x1) T := by rw [e2]; rfl
    have hl : lf_gl (lf_tb (lf_sl σ 0 x1) T) 0 = x1 := by
      show va_up σ.2.1 0 x1 0 = x1
      exact va_up_self _ _ _
    have hx : ∀ t c, t < n → c < n → (T t (n + c)).toInt = dt_x G n (n + c) t := fun t c a b => by
      rw [c6 t (n + c) a (by omega)]
      unfold ci_v
      rw [if_pos a]
    have hle : ∀ t c, t < n → c < n → (T t (n + c)).toInt.natAbs ≤ 24 ^ 6 := fun t c a b => by
      rw [hx t c a b]
      exact Nat.le_trans (dt_x_le c1 (Nat.le_refl _)) (Nat.pow_le_pow_right (by decide) hn)
    have hsys : ∀ r c, r < n → c < n → dt_sm (fun t => (T t (n + c)).toInt * G0 r t) n = dt_D n G * G0 r (n + c) := fun r c a b => by
      obtain ⟨r', h1, h2⟩ := c5 r a
      rw [← h2 (n + c), ← dt_x_sys h1]
      exact dt_sm_congr (fun t ht => by rw [hx t c ht b, h2 t])
    have hd0 : dt_D n G0 ≠ 0 := by omega
    subst e3
    rw [hl]
    refine ⟨fun hpos => ?_, fun hneg => ?_⟩
    · have hp : 0 ≤ x1.toInt := Jvm.Kit.i64_nonneg.mp hpos
      refine hnz hd0 T x1 (by omega) (fun r c a b => ?_) hle
      rw [hsys r c a b, c2]
    · have hp : ¬ 0 ≤ x1.toInt := fun q => hneg (Jvm.Kit.i64_nonneg.mpr q)
      have hmin : x1.toInt ≠ -2 ^ 63 := by
        have := dt_D_le c1 (by decide) (by decide)
        rw [← c2] at this
        have h2 : 1 * 24 ^ n ≤ 24 ^ 6 := by rw [Nat.one_mul]; exact Nat.pow_le_pow_right (by decide) hn
        omega
      have hngi : (- x1).toInt = - x1.toInt := Jvm.Kit.i64_neg hmin
      refine ci_turn (σ := lf_sl σ 0 x1) hr hn (fun T' hT' => ?_)
      have e4 : lf_sl (lf_sl σ 0 x1) 0 (- lf_gl (lf_sl σ 0 x1) 0) = lf_sl σ 0 (- x1) := by
        have : lf_gl (lf_sl σ 0 x1) 0 = x1 := by
          show va_up σ.2.1 0 x1 0 = x1
          exact va_up_self _ _ _
        rw [this]
        show (σ.1, va_up (va_up σ.2.1 0 x1) 0 (- x1), σ.2.2) = (σ.1, va_up σ.2.1 0 (- x1), σ.2.2)
        rw [bx_uu]
      rw [e4]
      have hTi : ∀ t c, t < n → c < n → (T' t (n + c)).toInt = - (T t (n + c)).toInt := fun t c a b => by
        rw [hT' t c a b]
        exact Jvm.Kit.i64_neg (by have := hle t c a b; omega)
      refine hnz hd0 T' (- x1) (by rw [hngi]; omega) (fun r c a b => ?_) (fun t c a b => by rw [hTi t c a b, Int.natAbs_neg]; exact hle t c a b)
      rw [hngi, c2]
      have : dt_sm (fun t => (T' t (n + c)).toInt * G0 r t) n = (-1) * dt_sm (fun t => (T t (n + c)).toInt * G0 r t) n := by
        rw [← dt_sm_mul]
        exact dt_sm_congr (fun t ht => by rw [hTi t c ht b]; grind)
      rw [this, hsys r c a b]
      grind
  · intro m k ⟨x1, T⟩ hkn ⟨G, c1, c2, c3, c4, c5, c6⟩ ih
    dsimp only at c2 c6
    show L_X1_invert_4 Post (m + 1) x1 _ _
    unfold L_X1_invert_4
    rw [hg]
    refine ⟨fun h => absurd h (nI_ge hkn (by omega)), fun _ => ?_⟩
    have hb : ∀ i, k ≤ i → i < n → (T i k).toInt = dt_b G k i k := fun i a b => by
      rw [c6 i k b (by omega)]
      unfold ci_v
      rw [if_neg (by omega)]
    refine ci_row hr hn hkn (fun h0 => ?_) (fun r a1 a2 hne => ?_)
    · refine ⟨fun h => absurd rfl h, fun _ => ?_⟩
      have : dt_D n G = 0 := dt_sing hkn c3 (fun i a b => by rw [← hb i a b]; exact h0 i a b)
      exact hz (by omega) T
    · refine ⟨fun _ => ?_, fun h => absurd h (by
        intro q
        have := congrArg Int32.toInt q
        rw [nI_toInt (by omega)] at this
        have e : (-1 : Int32).toInt = -1 := by decide
        omega)⟩
      refine ci_swap hr hn hkn a2 (fun T' hT' => ?_)
      obtain ⟨G', hG'⟩ : ∃ G', G' = if k = r then G else dt_sw G k r := ⟨_, rfl⟩
      have hrow : ∀ i c, G' i c = G (if i = k then r else if i = r then k else i) c := fun i c => by
        rw [hG']
        by_cases e : k = r
        · subst e
          rw [if_pos rfl]
          by_cases q : i = k
          · rw [if_pos q, q]
          · rw [if_neg q, if_neg q]
        · rw [if_neg e]
          unfold dt_sw
          by_cases q : i = k
          · rw [if_pos q, if_pos q]
          · rw [if_neg q, if_neg q]
            by_cases q2 : i = r
            · rw [if_pos q2, if_pos q2]
            · rw [if_neg q2, if_neg q2]
      have hcb' : dt_cb G' n 0 1 24 := by
        rw [hG']
        by_cases e : k = r
        · rw [if_pos e]
          exact c1
        · rw [if_neg e]
          exact dt_cb_sw c1 hkn a2
      have hDn : dt_D n G' = dt_D n G ∨ dt_D n G' = - dt_D n G := by
        rw [hG']
        by_cases e : k = r
        · rw [if_pos e]
          exact Or.inl rfl
        · rw [if_neg e]
          exact Or.inr (dt_swr e hkn a2)
      have hup : ∀ i c, i < k → G' i c = G i c := fun i c hi => by rw [hrow, if_neg (by omega), if_neg (by omega)]
      have hDk : dt_D k G' = dt_D k G := dt_D_same hup
      have hSt : ci_St G' n k T' := fun i j b1 b2 => by
        rw [hT' i j b1 b2]
        by_cases q : i < k
        · rw [if_neg (by omega), if_neg (by omega), c6 i j b1 b2]
          unfold ci_v
          rw [if_pos q, if_pos q]
          exact (dt_x_same hup).symm
        · have hi' : (if i = k then r else if i = r then k else i) < n ∧ ¬ (if i = k then r else if i = r then k else i) < k := by
            split
            · omega
            · split <;> omega
          rw [c6 _ j hi'.1 b2]
          unfold ci_v
          rw [if_neg hi'.2, if_neg q]
          exact (dt_b_same hup (fun c => hrow i c)).symm
      have hpk : dt_b G' k k k ≠ 0 := by
        rw [dt_b_same (N := G) (r' := r) hup (fun c => by rw [hrow, if_pos rfl]), ← hb r a1 a2]
        exact hne
      refine ci_clear hr hn hkn hcb' (by rw [hDk]; exact c2) (by rw [hDk]; exact c3) hpk hSt (fun T2 hT2 => ?_)
      rw [nu_cl (by omega), tb_al (by omega)]
      refine ⟨vp_in_nI (by omega) (by omega), vp_in_nI (by omega) (by omega), fun v11 e11 v12 e12 => ?_⟩
      rw [e12, nI_1, e11]
      have hkk : (T2 k k).toInt = dt_b G' k k k := by
        rw [hT2 k k hkn (by omega)]
        unfold ci_v
        rw [if_pos (by omega), dt_jordan_k (by rw [hDk]; exact c3) hpk]
      refine ih (T2 k k, T2) ⟨G', hcb', by show _ = _; rw [hkk, dt_P_succ], by rw [dt_P_succ]; exact hpk, by omega, fun i hi => ?_, hT2⟩
      obtain ⟨i', h1, h2⟩ := c5 i hi
      refine ⟨if i' = k then r else if i' = r then k else i', ?_, fun c => ?_⟩
      · split
        · exact a2
        · split
          · exact hkn
          · exact h1
      · rw [hrow, ← h2 c]
        by_cases q1 : i' = k
        · subst q1
          rw [if_pos rfl]
          by_cases q2 : r = i'
          · rw [if_pos q2, q2]
          · rw [if_neg q2, if_pos rfl]
        · rw [if_neg q1]
          by_cases q2 : i' = r
          · rw [if_pos q2, if_pos rfl, q2]
          · rw [if_neg q2, if_neg q1, if_neg q2]
