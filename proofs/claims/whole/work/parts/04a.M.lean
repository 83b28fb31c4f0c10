theorem lf_sw_0_2 {x : Int32} (h0 : ¬ x = 0) (h1 : ¬ x = 1) (h2 : ¬ x = 2) : x.toInt < 0 ∨ 2 < x.toInt := by
  have e0 : ¬ x.toInt = 0 := lv_neT h0 (by decide)
  have e1 : ¬ x.toInt = 1 := lv_neT h1 (by decide)
  have e2 : ¬ x.toInt = 2 := lv_neT h2 (by decide)
  omega
theorem lf_sw_0_4 {x : Int32} (h0 : ¬ x = 0) (h1 : ¬ x = 1) (h2 : ¬ x = 2) (h3 : ¬ x = 3) (h4 : ¬ x = 4) : x.toInt < 0 ∨ 4 < x.toInt := by
  have e0 : ¬ x.toInt = 0 := lv_neT h0 (by decide)
  have e1 : ¬ x.toInt = 1 := lv_neT h1 (by decide)
  have e2 : ¬ x.toInt = 2 := lv_neT h2 (by decide)
  have e3 : ¬ x.toInt = 3 := lv_neT h3 (by decide)
  have e4 : ¬ x.toInt = 4 := lv_neT h4 (by decide)
  omega
theorem lf_sw_1_3 {x : Int32} (h1 : ¬ x = 1) (h2 : ¬ x = 2) (h3 : ¬ x = 3) : x.toInt < 1 ∨ 3 < x.toInt := by
  have e1 : ¬ x.toInt = 1 := lv_neT h1 (by decide)
  have e2 : ¬ x.toInt = 2 := lv_neT h2 (by decide)
  have e3 : ¬ x.toInt = 3 := lv_neT h3 (by decide)
  omega
theorem lf_sw_0_19 {x : Int32} (h0 : ¬ x = 0) (h1 : ¬ x = 1) (h2 : ¬ x = 2) (h3 : ¬ x = 3) (h4 : ¬ x = 4) (h5 : ¬ x = 5) (h6 : ¬ x = 6) (h7 : ¬ x = 7) (h8 : ¬ x = 8) (h9 : ¬ x = 9) (h10 : ¬ x = 10) (h11 : ¬ x = 11) (h12 : ¬ x = 12) (h13 : ¬ x = 13) (h14 : ¬ x = 14) (h15 : ¬ x = 15) (h16 : ¬ x = 16) (h17 : ¬ x = 17) (h18 : ¬ x = 18) (h19 : ¬ x = 19) : x.toInt < 0 ∨ 19 < x.toInt := by
  have e0 : ¬ x.toInt = 0 := lv_neT h0 (by decide)
  have e1 : ¬ x.toInt = 1 := lv_neT h1 (by decide)
  have e2 : ¬ x.toInt = 2 := lv_neT h2 (by decide)
  have e3 : ¬ x.toInt = 3 := lv_neT h3 (by decide)
  have e4 : ¬ x.toInt = 4 := lv_neT h4 (by decide)
  have e5 : ¬ x.toInt = 5 := lv_neT h5 (by decide)
  have e6 : ¬ x.toInt = 6 := lv_neT h6 (by decide)
  have e7 : ¬ x.toInt = 7 := lv_neT h7 (by decide)
  have e8 : ¬ x.toInt = 8 := lv_neT h8 (by decide)
  have e9 : ¬ x.toInt = 9 := lv_neT h9 (by decide)
  have e10 : ¬ x.toInt = 10 := lv_neT h10 (by decide)
  have e11 : ¬ x.toInt = 11 := lv_neT h11 (by decide)
  have e12 : ¬ x.toInt = 12 := lv_neT h12 (by decide)
  have e13 : ¬ x.toInt = 13 := lv_neT h13 (by decide)
  have e14 : ¬ x.toInt = 14 := lv_neT h14 (by decide)
  have e15 : ¬ x.toInt = 15 := lv_neT h15 (by decide)
  have e16 : ¬ x.toInt = 16 := lv_neT h16 (by decide)
  have e17 : ¬ x.toInt = 17 := lv_neT h17 (by decide)
  have e18 : ¬ x.toInt = 18 := lv_neT h18 (by decide)
  have e19 : ¬ x.toInt = 19 := lv_neT h19 (by decide)
  omega
def wp_X6_in (x0 : Int64) (x2 : Int64) (x4 : Int64) (σ : lf_St) (Post : Int32 → lf_St → Prop) : Prop := ((x0 < x2) → (Post 0 σ)) ∧ ((¬ (x0 < x2)) → (((x4 < x0) → (Post 0 σ)) ∧ ((¬ (x4 < x0)) → (Post 1 σ))))
def rm_X6_in : Room := ({ frames := 0, cells := 0, slots := 0, locals := 0 } : Room)
set_option maxHeartbeats 4000000 in
set_option maxRecDepth 100000 in
theorem c_X6_in (l : Launch) (D : va_G) (ha : Nat → Nat) (cy : Nat → ClassId) (sz : Nat) (σ : lf_St) (x0 : Int64) (x2 : Int64) (x4 : Int64) (Post : Int32 → lf_St → Prop) (hw : wp_X6_in x0 x2 x4 σ Post) : lf_Mi l yX6_in (lf_ws yX6_in cX6_in 6 (some .boolean)) rm_X6_in D (tyM_ cy) (wM_ ha cy) sz σ [.long x0, .long x2, .long x4] Post := by
  refine lf_ofi (by decide +kernel) (Nat.le_of_ble_eq_true rfl) ?_
  intro p e s m args below meth c A ls F hh hl
  have hx := F.1.1
  have hb := F.1.2.1
  have hl : lv_has ls 6 [(0, .long x0), (2, .long x2), (4, .long x4)] := hl
  obtain ⟨H, hHe⟩ : ∃ H, H = s.heap := ⟨_, rfl⟩
  rw [← hHe] at hh ⊢
  unfold wp_X6_in at hw
  refine lv_lload_n hx hb dX6_in_0 rfl (lv_at hl 0 rfl) ?_
  refine lv_lload_n hx hb dX6_in_1 rfl (lv_at hl 1 rfl) ?_
  refine lf_lcmp_lt (tgt := 17) hx hb dX6_in_2 dX6_in_3 (by decide) (fun c1 => ?_) (fun c1 => ?_)
  · have hw := hw.1 c1
    refine lv_iconst (v := 0) hx hb dX6_in_17 (by decide) ?_
    exact lf_retz F hh rfl hw dX6_in_18
  · have hw := hw.2 c1
    refine lv_lload_n hx hb dX6_in_6 rfl (lv_at hl 0 rfl) ?_
    refine lv_lload hx hb dX6_in_7 (lv_at hl 2 rfl) ?_
    refine lf_lcmp_gt (tgt := 17) hx hb dX6_in_9 dX6_in_10 (by decide) (fun c2 => ?_) (fun c2 => ?_)
    · have hw := hw.1 c2
      refine lv_iconst (v := 0) hx hb dX6_in_17 (by decide) ?_
      exact lf_retz F hh rfl hw dX6_in_18
    · have hw := hw.2 c2
      refine lv_iconst (v := 1) hx hb dX6_in_13 (by decide) ?_
      refine lv_goto (tgt := 18) hx hb dX6_in_14 (by decide) ?_
      exact lf_retz F hh rfl hw dX6_in_18
theorem cw_X6_61 {R : Room} {s : State} {args : Array Value} (ht : ∀ w ∈ wsL_law, w.before args s = true) (hR : rm_X6_in.frames + 1 ≤ R.frames ∧ 8 + (6 + 11) + rm_X6_in.locals ≤ R.locals) : lf_cS R s args RX6 61 yX6_in cX6_in 6 (some .boolean) rm_X6_in 3 :=
  lf_cS_of 3 ht (lr_6 _ (List.mem_of_getElem? (i := 16) rfl)) (lr_6 _ (List.mem_of_getElem? (i := 14) rfl)) (lr_6 _ (List.mem_of_getElem? (i := 15) rfl)) (lr_1 _ (List.mem_of_getElem? (i := 5) rfl)) rfl rfl (by decide +kernel) hR
def wp_X6_isJoint (x1 : Int32) (σ : lf_St) (Post : Int32 → lf_St → Prop) : Prop := wp_X6_in (x1.toInt64) 0 ((((lf_gi σ 0) - 1) : Int32).toInt64) σ (fun r1 σ1 => (fits .boolean (.int r1) = true) ∧ Post r1 σ1)
def rm_X6_isJoint : Room := ({ frames := 1, cells := 0, slots := 0, locals := 25 } : Room)
set_option maxHeartbeats 4000000 in
set_option maxRecDepth 100000 in
theorem c_X6_isJoint (l : Launch) (D : va_G) (ha : Nat → Nat) (cy : Nat → ClassId) (sz : Nat) (σ : lf_St) (x1 : Int32) (Post : Int32 → lf_St → Prop) (hw : wp_X6_isJoint x1 σ Post) : lf_Mi l yX6_isJoint (lf_ws yX6_isJoint cX6_isJoint 2 (some .boolean)) rm_X6_isJoint D (tyM_ cy) (wM_ ha cy) sz σ [.ref (ha 0), .int x1] Post := by
  refine lf_ofi (by decide +kernel) (Nat.le_of_ble_eq_true rfl) ?_
  intro p e s m args below meth c A ls F hh hl
  have hx := F.1.1
  have hb := F.1.2.1
  have hl : lv_has ls 2 [(0, .ref (ha 0)), (1, .int x1)] := hl
  obtain ⟨H, hHe⟩ : ∃ H, H = s.heap := ⟨_, rfl⟩
  rw [← hHe] at hh ⊢
  unfold wp_X6_isJoint at hw
  refine lv_iload_n hx hb dX6_isJoint_0 rfl (lv_at hl 1 rfl) ?_
  refine lv_i2l hx hb dX6_isJoint_1 rfl ?_
  refine lv_lconst (v := 0) hx hb dX6_isJoint_2 (by decide) ?_
  refine lv_aload_n hx hb dX6_isJoint_3 rfl (lv_at hl 0 rfl) ?_
  refine fg_X6_57 F hh dX6_isJoint_4 ?_
  refine lv_iconst (v := 1) hx hb dX6_isJoint_7 (by decide) ?_
  refine lv_isub hx hb dX6_isJoint_8 ?_
  refine lv_i2l hx hb dX6_isJoint_9 rfl ?_
  refine lf_callSi (rest := []) F hh (cw_X6_61 F.1.2.2.2.2 ⟨Nat.le_of_ble_eq_true rfl, Nat.le_of_ble_eq_true rfl⟩) (c_X6_in l D ha cy H.size σ (x1.toInt64) 0 ((((lf_gi σ 0) - 1) : Int32).toInt64) _ hw) rfl hl.1 (Nat.le_of_ble_eq_true rfl) dX6_isJoint_10 rfl (fun r1 σ1 H locs hw hh => ?_)
  obtain ⟨q2, hw⟩ := hw
  exact lf_retz F hh (lf_nz q2) hw dX6_isJoint_13
def wp_X6_isBar (x1 : Int32) (σ : lf_St) (Post : Int32 → lf_St → Prop) : Prop := wp_X6_in (x1.toInt64) 0 ((((lf_gi σ 6) - 1) : Int32).toInt64) σ (fun r1 σ1 => (fits .boolean (.int r1) = true) ∧ Post r1 σ1)
def rm_X6_isBar : Room := ({ frames := 1, cells := 0, slots := 0, locals := 25 } : Room)
set_option maxHeartbeats 4000000 in
set_option maxRecDepth 100000 in
theorem c_X6_isBar (l : Launch) (D : va_G) (ha : Nat → Nat) (cy : Nat → ClassId) (sz : Nat) (σ : lf_St) (x1 : Int32) (Post : Int32 → lf_St → Prop) (hw : wp_X6_isBar x1 σ Post) : lf_Mi l yX6_isBar (lf_ws yX6_isBar cX6_isBar 2 (some .boolean)) rm_X6_isBar D (tyM_ cy) (wM_ ha cy) sz σ [.ref (ha 0), .int x1] Post := by
  refine lf_ofi (by decide +kernel) (Nat.le_of_ble_eq_true rfl) ?_
  intro p e s m args below meth c A ls F hh hl
  have hx := F.1.1
  have hb := F.1.2.1
  have hl : lv_has ls 2 [(0, .ref (ha 0)), (1, .int x1)] := hl
  obtain ⟨H, hHe⟩ : ∃ H, H = s.heap := ⟨_, rfl⟩
  rw [← hHe] at hh ⊢
  unfold wp_X6_isBar at hw
  refine lv_iload_n hx hb dX6_isBar_0 rfl (lv_at hl 1 rfl) ?_
  refine lv_i2l hx hb dX6_isBar_1 rfl ?_
  refine lv_lconst (v := 0) hx hb dX6_isBar_2 (by decide) ?_
  refine lv_aload_n hx hb dX6_isBar_3 rfl (lv_at hl 0 rfl) ?_
  refine fg_X6_65 F hh dX6_isBar_4 ?_
  refine lv_iconst (v := 1) hx hb dX6_isBar_7 (by decide) ?_
  refine lv_isub hx hb dX6_isBar_8 ?_
  refine lv_i2l hx hb dX6_isBar_9 rfl ?_
  refine lf_callSi (rest := []) F hh (cw_X6_61 F.1.2.2.2.2 ⟨Nat.le_of_ble_eq_true rfl, Nat.le_of_ble_eq_true rfl⟩) (c_X6_in l D ha cy H.size σ (x1.toInt64) 0 ((((lf_gi σ 6) - 1) : Int32).toInt64) _ hw) rfl hl.1 (Nat.le_of_ble_eq_true rfl) dX6_isBar_10 rfl (fun r1 σ1 H locs hw hh => ?_)
  obtain ⟨q2, hw⟩ := hw
  exact lf_retz F hh (lf_nz q2) hw dX6_isBar_13
def L_X6_common_17 (Post : Int64 → lf_St → Prop) : Nat → Int64 → Int64 → lf_St → Prop
  | 0, _, _, _ => False
  | n + 1, x4, x6, σ => ((x6 = 0) → (Post x4 σ)) ∧ ((¬ (x6 = 0)) → ((¬ x6 = 0) ∧ (∀ v3 : Int64, v3 = (x4 - x4 / x6 * x6) → (L_X6_common_17 Post n x6 v3 σ))))
def wp_X6_common (x0 : Int64) (x2 : Int64) (σ : lf_St) (Post : Int64 → lf_St → Prop) : Prop := ((0 ≤ x0) → (∃ fu : Nat, L_X6_common_17 Post fu x0 x2 σ)) ∧ ((¬ (0 ≤ x0)) → (∀ v2 : Int64, v2 = (-x0) → (∃ fu : Nat, L_X6_common_17 Post fu v2 x2 σ)))
def rm_X6_common : Room := ({ frames := 0, cells := 0, slots := 0, locals := 0 } : Room)
set_option maxHeartbeats 4000000 in
set_option maxRecDepth 100000 in
theorem w_X6_common_17 {p : Program} {l : Launch} {e : Env} {s : State} {m : MethodId} {args : Array Value} {below : List Frame} {meth : Method} {c : Code} {D : va_G} {A : Nat → Prop} {ha : Nat → Nat} {cy : Nat → ClassId} (Post : Int64 → lf_St → Prop) (F : lf_C p s m args meth c RX6 cX6_common 10 (some .long) D (tyM_ cy) A) : ∀ (n : Nat) (x4 : Int64) (x6 : Int64) (σ : lf_St) (H : Heap) (locs : List Loc) (ls : Array Slot), lf_H D (wM_ ha cy) A s σ H locs → lv_has ls 10 [(4, .long x4), (6, .long x6)] → L_X6_common_17 Post n x4 x6 σ → W p l e rm_X6_common s m args below meth c H locs 0 0 (lf_Ql below args s D (tyM_ cy) A (wM_ ha cy) Post) (F0 m 17 ls []) := by
  have hx := F.1.1
  have hb := F.1.2.1
  intro n
  induction n with
  | zero =>
    intro x4 x6 σ H locs ls hh hl hw
    exact False.elim hw
  | succ n ih =>
    intro x4 x6 σ H locs ls hh hl hw
    unfold L_X6_common_17 at hw
    refine lv_lload hx hb dX6_common_17 (lv_at hl 1 rfl) ?_
    refine lv_lconst (v := 0) hx hb dX6_common_19 (by decide) ?_
    refine lf_lcmp_eq (tgt := 42) hx hb dX6_common_20 dX6_common_21 (by decide) (fun c1 => ?_) (fun c1 => ?_)
    · have hw := hw.1 c1
      refine lv_lload hx hb dX6_common_42 (lv_at hl 0 rfl) ?_
      exact lf_retl F hh hw dX6_common_44
    · have hw := hw.2 c1
      refine lv_lload hx hb dX6_common_24 (lv_at hl 0 rfl) ?_
      refine lv_lload hx hb dX6_common_26 (lv_at hl 1 rfl) ?_
      obtain ⟨q2, hw⟩ := hw
      refine lv_lrem hx hb dX6_common_28 q2 ?_
      refine lv_topl (fun v3 ev3 => ?_)
      have hw := hw v3 ev3
      refine lv_lstore (lv' := [(8, .long v3), (4, .long x4), (6, .long x6)]) hx hb dX6_common_29 hl (by decide) rfl (fun ls hl => ?_)
      refine lv_lload hx hb dX6_common_31 (lv_at hl 2 rfl) ?_
      refine lv_lstore (lv' := [(4, .long x6), (8, .long v3), (6, .long x6)]) hx hb dX6_common_33 hl (by decide) rfl (fun ls hl => ?_)
      refine lv_lload hx hb dX6_common_35 (lv_at hl 1 rfl) ?_
      refine lv_lstore (lv' := [(6, .long v3), (4, .long x6), (8, .long v3)]) hx hb dX6_common_37 hl (by decide) rfl (fun ls hl => ?_)
      refine lv_goto (tgt := 17) hx hb dX6_common_39 (by decide) ?_
      exact ih x6 v3 σ _ _ _ hh (lv_sub hl [1, 0] rfl) hw
set_option maxHeartbeats 4000000 in
set_option maxRecDepth 100000 in
theorem c_X6_common (l : Launch) (D : va_G) (ha : Nat → Nat) (cy : Nat → ClassId) (sz : Nat) (σ : lf_St) (x0 : Int64) (x2 : Int64) (Post : Int64 → lf_St → Prop) (hw : wp_X6_common x0 x2 σ Post) : lf_Ml l yX6_common (lf_ws yX6_common cX6_common 10 (some .long)) rm_X6_common D (tyM_ cy) (wM_ ha cy) sz σ [.long x0, .long x2] Post := by
  refine lf_ofl (by decide +kernel) (Nat.le_of_ble_eq_true rfl) ?_
  intro p e s m args below meth c A ls F hh hl
  have hx := F.1.1
  have hb := F.1.2.1
  have hl : lv_has ls 10 [(0, .long x0), (2, .long x2)] := hl
  obtain ⟨H, hHe⟩ : ∃ H, H = s.heap := ⟨_, rfl⟩
  rw [← hHe] at hh ⊢
  unfold wp_X6_common at hw
  refine lv_lload_n hx hb dX6_common_0 rfl (lv_at hl 0 rfl) ?_
  refine lv_lconst (v := 0) hx hb dX6_common_1 (by decide) ?_
  refine lf_lcmp_ge (tgt := 11) hx hb dX6_common_2 dX6_common_3 (by decide) (fun c1 => ?_) (fun c1 => ?_)
  · have hw := hw.1 c1
    refine lv_lload_n hx hb dX6_common_11 rfl (lv_at hl 0 rfl) ?_
    refine lv_lstore (lv' := [(4, .long x0), (0, .long x0), (2, .long x2)]) hx hb dX6_common_12 hl (by decide) rfl (fun ls hl => ?_)
    refine lv_lload_n hx hb dX6_common_14 rfl (lv_at hl 2 rfl) ?_
    refine lv_lstore (lv' := [(6, .long x2), (4, .long x0), (0, .long x0), (2, .long x2)]) hx hb dX6_common_15 hl (by decide) rfl (fun ls hl => ?_)
    obtain ⟨n17, hw⟩ := hw
    exact w_X6_common_17 Post F  n17 x0 x2 σ _ _ _ hh (lv_sub hl [1, 0] rfl) hw
  · have hw := hw.2 c1
    refine lv_lload_n hx hb dX6_common_6 rfl (lv_at hl 0 rfl) ?_
    refine lv_lneg hx hb dX6_common_7 ?_
    refine lv_goto (tgt := 12) hx hb dX6_common_8 (by decide) ?_
    refine lv_topl (fun v2 ev2 => ?_)
    have hw := hw v2 ev2
    refine lv_lstore (lv' := [(4, .long v2), (0, .long x0), (2, .long x2)]) hx hb dX6_common_12 hl (by decide) rfl (fun ls hl => ?_)
    refine lv_lload_n hx hb dX6_common_14 rfl (lv_at hl 2 rfl) ?_
    refine lv_lstore (lv' := [(6, .long x2), (4, .long v2), (0, .long x0), (2, .long x2)]) hx hb dX6_common_15 hl (by decide) rfl (fun ls hl => ?_)
    obtain ⟨n17, hw⟩ := hw
    exact w_X6_common_17 Post F  n17 v2 x2 σ _ _ _ hh (lv_sub hl [1, 0] rfl) hw
theorem cw_X6_68 {R : Room} {s : State} {args : Array Value} (ht : ∀ w ∈ wsL_law, w.before args s = true) (hR : rm_X6_common.frames + 1 ≤ R.frames ∧ 8 + (10 + 11) + rm_X6_common.locals ≤ R.locals) : lf_cS R s args RX6 68 yX6_common cX6_common 10 (some .long) rm_X6_common 2 :=
  lf_cS_of 2 ht (lr_25 _ (List.mem_of_getElem? (i := 5) rfl)) (lr_25 _ (List.mem_of_getElem? (i := 3) rfl)) (lr_25 _ (List.mem_of_getElem? (i := 4) rfl)) (lr_1 _ (List.mem_of_getElem? (i := 5) rfl)) rfl rfl (by decide +kernel) hR
def wp_X6_term (x0 : Int64) (x2 : Int64) (x4 : Int32) (σ : lf_St) (Post : Int64 → lf_St → Prop) : Prop := wp_X6_common x0 x2 σ (fun r1 σ1 => ((¬ x4 = 0) → ((¬ r1 = 0) ∧ (Post (x2 / r1) σ1))) ∧ ((x4 = 0) → ((¬ r1 = 0) ∧ (Post (x0 / r1) σ1))))
def rm_X6_term : Room := ({ frames := 1, cells := 0, slots := 0, locals := 29 } : Room)
set_option maxHeartbeats 4000000 in
set_option maxRecDepth 100000 in
theorem c_X6_term (l : Launch) (D : va_G) (ha : Nat → Nat) (cy : Nat → ClassId) (sz : Nat) (σ : lf_St) (x0 : Int64) (x2 : Int64) (x4 : Int32) (Post : Int64 → lf_St → Prop) (hw : wp_X6_term x0 x2 x4 σ Post) : lf_Ml l yX6_term (lf_ws yX6_term cX6_term 7 (some .long)) rm_X6_term D (tyM_ cy) (wM_ ha cy) sz σ [.long x0, .long x2, .int x4] Post := by
  refine lf_ofl (by decide +kernel) (Nat.le_of_ble_eq_true rfl) ?_
  intro p e s m args below meth c A ls F hh hl
  have hx := F.1.1
  have hb := F.1.2.1
  have hl : lv_has ls 7 [(0, .long x0), (2, .long x2), (4, .int x4)] := hl
  obtain ⟨H, hHe⟩ : ∃ H, H = s.heap := ⟨_, rfl⟩
  rw [← hHe] at hh ⊢
  unfold wp_X6_term at hw
  refine lv_lload_n hx hb dX6_term_0 rfl (lv_at hl 0 rfl) ?_
  refine lv_lload_n hx hb dX6_term_1 rfl (lv_at hl 1 rfl) ?_
  refine lf_callSl (rest := []) F hh (cw_X6_68 F.1.2.2.2.2 ⟨Nat.le_of_ble_eq_true rfl, Nat.le_of_ble_eq_true rfl⟩) (c_X6_common l D ha cy H.size σ x0 x2 _ hw) rfl hl.1 (Nat.le_of_ble_eq_true rfl) dX6_term_2 rfl (fun r1 σ1 H locs hw hh => ?_)
  refine lv_lstore (lv' := [(5, .long r1), (0, .long x0), (2, .long x2), (4, .int x4)]) hx hb dX6_term_5 hl (by decide) rfl (fun ls hl => ?_)
  refine lv_iload hx hb dX6_term_7 (lv_at hl 3 rfl) ?_
  refine lv_if_ne (tgt := 19) hx hb dX6_term_9 (by decide) (fun c2 => ?_) (fun c2 => ?_)
  · have hw := hw.1 c2
    refine lv_lload_n hx hb dX6_term_19 rfl (lv_at hl 2 rfl) ?_
    refine lv_lload hx hb dX6_term_20 (lv_at hl 0 rfl) ?_
    obtain ⟨q3, hw⟩ := hw
    refine lv_ldiv hx hb dX6_term_22 q3 ?_
    exact lf_retl F hh hw dX6_term_23
  · have hw := hw.2 c2
    refine lv_lload_n hx hb dX6_term_12 rfl (lv_at hl 1 rfl) ?_
    refine lv_lload hx hb dX6_term_13 (lv_at hl 0 rfl) ?_
    obtain ⟨q4, hw⟩ := hw
    refine lv_ldiv hx hb dX6_term_15 q4 ?_
    refine lv_goto (tgt := 23) hx hb dX6_term_16 (by decide) ?_
    exact lf_retl F hh hw dX6_term_23
def wp_X6_abs (x0 : Int64) (σ : lf_St) (Post : Int64 → lf_St → Prop) : Prop := ((0 ≤ x0) → (Post x0 σ)) ∧ ((¬ (0 ≤ x0)) → (Post (-x0) σ))
def rm_X6_abs : Room := ({ frames := 0, cells := 0, slots := 0, locals := 0 } : Room)
set_option maxHeartbeats 4000000 in
set_option maxRecDepth 100000 in
theorem c_X6_abs (l : Launch) (D : va_G) (ha : Nat → Nat) (cy : Nat → ClassId) (sz : Nat) (σ : lf_St) (x0 : Int64) (Post : Int64 → lf_St → Prop) (hw : wp_X6_abs x0 σ Post) : lf_Ml l yX6_abs (lf_ws yX6_abs cX6_abs 2 (some .long)) rm_X6_abs D (tyM_ cy) (wM_ ha cy) sz σ [.long x0] Post := by
  refine lf_ofl (by decide +kernel) (Nat.le_of_ble_eq_true rfl) ?_
  intro p e s m args below meth c A ls F hh hl
  have hx := F.1.1
  have hb := F.1.2.1
  have hl : lv_has ls 2 [(0, .long x0)] := hl
  obtain ⟨H, hHe⟩ : ∃ H, H = s.heap := ⟨_, rfl⟩
  rw [← hHe] at hh ⊢
  unfold wp_X6_abs at hw
  refine lv_lload_n hx hb dX6_abs_0 rfl (lv_at hl 0 rfl) ?_
  refine lv_lconst (v := 0) hx hb dX6_abs_1 (by decide) ?_
  refine lf_lcmp_ge (tgt := 11) hx hb dX6_abs_2 dX6_abs_3 (by decide) (fun c1 => ?_) (fun c1 => ?_)
  · have hw := hw.1 c1
    refine lv_lload_n hx hb dX6_abs_11 rfl (lv_at hl 0 rfl) ?_
    exact lf_retl F hh hw dX6_abs_12
  · have hw := hw.2 c1
    refine lv_lload_n hx hb dX6_abs_6 rfl (lv_at hl 0 rfl) ?_
    refine lv_lneg hx hb dX6_abs_7 ?_
    refine lv_goto (tgt := 12) hx hb dX6_abs_8 (by decide) ?_
    exact lf_retl F hh hw dX6_abs_12
def L_X6_frees_4 (Post : Int32 → lf_St → Prop) : Nat → Int32 → Int32 → lf_St → Prop
  | 0, _, _, _ => False
  | n + 1, x1, x2, σ => (((lf_gi σ 0) ≤ x2) → (Post x1 σ)) ∧ ((¬ ((lf_gi σ 0) ≤ x2)) → (vp_in x2 6 ∧ ((((lf_ai σ 3 x2.toNatClampNeg) = 0) → (∀ v4 : Int32, v4 = (x1 + 1) → (∀ v5 : Int32, v5 = x2 + 1 → (L_X6_frees_4 Post n v4 v5 σ)))) ∧ ((¬ ((lf_ai σ 3 x2.toNatClampNeg) = 0)) → (∀ v6 : Int32, v6 = (x1 + 0) → (∀ v7 : Int32, v7 = x2 + 1 → (L_X6_frees_4 Post n v6 v7 σ)))))))
def wp_X6_frees (σ : lf_St) (Post : Int32 → lf_St → Prop) : Prop := ∃ fu : Nat, L_X6_frees_4 Post fu 0 0 σ
def rm_X6_frees : Room := ({ frames := 0, cells := 0, slots := 0, locals := 0 } : Room)
set_option maxHeartbeats 4000000 in
set_option maxRecDepth 100000 in
theorem w_X6_frees_4 {p : Program} {l : Launch} {e : Env} {s : State} {m : MethodId} {args : Array Value} {below : List Frame} {meth : Method} {c : Code} {D : va_G} {A : Nat → Prop} {ha : Nat → Nat} {cy : Nat → ClassId} (Post : Int32 → lf_St → Prop) (F : lf_C p s m args meth c RX6 cX6_frees 3 (some .int) D (tyM_ cy) A) : ∀ (n : Nat) (x1 : Int32) (x2 : Int32) (σ : lf_St) (H : Heap) (locs : List Loc) (ls : Array Slot), lf_H D (wM_ ha cy) A s σ H locs → lv_has ls 3 [(0, .ref (ha 0)), (1, .int x1), (2, .int x2)] → L_X6_frees_4 Post n x1 x2 σ → W p l e rm_X6_frees s m args below meth c H locs 0 0 (lf_Qi below args s D (tyM_ cy) A (wM_ ha cy) Post) (F0 m 4 ls []) := by
  have hx := F.1.1
  have hb := F.1.2.1
  intro n
  induction n with
  | zero =>
    intro x1 x2 σ H locs ls hh hl hw
    exact False.elim hw
  | succ n ih =>
    intro x1 x2 σ H locs ls hh hl hw
    unfold L_X6_frees_4 at hw
    refine lv_iload_n hx hb dX6_frees_4 rfl (lv_at hl 2 rfl) ?_
    refine lv_aload_n hx hb dX6_frees_5 rfl (lv_at hl 0 rfl) ?_
    refine fg_X6_57 F hh dX6_frees_6 ?_
    refine lv_icmp_ge (tgt := 35) hx hb dX6_frees_9 (by decide) (fun c1 => ?_) (fun c1 => ?_)
    · have hw := hw.1 c1
      refine lv_iload_n hx hb dX6_frees_35 rfl (lv_at hl 1 rfl) ?_
      exact lf_reti F hh hw dX6_frees_36
    · have hw := hw.2 c1
      refine lv_iload_n hx hb dX6_frees_12 rfl (lv_at hl 1 rfl) ?_
      refine lv_aload_n hx hb dX6_frees_13 rfl (lv_at hl 0 rfl) ?_
      refine fg_X6_16 F hh dX6_frees_14 ?_
      refine lv_iload_n hx hb dX6_frees_17 rfl (lv_at hl 2 rfl) ?_
      obtain ⟨q2, hw⟩ := hw
      refine ra_M_3 F hh q2 dX6_frees_18 ?_
      refine lv_if_eq (tgt := 26) hx hb dX6_frees_19 (by decide) (fun c3 => ?_) (fun c3 => ?_)
      · have hw := hw.1 c3
        refine lv_iconst (v := 1) hx hb dX6_frees_26 (by decide) ?_
        refine lv_iadd hx hb dX6_frees_27 ?_
        refine lv_topi (fun v4 ev4 => ?_)
        have hw := hw v4 ev4
        refine lv_istore_n (lv' := [(1, .int v4), (0, .ref (ha 0)), (2, .int x2)]) hx hb dX6_frees_28 rfl hl (by decide) rfl (fun ls hl => ?_)
        obtain ⟨v5, ev5⟩ : ∃ y : Int32, y = x2 + 1 := ⟨_, rfl⟩
        have hw := hw v5 ev5
        refine lv_iinc (v := v5) (lv' := [(2, .int v5), (1, .int v4), (0, .ref (ha 0))]) hx hb dX6_frees_29 hl (k := 2) rfl (by rw [ev5]; rfl) (by decide) rfl (fun ls hl => ?_)
        refine lv_goto (tgt := 4) hx hb dX6_frees_32 (by decide) ?_
        exact ih v4 v5 σ _ _ _ hh (lv_sub hl [2, 1, 0] rfl) hw
      · have hw := hw.2 c3
        refine lv_iconst (v := 0) hx hb dX6_frees_22 (by decide) ?_
        refine lv_goto (tgt := 27) hx hb dX6_frees_23 (by decide) ?_
        refine lv_iadd hx hb dX6_frees_27 ?_
        refine lv_topi (fun v6 ev6 => ?_)
        have hw := hw v6 ev6
        refine lv_istore_n (lv' := [(1, .int v6), (0, .ref (ha 0)), (2, .int x2)]) hx hb dX6_frees_28 rfl hl (by decide) rfl (fun ls hl => ?_)
        obtain ⟨v7, ev7⟩ : ∃ y : Int32, y = x2 + 1 := ⟨_, rfl⟩
        have hw := hw v7 ev7
        refine lv_iinc (v := v7) (lv' := [(2, .int v7), (1, .int v6), (0, .ref (ha 0))]) hx hb dX6_frees_29 hl (k := 2) rfl (by rw [ev7]; rfl) (by decide) rfl (fun ls hl => ?_)
        refine lv_goto (tgt := 4) hx hb dX6_frees_32 (by decide) ?_
        exact ih v6 v7 σ _ _ _ hh (lv_sub hl [2, 1, 0] rfl) hw
set_option maxHeartbeats 4000000 in
set_option maxRecDepth 100000 in
theorem c_X6_frees (l : Launch) (D : va_G) (ha : Nat → Nat) (cy : Nat → ClassId) (sz : Nat) (σ : lf_St) (Post : Int32 → lf_St → Prop) (hw : wp_X6_frees σ Post) : lf_Mi l yX6_frees (lf_ws yX6_frees cX6_frees 3 (some .int)) rm_X6_frees D (tyM_ cy) (wM_ ha cy) sz σ [.ref (ha 0)] Post := by
  refine lf_ofi (by decide +kernel) (Nat.le_of_ble_eq_true rfl) ?_
  intro p e s m args below meth c A ls F hh hl
  have hx := F.1.1
  have hb := F.1.2.1
  have hl : lv_has ls 3 [(0, .ref (ha 0))] := hl
  obtain ⟨H, hHe⟩ : ∃ H, H = s.heap := ⟨_, rfl⟩
  rw [← hHe] at hh ⊢
  unfold wp_X6_frees at hw
  refine lv_iconst (v := 0) hx hb dX6_frees_0 (by decide) ?_
  refine lv_istore_n (lv' := [(1, .int 0), (0, .ref (ha 0))]) hx hb dX6_frees_1 rfl hl (by decide) rfl (fun ls hl => ?_)
  refine lv_iconst (v := 0) hx hb dX6_frees_2 (by decide) ?_
  refine lv_istore_n (lv' := [(2, .int 0), (1, .int 0), (0, .ref (ha 0))]) hx hb dX6_frees_3 rfl hl (by decide) rfl (fun ls hl => ?_)
  obtain ⟨n4, hw⟩ := hw
  exact w_X6_frees_4 Post F  n4 0 0 σ _ _ _ hh (lv_sub hl [2, 1, 0] rfl) hw
theorem cw_X6_74 {R : Room} {s : State} {args : Array Value} (ht : ∀ w ∈ wsL_law, w.before args s = true) (hR : rm_X6_frees.frames + 1 ≤ R.frames ∧ 8 + (3 + 11) + rm_X6_frees.locals ≤ R.locals) : lf_cV R s args RX6 RX6 74 yX6_frees cX6_frees 3 (some .int) rm_X6_frees 0 :=
  lf_cV_of 0 ht (lr_6 _ (List.mem_of_getElem? (i := 20) rfl)) (lr_6 _ (List.mem_of_getElem? (i := 17) rfl)) (lr_6 _ (List.mem_of_getElem? (i := 18) rfl)) (lr_6 _ (List.mem_of_getElem? (i := 19) rfl)) (lr_1 _ (List.mem_of_getElem? (i := 5) rfl)) rfl rfl (by decide +kernel) hR
def L_X6_joint_54 (Post : Int32 → lf_St → Prop) : Nat → Int32 → Int32 → Int32 → Int32 → lf_St → Prop
  | 0, _, _, _, _, _ => False
  | n + 1, x1, x2, x3, x4, σ => (((lf_gi σ 0) ≤ x4) → (vp_in (lf_gi σ 0) 6 ∧ (∀ σ3 : lf_St, σ3 = (lf_sa σ 1 ((lf_gi σ 0) : Int32).toNatClampNeg x1) → (vp_in (lf_gi σ3 0) 6 ∧ (∀ σ5 : lf_St, σ5 = (lf_sa σ3 2 ((lf_gi σ3 0) : Int32).toNatClampNeg x2) → (vp_in (lf_gi σ5 0) 6 ∧ (∀ σ7 : lf_St, σ7 = (lf_sa σ5 3 ((lf_gi σ5 0) : Int32).toNatClampNeg (vp_nar .boolean x3)) → (vp_in (lf_gi σ7 0) 6 ∧ (∀ σ9 : lf_St, σ9 = (lf_sa σ7 4 ((lf_gi σ7 0) : Int32).toNatClampNeg 0) → (vp_in (lf_gi σ9 0) 6 ∧ (∀ σ11 : lf_St, σ11 = (lf_sa σ9 5 ((lf_gi σ9 0) : Int32).toNatClampNeg 0) → (∀ σ12 : lf_St, σ12 = (lf_si (lf_si σ11 0 ((lf_gi σ11 0) + 1)) 12 0) → (Post ((lf_gi σ12 0) - 1) σ12))))))))))))) ∧ ((¬ ((lf_gi σ 0) ≤ x4)) → (vp_in x4 6 ∧ (((¬ (lf_ai σ 1 x4.toNatClampNeg) = x1) → (∀ v15 : Int32, v15 = x4 + 1 → (L_X6_joint_54 Post n x1 x2 x3 v15 σ))) ∧ (((lf_ai σ 1 x4.toNatClampNeg) = x1) → (vp_in x4 6 ∧ (((¬ (lf_ai σ 2 x4.toNatClampNeg) = x2) → (∀ v18 : Int32, v18 = x4 + 1 → (L_X6_joint_54 Post n x1 x2 x3 v18 σ))) ∧ (((lf_ai σ 2 x4.toNatClampNeg) = x2) → (Post (-5) σ))))))))
def wp_X6_joint (x1 : Int32) (x2 : Int32) (x3 : Int32) (σ : lf_St) (Post : Int32 → lf_St → Prop) : Prop := wp_X6_in (x1.toInt64) 0 6 σ (fun r1 σ1 => ((r1 = 0) → (Post (-2) σ1)) ∧ ((¬ (r1 = 0)) → (wp_X6_in (x2.toInt64) 0 6 σ1 (fun r3 σ3 => ((¬ r3 = 0) → ((((lf_gi σ3 0) = 6) → (Post (-4) σ3)) ∧ ((¬ ((lf_gi σ3 0) = 6)) → (((¬ x3 = 0) → (∃ fu : Nat, L_X6_joint_54 Post fu x1 x2 x3 0 σ3)) ∧ ((x3 = 0) → (wp_X6_frees σ3 (fun r7 σ7 => ((¬ r7 = 3) → (∃ fu : Nat, L_X6_joint_54 Post fu x1 x2 x3 0 σ7)) ∧ ((r7 = 3) → (Post (-4) σ7))))))))) ∧ ((r3 = 0) → (Post (-2) σ3))))))
def rm_X6_joint : Room := ({ frames := 1, cells := 0, slots := 0, locals := 25 } : Room)
set_option maxHeartbeats 4000000 in
set_option maxRecDepth 100000 in
theorem w_X6_joint_54 {p : Program} {l : Launch} {e : Env} {s : State} {m : MethodId} {args : Array Value} {below : List Frame} {meth : Method} {c : Code} {D : va_G} {A : Nat → Prop} {ha : Nat → Nat} {cy : Nat → ClassId} (Post : Int32 → lf_St → Prop) (F : lf_C p s m args meth c RX6 cX6_joint 5 (some .int) D (tyM_ cy) A) : ∀ (n : Nat) (x1 : Int32) (x2 : Int32) (x3 : Int32) (x4 : Int32) (σ : lf_St) (H : Heap) (locs : List Loc) (ls : Array Slot), lf_H D (wM_ ha cy) A s σ H locs → lv_has ls 5 [(0, .ref (ha 0)), (1, .int x1), (2, .int x2), (3, .int x3), (4, .int x4)] → L_X6_joint_54 Post n x1 x2 x3 x4 σ → W p l e rm_X6_joint s m args below meth c H locs 0 0 (lf_Qi below args s D (tyM_ cy) A (wM_ ha cy) Post) (F0 m 54 ls []) := by
  have hx := F.1.1
  have hb := F.1.2.1
  intro n
  induction n with
  | zero =>
    intro x1 x2 x3 x4 σ H locs ls hh hl hw
    exact False.elim hw
  | succ n ih =>
    intro x1 x2 x3 x4 σ H locs ls hh hl hw
    unfold L_X6_joint_54 at hw
    refine lv_iload hx hb dX6_joint_54 (lv_at hl 4 rfl) ?_
    refine lv_aload_n hx hb dX6_joint_56 rfl (lv_at hl 0 rfl) ?_
    refine fg_X6_57 F hh dX6_joint_57 ?_
    refine lv_icmp_ge (tgt := 94) hx hb dX6_joint_60 (by decide) (fun c1 => ?_) (fun c1 => ?_)
    · have hw := hw.1 c1
      refine lv_aload_n hx hb dX6_joint_94 rfl (lv_at hl 0 rfl) ?_
      refine fg_X6_7 F hh dX6_joint_95 ?_
      refine lv_aload_n hx hb dX6_joint_98 rfl (lv_at hl 0 rfl) ?_
      refine fg_X6_57 F hh dX6_joint_99 ?_
      refine lv_iload_n hx hb dX6_joint_102 rfl (lv_at hl 1 rfl) ?_
      obtain ⟨q2, hw⟩ := hw
      refine wa_M_1 F hh q2 dX6_joint_103 (fun H locs hh => ?_)
      refine lv_aload_n hx hb dX6_joint_104 rfl (lv_at hl 0 rfl) ?_
      refine fg_X6_13 F hh dX6_joint_105 ?_
      refine lv_aload_n hx hb dX6_joint_108 rfl (lv_at hl 0 rfl) ?_
      obtain ⟨σ3, eσ3⟩ : ∃ z : lf_St, z = (lf_sa σ 1 ((lf_gi σ 0) : Int32).toNatClampNeg x1) := ⟨_, rfl⟩
      rw [← eσ3] at hh
      have hw := hw σ3 eσ3
      refine fg_X6_57 F hh dX6_joint_109 ?_
      refine lv_iload_n hx hb dX6_joint_112 rfl (lv_at hl 2 rfl) ?_
      obtain ⟨q4, hw⟩ := hw
      refine wa_M_2 F hh q4 dX6_joint_113 (fun H locs hh => ?_)
      refine lv_aload_n hx hb dX6_joint_114 rfl (lv_at hl 0 rfl) ?_
      refine fg_X6_16 F hh dX6_joint_115 ?_
      refine lv_aload_n hx hb dX6_joint_118 rfl (lv_at hl 0 rfl) ?_
      obtain ⟨σ5, eσ5⟩ : ∃ z : lf_St, z = (lf_sa σ3 2 ((lf_gi σ3 0) : Int32).toNatClampNeg x2) := ⟨_, rfl⟩
      rw [← eσ5] at hh
      have hw := hw σ5 eσ5
      refine fg_X6_57 F hh dX6_joint_119 ?_
      refine lv_iload_n hx hb dX6_joint_122 rfl (lv_at hl 3 rfl) ?_
      obtain ⟨q6, hw⟩ := hw
      refine wa_M_3 F hh q6 dX6_joint_123 (fun H locs hh => ?_)
      refine lv_aload_n hx hb dX6_joint_124 rfl (lv_at hl 0 rfl) ?_
      refine fg_X6_20 F hh dX6_joint_125 ?_
      refine lv_aload_n hx hb dX6_joint_128 rfl (lv_at hl 0 rfl) ?_
      obtain ⟨σ7, eσ7⟩ : ∃ z : lf_St, z = (lf_sa σ5 3 ((lf_gi σ5 0) : Int32).toNatClampNeg (vp_nar .boolean x3)) := ⟨_, rfl⟩
      rw [← eσ7] at hh
      have hw := hw σ7 eσ7
      refine fg_X6_57 F hh dX6_joint_129 ?_
      refine lv_iconst (v := 0) hx hb dX6_joint_132 (by decide) ?_
      obtain ⟨q8, hw⟩ := hw
      refine wa_M_4 F hh q8 dX6_joint_133 (fun H locs hh => ?_)
      refine lv_aload_n hx hb dX6_joint_134 rfl (lv_at hl 0 rfl) ?_
      refine fg_X6_23 F hh dX6_joint_135 ?_
      refine lv_aload_n hx hb dX6_joint_138 rfl (lv_at hl 0 rfl) ?_
      obtain ⟨σ9, eσ9⟩ : ∃ z : lf_St, z = (lf_sa σ7 4 ((lf_gi σ7 0) : Int32).toNatClampNeg 0) := ⟨_, rfl⟩
      rw [← eσ9] at hh
      have hw := hw σ9 eσ9
      refine fg_X6_57 F hh dX6_joint_139 ?_
      refine lv_iconst (v := 0) hx hb dX6_joint_142 (by decide) ?_
      obtain ⟨q10, hw⟩ := hw
      refine wa_M_5 F hh q10 dX6_joint_143 (fun H locs hh => ?_)
      refine lv_aload_n hx hb dX6_joint_144 rfl (lv_at hl 0 rfl) ?_
      refine lv_dup hx hb dX6_joint_145 rfl ?_
      obtain ⟨σ11, eσ11⟩ : ∃ z : lf_St, z = (lf_sa σ9 5 ((lf_gi σ9 0) : Int32).toNatClampNeg 0) := ⟨_, rfl⟩
      rw [← eσ11] at hh
      have hw := hw σ11 eσ11
      refine fg_X6_57 F hh dX6_joint_146 ?_
      refine lv_iconst (v := 1) hx hb dX6_joint_149 (by decide) ?_
      refine lv_iadd hx hb dX6_joint_150 ?_
      refine fp_X6_57 F hh dX6_joint_151 (fun H locs hh => ?_)
      refine lv_aload_n hx hb dX6_joint_154 rfl (lv_at hl 0 rfl) ?_
      refine lv_iconst (v := 0) hx hb dX6_joint_155 (by decide) ?_
      refine fp_X6_78 F hh rfl dX6_joint_156 (fun H locs hh => ?_)
      refine lv_aload_n hx hb dX6_joint_159 rfl (lv_at hl 0 rfl) ?_
      obtain ⟨σ12, eσ12⟩ : ∃ z : lf_St, z = (lf_si (lf_si σ11 0 ((lf_gi σ11 0) + 1)) 12 0) := ⟨_, rfl⟩
      rw [← eσ12] at hh
      have hw := hw σ12 eσ12
      refine fg_X6_57 F hh dX6_joint_160 ?_
      refine lv_iconst (v := 1) hx hb dX6_joint_163 (by decide) ?_
      refine lv_isub hx hb dX6_joint_164 ?_
      exact lf_reti F hh hw dX6_joint_165
    · have hw := hw.2 c1
      refine lv_aload_n hx hb dX6_joint_63 rfl (lv_at hl 0 rfl) ?_
      refine fg_X6_7 F hh dX6_joint_64 ?_
      refine lv_iload hx hb dX6_joint_67 (lv_at hl 4 rfl) ?_
      obtain ⟨q13, hw⟩ := hw
      refine ra_M_1 F hh q13 dX6_joint_69 ?_
      refine lv_iload_n hx hb dX6_joint_70 rfl (lv_at hl 1 rfl) ?_
      refine lv_icmp_ne (tgt := 88) hx hb dX6_joint_71 (by decide) (fun c14 => ?_) (fun c14 => ?_)
      · have hw := hw.1 c14
        obtain ⟨v15, ev15⟩ : ∃ y : Int32, y = x4 + 1 := ⟨_, rfl⟩
        have hw := hw v15 ev15
        refine lv_iinc (v := v15) (lv' := [(4, .int v15), (0, .ref (ha 0)), (1, .int x1), (2, .int x2), (3, .int x3)]) hx hb dX6_joint_88 hl (k := 4) rfl (by rw [ev15]; rfl) (by decide) rfl (fun ls hl => ?_)
        refine lv_goto (tgt := 54) hx hb dX6_joint_91 (by decide) ?_
        exact ih x1 x2 x3 v15 σ _ _ _ hh (lv_sub hl [1, 2, 3, 4, 0] rfl) hw
      · have hw := hw.2 c14
        refine lv_aload_n hx hb dX6_joint_74 rfl (lv_at hl 0 rfl) ?_
        refine fg_X6_13 F hh dX6_joint_75 ?_
        refine lv_iload hx hb dX6_joint_78 (lv_at hl 4 rfl) ?_
        obtain ⟨q16, hw⟩ := hw
        refine ra_M_2 F hh q16 dX6_joint_80 ?_
        refine lv_iload_n hx hb dX6_joint_81 rfl (lv_at hl 2 rfl) ?_
        refine lv_icmp_ne (tgt := 88) hx hb dX6_joint_82 (by decide) (fun c17 => ?_) (fun c17 => ?_)
        · have hw := hw.1 c17
          obtain ⟨v18, ev18⟩ : ∃ y : Int32, y = x4 + 1 := ⟨_, rfl⟩
          have hw := hw v18 ev18
          refine lv_iinc (v := v18) (lv' := [(4, .int v18), (0, .ref (ha 0)), (1, .int x1), (2, .int x2), (3, .int x3)]) hx hb dX6_joint_88 hl (k := 4) rfl (by rw [ev18]; rfl) (by decide) rfl (fun ls hl => ?_)
          refine lv_goto (tgt := 54) hx hb dX6_joint_91 (by decide) ?_
          exact ih x1 x2 x3 v18 σ _ _ _ hh (lv_sub hl [1, 2, 3, 4, 0] rfl) hw
        · have hw := hw.2 c17
          refine lv_bipush (v := (-5)) hx hb dX6_joint_85 (by decide) ?_
          exact lf_reti F hh hw dX6_joint_87
set_option maxHeartbeats 4000000 in
set_option maxRecDepth 100000 in
theorem c_X6_joint (l : Launch) (D : va_G) (ha : Nat → Nat) (cy : Nat → ClassId) (sz : Nat) (σ : lf_St) (x1 : Int32) (x2 : Int32) (x3 : Int32) (Post : Int32 → lf_St → Prop) (hw : wp_X6_joint x1 x2 x3 σ Post) : lf_Mi l yX6_joint (lf_ws yX6_joint cX6_joint 5 (some .int)) rm_X6_joint D (tyM_ cy) (wM_ ha cy) sz σ [.ref (ha 0), .int x1, .int x2, .int x3] Post := by
  refine lf_ofi (by decide +kernel) (Nat.le_of_ble_eq_true rfl) ?_
  intro p e s m args below meth c A ls F hh hl
  have hx := F.1.1
  have hb := F.1.2.1
  have hl : lv_has ls 5 [(0, .ref (ha 0)), (1, .int x1), (2, .int x2), (3, .int x3)] := hl
  obtain ⟨H, hHe⟩ : ∃ H, H = s.heap := ⟨_, rfl⟩
  rw [← hHe] at hh ⊢
  unfold wp_X6_joint at hw
  refine lv_iload_n hx hb dX6_joint_0 rfl (lv_at hl 1 rfl) ?_
  refine lv_i2l hx hb dX6_joint_1 rfl ?_
  refine lv_lconst (v := 0) hx hb dX6_joint_2 (by decide) ?_
  refine lv_ldc2 hx hb F.1.2.2.2.1 (F.1.2.2.2.2 _ (lr_6 _ (List.mem_of_getElem? (i := 11) rfl))) dX6_joint_3 ?_
  refine lf_callSi (rest := []) F hh (cw_X6_61 F.1.2.2.2.2 ⟨Nat.le_of_ble_eq_true rfl, Nat.le_of_ble_eq_true rfl⟩) (c_X6_in l D ha cy H.size σ (x1.toInt64) 0 6 _ hw) rfl hl.1 (Nat.le_of_ble_eq_true rfl) dX6_joint_6 rfl (fun r1 σ1 H locs hw hh => ?_)
  refine lv_if_eq (tgt := 24) hx hb dX6_joint_9 (by decide) (fun c2 => ?_) (fun c2 => ?_)
  · have hw := hw.1 c2
    refine lv_bipush (v := (-2)) hx hb dX6_joint_24 (by decide) ?_
    exact lf_reti F hh hw dX6_joint_26
  · have hw := hw.2 c2
    refine lv_iload_n hx hb dX6_joint_12 rfl (lv_at hl 2 rfl) ?_
    refine lv_i2l hx hb dX6_joint_13 rfl ?_
    refine lv_lconst (v := 0) hx hb dX6_joint_14 (by decide) ?_
    refine lv_ldc2 hx hb F.1.2.2.2.1 (F.1.2.2.2.2 _ (lr_6 _ (List.mem_of_getElem? (i := 11) rfl))) dX6_joint_15 ?_
    refine lf_callSi (rest := []) F hh (cw_X6_61 F.1.2.2.2.2 ⟨Nat.le_of_ble_eq_true rfl, Nat.le_of_ble_eq_true rfl⟩) (c_X6_in l D ha cy H.size σ1 (x2.toInt64) 0 6 _ hw) rfl hl.1 (Nat.le_of_ble_eq_true rfl) dX6_joint_18 rfl (fun r3 σ3 H locs hw hh => ?_)
    refine lv_if_ne (tgt := 27) hx hb dX6_joint_21 (by decide) (fun c4 => ?_) (fun c4 => ?_)
    · have hw := hw.1 c4
      refine lv_aload_n hx hb dX6_joint_27 rfl (lv_at hl 0 rfl) ?_
      refine fg_X6_57 F hh dX6_joint_28 ?_
      refine lv_bipush (v := 6) hx hb dX6_joint_31 (by decide) ?_
      refine lv_icmp_eq (tgt := 48) hx hb dX6_joint_33 (by decide) (fun c5 => ?_) (fun c5 => ?_)
      · have hw := hw.1 c5
        refine lv_bipush (v := (-4)) hx hb dX6_joint_48 (by decide) ?_
        exact lf_reti F hh hw dX6_joint_50
      · have hw := hw.2 c5
        refine lv_iload_n hx hb dX6_joint_36 rfl (lv_at hl 3 rfl) ?_
        refine lv_if_ne (tgt := 51) hx hb dX6_joint_37 (by decide) (fun c6 => ?_) (fun c6 => ?_)
        · have hw := hw.1 c6
          refine lv_iconst (v := 0) hx hb dX6_joint_51 (by decide) ?_
          refine lv_istore (lv' := [(4, .int 0), (0, .ref (ha 0)), (1, .int x1), (2, .int x2), (3, .int x3)]) hx hb dX6_joint_52 hl (by decide) rfl (fun ls hl => ?_)
          obtain ⟨n54, hw⟩ := hw
          exact w_X6_joint_54 Post F  n54 x1 x2 x3 0 σ3 _ _ _ hh (lv_sub hl [1, 2, 3, 4, 0] rfl) hw
        · have hw := hw.2 c6
          refine lv_aload_n hx hb dX6_joint_40 rfl (lv_at hl 0 rfl) ?_
          refine lf_callVi (rest := []) F hh (cw_X6_74 F.1.2.2.2.2 ⟨Nat.le_of_ble_eq_true rfl, Nat.le_of_ble_eq_true rfl⟩) (c_X6_frees l D ha cy H.size σ3  _ hw) 0 6 rfl rfl rfl rfl hl.1 (Nat.le_of_ble_eq_true rfl) dX6_joint_41 rfl (fun r7 σ7 H locs hw hh => ?_)
          refine lv_iconst (v := 3) hx hb dX6_joint_44 (by decide) ?_
          refine lv_icmp_ne (tgt := 51) hx hb dX6_joint_45 (by decide) (fun c8 => ?_) (fun c8 => ?_)
          · have hw := hw.1 c8
            refine lv_iconst (v := 0) hx hb dX6_joint_51 (by decide) ?_
            refine lv_istore (lv' := [(4, .int 0), (0, .ref (ha 0)), (1, .int x1), (2, .int x2), (3, .int x3)]) hx hb dX6_joint_52 hl (by decide) rfl (fun ls hl => ?_)
            obtain ⟨n54, hw⟩ := hw
            exact w_X6_joint_54 Post F  n54 x1 x2 x3 0 σ7 _ _ _ hh (lv_sub hl [1, 2, 3, 4, 0] rfl) hw
          · have hw := hw.2 c8
            refine lv_bipush (v := (-4)) hx hb dX6_joint_48 (by decide) ?_
            exact lf_reti F hh hw dX6_joint_50
    · have hw := hw.2 c4
      refine lv_bipush (v := (-2)) hx hb dX6_joint_24 (by decide) ?_
      exact lf_reti F hh hw dX6_joint_26
theorem cw_X6_82 {R : Room} {s : State} {args : Array Value} (ht : ∀ w ∈ wsL_law, w.before args s = true) (hR : rm_X6_isJoint.frames + 1 ≤ R.frames ∧ 8 + (2 + 11) + rm_X6_isJoint.locals ≤ R.locals) : lf_cV R s args RX6 RX6 82 yX6_isJoint cX6_isJoint 2 (some .boolean) rm_X6_isJoint 1 :=
  lf_cV_of 1 ht (lr_9 _ (List.mem_of_getElem? (i := 2) rfl)) (lr_8 _ (List.mem_of_getElem? (i := 23) rfl)) (lr_9 _ (List.mem_of_getElem? (i := 0) rfl)) (lr_9 _ (List.mem_of_getElem? (i := 1) rfl)) (lr_1 _ (List.mem_of_getElem? (i := 5) rfl)) rfl rfl (by decide +kernel) hR
def J_X6_bar_65 (K_37 : Int32 → Int32 → Int32 → lf_St → Prop) (Post : Int32 → lf_St → Prop) (x1 : Int32) (x2 : Int32) (x3 : Int32) (σ : lf_St) : Prop := vp_in x3 10 ∧ (((¬ (lf_ai σ 7 x3.toNatClampNeg) = x2) → (∀ v3 : Int32, v3 = x3 + 1 → (K_37 x1 x2 v3 σ))) ∧ (((lf_ai σ 7 x3.toNatClampNeg) = x2) → (vp_in x3 10 ∧ (((¬ (lf_ai σ 8 x3.toNatClampNeg) = x1) → (∀ v6 : Int32, v6 = x3 + 1 → (K_37 x1 x2 v6 σ))) ∧ (((lf_ai σ 8 x3.toNatClampNeg) = x1) → (Post (-5) σ))))))
def L_X6_bar_37 (Post : Int32 → lf_St → Prop) : Nat → Int32 → Int32 → Int32 → lf_St → Prop
  | 0, _, _, _, _ => False
  | n + 1, x1, x2, x3, σ => (((lf_gi σ 6) ≤ x3) → (vp_in (lf_gi σ 6) 10 ∧ (∀ σ3 : lf_St, σ3 = (lf_sa σ 7 ((lf_gi σ 6) : Int32).toNatClampNeg x1) → (vp_in (lf_gi σ3 6) 10 ∧ (∀ σ5 : lf_St, σ5 = (lf_sa σ3 8 ((lf_gi σ3 6) : Int32).toNatClampNeg x2) → (∀ σ6 : lf_St, σ6 = (lf_si (lf_si σ5 6 ((lf_gi σ5 6) + 1)) 12 0) → (Post ((lf_gi σ6 6) - 1) σ6))))))) ∧ ((¬ ((lf_gi σ 6) ≤ x3)) → (vp_in x3 10 ∧ (((¬ (lf_ai σ 7 x3.toNatClampNeg) = x1) → (J_X6_bar_65 (L_X6_bar_37 Post n) Post x1 x2 x3 σ)) ∧ (((lf_ai σ 7 x3.toNatClampNeg) = x1) → (vp_in x3 10 ∧ ((((lf_ai σ 8 x3.toNatClampNeg) = x2) → (Post (-5) σ)) ∧ ((¬ ((lf_ai σ 8 x3.toNatClampNeg) = x2)) → (J_X6_bar_65 (L_X6_bar_37 Post n) Post x1 x2 x3 σ))))))))
def wp_X6_bar (x1 : Int32) (x2 : Int32) (σ : lf_St) (Post : Int32 → lf_St → Prop) : Prop := wp_X6_isJoint x1 σ (fun r1 σ1 => ((r1 = 0) → (Post (-1) σ1)) ∧ ((¬ (r1 = 0)) → (wp_X6_isJoint x2 σ1 (fun r3 σ3 => ((r3 = 0) → (Post (-1) σ3)) ∧ ((¬ (r3 = 0)) → (((¬ x1 = x2) → (((¬ (lf_gi σ3 6) = 10) → (∃ fu : Nat, L_X6_bar_37 Post fu x1 x2 0 σ3)) ∧ (((lf_gi σ3 6) = 10) → (Post (-4) σ3)))) ∧ ((x1 = x2) → (Post (-1) σ3))))))))
def rm_X6_bar : Room := ({ frames := 2, cells := 0, slots := 0, locals := 46 } : Room)
set_option maxHeartbeats 4000000 in
set_option maxRecDepth 100000 in
theorem w_X6_bar_65 {p : Program} {l : Launch} {e : Env} {s : State} {m : MethodId} {args : Array Value} {below : List Frame} {meth : Method} {c : Code} {D : va_G} {A : Nat → Prop} {ha : Nat → Nat} {cy : Nat → ClassId} (K_37 : Int32 → Int32 → Int32 → lf_St → Prop) (Post : Int32 → lf_St → Prop) (F : lf_C p s m args meth c RX6 cX6_bar 4 (some .int) D (tyM_ cy) A) (hK_37 : ∀ (x1 : Int32) (x2 : Int32) (x3 : Int32) (σ : lf_St) (H : Heap) (locs : List Loc) (ls : Array Slot), lf_H D (wM_ ha cy) A s σ H locs → lv_has ls 4 [(0, .ref (ha 0)), (1, .int x1), (2, .int x2), (3, .int x3)] → K_37 x1 x2 x3 σ → W p l e rm_X6_bar s m args below meth c H locs 0 0 (lf_Qi below args s D (tyM_ cy) A (wM_ ha cy) Post) (F0 m 37 ls [])) (x1 : Int32) (x2 : Int32) (x3 : Int32) (σ : lf_St) (H : Heap) (locs : List Loc) (ls : Array Slot) (hh : lf_H D (wM_ ha cy) A s σ H locs) (hl : lv_has ls 4 [(0, .ref (ha 0)), (1, .int x1), (2, .int x2), (3, .int x3)]) (hw : J_X6_bar_65 K_37 Post x1 x2 x3 σ) : W p l e rm_X6_bar s m args below meth c H locs 0 0 (lf_Qi below args s D (tyM_ cy) A (wM_ ha cy) Post) (F0 m 65 ls []) := by
  have hx := F.1.1
  have hb := F.1.2.1
  unfold J_X6_bar_65 at hw
  refine lv_aload_n hx hb dX6_bar_65 rfl (lv_at hl 0 rfl) ?_
  refine fg_X6_26 F hh dX6_bar_66 ?_
  refine lv_iload_n hx hb dX6_bar_69 rfl (lv_at hl 3 rfl) ?_
  obtain ⟨q1, hw⟩ := hw
  refine ra_M_7 F hh q1 dX6_bar_70 ?_
  refine lv_iload_n hx hb dX6_bar_71 rfl (lv_at hl 2 rfl) ?_
  refine lv_icmp_ne (tgt := 88) hx hb dX6_bar_72 (by decide) (fun c2 => ?_) (fun c2 => ?_)
  · have hw := hw.1 c2
    obtain ⟨v3, ev3⟩ : ∃ y : Int32, y = x3 + 1 := ⟨_, rfl⟩
    have hw := hw v3 ev3
    refine lv_iinc (v := v3) (lv' := [(3, .int v3), (0, .ref (ha 0)), (1, .int x1), (2, .int x2)]) hx hb dX6_bar_88 hl (k := 3) rfl (by rw [ev3]; rfl) (by decide) rfl (fun ls hl => ?_)
    refine lv_goto (tgt := 37) hx hb dX6_bar_91 (by decide) ?_
    exact hK_37 x1 x2 v3 σ _ _ _ hh (lv_sub hl [1, 2, 3, 0] rfl) hw
  · have hw := hw.2 c2
    refine lv_aload_n hx hb dX6_bar_75 rfl (lv_at hl 0 rfl) ?_
    refine fg_X6_29 F hh dX6_bar_76 ?_
    refine lv_iload_n hx hb dX6_bar_79 rfl (lv_at hl 3 rfl) ?_
    obtain ⟨q4, hw⟩ := hw
    refine ra_M_8 F hh q4 dX6_bar_80 ?_
    refine lv_iload_n hx hb dX6_bar_81 rfl (lv_at hl 1 rfl) ?_
    refine lv_icmp_ne (tgt := 88) hx hb dX6_bar_82 (by decide) (fun c5 => ?_) (fun c5 => ?_)
    · have hw := hw.1 c5
      obtain ⟨v6, ev6⟩ : ∃ y : Int32, y = x3 + 1 := ⟨_, rfl⟩
      have hw := hw v6 ev6
      refine lv_iinc (v := v6) (lv' := [(3, .int v6), (0, .ref (ha 0)), (1, .int x1), (2, .int x2)]) hx hb dX6_bar_88 hl (k := 3) rfl (by rw [ev6]; rfl) (by decide) rfl (fun ls hl => ?_)
      refine lv_goto (tgt := 37) hx hb dX6_bar_91 (by decide) ?_
      exact hK_37 x1 x2 v6 σ _ _ _ hh (lv_sub hl [1, 2, 3, 0] rfl) hw
    · have hw := hw.2 c5
      refine lv_bipush (v := (-5)) hx hb dX6_bar_85 (by decide) ?_
      exact lf_reti F hh hw dX6_bar_87
set_option maxHeartbeats 4000000 in
set_option maxRecDepth 100000 in
theorem w_X6_bar_37 {p : Program} {l : Launch} {e : Env} {s : State} {m : MethodId} {args : Array Value} {below : List Frame} {meth : Method} {c : Code} {D : va_G} {A : Nat → Prop} {ha : Nat → Nat} {cy : Nat → ClassId} (Post : Int32 → lf_St → Prop) (F : lf_C p s m args meth c RX6 cX6_bar 4 (some .int) D (tyM_ cy) A) : ∀ (n : Nat) (x1 : Int32) (x2 : Int32) (x3 : Int32) (σ : lf_St) (H : Heap) (locs : List Loc) (ls : Array Slot), lf_H D (wM_ ha cy) A s σ H locs → lv_has ls 4 [(0, .ref (ha 0)), (1, .int x1), (2, .int x2), (3, .int x3)] → L_X6_bar_37 Post n x1 x2 x3 σ → W p l e rm_X6_bar s m args below meth c H locs 0 0 (lf_Qi below args s D (tyM_ cy) A (wM_ ha cy) Post) (F0 m 37 ls []) := by
  have hx := F.1.1
  have hb := F.1.2.1
  intro n
  induction n with
  | zero =>
    intro x1 x2 x3 σ H locs ls hh hl hw
    exact False.elim hw
  | succ n ih =>
    intro x1 x2 x3 σ H locs ls hh hl hw
    unfold L_X6_bar_37 at hw
    refine lv_iload_n hx hb dX6_bar_37 rfl (lv_at hl 3 rfl) ?_
    refine lv_aload_n hx hb dX6_bar_38 rfl (lv_at hl 0 rfl) ?_
    refine fg_X6_65 F hh dX6_bar_39 ?_
    refine lv_icmp_ge (tgt := 94) hx hb dX6_bar_42 (by decide) (fun c1 => ?_) (fun c1 => ?_)
    · have hw := hw.1 c1
      refine lv_aload_n hx hb dX6_bar_94 rfl (lv_at hl 0 rfl) ?_
      refine fg_X6_26 F hh dX6_bar_95 ?_
      refine lv_aload_n hx hb dX6_bar_98 rfl (lv_at hl 0 rfl) ?_
      refine fg_X6_65 F hh dX6_bar_99 ?_
      refine lv_iload_n hx hb dX6_bar_102 rfl (lv_at hl 1 rfl) ?_
      obtain ⟨q2, hw⟩ := hw
      refine wa_M_7 F hh q2 dX6_bar_103 (fun H locs hh => ?_)
      refine lv_aload_n hx hb dX6_bar_104 rfl (lv_at hl 0 rfl) ?_
      refine fg_X6_29 F hh dX6_bar_105 ?_
      refine lv_aload_n hx hb dX6_bar_108 rfl (lv_at hl 0 rfl) ?_
      obtain ⟨σ3, eσ3⟩ : ∃ z : lf_St, z = (lf_sa σ 7 ((lf_gi σ 6) : Int32).toNatClampNeg x1) := ⟨_, rfl⟩
      rw [← eσ3] at hh
      have hw := hw σ3 eσ3
      refine fg_X6_65 F hh dX6_bar_109 ?_
      refine lv_iload_n hx hb dX6_bar_112 rfl (lv_at hl 2 rfl) ?_
      obtain ⟨q4, hw⟩ := hw
      refine wa_M_8 F hh q4 dX6_bar_113 (fun H locs hh => ?_)
      refine lv_aload_n hx hb dX6_bar_114 rfl (lv_at hl 0 rfl) ?_
      refine lv_dup hx hb dX6_bar_115 rfl ?_
      obtain ⟨σ5, eσ5⟩ : ∃ z : lf_St, z = (lf_sa σ3 8 ((lf_gi σ3 6) : Int32).toNatClampNeg x2) := ⟨_, rfl⟩
      rw [← eσ5] at hh
      have hw := hw σ5 eσ5
      refine fg_X6_65 F hh dX6_bar_116 ?_
      refine lv_iconst (v := 1) hx hb dX6_bar_119 (by decide) ?_
      refine lv_iadd hx hb dX6_bar_120 ?_
      refine fp_X6_65 F hh dX6_bar_121 (fun H locs hh => ?_)
      refine lv_aload_n hx hb dX6_bar_124 rfl (lv_at hl 0 rfl) ?_
      refine lv_iconst (v := 0) hx hb dX6_bar_125 (by decide) ?_
      refine fp_X6_78 F hh rfl dX6_bar_126 (fun H locs hh => ?_)
      refine lv_aload_n hx hb dX6_bar_129 rfl (lv_at hl 0 rfl) ?_
      obtain ⟨σ6, eσ6⟩ : ∃ z : lf_St, z = (lf_si (lf_si σ5 6 ((lf_gi σ5 6) + 1)) 12 0) := ⟨_, rfl⟩
      rw [← eσ6] at hh
      have hw := hw σ6 eσ6
      refine fg_X6_65 F hh dX6_bar_130 ?_
      refine lv_iconst (v := 1) hx hb dX6_bar_133 (by decide) ?_
      refine lv_isub hx hb dX6_bar_134 ?_
      exact lf_reti F hh hw dX6_bar_135
    · have hw := hw.2 c1
      refine lv_aload_n hx hb dX6_bar_45 rfl (lv_at hl 0 rfl) ?_
      refine fg_X6_26 F hh dX6_bar_46 ?_
      refine lv_iload_n hx hb dX6_bar_49 rfl (lv_at hl 3 rfl) ?_
      obtain ⟨q7, hw⟩ := hw
      refine ra_M_7 F hh q7 dX6_bar_50 ?_
      refine lv_iload_n hx hb dX6_bar_51 rfl (lv_at hl 1 rfl) ?_
      refine lv_icmp_ne (tgt := 65) hx hb dX6_bar_52 (by decide) (fun c8 => ?_) (fun c8 => ?_)
      · have hw := hw.1 c8
        exact w_X6_bar_65 _ Post F ih x1 x2 x3 σ _ _ _ hh (lv_sub hl [0, 1, 2, 3] rfl) hw
      · have hw := hw.2 c8
        refine lv_aload_n hx hb dX6_bar_55 rfl (lv_at hl 0 rfl) ?_
        refine fg_X6_29 F hh dX6_bar_56 ?_
        refine lv_iload_n hx hb dX6_bar_59 rfl (lv_at hl 3 rfl) ?_
        obtain ⟨q9, hw⟩ := hw
        refine ra_M_8 F hh q9 dX6_bar_60 ?_
        refine lv_iload_n hx hb dX6_bar_61 rfl (lv_at hl 2 rfl) ?_
        refine lv_icmp_eq (tgt := 85) hx hb dX6_bar_62 (by decide) (fun c10 => ?_) (fun c10 => ?_)
        · have hw := hw.1 c10
          refine lv_bipush (v := (-5)) hx hb dX6_bar_85 (by decide) ?_
          exact lf_reti F hh hw dX6_bar_87
        · have hw := hw.2 c10
          exact w_X6_bar_65 _ Post F ih x1 x2 x3 σ _ _ _ hh (lv_sub hl [0, 1, 2, 3] rfl) hw
set_option maxHeartbeats 4000000 in
set_option maxRecDepth 100000 in
theorem c_X6_bar (l : Launch) (D : va_G) (ha : Nat → Nat) (cy : Nat → ClassId) (sz : Nat) (σ : lf_St) (x1 : Int32) (x2 : Int32) (Post : Int32 → lf_St → Prop) (hw : wp_X6_bar x1 x2 σ Post) : lf_Mi l yX6_bar (lf_ws yX6_bar cX6_bar 4 (some .int)) rm_X6_bar D (tyM_ cy) (wM_ ha cy) sz σ [.ref (ha 0), .int x1, .int x2] Post := by
  refine lf_ofi (by decide +kernel) (Nat.le_of_ble_eq_true rfl) ?_
  intro p e s m args below meth c A ls F hh hl
  have hx := F.1.1
  have hb := F.1.2.1
  have hl : lv_has ls 4 [(0, .ref (ha 0)), (1, .int x1), (2, .int x2)] := hl
  obtain ⟨H, hHe⟩ : ∃ H, H = s.heap := ⟨_, rfl⟩
  rw [← hHe] at hh ⊢
  unfold wp_X6_bar at hw
  refine lv_aload_n hx hb dX6_bar_0 rfl (lv_at hl 0 rfl) ?_
  refine lv_iload_n hx hb dX6_bar_1 rfl (lv_at hl 1 rfl) ?_
  refine lf_callVi (rest := []) F hh (cw_X6_82 F.1.2.2.2.2 ⟨Nat.le_of_ble_eq_true rfl, Nat.le_of_ble_eq_true rfl⟩) (c_X6_isJoint l D ha cy H.size σ x1 _ hw) 0 6 rfl rfl rfl rfl hl.1 (Nat.le_of_ble_eq_true rfl) dX6_bar_2 rfl (fun r1 σ1 H locs hw hh => ?_)
  refine lv_if_eq (tgt := 21) hx hb dX6_bar_5 (by decide) (fun c2 => ?_) (fun c2 => ?_)
  · have hw := hw.1 c2
    refine lv_iconst (v := (-1)) hx hb dX6_bar_21 (by decide) ?_
    exact lf_reti F hh hw dX6_bar_22
  · have hw := hw.2 c2
    refine lv_aload_n hx hb dX6_bar_8 rfl (lv_at hl 0 rfl) ?_
    refine lv_iload_n hx hb dX6_bar_9 rfl (lv_at hl 2 rfl) ?_
    refine lf_callVi (rest := []) F hh (cw_X6_82 F.1.2.2.2.2 ⟨Nat.le_of_ble_eq_true rfl, Nat.le_of_ble_eq_true rfl⟩) (c_X6_isJoint l D ha cy H.size σ1 x2 _ hw) 0 6 rfl rfl rfl rfl hl.1 (Nat.le_of_ble_eq_true rfl) dX6_bar_10 rfl (fun r3 σ3 H locs hw hh => ?_)
    refine lv_if_eq (tgt := 21) hx hb dX6_bar_13 (by decide) (fun c4 => ?_) (fun c4 => ?_)
    · have hw := hw.1 c4
      refine lv_iconst (v := (-1)) hx hb dX6_bar_21 (by decide) ?_
      exact lf_reti F hh hw dX6_bar_22
    · have hw := hw.2 c4
      refine lv_iload_n hx hb dX6_bar_16 rfl (lv_at hl 1 rfl) ?_
      refine lv_iload_n hx hb dX6_bar_17 rfl (lv_at hl 2 rfl) ?_
      refine lv_icmp_ne (tgt := 23) hx hb dX6_bar_18 (by decide) (fun c5 => ?_) (fun c5 => ?_)
      · have hw := hw.1 c5
        refine lv_aload_n hx hb dX6_bar_23 rfl (lv_at hl 0 rfl) ?_
        refine fg_X6_65 F hh dX6_bar_24 ?_
        refine lv_bipush (v := 10) hx hb dX6_bar_27 (by decide) ?_
        refine lv_icmp_ne (tgt := 35) hx hb dX6_bar_29 (by decide) (fun c6 => ?_) (fun c6 => ?_)
        · have hw := hw.1 c6
          refine lv_iconst (v := 0) hx hb dX6_bar_35 (by decide) ?_
          refine lv_istore_n (lv' := [(3, .int 0), (0, .ref (ha 0)), (1, .int x1), (2, .int x2)]) hx hb dX6_bar_36 rfl hl (by decide) rfl (fun ls hl => ?_)
          obtain ⟨n37, hw⟩ := hw
          exact w_X6_bar_37 Post F  n37 x1 x2 0 σ3 _ _ _ hh (lv_sub hl [1, 2, 3, 0] rfl) hw
        · have hw := hw.2 c6
          refine lv_bipush (v := (-4)) hx hb dX6_bar_32 (by decide) ?_
          exact lf_reti F hh hw dX6_bar_34
      · have hw := hw.2 c5
        refine lv_iconst (v := (-1)) hx hb dX6_bar_21 (by decide) ?_
        exact lf_reti F hh hw dX6_bar_22
def wp_X6_load (x1 : Int32) (x2 : Int32) (x3 : Int32) (σ : lf_St) (Post : Int32 → lf_St → Prop) : Prop := wp_X6_isJoint x1 σ (fun r1 σ1 => ((¬ r1 = 0) → (wp_X6_in (x2.toInt64) (-20) 20 σ1 (fun r3 σ3 => ((r3 = 0) → (Post (-2) σ3)) ∧ ((¬ (r3 = 0)) → (wp_X6_in (x3.toInt64) (-20) 20 σ3 (fun r5 σ5 => ((¬ r5 = 0) → (vp_in x1 6 ∧ ((((lf_ai σ5 3 x1.toNatClampNeg) = 0) → (vp_in x1 6 ∧ (vp_in x1 6 ∧ (Post 1 (lf_si (lf_sa (lf_sa σ5 4 x1.toNatClampNeg x2) 5 x1.toNatClampNeg x3) 12 0))))) ∧ ((¬ ((lf_ai σ5 3 x1.toNatClampNeg) = 0)) → (Post (-5) σ5))))) ∧ ((r5 = 0) → (Post (-2) σ5)))))))) ∧ ((r1 = 0) → (Post (-1) σ1)))
def rm_X6_load : Room := ({ frames := 2, cells := 0, slots := 0, locals := 46 } : Room)
set_option maxHeartbeats 4000000 in
set_option maxRecDepth 100000 in
theorem c_X6_load (l : Launch) (D : va_G) (ha : Nat → Nat) (cy : Nat → ClassId) (sz : Nat) (σ : lf_St) (x1 : Int32) (x2 : Int32) (x3 : Int32) (Post : Int32 → lf_St → Prop) (hw : wp_X6_load x1 x2 x3 σ Post) : lf_Mi l yX6_load (lf_ws yX6_load cX6_load 4 (some .int)) rm_X6_load D (tyM_ cy) (wM_ ha cy) sz σ [.ref (ha 0), .int x1, .int x2, .int x3] Post := by
  refine lf_ofi (by decide +kernel) (Nat.le_of_ble_eq_true rfl) ?_
  intro p e s m args below meth c A ls F hh hl
  have hx := F.1.1
  have hb := F.1.2.1
  have hl : lv_has ls 4 [(0, .ref (ha 0)), (1, .int x1), (2, .int x2), (3, .int x3)] := hl
  obtain ⟨H, hHe⟩ : ∃ H, H = s.heap := ⟨_, rfl⟩
  rw [← hHe] at hh ⊢
  unfold wp_X6_load at hw
  refine lv_aload_n hx hb dX6_load_0 rfl (lv_at hl 0 rfl) ?_
  refine lv_iload_n hx hb dX6_load_1 rfl (lv_at hl 1 rfl) ?_
  refine lf_callVi (rest := []) F hh (cw_X6_82 F.1.2.2.2.2 ⟨Nat.le_of_ble_eq_true rfl, Nat.le_of_ble_eq_true rfl⟩) (c_X6_isJoint l D ha cy H.size σ x1 _ hw) 0 6 rfl rfl rfl rfl hl.1 (Nat.le_of_ble_eq_true rfl) dX6_load_2 rfl (fun r1 σ1 H locs hw hh => ?_)
  refine lv_if_ne (tgt := 10) hx hb dX6_load_5 (by decide) (fun c2 => ?_) (fun c2 => ?_)
  · have hw := hw.1 c2
    refine lv_iload_n hx hb dX6_load_10 rfl (lv_at hl 2 rfl) ?_
    refine lv_i2l hx hb dX6_load_11 rfl ?_
    refine lv_ldc2 hx hb F.1.2.2.2.1 (F.1.2.2.2.2 _ (lr_9 _ (List.mem_of_getElem? (i := 16) rfl))) dX6_load_12 ?_
    refine lv_ldc2 hx hb F.1.2.2.2.1 (F.1.2.2.2.2 _ (lr_9 _ (List.mem_of_getElem? (i := 17) rfl))) dX6_load_15 ?_
    refine lf_callSi (rest := []) F hh (cw_X6_61 F.1.2.2.2.2 ⟨Nat.le_of_ble_eq_true rfl, Nat.le_of_ble_eq_true rfl⟩) (c_X6_in l D ha cy H.size σ1 (x2.toInt64) (-20) 20 _ hw) rfl hl.1 (Nat.le_of_ble_eq_true rfl) dX6_load_18 rfl (fun r3 σ3 H locs hw hh => ?_)
    refine lv_if_eq (tgt := 38) hx hb dX6_load_21 (by decide) (fun c4 => ?_) (fun c4 => ?_)
    · have hw := hw.1 c4
      refine lv_bipush (v := (-2)) hx hb dX6_load_38 (by decide) ?_
      exact lf_reti F hh hw dX6_load_40
    · have hw := hw.2 c4
      refine lv_iload_n hx hb dX6_load_24 rfl (lv_at hl 3 rfl) ?_
      refine lv_i2l hx hb dX6_load_25 rfl ?_
      refine lv_ldc2 hx hb F.1.2.2.2.1 (F.1.2.2.2.2 _ (lr_9 _ (List.mem_of_getElem? (i := 16) rfl))) dX6_load_26 ?_
      refine lv_ldc2 hx hb F.1.2.2.2.1 (F.1.2.2.2.2 _ (lr_9 _ (List.mem_of_getElem? (i := 17) rfl))) dX6_load_29 ?_
      refine lf_callSi (rest := []) F hh (cw_X6_61 F.1.2.2.2.2 ⟨Nat.le_of_ble_eq_true rfl, Nat.le_of_ble_eq_true rfl⟩) (c_X6_in l D ha cy H.size σ3 (x3.toInt64) (-20) 20 _ hw) rfl hl.1 (Nat.le_of_ble_eq_true rfl) dX6_load_32 rfl (fun r5 σ5 H locs hw hh => ?_)
      refine lv_if_ne (tgt := 41) hx hb dX6_load_35 (by decide) (fun c6 => ?_) (fun c6 => ?_)
      · have hw := hw.1 c6
        refine lv_aload_n hx hb dX6_load_41 rfl (lv_at hl 0 rfl) ?_
        refine fg_X6_16 F hh dX6_load_42 ?_
        refine lv_iload_n hx hb dX6_load_45 rfl (lv_at hl 1 rfl) ?_
        obtain ⟨q7, hw⟩ := hw
        refine ra_M_3 F hh q7 dX6_load_46 ?_
        refine lv_if_eq (tgt := 53) hx hb dX6_load_47 (by decide) (fun c8 => ?_) (fun c8 => ?_)
        · have hw := hw.1 c8
          refine lv_aload_n hx hb dX6_load_53 rfl (lv_at hl 0 rfl) ?_
          refine fg_X6_20 F hh dX6_load_54 ?_
          refine lv_iload_n hx hb dX6_load_57 rfl (lv_at hl 1 rfl) ?_
          refine lv_iload_n hx hb dX6_load_58 rfl (lv_at hl 2 rfl) ?_
          obtain ⟨q9, hw⟩ := hw
          refine wa_M_4 F hh q9 dX6_load_59 (fun H locs hh => ?_)
          refine lv_aload_n hx hb dX6_load_60 rfl (lv_at hl 0 rfl) ?_
          refine fg_X6_23 F hh dX6_load_61 ?_
          refine lv_iload_n hx hb dX6_load_64 rfl (lv_at hl 1 rfl) ?_
          refine lv_iload_n hx hb dX6_load_65 rfl (lv_at hl 3 rfl) ?_
          obtain ⟨q10, hw⟩ := hw
          refine wa_M_5 F hh q10 dX6_load_66 (fun H locs hh => ?_)
          refine lv_aload_n hx hb dX6_load_67 rfl (lv_at hl 0 rfl) ?_
          refine lv_iconst (v := 0) hx hb dX6_load_68 (by decide) ?_
          refine fp_X6_78 F hh rfl dX6_load_69 (fun H locs hh => ?_)
          refine lv_iconst (v := 1) hx hb dX6_load_72 (by decide) ?_
          exact lf_reti F hh hw dX6_load_73
        · have hw := hw.2 c8
          refine lv_bipush (v := (-5)) hx hb dX6_load_50 (by decide) ?_
          exact lf_reti F hh hw dX6_load_52
      · have hw := hw.2 c6
        refine lv_bipush (v := (-2)) hx hb dX6_load_38 (by decide) ?_
        exact lf_reti F hh hw dX6_load_40
  · have hw := hw.2 c2
    refine lv_iconst (v := (-1)) hx hb dX6_load_8 (by decide) ?_
    exact lf_reti F hh hw dX6_load_9
def wp_X6_about (x1 : Int32) (x2 : Int32) (σ : lf_St) (Post : Int32 → lf_St → Prop) : Prop := wp_X6_isJoint x1 σ (fun r1 σ1 => ((¬ r1 = 0) → (((x2 = 0) → (vp_in x1 6 ∧ (Post (lf_ai σ1 1 x1.toNatClampNeg) σ1))) ∧ (¬ (x2 = 0) → (((x2 = 1) → (vp_in x1 6 ∧ (Post (lf_ai σ1 2 x1.toNatClampNeg) σ1))) ∧ (¬ (x2 = 1) → (((x2 = 2) → (vp_in x1 6 ∧ ((((lf_ai σ1 3 x1.toNatClampNeg) = 0) → (Post 0 σ1)) ∧ ((¬ ((lf_ai σ1 3 x1.toNatClampNeg) = 0)) → (Post 1 σ1))))) ∧ (¬ (x2 = 2) → (((x2 = 3) → (vp_in x1 6 ∧ (Post (lf_ai σ1 4 x1.toNatClampNeg) σ1))) ∧ (¬ (x2 = 3) → (((x2 = 4) → (vp_in x1 6 ∧ (Post (lf_ai σ1 5 x1.toNatClampNeg) σ1))) ∧ (¬ (x2 = 4) → (Post (-102) σ1)))))))))))) ∧ ((r1 = 0) → (Post (-101) σ1)))
def rm_X6_about : Room := ({ frames := 2, cells := 0, slots := 0, locals := 46 } : Room)
set_option maxHeartbeats 4000000 in
set_option maxRecDepth 100000 in
theorem c_X6_about (l : Launch) (D : va_G) (ha : Nat → Nat) (cy : Nat → ClassId) (sz : Nat) (σ : lf_St) (x1 : Int32) (x2 : Int32) (Post : Int32 → lf_St → Prop) (hw : wp_X6_about x1 x2 σ Post) : lf_Mi l yX6_about (lf_ws yX6_about cX6_about 3 (some .int)) rm_X6_about D (tyM_ cy) (wM_ ha cy) sz σ [.ref (ha 0), .int x1, .int x2] Post := by
  refine lf_ofi (by decide +kernel) (Nat.le_of_ble_eq_true rfl) ?_
  intro p e s m args below meth c A ls F hh hl
  have hx := F.1.1
  have hb := F.1.2.1
  have hl : lv_has ls 3 [(0, .ref (ha 0)), (1, .int x1), (2, .int x2)] := hl
  obtain ⟨H, hHe⟩ : ∃ H, H = s.heap := ⟨_, rfl⟩
  rw [← hHe] at hh ⊢
  unfold wp_X6_about at hw
  refine lv_aload_n hx hb dX6_about_0 rfl (lv_at hl 0 rfl) ?_
  refine lv_iload_n hx hb dX6_about_1 rfl (lv_at hl 1 rfl) ?_
  refine lf_callVi (rest := []) F hh (cw_X6_82 F.1.2.2.2.2 ⟨Nat.le_of_ble_eq_true rfl, Nat.le_of_ble_eq_true rfl⟩) (c_X6_isJoint l D ha cy H.size σ x1 _ hw) 0 6 rfl rfl rfl rfl hl.1 (Nat.le_of_ble_eq_true rfl) dX6_about_2 rfl (fun r1 σ1 H locs hw hh => ?_)
  refine lv_if_ne (tgt := 11) hx hb dX6_about_5 (by decide) (fun c2 => ?_) (fun c2 => ?_)
  · have hw := hw.1 c2
    refine lv_iload_n hx hb dX6_about_11 rfl (lv_at hl 2 rfl) ?_
    by_cases c3 : x2 = 0
    · have hw := hw.1 c3
      refine lv_tableIn (tgt := 48) hx hb dX6_about_12 (by rw [c3]; decide) (by rw [c3]; decide) (by rw [c3]; rfl) (by decide) ?_
      refine lv_aload_n hx hb dX6_about_48 rfl (lv_at hl 0 rfl) ?_
      refine fg_X6_7 F hh dX6_about_49 ?_
      refine lv_iload_n hx hb dX6_about_52 rfl (lv_at hl 1 rfl) ?_
      obtain ⟨q4, hw⟩ := hw
      refine ra_M_1 F hh q4 dX6_about_53 ?_
      exact lf_reti F hh hw dX6_about_54
    · have hw := hw.2 c3
      by_cases c5 : x2 = 1
      · have hw := hw.1 c5
        refine lv_tableIn (tgt := 55) hx hb dX6_about_12 (by rw [c5]; decide) (by rw [c5]; decide) (by rw [c5]; rfl) (by decide) ?_
        refine lv_aload_n hx hb dX6_about_55 rfl (lv_at hl 0 rfl) ?_
        refine fg_X6_13 F hh dX6_about_56 ?_
        refine lv_iload_n hx hb dX6_about_59 rfl (lv_at hl 1 rfl) ?_
        obtain ⟨q6, hw⟩ := hw
        refine ra_M_2 F hh q6 dX6_about_60 ?_
        exact lf_reti F hh hw dX6_about_61
      · have hw := hw.2 c5
        by_cases c7 : x2 = 2
        · have hw := hw.1 c7
          refine lv_tableIn (tgt := 62) hx hb dX6_about_12 (by rw [c7]; decide) (by rw [c7]; decide) (by rw [c7]; rfl) (by decide) ?_
          refine lv_aload_n hx hb dX6_about_62 rfl (lv_at hl 0 rfl) ?_
          refine fg_X6_16 F hh dX6_about_63 ?_
          refine lv_iload_n hx hb dX6_about_66 rfl (lv_at hl 1 rfl) ?_
          obtain ⟨q8, hw⟩ := hw
          refine ra_M_3 F hh q8 dX6_about_67 ?_
          refine lv_if_eq (tgt := 75) hx hb dX6_about_68 (by decide) (fun c9 => ?_) (fun c9 => ?_)
          · have hw := hw.1 c9
            refine lv_iconst (v := 0) hx hb dX6_about_75 (by decide) ?_
            exact lf_reti F hh hw dX6_about_76
          · have hw := hw.2 c9
            refine lv_iconst (v := 1) hx hb dX6_about_71 (by decide) ?_
            refine lv_goto (tgt := 76) hx hb dX6_about_72 (by decide) ?_
            exact lf_reti F hh hw dX6_about_76
        · have hw := hw.2 c7
          by_cases c10 : x2 = 3
          · have hw := hw.1 c10
            refine lv_tableIn (tgt := 77) hx hb dX6_about_12 (by rw [c10]; decide) (by rw [c10]; decide) (by rw [c10]; rfl) (by decide) ?_
            refine lv_aload_n hx hb dX6_about_77 rfl (lv_at hl 0 rfl) ?_
            refine fg_X6_20 F hh dX6_about_78 ?_
            refine lv_iload_n hx hb dX6_about_81 rfl (lv_at hl 1 rfl) ?_
            obtain ⟨q11, hw⟩ := hw
            refine ra_M_4 F hh q11 dX6_about_82 ?_
            exact lf_reti F hh hw dX6_about_83
          · have hw := hw.2 c10
            by_cases c12 : x2 = 4
            · have hw := hw.1 c12
              refine lv_tableIn (tgt := 84) hx hb dX6_about_12 (by rw [c12]; decide) (by rw [c12]; decide) (by rw [c12]; rfl) (by decide) ?_
              refine lv_aload_n hx hb dX6_about_84 rfl (lv_at hl 0 rfl) ?_
              refine fg_X6_23 F hh dX6_about_85 ?_
              refine lv_iload_n hx hb dX6_about_88 rfl (lv_at hl 1 rfl) ?_
              obtain ⟨q13, hw⟩ := hw
              refine ra_M_5 F hh q13 dX6_about_89 ?_
              exact lf_reti F hh hw dX6_about_90
            · have hw := hw.2 c12
              refine lv_tableOut (tgt := 91) hx hb dX6_about_12 (lf_sw_0_4 c3 c5 c7 c10 c12) (by decide) ?_
              refine lv_bipush (v := (-102)) hx hb dX6_about_91 (by decide) ?_
              exact lf_reti F hh hw dX6_about_93
  · have hw := hw.2 c2
    refine lv_bipush (v := (-101)) hx hb dX6_about_8 (by decide) ?_
    exact lf_reti F hh hw dX6_about_10
def wp_X6_stuff (x1 : Int32) (σ : lf_St) (Post : Int32 → lf_St → Prop) : Prop := vp_in x1 10 ∧ (vp_in (lf_ai σ 8 x1.toNatClampNeg) 6 ∧ (vp_in x1 10 ∧ (vp_in (lf_ai σ 7 x1.toNatClampNeg) 6 ∧ (∀ v5 : Int32, v5 = ((lf_ai σ 1 ((lf_ai σ 8 x1.toNatClampNeg) : Int32).toNatClampNeg) - (lf_ai σ 1 ((lf_ai σ 7 x1.toNatClampNeg) : Int32).toNatClampNeg)) → (vp_in x1 10 ∧ (vp_in (lf_ai σ 8 x1.toNatClampNeg) 6 ∧ (vp_in x1 10 ∧ (vp_in (lf_ai σ 7 x1.toNatClampNeg) 6 ∧ (∀ v10 : Int32, v10 = ((lf_ai σ 2 ((lf_ai σ 8 x1.toNatClampNeg) : Int32).toNatClampNeg) - (lf_ai σ 2 ((lf_ai σ 7 x1.toNatClampNeg) : Int32).toNatClampNeg)) → (Post ((v5 * v5) + (v10 * v10)) σ))))))))))
def rm_X6_stuff : Room := ({ frames := 0, cells := 0, slots := 0, locals := 0 } : Room)
set_option maxHeartbeats 4000000 in
set_option maxRecDepth 100000 in
theorem c_X6_stuff (l : Launch) (D : va_G) (ha : Nat → Nat) (cy : Nat → ClassId) (sz : Nat) (σ : lf_St) (x1 : Int32) (Post : Int32 → lf_St → Prop) (hw : wp_X6_stuff x1 σ Post) : lf_Mi l yX6_stuff (lf_ws yX6_stuff cX6_stuff 4 (some .int)) rm_X6_stuff D (tyM_ cy) (wM_ ha cy) sz σ [.ref (ha 0), .int x1] Post := by
  refine lf_ofi (by decide +kernel) (Nat.le_of_ble_eq_true rfl) ?_
  intro p e s m args below meth c A ls F hh hl
  have hx := F.1.1
  have hb := F.1.2.1
  have hl : lv_has ls 4 [(0, .ref (ha 0)), (1, .int x1)] := hl
  obtain ⟨H, hHe⟩ : ∃ H, H = s.heap := ⟨_, rfl⟩
  rw [← hHe] at hh ⊢
  unfold wp_X6_stuff at hw
  refine lv_aload_n hx hb dX6_stuff_0 rfl (lv_at hl 0 rfl) ?_
  refine fg_X6_7 F hh dX6_stuff_1 ?_
  refine lv_aload_n hx hb dX6_stuff_4 rfl (lv_at hl 0 rfl) ?_
  refine fg_X6_29 F hh dX6_stuff_5 ?_
  refine lv_iload_n hx hb dX6_stuff_8 rfl (lv_at hl 1 rfl) ?_
  obtain ⟨q1, hw⟩ := hw
  refine ra_M_8 F hh q1 dX6_stuff_9 ?_
  obtain ⟨q2, hw⟩ := hw
  refine ra_M_1 F hh q2 dX6_stuff_10 ?_
  refine lv_aload_n hx hb dX6_stuff_11 rfl (lv_at hl 0 rfl) ?_
  refine fg_X6_7 F hh dX6_stuff_12 ?_
  refine lv_aload_n hx hb dX6_stuff_15 rfl (lv_at hl 0 rfl) ?_
  refine fg_X6_26 F hh dX6_stuff_16 ?_
  refine lv_iload_n hx hb dX6_stuff_19 rfl (lv_at hl 1 rfl) ?_
  obtain ⟨q3, hw⟩ := hw
  refine ra_M_7 F hh q3 dX6_stuff_20 ?_
  obtain ⟨q4, hw⟩ := hw
  refine ra_M_1 F hh q4 dX6_stuff_21 ?_
  refine lv_isub hx hb dX6_stuff_22 ?_
  refine lv_topi (fun v5 ev5 => ?_)
  have hw := hw v5 ev5
  refine lv_istore_n (lv' := [(2, .int v5), (0, .ref (ha 0)), (1, .int x1)]) hx hb dX6_stuff_23 rfl hl (by decide) rfl (fun ls hl => ?_)
  refine lv_aload_n hx hb dX6_stuff_24 rfl (lv_at hl 1 rfl) ?_
  refine fg_X6_13 F hh dX6_stuff_25 ?_
  refine lv_aload_n hx hb dX6_stuff_28 rfl (lv_at hl 1 rfl) ?_
  refine fg_X6_29 F hh dX6_stuff_29 ?_
  refine lv_iload_n hx hb dX6_stuff_32 rfl (lv_at hl 2 rfl) ?_
  obtain ⟨q6, hw⟩ := hw
  refine ra_M_8 F hh q6 dX6_stuff_33 ?_
  obtain ⟨q7, hw⟩ := hw
  refine ra_M_2 F hh q7 dX6_stuff_34 ?_
  refine lv_aload_n hx hb dX6_stuff_35 rfl (lv_at hl 1 rfl) ?_
  refine fg_X6_13 F hh dX6_stuff_36 ?_
  refine lv_aload_n hx hb dX6_stuff_39 rfl (lv_at hl 1 rfl) ?_
  refine fg_X6_26 F hh dX6_stuff_40 ?_
  refine lv_iload_n hx hb dX6_stuff_43 rfl (lv_at hl 2 rfl) ?_
  obtain ⟨q8, hw⟩ := hw
  refine ra_M_7 F hh q8 dX6_stuff_44 ?_
  obtain ⟨q9, hw⟩ := hw
  refine ra_M_2 F hh q9 dX6_stuff_45 ?_
  refine lv_isub hx hb dX6_stuff_46 ?_
  refine lv_topi (fun v10 ev10 => ?_)
  have hw := hw v10 ev10
  refine lv_istore_n (lv' := [(3, .int v10), (2, .int v5), (0, .ref (ha 0)), (1, .int x1)]) hx hb dX6_stuff_47 rfl hl (by decide) rfl (fun ls hl => ?_)
  refine lv_iload_n hx hb dX6_stuff_48 rfl (lv_at hl 1 rfl) ?_
  refine lv_iload_n hx hb dX6_stuff_49 rfl (lv_at hl 1 rfl) ?_
  refine lv_imul hx hb dX6_stuff_50 ?_
  refine lv_iload_n hx hb dX6_stuff_51 rfl (lv_at hl 0 rfl) ?_
  refine lv_iload_n hx hb dX6_stuff_52 rfl (lv_at hl 0 rfl) ?_
  refine lv_imul hx hb dX6_stuff_53 ?_
  refine lv_iadd hx hb dX6_stuff_54 ?_
  exact lf_reti F hh hw dX6_stuff_55
theorem cw_X6_90 {R : Room} {s : State} {args : Array Value} (ht : ∀ w ∈ wsL_law, w.before args s = true) (hR : rm_X6_isBar.frames + 1 ≤ R.frames ∧ 8 + (2 + 11) + rm_X6_isBar.locals ≤ R.locals) : lf_cV R s args RX6 RX6 90 yX6_isBar cX6_isBar 2 (some .boolean) rm_X6_isBar 1 :=
  lf_cV_of 1 ht (lr_10 _ (List.mem_of_getElem? (i := 22) rfl)) (lr_10 _ (List.mem_of_getElem? (i := 19) rfl)) (lr_10 _ (List.mem_of_getElem? (i := 20) rfl)) (lr_10 _ (List.mem_of_getElem? (i := 21) rfl)) (lr_1 _ (List.mem_of_getElem? (i := 5) rfl)) rfl rfl (by decide +kernel) hR
theorem cw_X6_93 {R : Room} {s : State} {args : Array Value} (ht : ∀ w ∈ wsL_law, w.before args s = true) (hR : rm_X6_stuff.frames + 1 ≤ R.frames ∧ 8 + (4 + 11) + rm_X6_stuff.locals ≤ R.locals) : lf_cV R s args RX6 RX6 93 yX6_stuff cX6_stuff 4 (some .int) rm_X6_stuff 1 :=
  lf_cV_of 1 ht (lr_11 _ (List.mem_of_getElem? (i := 2) rfl)) (lr_10 _ (List.mem_of_getElem? (i := 23) rfl)) (lr_11 _ (List.mem_of_getElem? (i := 0) rfl)) (lr_11 _ (List.mem_of_getElem? (i := 1) rfl)) (lr_1 _ (List.mem_of_getElem? (i := 5) rfl)) rfl rfl (by decide +kernel) hR
def wp_X6_ofBar (x1 : Int32) (x2 : Int32) (σ : lf_St) (Post : Int32 → lf_St → Prop) : Prop := wp_X6_isBar x1 σ (fun r1 σ1 => ((¬ r1 = 0) → (((¬ x2 = 0) → (((¬ x2 = 1) → (((¬ x2 = 2) → (Post (-2) σ1)) ∧ ((x2 = 2) → (wp_X6_stuff x1 σ1 (fun r6 σ6 => Post r6 σ6))))) ∧ ((x2 = 1) → (vp_in x1 10 ∧ (Post (lf_ai σ1 8 x1.toNatClampNeg) σ1))))) ∧ ((x2 = 0) → (vp_in x1 10 ∧ (Post (lf_ai σ1 7 x1.toNatClampNeg) σ1))))) ∧ ((r1 = 0) → (Post (-1) σ1)))
def rm_X6_ofBar : Room := ({ frames := 2, cells := 0, slots := 0, locals := 46 } : Room)
set_option maxHeartbeats 4000000 in
set_option maxRecDepth 100000 in
theorem c_X6_ofBar (l : Launch) (D : va_G) (ha : Nat → Nat) (cy : Nat → ClassId) (sz : Nat) (σ : lf_St) (x1 : Int32) (x2 : Int32) (Post : Int32 → lf_St → Prop) (hw : wp_X6_ofBar x1 x2 σ Post) : lf_Mi l yX6_ofBar (lf_ws yX6_ofBar cX6_ofBar 3 (some .int)) rm_X6_ofBar D (tyM_ cy) (wM_ ha cy) sz σ [.ref (ha 0), .int x1, .int x2] Post := by
  refine lf_ofi (by decide +kernel) (Nat.le_of_ble_eq_true rfl) ?_
  intro p e s m args below meth c A ls F hh hl
  have hx := F.1.1
  have hb := F.1.2.1
  have hl : lv_has ls 3 [(0, .ref (ha 0)), (1, .int x1), (2, .int x2)] := hl
  obtain ⟨H, hHe⟩ : ∃ H, H = s.heap := ⟨_, rfl⟩
  rw [← hHe] at hh ⊢
  unfold wp_X6_ofBar at hw
  refine lv_aload_n hx hb dX6_ofBar_0 rfl (lv_at hl 0 rfl) ?_
  refine lv_iload_n hx hb dX6_ofBar_1 rfl (lv_at hl 1 rfl) ?_
  refine lf_callVi (rest := []) F hh (cw_X6_90 F.1.2.2.2.2 ⟨Nat.le_of_ble_eq_true rfl, Nat.le_of_ble_eq_true rfl⟩) (c_X6_isBar l D ha cy H.size σ x1 _ hw) 0 6 rfl rfl rfl rfl hl.1 (Nat.le_of_ble_eq_true rfl) dX6_ofBar_2 rfl (fun r1 σ1 H locs hw hh => ?_)
  refine lv_if_ne (tgt := 10) hx hb dX6_ofBar_5 (by decide) (fun c2 => ?_) (fun c2 => ?_)
  · have hw := hw.1 c2
    refine lv_iload_n hx hb dX6_ofBar_10 rfl (lv_at hl 2 rfl) ?_
    refine lv_if_ne (tgt := 23) hx hb dX6_ofBar_11 (by decide) (fun c3 => ?_) (fun c3 => ?_)
    · have hw := hw.1 c3
      refine lv_iload_n hx hb dX6_ofBar_23 rfl (lv_at hl 2 rfl) ?_
      refine lv_iconst (v := 1) hx hb dX6_ofBar_24 (by decide) ?_
      refine lv_icmp_ne (tgt := 37) hx hb dX6_ofBar_25 (by decide) (fun c4 => ?_) (fun c4 => ?_)
      · have hw := hw.1 c4
        refine lv_iload_n hx hb dX6_ofBar_37 rfl (lv_at hl 2 rfl) ?_
        refine lv_iconst (v := 2) hx hb dX6_ofBar_38 (by decide) ?_
        refine lv_icmp_ne (tgt := 50) hx hb dX6_ofBar_39 (by decide) (fun c5 => ?_) (fun c5 => ?_)
        · have hw := hw.1 c5
          refine lv_bipush (v := (-2)) hx hb dX6_ofBar_50 (by decide) ?_
          exact lf_reti F hh hw dX6_ofBar_52
        · have hw := hw.2 c5
          refine lv_aload_n hx hb dX6_ofBar_42 rfl (lv_at hl 0 rfl) ?_
          refine lv_iload_n hx hb dX6_ofBar_43 rfl (lv_at hl 1 rfl) ?_
          refine lf_callVi (rest := []) F hh (cw_X6_93 F.1.2.2.2.2 ⟨Nat.le_of_ble_eq_true rfl, Nat.le_of_ble_eq_true rfl⟩) (c_X6_stuff l D ha cy H.size σ1 x1 _ hw) 0 6 rfl rfl rfl rfl hl.1 (Nat.le_of_ble_eq_true rfl) dX6_ofBar_44 rfl (fun r6 σ6 H locs hw hh => ?_)
          refine lv_goto (tgt := 52) hx hb dX6_ofBar_47 (by decide) ?_
          exact lf_reti F hh hw dX6_ofBar_52
      · have hw := hw.2 c4
        refine lv_aload_n hx hb dX6_ofBar_28 rfl (lv_at hl 0 rfl) ?_
        refine fg_X6_29 F hh dX6_ofBar_29 ?_
        refine lv_iload_n hx hb dX6_ofBar_32 rfl (lv_at hl 1 rfl) ?_
        obtain ⟨q7, hw⟩ := hw
        refine ra_M_8 F hh q7 dX6_ofBar_33 ?_
        refine lv_goto (tgt := 52) hx hb dX6_ofBar_34 (by decide) ?_
        exact lf_reti F hh hw dX6_ofBar_52
    · have hw := hw.2 c3
      refine lv_aload_n hx hb dX6_ofBar_14 rfl (lv_at hl 0 rfl) ?_
      refine fg_X6_26 F hh dX6_ofBar_15 ?_
      refine lv_iload_n hx hb dX6_ofBar_18 rfl (lv_at hl 1 rfl) ?_
      obtain ⟨q8, hw⟩ := hw
      refine ra_M_7 F hh q8 dX6_ofBar_19 ?_
      refine lv_goto (tgt := 52) hx hb dX6_ofBar_20 (by decide) ?_
      exact lf_reti F hh hw dX6_ofBar_52
  · have hw := hw.2 c2
    refine lv_iconst (v := (-1)) hx hb dX6_ofBar_8 (by decide) ?_
    exact lf_reti F hh hw dX6_ofBar_9
