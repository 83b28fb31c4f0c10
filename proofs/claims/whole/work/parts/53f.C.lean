def wp_X5_drop (σ : lf_St) (Post : Int32 → lf_St → Prop) : Prop := ((¬ (lf_gi σ 2) = 0) → (wp_X5_forgetAnswers σ (fun σ2 => ∀ σ3 : lf_St, σ3 = (lf_si σ2 2 ((lf_gi σ2 2) - 1)) → (Post (lf_gi σ3 2) σ3)))) ∧ (((lf_gi σ 2) = 0) → (Post (-1) σ))
def rm_X5_drop : Room := ({ frames := 1, cells := 0, slots := 0, locals := 20 } : Room)
set_option maxHeartbeats 4000000 in
set_option maxRecDepth 100000 in
theorem c_X5_drop (l : Launch) (D : va_G) (ha : Nat → Nat) (cy : Nat → ClassId) (sz : Nat) (σ : lf_St) (Post : Int32 → lf_St → Prop) (hw : wp_X5_drop σ Post) : lf_Mi l yX5_drop (lf_ws yX5_drop cX5_drop 1 (some .int)) rm_X5_drop D (tyC_ cy) (wC_ ha cy) sz σ [.ref (ha 0)] Post := by
  refine lf_ofi (by decide +kernel) (Nat.le_of_ble_eq_true rfl) ?_
  intro p e s m args below meth c A ls F hh hl
  have hx := F.1.1
  have hb := F.1.2.1
  have hl : lv_has ls 1 [(0, .ref (ha 0))] := hl
  obtain ⟨H, hHe⟩ : ∃ H, H = s.heap := ⟨_, rfl⟩
  rw [← hHe] at hh ⊢
  unfold wp_X5_drop at hw
  refine lv_aload_n hx hb dX5_drop_0 rfl (lv_at hl 0 rfl) ?_
  refine fg_X5_12 F hh dX5_drop_1 ?_
  refine fg_X5_59 F hh dX5_drop_4 ?_
  refine lv_if_ne (tgt := 12) hx hb dX5_drop_7 (by decide) (fun c1 => ?_) (fun c1 => ?_)
  · have hw := hw.1 c1
    refine lv_aload_n hx hb dX5_drop_12 rfl (lv_at hl 0 rfl) ?_
    refine lf_callVv (rest := []) F hh (cw_X5_49 F.1.2.2.2.2 ⟨Nat.le_of_ble_eq_true rfl, Nat.le_of_ble_eq_true rfl⟩) (c_X5_forgetAnswers l D ha cy H.size σ  _ hw) 0 5 rfl rfl rfl rfl hl.1 (Nat.le_of_ble_eq_true rfl) dX5_drop_13 rfl (fun σ2 H locs hw hh => ?_)
    refine lv_aload_n hx hb dX5_drop_16 rfl (lv_at hl 0 rfl) ?_
    refine fg_X5_12 F hh dX5_drop_17 ?_
    refine lv_dup hx hb dX5_drop_20 rfl ?_
    refine fg_X5_59 F hh dX5_drop_21 ?_
    refine lv_iconst (v := 1) hx hb dX5_drop_24 (by decide) ?_
    refine lv_isub hx hb dX5_drop_25 ?_
    refine fp_X5_59 F hh dX5_drop_26 (fun H locs hh => ?_)
    refine lv_aload_n hx hb dX5_drop_29 rfl (lv_at hl 0 rfl) ?_
    refine fg_X5_12 F hh dX5_drop_30 ?_
    obtain ⟨σ3, eσ3⟩ : ∃ z : lf_St, z = (lf_si σ2 2 ((lf_gi σ2 2) - 1)) := ⟨_, rfl⟩
    rw [← eσ3] at hh
    have hw := hw σ3 eσ3
    refine fg_X5_59 F hh dX5_drop_33 ?_
    exact lf_reti F hh hw dX5_drop_36
  · have hw := hw.2 c1
    refine lv_iconst (v := (-1)) hx hb dX5_drop_10 (by decide) ?_
    exact lf_reti F hh hw dX5_drop_11
theorem cw_X5_110 {R : Room} {s : State} {args : Array Value} (ht : ∀ w ∈ wsL_law, w.before args s = true) (hR : rm_X2_barsCross.frames + 1 ≤ R.frames ∧ 8 + (3 + 11) + rm_X2_barsCross.locals ≤ R.locals) : lf_cV R s args RX5 RX2 110 yX2_barsCross cX2_barsCross 3 (some .boolean) rm_X2_barsCross 2 :=
  lf_cV_of 2 ht (lr_13 _ (List.mem_of_getElem? (i := 1) rfl)) (lr_12 _ (List.mem_of_getElem? (i := 22) rfl)) (lr_12 _ (List.mem_of_getElem? (i := 23) rfl)) (lr_13 _ (List.mem_of_getElem? (i := 0) rfl)) (lr_1 _ (List.mem_of_getElem? (i := 14) rfl)) rfl rfl (by decide +kernel) hR
def wp_X5_cross (x1 : Int32) (x2 : Int32) (σ : lf_St) (Post : Int32 → lf_St → Prop) : Prop := wp_X2_hasBar x1 σ (fun r1 σ1 => ((r1 = 0) → (Post (-1) σ1)) ∧ ((¬ (r1 = 0)) → (wp_X2_hasBar x2 σ1 (fun r3 σ3 => ((r3 = 0) → (Post (-1) σ3)) ∧ ((¬ (r3 = 0)) → (((¬ x1 = x2) → (wp_X2_barsCross x1 x2 σ3 (fun r6 σ6 => ((r6 = 0) → (Post 0 σ6)) ∧ ((¬ (r6 = 0)) → (Post 1 σ6))))) ∧ ((x1 = x2) → (Post (-1) σ3))))))))
def rm_X5_cross : Room := ({ frames := 2, cells := 0, slots := 0, locals := 43 } : Room)
set_option maxHeartbeats 4000000 in
set_option maxRecDepth 100000 in
theorem c_X5_cross (l : Launch) (D : va_G) (ha : Nat → Nat) (cy : Nat → ClassId) (sz : Nat) (σ : lf_St) (x1 : Int32) (x2 : Int32) (Post : Int32 → lf_St → Prop) (hw : wp_X5_cross x1 x2 σ Post) : lf_Mi l yX5_cross (lf_ws yX5_cross cX5_cross 3 (some .int)) rm_X5_cross D (tyC_ cy) (wC_ ha cy) sz σ [.ref (ha 0), .int x1, .int x2] Post := by
  refine lf_ofi (by decide +kernel) (Nat.le_of_ble_eq_true rfl) ?_
  intro p e s m args below meth c A ls F hh hl
  have hx := F.1.1
  have hb := F.1.2.1
  have hl : lv_has ls 3 [(0, .ref (ha 0)), (1, .int x1), (2, .int x2)] := hl
  obtain ⟨H, hHe⟩ : ∃ H, H = s.heap := ⟨_, rfl⟩
  rw [← hHe] at hh ⊢
  unfold wp_X5_cross at hw
  refine lv_aload_n hx hb dX5_cross_0 rfl (lv_at hl 0 rfl) ?_
  refine fg_X5_12 F hh dX5_cross_1 ?_
  refine lv_iload_n hx hb dX5_cross_4 rfl (lv_at hl 1 rfl) ?_
  refine lf_callVi (rest := []) F hh (cw_X5_85 F.1.2.2.2.2 ⟨Nat.le_of_ble_eq_true rfl, Nat.le_of_ble_eq_true rfl⟩) (c_X2_hasBar l D ha cy H.size σ x1 _ hw) 1 2 rfl rfl rfl rfl hl.1 (Nat.le_of_ble_eq_true rfl) dX5_cross_5 rfl (fun r1 σ1 H locs hw hh => ?_)
  refine lv_if_eq (tgt := 27) hx hb dX5_cross_8 (by decide) (fun c2 => ?_) (fun c2 => ?_)
  · have hw := hw.1 c2
    refine lv_iconst (v := (-1)) hx hb dX5_cross_27 (by decide) ?_
    exact lf_reti F hh hw dX5_cross_28
  · have hw := hw.2 c2
    refine lv_aload_n hx hb dX5_cross_11 rfl (lv_at hl 0 rfl) ?_
    refine fg_X5_12 F hh dX5_cross_12 ?_
    refine lv_iload_n hx hb dX5_cross_15 rfl (lv_at hl 2 rfl) ?_
    refine lf_callVi (rest := []) F hh (cw_X5_85 F.1.2.2.2.2 ⟨Nat.le_of_ble_eq_true rfl, Nat.le_of_ble_eq_true rfl⟩) (c_X2_hasBar l D ha cy H.size σ1 x2 _ hw) 1 2 rfl rfl rfl rfl hl.1 (Nat.le_of_ble_eq_true rfl) dX5_cross_16 rfl (fun r3 σ3 H locs hw hh => ?_)
    refine lv_if_eq (tgt := 27) hx hb dX5_cross_19 (by decide) (fun c4 => ?_) (fun c4 => ?_)
    · have hw := hw.1 c4
      refine lv_iconst (v := (-1)) hx hb dX5_cross_27 (by decide) ?_
      exact lf_reti F hh hw dX5_cross_28
    · have hw := hw.2 c4
      refine lv_iload_n hx hb dX5_cross_22 rfl (lv_at hl 1 rfl) ?_
      refine lv_iload_n hx hb dX5_cross_23 rfl (lv_at hl 2 rfl) ?_
      refine lv_icmp_ne (tgt := 29) hx hb dX5_cross_24 (by decide) (fun c5 => ?_) (fun c5 => ?_)
      · have hw := hw.1 c5
        refine lv_aload_n hx hb dX5_cross_29 rfl (lv_at hl 0 rfl) ?_
        refine fg_X5_12 F hh dX5_cross_30 ?_
        refine lv_iload_n hx hb dX5_cross_33 rfl (lv_at hl 1 rfl) ?_
        refine lv_iload_n hx hb dX5_cross_34 rfl (lv_at hl 2 rfl) ?_
        refine lf_callVi (rest := []) F hh (cw_X5_110 F.1.2.2.2.2 ⟨Nat.le_of_ble_eq_true rfl, Nat.le_of_ble_eq_true rfl⟩) (c_X2_barsCross l D ha cy H.size σ3 x1 x2 _ hw) 1 2 rfl rfl rfl rfl hl.1 (Nat.le_of_ble_eq_true rfl) dX5_cross_35 rfl (fun r6 σ6 H locs hw hh => ?_)
        refine lv_if_eq (tgt := 45) hx hb dX5_cross_38 (by decide) (fun c7 => ?_) (fun c7 => ?_)
        · have hw := hw.1 c7
          refine lv_iconst (v := 0) hx hb dX5_cross_45 (by decide) ?_
          exact lf_reti F hh hw dX5_cross_46
        · have hw := hw.2 c7
          refine lv_iconst (v := 1) hx hb dX5_cross_41 (by decide) ?_
          refine lv_goto (tgt := 46) hx hb dX5_cross_42 (by decide) ?_
          exact lf_reti F hh hw dX5_cross_46
      · have hw := hw.2 c5
        refine lv_iconst (v := (-1)) hx hb dX5_cross_27 (by decide) ?_
        exact lf_reti F hh hw dX5_cross_28
theorem cw_X5_113 {R : Room} {s : State} {args : Array Value} (ht : ∀ w ∈ wsL_law, w.before args s = true) (hR : rm_X4_run.frames + 1 ≤ R.frames ∧ 8 + (2 + 11) + rm_X4_run.locals ≤ R.locals) : lf_cV R s args RX5 RX4 113 yX4_run cX4_run 2 none rm_X4_run 0 :=
  lf_cV_of 0 ht (lr_14 _ (List.mem_of_getElem? (i := 1) rfl)) (lr_13 _ (List.mem_of_getElem? (i := 22) rfl)) (lr_13 _ (List.mem_of_getElem? (i := 23) rfl)) (lr_14 _ (List.mem_of_getElem? (i := 0) rfl)) (lr_1 _ (List.mem_of_getElem? (i := 18) rfl)) rfl rfl (by decide +kernel) hR
theorem cw_X5_116 {R : Room} {s : State} {args : Array Value} (ht : ∀ w ∈ wsL_law, w.before args s = true) (hR : rm_X4_hasChoiceIn.frames + 1 ≤ R.frames ∧ 8 + (3 + 11) + rm_X4_hasChoiceIn.locals ≤ R.locals) : lf_cV R s args RX5 RX4 116 yX4_hasChoiceIn cX4_hasChoiceIn 3 (some .boolean) rm_X4_hasChoiceIn 1 :=
  lf_cV_of 1 ht (lr_20 _ (List.mem_of_getElem? (i := 6) rfl)) (lr_20 _ (List.mem_of_getElem? (i := 3) rfl)) (lr_20 _ (List.mem_of_getElem? (i := 4) rfl)) (lr_20 _ (List.mem_of_getElem? (i := 5) rfl)) (lr_1 _ (List.mem_of_getElem? (i := 18) rfl)) rfl rfl (by decide +kernel) hR
def wp_X5_stiff (x1 : Int32) (σ : lf_St) (Post : Int32 → lf_St → Prop) : Prop := ((x1 < 0) → (Post (-2) σ)) ∧ ((¬ (x1 < 0)) → (((x1 < (1 <<< ((lf_gi σ 2) &&& 31))) → (wp_X4_run σ (fun σ3 => wp_X4_hasChoiceIn x1 σ3 (fun r4 σ4 => ((r4 = 0) → (Post 0 σ4)) ∧ ((¬ (r4 = 0)) → (Post 1 σ4)))))) ∧ ((¬ (x1 < (1 <<< ((lf_gi σ 2) &&& 31)))) → (Post (-2) σ))))
def rm_X5_stiff : Room := ({ frames := 6, cells := 0, slots := 0, locals := 136 } : Room)
set_option maxHeartbeats 4000000 in
set_option maxRecDepth 100000 in
theorem c_X5_stiff (l : Launch) (D : va_G) (ha : Nat → Nat) (cy : Nat → ClassId) (sz : Nat) (σ : lf_St) (x1 : Int32) (Post : Int32 → lf_St → Prop) (hw : wp_X5_stiff x1 σ Post) : lf_Mi l yX5_stiff (lf_ws yX5_stiff cX5_stiff 2 (some .int)) rm_X5_stiff D (tyC_ cy) (wC_ ha cy) sz σ [.ref (ha 0), .int x1] Post := by
  refine lf_ofi (by decide +kernel) (Nat.le_of_ble_eq_true rfl) ?_
  intro p e s m args below meth c A ls F hh hl
  have hx := F.1.1
  have hb := F.1.2.1
  have hl : lv_has ls 2 [(0, .ref (ha 0)), (1, .int x1)] := hl
  obtain ⟨H, hHe⟩ : ∃ H, H = s.heap := ⟨_, rfl⟩
  rw [← hHe] at hh ⊢
  unfold wp_X5_stiff at hw
  refine lv_iload_n hx hb dX5_stiff_0 rfl (lv_at hl 1 rfl) ?_
  refine lv_if_lt (tgt := 17) hx hb dX5_stiff_1 (by decide) (fun c1 => ?_) (fun c1 => ?_)
  · have hw := hw.1 c1
    refine lv_bipush (v := (-2)) hx hb dX5_stiff_17 (by decide) ?_
    exact lf_reti F hh hw dX5_stiff_19
  · have hw := hw.2 c1
    refine lv_iload_n hx hb dX5_stiff_4 rfl (lv_at hl 1 rfl) ?_
    refine lv_iconst (v := 1) hx hb dX5_stiff_5 (by decide) ?_
    refine lv_aload_n hx hb dX5_stiff_6 rfl (lv_at hl 0 rfl) ?_
    refine fg_X5_12 F hh dX5_stiff_7 ?_
    refine fg_X5_59 F hh dX5_stiff_10 ?_
    refine lv_ishl hx hb dX5_stiff_13 ?_
    refine lv_icmp_lt (tgt := 20) hx hb dX5_stiff_14 (by decide) (fun c2 => ?_) (fun c2 => ?_)
    · have hw := hw.1 c2
      refine lv_aload_n hx hb dX5_stiff_20 rfl (lv_at hl 0 rfl) ?_
      refine fg_X5_21 F hh dX5_stiff_21 ?_
      refine lf_callVv (rest := []) F hh (cw_X5_113 F.1.2.2.2.2 ⟨Nat.le_of_ble_eq_true rfl, Nat.le_of_ble_eq_true rfl⟩) (c_X4_run l D ha cy H.size σ  _ hw) 13 4 rfl rfl rfl rfl hl.1 (Nat.le_of_ble_eq_true rfl) dX5_stiff_24 rfl (fun σ3 H locs hw hh => ?_)
      refine lv_aload_n hx hb dX5_stiff_27 rfl (lv_at hl 0 rfl) ?_
      refine fg_X5_21 F hh dX5_stiff_28 ?_
      refine lv_iload_n hx hb dX5_stiff_31 rfl (lv_at hl 1 rfl) ?_
      refine lf_callVi (rest := []) F hh (cw_X5_116 F.1.2.2.2.2 ⟨Nat.le_of_ble_eq_true rfl, Nat.le_of_ble_eq_true rfl⟩) (c_X4_hasChoiceIn l D ha cy H.size σ3 x1 _ hw) 13 4 rfl rfl rfl rfl hl.1 (Nat.le_of_ble_eq_true rfl) dX5_stiff_32 rfl (fun r4 σ4 H locs hw hh => ?_)
      refine lv_if_eq (tgt := 42) hx hb dX5_stiff_35 (by decide) (fun c5 => ?_) (fun c5 => ?_)
      · have hw := hw.1 c5
        refine lv_iconst (v := 0) hx hb dX5_stiff_42 (by decide) ?_
        exact lf_reti F hh hw dX5_stiff_43
      · have hw := hw.2 c5
        refine lv_iconst (v := 1) hx hb dX5_stiff_38 (by decide) ?_
        refine lv_goto (tgt := 43) hx hb dX5_stiff_39 (by decide) ?_
        exact lf_reti F hh hw dX5_stiff_43
    · have hw := hw.2 c2
      refine lv_bipush (v := (-2)) hx hb dX5_stiff_17 (by decide) ?_
      exact lf_reti F hh hw dX5_stiff_19
def wp_X5_choices (σ : lf_St) (Post : Int32 → lf_St → Prop) : Prop := wp_X4_run σ (fun σ1 => Post (lf_gi σ1 5) σ1)
def rm_X5_choices : Room := ({ frames := 6, cells := 0, slots := 0, locals := 136 } : Room)
set_option maxHeartbeats 4000000 in
set_option maxRecDepth 100000 in
theorem c_X5_choices (l : Launch) (D : va_G) (ha : Nat → Nat) (cy : Nat → ClassId) (sz : Nat) (σ : lf_St) (Post : Int32 → lf_St → Prop) (hw : wp_X5_choices σ Post) : lf_Mi l yX5_choices (lf_ws yX5_choices cX5_choices 1 (some .int)) rm_X5_choices D (tyC_ cy) (wC_ ha cy) sz σ [.ref (ha 0)] Post := by
  refine lf_ofi (by decide +kernel) (Nat.le_of_ble_eq_true rfl) ?_
  intro p e s m args below meth c A ls F hh hl
  have hx := F.1.1
  have hb := F.1.2.1
  have hl : lv_has ls 1 [(0, .ref (ha 0))] := hl
  obtain ⟨H, hHe⟩ : ∃ H, H = s.heap := ⟨_, rfl⟩
  rw [← hHe] at hh ⊢
  unfold wp_X5_choices at hw
  refine lv_aload_n hx hb dX5_choices_0 rfl (lv_at hl 0 rfl) ?_
  refine fg_X5_21 F hh dX5_choices_1 ?_
  refine lf_callVv (rest := []) F hh (cw_X5_113 F.1.2.2.2.2 ⟨Nat.le_of_ble_eq_true rfl, Nat.le_of_ble_eq_true rfl⟩) (c_X4_run l D ha cy H.size σ  _ hw) 13 4 rfl rfl rfl rfl hl.1 (Nat.le_of_ble_eq_true rfl) dX5_choices_4 rfl (fun σ1 H locs hw hh => ?_)
  refine lv_aload_n hx hb dX5_choices_7 rfl (lv_at hl 0 rfl) ?_
  refine fg_X5_21 F hh dX5_choices_8 ?_
  refine fg_X5_119 F hh dX5_choices_11 ?_
  exact lf_reti F hh hw dX5_choices_14
def wp_X5_isKind (x0 : Int32) (σ : lf_St) (Post : Int32 → lf_St → Prop) : Prop := ((x0 < 0) → (Post 0 σ)) ∧ ((¬ (x0 < 0)) → (((4 ≤ x0) → (Post 0 σ)) ∧ ((¬ (4 ≤ x0)) → (Post 1 σ))))
def rm_X5_isKind : Room := ({ frames := 0, cells := 0, slots := 0, locals := 0 } : Room)
set_option maxHeartbeats 4000000 in
set_option maxRecDepth 100000 in
theorem c_X5_isKind (l : Launch) (D : va_G) (ha : Nat → Nat) (cy : Nat → ClassId) (sz : Nat) (σ : lf_St) (x0 : Int32) (Post : Int32 → lf_St → Prop) (hw : wp_X5_isKind x0 σ Post) : lf_Mi l yX5_isKind (lf_ws yX5_isKind cX5_isKind 1 (some .boolean)) rm_X5_isKind D (tyC_ cy) (wC_ ha cy) sz σ [.int x0] Post := by
  refine lf_ofi (by decide +kernel) (Nat.le_of_ble_eq_true rfl) ?_
  intro p e s m args below meth c A ls F hh hl
  have hx := F.1.1
  have hb := F.1.2.1
  have hl : lv_has ls 1 [(0, .int x0)] := hl
  obtain ⟨H, hHe⟩ : ∃ H, H = s.heap := ⟨_, rfl⟩
  rw [← hHe] at hh ⊢
  unfold wp_X5_isKind at hw
  refine lv_iload_n hx hb dX5_isKind_0 rfl (lv_at hl 0 rfl) ?_
  refine lv_if_lt (tgt := 13) hx hb dX5_isKind_1 (by decide) (fun c1 => ?_) (fun c1 => ?_)
  · have hw := hw.1 c1
    refine lv_iconst (v := 0) hx hb dX5_isKind_13 (by decide) ?_
    exact lf_retz F hh rfl hw dX5_isKind_14
  · have hw := hw.2 c1
    refine lv_iload_n hx hb dX5_isKind_4 rfl (lv_at hl 0 rfl) ?_
    refine lv_iconst (v := 4) hx hb dX5_isKind_5 (by decide) ?_
    refine lv_icmp_ge (tgt := 13) hx hb dX5_isKind_6 (by decide) (fun c2 => ?_) (fun c2 => ?_)
    · have hw := hw.1 c2
      refine lv_iconst (v := 0) hx hb dX5_isKind_13 (by decide) ?_
      exact lf_retz F hh rfl hw dX5_isKind_14
    · have hw := hw.2 c2
      refine lv_iconst (v := 1) hx hb dX5_isKind_9 (by decide) ?_
      refine lv_goto (tgt := 14) hx hb dX5_isKind_10 (by decide) ?_
      exact lf_retz F hh rfl hw dX5_isKind_14
theorem cw_X5_122 {R : Room} {s : State} {args : Array Value} (ht : ∀ w ∈ wsL_law, w.before args s = true) (hR : rm_X5_isKind.frames + 1 ≤ R.frames ∧ 8 + (1 + 11) + rm_X5_isKind.locals ≤ R.locals) : lf_cS R s args RX5 122 yX5_isKind cX5_isKind 1 (some .boolean) rm_X5_isKind 1 :=
  lf_cS_of 1 ht (lr_22 _ (List.mem_of_getElem? (i := 6) rfl)) (lr_22 _ (List.mem_of_getElem? (i := 4) rfl)) (lr_22 _ (List.mem_of_getElem? (i := 5) rfl)) (lr_1 _ (List.mem_of_getElem? (i := 2) rfl)) rfl rfl (by decide +kernel) hR
theorem cw_X5_125 {R : Room} {s : State} {args : Array Value} (ht : ∀ w ∈ wsL_law, w.before args s = true) (hR : rm_X4_frameOf.frames + 1 ≤ R.frames ∧ 8 + (2 + 11) + rm_X4_frameOf.locals ≤ R.locals) : lf_cV R s args RX5 RX4 125 yX4_frameOf cX4_frameOf 2 (some (.object "LightFrame$Frame")) rm_X4_frameOf 1 :=
  lf_cV_of 1 ht (lr_22 _ (List.mem_of_getElem? (i := 10) rfl)) (lr_22 _ (List.mem_of_getElem? (i := 7) rfl)) (lr_22 _ (List.mem_of_getElem? (i := 8) rfl)) (lr_22 _ (List.mem_of_getElem? (i := 9) rfl)) (lr_1 _ (List.mem_of_getElem? (i := 18) rfl)) rfl rfl (by decide +kernel) hR
def wp_X5_frame (x1 : Int32) (σ : lf_St) (Post : Int32 → lf_St → Prop) : Prop := wp_X5_isKind x1 σ (fun r1 σ1 => ((¬ r1 = 0) → (wp_X4_frameOf x1 σ1 (fun σ3 => vp_in x1 4 ∧ ((((lf_gi σ3 (20 + x1.toNatClampNeg)) = 0) → (Post (-6) σ3)) ∧ ((¬ ((lf_gi σ3 (20 + x1.toNatClampNeg)) = 0)) → (Post (lf_gi σ3 (30 + x1.toNatClampNeg)) σ3)))))) ∧ ((r1 = 0) → (Post (-2) σ1)))
def rm_X5_frame : Room := ({ frames := 7, cells := 0, slots := 0, locals := 157 } : Room)
set_option maxHeartbeats 4000000 in
set_option maxRecDepth 100000 in
theorem c_X5_frame (l : Launch) (D : va_G) (ha : Nat → Nat) (cy : Nat → ClassId) (sz : Nat) (σ : lf_St) (x1 : Int32) (Post : Int32 → lf_St → Prop) (hw : wp_X5_frame x1 σ Post) : lf_Mi l yX5_frame (lf_ws yX5_frame cX5_frame 3 (some .int)) rm_X5_frame D (tyC_ cy) (wC_ ha cy) sz σ [.ref (ha 0), .int x1] Post := by
  refine lf_ofi (by decide +kernel) (Nat.le_of_ble_eq_true rfl) ?_
  intro p e s m args below meth c A ls F hh hl
  have hx := F.1.1
  have hb := F.1.2.1
  have hl : lv_has ls 3 [(0, .ref (ha 0)), (1, .int x1)] := hl
  obtain ⟨H, hHe⟩ : ∃ H, H = s.heap := ⟨_, rfl⟩
  rw [← hHe] at hh ⊢
  unfold wp_X5_frame at hw
  refine lv_iload_n hx hb dX5_frame_0 rfl (lv_at hl 1 rfl) ?_
  refine lf_callSi (rest := []) F hh (cw_X5_122 F.1.2.2.2.2 ⟨Nat.le_of_ble_eq_true rfl, Nat.le_of_ble_eq_true rfl⟩) (c_X5_isKind l D ha cy H.size σ x1 _ hw) rfl hl.1 (Nat.le_of_ble_eq_true rfl) dX5_frame_1 rfl (fun r1 σ1 H locs hw hh => ?_)
  refine lv_if_ne (tgt := 10) hx hb dX5_frame_4 (by decide) (fun c2 => ?_) (fun c2 => ?_)
  · have hw := hw.1 c2
    refine lv_aload_n hx hb dX5_frame_10 rfl (lv_at hl 0 rfl) ?_
    refine fg_X5_21 F hh dX5_frame_11 ?_
    refine lv_iload_n hx hb dX5_frame_14 rfl (lv_at hl 1 rfl) ?_
    refine lf_callVr (rest := []) F hh (cw_X5_125 F.1.2.2.2.2 ⟨Nat.le_of_ble_eq_true rfl, Nat.le_of_ble_eq_true rfl⟩) (c_X4_frameOf l D ha cy H.size σ1 x1 _ hw) 13 4 rfl rfl rfl rfl hl.1 (Nat.le_of_ble_eq_true rfl) dX5_frame_15 rfl (fun σ3 H locs hw hh => ?_)
    obtain ⟨q4, hw⟩ := hw
    refine lv_astore_n (lv' := [(2, .ref (ha (22 + x1.toNatClampNeg))), (0, .ref (ha 0)), (1, .int x1)]) hx hb dX5_frame_18 rfl hl (by decide) rfl (fun ls hl => ?_)
    refine lv_aload_n hx hb dX5_frame_19 rfl (lv_at hl 0 rfl) ?_
    refine fg_X5_129 F hh (x1.toNatClampNeg) (lf_in5 q4) dX5_frame_20 ?_
    refine lv_if_eq (tgt := 33) hx hb dX5_frame_23 (by decide) (fun c5 => ?_) (fun c5 => ?_)
    · have hw := hw.1 c5
      refine lv_bipush (v := (-6)) hx hb dX5_frame_33 (by decide) ?_
      exact lf_reti F hh hw dX5_frame_35
    · have hw := hw.2 c5
      refine lv_aload_n hx hb dX5_frame_26 rfl (lv_at hl 0 rfl) ?_
      refine fg_X5_135 F hh (x1.toNatClampNeg) (lf_in5 q4) dX5_frame_27 ?_
      refine lv_goto (tgt := 35) hx hb dX5_frame_30 (by decide) ?_
      exact lf_reti F hh hw dX5_frame_35
  · have hw := hw.2 c2
    refine lv_bipush (v := (-2)) hx hb dX5_frame_7 (by decide) ?_
    exact lf_reti F hh hw dX5_frame_9
def wp_X5_isPart (x0 : Int32) (σ : lf_St) (Post : Int32 → lf_St → Prop) : Prop := ((x0 = 0) → (Post 1 σ)) ∧ ((¬ (x0 = 0)) → (((¬ x0 = 1) → (Post 0 σ)) ∧ ((x0 = 1) → (Post 1 σ))))
def rm_X5_isPart : Room := ({ frames := 0, cells := 0, slots := 0, locals := 0 } : Room)
set_option maxHeartbeats 4000000 in
set_option maxRecDepth 100000 in
theorem c_X5_isPart (l : Launch) (D : va_G) (ha : Nat → Nat) (cy : Nat → ClassId) (sz : Nat) (σ : lf_St) (x0 : Int32) (Post : Int32 → lf_St → Prop) (hw : wp_X5_isPart x0 σ Post) : lf_Mi l yX5_isPart (lf_ws yX5_isPart cX5_isPart 1 (some .boolean)) rm_X5_isPart D (tyC_ cy) (wC_ ha cy) sz σ [.int x0] Post := by
  refine lf_ofi (by decide +kernel) (Nat.le_of_ble_eq_true rfl) ?_
  intro p e s m args below meth c A ls F hh hl
  have hx := F.1.1
  have hb := F.1.2.1
  have hl : lv_has ls 1 [(0, .int x0)] := hl
  obtain ⟨H, hHe⟩ : ∃ H, H = s.heap := ⟨_, rfl⟩
  rw [← hHe] at hh ⊢
  unfold wp_X5_isPart at hw
  refine lv_iload_n hx hb dX5_isPart_0 rfl (lv_at hl 0 rfl) ?_
  refine lv_if_eq (tgt := 9) hx hb dX5_isPart_1 (by decide) (fun c1 => ?_) (fun c1 => ?_)
  · have hw := hw.1 c1
    refine lv_iconst (v := 1) hx hb dX5_isPart_9 (by decide) ?_
    refine lv_goto (tgt := 14) hx hb dX5_isPart_10 (by decide) ?_
    exact lf_retz F hh rfl hw dX5_isPart_14
  · have hw := hw.2 c1
    refine lv_iload_n hx hb dX5_isPart_4 rfl (lv_at hl 0 rfl) ?_
    refine lv_iconst (v := 1) hx hb dX5_isPart_5 (by decide) ?_
    refine lv_icmp_ne (tgt := 13) hx hb dX5_isPart_6 (by decide) (fun c2 => ?_) (fun c2 => ?_)
    · have hw := hw.1 c2
      refine lv_iconst (v := 0) hx hb dX5_isPart_13 (by decide) ?_
      exact lf_retz F hh rfl hw dX5_isPart_14
    · have hw := hw.2 c2
      refine lv_iconst (v := 1) hx hb dX5_isPart_9 (by decide) ?_
      refine lv_goto (tgt := 14) hx hb dX5_isPart_10 (by decide) ?_
      exact lf_retz F hh rfl hw dX5_isPart_14
def L_X5_commonDivisor_9 (Post : Int64 → lf_St → Prop) : Nat → Int64 → Int64 → Int32 → lf_St → Prop
  | 0, _, _, _, _ => False
  | n + 1, x4, x6, x8, σ => ((200 ≤ x8) → (Post x4 σ)) ∧ ((¬ (200 ≤ x8)) → (((x6 = 0) → (Post x4 σ)) ∧ ((¬ (x6 = 0)) → ((¬ x6 = 0) ∧ (∀ v4 : Int64, v4 = (x4 - x4 / x6 * x6) → (∀ v5 : Int32, v5 = x8 + 1 → (L_X5_commonDivisor_9 Post n x6 v4 v5 σ)))))))
def wp_X5_commonDivisor (x0 : Int64) (x2 : Int64) (σ : lf_St) (Post : Int64 → lf_St → Prop) : Prop := ∃ fu : Nat, L_X5_commonDivisor_9 Post fu x0 x2 0 σ
def rm_X5_commonDivisor : Room := ({ frames := 0, cells := 0, slots := 0, locals := 0 } : Room)
set_option maxHeartbeats 4000000 in
set_option maxRecDepth 100000 in
theorem w_X5_commonDivisor_9 {p : Program} {l : Launch} {e : Env} {s : State} {m : MethodId} {args : Array Value} {below : List Frame} {meth : Method} {c : Code} {D : va_G} {A : Nat → Prop} {ha : Nat → Nat} {cy : Nat → ClassId} (Post : Int64 → lf_St → Prop) (F : lf_C p s m args meth c RX5 cX5_commonDivisor 11 (some .long) D (tyC_ cy) A) : ∀ (n : Nat) (x4 : Int64) (x6 : Int64) (x8 : Int32) (σ : lf_St) (H : Heap) (locs : List Loc) (ls : Array Slot), lf_H D (wC_ ha cy) A s σ H locs → lv_has ls 11 [(4, .long x4), (6, .long x6), (8, .int x8)] → L_X5_commonDivisor_9 Post n x4 x6 x8 σ → W p l e rm_X5_commonDivisor s m args below meth c H locs 0 0 (lf_Ql below args s D (tyC_ cy) A (wC_ ha cy) Post) (F0 m 9 ls []) := by
  have hx := F.1.1
  have hb := F.1.2.1
  intro n
  induction n with
  | zero =>
    intro x4 x6 x8 σ H locs ls hh hl hw
    exact False.elim hw
  | succ n ih =>
    intro x4 x6 x8 σ H locs ls hh hl hw
    unfold L_X5_commonDivisor_9 at hw
    refine lv_iload hx hb dX5_commonDivisor_9 (lv_at hl 2 rfl) ?_
    refine lv_sipush (v := 200) hx hb dX5_commonDivisor_11 (by decide) ?_
    refine lv_icmp_ge (tgt := 45) hx hb dX5_commonDivisor_14 (by decide) (fun c1 => ?_) (fun c1 => ?_)
    · have hw := hw.1 c1
      refine lv_lload hx hb dX5_commonDivisor_45 (lv_at hl 0 rfl) ?_
      exact lf_retl F hh hw dX5_commonDivisor_47
    · have hw := hw.2 c1
      refine lv_lload hx hb dX5_commonDivisor_17 (lv_at hl 1 rfl) ?_
      refine lv_lconst (v := 0) hx hb dX5_commonDivisor_19 (by decide) ?_
      refine lf_lcmp_eq (tgt := 45) hx hb dX5_commonDivisor_20 dX5_commonDivisor_21 (by decide) (fun c2 => ?_) (fun c2 => ?_)
      · have hw := hw.1 c2
        refine lv_lload hx hb dX5_commonDivisor_45 (lv_at hl 0 rfl) ?_
        exact lf_retl F hh hw dX5_commonDivisor_47
      · have hw := hw.2 c2
        refine lv_lload hx hb dX5_commonDivisor_24 (lv_at hl 0 rfl) ?_
        refine lv_lload hx hb dX5_commonDivisor_26 (lv_at hl 1 rfl) ?_
        obtain ⟨q3, hw⟩ := hw
        refine lv_lrem hx hb dX5_commonDivisor_28 q3 ?_
        refine lv_topl (fun v4 ev4 => ?_)
        have hw := hw v4 ev4
        refine lv_lstore (lv' := [(9, .long v4), (4, .long x4), (6, .long x6), (8, .int x8)]) hx hb dX5_commonDivisor_29 hl (by decide) rfl (fun ls hl => ?_)
        refine lv_lload hx hb dX5_commonDivisor_31 (lv_at hl 2 rfl) ?_
        refine lv_lstore (lv' := [(4, .long x6), (9, .long v4), (6, .long x6), (8, .int x8)]) hx hb dX5_commonDivisor_33 hl (by decide) rfl (fun ls hl => ?_)
        refine lv_lload hx hb dX5_commonDivisor_35 (lv_at hl 1 rfl) ?_
        refine lv_lstore (lv' := [(6, .long v4), (4, .long x6), (9, .long v4), (8, .int x8)]) hx hb dX5_commonDivisor_37 hl (by decide) rfl (fun ls hl => ?_)
        obtain ⟨v5, ev5⟩ : ∃ y : Int32, y = x8 + 1 := ⟨_, rfl⟩
        have hw := hw v5 ev5
        refine lv_iinc (v := v5) (lv' := [(8, .int v5), (6, .long v4), (4, .long x6), (9, .long v4)]) hx hb dX5_commonDivisor_39 hl (k := 3) rfl (by rw [ev5]; rfl) (by decide) rfl (fun ls hl => ?_)
        refine lv_goto (tgt := 9) hx hb dX5_commonDivisor_42 (by decide) ?_
        exact ih x6 v4 v5 σ _ _ _ hh (lv_sub hl [2, 1, 0] rfl) hw
set_option maxHeartbeats 4000000 in
set_option maxRecDepth 100000 in
theorem c_X5_commonDivisor (l : Launch) (D : va_G) (ha : Nat → Nat) (cy : Nat → ClassId) (sz : Nat) (σ : lf_St) (x0 : Int64) (x2 : Int64) (Post : Int64 → lf_St → Prop) (hw : wp_X5_commonDivisor x0 x2 σ Post) : lf_Ml l yX5_commonDivisor (lf_ws yX5_commonDivisor cX5_commonDivisor 11 (some .long)) rm_X5_commonDivisor D (tyC_ cy) (wC_ ha cy) sz σ [.long x0, .long x2] Post := by
  refine lf_ofl (by decide +kernel) (Nat.le_of_ble_eq_true rfl) ?_
  intro p e s m args below meth c A ls F hh hl
  have hx := F.1.1
  have hb := F.1.2.1
  have hl : lv_has ls 11 [(0, .long x0), (2, .long x2)] := hl
  obtain ⟨H, hHe⟩ : ∃ H, H = s.heap := ⟨_, rfl⟩
  rw [← hHe] at hh ⊢
  unfold wp_X5_commonDivisor at hw
  refine lv_lload_n hx hb dX5_commonDivisor_0 rfl (lv_at hl 0 rfl) ?_
  refine lv_lstore (lv' := [(4, .long x0), (0, .long x0), (2, .long x2)]) hx hb dX5_commonDivisor_1 hl (by decide) rfl (fun ls hl => ?_)
  refine lv_lload_n hx hb dX5_commonDivisor_3 rfl (lv_at hl 2 rfl) ?_
  refine lv_lstore (lv' := [(6, .long x2), (4, .long x0), (0, .long x0), (2, .long x2)]) hx hb dX5_commonDivisor_4 hl (by decide) rfl (fun ls hl => ?_)
  refine lv_iconst (v := 0) hx hb dX5_commonDivisor_6 (by decide) ?_
  refine lv_istore (lv' := [(8, .int 0), (6, .long x2), (4, .long x0), (0, .long x0), (2, .long x2)]) hx hb dX5_commonDivisor_7 hl (by decide) rfl (fun ls hl => ?_)
  obtain ⟨n9, hw⟩ := hw
  exact w_X5_commonDivisor_9 Post F  n9 x0 x2 0 σ _ _ _ hh (lv_sub hl [2, 1, 0] rfl) hw
theorem cw_X5_199 {R : Room} {s : State} {args : Array Value} (ht : ∀ w ∈ wsL_law, w.before args s = true) (hR : rm_X5_commonDivisor.frames + 1 ≤ R.frames ∧ 8 + (11 + 11) + rm_X5_commonDivisor.locals ≤ R.locals) : lf_cS R s args RX5 199 yX5_commonDivisor cX5_commonDivisor 11 (some .long) rm_X5_commonDivisor 2 :=
  lf_cS_of 2 ht (lr_24 _ (List.mem_of_getElem? (i := 14) rfl)) (lr_24 _ (List.mem_of_getElem? (i := 12) rfl)) (lr_24 _ (List.mem_of_getElem? (i := 13) rfl)) (lr_1 _ (List.mem_of_getElem? (i := 2) rfl)) rfl rfl (by decide +kernel) hR
def wp_X5_partOf (x0 : Int64) (x2 : Int64) (x4 : Int32) (σ : lf_St) (Post : Int64 → lf_St → Prop) : Prop := wp_X5_commonDivisor (lf_abs x0) x2 σ (fun r1 σ1 => ((¬ r1 = 0) → (((¬ x4 = 0) → ((¬ r1 = 0) ∧ (Post (x2 / r1) σ1))) ∧ ((x4 = 0) → ((¬ r1 = 0) ∧ (Post (x0 / r1) σ1))))) ∧ ((r1 = 0) → (Post 0 σ1)))
def rm_X5_partOf : Room := ({ frames := 1, cells := 0, slots := 0, locals := 30 } : Room)
set_option maxHeartbeats 4000000 in
set_option maxRecDepth 100000 in
theorem c_X5_partOf (l : Launch) (D : va_G) (ha : Nat → Nat) (cy : Nat → ClassId) (sz : Nat) (σ : lf_St) (x0 : Int64) (x2 : Int64) (x4 : Int32) (Post : Int64 → lf_St → Prop) (hw : wp_X5_partOf x0 x2 x4 σ Post) : lf_Ml l yX5_partOf (lf_ws yX5_partOf cX5_partOf 7 (some .long)) rm_X5_partOf D (tyC_ cy) (wC_ ha cy) sz σ [.long x0, .long x2, .int x4] Post := by
  refine lf_ofl (by decide +kernel) (Nat.le_of_ble_eq_true rfl) ?_
  intro p e s m args below meth c A ls F hh hl
  have hx := F.1.1
  have hb := F.1.2.1
  have hl : lv_has ls 7 [(0, .long x0), (2, .long x2), (4, .int x4)] := hl
  obtain ⟨H, hHe⟩ : ∃ H, H = s.heap := ⟨_, rfl⟩
  rw [← hHe] at hh ⊢
  unfold wp_X5_partOf at hw
  refine lv_lload_n hx hb dX5_partOf_0 rfl (lv_at hl 0 rfl) ?_
  refine ms_X5_193 (rest := []) F hl.1 (Nat.le_of_ble_eq_true rfl) (Nat.le_of_ble_eq_true rfl) dX5_partOf_1 ?_
  refine lv_lload_n hx hb dX5_partOf_4 rfl (lv_at hl 1 rfl) ?_
  refine lf_callSl (rest := []) F hh (cw_X5_199 F.1.2.2.2.2 ⟨Nat.le_of_ble_eq_true rfl, Nat.le_of_ble_eq_true rfl⟩) (c_X5_commonDivisor l D ha cy H.size σ (lf_abs x0) x2 _ hw) rfl hl.1 (Nat.le_of_ble_eq_true rfl) dX5_partOf_5 rfl (fun r1 σ1 H locs hw hh => ?_)
  refine lv_lstore (lv' := [(5, .long r1), (0, .long x0), (2, .long x2), (4, .int x4)]) hx hb dX5_partOf_8 hl (by decide) rfl (fun ls hl => ?_)
  refine lv_lload hx hb dX5_partOf_10 (lv_at hl 0 rfl) ?_
  refine lv_lconst (v := 0) hx hb dX5_partOf_12 (by decide) ?_
  refine lf_lcmp_ne (tgt := 19) hx hb dX5_partOf_13 dX5_partOf_14 (by decide) (fun c2 => ?_) (fun c2 => ?_)
  · have hw := hw.1 c2
    refine lv_iload hx hb dX5_partOf_19 (lv_at hl 3 rfl) ?_
    refine lv_if_ne (tgt := 31) hx hb dX5_partOf_21 (by decide) (fun c3 => ?_) (fun c3 => ?_)
    · have hw := hw.1 c3
      refine lv_lload_n hx hb dX5_partOf_31 rfl (lv_at hl 2 rfl) ?_
      refine lv_lload hx hb dX5_partOf_32 (lv_at hl 0 rfl) ?_
      obtain ⟨q4, hw⟩ := hw
      refine lv_ldiv hx hb dX5_partOf_34 q4 ?_
      exact lf_retl F hh hw dX5_partOf_35
    · have hw := hw.2 c3
      refine lv_lload_n hx hb dX5_partOf_24 rfl (lv_at hl 1 rfl) ?_
      refine lv_lload hx hb dX5_partOf_25 (lv_at hl 0 rfl) ?_
      obtain ⟨q5, hw⟩ := hw
      refine lv_ldiv hx hb dX5_partOf_27 q5 ?_
      refine lv_goto (tgt := 35) hx hb dX5_partOf_28 (by decide) ?_
      exact lf_retl F hh hw dX5_partOf_35
  · have hw := hw.2 c2
    refine lv_lconst (v := 0) hx hb dX5_partOf_17 (by decide) ?_
    exact lf_retl F hh hw dX5_partOf_18
theorem cw_X5_136 {R : Room} {s : State} {args : Array Value} (ht : ∀ w ∈ wsL_law, w.before args s = true) (hR : rm_X5_isPart.frames + 1 ≤ R.frames ∧ 8 + (1 + 11) + rm_X5_isPart.locals ≤ R.locals) : lf_cS R s args RX5 136 yX5_isPart cX5_isPart 1 (some .boolean) rm_X5_isPart 1 :=
  lf_cS_of 1 ht (lr_24 _ (List.mem_of_getElem? (i := 7) rfl)) (lr_24 _ (List.mem_of_getElem? (i := 5) rfl)) (lr_24 _ (List.mem_of_getElem? (i := 6) rfl)) (lr_1 _ (List.mem_of_getElem? (i := 2) rfl)) rfl rfl (by decide +kernel) hR
theorem cw_X5_150 {R : Room} {s : State} {args : Array Value} (ht : ∀ w ∈ wsL_law, w.before args s = true) (hR : rm_X5_partOf.frames + 1 ≤ R.frames ∧ 8 + (7 + 11) + rm_X5_partOf.locals ≤ R.locals) : lf_cS R s args RX5 150 yX5_partOf cX5_partOf 7 (some .long) rm_X5_partOf 3 :=
  lf_cS_of 3 ht (lr_24 _ (List.mem_of_getElem? (i := 10) rfl)) (lr_24 _ (List.mem_of_getElem? (i := 8) rfl)) (lr_24 _ (List.mem_of_getElem? (i := 9) rfl)) (lr_1 _ (List.mem_of_getElem? (i := 2) rfl)) rfl rfl (by decide +kernel) hR
def wp_X5_cost (x1 : Int32) (x2 : Int32) (σ : lf_St) (Post : Int64 → lf_St → Prop) : Prop := wp_X5_isKind x1 σ (fun r1 σ1 => ((r1 = 0) → (Post (-1000000000000002) σ1)) ∧ ((¬ (r1 = 0)) → (wp_X5_isPart x2 σ1 (fun r3 σ3 => ((¬ r3 = 0) → (wp_X4_frameOf x1 σ3 (fun σ5 => vp_in x1 4 ∧ (((¬ (lf_gi σ5 (20 + x1.toNatClampNeg)) = 0) → (wp_X5_partOf (lf_gl σ5 (10 + x1.toNatClampNeg)) (lf_gl σ5 (20 + x1.toNatClampNeg)) x2 σ5 (fun r8 σ8 => Post r8 σ8))) ∧ (((lf_gi σ5 (20 + x1.toNatClampNeg)) = 0) → (Post (-1000000000000006) σ5)))))) ∧ ((r3 = 0) → (Post (-1000000000000002) σ3))))))
def rm_X5_cost : Room := ({ frames := 7, cells := 0, slots := 0, locals := 157 } : Room)
set_option maxHeartbeats 4000000 in
set_option maxRecDepth 100000 in
theorem c_X5_cost (l : Launch) (D : va_G) (ha : Nat → Nat) (cy : Nat → ClassId) (sz : Nat) (σ : lf_St) (x1 : Int32) (x2 : Int32) (Post : Int64 → lf_St → Prop) (hw : wp_X5_cost x1 x2 σ Post) : lf_Ml l yX5_cost (lf_ws yX5_cost cX5_cost 4 (some .long)) rm_X5_cost D (tyC_ cy) (wC_ ha cy) sz σ [.ref (ha 0), .int x1, .int x2] Post := by
  refine lf_ofl (by decide +kernel) (Nat.le_of_ble_eq_true rfl) ?_
  intro p e s m args below meth c A ls F hh hl
  have hx := F.1.1
  have hb := F.1.2.1
  have hl : lv_has ls 4 [(0, .ref (ha 0)), (1, .int x1), (2, .int x2)] := hl
  obtain ⟨H, hHe⟩ : ∃ H, H = s.heap := ⟨_, rfl⟩
  rw [← hHe] at hh ⊢
  unfold wp_X5_cost at hw
  refine lv_iload_n hx hb dX5_cost_0 rfl (lv_at hl 1 rfl) ?_
  refine lf_callSi (rest := []) F hh (cw_X5_122 F.1.2.2.2.2 ⟨Nat.le_of_ble_eq_true rfl, Nat.le_of_ble_eq_true rfl⟩) (c_X5_isKind l D ha cy H.size σ x1 _ hw) rfl hl.1 (Nat.le_of_ble_eq_true rfl) dX5_cost_1 rfl (fun r1 σ1 H locs hw hh => ?_)
  refine lv_if_eq (tgt := 14) hx hb dX5_cost_4 (by decide) (fun c2 => ?_) (fun c2 => ?_)
  · have hw := hw.1 c2
    refine lv_ldc2 hx hb F.1.2.2.2.1 (F.1.2.2.2.2 _ (lr_24 _ (List.mem_of_getElem? (i := 1) rfl))) dX5_cost_14 ?_
    exact lf_retl F hh hw dX5_cost_17
  · have hw := hw.2 c2
    refine lv_iload_n hx hb dX5_cost_7 rfl (lv_at hl 2 rfl) ?_
    refine lf_callSi (rest := []) F hh (cw_X5_136 F.1.2.2.2.2 ⟨Nat.le_of_ble_eq_true rfl, Nat.le_of_ble_eq_true rfl⟩) (c_X5_isPart l D ha cy H.size σ1 x2 _ hw) rfl hl.1 (Nat.le_of_ble_eq_true rfl) dX5_cost_8 rfl (fun r3 σ3 H locs hw hh => ?_)
    refine lv_if_ne (tgt := 18) hx hb dX5_cost_11 (by decide) (fun c4 => ?_) (fun c4 => ?_)
    · have hw := hw.1 c4
      refine lv_aload_n hx hb dX5_cost_18 rfl (lv_at hl 0 rfl) ?_
      refine fg_X5_21 F hh dX5_cost_19 ?_
      refine lv_iload_n hx hb dX5_cost_22 rfl (lv_at hl 1 rfl) ?_
      refine lf_callVr (rest := []) F hh (cw_X5_125 F.1.2.2.2.2 ⟨Nat.le_of_ble_eq_true rfl, Nat.le_of_ble_eq_true rfl⟩) (c_X4_frameOf l D ha cy H.size σ3 x1 _ hw) 13 4 rfl rfl rfl rfl hl.1 (Nat.le_of_ble_eq_true rfl) dX5_cost_23 rfl (fun σ5 H locs hw hh => ?_)
      obtain ⟨q6, hw⟩ := hw
      refine lv_astore_n (lv' := [(3, .ref (ha (22 + x1.toNatClampNeg))), (0, .ref (ha 0)), (1, .int x1), (2, .int x2)]) hx hb dX5_cost_26 rfl hl (by decide) rfl (fun ls hl => ?_)
      refine lv_aload_n hx hb dX5_cost_27 rfl (lv_at hl 0 rfl) ?_
      refine fg_X5_129 F hh (x1.toNatClampNeg) (lf_in5 q6) dX5_cost_28 ?_
      refine lv_if_ne (tgt := 38) hx hb dX5_cost_31 (by decide) (fun c7 => ?_) (fun c7 => ?_)
      · have hw := hw.1 c7
        refine lv_aload_n hx hb dX5_cost_38 rfl (lv_at hl 0 rfl) ?_
        refine fg_X5_143 F hh (x1.toNatClampNeg) (lf_in5 q6) dX5_cost_39 ?_
        refine lv_aload_n hx hb dX5_cost_42 rfl (lv_at hl 0 rfl) ?_
        refine fg_X5_147 F hh (x1.toNatClampNeg) (lf_in5 q6) dX5_cost_43 ?_
        refine lv_iload_n hx hb dX5_cost_46 rfl (lv_at hl 3 rfl) ?_
        refine lf_callSl (rest := []) F hh (cw_X5_150 F.1.2.2.2.2 ⟨Nat.le_of_ble_eq_true rfl, Nat.le_of_ble_eq_true rfl⟩) (c_X5_partOf l D ha cy H.size σ5 (lf_gl σ5 (10 + x1.toNatClampNeg)) (lf_gl σ5 (20 + x1.toNatClampNeg)) x2 _ hw) rfl hl.1 (Nat.le_of_ble_eq_true rfl) dX5_cost_47 rfl (fun r8 σ8 H locs hw hh => ?_)
        exact lf_retl F hh hw dX5_cost_50
      · have hw := hw.2 c7
        refine lv_ldc2 hx hb F.1.2.2.2.1 (F.1.2.2.2.2 _ (lr_24 _ (List.mem_of_getElem? (i := 2) rfl))) dX5_cost_34 ?_
        exact lf_retl F hh hw dX5_cost_37
    · have hw := hw.2 c4
      refine lv_ldc2 hx hb F.1.2.2.2.1 (F.1.2.2.2.2 _ (lr_24 _ (List.mem_of_getElem? (i := 1) rfl))) dX5_cost_14 ?_
      exact lf_retl F hh hw dX5_cost_17
def wp_X5_pull (x1 : Int32) (x2 : Int32) (x3 : Int32) (σ : lf_St) (Post : Int64 → lf_St → Prop) : Prop := wp_X2_hasBar x2 σ (fun r1 σ1 => ((¬ r1 = 0) → (wp_X5_isKind x1 σ1 (fun r3 σ3 => ((r3 = 0) → (Post (-1000000000000002) σ3)) ∧ ((¬ (r3 = 0)) → (wp_X5_isPart x3 σ3 (fun r5 σ5 => ((¬ r5 = 0) → (wp_X4_frameOf x1 σ5 (fun σ7 => vp_in x1 4 ∧ (((¬ (lf_gi σ7 (20 + x1.toNatClampNeg)) = 0) → (vp_in x2 10 ∧ (wp_X5_partOf (lf_al σ7 (27 + x1.toNatClampNeg) x2.toNatClampNeg) (lf_gl σ7 (20 + x1.toNatClampNeg)) x3 σ7 (fun r11 σ11 => Post r11 σ11)))) ∧ (((lf_gi σ7 (20 + x1.toNatClampNeg)) = 0) → (Post (-1000000000000006) σ7)))))) ∧ ((r5 = 0) → (Post (-1000000000000002) σ5)))))))) ∧ ((r1 = 0) → (Post (-1000000000000001) σ1)))
def rm_X5_pull : Room := ({ frames := 7, cells := 0, slots := 0, locals := 157 } : Room)
set_option maxHeartbeats 4000000 in
set_option maxRecDepth 100000 in
theorem c_X5_pull (l : Launch) (D : va_G) (ha : Nat → Nat) (cy : Nat → ClassId) (sz : Nat) (σ : lf_St) (x1 : Int32) (x2 : Int32) (x3 : Int32) (Post : Int64 → lf_St → Prop) (hw : wp_X5_pull x1 x2 x3 σ Post) : lf_Ml l yX5_pull (lf_ws yX5_pull cX5_pull 5 (some .long)) rm_X5_pull D (tyC_ cy) (wC_ ha cy) sz σ [.ref (ha 0), .int x1, .int x2, .int x3] Post := by
  refine lf_ofl (by decide +kernel) (Nat.le_of_ble_eq_true rfl) ?_
  intro p e s m args below meth c A ls F hh hl
  have hx := F.1.1
  have hb := F.1.2.1
  have hl : lv_has ls 5 [(0, .ref (ha 0)), (1, .int x1), (2, .int x2), (3, .int x3)] := hl
  obtain ⟨H, hHe⟩ : ∃ H, H = s.heap := ⟨_, rfl⟩
  rw [← hHe] at hh ⊢
  unfold wp_X5_pull at hw
  refine lv_aload_n hx hb dX5_pull_0 rfl (lv_at hl 0 rfl) ?_
  refine fg_X5_12 F hh dX5_pull_1 ?_
  refine lv_iload_n hx hb dX5_pull_4 rfl (lv_at hl 2 rfl) ?_
  refine lf_callVi (rest := []) F hh (cw_X5_85 F.1.2.2.2.2 ⟨Nat.le_of_ble_eq_true rfl, Nat.le_of_ble_eq_true rfl⟩) (c_X2_hasBar l D ha cy H.size σ x2 _ hw) 1 2 rfl rfl rfl rfl hl.1 (Nat.le_of_ble_eq_true rfl) dX5_pull_5 rfl (fun r1 σ1 H locs hw hh => ?_)
  refine lv_if_ne (tgt := 15) hx hb dX5_pull_8 (by decide) (fun c2 => ?_) (fun c2 => ?_)
  · have hw := hw.1 c2
    refine lv_iload_n hx hb dX5_pull_15 rfl (lv_at hl 1 rfl) ?_
    refine lf_callSi (rest := []) F hh (cw_X5_122 F.1.2.2.2.2 ⟨Nat.le_of_ble_eq_true rfl, Nat.le_of_ble_eq_true rfl⟩) (c_X5_isKind l D ha cy H.size σ1 x1 _ hw) rfl hl.1 (Nat.le_of_ble_eq_true rfl) dX5_pull_16 rfl (fun r3 σ3 H locs hw hh => ?_)
    refine lv_if_eq (tgt := 29) hx hb dX5_pull_19 (by decide) (fun c4 => ?_) (fun c4 => ?_)
    · have hw := hw.1 c4
      refine lv_ldc2 hx hb F.1.2.2.2.1 (F.1.2.2.2.2 _ (lr_24 _ (List.mem_of_getElem? (i := 1) rfl))) dX5_pull_29 ?_
      exact lf_retl F hh hw dX5_pull_32
    · have hw := hw.2 c4
      refine lv_iload_n hx hb dX5_pull_22 rfl (lv_at hl 3 rfl) ?_
      refine lf_callSi (rest := []) F hh (cw_X5_136 F.1.2.2.2.2 ⟨Nat.le_of_ble_eq_true rfl, Nat.le_of_ble_eq_true rfl⟩) (c_X5_isPart l D ha cy H.size σ3 x3 _ hw) rfl hl.1 (Nat.le_of_ble_eq_true rfl) dX5_pull_23 rfl (fun r5 σ5 H locs hw hh => ?_)
      refine lv_if_ne (tgt := 33) hx hb dX5_pull_26 (by decide) (fun c6 => ?_) (fun c6 => ?_)
      · have hw := hw.1 c6
        refine lv_aload_n hx hb dX5_pull_33 rfl (lv_at hl 0 rfl) ?_
        refine fg_X5_21 F hh dX5_pull_34 ?_
        refine lv_iload_n hx hb dX5_pull_37 rfl (lv_at hl 1 rfl) ?_
        refine lf_callVr (rest := []) F hh (cw_X5_125 F.1.2.2.2.2 ⟨Nat.le_of_ble_eq_true rfl, Nat.le_of_ble_eq_true rfl⟩) (c_X4_frameOf l D ha cy H.size σ5 x1 _ hw) 13 4 rfl rfl rfl rfl hl.1 (Nat.le_of_ble_eq_true rfl) dX5_pull_38 rfl (fun σ7 H locs hw hh => ?_)
        obtain ⟨q8, hw⟩ := hw
        refine lv_astore (lv' := [(4, .ref (ha (22 + x1.toNatClampNeg))), (0, .ref (ha 0)), (1, .int x1), (2, .int x2), (3, .int x3)]) hx hb dX5_pull_41 hl (by decide) rfl (fun ls hl => ?_)
        refine lv_aload hx hb dX5_pull_43 (lv_at hl 0 rfl) ?_
        refine fg_X5_129 F hh (x1.toNatClampNeg) (lf_in5 q8) dX5_pull_45 ?_
        refine lv_if_ne (tgt := 55) hx hb dX5_pull_48 (by decide) (fun c9 => ?_) (fun c9 => ?_)
        · have hw := hw.1 c9
          refine lv_aload hx hb dX5_pull_55 (lv_at hl 0 rfl) ?_
          refine fg_X5_156 F hh (x1.toNatClampNeg) (lf_in5 q8) dX5_pull_57 ?_
          refine lv_iload_n hx hb dX5_pull_60 rfl (lv_at hl 3 rfl) ?_
          obtain ⟨q10, hw⟩ := hw
          refine ra_C_pt F hh (x1.toNatClampNeg) (lf_in5 q8) q10 dX5_pull_61 ?_
          refine lv_aload hx hb dX5_pull_62 (lv_at hl 0 rfl) ?_
          refine fg_X5_147 F hh (x1.toNatClampNeg) (lf_in5 q8) dX5_pull_64 ?_
          refine lv_iload_n hx hb dX5_pull_67 rfl (lv_at hl 4 rfl) ?_
          refine lf_callSl (rest := []) F hh (cw_X5_150 F.1.2.2.2.2 ⟨Nat.le_of_ble_eq_true rfl, Nat.le_of_ble_eq_true rfl⟩) (c_X5_partOf l D ha cy H.size σ7 (lf_al σ7 (27 + x1.toNatClampNeg) x2.toNatClampNeg) (lf_gl σ7 (20 + x1.toNatClampNeg)) x3 _ hw) rfl hl.1 (Nat.le_of_ble_eq_true rfl) dX5_pull_68 rfl (fun r11 σ11 H locs hw hh => ?_)
          exact lf_retl F hh hw dX5_pull_71
        · have hw := hw.2 c9
          refine lv_ldc2 hx hb F.1.2.2.2.1 (F.1.2.2.2.2 _ (lr_24 _ (List.mem_of_getElem? (i := 2) rfl))) dX5_pull_51 ?_
          exact lf_retl F hh hw dX5_pull_54
      · have hw := hw.2 c6
        refine lv_ldc2 hx hb F.1.2.2.2.1 (F.1.2.2.2.2 _ (lr_24 _ (List.mem_of_getElem? (i := 1) rfl))) dX5_pull_29 ?_
        exact lf_retl F hh hw dX5_pull_32
  · have hw := hw.2 c2
    refine lv_ldc2 hx hb F.1.2.2.2.1 (F.1.2.2.2.2 _ (lr_25 _ (List.mem_of_getElem? (i := 10) rfl))) dX5_pull_11 ?_
    exact lf_retl F hh hw dX5_pull_14
def wp_X5_used (x1 : Int32) (x2 : Int32) (σ : lf_St) (Post : Int32 → lf_St → Prop) : Prop := wp_X5_isKind x1 σ (fun r1 σ1 => ((r1 = 0) → (Post (-2) σ1)) ∧ ((¬ (r1 = 0)) → (((x2 < 0) → (Post (-2) σ1)) ∧ ((¬ (x2 < 0)) → (((x2 ≤ 1) → (wp_X4_frameOf x1 σ1 (fun σ5 => vp_in x1 4 ∧ (((¬ (lf_gi σ5 (20 + x1.toNatClampNeg)) = 0) → (((¬ x2 = 0) → (Post (lf_gi σ5 (50 + x1.toNatClampNeg)) σ5)) ∧ ((x2 = 0) → (Post (lf_gi σ5 (40 + x1.toNatClampNeg)) σ5)))) ∧ (((lf_gi σ5 (20 + x1.toNatClampNeg)) = 0) → (Post (-6) σ5)))))) ∧ ((¬ (x2 ≤ 1)) → (Post (-2) σ1)))))))
def rm_X5_used : Room := ({ frames := 7, cells := 0, slots := 0, locals := 157 } : Room)
set_option maxHeartbeats 4000000 in
set_option maxRecDepth 100000 in
theorem c_X5_used (l : Launch) (D : va_G) (ha : Nat → Nat) (cy : Nat → ClassId) (sz : Nat) (σ : lf_St) (x1 : Int32) (x2 : Int32) (Post : Int32 → lf_St → Prop) (hw : wp_X5_used x1 x2 σ Post) : lf_Mi l yX5_used (lf_ws yX5_used cX5_used 4 (some .int)) rm_X5_used D (tyC_ cy) (wC_ ha cy) sz σ [.ref (ha 0), .int x1, .int x2] Post := by
  refine lf_ofi (by decide +kernel) (Nat.le_of_ble_eq_true rfl) ?_
  intro p e s m args below meth c A ls F hh hl
  have hx := F.1.1
  have hb := F.1.2.1
  have hl : lv_has ls 4 [(0, .ref (ha 0)), (1, .int x1), (2, .int x2)] := hl
  obtain ⟨H, hHe⟩ : ∃ H, H = s.heap := ⟨_, rfl⟩
  rw [← hHe] at hh ⊢
  unfold wp_X5_used at hw
  refine lv_iload_n hx hb dX5_used_0 rfl (lv_at hl 1 rfl) ?_
  refine lf_callSi (rest := []) F hh (cw_X5_122 F.1.2.2.2.2 ⟨Nat.le_of_ble_eq_true rfl, Nat.le_of_ble_eq_true rfl⟩) (c_X5_isKind l D ha cy H.size σ x1 _ hw) rfl hl.1 (Nat.le_of_ble_eq_true rfl) dX5_used_1 rfl (fun r1 σ1 H locs hw hh => ?_)
  refine lv_if_eq (tgt := 16) hx hb dX5_used_4 (by decide) (fun c2 => ?_) (fun c2 => ?_)
  · have hw := hw.1 c2
    refine lv_bipush (v := (-2)) hx hb dX5_used_16 (by decide) ?_
    exact lf_reti F hh hw dX5_used_18
  · have hw := hw.2 c2
    refine lv_iload_n hx hb dX5_used_7 rfl (lv_at hl 2 rfl) ?_
    refine lv_if_lt (tgt := 16) hx hb dX5_used_8 (by decide) (fun c3 => ?_) (fun c3 => ?_)
    · have hw := hw.1 c3
      refine lv_bipush (v := (-2)) hx hb dX5_used_16 (by decide) ?_
      exact lf_reti F hh hw dX5_used_18
    · have hw := hw.2 c3
      refine lv_iload_n hx hb dX5_used_11 rfl (lv_at hl 2 rfl) ?_
      refine lv_iconst (v := 1) hx hb dX5_used_12 (by decide) ?_
      refine lv_icmp_le (tgt := 19) hx hb dX5_used_13 (by decide) (fun c4 => ?_) (fun c4 => ?_)
      · have hw := hw.1 c4
        refine lv_aload_n hx hb dX5_used_19 rfl (lv_at hl 0 rfl) ?_
        refine fg_X5_21 F hh dX5_used_20 ?_
        refine lv_iload_n hx hb dX5_used_23 rfl (lv_at hl 1 rfl) ?_
        refine lf_callVr (rest := []) F hh (cw_X5_125 F.1.2.2.2.2 ⟨Nat.le_of_ble_eq_true rfl, Nat.le_of_ble_eq_true rfl⟩) (c_X4_frameOf l D ha cy H.size σ1 x1 _ hw) 13 4 rfl rfl rfl rfl hl.1 (Nat.le_of_ble_eq_true rfl) dX5_used_24 rfl (fun σ5 H locs hw hh => ?_)
        obtain ⟨q6, hw⟩ := hw
        refine lv_astore_n (lv' := [(3, .ref (ha (22 + x1.toNatClampNeg))), (0, .ref (ha 0)), (1, .int x1), (2, .int x2)]) hx hb dX5_used_27 rfl hl (by decide) rfl (fun ls hl => ?_)
        refine lv_aload_n hx hb dX5_used_28 rfl (lv_at hl 0 rfl) ?_
        refine fg_X5_129 F hh (x1.toNatClampNeg) (lf_in5 q6) dX5_used_29 ?_
        refine lv_if_ne (tgt := 38) hx hb dX5_used_32 (by decide) (fun c7 => ?_) (fun c7 => ?_)
        · have hw := hw.1 c7
          refine lv_iload_n hx hb dX5_used_38 rfl (lv_at hl 3 rfl) ?_
          refine lv_if_ne (tgt := 49) hx hb dX5_used_39 (by decide) (fun c8 => ?_) (fun c8 => ?_)
          · have hw := hw.1 c8
            refine lv_aload_n hx hb dX5_used_49 rfl (lv_at hl 0 rfl) ?_
            refine fg_X5_163 F hh (x1.toNatClampNeg) (lf_in5 q6) dX5_used_50 ?_
            exact lf_reti F hh hw dX5_used_53
          · have hw := hw.2 c8
            refine lv_aload_n hx hb dX5_used_42 rfl (lv_at hl 0 rfl) ?_
            refine fg_X5_160 F hh (x1.toNatClampNeg) (lf_in5 q6) dX5_used_43 ?_
            refine lv_goto (tgt := 53) hx hb dX5_used_46 (by decide) ?_
            exact lf_reti F hh hw dX5_used_53
        · have hw := hw.2 c7
          refine lv_bipush (v := (-6)) hx hb dX5_used_35 (by decide) ?_
          exact lf_reti F hh hw dX5_used_37
      · have hw := hw.2 c4
        refine lv_bipush (v := (-2)) hx hb dX5_used_16 (by decide) ?_
        exact lf_reti F hh hw dX5_used_18
theorem cw_X5_166 {R : Room} {s : State} {args : Array Value} (ht : ∀ w ∈ wsL_law, w.before args s = true) (hR : rm_X0_uses.frames + 1 ≤ R.frames ∧ 8 + (2 + 11) + rm_X0_uses.locals ≤ R.locals) : lf_cV R s args RX5 RX0 166 yX0_uses cX0_uses 2 (some .boolean) rm_X0_uses 1 :=
  lf_cV_of 1 ht (lr_18 _ (List.mem_of_getElem? (i := 10) rfl)) (lr_26 _ (List.mem_of_getElem? (i := 15) rfl)) (lr_18 _ (List.mem_of_getElem? (i := 8) rfl)) (lr_18 _ (List.mem_of_getElem? (i := 9) rfl)) (lr_2 _ (List.mem_of_getElem? (i := 21) rfl)) rfl rfl (by decide +kernel) hR
theorem cw_X5_169 {R : Room} {s : State} {args : Array Value} (ht : ∀ w ∈ wsL_law, w.before args s = true) (hR : rm_X4_leastSizeFor.frames + 1 ≤ R.frames ∧ 8 + (6 + 11) + rm_X4_leastSizeFor.locals ≤ R.locals) : lf_cV R s args RX5 RX4 169 yX4_leastSizeFor cX4_leastSizeFor 6 (some .int) rm_X4_leastSizeFor 2 :=
  lf_cV_of 2 ht (lr_19 _ (List.mem_of_getElem? (i := 3) rfl)) (lr_26 _ (List.mem_of_getElem? (i := 16) rfl)) (lr_19 _ (List.mem_of_getElem? (i := 1) rfl)) (lr_19 _ (List.mem_of_getElem? (i := 2) rfl)) (lr_1 _ (List.mem_of_getElem? (i := 18) rfl)) rfl rfl (by decide +kernel) hR
def wp_X5_sized (x1 : Int32) (σ : lf_St) (Post : Int32 → lf_St → Prop) : Prop := wp_X2_hasBar x1 σ (fun r1 σ1 => ((¬ r1 = 0) → (wp_X4_frameOf 2 σ1 (fun σ3 => vp_in 2 4 ∧ (((¬ (lf_gi σ3 (20 + (2 : Int32).toNatClampNeg)) = 0) → (wp_X0_uses ((2 : Int32).toNatClampNeg) x1 σ3 (fun r6 σ6 => ((r6 = 0) → (Post 0 σ6)) ∧ ((¬ (r6 = 0)) → (wp_X4_leastSizeFor ((2 : Int32).toNatClampNeg) x1 σ6 (fun r8 σ8 => Post r8 σ8)))))) ∧ (((lf_gi σ3 (20 + (2 : Int32).toNatClampNeg)) = 0) → (Post (-6) σ3)))))) ∧ ((r1 = 0) → (Post (-1) σ1)))
def rm_X5_sized : Room := ({ frames := 7, cells := 0, slots := 0, locals := 157 } : Room)
set_option maxHeartbeats 4000000 in
set_option maxRecDepth 100000 in
theorem c_X5_sized (l : Launch) (D : va_G) (ha : Nat → Nat) (cy : Nat → ClassId) (sz : Nat) (σ : lf_St) (x1 : Int32) (Post : Int32 → lf_St → Prop) (hw : wp_X5_sized x1 σ Post) : lf_Mi l yX5_sized (lf_ws yX5_sized cX5_sized 3 (some .int)) rm_X5_sized D (tyC_ cy) (wC_ ha cy) sz σ [.ref (ha 0), .int x1] Post := by
  refine lf_ofi (by decide +kernel) (Nat.le_of_ble_eq_true rfl) ?_
  intro p e s m args below meth c A ls F hh hl
  have hx := F.1.1
  have hb := F.1.2.1
  have hl : lv_has ls 3 [(0, .ref (ha 0)), (1, .int x1)] := hl
  obtain ⟨H, hHe⟩ : ∃ H, H = s.heap := ⟨_, rfl⟩
  rw [← hHe] at hh ⊢
  unfold wp_X5_sized at hw
  refine lv_aload_n hx hb dX5_sized_0 rfl (lv_at hl 0 rfl) ?_
  refine fg_X5_12 F hh dX5_sized_1 ?_
  refine lv_iload_n hx hb dX5_sized_4 rfl (lv_at hl 1 rfl) ?_
  refine lf_callVi (rest := []) F hh (cw_X5_85 F.1.2.2.2.2 ⟨Nat.le_of_ble_eq_true rfl, Nat.le_of_ble_eq_true rfl⟩) (c_X2_hasBar l D ha cy H.size σ x1 _ hw) 1 2 rfl rfl rfl rfl hl.1 (Nat.le_of_ble_eq_true rfl) dX5_sized_5 rfl (fun r1 σ1 H locs hw hh => ?_)
  refine lv_if_ne (tgt := 13) hx hb dX5_sized_8 (by decide) (fun c2 => ?_) (fun c2 => ?_)
  · have hw := hw.1 c2
    refine lv_aload_n hx hb dX5_sized_13 rfl (lv_at hl 0 rfl) ?_
    refine fg_X5_21 F hh dX5_sized_14 ?_
    refine lv_iconst (v := 2) hx hb dX5_sized_17 (by decide) ?_
    refine lf_callVr (rest := []) F hh (cw_X5_125 F.1.2.2.2.2 ⟨Nat.le_of_ble_eq_true rfl, Nat.le_of_ble_eq_true rfl⟩) (c_X4_frameOf l D ha cy H.size σ1 2 _ hw) 13 4 rfl rfl rfl rfl hl.1 (Nat.le_of_ble_eq_true rfl) dX5_sized_18 rfl (fun σ3 H locs hw hh => ?_)
    obtain ⟨q4, hw⟩ := hw
    refine lv_astore_n (lv' := [(2, .ref (ha (22 + (2 : Int32).toNatClampNeg))), (0, .ref (ha 0)), (1, .int x1)]) hx hb dX5_sized_21 rfl hl (by decide) rfl (fun ls hl => ?_)
    refine lv_aload_n hx hb dX5_sized_22 rfl (lv_at hl 0 rfl) ?_
    refine fg_X5_129 F hh ((2 : Int32).toNatClampNeg) (lf_in5 q4) dX5_sized_23 ?_
    refine lv_if_ne (tgt := 32) hx hb dX5_sized_26 (by decide) (fun c5 => ?_) (fun c5 => ?_)
    · have hw := hw.1 c5
      refine lv_aload_n hx hb dX5_sized_32 rfl (lv_at hl 0 rfl) ?_
      refine lv_iload_n hx hb dX5_sized_33 rfl (lv_at hl 2 rfl) ?_
      refine lf_callVi (rest := []) F hh (cw_X5_166 F.1.2.2.2.2 ⟨Nat.le_of_ble_eq_true rfl, Nat.le_of_ble_eq_true rfl⟩) (c_X0_uses l D ha cy H.size σ3 ((2 : Int32).toNatClampNeg) (lf_in5 q4) x1 _ hw) (22 + (2 : Int32).toNatClampNeg) 0 rfl rfl (lC_fr ((2 : Int32).toNatClampNeg) (lf_in5 q4)) rfl hl.1 (Nat.le_of_ble_eq_true rfl) dX5_sized_34 rfl (fun r6 σ6 H locs hw hh => ?_)
      refine lv_if_eq (tgt := 52) hx hb dX5_sized_37 (by decide) (fun c7 => ?_) (fun c7 => ?_)
      · have hw := hw.1 c7
        refine lv_iconst (v := 0) hx hb dX5_sized_52 (by decide) ?_
        exact lf_reti F hh hw dX5_sized_53
      · have hw := hw.2 c7
        refine lv_aload_n hx hb dX5_sized_40 rfl (lv_at hl 1 rfl) ?_
        refine fg_X5_21 F hh dX5_sized_41 ?_
        refine lv_aload_n hx hb dX5_sized_44 rfl (lv_at hl 0 rfl) ?_
        refine lv_iload_n hx hb dX5_sized_45 rfl (lv_at hl 2 rfl) ?_
        refine lf_callVi (rest := []) F hh (cw_X5_169 F.1.2.2.2.2 ⟨Nat.le_of_ble_eq_true rfl, Nat.le_of_ble_eq_true rfl⟩) (c_X4_leastSizeFor l D ha cy H.size σ6 ((2 : Int32).toNatClampNeg) (lf_in5 q4) x1 _ hw) 13 4 rfl rfl rfl rfl hl.1 (Nat.le_of_ble_eq_true rfl) dX5_sized_46 rfl (fun r8 σ8 H locs hw hh => ?_)
        refine lv_goto (tgt := 53) hx hb dX5_sized_49 (by decide) ?_
        exact lf_reti F hh hw dX5_sized_53
    · have hw := hw.2 c5
      refine lv_bipush (v := (-6)) hx hb dX5_sized_29 (by decide) ?_
      exact lf_reti F hh hw dX5_sized_31
  · have hw := hw.2 c2
    refine lv_iconst (v := (-1)) hx hb dX5_sized_11 (by decide) ?_
    exact lf_reti F hh hw dX5_sized_12
theorem cw_X5_174 {R : Room} {s : State} {args : Array Value} (ht : ∀ w ∈ wsL_law, w.before args s = true) (hR : rm_X3_look.frames + 1 ≤ R.frames ∧ 8 + (3 + 11) + rm_X3_look.locals ≤ R.locals) : lf_cV R s args RX5 RX3 174 yX3_look cX3_look 3 none rm_X3_look 1 :=
  lf_cV_of 1 ht (lr_27 _ (List.mem_of_getElem? (i := 5) rfl)) (lr_27 _ (List.mem_of_getElem? (i := 2) rfl)) (lr_27 _ (List.mem_of_getElem? (i := 3) rfl)) (lr_27 _ (List.mem_of_getElem? (i := 4) rfl)) (lr_1 _ (List.mem_of_getElem? (i := 22) rfl)) rfl rfl (by decide +kernel) hR
def J_X5_prove_34 (Post : Int32 → lf_St → Prop) (σ : lf_St) : Prop := (((lf_gi σ 8) = 0) → (Post (-6) σ)) ∧ ((¬ ((lf_gi σ 8) = 0)) → (Post (lf_gi σ 9) σ))
def wp_X5_prove (σ : lf_St) (Post : Int32 → lf_St → Prop) : Prop := wp_X4_frameOf 0 σ (fun σ1 => vp_in 0 4 ∧ ((((lf_gi σ1 (20 + (0 : Int32).toNatClampNeg)) = 0) → (J_X5_prove_34 Post σ1)) ∧ ((¬ ((lf_gi σ1 (20 + (0 : Int32).toNatClampNeg)) = 0)) → (((¬ (lf_gi σ1 8) = 0) → (J_X5_prove_34 Post σ1)) ∧ (((lf_gi σ1 8) = 0) → (wp_X3_look ((0 : Int32).toNatClampNeg) σ1 (fun σ5 => J_X5_prove_34 Post σ5)))))))
def rm_X5_prove : Room := ({ frames := 7, cells := 0, slots := 0, locals := 157 } : Room)
set_option maxHeartbeats 4000000 in
set_option maxRecDepth 100000 in
theorem w_X5_prove_34 {p : Program} {l : Launch} {e : Env} {s : State} {m : MethodId} {args : Array Value} {below : List Frame} {meth : Method} {c : Code} {D : va_G} {A : Nat → Prop} {ha : Nat → Nat} {cy : Nat → ClassId} (Post : Int32 → lf_St → Prop) (F : lf_C p s m args meth c RX5 cX5_prove 2 (some .int) D (tyC_ cy) A) (σ : lf_St) (H : Heap) (locs : List Loc) (ls : Array Slot) (hh : lf_H D (wC_ ha cy) A s σ H locs) (hl : lv_has ls 2 [(0, .ref (ha 0))]) (hw : J_X5_prove_34 Post σ) : W p l e rm_X5_prove s m args below meth c H locs 0 0 (lf_Qi below args s D (tyC_ cy) A (wC_ ha cy) Post) (F0 m 34 ls []) := by
  have hx := F.1.1
  have hb := F.1.2.1
  unfold J_X5_prove_34 at hw
  refine lv_aload_n hx hb dX5_prove_34 rfl (lv_at hl 0 rfl) ?_
  refine fg_X5_30 F hh dX5_prove_35 ?_
  refine fg_X5_173 F hh dX5_prove_38 ?_
  refine lv_if_eq (tgt := 54) hx hb dX5_prove_41 (by decide) (fun c1 => ?_) (fun c1 => ?_)
  · have hw := hw.1 c1
    refine lv_bipush (v := (-6)) hx hb dX5_prove_54 (by decide) ?_
    exact lf_reti F hh hw dX5_prove_56
  · have hw := hw.2 c1
    refine lv_aload_n hx hb dX5_prove_44 rfl (lv_at hl 0 rfl) ?_
    refine fg_X5_30 F hh dX5_prove_45 ?_
    refine fg_X5_178 F hh dX5_prove_48 ?_
    refine lv_goto (tgt := 56) hx hb dX5_prove_51 (by decide) ?_
    exact lf_reti F hh hw dX5_prove_56
set_option maxHeartbeats 4000000 in
set_option maxRecDepth 100000 in
theorem c_X5_prove (l : Launch) (D : va_G) (ha : Nat → Nat) (cy : Nat → ClassId) (sz : Nat) (σ : lf_St) (Post : Int32 → lf_St → Prop) (hw : wp_X5_prove σ Post) : lf_Mi l yX5_prove (lf_ws yX5_prove cX5_prove 2 (some .int)) rm_X5_prove D (tyC_ cy) (wC_ ha cy) sz σ [.ref (ha 0)] Post := by
  refine lf_ofi (by decide +kernel) (Nat.le_of_ble_eq_true rfl) ?_
  intro p e s m args below meth c A ls F hh hl
  have hx := F.1.1
  have hb := F.1.2.1
  have hl : lv_has ls 2 [(0, .ref (ha 0))] := hl
  obtain ⟨H, hHe⟩ : ∃ H, H = s.heap := ⟨_, rfl⟩
  rw [← hHe] at hh ⊢
  unfold wp_X5_prove at hw
  refine lv_aload_n hx hb dX5_prove_0 rfl (lv_at hl 0 rfl) ?_
  refine fg_X5_21 F hh dX5_prove_1 ?_
  refine lv_iconst (v := 0) hx hb dX5_prove_4 (by decide) ?_
  refine lf_callVr (rest := []) F hh (cw_X5_125 F.1.2.2.2.2 ⟨Nat.le_of_ble_eq_true rfl, Nat.le_of_ble_eq_true rfl⟩) (c_X4_frameOf l D ha cy H.size σ 0 _ hw) 13 4 rfl rfl rfl rfl hl.1 (Nat.le_of_ble_eq_true rfl) dX5_prove_5 rfl (fun σ1 H locs hw hh => ?_)
  obtain ⟨q2, hw⟩ := hw
  refine lv_astore_n (lv' := [(1, .ref (ha (22 + (0 : Int32).toNatClampNeg))), (0, .ref (ha 0))]) hx hb dX5_prove_8 rfl hl (by decide) rfl (fun ls hl => ?_)
  refine lv_aload_n hx hb dX5_prove_9 rfl (lv_at hl 0 rfl) ?_
  refine fg_X5_129 F hh ((0 : Int32).toNatClampNeg) (lf_in5 q2) dX5_prove_10 ?_
  refine lv_if_eq (tgt := 34) hx hb dX5_prove_13 (by decide) (fun c3 => ?_) (fun c3 => ?_)
  · have hw := hw.1 c3
    exact w_X5_prove_34 Post F  σ1 _ _ _ hh (lv_sub hl [1] rfl) hw
  · have hw := hw.2 c3
    refine lv_aload_n hx hb dX5_prove_16 rfl (lv_at hl 1 rfl) ?_
    refine fg_X5_30 F hh dX5_prove_17 ?_
    refine fg_X5_173 F hh dX5_prove_20 ?_
    refine lv_if_ne (tgt := 34) hx hb dX5_prove_23 (by decide) (fun c4 => ?_) (fun c4 => ?_)
    · have hw := hw.1 c4
      exact w_X5_prove_34 Post F  σ1 _ _ _ hh (lv_sub hl [1] rfl) hw
    · have hw := hw.2 c4
      refine lv_aload_n hx hb dX5_prove_26 rfl (lv_at hl 1 rfl) ?_
      refine fg_X5_30 F hh dX5_prove_27 ?_
      refine lv_aload_n hx hb dX5_prove_30 rfl (lv_at hl 0 rfl) ?_
      refine lf_callVv (rest := []) F hh (cw_X5_174 F.1.2.2.2.2 ⟨Nat.le_of_ble_eq_true rfl, Nat.le_of_ble_eq_true rfl⟩) (c_X3_look l D ha cy H.size σ1 ((0 : Int32).toNatClampNeg) (lf_in5 q2) _ hw) 19 3 rfl rfl rfl rfl hl.1 (Nat.le_of_ble_eq_true rfl) dX5_prove_31 rfl (fun σ5 H locs hw hh => ?_)
      exact w_X5_prove_34 Post F  σ5 _ _ _ hh (lv_sub hl [1] rfl) hw
theorem cw_X5_181 {R : Room} {s : State} {args : Array Value} (ht : ∀ w ∈ wsL_law, w.before args s = true) (hR : rm_X3_fieldTop.frames + 1 ≤ R.frames ∧ 8 + (4 + 11) + rm_X3_fieldTop.locals ≤ R.locals) : lf_cV R s args RX5 RX3 181 yX3_fieldTop cX3_fieldTop 4 (some .long) rm_X3_fieldTop 2 :=
  lf_cV_of 2 ht (lr_29 _ (List.mem_of_getElem? (i := 10) rfl)) (lr_30 _ (List.mem_of_getElem? (i := 15) rfl)) (lr_29 _ (List.mem_of_getElem? (i := 8) rfl)) (lr_29 _ (List.mem_of_getElem? (i := 9) rfl)) (lr_1 _ (List.mem_of_getElem? (i := 22) rfl)) rfl rfl (by decide +kernel) hR
def wp_X5_field (x1 : Int32) (x2 : Int32) (x3 : Int32) (σ : lf_St) (Post : Int64 → lf_St → Prop) : Prop := ((¬ (lf_gi σ 8) = 0) → (wp_X2_hasJoint x1 σ (fun r2 σ2 => ((¬ r2 = 0) → (((x2 < 0) → (Post (-1000000000000002) σ2)) ∧ ((¬ (x2 < 0)) → (((1 < x2) → (Post (-1000000000000002) σ2)) ∧ ((¬ (1 < x2)) → (wp_X5_isPart x3 σ2 (fun r6 σ6 => ((¬ r6 = 0) → (wp_X3_fieldTop x1 x2 σ6 (fun r8 σ8 => wp_X5_partOf r8 (lf_gl σ8 1) x3 σ8 (fun r9 σ9 => Post r9 σ9)))) ∧ ((r6 = 0) → (Post (-1000000000000002) σ6))))))))) ∧ ((r2 = 0) → (Post (-1000000000000001) σ2))))) ∧ (((lf_gi σ 8) = 0) → (Post (-1000000000000003) σ))
def rm_X5_field : Room := ({ frames := 2, cells := 0, slots := 0, locals := 56 } : Room)
set_option maxHeartbeats 4000000 in
set_option maxRecDepth 100000 in
theorem c_X5_field (l : Launch) (D : va_G) (ha : Nat → Nat) (cy : Nat → ClassId) (sz : Nat) (σ : lf_St) (x1 : Int32) (x2 : Int32) (x3 : Int32) (Post : Int64 → lf_St → Prop) (hw : wp_X5_field x1 x2 x3 σ Post) : lf_Ml l yX5_field (lf_ws yX5_field cX5_field 4 (some .long)) rm_X5_field D (tyC_ cy) (wC_ ha cy) sz σ [.ref (ha 0), .int x1, .int x2, .int x3] Post := by
  refine lf_ofl (by decide +kernel) (Nat.le_of_ble_eq_true rfl) ?_
  intro p e s m args below meth c A ls F hh hl
  have hx := F.1.1
  have hb := F.1.2.1
  have hl : lv_has ls 4 [(0, .ref (ha 0)), (1, .int x1), (2, .int x2), (3, .int x3)] := hl
  obtain ⟨H, hHe⟩ : ∃ H, H = s.heap := ⟨_, rfl⟩
  rw [← hHe] at hh ⊢
  unfold wp_X5_field at hw
  refine lv_aload_n hx hb dX5_field_0 rfl (lv_at hl 0 rfl) ?_
  refine fg_X5_30 F hh dX5_field_1 ?_
  refine fg_X5_173 F hh dX5_field_4 ?_
  refine lv_if_ne (tgt := 14) hx hb dX5_field_7 (by decide) (fun c1 => ?_) (fun c1 => ?_)
  · have hw := hw.1 c1
    refine lv_aload_n hx hb dX5_field_14 rfl (lv_at hl 0 rfl) ?_
    refine fg_X5_12 F hh dX5_field_15 ?_
    refine lv_iload_n hx hb dX5_field_18 rfl (lv_at hl 1 rfl) ?_
    refine lf_callVi (rest := []) F hh (cw_X5_56 F.1.2.2.2.2 ⟨Nat.le_of_ble_eq_true rfl, Nat.le_of_ble_eq_true rfl⟩) (c_X2_hasJoint l D ha cy H.size σ x1 _ hw) 1 2 rfl rfl rfl rfl hl.1 (Nat.le_of_ble_eq_true rfl) dX5_field_19 rfl (fun r2 σ2 H locs hw hh => ?_)
    refine lv_if_ne (tgt := 29) hx hb dX5_field_22 (by decide) (fun c3 => ?_) (fun c3 => ?_)
    · have hw := hw.1 c3
      refine lv_iload_n hx hb dX5_field_29 rfl (lv_at hl 2 rfl) ?_
      refine lv_if_lt (tgt := 45) hx hb dX5_field_30 (by decide) (fun c4 => ?_) (fun c4 => ?_)
      · have hw := hw.1 c4
        refine lv_ldc2 hx hb F.1.2.2.2.1 (F.1.2.2.2.2 _ (lr_24 _ (List.mem_of_getElem? (i := 1) rfl))) dX5_field_45 ?_
        exact lf_retl F hh hw dX5_field_48
      · have hw := hw.2 c4
        refine lv_iload_n hx hb dX5_field_33 rfl (lv_at hl 2 rfl) ?_
        refine lv_iconst (v := 1) hx hb dX5_field_34 (by decide) ?_
        refine lv_icmp_gt (tgt := 45) hx hb dX5_field_35 (by decide) (fun c5 => ?_) (fun c5 => ?_)
        · have hw := hw.1 c5
          refine lv_ldc2 hx hb F.1.2.2.2.1 (F.1.2.2.2.2 _ (lr_24 _ (List.mem_of_getElem? (i := 1) rfl))) dX5_field_45 ?_
          exact lf_retl F hh hw dX5_field_48
        · have hw := hw.2 c5
          refine lv_iload_n hx hb dX5_field_38 rfl (lv_at hl 3 rfl) ?_
          refine lf_callSi (rest := []) F hh (cw_X5_136 F.1.2.2.2.2 ⟨Nat.le_of_ble_eq_true rfl, Nat.le_of_ble_eq_true rfl⟩) (c_X5_isPart l D ha cy H.size σ2 x3 _ hw) rfl hl.1 (Nat.le_of_ble_eq_true rfl) dX5_field_39 rfl (fun r6 σ6 H locs hw hh => ?_)
          refine lv_if_ne (tgt := 49) hx hb dX5_field_42 (by decide) (fun c7 => ?_) (fun c7 => ?_)
          · have hw := hw.1 c7
            refine lv_aload_n hx hb dX5_field_49 rfl (lv_at hl 0 rfl) ?_
            refine fg_X5_30 F hh dX5_field_50 ?_
            refine lv_iload_n hx hb dX5_field_53 rfl (lv_at hl 1 rfl) ?_
            refine lv_iload_n hx hb dX5_field_54 rfl (lv_at hl 2 rfl) ?_
            refine lf_callVl (rest := []) F hh (cw_X5_181 F.1.2.2.2.2 ⟨Nat.le_of_ble_eq_true rfl, Nat.le_of_ble_eq_true rfl⟩) (c_X3_fieldTop l D ha cy H.size σ6 x1 x2 _ hw) 19 3 rfl rfl rfl rfl hl.1 (Nat.le_of_ble_eq_true rfl) dX5_field_55 rfl (fun r8 σ8 H locs hw hh => ?_)
            refine lv_aload_n hx hb dX5_field_58 rfl (lv_at hl 0 rfl) ?_
            refine fg_X5_30 F hh dX5_field_59 ?_
            refine fg_X5_185 F hh dX5_field_62 ?_
            refine lv_iload_n hx hb dX5_field_65 rfl (lv_at hl 3 rfl) ?_
            refine lf_callSl (rest := []) F hh (cw_X5_150 F.1.2.2.2.2 ⟨Nat.le_of_ble_eq_true rfl, Nat.le_of_ble_eq_true rfl⟩) (c_X5_partOf l D ha cy H.size σ8 r8 (lf_gl σ8 1) x3 _ hw) rfl hl.1 (Nat.le_of_ble_eq_true rfl) dX5_field_66 rfl (fun r9 σ9 H locs hw hh => ?_)
            exact lf_retl F hh hw dX5_field_69
          · have hw := hw.2 c7
            refine lv_ldc2 hx hb F.1.2.2.2.1 (F.1.2.2.2.2 _ (lr_24 _ (List.mem_of_getElem? (i := 1) rfl))) dX5_field_45 ?_
            exact lf_retl F hh hw dX5_field_48
    · have hw := hw.2 c3
      refine lv_ldc2 hx hb F.1.2.2.2.1 (F.1.2.2.2.2 _ (lr_25 _ (List.mem_of_getElem? (i := 10) rfl))) dX5_field_25 ?_
      exact lf_retl F hh hw dX5_field_28
  · have hw := hw.2 c1
    refine lv_ldc2 hx hb F.1.2.2.2.1 (F.1.2.2.2.2 _ (lr_30 _ (List.mem_of_getElem? (i := 13) rfl))) dX5_field_10 ?_
    exact lf_retl F hh hw dX5_field_13
theorem cw_X5_186 {R : Room} {s : State} {args : Array Value} (ht : ∀ w ∈ wsL_law, w.before args s = true) (hR : rm_X3_slackTop.frames + 1 ≤ R.frames ∧ 8 + (6 + 11) + rm_X3_slackTop.locals ≤ R.locals) : lf_cV R s args RX5 RX3 186 yX3_slackTop cX3_slackTop 6 (some .long) rm_X3_slackTop 1 :=
  lf_cV_of 1 ht (lr_29 _ (List.mem_of_getElem? (i := 1) rfl)) (lr_31 _ (List.mem_of_getElem? (i := 1) rfl)) (lr_28 _ (List.mem_of_getElem? (i := 23) rfl)) (lr_29 _ (List.mem_of_getElem? (i := 0) rfl)) (lr_1 _ (List.mem_of_getElem? (i := 22) rfl)) rfl rfl (by decide +kernel) hR
def wp_X5_slack (x1 : Int32) (x2 : Int32) (σ : lf_St) (Post : Int64 → lf_St → Prop) : Prop := ((¬ (lf_gi σ 8) = 0) → (wp_X2_hasBar x1 σ (fun r2 σ2 => ((¬ r2 = 0) → (wp_X5_isPart x2 σ2 (fun r4 σ4 => ((¬ r4 = 0) → (wp_X3_slackTop x1 σ4 (fun r6 σ6 => wp_X5_partOf r6 (lf_gl σ6 1) x2 σ6 (fun r7 σ7 => Post r7 σ7)))) ∧ ((r4 = 0) → (Post (-1000000000000002) σ4))))) ∧ ((r2 = 0) → (Post (-1000000000000001) σ2))))) ∧ (((lf_gi σ 8) = 0) → (Post (-1000000000000003) σ))
def rm_X5_slack : Room := ({ frames := 2, cells := 0, slots := 0, locals := 56 } : Room)
set_option maxHeartbeats 4000000 in
set_option maxRecDepth 100000 in
theorem c_X5_slack (l : Launch) (D : va_G) (ha : Nat → Nat) (cy : Nat → ClassId) (sz : Nat) (σ : lf_St) (x1 : Int32) (x2 : Int32) (Post : Int64 → lf_St → Prop) (hw : wp_X5_slack x1 x2 σ Post) : lf_Ml l yX5_slack (lf_ws yX5_slack cX5_slack 3 (some .long)) rm_X5_slack D (tyC_ cy) (wC_ ha cy) sz σ [.ref (ha 0), .int x1, .int x2] Post := by
  refine lf_ofl (by decide +kernel) (Nat.le_of_ble_eq_true rfl) ?_
  intro p e s m args below meth c A ls F hh hl
  have hx := F.1.1
  have hb := F.1.2.1
  have hl : lv_has ls 3 [(0, .ref (ha 0)), (1, .int x1), (2, .int x2)] := hl
  obtain ⟨H, hHe⟩ : ∃ H, H = s.heap := ⟨_, rfl⟩
  rw [← hHe] at hh ⊢
  unfold wp_X5_slack at hw
  refine lv_aload_n hx hb dX5_slack_0 rfl (lv_at hl 0 rfl) ?_
  refine fg_X5_30 F hh dX5_slack_1 ?_
  refine fg_X5_173 F hh dX5_slack_4 ?_
  refine lv_if_ne (tgt := 14) hx hb dX5_slack_7 (by decide) (fun c1 => ?_) (fun c1 => ?_)
  · have hw := hw.1 c1
    refine lv_aload_n hx hb dX5_slack_14 rfl (lv_at hl 0 rfl) ?_
    refine fg_X5_12 F hh dX5_slack_15 ?_
    refine lv_iload_n hx hb dX5_slack_18 rfl (lv_at hl 1 rfl) ?_
    refine lf_callVi (rest := []) F hh (cw_X5_85 F.1.2.2.2.2 ⟨Nat.le_of_ble_eq_true rfl, Nat.le_of_ble_eq_true rfl⟩) (c_X2_hasBar l D ha cy H.size σ x1 _ hw) 1 2 rfl rfl rfl rfl hl.1 (Nat.le_of_ble_eq_true rfl) dX5_slack_19 rfl (fun r2 σ2 H locs hw hh => ?_)
    refine lv_if_ne (tgt := 29) hx hb dX5_slack_22 (by decide) (fun c3 => ?_) (fun c3 => ?_)
    · have hw := hw.1 c3
      refine lv_iload_n hx hb dX5_slack_29 rfl (lv_at hl 2 rfl) ?_
      refine lf_callSi (rest := []) F hh (cw_X5_136 F.1.2.2.2.2 ⟨Nat.le_of_ble_eq_true rfl, Nat.le_of_ble_eq_true rfl⟩) (c_X5_isPart l D ha cy H.size σ2 x2 _ hw) rfl hl.1 (Nat.le_of_ble_eq_true rfl) dX5_slack_30 rfl (fun r4 σ4 H locs hw hh => ?_)
      refine lv_if_ne (tgt := 40) hx hb dX5_slack_33 (by decide) (fun c5 => ?_) (fun c5 => ?_)
      · have hw := hw.1 c5
        refine lv_aload_n hx hb dX5_slack_40 rfl (lv_at hl 0 rfl) ?_
        refine fg_X5_30 F hh dX5_slack_41 ?_
        refine lv_iload_n hx hb dX5_slack_44 rfl (lv_at hl 1 rfl) ?_
        refine lf_callVl (rest := []) F hh (cw_X5_186 F.1.2.2.2.2 ⟨Nat.le_of_ble_eq_true rfl, Nat.le_of_ble_eq_true rfl⟩) (c_X3_slackTop l D ha cy H.size σ4 x1 _ hw) 19 3 rfl rfl rfl rfl hl.1 (Nat.le_of_ble_eq_true rfl) dX5_slack_45 rfl (fun r6 σ6 H locs hw hh => ?_)
        refine lv_aload_n hx hb dX5_slack_48 rfl (lv_at hl 0 rfl) ?_
        refine fg_X5_30 F hh dX5_slack_49 ?_
        refine fg_X5_185 F hh dX5_slack_52 ?_
        refine lv_iload_n hx hb dX5_slack_55 rfl (lv_at hl 2 rfl) ?_
        refine lf_callSl (rest := []) F hh (cw_X5_150 F.1.2.2.2.2 ⟨Nat.le_of_ble_eq_true rfl, Nat.le_of_ble_eq_true rfl⟩) (c_X5_partOf l D ha cy H.size σ6 r6 (lf_gl σ6 1) x2 _ hw) rfl hl.1 (Nat.le_of_ble_eq_true rfl) dX5_slack_56 rfl (fun r7 σ7 H locs hw hh => ?_)
        exact lf_retl F hh hw dX5_slack_59
      · have hw := hw.2 c5
        refine lv_ldc2 hx hb F.1.2.2.2.1 (F.1.2.2.2.2 _ (lr_24 _ (List.mem_of_getElem? (i := 1) rfl))) dX5_slack_36 ?_
        exact lf_retl F hh hw dX5_slack_39
    · have hw := hw.2 c3
      refine lv_ldc2 hx hb F.1.2.2.2.1 (F.1.2.2.2.2 _ (lr_25 _ (List.mem_of_getElem? (i := 10) rfl))) dX5_slack_25 ?_
      exact lf_retl F hh hw dX5_slack_28
  · have hw := hw.2 c1
    refine lv_ldc2 hx hb F.1.2.2.2.1 (F.1.2.2.2.2 _ (lr_30 _ (List.mem_of_getElem? (i := 13) rfl))) dX5_slack_10 ?_
    exact lf_retl F hh hw dX5_slack_13
def wp_X5_told (x1 : Int32) (σ : lf_St) (Post : Int32 → lf_St → Prop) : Prop := ((x1 = 0) → (Post (lf_gi σ 0) σ)) ∧ (¬ (x1 = 0) → (((x1 = 1) → (Post (lf_gi σ 1) σ)) ∧ (¬ (x1 = 1) → (((x1 = 2) → (Post (lf_gi σ 2) σ)) ∧ (¬ (x1 = 2) → (((x1 = 3) → (Post (lf_gi σ 3) σ)) ∧ (¬ (x1 = 3) → (((x1 = 4) → (Post (lf_gi σ 4) σ)) ∧ (¬ (x1 = 4) → (Post (-2) σ))))))))))
def rm_X5_told : Room := ({ frames := 0, cells := 0, slots := 0, locals := 0 } : Room)
set_option maxHeartbeats 4000000 in
set_option maxRecDepth 100000 in
theorem c_X5_told (l : Launch) (D : va_G) (ha : Nat → Nat) (cy : Nat → ClassId) (sz : Nat) (σ : lf_St) (x1 : Int32) (Post : Int32 → lf_St → Prop) (hw : wp_X5_told x1 σ Post) : lf_Mi l yX5_told (lf_ws yX5_told cX5_told 2 (some .int)) rm_X5_told D (tyC_ cy) (wC_ ha cy) sz σ [.ref (ha 0), .int x1] Post := by
  refine lf_ofi (by decide +kernel) (Nat.le_of_ble_eq_true rfl) ?_
  intro p e s m args below meth c A ls F hh hl
  have hx := F.1.1
  have hb := F.1.2.1
  have hl : lv_has ls 2 [(0, .ref (ha 0)), (1, .int x1)] := hl
  obtain ⟨H, hHe⟩ : ∃ H, H = s.heap := ⟨_, rfl⟩
  rw [← hHe] at hh ⊢
  unfold wp_X5_told at hw
  refine lv_iload_n hx hb dX5_told_0 rfl (lv_at hl 1 rfl) ?_
  by_cases c1 : x1 = 0
  · have hw := hw.1 c1
    refine lv_tableIn (tgt := 36) hx hb dX5_told_1 (by rw [c1]; decide) (by rw [c1]; decide) (by rw [c1]; rfl) (by decide) ?_
    refine lv_aload_n hx hb dX5_told_36 rfl (lv_at hl 0 rfl) ?_
    refine fg_X5_12 F hh dX5_told_37 ?_
    refine fg_X5_38 F hh dX5_told_40 ?_
    exact lf_reti F hh hw dX5_told_43
  · have hw := hw.2 c1
    by_cases c2 : x1 = 1
    · have hw := hw.1 c2
      refine lv_tableIn (tgt := 44) hx hb dX5_told_1 (by rw [c2]; decide) (by rw [c2]; decide) (by rw [c2]; rfl) (by decide) ?_
      refine lv_aload_n hx hb dX5_told_44 rfl (lv_at hl 0 rfl) ?_
      refine fg_X5_12 F hh dX5_told_45 ?_
      refine fg_X5_42 F hh dX5_told_48 ?_
      exact lf_reti F hh hw dX5_told_51
    · have hw := hw.2 c2
      by_cases c3 : x1 = 2
      · have hw := hw.1 c3
        refine lv_tableIn (tgt := 52) hx hb dX5_told_1 (by rw [c3]; decide) (by rw [c3]; decide) (by rw [c3]; rfl) (by decide) ?_
        refine lv_aload_n hx hb dX5_told_52 rfl (lv_at hl 0 rfl) ?_
        refine fg_X5_12 F hh dX5_told_53 ?_
        refine fg_X5_59 F hh dX5_told_56 ?_
        exact lf_reti F hh hw dX5_told_59
      · have hw := hw.2 c3
        by_cases c4 : x1 = 3
        · have hw := hw.1 c4
          refine lv_tableIn (tgt := 60) hx hb dX5_told_1 (by rw [c4]; decide) (by rw [c4]; decide) (by rw [c4]; rfl) (by decide) ?_
          refine lv_aload_n hx hb dX5_told_60 rfl (lv_at hl 0 rfl) ?_
          refine fg_X5_12 F hh dX5_told_61 ?_
          refine fg_X5_97 F hh dX5_told_64 ?_
          exact lf_reti F hh hw dX5_told_67
        · have hw := hw.2 c4
          by_cases c5 : x1 = 4
          · have hw := hw.1 c5
            refine lv_tableIn (tgt := 68) hx hb dX5_told_1 (by rw [c5]; decide) (by rw [c5]; decide) (by rw [c5]; rfl) (by decide) ?_
            refine lv_aload_n hx hb dX5_told_68 rfl (lv_at hl 0 rfl) ?_
            refine fg_X5_12 F hh dX5_told_69 ?_
            refine fg_X5_107 F hh dX5_told_72 ?_
            exact lf_reti F hh hw dX5_told_75
          · have hw := hw.2 c5
            refine lv_tableOut (tgt := 76) hx hb dX5_told_1 (lf_sw_0_4 c1 c2 c3 c4 c5) (by decide) ?_
            refine lv_bipush (v := (-2)) hx hb dX5_told_76 (by decide) ?_
            exact lf_reti F hh hw dX5_told_78
