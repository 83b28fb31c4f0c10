def wp_X6_field (x1 : Int32) (x2 : Int32) (x3 : Int32) (σ : lf_St) (Post : Int64 → lf_St → Prop) : Prop := ((¬ (lf_gi σ 12) = 0) → (wp_X6_isJoint x1 σ (fun r2 σ2 => ((¬ r2 = 0) → (wp_X6_isPart x2 σ2 (fun r4 σ4 => ((r4 = 0) → (Post (-1000000000000002) σ4)) ∧ ((¬ (r4 = 0)) → (wp_X6_isPart x3 σ4 (fun r6 σ6 => ((¬ r6 = 0) → (vp_in x1 6 ∧ ((((lf_ai σ6 3 x1.toNatClampNeg) = 0) → (vp_in x1 6 ∧ (vp_in ((lf_ai σ6 13 x1.toNatClampNeg) + x2) 6 ∧ (wp_X6_term (lf_al σ6 24 (((lf_ai σ6 13 x1.toNatClampNeg) + x2) : Int32).toNatClampNeg) (lf_gl σ6 25) x3 σ6 (fun r12 σ12 => Post r12 σ12))))) ∧ ((¬ ((lf_ai σ6 3 x1.toNatClampNeg) = 0)) → (wp_X6_term 0 1 x3 σ6 (fun r13 σ13 => Post r13 σ13)))))) ∧ ((r6 = 0) → (Post (-1000000000000002) σ6)))))))) ∧ ((r2 = 0) → (Post (-1000000000000001) σ2))))) ∧ (((lf_gi σ 12) = 0) → (Post (-1000000000000003) σ))
def rm_X6_field : Room := ({ frames := 2, cells := 0, slots := 0, locals := 55 } : Room)
set_option maxHeartbeats 4000000 in
set_option maxRecDepth 100000 in
theorem c_X6_field (l : Launch) (D : va_G) (ha : Nat → Nat) (cy : Nat → ClassId) (sz : Nat) (σ : lf_St) (x1 : Int32) (x2 : Int32) (x3 : Int32) (Post : Int64 → lf_St → Prop) (hw : wp_X6_field x1 x2 x3 σ Post) : lf_Ml l yX6_field (lf_ws yX6_field cX6_field 4 (some .long)) rm_X6_field D (tyM_ cy) (wM_ ha cy) sz σ [.ref (ha 0), .int x1, .int x2, .int x3] Post := by
  refine lf_ofl (by decide +kernel) (Nat.le_of_ble_eq_true rfl) ?_
  intro p e s m args below meth c A ls F hh hl
  have hx := F.1.1
  have hb := F.1.2.1
  have hl : lv_has ls 4 [(0, .ref (ha 0)), (1, .int x1), (2, .int x2), (3, .int x3)] := hl
  obtain ⟨H, hHe⟩ : ∃ H, H = s.heap := ⟨_, rfl⟩
  rw [← hHe] at hh ⊢
  unfold wp_X6_field at hw
  refine lv_aload_n hx hb dX6_field_0 rfl (lv_at hl 0 rfl) ?_
  refine fg_X6_78 F hh dX6_field_1 ?_
  refine lv_if_ne (tgt := 11) hx hb dX6_field_4 (by decide) (fun c1 => ?_) (fun c1 => ?_)
  · have hw := hw.1 c1
    refine lv_aload_n hx hb dX6_field_11 rfl (lv_at hl 0 rfl) ?_
    refine lv_iload_n hx hb dX6_field_12 rfl (lv_at hl 1 rfl) ?_
    refine lf_callVi (rest := []) F hh (cw_X6_82 F.1.2.2.2.2 ⟨Nat.le_of_ble_eq_true rfl, Nat.le_of_ble_eq_true rfl⟩) (c_X6_isJoint l D ha cy H.size σ x1 _ hw) 0 6 rfl rfl rfl rfl hl.1 (Nat.le_of_ble_eq_true rfl) dX6_field_13 rfl (fun r2 σ2 H locs hw hh => ?_)
    refine lv_if_ne (tgt := 23) hx hb dX6_field_16 (by decide) (fun c3 => ?_) (fun c3 => ?_)
    · have hw := hw.1 c3
      refine lv_iload_n hx hb dX6_field_23 rfl (lv_at hl 2 rfl) ?_
      refine lf_callSi (rest := []) F hh (cw_X6_182 F.1.2.2.2.2 ⟨Nat.le_of_ble_eq_true rfl, Nat.le_of_ble_eq_true rfl⟩) (c_X6_isPart l D ha cy H.size σ2 x2 _ hw) rfl hl.1 (Nat.le_of_ble_eq_true rfl) dX6_field_24 rfl (fun r4 σ4 H locs hw hh => ?_)
      refine lv_if_eq (tgt := 37) hx hb dX6_field_27 (by decide) (fun c5 => ?_) (fun c5 => ?_)
      · have hw := hw.1 c5
        refine lv_ldc2 hx hb F.1.2.2.2.1 (F.1.2.2.2.2 _ (lr_24 _ (List.mem_of_getElem? (i := 19) rfl))) dX6_field_37 ?_
        exact lf_retl F hh hw dX6_field_40
      · have hw := hw.2 c5
        refine lv_iload_n hx hb dX6_field_30 rfl (lv_at hl 3 rfl) ?_
        refine lf_callSi (rest := []) F hh (cw_X6_182 F.1.2.2.2.2 ⟨Nat.le_of_ble_eq_true rfl, Nat.le_of_ble_eq_true rfl⟩) (c_X6_isPart l D ha cy H.size σ4 x3 _ hw) rfl hl.1 (Nat.le_of_ble_eq_true rfl) dX6_field_31 rfl (fun r6 σ6 H locs hw hh => ?_)
        refine lv_if_ne (tgt := 41) hx hb dX6_field_34 (by decide) (fun c7 => ?_) (fun c7 => ?_)
        · have hw := hw.1 c7
          refine lv_aload_n hx hb dX6_field_41 rfl (lv_at hl 0 rfl) ?_
          refine fg_X6_16 F hh dX6_field_42 ?_
          refine lv_iload_n hx hb dX6_field_45 rfl (lv_at hl 1 rfl) ?_
          obtain ⟨q8, hw⟩ := hw
          refine ra_M_3 F hh q8 dX6_field_46 ?_
          refine lv_if_eq (tgt := 59) hx hb dX6_field_47 (by decide) (fun c9 => ?_) (fun c9 => ?_)
          · have hw := hw.1 c9
            refine lv_aload_n hx hb dX6_field_59 rfl (lv_at hl 0 rfl) ?_
            refine fg_X6_54 F hh dX6_field_60 ?_
            refine lv_aload_n hx hb dX6_field_63 rfl (lv_at hl 0 rfl) ?_
            refine fg_X6_35 F hh dX6_field_64 ?_
            refine lv_iload_n hx hb dX6_field_67 rfl (lv_at hl 1 rfl) ?_
            obtain ⟨q10, hw⟩ := hw
            refine ra_M_13 F hh q10 dX6_field_68 ?_
            refine lv_iload_n hx hb dX6_field_69 rfl (lv_at hl 2 rfl) ?_
            refine lv_iadd hx hb dX6_field_70 ?_
            obtain ⟨q11, hw⟩ := hw
            refine ra_M_24 F hh q11 dX6_field_71 ?_
            refine lv_aload_n hx hb dX6_field_72 rfl (lv_at hl 0 rfl) ?_
            refine fg_X6_201 F hh dX6_field_73 ?_
            refine lv_iload_n hx hb dX6_field_76 rfl (lv_at hl 3 rfl) ?_
            refine lf_callSl (rest := []) F hh (cw_X6_189 F.1.2.2.2.2 ⟨Nat.le_of_ble_eq_true rfl, Nat.le_of_ble_eq_true rfl⟩) (c_X6_term l D ha cy H.size σ6 (lf_al σ6 24 (((lf_ai σ6 13 x1.toNatClampNeg) + x2) : Int32).toNatClampNeg) (lf_gl σ6 25) x3 _ hw) rfl hl.1 (Nat.le_of_ble_eq_true rfl) dX6_field_77 rfl (fun r12 σ12 H locs hw hh => ?_)
            exact lf_retl F hh hw dX6_field_80
          · have hw := hw.2 c9
            refine lv_lconst (v := 0) hx hb dX6_field_50 (by decide) ?_
            refine lv_lconst (v := 1) hx hb dX6_field_51 (by decide) ?_
            refine lv_iload_n hx hb dX6_field_52 rfl (lv_at hl 3 rfl) ?_
            refine lf_callSl (rest := []) F hh (cw_X6_189 F.1.2.2.2.2 ⟨Nat.le_of_ble_eq_true rfl, Nat.le_of_ble_eq_true rfl⟩) (c_X6_term l D ha cy H.size σ6 0 1 x3 _ hw) rfl hl.1 (Nat.le_of_ble_eq_true rfl) dX6_field_53 rfl (fun r13 σ13 H locs hw hh => ?_)
            refine lv_goto (tgt := 80) hx hb dX6_field_56 (by decide) ?_
            exact lf_retl F hh hw dX6_field_80
        · have hw := hw.2 c7
          refine lv_ldc2 hx hb F.1.2.2.2.1 (F.1.2.2.2.2 _ (lr_24 _ (List.mem_of_getElem? (i := 19) rfl))) dX6_field_37 ?_
          exact lf_retl F hh hw dX6_field_40
    · have hw := hw.2 c3
      refine lv_ldc2 hx hb F.1.2.2.2.1 (F.1.2.2.2.2 _ (lr_25 _ (List.mem_of_getElem? (i := 16) rfl))) dX6_field_19 ?_
      exact lf_retl F hh hw dX6_field_22
  · have hw := hw.2 c1
    refine lv_ldc2 hx hb F.1.2.2.2.1 (F.1.2.2.2.2 _ (lr_30 _ (List.mem_of_getElem? (i := 20) rfl))) dX6_field_7 ?_
    exact lf_retl F hh hw dX6_field_10
def wp_X6_slack (x1 : Int32) (x2 : Int32) (σ : lf_St) (Post : Int64 → lf_St → Prop) : Prop := ((¬ (lf_gi σ 12) = 0) → (wp_X6_isBar x1 σ (fun r2 σ2 => ((¬ r2 = 0) → (wp_X6_isPart x2 σ2 (fun r4 σ4 => ((¬ r4 = 0) → (wp_X6_stuff x1 σ4 (fun r6 σ6 => wp_X6_numberOf x1 σ6 (fun r7 σ7 => wp_X6_abs r7 σ7 (fun r8 σ8 => wp_X6_term (((r6.toInt64) * (lf_gl σ6 25)) - r8) (lf_gl σ8 25) x2 σ8 (fun r9 σ9 => Post r9 σ9)))))) ∧ ((r4 = 0) → (Post (-1000000000000002) σ4))))) ∧ ((r2 = 0) → (Post (-1000000000000001) σ2))))) ∧ (((lf_gi σ 12) = 0) → (Post (-1000000000000003) σ))
def rm_X6_slack : Room := ({ frames := 2, cells := 0, slots := 0, locals := 55 } : Room)
set_option maxHeartbeats 4000000 in
set_option maxRecDepth 100000 in
theorem c_X6_slack (l : Launch) (D : va_G) (ha : Nat → Nat) (cy : Nat → ClassId) (sz : Nat) (σ : lf_St) (x1 : Int32) (x2 : Int32) (Post : Int64 → lf_St → Prop) (hw : wp_X6_slack x1 x2 σ Post) : lf_Ml l yX6_slack (lf_ws yX6_slack cX6_slack 3 (some .long)) rm_X6_slack D (tyM_ cy) (wM_ ha cy) sz σ [.ref (ha 0), .int x1, .int x2] Post := by
  refine lf_ofl (by decide +kernel) (Nat.le_of_ble_eq_true rfl) ?_
  intro p e s m args below meth c A ls F hh hl
  have hx := F.1.1
  have hb := F.1.2.1
  have hl : lv_has ls 3 [(0, .ref (ha 0)), (1, .int x1), (2, .int x2)] := hl
  obtain ⟨H, hHe⟩ : ∃ H, H = s.heap := ⟨_, rfl⟩
  rw [← hHe] at hh ⊢
  unfold wp_X6_slack at hw
  refine lv_aload_n hx hb dX6_slack_0 rfl (lv_at hl 0 rfl) ?_
  refine fg_X6_78 F hh dX6_slack_1 ?_
  refine lv_if_ne (tgt := 11) hx hb dX6_slack_4 (by decide) (fun c1 => ?_) (fun c1 => ?_)
  · have hw := hw.1 c1
    refine lv_aload_n hx hb dX6_slack_11 rfl (lv_at hl 0 rfl) ?_
    refine lv_iload_n hx hb dX6_slack_12 rfl (lv_at hl 1 rfl) ?_
    refine lf_callVi (rest := []) F hh (cw_X6_90 F.1.2.2.2.2 ⟨Nat.le_of_ble_eq_true rfl, Nat.le_of_ble_eq_true rfl⟩) (c_X6_isBar l D ha cy H.size σ x1 _ hw) 0 6 rfl rfl rfl rfl hl.1 (Nat.le_of_ble_eq_true rfl) dX6_slack_13 rfl (fun r2 σ2 H locs hw hh => ?_)
    refine lv_if_ne (tgt := 23) hx hb dX6_slack_16 (by decide) (fun c3 => ?_) (fun c3 => ?_)
    · have hw := hw.1 c3
      refine lv_iload_n hx hb dX6_slack_23 rfl (lv_at hl 2 rfl) ?_
      refine lf_callSi (rest := []) F hh (cw_X6_182 F.1.2.2.2.2 ⟨Nat.le_of_ble_eq_true rfl, Nat.le_of_ble_eq_true rfl⟩) (c_X6_isPart l D ha cy H.size σ2 x2 _ hw) rfl hl.1 (Nat.le_of_ble_eq_true rfl) dX6_slack_24 rfl (fun r4 σ4 H locs hw hh => ?_)
      refine lv_if_ne (tgt := 34) hx hb dX6_slack_27 (by decide) (fun c5 => ?_) (fun c5 => ?_)
      · have hw := hw.1 c5
        refine lv_aload_n hx hb dX6_slack_34 rfl (lv_at hl 0 rfl) ?_
        refine lv_iload_n hx hb dX6_slack_35 rfl (lv_at hl 1 rfl) ?_
        refine lf_callVi (rest := []) F hh (cw_X6_93 F.1.2.2.2.2 ⟨Nat.le_of_ble_eq_true rfl, Nat.le_of_ble_eq_true rfl⟩) (c_X6_stuff l D ha cy H.size σ4 x1 _ hw) 0 6 rfl rfl rfl rfl hl.1 (Nat.le_of_ble_eq_true rfl) dX6_slack_36 rfl (fun r6 σ6 H locs hw hh => ?_)
        refine lv_i2l hx hb dX6_slack_39 rfl ?_
        refine lv_aload_n hx hb dX6_slack_40 rfl (lv_at hl 0 rfl) ?_
        refine fg_X6_201 F hh dX6_slack_41 ?_
        refine lv_lmul hx hb dX6_slack_44 ?_
        refine lv_aload_n hx hb dX6_slack_45 rfl (lv_at hl 0 rfl) ?_
        refine lv_iload_n hx hb dX6_slack_46 rfl (lv_at hl 1 rfl) ?_
        refine lf_callVl (rest := [.long ((r6.toInt64) * (lf_gl σ6 25))]) F hh (cw_X6_204 F.1.2.2.2.2 ⟨Nat.le_of_ble_eq_true rfl, Nat.le_of_ble_eq_true rfl⟩) (c_X6_numberOf l D ha cy H.size σ6 x1 _ hw) 0 6 rfl rfl rfl rfl hl.1 (Nat.le_of_ble_eq_true rfl) dX6_slack_47 rfl (fun r7 σ7 H locs hw hh => ?_)
        refine lf_callSl (rest := [.long ((r6.toInt64) * (lf_gl σ6 25))]) F hh (cw_X6_140 F.1.2.2.2.2 ⟨Nat.le_of_ble_eq_true rfl, Nat.le_of_ble_eq_true rfl⟩) (c_X6_abs l D ha cy H.size σ7 r7 _ hw) rfl hl.1 (Nat.le_of_ble_eq_true rfl) dX6_slack_50 rfl (fun r8 σ8 H locs hw hh => ?_)
        refine lv_lsub hx hb dX6_slack_53 ?_
        refine lv_aload_n hx hb dX6_slack_54 rfl (lv_at hl 0 rfl) ?_
        refine fg_X6_201 F hh dX6_slack_55 ?_
        refine lv_iload_n hx hb dX6_slack_58 rfl (lv_at hl 2 rfl) ?_
        refine lf_callSl (rest := []) F hh (cw_X6_189 F.1.2.2.2.2 ⟨Nat.le_of_ble_eq_true rfl, Nat.le_of_ble_eq_true rfl⟩) (c_X6_term l D ha cy H.size σ8 (((r6.toInt64) * (lf_gl σ6 25)) - r8) (lf_gl σ8 25) x2 _ hw) rfl hl.1 (Nat.le_of_ble_eq_true rfl) dX6_slack_59 rfl (fun r9 σ9 H locs hw hh => ?_)
        exact lf_retl F hh hw dX6_slack_62
      · have hw := hw.2 c5
        refine lv_ldc2 hx hb F.1.2.2.2.1 (F.1.2.2.2.2 _ (lr_24 _ (List.mem_of_getElem? (i := 19) rfl))) dX6_slack_30 ?_
        exact lf_retl F hh hw dX6_slack_33
    · have hw := hw.2 c3
      refine lv_ldc2 hx hb F.1.2.2.2.1 (F.1.2.2.2.2 _ (lr_25 _ (List.mem_of_getElem? (i := 16) rfl))) dX6_slack_19 ?_
      exact lf_retl F hh hw dX6_slack_22
  · have hw := hw.2 c1
    refine lv_ldc2 hx hb F.1.2.2.2.1 (F.1.2.2.2.2 _ (lr_30 _ (List.mem_of_getElem? (i := 20) rfl))) dX6_slack_7 ?_
    exact lf_retl F hh hw dX6_slack_10
def wp_X6_told (x1 : Int32) (σ : lf_St) (Post : Int32 → lf_St → Prop) : Prop := ((x1 = 0) → (Post (lf_gi σ 0) σ)) ∧ (¬ (x1 = 0) → (((x1 = 1) → (wp_X6_frees σ (fun r3 σ3 => Post r3 σ3))) ∧ (¬ (x1 = 1) → (((x1 = 2) → (Post (lf_gi σ 6) σ)) ∧ (¬ (x1 = 2) → (((x1 = 3) → (Post (lf_gi σ 9) σ)) ∧ (¬ (x1 = 3) → (((x1 = 4) → (Post (lf_gi σ 11) σ)) ∧ (¬ (x1 = 4) → (Post (-2) σ))))))))))
def rm_X6_told : Room := ({ frames := 1, cells := 0, slots := 0, locals := 22 } : Room)
set_option maxHeartbeats 4000000 in
set_option maxRecDepth 100000 in
theorem c_X6_told (l : Launch) (D : va_G) (ha : Nat → Nat) (cy : Nat → ClassId) (sz : Nat) (σ : lf_St) (x1 : Int32) (Post : Int32 → lf_St → Prop) (hw : wp_X6_told x1 σ Post) : lf_Mi l yX6_told (lf_ws yX6_told cX6_told 2 (some .int)) rm_X6_told D (tyM_ cy) (wM_ ha cy) sz σ [.ref (ha 0), .int x1] Post := by
  refine lf_ofi (by decide +kernel) (Nat.le_of_ble_eq_true rfl) ?_
  intro p e s m args below meth c A ls F hh hl
  have hx := F.1.1
  have hb := F.1.2.1
  have hl : lv_has ls 2 [(0, .ref (ha 0)), (1, .int x1)] := hl
  obtain ⟨H, hHe⟩ : ∃ H, H = s.heap := ⟨_, rfl⟩
  rw [← hHe] at hh ⊢
  unfold wp_X6_told at hw
  refine lv_iload_n hx hb dX6_told_0 rfl (lv_at hl 1 rfl) ?_
  by_cases c1 : x1 = 0
  · have hw := hw.1 c1
    refine lv_tableIn (tgt := 36) hx hb dX6_told_1 (by rw [c1]; decide) (by rw [c1]; decide) (by rw [c1]; rfl) (by decide) ?_
    refine lv_aload_n hx hb dX6_told_36 rfl (lv_at hl 0 rfl) ?_
    refine fg_X6_57 F hh dX6_told_37 ?_
    exact lf_reti F hh hw dX6_told_40
  · have hw := hw.2 c1
    by_cases c2 : x1 = 1
    · have hw := hw.1 c2
      refine lv_tableIn (tgt := 41) hx hb dX6_told_1 (by rw [c2]; decide) (by rw [c2]; decide) (by rw [c2]; rfl) (by decide) ?_
      refine lv_aload_n hx hb dX6_told_41 rfl (lv_at hl 0 rfl) ?_
      refine lf_callVi (rest := []) F hh (cw_X6_74 F.1.2.2.2.2 ⟨Nat.le_of_ble_eq_true rfl, Nat.le_of_ble_eq_true rfl⟩) (c_X6_frees l D ha cy H.size σ  _ hw) 0 6 rfl rfl rfl rfl hl.1 (Nat.le_of_ble_eq_true rfl) dX6_told_42 rfl (fun r3 σ3 H locs hw hh => ?_)
      exact lf_reti F hh hw dX6_told_45
    · have hw := hw.2 c2
      by_cases c4 : x1 = 2
      · have hw := hw.1 c4
        refine lv_tableIn (tgt := 46) hx hb dX6_told_1 (by rw [c4]; decide) (by rw [c4]; decide) (by rw [c4]; rfl) (by decide) ?_
        refine lv_aload_n hx hb dX6_told_46 rfl (lv_at hl 0 rfl) ?_
        refine fg_X6_65 F hh dX6_told_47 ?_
        exact lf_reti F hh hw dX6_told_50
      · have hw := hw.2 c4
        by_cases c5 : x1 = 3
        · have hw := hw.1 c5
          refine lv_tableIn (tgt := 51) hx hb dX6_told_1 (by rw [c5]; decide) (by rw [c5]; decide) (by rw [c5]; rfl) (by decide) ?_
          refine lv_aload_n hx hb dX6_told_51 rfl (lv_at hl 0 rfl) ?_
          refine fg_X6_99 F hh dX6_told_52 ?_
          exact lf_reti F hh hw dX6_told_55
        · have hw := hw.2 c5
          by_cases c6 : x1 = 4
          · have hw := hw.1 c6
            refine lv_tableIn (tgt := 56) hx hb dX6_told_1 (by rw [c6]; decide) (by rw [c6]; decide) (by rw [c6]; rfl) (by decide) ?_
            refine lv_aload_n hx hb dX6_told_56 rfl (lv_at hl 0 rfl) ?_
            refine fg_X6_104 F hh dX6_told_57 ?_
            exact lf_reti F hh hw dX6_told_60
          · have hw := hw.2 c6
            refine lv_tableOut (tgt := 61) hx hb dX6_told_1 (lf_sw_0_4 c1 c2 c4 c5 c6) (by decide) ?_
            refine lv_bipush (v := (-2)) hx hb dX6_told_61 (by decide) ?_
            exact lf_reti F hh hw dX6_told_63
