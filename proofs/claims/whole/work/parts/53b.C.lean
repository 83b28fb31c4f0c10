theorem cw_X1_65 {R : Room} {s : State} {args : Array Value} (ht : ∀ w ∈ wsL_law, w.before args s = true) (hR : rm_X1_rowWithPivot.frames + 1 ≤ R.frames ∧ 8 + (3 + 11) + rm_X1_rowWithPivot.locals ≤ R.locals) : lf_cV R s args RX1 RX1 65 yX1_rowWithPivot cX1_rowWithPivot 3 (some .int) rm_X1_rowWithPivot 1 :=
  lf_cV_of 1 ht (lr_16 _ (List.mem_of_getElem? (i := 17) rfl)) (lr_16 _ (List.mem_of_getElem? (i := 14) rfl)) (lr_16 _ (List.mem_of_getElem? (i := 15) rfl)) (lr_16 _ (List.mem_of_getElem? (i := 16) rfl)) (lr_3 _ (List.mem_of_getElem? (i := 4) rfl)) rfl rfl (by decide +kernel) hR
theorem cw_X1_69 {R : Room} {s : State} {args : Array Value} (ht : ∀ w ∈ wsL_law, w.before args s = true) (hR : rm_X1_swapRows.frames + 1 ≤ R.frames ∧ 8 + (6 + 11) + rm_X1_swapRows.locals ≤ R.locals) : lf_cV R s args RX1 RX1 69 yX1_swapRows cX1_swapRows 6 none rm_X1_swapRows 2 :=
  lf_cV_of 2 ht (lr_16 _ (List.mem_of_getElem? (i := 21) rfl)) (lr_16 _ (List.mem_of_getElem? (i := 18) rfl)) (lr_16 _ (List.mem_of_getElem? (i := 19) rfl)) (lr_16 _ (List.mem_of_getElem? (i := 20) rfl)) (lr_3 _ (List.mem_of_getElem? (i := 4) rfl)) rfl rfl (by decide +kernel) hR
theorem cw_X1_73 {R : Room} {s : State} {args : Array Value} (ht : ∀ w ∈ wsL_law, w.before args s = true) (hR : rm_X1_clearColumn.frames + 1 ≤ R.frames ∧ 8 + (10 + 11) + rm_X1_clearColumn.locals ≤ R.locals) : lf_cV R s args RX1 RX1 73 yX1_clearColumn cX1_clearColumn 10 none rm_X1_clearColumn 2 :=
  lf_cV_of 2 ht (lr_17 _ (List.mem_of_getElem? (i := 1) rfl)) (lr_16 _ (List.mem_of_getElem? (i := 22) rfl)) (lr_16 _ (List.mem_of_getElem? (i := 23) rfl)) (lr_17 _ (List.mem_of_getElem? (i := 0) rfl)) (lr_3 _ (List.mem_of_getElem? (i := 4) rfl)) rfl rfl (by decide +kernel) hR
theorem cw_X1_77 {R : Room} {s : State} {args : Array Value} (ht : ∀ w ∈ wsL_law, w.before args s = true) (hR : rm_X1_turnSigns.frames + 1 ≤ R.frames ∧ 8 + (3 + 11) + rm_X1_turnSigns.locals ≤ R.locals) : lf_cV R s args RX1 RX1 77 yX1_turnSigns cX1_turnSigns 3 none rm_X1_turnSigns 0 :=
  lf_cV_of 0 ht (lr_17 _ (List.mem_of_getElem? (i := 5) rfl)) (lr_17 _ (List.mem_of_getElem? (i := 2) rfl)) (lr_17 _ (List.mem_of_getElem? (i := 3) rfl)) (lr_17 _ (List.mem_of_getElem? (i := 4) rfl)) (lr_3 _ (List.mem_of_getElem? (i := 4) rfl)) rfl rfl (by decide +kernel) hR
def L_X1_invert_4 (Post : Int32 → lf_St → Prop) : Nat → Int64 → Int32 → lf_St → Prop
  | 0, _, _, _ => False
  | n + 1, x1, x3, σ => (((lf_gi σ 7) ≤ x3) → (∀ σ2 : lf_St, σ2 = (lf_sl σ 0 x1) → (((0 ≤ (lf_gl σ2 0)) → (Post 1 σ2)) ∧ ((¬ (0 ≤ (lf_gl σ2 0))) → (wp_X1_turnSigns σ2 (fun σ4 => Post 1 σ4)))))) ∧ ((¬ ((lf_gi σ 7) ≤ x3)) → (wp_X1_rowWithPivot x3 σ (fun r5 σ5 => ((¬ r5 = (-1)) → (wp_X1_swapRows r5 x3 σ5 (fun σ7 => wp_X1_clearColumn x3 x1 σ7 (fun σ8 => vp_in x3 6 ∧ (vp_in x3 12 ∧ (∀ v11 : Int64, v11 = (lf_al σ8 (32 + x3.toNatClampNeg) x3.toNatClampNeg) → (∀ v12 : Int32, v12 = x3 + 1 → (L_X1_invert_4 Post n v11 v12 σ8)))))))) ∧ ((r5 = (-1)) → (Post 0 σ5)))))
def wp_X1_invert (σ : lf_St) (Post : Int32 → lf_St → Prop) : Prop := ∃ fu : Nat, L_X1_invert_4 Post fu 1 0 σ
def rm_X1_invert : Room := ({ frames := 1, cells := 0, slots := 0, locals := 29 } : Room)
set_option maxHeartbeats 4000000 in
set_option maxRecDepth 100000 in
theorem w_X1_invert_4 {p : Program} {l : Launch} {e : Env} {s : State} {m : MethodId} {args : Array Value} {below : List Frame} {meth : Method} {c : Code} {D : va_G} {A : Nat → Prop} {ha : Nat → Nat} {cy : Nat → ClassId} (Post : Int32 → lf_St → Prop) (F : lf_C p s m args meth c RX1 cX1_invert 5 (some .boolean) D (tyC_ cy) A) : ∀ (n : Nat) (x1 : Int64) (x3 : Int32) (σ : lf_St) (H : Heap) (locs : List Loc) (ls : Array Slot), lf_H D (wC_ ha cy) A s σ H locs → lv_has ls 5 [(0, .ref (ha 16)), (1, .long x1), (3, .int x3)] → L_X1_invert_4 Post n x1 x3 σ → W p l e rm_X1_invert s m args below meth c H locs 0 0 (lf_Qi below args s D (tyC_ cy) A (wC_ ha cy) Post) (F0 m 4 ls []) := by
  have hx := F.1.1
  have hb := F.1.2.1
  intro n
  induction n with
  | zero =>
    intro x1 x3 σ H locs ls hh hl hw
    exact False.elim hw
  | succ n ih =>
    intro x1 x3 σ H locs ls hh hl hw
    unfold L_X1_invert_4 at hw
    refine lv_iload_n hx hb dX1_invert_4 rfl (lv_at hl 2 rfl) ?_
    refine lv_aload_n hx hb dX1_invert_5 rfl (lv_at hl 0 rfl) ?_
    refine fg_X1_34 F hh dX1_invert_6 ?_
    refine lv_icmp_ge (tgt := 55) hx hb dX1_invert_9 (by decide) (fun c1 => ?_) (fun c1 => ?_)
    · have hw := hw.1 c1
      refine lv_aload_n hx hb dX1_invert_55 rfl (lv_at hl 0 rfl) ?_
      refine lv_lload_n hx hb dX1_invert_56 rfl (lv_at hl 1 rfl) ?_
      refine fp_X1_20 F hh dX1_invert_57 (fun H locs hh => ?_)
      refine lv_aload_n hx hb dX1_invert_60 rfl (lv_at hl 0 rfl) ?_
      obtain ⟨σ2, eσ2⟩ : ∃ z : lf_St, z = (lf_sl σ 0 x1) := ⟨_, rfl⟩
      rw [← eσ2] at hh
      have hw := hw σ2 eσ2
      refine fg_X1_20 F hh dX1_invert_61 ?_
      refine lv_lconst (v := 0) hx hb dX1_invert_64 (by decide) ?_
      refine lf_lcmp_ge (tgt := 73) hx hb dX1_invert_65 dX1_invert_66 (by decide) (fun c3 => ?_) (fun c3 => ?_)
      · have hw := hw.1 c3
        refine lv_iconst (v := 1) hx hb dX1_invert_73 (by decide) ?_
        exact lf_retz F hh rfl hw dX1_invert_74
      · have hw := hw.2 c3
        refine lv_aload_n hx hb dX1_invert_69 rfl (lv_at hl 0 rfl) ?_
        refine lf_callVv (rest := []) F hh (cw_X1_77 F.1.2.2.2.2 ⟨Nat.le_of_ble_eq_true rfl, Nat.le_of_ble_eq_true rfl⟩) (c_X1_turnSigns l D ha cy H.size σ2  _ hw) 16 1 rfl rfl rfl rfl hl.1 (Nat.le_of_ble_eq_true rfl) dX1_invert_70 rfl (fun σ4 H locs hw hh => ?_)
        refine lv_iconst (v := 1) hx hb dX1_invert_73 (by decide) ?_
        exact lf_retz F hh rfl hw dX1_invert_74
    · have hw := hw.2 c1
      refine lv_aload_n hx hb dX1_invert_12 rfl (lv_at hl 0 rfl) ?_
      refine lv_iload_n hx hb dX1_invert_13 rfl (lv_at hl 2 rfl) ?_
      refine lf_callVi (rest := []) F hh (cw_X1_65 F.1.2.2.2.2 ⟨Nat.le_of_ble_eq_true rfl, Nat.le_of_ble_eq_true rfl⟩) (c_X1_rowWithPivot l D ha cy H.size σ x3 _ hw) 16 1 rfl rfl rfl rfl hl.1 (Nat.le_of_ble_eq_true rfl) dX1_invert_14 rfl (fun r5 σ5 H locs hw hh => ?_)
      refine lv_istore (lv' := [(4, .int r5), (0, .ref (ha 16)), (1, .long x1), (3, .int x3)]) hx hb dX1_invert_17 hl (by decide) rfl (fun ls hl => ?_)
      refine lv_iload hx hb dX1_invert_19 (lv_at hl 0 rfl) ?_
      refine lv_iconst (v := (-1)) hx hb dX1_invert_21 (by decide) ?_
      refine lv_icmp_ne (tgt := 27) hx hb dX1_invert_22 (by decide) (fun c6 => ?_) (fun c6 => ?_)
      · have hw := hw.1 c6
        refine lv_aload_n hx hb dX1_invert_27 rfl (lv_at hl 1 rfl) ?_
        refine lv_iload hx hb dX1_invert_28 (lv_at hl 0 rfl) ?_
        refine lv_iload_n hx hb dX1_invert_30 rfl (lv_at hl 3 rfl) ?_
        refine lf_callVv (rest := []) F hh (cw_X1_69 F.1.2.2.2.2 ⟨Nat.le_of_ble_eq_true rfl, Nat.le_of_ble_eq_true rfl⟩) (c_X1_swapRows l D ha cy H.size σ5 r5 x3 _ hw) 16 1 rfl rfl rfl rfl hl.1 (Nat.le_of_ble_eq_true rfl) dX1_invert_31 rfl (fun σ7 H locs hw hh => ?_)
        refine lv_aload_n hx hb dX1_invert_34 rfl (lv_at hl 1 rfl) ?_
        refine lv_iload_n hx hb dX1_invert_35 rfl (lv_at hl 3 rfl) ?_
        refine lv_lload_n hx hb dX1_invert_36 rfl (lv_at hl 2 rfl) ?_
        refine lf_callVv (rest := []) F hh (cw_X1_73 F.1.2.2.2.2 ⟨Nat.le_of_ble_eq_true rfl, Nat.le_of_ble_eq_true rfl⟩) (c_X1_clearColumn l D ha cy H.size σ7 x3 x1 _ hw) 16 1 rfl rfl rfl rfl hl.1 (Nat.le_of_ble_eq_true rfl) dX1_invert_37 rfl (fun σ8 H locs hw hh => ?_)
        refine lv_aload_n hx hb dX1_invert_40 rfl (lv_at hl 1 rfl) ?_
        refine fg_X1_11 F hh dX1_invert_41 ?_
        refine lv_iload_n hx hb dX1_invert_44 rfl (lv_at hl 3 rfl) ?_
        obtain ⟨q9, hw⟩ := hw
        refine ra_C_table F hh q9 dX1_invert_45 ?_
        refine lv_iload_n hx hb dX1_invert_46 rfl (lv_at hl 3 rfl) ?_
        obtain ⟨q10, hw⟩ := hw
        refine ra_C_row F hh (x3.toNatClampNeg) (lf_in6 q9) q10 dX1_invert_47 ?_
        refine lv_topl (fun v11 ev11 => ?_)
        have hw := hw v11 ev11
        refine lv_lstore_n (lv' := [(1, .long v11), (4, .int r5), (0, .ref (ha 16)), (3, .int x3)]) hx hb dX1_invert_48 rfl hl (by decide) rfl (fun ls hl => ?_)
        obtain ⟨v12, ev12⟩ : ∃ y : Int32, y = x3 + 1 := ⟨_, rfl⟩
        have hw := hw v12 ev12
        refine lv_iinc (v := v12) (lv' := [(3, .int v12), (1, .long v11), (4, .int r5), (0, .ref (ha 16))]) hx hb dX1_invert_49 hl (k := 3) rfl (by rw [ev12]; rfl) (by decide) rfl (fun ls hl => ?_)
        refine lv_goto (tgt := 4) hx hb dX1_invert_52 (by decide) ?_
        exact ih v11 v12 σ8 _ _ _ hh (lv_sub hl [3, 1, 0] rfl) hw
      · have hw := hw.2 c6
        refine lv_iconst (v := 0) hx hb dX1_invert_25 (by decide) ?_
        exact lf_retz F hh rfl hw dX1_invert_26
set_option maxHeartbeats 4000000 in
set_option maxRecDepth 100000 in
theorem c_X1_invert (l : Launch) (D : va_G) (ha : Nat → Nat) (cy : Nat → ClassId) (sz : Nat) (σ : lf_St) (Post : Int32 → lf_St → Prop) (hw : wp_X1_invert σ Post) : lf_Mi l yX1_invert (lf_ws yX1_invert cX1_invert 5 (some .boolean)) rm_X1_invert D (tyC_ cy) (wC_ ha cy) sz σ [.ref (ha 16)] Post := by
  refine lf_ofi (by decide +kernel) (Nat.le_of_ble_eq_true rfl) ?_
  intro p e s m args below meth c A ls F hh hl
  have hx := F.1.1
  have hb := F.1.2.1
  have hl : lv_has ls 5 [(0, .ref (ha 16))] := hl
  obtain ⟨H, hHe⟩ : ∃ H, H = s.heap := ⟨_, rfl⟩
  rw [← hHe] at hh ⊢
  unfold wp_X1_invert at hw
  refine lv_lconst (v := 1) hx hb dX1_invert_0 (by decide) ?_
  refine lv_lstore_n (lv' := [(1, .long 1), (0, .ref (ha 16))]) hx hb dX1_invert_1 rfl hl (by decide) rfl (fun ls hl => ?_)
  refine lv_iconst (v := 0) hx hb dX1_invert_2 (by decide) ?_
  refine lv_istore_n (lv' := [(3, .int 0), (1, .long 1), (0, .ref (ha 16))]) hx hb dX1_invert_3 rfl hl (by decide) rfl (fun ls hl => ?_)
  obtain ⟨n4, hw⟩ := hw
  exact w_X1_invert_4 Post F  n4 1 0 σ _ _ _ hh (lv_sub hl [2, 1, 0] rfl) hw
def wp_X2_hasJoint (x1 : Int32) (σ : lf_St) (Post : Int32 → lf_St → Prop) : Prop := ((x1 < 0) → (Post 0 σ)) ∧ ((¬ (x1 < 0)) → ((((lf_gi σ 0) ≤ x1) → (Post 0 σ)) ∧ ((¬ ((lf_gi σ 0) ≤ x1)) → (Post 1 σ))))
def rm_X2_hasJoint : Room := ({ frames := 0, cells := 0, slots := 0, locals := 0 } : Room)
set_option maxHeartbeats 4000000 in
set_option maxRecDepth 100000 in
theorem c_X2_hasJoint (l : Launch) (D : va_G) (ha : Nat → Nat) (cy : Nat → ClassId) (sz : Nat) (σ : lf_St) (x1 : Int32) (Post : Int32 → lf_St → Prop) (hw : wp_X2_hasJoint x1 σ Post) : lf_Mi l yX2_hasJoint (lf_ws yX2_hasJoint cX2_hasJoint 2 (some .boolean)) rm_X2_hasJoint D (tyC_ cy) (wC_ ha cy) sz σ [.ref (ha 1), .int x1] Post := by
  refine lf_ofi (by decide +kernel) (Nat.le_of_ble_eq_true rfl) ?_
  intro p e s m args below meth c A ls F hh hl
  have hx := F.1.1
  have hb := F.1.2.1
  have hl : lv_has ls 2 [(0, .ref (ha 1)), (1, .int x1)] := hl
  obtain ⟨H, hHe⟩ : ∃ H, H = s.heap := ⟨_, rfl⟩
  rw [← hHe] at hh ⊢
  unfold wp_X2_hasJoint at hw
  refine lv_iload_n hx hb dX2_hasJoint_0 rfl (lv_at hl 1 rfl) ?_
  refine lv_if_lt (tgt := 16) hx hb dX2_hasJoint_1 (by decide) (fun c1 => ?_) (fun c1 => ?_)
  · have hw := hw.1 c1
    refine lv_iconst (v := 0) hx hb dX2_hasJoint_16 (by decide) ?_
    exact lf_retz F hh rfl hw dX2_hasJoint_17
  · have hw := hw.2 c1
    refine lv_iload_n hx hb dX2_hasJoint_4 rfl (lv_at hl 1 rfl) ?_
    refine lv_aload_n hx hb dX2_hasJoint_5 rfl (lv_at hl 0 rfl) ?_
    refine fg_X2_45 F hh dX2_hasJoint_6 ?_
    refine lv_icmp_ge (tgt := 16) hx hb dX2_hasJoint_9 (by decide) (fun c2 => ?_) (fun c2 => ?_)
    · have hw := hw.1 c2
      refine lv_iconst (v := 0) hx hb dX2_hasJoint_16 (by decide) ?_
      exact lf_retz F hh rfl hw dX2_hasJoint_17
    · have hw := hw.2 c2
      refine lv_iconst (v := 1) hx hb dX2_hasJoint_12 (by decide) ?_
      refine lv_goto (tgt := 17) hx hb dX2_hasJoint_13 (by decide) ?_
      exact lf_retz F hh rfl hw dX2_hasJoint_17
def wp_X2_hasBar (x1 : Int32) (σ : lf_St) (Post : Int32 → lf_St → Prop) : Prop := ((x1 < 0) → (Post 0 σ)) ∧ ((¬ (x1 < 0)) → ((((lf_gi σ 2) ≤ x1) → (Post 0 σ)) ∧ ((¬ ((lf_gi σ 2) ≤ x1)) → (Post 1 σ))))
def rm_X2_hasBar : Room := ({ frames := 0, cells := 0, slots := 0, locals := 0 } : Room)
set_option maxHeartbeats 4000000 in
set_option maxRecDepth 100000 in
theorem c_X2_hasBar (l : Launch) (D : va_G) (ha : Nat → Nat) (cy : Nat → ClassId) (sz : Nat) (σ : lf_St) (x1 : Int32) (Post : Int32 → lf_St → Prop) (hw : wp_X2_hasBar x1 σ Post) : lf_Mi l yX2_hasBar (lf_ws yX2_hasBar cX2_hasBar 2 (some .boolean)) rm_X2_hasBar D (tyC_ cy) (wC_ ha cy) sz σ [.ref (ha 1), .int x1] Post := by
  refine lf_ofi (by decide +kernel) (Nat.le_of_ble_eq_true rfl) ?_
  intro p e s m args below meth c A ls F hh hl
  have hx := F.1.1
  have hb := F.1.2.1
  have hl : lv_has ls 2 [(0, .ref (ha 1)), (1, .int x1)] := hl
  obtain ⟨H, hHe⟩ : ∃ H, H = s.heap := ⟨_, rfl⟩
  rw [← hHe] at hh ⊢
  unfold wp_X2_hasBar at hw
  refine lv_iload_n hx hb dX2_hasBar_0 rfl (lv_at hl 1 rfl) ?_
  refine lv_if_lt (tgt := 16) hx hb dX2_hasBar_1 (by decide) (fun c1 => ?_) (fun c1 => ?_)
  · have hw := hw.1 c1
    refine lv_iconst (v := 0) hx hb dX2_hasBar_16 (by decide) ?_
    exact lf_retz F hh rfl hw dX2_hasBar_17
  · have hw := hw.2 c1
    refine lv_iload_n hx hb dX2_hasBar_4 rfl (lv_at hl 1 rfl) ?_
    refine lv_aload_n hx hb dX2_hasBar_5 rfl (lv_at hl 0 rfl) ?_
    refine fg_X2_49 F hh dX2_hasBar_6 ?_
    refine lv_icmp_ge (tgt := 16) hx hb dX2_hasBar_9 (by decide) (fun c2 => ?_) (fun c2 => ?_)
    · have hw := hw.1 c2
      refine lv_iconst (v := 0) hx hb dX2_hasBar_16 (by decide) ?_
      exact lf_retz F hh rfl hw dX2_hasBar_17
    · have hw := hw.2 c2
      refine lv_iconst (v := 1) hx hb dX2_hasBar_12 (by decide) ?_
      refine lv_goto (tgt := 17) hx hb dX2_hasBar_13 (by decide) ?_
      exact lf_retz F hh rfl hw dX2_hasBar_17
def L_X2_hasJointAt_2 (Post : Int32 → lf_St → Prop) : Nat → Int32 → Int32 → Int32 → lf_St → Prop
  | 0, _, _, _, _ => False
  | n + 1, x1, x2, x3, σ => (((lf_gi σ 0) ≤ x3) → (Post 0 σ)) ∧ ((¬ ((lf_gi σ 0) ≤ x3)) → (vp_in x3 6 ∧ (((¬ (lf_ai σ 2 x3.toNatClampNeg) = x1) → (∀ v4 : Int32, v4 = x3 + 1 → (L_X2_hasJointAt_2 Post n x1 x2 v4 σ))) ∧ (((lf_ai σ 2 x3.toNatClampNeg) = x1) → (vp_in x3 6 ∧ (((¬ (lf_ai σ 3 x3.toNatClampNeg) = x2) → (∀ v7 : Int32, v7 = x3 + 1 → (L_X2_hasJointAt_2 Post n x1 x2 v7 σ))) ∧ (((lf_ai σ 3 x3.toNatClampNeg) = x2) → (Post 1 σ))))))))
def wp_X2_hasJointAt (x1 : Int32) (x2 : Int32) (σ : lf_St) (Post : Int32 → lf_St → Prop) : Prop := ∃ fu : Nat, L_X2_hasJointAt_2 Post fu x1 x2 0 σ
def rm_X2_hasJointAt : Room := ({ frames := 0, cells := 0, slots := 0, locals := 0 } : Room)
set_option maxHeartbeats 4000000 in
set_option maxRecDepth 100000 in
theorem w_X2_hasJointAt_2 {p : Program} {l : Launch} {e : Env} {s : State} {m : MethodId} {args : Array Value} {below : List Frame} {meth : Method} {c : Code} {D : va_G} {A : Nat → Prop} {ha : Nat → Nat} {cy : Nat → ClassId} (Post : Int32 → lf_St → Prop) (F : lf_C p s m args meth c RX2 cX2_hasJointAt 4 (some .boolean) D (tyC_ cy) A) : ∀ (n : Nat) (x1 : Int32) (x2 : Int32) (x3 : Int32) (σ : lf_St) (H : Heap) (locs : List Loc) (ls : Array Slot), lf_H D (wC_ ha cy) A s σ H locs → lv_has ls 4 [(0, .ref (ha 1)), (1, .int x1), (2, .int x2), (3, .int x3)] → L_X2_hasJointAt_2 Post n x1 x2 x3 σ → W p l e rm_X2_hasJointAt s m args below meth c H locs 0 0 (lf_Qi below args s D (tyC_ cy) A (wC_ ha cy) Post) (F0 m 2 ls []) := by
  have hx := F.1.1
  have hb := F.1.2.1
  intro n
  induction n with
  | zero =>
    intro x1 x2 x3 σ H locs ls hh hl hw
    exact False.elim hw
  | succ n ih =>
    intro x1 x2 x3 σ H locs ls hh hl hw
    unfold L_X2_hasJointAt_2 at hw
    refine lv_iload_n hx hb dX2_hasJointAt_2 rfl (lv_at hl 3 rfl) ?_
    refine lv_aload_n hx hb dX2_hasJointAt_3 rfl (lv_at hl 0 rfl) ?_
    refine fg_X2_45 F hh dX2_hasJointAt_4 ?_
    refine lv_icmp_ge (tgt := 38) hx hb dX2_hasJointAt_7 (by decide) (fun c1 => ?_) (fun c1 => ?_)
    · have hw := hw.1 c1
      refine lv_iconst (v := 0) hx hb dX2_hasJointAt_38 (by decide) ?_
      exact lf_retz F hh rfl hw dX2_hasJointAt_39
    · have hw := hw.2 c1
      refine lv_aload_n hx hb dX2_hasJointAt_10 rfl (lv_at hl 0 rfl) ?_
      refine fg_X2_9 F hh dX2_hasJointAt_11 ?_
      refine lv_iload_n hx hb dX2_hasJointAt_14 rfl (lv_at hl 3 rfl) ?_
      obtain ⟨q2, hw⟩ := hw
      refine ra_C_2 F hh q2 dX2_hasJointAt_15 ?_
      refine lv_iload_n hx hb dX2_hasJointAt_16 rfl (lv_at hl 1 rfl) ?_
      refine lv_icmp_ne (tgt := 32) hx hb dX2_hasJointAt_17 (by decide) (fun c3 => ?_) (fun c3 => ?_)
      · have hw := hw.1 c3
        obtain ⟨v4, ev4⟩ : ∃ y : Int32, y = x3 + 1 := ⟨_, rfl⟩
        have hw := hw v4 ev4
        refine lv_iinc (v := v4) (lv' := [(3, .int v4), (0, .ref (ha 1)), (1, .int x1), (2, .int x2)]) hx hb dX2_hasJointAt_32 hl (k := 3) rfl (by rw [ev4]; rfl) (by decide) rfl (fun ls hl => ?_)
        refine lv_goto (tgt := 2) hx hb dX2_hasJointAt_35 (by decide) ?_
        exact ih x1 x2 v4 σ _ _ _ hh (lv_sub hl [1, 2, 3, 0] rfl) hw
      · have hw := hw.2 c3
        refine lv_aload_n hx hb dX2_hasJointAt_20 rfl (lv_at hl 0 rfl) ?_
        refine fg_X2_15 F hh dX2_hasJointAt_21 ?_
        refine lv_iload_n hx hb dX2_hasJointAt_24 rfl (lv_at hl 3 rfl) ?_
        obtain ⟨q5, hw⟩ := hw
        refine ra_C_3 F hh q5 dX2_hasJointAt_25 ?_
        refine lv_iload_n hx hb dX2_hasJointAt_26 rfl (lv_at hl 2 rfl) ?_
        refine lv_icmp_ne (tgt := 32) hx hb dX2_hasJointAt_27 (by decide) (fun c6 => ?_) (fun c6 => ?_)
        · have hw := hw.1 c6
          obtain ⟨v7, ev7⟩ : ∃ y : Int32, y = x3 + 1 := ⟨_, rfl⟩
          have hw := hw v7 ev7
          refine lv_iinc (v := v7) (lv' := [(3, .int v7), (0, .ref (ha 1)), (1, .int x1), (2, .int x2)]) hx hb dX2_hasJointAt_32 hl (k := 3) rfl (by rw [ev7]; rfl) (by decide) rfl (fun ls hl => ?_)
          refine lv_goto (tgt := 2) hx hb dX2_hasJointAt_35 (by decide) ?_
          exact ih x1 x2 v7 σ _ _ _ hh (lv_sub hl [1, 2, 3, 0] rfl) hw
        · have hw := hw.2 c6
          refine lv_iconst (v := 1) hx hb dX2_hasJointAt_30 (by decide) ?_
          exact lf_retz F hh rfl hw dX2_hasJointAt_31
set_option maxHeartbeats 4000000 in
set_option maxRecDepth 100000 in
theorem c_X2_hasJointAt (l : Launch) (D : va_G) (ha : Nat → Nat) (cy : Nat → ClassId) (sz : Nat) (σ : lf_St) (x1 : Int32) (x2 : Int32) (Post : Int32 → lf_St → Prop) (hw : wp_X2_hasJointAt x1 x2 σ Post) : lf_Mi l yX2_hasJointAt (lf_ws yX2_hasJointAt cX2_hasJointAt 4 (some .boolean)) rm_X2_hasJointAt D (tyC_ cy) (wC_ ha cy) sz σ [.ref (ha 1), .int x1, .int x2] Post := by
  refine lf_ofi (by decide +kernel) (Nat.le_of_ble_eq_true rfl) ?_
  intro p e s m args below meth c A ls F hh hl
  have hx := F.1.1
  have hb := F.1.2.1
  have hl : lv_has ls 4 [(0, .ref (ha 1)), (1, .int x1), (2, .int x2)] := hl
  obtain ⟨H, hHe⟩ : ∃ H, H = s.heap := ⟨_, rfl⟩
  rw [← hHe] at hh ⊢
  unfold wp_X2_hasJointAt at hw
  refine lv_iconst (v := 0) hx hb dX2_hasJointAt_0 (by decide) ?_
  refine lv_istore_n (lv' := [(3, .int 0), (0, .ref (ha 1)), (1, .int x1), (2, .int x2)]) hx hb dX2_hasJointAt_1 rfl hl (by decide) rfl (fun ls hl => ?_)
  obtain ⟨n2, hw⟩ := hw
  exact w_X2_hasJointAt_2 Post F  n2 x1 x2 0 σ _ _ _ hh (lv_sub hl [1, 2, 3, 0] rfl) hw
def J_X2_hasBarBetween_30 (K_2 : Int32 → Int32 → Int32 → lf_St → Prop) (Post : Int32 → lf_St → Prop) (x1 : Int32) (x2 : Int32) (x3 : Int32) (σ : lf_St) : Prop := vp_in x3 10 ∧ (((¬ (lf_ai σ 6 x3.toNatClampNeg) = x2) → (∀ v3 : Int32, v3 = x3 + 1 → (K_2 x1 x2 v3 σ))) ∧ (((lf_ai σ 6 x3.toNatClampNeg) = x2) → (vp_in x3 10 ∧ (((¬ (lf_ai σ 7 x3.toNatClampNeg) = x1) → (∀ v6 : Int32, v6 = x3 + 1 → (K_2 x1 x2 v6 σ))) ∧ (((lf_ai σ 7 x3.toNatClampNeg) = x1) → (Post 1 σ))))))
def L_X2_hasBarBetween_2 (Post : Int32 → lf_St → Prop) : Nat → Int32 → Int32 → Int32 → lf_St → Prop
  | 0, _, _, _, _ => False
  | n + 1, x1, x2, x3, σ => (((lf_gi σ 2) ≤ x3) → (Post 0 σ)) ∧ ((¬ ((lf_gi σ 2) ≤ x3)) → (vp_in x3 10 ∧ (((¬ (lf_ai σ 6 x3.toNatClampNeg) = x1) → (J_X2_hasBarBetween_30 (L_X2_hasBarBetween_2 Post n) Post x1 x2 x3 σ)) ∧ (((lf_ai σ 6 x3.toNatClampNeg) = x1) → (vp_in x3 10 ∧ ((((lf_ai σ 7 x3.toNatClampNeg) = x2) → (Post 1 σ)) ∧ ((¬ ((lf_ai σ 7 x3.toNatClampNeg) = x2)) → (J_X2_hasBarBetween_30 (L_X2_hasBarBetween_2 Post n) Post x1 x2 x3 σ))))))))
def wp_X2_hasBarBetween (x1 : Int32) (x2 : Int32) (σ : lf_St) (Post : Int32 → lf_St → Prop) : Prop := ∃ fu : Nat, L_X2_hasBarBetween_2 Post fu x1 x2 0 σ
def rm_X2_hasBarBetween : Room := ({ frames := 0, cells := 0, slots := 0, locals := 0 } : Room)
set_option maxHeartbeats 4000000 in
set_option maxRecDepth 100000 in
theorem w_X2_hasBarBetween_30 {p : Program} {l : Launch} {e : Env} {s : State} {m : MethodId} {args : Array Value} {below : List Frame} {meth : Method} {c : Code} {D : va_G} {A : Nat → Prop} {ha : Nat → Nat} {cy : Nat → ClassId} (K_2 : Int32 → Int32 → Int32 → lf_St → Prop) (Post : Int32 → lf_St → Prop) (F : lf_C p s m args meth c RX2 cX2_hasBarBetween 4 (some .boolean) D (tyC_ cy) A) (hK_2 : ∀ (x1 : Int32) (x2 : Int32) (x3 : Int32) (σ : lf_St) (H : Heap) (locs : List Loc) (ls : Array Slot), lf_H D (wC_ ha cy) A s σ H locs → lv_has ls 4 [(0, .ref (ha 1)), (1, .int x1), (2, .int x2), (3, .int x3)] → K_2 x1 x2 x3 σ → W p l e rm_X2_hasBarBetween s m args below meth c H locs 0 0 (lf_Qi below args s D (tyC_ cy) A (wC_ ha cy) Post) (F0 m 2 ls [])) (x1 : Int32) (x2 : Int32) (x3 : Int32) (σ : lf_St) (H : Heap) (locs : List Loc) (ls : Array Slot) (hh : lf_H D (wC_ ha cy) A s σ H locs) (hl : lv_has ls 4 [(0, .ref (ha 1)), (1, .int x1), (2, .int x2), (3, .int x3)]) (hw : J_X2_hasBarBetween_30 K_2 Post x1 x2 x3 σ) : W p l e rm_X2_hasBarBetween s m args below meth c H locs 0 0 (lf_Qi below args s D (tyC_ cy) A (wC_ ha cy) Post) (F0 m 30 ls []) := by
  have hx := F.1.1
  have hb := F.1.2.1
  unfold J_X2_hasBarBetween_30 at hw
  refine lv_aload_n hx hb dX2_hasBarBetween_30 rfl (lv_at hl 0 rfl) ?_
  refine fg_X2_24 F hh dX2_hasBarBetween_31 ?_
  refine lv_iload_n hx hb dX2_hasBarBetween_34 rfl (lv_at hl 3 rfl) ?_
  obtain ⟨q1, hw⟩ := hw
  refine ra_C_6 F hh q1 dX2_hasBarBetween_35 ?_
  refine lv_iload_n hx hb dX2_hasBarBetween_36 rfl (lv_at hl 2 rfl) ?_
  refine lv_icmp_ne (tgt := 52) hx hb dX2_hasBarBetween_37 (by decide) (fun c2 => ?_) (fun c2 => ?_)
  · have hw := hw.1 c2
    obtain ⟨v3, ev3⟩ : ∃ y : Int32, y = x3 + 1 := ⟨_, rfl⟩
    have hw := hw v3 ev3
    refine lv_iinc (v := v3) (lv' := [(3, .int v3), (0, .ref (ha 1)), (1, .int x1), (2, .int x2)]) hx hb dX2_hasBarBetween_52 hl (k := 3) rfl (by rw [ev3]; rfl) (by decide) rfl (fun ls hl => ?_)
    refine lv_goto (tgt := 2) hx hb dX2_hasBarBetween_55 (by decide) ?_
    exact hK_2 x1 x2 v3 σ _ _ _ hh (lv_sub hl [1, 2, 3, 0] rfl) hw
  · have hw := hw.2 c2
    refine lv_aload_n hx hb dX2_hasBarBetween_40 rfl (lv_at hl 0 rfl) ?_
    refine fg_X2_27 F hh dX2_hasBarBetween_41 ?_
    refine lv_iload_n hx hb dX2_hasBarBetween_44 rfl (lv_at hl 3 rfl) ?_
    obtain ⟨q4, hw⟩ := hw
    refine ra_C_7 F hh q4 dX2_hasBarBetween_45 ?_
    refine lv_iload_n hx hb dX2_hasBarBetween_46 rfl (lv_at hl 1 rfl) ?_
    refine lv_icmp_ne (tgt := 52) hx hb dX2_hasBarBetween_47 (by decide) (fun c5 => ?_) (fun c5 => ?_)
    · have hw := hw.1 c5
      obtain ⟨v6, ev6⟩ : ∃ y : Int32, y = x3 + 1 := ⟨_, rfl⟩
      have hw := hw v6 ev6
      refine lv_iinc (v := v6) (lv' := [(3, .int v6), (0, .ref (ha 1)), (1, .int x1), (2, .int x2)]) hx hb dX2_hasBarBetween_52 hl (k := 3) rfl (by rw [ev6]; rfl) (by decide) rfl (fun ls hl => ?_)
      refine lv_goto (tgt := 2) hx hb dX2_hasBarBetween_55 (by decide) ?_
      exact hK_2 x1 x2 v6 σ _ _ _ hh (lv_sub hl [1, 2, 3, 0] rfl) hw
    · have hw := hw.2 c5
      refine lv_iconst (v := 1) hx hb dX2_hasBarBetween_50 (by decide) ?_
      exact lf_retz F hh rfl hw dX2_hasBarBetween_51
set_option maxHeartbeats 4000000 in
set_option maxRecDepth 100000 in
theorem w_X2_hasBarBetween_2 {p : Program} {l : Launch} {e : Env} {s : State} {m : MethodId} {args : Array Value} {below : List Frame} {meth : Method} {c : Code} {D : va_G} {A : Nat → Prop} {ha : Nat → Nat} {cy : Nat → ClassId} (Post : Int32 → lf_St → Prop) (F : lf_C p s m args meth c RX2 cX2_hasBarBetween 4 (some .boolean) D (tyC_ cy) A) : ∀ (n : Nat) (x1 : Int32) (x2 : Int32) (x3 : Int32) (σ : lf_St) (H : Heap) (locs : List Loc) (ls : Array Slot), lf_H D (wC_ ha cy) A s σ H locs → lv_has ls 4 [(0, .ref (ha 1)), (1, .int x1), (2, .int x2), (3, .int x3)] → L_X2_hasBarBetween_2 Post n x1 x2 x3 σ → W p l e rm_X2_hasBarBetween s m args below meth c H locs 0 0 (lf_Qi below args s D (tyC_ cy) A (wC_ ha cy) Post) (F0 m 2 ls []) := by
  have hx := F.1.1
  have hb := F.1.2.1
  intro n
  induction n with
  | zero =>
    intro x1 x2 x3 σ H locs ls hh hl hw
    exact False.elim hw
  | succ n ih =>
    intro x1 x2 x3 σ H locs ls hh hl hw
    unfold L_X2_hasBarBetween_2 at hw
    refine lv_iload_n hx hb dX2_hasBarBetween_2 rfl (lv_at hl 3 rfl) ?_
    refine lv_aload_n hx hb dX2_hasBarBetween_3 rfl (lv_at hl 0 rfl) ?_
    refine fg_X2_49 F hh dX2_hasBarBetween_4 ?_
    refine lv_icmp_ge (tgt := 58) hx hb dX2_hasBarBetween_7 (by decide) (fun c1 => ?_) (fun c1 => ?_)
    · have hw := hw.1 c1
      refine lv_iconst (v := 0) hx hb dX2_hasBarBetween_58 (by decide) ?_
      exact lf_retz F hh rfl hw dX2_hasBarBetween_59
    · have hw := hw.2 c1
      refine lv_aload_n hx hb dX2_hasBarBetween_10 rfl (lv_at hl 0 rfl) ?_
      refine fg_X2_24 F hh dX2_hasBarBetween_11 ?_
      refine lv_iload_n hx hb dX2_hasBarBetween_14 rfl (lv_at hl 3 rfl) ?_
      obtain ⟨q2, hw⟩ := hw
      refine ra_C_6 F hh q2 dX2_hasBarBetween_15 ?_
      refine lv_iload_n hx hb dX2_hasBarBetween_16 rfl (lv_at hl 1 rfl) ?_
      refine lv_icmp_ne (tgt := 30) hx hb dX2_hasBarBetween_17 (by decide) (fun c3 => ?_) (fun c3 => ?_)
      · have hw := hw.1 c3
        exact w_X2_hasBarBetween_30 _ Post F ih x1 x2 x3 σ _ _ _ hh (lv_sub hl [0, 1, 2, 3] rfl) hw
      · have hw := hw.2 c3
        refine lv_aload_n hx hb dX2_hasBarBetween_20 rfl (lv_at hl 0 rfl) ?_
        refine fg_X2_27 F hh dX2_hasBarBetween_21 ?_
        refine lv_iload_n hx hb dX2_hasBarBetween_24 rfl (lv_at hl 3 rfl) ?_
        obtain ⟨q4, hw⟩ := hw
        refine ra_C_7 F hh q4 dX2_hasBarBetween_25 ?_
        refine lv_iload_n hx hb dX2_hasBarBetween_26 rfl (lv_at hl 2 rfl) ?_
        refine lv_icmp_eq (tgt := 50) hx hb dX2_hasBarBetween_27 (by decide) (fun c5 => ?_) (fun c5 => ?_)
        · have hw := hw.1 c5
          refine lv_iconst (v := 1) hx hb dX2_hasBarBetween_50 (by decide) ?_
          exact lf_retz F hh rfl hw dX2_hasBarBetween_51
        · have hw := hw.2 c5
          exact w_X2_hasBarBetween_30 _ Post F ih x1 x2 x3 σ _ _ _ hh (lv_sub hl [0, 1, 2, 3] rfl) hw
set_option maxHeartbeats 4000000 in
set_option maxRecDepth 100000 in
theorem c_X2_hasBarBetween (l : Launch) (D : va_G) (ha : Nat → Nat) (cy : Nat → ClassId) (sz : Nat) (σ : lf_St) (x1 : Int32) (x2 : Int32) (Post : Int32 → lf_St → Prop) (hw : wp_X2_hasBarBetween x1 x2 σ Post) : lf_Mi l yX2_hasBarBetween (lf_ws yX2_hasBarBetween cX2_hasBarBetween 4 (some .boolean)) rm_X2_hasBarBetween D (tyC_ cy) (wC_ ha cy) sz σ [.ref (ha 1), .int x1, .int x2] Post := by
  refine lf_ofi (by decide +kernel) (Nat.le_of_ble_eq_true rfl) ?_
  intro p e s m args below meth c A ls F hh hl
  have hx := F.1.1
  have hb := F.1.2.1
  have hl : lv_has ls 4 [(0, .ref (ha 1)), (1, .int x1), (2, .int x2)] := hl
  obtain ⟨H, hHe⟩ : ∃ H, H = s.heap := ⟨_, rfl⟩
  rw [← hHe] at hh ⊢
  unfold wp_X2_hasBarBetween at hw
  refine lv_iconst (v := 0) hx hb dX2_hasBarBetween_0 (by decide) ?_
  refine lv_istore_n (lv' := [(3, .int 0), (0, .ref (ha 1)), (1, .int x1), (2, .int x2)]) hx hb dX2_hasBarBetween_1 rfl hl (by decide) rfl (fun ls hl => ?_)
  obtain ⟨n2, hw⟩ := hw
  exact w_X2_hasBarBetween_2 Post F  n2 x1 x2 0 σ _ _ _ hh (lv_sub hl [1, 2, 3, 0] rfl) hw
def L_X2_hasSize_2 (Post : Int32 → lf_St → Prop) : Nat → Int32 → Int32 → lf_St → Prop
  | 0, _, _, _ => False
  | n + 1, x1, x2, σ => (((lf_gi σ 3) ≤ x2) → (Post 0 σ)) ∧ ((¬ ((lf_gi σ 3) ≤ x2)) → (vp_in x2 5 ∧ (((¬ (lf_ai σ 12 x2.toNatClampNeg) = x1) → (∀ v4 : Int32, v4 = x2 + 1 → (L_X2_hasSize_2 Post n x1 v4 σ))) ∧ (((lf_ai σ 12 x2.toNatClampNeg) = x1) → (Post 1 σ)))))
def wp_X2_hasSize (x1 : Int32) (σ : lf_St) (Post : Int32 → lf_St → Prop) : Prop := ∃ fu : Nat, L_X2_hasSize_2 Post fu x1 0 σ
def rm_X2_hasSize : Room := ({ frames := 0, cells := 0, slots := 0, locals := 0 } : Room)
set_option maxHeartbeats 4000000 in
set_option maxRecDepth 100000 in
theorem w_X2_hasSize_2 {p : Program} {l : Launch} {e : Env} {s : State} {m : MethodId} {args : Array Value} {below : List Frame} {meth : Method} {c : Code} {D : va_G} {A : Nat → Prop} {ha : Nat → Nat} {cy : Nat → ClassId} (Post : Int32 → lf_St → Prop) (F : lf_C p s m args meth c RX2 cX2_hasSize 3 (some .boolean) D (tyC_ cy) A) : ∀ (n : Nat) (x1 : Int32) (x2 : Int32) (σ : lf_St) (H : Heap) (locs : List Loc) (ls : Array Slot), lf_H D (wC_ ha cy) A s σ H locs → lv_has ls 3 [(0, .ref (ha 1)), (1, .int x1), (2, .int x2)] → L_X2_hasSize_2 Post n x1 x2 σ → W p l e rm_X2_hasSize s m args below meth c H locs 0 0 (lf_Qi below args s D (tyC_ cy) A (wC_ ha cy) Post) (F0 m 2 ls []) := by
  have hx := F.1.1
  have hb := F.1.2.1
  intro n
  induction n with
  | zero =>
    intro x1 x2 σ H locs ls hh hl hw
    exact False.elim hw
  | succ n ih =>
    intro x1 x2 σ H locs ls hh hl hw
    unfold L_X2_hasSize_2 at hw
    refine lv_iload_n hx hb dX2_hasSize_2 rfl (lv_at hl 2 rfl) ?_
    refine lv_aload_n hx hb dX2_hasSize_3 rfl (lv_at hl 0 rfl) ?_
    refine fg_X2_55 F hh dX2_hasSize_4 ?_
    refine lv_icmp_ge (tgt := 28) hx hb dX2_hasSize_7 (by decide) (fun c1 => ?_) (fun c1 => ?_)
    · have hw := hw.1 c1
      refine lv_iconst (v := 0) hx hb dX2_hasSize_28 (by decide) ?_
      exact lf_retz F hh rfl hw dX2_hasSize_29
    · have hw := hw.2 c1
      refine lv_aload_n hx hb dX2_hasSize_10 rfl (lv_at hl 0 rfl) ?_
      refine fg_X2_42 F hh dX2_hasSize_11 ?_
      refine lv_iload_n hx hb dX2_hasSize_14 rfl (lv_at hl 2 rfl) ?_
      obtain ⟨q2, hw⟩ := hw
      refine ra_C_12 F hh q2 dX2_hasSize_15 ?_
      refine lv_iload_n hx hb dX2_hasSize_16 rfl (lv_at hl 1 rfl) ?_
      refine lv_icmp_ne (tgt := 22) hx hb dX2_hasSize_17 (by decide) (fun c3 => ?_) (fun c3 => ?_)
      · have hw := hw.1 c3
        obtain ⟨v4, ev4⟩ : ∃ y : Int32, y = x2 + 1 := ⟨_, rfl⟩
        have hw := hw v4 ev4
        refine lv_iinc (v := v4) (lv' := [(2, .int v4), (0, .ref (ha 1)), (1, .int x1)]) hx hb dX2_hasSize_22 hl (k := 2) rfl (by rw [ev4]; rfl) (by decide) rfl (fun ls hl => ?_)
        refine lv_goto (tgt := 2) hx hb dX2_hasSize_25 (by decide) ?_
        exact ih x1 v4 σ _ _ _ hh (lv_sub hl [1, 2, 0] rfl) hw
      · have hw := hw.2 c3
        refine lv_iconst (v := 1) hx hb dX2_hasSize_20 (by decide) ?_
        exact lf_retz F hh rfl hw dX2_hasSize_21
set_option maxHeartbeats 4000000 in
set_option maxRecDepth 100000 in
theorem c_X2_hasSize (l : Launch) (D : va_G) (ha : Nat → Nat) (cy : Nat → ClassId) (sz : Nat) (σ : lf_St) (x1 : Int32) (Post : Int32 → lf_St → Prop) (hw : wp_X2_hasSize x1 σ Post) : lf_Mi l yX2_hasSize (lf_ws yX2_hasSize cX2_hasSize 3 (some .boolean)) rm_X2_hasSize D (tyC_ cy) (wC_ ha cy) sz σ [.ref (ha 1), .int x1] Post := by
  refine lf_ofi (by decide +kernel) (Nat.le_of_ble_eq_true rfl) ?_
  intro p e s m args below meth c A ls F hh hl
  have hx := F.1.1
  have hb := F.1.2.1
  have hl : lv_has ls 3 [(0, .ref (ha 1)), (1, .int x1)] := hl
  obtain ⟨H, hHe⟩ : ∃ H, H = s.heap := ⟨_, rfl⟩
  rw [← hHe] at hh ⊢
  unfold wp_X2_hasSize at hw
  refine lv_iconst (v := 0) hx hb dX2_hasSize_0 (by decide) ?_
  refine lv_istore_n (lv' := [(2, .int 0), (0, .ref (ha 1)), (1, .int x1)]) hx hb dX2_hasSize_1 rfl hl (by decide) rfl (fun ls hl => ?_)
  obtain ⟨n2, hw⟩ := hw
  exact w_X2_hasSize_2 Post F  n2 x1 0 σ _ _ _ hh (lv_sub hl [1, 2, 0] rfl) hw
theorem cw_X2_58 {R : Room} {s : State} {args : Array Value} (ht : ∀ w ∈ wsL_law, w.before args s = true) (hR : rm_X2_rows.frames + 1 ≤ R.frames ∧ 8 + (1 + 11) + rm_X2_rows.locals ≤ R.locals) : lf_cV R s args RX2 RX2 58 yX2_rows cX2_rows 1 (some .int) rm_X2_rows 0 :=
  lf_cV_of 0 ht (lr_6 _ (List.mem_of_getElem? (i := 6) rfl)) (lr_6 _ (List.mem_of_getElem? (i := 3) rfl)) (lr_6 _ (List.mem_of_getElem? (i := 4) rfl)) (lr_6 _ (List.mem_of_getElem? (i := 5) rfl)) (lr_1 _ (List.mem_of_getElem? (i := 14) rfl)) rfl rfl (by decide +kernel) hR
def J_X2_addJoint_55 (Post : Int32 → lf_St → Prop) (x4 : Int32) (σ : lf_St) : Prop := Post x4 (lf_si σ 0 ((lf_gi σ 0) + 1))
def wp_X2_addJoint (x1 : Int32) (x2 : Int32) (x3 : Int32) (σ : lf_St) (Post : Int32 → lf_St → Prop) : Prop := ∀ v1 : Int32, v1 = (lf_gi σ 0) → (vp_in v1 6 ∧ (vp_in v1 6 ∧ (vp_in v1 6 ∧ (((¬ x3 = 0) → (J_X2_addJoint_55 Post v1 (lf_sa (lf_sa (lf_sa σ 2 v1.toNatClampNeg x1) 3 v1.toNatClampNeg x2) 4 v1.toNatClampNeg (-1)))) ∧ ((x3 = 0) → (∀ σ6 : lf_St, σ6 = (lf_sa (lf_sa (lf_sa σ 2 v1.toNatClampNeg x1) 3 v1.toNatClampNeg x2) 4 v1.toNatClampNeg (-1)) → wp_X2_rows σ6 (fun r7 σ7 => vp_in v1 6 ∧ (∀ σ9 : lf_St, σ9 = (lf_sa σ7 4 v1.toNatClampNeg r7) → (J_X2_addJoint_55 Post v1 (lf_si σ9 1 ((lf_gi σ9 1) + 1)))))))))))
def rm_X2_addJoint : Room := ({ frames := 1, cells := 0, slots := 0, locals := 20 } : Room)
set_option maxHeartbeats 4000000 in
set_option maxRecDepth 100000 in
theorem w_X2_addJoint_55 {p : Program} {l : Launch} {e : Env} {s : State} {m : MethodId} {args : Array Value} {below : List Frame} {meth : Method} {c : Code} {D : va_G} {A : Nat → Prop} {ha : Nat → Nat} {cy : Nat → ClassId} (Post : Int32 → lf_St → Prop) (F : lf_C p s m args meth c RX2 cX2_addJoint 5 (some .int) D (tyC_ cy) A) (x4 : Int32) (σ : lf_St) (H : Heap) (locs : List Loc) (ls : Array Slot) (hh : lf_H D (wC_ ha cy) A s σ H locs) (hl : lv_has ls 5 [(0, .ref (ha 1)), (4, .int x4)]) (hw : J_X2_addJoint_55 Post x4 σ) : W p l e rm_X2_addJoint s m args below meth c H locs 0 0 (lf_Qi below args s D (tyC_ cy) A (wC_ ha cy) Post) (F0 m 55 ls []) := by
  have hx := F.1.1
  have hb := F.1.2.1
  unfold J_X2_addJoint_55 at hw
  refine lv_aload_n hx hb dX2_addJoint_55 rfl (lv_at hl 0 rfl) ?_
  refine lv_dup hx hb dX2_addJoint_56 rfl ?_
  refine fg_X2_45 F hh dX2_addJoint_57 ?_
  refine lv_iconst (v := 1) hx hb dX2_addJoint_60 (by decide) ?_
  refine lv_iadd hx hb dX2_addJoint_61 ?_
  refine fp_X2_45 F hh dX2_addJoint_62 (fun H locs hh => ?_)
  refine lv_iload hx hb dX2_addJoint_65 (lv_at hl 1 rfl) ?_
  exact lf_reti F hh hw dX2_addJoint_67
set_option maxHeartbeats 4000000 in
set_option maxRecDepth 100000 in
theorem c_X2_addJoint (l : Launch) (D : va_G) (ha : Nat → Nat) (cy : Nat → ClassId) (sz : Nat) (σ : lf_St) (x1 : Int32) (x2 : Int32) (x3 : Int32) (Post : Int32 → lf_St → Prop) (hw : wp_X2_addJoint x1 x2 x3 σ Post) : lf_Mi l yX2_addJoint (lf_ws yX2_addJoint cX2_addJoint 5 (some .int)) rm_X2_addJoint D (tyC_ cy) (wC_ ha cy) sz σ [.ref (ha 1), .int x1, .int x2, .int x3] Post := by
  refine lf_ofi (by decide +kernel) (Nat.le_of_ble_eq_true rfl) ?_
  intro p e s m args below meth c A ls F hh hl
  have hx := F.1.1
  have hb := F.1.2.1
  have hl : lv_has ls 5 [(0, .ref (ha 1)), (1, .int x1), (2, .int x2), (3, .int x3)] := hl
  obtain ⟨H, hHe⟩ : ∃ H, H = s.heap := ⟨_, rfl⟩
  rw [← hHe] at hh ⊢
  unfold wp_X2_addJoint at hw
  refine lv_aload_n hx hb dX2_addJoint_0 rfl (lv_at hl 0 rfl) ?_
  refine fg_X2_45 F hh dX2_addJoint_1 ?_
  refine lv_topi (fun v1 ev1 => ?_)
  have hw := hw v1 ev1
  refine lv_istore (lv' := [(4, .int v1), (0, .ref (ha 1)), (1, .int x1), (2, .int x2), (3, .int x3)]) hx hb dX2_addJoint_4 hl (by decide) rfl (fun ls hl => ?_)
  refine lv_aload_n hx hb dX2_addJoint_6 rfl (lv_at hl 1 rfl) ?_
  refine fg_X2_9 F hh dX2_addJoint_7 ?_
  refine lv_iload hx hb dX2_addJoint_10 (lv_at hl 0 rfl) ?_
  refine lv_iload_n hx hb dX2_addJoint_12 rfl (lv_at hl 2 rfl) ?_
  obtain ⟨q2, hw⟩ := hw
  refine wa_C_2 F hh q2 dX2_addJoint_13 (fun H locs hh => ?_)
  refine lv_aload_n hx hb dX2_addJoint_14 rfl (lv_at hl 1 rfl) ?_
  refine fg_X2_15 F hh dX2_addJoint_15 ?_
  refine lv_iload hx hb dX2_addJoint_18 (lv_at hl 0 rfl) ?_
  refine lv_iload_n hx hb dX2_addJoint_20 rfl (lv_at hl 3 rfl) ?_
  obtain ⟨q3, hw⟩ := hw
  refine wa_C_3 F hh q3 dX2_addJoint_21 (fun H locs hh => ?_)
  refine lv_aload_n hx hb dX2_addJoint_22 rfl (lv_at hl 1 rfl) ?_
  refine fg_X2_18 F hh dX2_addJoint_23 ?_
  refine lv_iload hx hb dX2_addJoint_26 (lv_at hl 0 rfl) ?_
  refine lv_iconst (v := (-1)) hx hb dX2_addJoint_28 (by decide) ?_
  obtain ⟨q4, hw⟩ := hw
  refine wa_C_4 F hh q4 dX2_addJoint_29 (fun H locs hh => ?_)
  refine lv_iload_n hx hb dX2_addJoint_30 rfl (lv_at hl 4 rfl) ?_
  refine lv_if_ne (tgt := 55) hx hb dX2_addJoint_31 (by decide) (fun c5 => ?_) (fun c5 => ?_)
  · have hw := hw.1 c5
    exact w_X2_addJoint_55 Post F  v1 (lf_sa (lf_sa (lf_sa σ 2 v1.toNatClampNeg x1) 3 v1.toNatClampNeg x2) 4 v1.toNatClampNeg (-1)) _ _ _ hh (lv_sub hl [1, 0] rfl) hw
  · have hw := hw.2 c5
    refine lv_aload_n hx hb dX2_addJoint_34 rfl (lv_at hl 1 rfl) ?_
    refine fg_X2_18 F hh dX2_addJoint_35 ?_
    refine lv_iload hx hb dX2_addJoint_38 (lv_at hl 0 rfl) ?_
    refine lv_aload_n hx hb dX2_addJoint_40 rfl (lv_at hl 1 rfl) ?_
    obtain ⟨σ6, eσ6⟩ : ∃ z : lf_St, z = (lf_sa (lf_sa (lf_sa σ 2 v1.toNatClampNeg x1) 3 v1.toNatClampNeg x2) 4 v1.toNatClampNeg (-1)) := ⟨_, rfl⟩
    rw [← eσ6] at hh
    have hw := hw σ6 eσ6
    refine lf_callVi (rest := [.int v1, .ref (ha 4)]) F hh (cw_X2_58 F.1.2.2.2.2 ⟨Nat.le_of_ble_eq_true rfl, Nat.le_of_ble_eq_true rfl⟩) (c_X2_rows l D ha cy H.size σ6  _ hw) 1 2 rfl rfl rfl rfl hl.1 (Nat.le_of_ble_eq_true rfl) dX2_addJoint_41 rfl (fun r7 σ7 H locs hw hh => ?_)
    obtain ⟨q8, hw⟩ := hw
    refine wa_C_4 F hh q8 dX2_addJoint_44 (fun H locs hh => ?_)
    refine lv_aload_n hx hb dX2_addJoint_45 rfl (lv_at hl 1 rfl) ?_
    refine lv_dup hx hb dX2_addJoint_46 rfl ?_
    obtain ⟨σ9, eσ9⟩ : ∃ z : lf_St, z = (lf_sa σ7 4 v1.toNatClampNeg r7) := ⟨_, rfl⟩
    rw [← eσ9] at hh
    have hw := hw σ9 eσ9
    refine fg_X2_52 F hh dX2_addJoint_47 ?_
    refine lv_iconst (v := 1) hx hb dX2_addJoint_50 (by decide) ?_
    refine lv_iadd hx hb dX2_addJoint_51 ?_
    refine fp_X2_52 F hh dX2_addJoint_52 (fun H locs hh => ?_)
    exact w_X2_addJoint_55 Post F  v1 (lf_si σ9 1 ((lf_gi σ9 1) + 1)) _ _ _ hh (lv_sub hl [1, 0] rfl) hw
def wp_X2_side (x1 : Int32) (x2 : Int32) (x3 : Int32) (σ : lf_St) (Post : Int32 → lf_St → Prop) : Prop := vp_in x2 6 ∧ (vp_in x1 6 ∧ (vp_in x3 6 ∧ (vp_in x1 6 ∧ (vp_in x2 6 ∧ (vp_in x1 6 ∧ (vp_in x3 6 ∧ (vp_in x1 6 ∧ (Post ((((lf_ai σ 2 x2.toNatClampNeg) - (lf_ai σ 2 x1.toNatClampNeg)) * ((lf_ai σ 3 x3.toNatClampNeg) - (lf_ai σ 3 x1.toNatClampNeg))) - (((lf_ai σ 3 x2.toNatClampNeg) - (lf_ai σ 3 x1.toNatClampNeg)) * ((lf_ai σ 2 x3.toNatClampNeg) - (lf_ai σ 2 x1.toNatClampNeg)))) σ))))))))
def rm_X2_side : Room := ({ frames := 0, cells := 0, slots := 0, locals := 0 } : Room)
set_option maxHeartbeats 4000000 in
set_option maxRecDepth 100000 in
theorem c_X2_side (l : Launch) (D : va_G) (ha : Nat → Nat) (cy : Nat → ClassId) (sz : Nat) (σ : lf_St) (x1 : Int32) (x2 : Int32) (x3 : Int32) (Post : Int32 → lf_St → Prop) (hw : wp_X2_side x1 x2 x3 σ Post) : lf_Mi l yX2_side (lf_ws yX2_side cX2_side 4 (some .int)) rm_X2_side D (tyC_ cy) (wC_ ha cy) sz σ [.ref (ha 1), .int x1, .int x2, .int x3] Post := by
  refine lf_ofi (by decide +kernel) (Nat.le_of_ble_eq_true rfl) ?_
  intro p e s m args below meth c A ls F hh hl
  have hx := F.1.1
  have hb := F.1.2.1
  have hl : lv_has ls 4 [(0, .ref (ha 1)), (1, .int x1), (2, .int x2), (3, .int x3)] := hl
  obtain ⟨H, hHe⟩ : ∃ H, H = s.heap := ⟨_, rfl⟩
  rw [← hHe] at hh ⊢
  unfold wp_X2_side at hw
  refine lv_aload_n hx hb dX2_side_0 rfl (lv_at hl 0 rfl) ?_
  refine fg_X2_9 F hh dX2_side_1 ?_
  refine lv_iload_n hx hb dX2_side_4 rfl (lv_at hl 2 rfl) ?_
  obtain ⟨q1, hw⟩ := hw
  refine ra_C_2 F hh q1 dX2_side_5 ?_
  refine lv_aload_n hx hb dX2_side_6 rfl (lv_at hl 0 rfl) ?_
  refine fg_X2_9 F hh dX2_side_7 ?_
  refine lv_iload_n hx hb dX2_side_10 rfl (lv_at hl 1 rfl) ?_
  obtain ⟨q2, hw⟩ := hw
  refine ra_C_2 F hh q2 dX2_side_11 ?_
  refine lv_isub hx hb dX2_side_12 ?_
  refine lv_aload_n hx hb dX2_side_13 rfl (lv_at hl 0 rfl) ?_
  refine fg_X2_15 F hh dX2_side_14 ?_
  refine lv_iload_n hx hb dX2_side_17 rfl (lv_at hl 3 rfl) ?_
  obtain ⟨q3, hw⟩ := hw
  refine ra_C_3 F hh q3 dX2_side_18 ?_
  refine lv_aload_n hx hb dX2_side_19 rfl (lv_at hl 0 rfl) ?_
  refine fg_X2_15 F hh dX2_side_20 ?_
  refine lv_iload_n hx hb dX2_side_23 rfl (lv_at hl 1 rfl) ?_
  obtain ⟨q4, hw⟩ := hw
  refine ra_C_3 F hh q4 dX2_side_24 ?_
  refine lv_isub hx hb dX2_side_25 ?_
  refine lv_imul hx hb dX2_side_26 ?_
  refine lv_aload_n hx hb dX2_side_27 rfl (lv_at hl 0 rfl) ?_
  refine fg_X2_15 F hh dX2_side_28 ?_
  refine lv_iload_n hx hb dX2_side_31 rfl (lv_at hl 2 rfl) ?_
  obtain ⟨q5, hw⟩ := hw
  refine ra_C_3 F hh q5 dX2_side_32 ?_
  refine lv_aload_n hx hb dX2_side_33 rfl (lv_at hl 0 rfl) ?_
  refine fg_X2_15 F hh dX2_side_34 ?_
  refine lv_iload_n hx hb dX2_side_37 rfl (lv_at hl 1 rfl) ?_
  obtain ⟨q6, hw⟩ := hw
  refine ra_C_3 F hh q6 dX2_side_38 ?_
  refine lv_isub hx hb dX2_side_39 ?_
  refine lv_aload_n hx hb dX2_side_40 rfl (lv_at hl 0 rfl) ?_
  refine fg_X2_9 F hh dX2_side_41 ?_
  refine lv_iload_n hx hb dX2_side_44 rfl (lv_at hl 3 rfl) ?_
  obtain ⟨q7, hw⟩ := hw
  refine ra_C_2 F hh q7 dX2_side_45 ?_
  refine lv_aload_n hx hb dX2_side_46 rfl (lv_at hl 0 rfl) ?_
  refine fg_X2_9 F hh dX2_side_47 ?_
  refine lv_iload_n hx hb dX2_side_50 rfl (lv_at hl 1 rfl) ?_
  obtain ⟨q8, hw⟩ := hw
  refine ra_C_2 F hh q8 dX2_side_51 ?_
  refine lv_isub hx hb dX2_side_52 ?_
  refine lv_imul hx hb dX2_side_53 ?_
  refine lv_isub hx hb dX2_side_54 ?_
  exact lf_reti F hh hw dX2_side_55
theorem cw_X2_83 {R : Room} {s : State} {args : Array Value} (ht : ∀ w ∈ wsL_law, w.before args s = true) (hR : rm_X2_side.frames + 1 ≤ R.frames ∧ 8 + (4 + 11) + rm_X2_side.locals ≤ R.locals) : lf_cV R s args RX2 RX2 83 yX2_side cX2_side 4 (some .int) rm_X2_side 3 :=
  lf_cV_of 3 ht (lr_8 _ (List.mem_of_getElem? (i := 2) rfl)) (lr_7 _ (List.mem_of_getElem? (i := 23) rfl)) (lr_8 _ (List.mem_of_getElem? (i := 0) rfl)) (lr_8 _ (List.mem_of_getElem? (i := 1) rfl)) (lr_1 _ (List.mem_of_getElem? (i := 14) rfl)) rfl rfl (by decide +kernel) hR
def wp_X2_sameWay (x1 : Int32) (x2 : Int32) (x3 : Int32) (σ : lf_St) (Post : Int32 → lf_St → Prop) : Prop := vp_in x2 6 ∧ (vp_in x1 6 ∧ (vp_in x3 6 ∧ (vp_in x1 6 ∧ (vp_in x2 6 ∧ (vp_in x1 6 ∧ (vp_in x3 6 ∧ (vp_in x1 6 ∧ (∀ v9 : Int32, v9 = ((((lf_ai σ 2 x2.toNatClampNeg) - (lf_ai σ 2 x1.toNatClampNeg)) * ((lf_ai σ 2 x3.toNatClampNeg) - (lf_ai σ 2 x1.toNatClampNeg))) + (((lf_ai σ 3 x2.toNatClampNeg) - (lf_ai σ 3 x1.toNatClampNeg)) * ((lf_ai σ 3 x3.toNatClampNeg) - (lf_ai σ 3 x1.toNatClampNeg)))) → (wp_X2_side x1 x2 x3 σ (fun r10 σ10 => ((¬ r10 = 0) → (Post 0 σ10)) ∧ ((r10 = 0) → (((v9 ≤ 0) → (Post 0 σ10)) ∧ ((¬ (v9 ≤ 0)) → (Post 1 σ10))))))))))))))
def rm_X2_sameWay : Room := ({ frames := 1, cells := 0, slots := 0, locals := 23 } : Room)
set_option maxHeartbeats 4000000 in
set_option maxRecDepth 100000 in
theorem c_X2_sameWay (l : Launch) (D : va_G) (ha : Nat → Nat) (cy : Nat → ClassId) (sz : Nat) (σ : lf_St) (x1 : Int32) (x2 : Int32) (x3 : Int32) (Post : Int32 → lf_St → Prop) (hw : wp_X2_sameWay x1 x2 x3 σ Post) : lf_Mi l yX2_sameWay (lf_ws yX2_sameWay cX2_sameWay 5 (some .boolean)) rm_X2_sameWay D (tyC_ cy) (wC_ ha cy) sz σ [.ref (ha 1), .int x1, .int x2, .int x3] Post := by
  refine lf_ofi (by decide +kernel) (Nat.le_of_ble_eq_true rfl) ?_
  intro p e s m args below meth c A ls F hh hl
  have hx := F.1.1
  have hb := F.1.2.1
  have hl : lv_has ls 5 [(0, .ref (ha 1)), (1, .int x1), (2, .int x2), (3, .int x3)] := hl
  obtain ⟨H, hHe⟩ : ∃ H, H = s.heap := ⟨_, rfl⟩
  rw [← hHe] at hh ⊢
  unfold wp_X2_sameWay at hw
  refine lv_aload_n hx hb dX2_sameWay_0 rfl (lv_at hl 0 rfl) ?_
  refine fg_X2_9 F hh dX2_sameWay_1 ?_
  refine lv_iload_n hx hb dX2_sameWay_4 rfl (lv_at hl 2 rfl) ?_
  obtain ⟨q1, hw⟩ := hw
  refine ra_C_2 F hh q1 dX2_sameWay_5 ?_
  refine lv_aload_n hx hb dX2_sameWay_6 rfl (lv_at hl 0 rfl) ?_
  refine fg_X2_9 F hh dX2_sameWay_7 ?_
  refine lv_iload_n hx hb dX2_sameWay_10 rfl (lv_at hl 1 rfl) ?_
  obtain ⟨q2, hw⟩ := hw
  refine ra_C_2 F hh q2 dX2_sameWay_11 ?_
  refine lv_isub hx hb dX2_sameWay_12 ?_
  refine lv_aload_n hx hb dX2_sameWay_13 rfl (lv_at hl 0 rfl) ?_
  refine fg_X2_9 F hh dX2_sameWay_14 ?_
  refine lv_iload_n hx hb dX2_sameWay_17 rfl (lv_at hl 3 rfl) ?_
  obtain ⟨q3, hw⟩ := hw
  refine ra_C_2 F hh q3 dX2_sameWay_18 ?_
  refine lv_aload_n hx hb dX2_sameWay_19 rfl (lv_at hl 0 rfl) ?_
  refine fg_X2_9 F hh dX2_sameWay_20 ?_
  refine lv_iload_n hx hb dX2_sameWay_23 rfl (lv_at hl 1 rfl) ?_
  obtain ⟨q4, hw⟩ := hw
  refine ra_C_2 F hh q4 dX2_sameWay_24 ?_
  refine lv_isub hx hb dX2_sameWay_25 ?_
  refine lv_imul hx hb dX2_sameWay_26 ?_
  refine lv_aload_n hx hb dX2_sameWay_27 rfl (lv_at hl 0 rfl) ?_
  refine fg_X2_15 F hh dX2_sameWay_28 ?_
  refine lv_iload_n hx hb dX2_sameWay_31 rfl (lv_at hl 2 rfl) ?_
  obtain ⟨q5, hw⟩ := hw
  refine ra_C_3 F hh q5 dX2_sameWay_32 ?_
  refine lv_aload_n hx hb dX2_sameWay_33 rfl (lv_at hl 0 rfl) ?_
  refine fg_X2_15 F hh dX2_sameWay_34 ?_
  refine lv_iload_n hx hb dX2_sameWay_37 rfl (lv_at hl 1 rfl) ?_
  obtain ⟨q6, hw⟩ := hw
  refine ra_C_3 F hh q6 dX2_sameWay_38 ?_
  refine lv_isub hx hb dX2_sameWay_39 ?_
  refine lv_aload_n hx hb dX2_sameWay_40 rfl (lv_at hl 0 rfl) ?_
  refine fg_X2_15 F hh dX2_sameWay_41 ?_
  refine lv_iload_n hx hb dX2_sameWay_44 rfl (lv_at hl 3 rfl) ?_
  obtain ⟨q7, hw⟩ := hw
  refine ra_C_3 F hh q7 dX2_sameWay_45 ?_
  refine lv_aload_n hx hb dX2_sameWay_46 rfl (lv_at hl 0 rfl) ?_
  refine fg_X2_15 F hh dX2_sameWay_47 ?_
  refine lv_iload_n hx hb dX2_sameWay_50 rfl (lv_at hl 1 rfl) ?_
  obtain ⟨q8, hw⟩ := hw
  refine ra_C_3 F hh q8 dX2_sameWay_51 ?_
  refine lv_isub hx hb dX2_sameWay_52 ?_
  refine lv_imul hx hb dX2_sameWay_53 ?_
  refine lv_iadd hx hb dX2_sameWay_54 ?_
  refine lv_topi (fun v9 ev9 => ?_)
  have hw := hw v9 ev9
  refine lv_istore (lv' := [(4, .int v9), (0, .ref (ha 1)), (1, .int x1), (2, .int x2), (3, .int x3)]) hx hb dX2_sameWay_55 hl (by decide) rfl (fun ls hl => ?_)
  refine lv_aload_n hx hb dX2_sameWay_57 rfl (lv_at hl 1 rfl) ?_
  refine lv_iload_n hx hb dX2_sameWay_58 rfl (lv_at hl 2 rfl) ?_
  refine lv_iload_n hx hb dX2_sameWay_59 rfl (lv_at hl 3 rfl) ?_
  refine lv_iload_n hx hb dX2_sameWay_60 rfl (lv_at hl 4 rfl) ?_
  refine lf_callVi (rest := []) F hh (cw_X2_83 F.1.2.2.2.2 ⟨Nat.le_of_ble_eq_true rfl, Nat.le_of_ble_eq_true rfl⟩) (c_X2_side l D ha cy H.size σ x1 x2 x3 _ hw) 1 2 rfl rfl rfl rfl hl.1 (Nat.le_of_ble_eq_true rfl) dX2_sameWay_61 rfl (fun r10 σ10 H locs hw hh => ?_)
  refine lv_if_ne (tgt := 76) hx hb dX2_sameWay_64 (by decide) (fun c11 => ?_) (fun c11 => ?_)
  · have hw := hw.1 c11
    refine lv_iconst (v := 0) hx hb dX2_sameWay_76 (by decide) ?_
    exact lf_retz F hh rfl hw dX2_sameWay_77
  · have hw := hw.2 c11
    refine lv_iload hx hb dX2_sameWay_67 (lv_at hl 0 rfl) ?_
    refine lv_if_le (tgt := 76) hx hb dX2_sameWay_69 (by decide) (fun c12 => ?_) (fun c12 => ?_)
    · have hw := hw.1 c12
      refine lv_iconst (v := 0) hx hb dX2_sameWay_76 (by decide) ?_
      exact lf_retz F hh rfl hw dX2_sameWay_77
    · have hw := hw.2 c12
      refine lv_iconst (v := 1) hx hb dX2_sameWay_72 (by decide) ?_
      refine lv_goto (tgt := 77) hx hb dX2_sameWay_73 (by decide) ?_
      exact lf_retz F hh rfl hw dX2_sameWay_77
def wp_X2_isOn (x1 : Int32) (x2 : Int32) (x3 : Int32) (σ : lf_St) (Post : Int32 → lf_St → Prop) : Prop := wp_X2_side x1 x2 x3 σ (fun r1 σ1 => ((¬ r1 = 0) → (Post 0 σ1)) ∧ ((r1 = 0) → (vp_in x3 6 ∧ (vp_in x1 6 ∧ (vp_in x2 6 ∧ ((((lf_ai σ1 2 x3.toNatClampNeg) < (lf_min (lf_ai σ1 2 x1.toNatClampNeg) (lf_ai σ1 2 x2.toNatClampNeg))) → (Post 0 σ1)) ∧ ((¬ ((lf_ai σ1 2 x3.toNatClampNeg) < (lf_min (lf_ai σ1 2 x1.toNatClampNeg) (lf_ai σ1 2 x2.toNatClampNeg)))) → (vp_in x3 6 ∧ (vp_in x1 6 ∧ (vp_in x2 6 ∧ ((((lf_max (lf_ai σ1 2 x1.toNatClampNeg) (lf_ai σ1 2 x2.toNatClampNeg)) < (lf_ai σ1 2 x3.toNatClampNeg)) → (Post 0 σ1)) ∧ ((¬ ((lf_max (lf_ai σ1 2 x1.toNatClampNeg) (lf_ai σ1 2 x2.toNatClampNeg)) < (lf_ai σ1 2 x3.toNatClampNeg))) → (vp_in x3 6 ∧ (vp_in x1 6 ∧ (vp_in x2 6 ∧ ((((lf_ai σ1 3 x3.toNatClampNeg) < (lf_min (lf_ai σ1 3 x1.toNatClampNeg) (lf_ai σ1 3 x2.toNatClampNeg))) → (Post 0 σ1)) ∧ ((¬ ((lf_ai σ1 3 x3.toNatClampNeg) < (lf_min (lf_ai σ1 3 x1.toNatClampNeg) (lf_ai σ1 3 x2.toNatClampNeg)))) → (vp_in x3 6 ∧ (vp_in x1 6 ∧ (vp_in x2 6 ∧ ((((lf_max (lf_ai σ1 3 x1.toNatClampNeg) (lf_ai σ1 3 x2.toNatClampNeg)) < (lf_ai σ1 3 x3.toNatClampNeg)) → (Post 0 σ1)) ∧ ((¬ ((lf_max (lf_ai σ1 3 x1.toNatClampNeg) (lf_ai σ1 3 x2.toNatClampNeg)) < (lf_ai σ1 3 x3.toNatClampNeg))) → (Post 1 σ1)))))))))))))))))))))))
def rm_X2_isOn : Room := ({ frames := 1, cells := 0, slots := 0, locals := 23 } : Room)
set_option maxHeartbeats 4000000 in
set_option maxRecDepth 100000 in
theorem c_X2_isOn (l : Launch) (D : va_G) (ha : Nat → Nat) (cy : Nat → ClassId) (sz : Nat) (σ : lf_St) (x1 : Int32) (x2 : Int32) (x3 : Int32) (Post : Int32 → lf_St → Prop) (hw : wp_X2_isOn x1 x2 x3 σ Post) : lf_Mi l yX2_isOn (lf_ws yX2_isOn cX2_isOn 4 (some .boolean)) rm_X2_isOn D (tyC_ cy) (wC_ ha cy) sz σ [.ref (ha 1), .int x1, .int x2, .int x3] Post := by
  refine lf_ofi (by decide +kernel) (Nat.le_of_ble_eq_true rfl) ?_
  intro p e s m args below meth c A ls F hh hl
  have hx := F.1.1
  have hb := F.1.2.1
  have hl : lv_has ls 4 [(0, .ref (ha 1)), (1, .int x1), (2, .int x2), (3, .int x3)] := hl
  obtain ⟨H, hHe⟩ : ∃ H, H = s.heap := ⟨_, rfl⟩
  rw [← hHe] at hh ⊢
  unfold wp_X2_isOn at hw
  refine lv_aload_n hx hb dX2_isOn_0 rfl (lv_at hl 0 rfl) ?_
  refine lv_iload_n hx hb dX2_isOn_1 rfl (lv_at hl 1 rfl) ?_
  refine lv_iload_n hx hb dX2_isOn_2 rfl (lv_at hl 2 rfl) ?_
  refine lv_iload_n hx hb dX2_isOn_3 rfl (lv_at hl 3 rfl) ?_
  refine lf_callVi (rest := []) F hh (cw_X2_83 F.1.2.2.2.2 ⟨Nat.le_of_ble_eq_true rfl, Nat.le_of_ble_eq_true rfl⟩) (c_X2_side l D ha cy H.size σ x1 x2 x3 _ hw) 1 2 rfl rfl rfl rfl hl.1 (Nat.le_of_ble_eq_true rfl) dX2_isOn_4 rfl (fun r1 σ1 H locs hw hh => ?_)
  refine lv_if_ne (tgt := 110) hx hb dX2_isOn_7 (by decide) (fun c2 => ?_) (fun c2 => ?_)
  · have hw := hw.1 c2
    refine lv_iconst (v := 0) hx hb dX2_isOn_110 (by decide) ?_
    exact lf_retz F hh rfl hw dX2_isOn_111
  · have hw := hw.2 c2
    refine lv_aload_n hx hb dX2_isOn_10 rfl (lv_at hl 0 rfl) ?_
    refine fg_X2_9 F hh dX2_isOn_11 ?_
    refine lv_iload_n hx hb dX2_isOn_14 rfl (lv_at hl 3 rfl) ?_
    obtain ⟨q3, hw⟩ := hw
    refine ra_C_2 F hh q3 dX2_isOn_15 ?_
    refine lv_aload_n hx hb dX2_isOn_16 rfl (lv_at hl 0 rfl) ?_
    refine fg_X2_9 F hh dX2_isOn_17 ?_
    refine lv_iload_n hx hb dX2_isOn_20 rfl (lv_at hl 1 rfl) ?_
    obtain ⟨q4, hw⟩ := hw
    refine ra_C_2 F hh q4 dX2_isOn_21 ?_
    refine lv_aload_n hx hb dX2_isOn_22 rfl (lv_at hl 0 rfl) ?_
    refine fg_X2_9 F hh dX2_isOn_23 ?_
    refine lv_iload_n hx hb dX2_isOn_26 rfl (lv_at hl 2 rfl) ?_
    obtain ⟨q5, hw⟩ := hw
    refine ra_C_2 F hh q5 dX2_isOn_27 ?_
    refine ms_X2_72 (rest := [.int (lf_ai σ1 2 x3.toNatClampNeg)]) F hl.1 (Nat.le_of_ble_eq_true rfl) (Nat.le_of_ble_eq_true rfl) dX2_isOn_28 ?_
    refine lv_icmp_lt (tgt := 110) hx hb dX2_isOn_31 (by decide) (fun c6 => ?_) (fun c6 => ?_)
    · have hw := hw.1 c6
      refine lv_iconst (v := 0) hx hb dX2_isOn_110 (by decide) ?_
      exact lf_retz F hh rfl hw dX2_isOn_111
    · have hw := hw.2 c6
      refine lv_aload_n hx hb dX2_isOn_34 rfl (lv_at hl 0 rfl) ?_
      refine fg_X2_9 F hh dX2_isOn_35 ?_
      refine lv_iload_n hx hb dX2_isOn_38 rfl (lv_at hl 3 rfl) ?_
      obtain ⟨q7, hw⟩ := hw
      refine ra_C_2 F hh q7 dX2_isOn_39 ?_
      refine lv_aload_n hx hb dX2_isOn_40 rfl (lv_at hl 0 rfl) ?_
      refine fg_X2_9 F hh dX2_isOn_41 ?_
      refine lv_iload_n hx hb dX2_isOn_44 rfl (lv_at hl 1 rfl) ?_
      obtain ⟨q8, hw⟩ := hw
      refine ra_C_2 F hh q8 dX2_isOn_45 ?_
      refine lv_aload_n hx hb dX2_isOn_46 rfl (lv_at hl 0 rfl) ?_
      refine fg_X2_9 F hh dX2_isOn_47 ?_
      refine lv_iload_n hx hb dX2_isOn_50 rfl (lv_at hl 2 rfl) ?_
      obtain ⟨q9, hw⟩ := hw
      refine ra_C_2 F hh q9 dX2_isOn_51 ?_
      refine ms_X2_66 (rest := [.int (lf_ai σ1 2 x3.toNatClampNeg)]) F hl.1 (Nat.le_of_ble_eq_true rfl) (Nat.le_of_ble_eq_true rfl) dX2_isOn_52 ?_
      refine lv_icmp_gt (tgt := 110) hx hb dX2_isOn_55 (by decide) (fun c10 => ?_) (fun c10 => ?_)
      · have hw := hw.1 c10
        refine lv_iconst (v := 0) hx hb dX2_isOn_110 (by decide) ?_
        exact lf_retz F hh rfl hw dX2_isOn_111
      · have hw := hw.2 c10
        refine lv_aload_n hx hb dX2_isOn_58 rfl (lv_at hl 0 rfl) ?_
        refine fg_X2_15 F hh dX2_isOn_59 ?_
        refine lv_iload_n hx hb dX2_isOn_62 rfl (lv_at hl 3 rfl) ?_
        obtain ⟨q11, hw⟩ := hw
        refine ra_C_3 F hh q11 dX2_isOn_63 ?_
        refine lv_aload_n hx hb dX2_isOn_64 rfl (lv_at hl 0 rfl) ?_
        refine fg_X2_15 F hh dX2_isOn_65 ?_
        refine lv_iload_n hx hb dX2_isOn_68 rfl (lv_at hl 1 rfl) ?_
        obtain ⟨q12, hw⟩ := hw
        refine ra_C_3 F hh q12 dX2_isOn_69 ?_
        refine lv_aload_n hx hb dX2_isOn_70 rfl (lv_at hl 0 rfl) ?_
        refine fg_X2_15 F hh dX2_isOn_71 ?_
        refine lv_iload_n hx hb dX2_isOn_74 rfl (lv_at hl 2 rfl) ?_
        obtain ⟨q13, hw⟩ := hw
        refine ra_C_3 F hh q13 dX2_isOn_75 ?_
        refine ms_X2_72 (rest := [.int (lf_ai σ1 3 x3.toNatClampNeg)]) F hl.1 (Nat.le_of_ble_eq_true rfl) (Nat.le_of_ble_eq_true rfl) dX2_isOn_76 ?_
        refine lv_icmp_lt (tgt := 110) hx hb dX2_isOn_79 (by decide) (fun c14 => ?_) (fun c14 => ?_)
        · have hw := hw.1 c14
          refine lv_iconst (v := 0) hx hb dX2_isOn_110 (by decide) ?_
          exact lf_retz F hh rfl hw dX2_isOn_111
        · have hw := hw.2 c14
          refine lv_aload_n hx hb dX2_isOn_82 rfl (lv_at hl 0 rfl) ?_
          refine fg_X2_15 F hh dX2_isOn_83 ?_
          refine lv_iload_n hx hb dX2_isOn_86 rfl (lv_at hl 3 rfl) ?_
          obtain ⟨q15, hw⟩ := hw
          refine ra_C_3 F hh q15 dX2_isOn_87 ?_
          refine lv_aload_n hx hb dX2_isOn_88 rfl (lv_at hl 0 rfl) ?_
          refine fg_X2_15 F hh dX2_isOn_89 ?_
          refine lv_iload_n hx hb dX2_isOn_92 rfl (lv_at hl 1 rfl) ?_
          obtain ⟨q16, hw⟩ := hw
          refine ra_C_3 F hh q16 dX2_isOn_93 ?_
          refine lv_aload_n hx hb dX2_isOn_94 rfl (lv_at hl 0 rfl) ?_
          refine fg_X2_15 F hh dX2_isOn_95 ?_
          refine lv_iload_n hx hb dX2_isOn_98 rfl (lv_at hl 2 rfl) ?_
          obtain ⟨q17, hw⟩ := hw
          refine ra_C_3 F hh q17 dX2_isOn_99 ?_
          refine ms_X2_66 (rest := [.int (lf_ai σ1 3 x3.toNatClampNeg)]) F hl.1 (Nat.le_of_ble_eq_true rfl) (Nat.le_of_ble_eq_true rfl) dX2_isOn_100 ?_
          refine lv_icmp_gt (tgt := 110) hx hb dX2_isOn_103 (by decide) (fun c18 => ?_) (fun c18 => ?_)
          · have hw := hw.1 c18
            refine lv_iconst (v := 0) hx hb dX2_isOn_110 (by decide) ?_
            exact lf_retz F hh rfl hw dX2_isOn_111
          · have hw := hw.2 c18
            refine lv_iconst (v := 1) hx hb dX2_isOn_106 (by decide) ?_
            refine lv_goto (tgt := 111) hx hb dX2_isOn_107 (by decide) ?_
            exact lf_retz F hh rfl hw dX2_isOn_111
theorem cw_X2_87 {R : Room} {s : State} {args : Array Value} (ht : ∀ w ∈ wsL_law, w.before args s = true) (hR : rm_X2_isOn.frames + 1 ≤ R.frames ∧ 8 + (4 + 11) + rm_X2_isOn.locals ≤ R.locals) : lf_cV R s args RX2 RX2 87 yX2_isOn cX2_isOn 4 (some .boolean) rm_X2_isOn 3 :=
  lf_cV_of 3 ht (lr_8 _ (List.mem_of_getElem? (i := 10) rfl)) (lr_8 _ (List.mem_of_getElem? (i := 7) rfl)) (lr_8 _ (List.mem_of_getElem? (i := 8) rfl)) (lr_8 _ (List.mem_of_getElem? (i := 9) rfl)) (lr_1 _ (List.mem_of_getElem? (i := 14) rfl)) rfl rfl (by decide +kernel) hR
def wp_X2_touch (x1 : Int32) (x2 : Int32) (x3 : Int32) (x4 : Int32) (σ : lf_St) (Post : Int32 → lf_St → Prop) : Prop := wp_X2_isOn x1 x2 x3 σ (fun r1 σ1 => ((¬ r1 = 0) → (Post 1 σ1)) ∧ ((r1 = 0) → (wp_X2_isOn x1 x2 x4 σ1 (fun r3 σ3 => ((¬ r3 = 0) → (Post 1 σ3)) ∧ ((r3 = 0) → (wp_X2_isOn x3 x4 x1 σ3 (fun r5 σ5 => ((¬ r5 = 0) → (Post 1 σ5)) ∧ ((r5 = 0) → (wp_X2_isOn x3 x4 x2 σ5 (fun r7 σ7 => ((r7 = 0) → (wp_X2_side x1 x2 x3 σ7 (fun r9 σ9 => wp_X2_side x1 x2 x4 σ9 (fun r10 σ10 => ((0 ≤ (r9 * r10)) → (Post 0 σ10)) ∧ ((¬ (0 ≤ (r9 * r10))) → (wp_X2_side x3 x4 x1 σ10 (fun r12 σ12 => wp_X2_side x3 x4 x2 σ12 (fun r13 σ13 => ((0 ≤ (r12 * r13)) → (Post 0 σ13)) ∧ ((¬ (0 ≤ (r12 * r13))) → (Post 1 σ13)))))))))) ∧ ((¬ (r7 = 0)) → (Post 1 σ7))))))))))))
def rm_X2_touch : Room := ({ frames := 2, cells := 0, slots := 0, locals := 46 } : Room)
set_option maxHeartbeats 4000000 in
set_option maxRecDepth 100000 in
theorem c_X2_touch (l : Launch) (D : va_G) (ha : Nat → Nat) (cy : Nat → ClassId) (sz : Nat) (σ : lf_St) (x1 : Int32) (x2 : Int32) (x3 : Int32) (x4 : Int32) (Post : Int32 → lf_St → Prop) (hw : wp_X2_touch x1 x2 x3 x4 σ Post) : lf_Mi l yX2_touch (lf_ws yX2_touch cX2_touch 5 (some .boolean)) rm_X2_touch D (tyC_ cy) (wC_ ha cy) sz σ [.ref (ha 1), .int x1, .int x2, .int x3, .int x4] Post := by
  refine lf_ofi (by decide +kernel) (Nat.le_of_ble_eq_true rfl) ?_
  intro p e s m args below meth c A ls F hh hl
  have hx := F.1.1
  have hb := F.1.2.1
  have hl : lv_has ls 5 [(0, .ref (ha 1)), (1, .int x1), (2, .int x2), (3, .int x3), (4, .int x4)] := hl
  obtain ⟨H, hHe⟩ : ∃ H, H = s.heap := ⟨_, rfl⟩
  rw [← hHe] at hh ⊢
  unfold wp_X2_touch at hw
  refine lv_aload_n hx hb dX2_touch_0 rfl (lv_at hl 0 rfl) ?_
  refine lv_iload_n hx hb dX2_touch_1 rfl (lv_at hl 1 rfl) ?_
  refine lv_iload_n hx hb dX2_touch_2 rfl (lv_at hl 2 rfl) ?_
  refine lv_iload_n hx hb dX2_touch_3 rfl (lv_at hl 3 rfl) ?_
  refine lf_callVi (rest := []) F hh (cw_X2_87 F.1.2.2.2.2 ⟨Nat.le_of_ble_eq_true rfl, Nat.le_of_ble_eq_true rfl⟩) (c_X2_isOn l D ha cy H.size σ x1 x2 x3 _ hw) 1 2 rfl rfl rfl rfl hl.1 (Nat.le_of_ble_eq_true rfl) dX2_touch_4 rfl (fun r1 σ1 H locs hw hh => ?_)
  refine lv_if_ne (tgt := 43) hx hb dX2_touch_7 (by decide) (fun c2 => ?_) (fun c2 => ?_)
  · have hw := hw.1 c2
    refine lv_iconst (v := 1) hx hb dX2_touch_43 (by decide) ?_
    exact lf_retz F hh rfl hw dX2_touch_44
  · have hw := hw.2 c2
    refine lv_aload_n hx hb dX2_touch_10 rfl (lv_at hl 0 rfl) ?_
    refine lv_iload_n hx hb dX2_touch_11 rfl (lv_at hl 1 rfl) ?_
    refine lv_iload_n hx hb dX2_touch_12 rfl (lv_at hl 2 rfl) ?_
    refine lv_iload hx hb dX2_touch_13 (lv_at hl 4 rfl) ?_
    refine lf_callVi (rest := []) F hh (cw_X2_87 F.1.2.2.2.2 ⟨Nat.le_of_ble_eq_true rfl, Nat.le_of_ble_eq_true rfl⟩) (c_X2_isOn l D ha cy H.size σ1 x1 x2 x4 _ hw) 1 2 rfl rfl rfl rfl hl.1 (Nat.le_of_ble_eq_true rfl) dX2_touch_15 rfl (fun r3 σ3 H locs hw hh => ?_)
    refine lv_if_ne (tgt := 43) hx hb dX2_touch_18 (by decide) (fun c4 => ?_) (fun c4 => ?_)
    · have hw := hw.1 c4
      refine lv_iconst (v := 1) hx hb dX2_touch_43 (by decide) ?_
      exact lf_retz F hh rfl hw dX2_touch_44
    · have hw := hw.2 c4
      refine lv_aload_n hx hb dX2_touch_21 rfl (lv_at hl 0 rfl) ?_
      refine lv_iload_n hx hb dX2_touch_22 rfl (lv_at hl 3 rfl) ?_
      refine lv_iload hx hb dX2_touch_23 (lv_at hl 4 rfl) ?_
      refine lv_iload_n hx hb dX2_touch_25 rfl (lv_at hl 1 rfl) ?_
      refine lf_callVi (rest := []) F hh (cw_X2_87 F.1.2.2.2.2 ⟨Nat.le_of_ble_eq_true rfl, Nat.le_of_ble_eq_true rfl⟩) (c_X2_isOn l D ha cy H.size σ3 x3 x4 x1 _ hw) 1 2 rfl rfl rfl rfl hl.1 (Nat.le_of_ble_eq_true rfl) dX2_touch_26 rfl (fun r5 σ5 H locs hw hh => ?_)
      refine lv_if_ne (tgt := 43) hx hb dX2_touch_29 (by decide) (fun c6 => ?_) (fun c6 => ?_)
      · have hw := hw.1 c6
        refine lv_iconst (v := 1) hx hb dX2_touch_43 (by decide) ?_
        exact lf_retz F hh rfl hw dX2_touch_44
      · have hw := hw.2 c6
        refine lv_aload_n hx hb dX2_touch_32 rfl (lv_at hl 0 rfl) ?_
        refine lv_iload_n hx hb dX2_touch_33 rfl (lv_at hl 3 rfl) ?_
        refine lv_iload hx hb dX2_touch_34 (lv_at hl 4 rfl) ?_
        refine lv_iload_n hx hb dX2_touch_36 rfl (lv_at hl 2 rfl) ?_
        refine lf_callVi (rest := []) F hh (cw_X2_87 F.1.2.2.2.2 ⟨Nat.le_of_ble_eq_true rfl, Nat.le_of_ble_eq_true rfl⟩) (c_X2_isOn l D ha cy H.size σ5 x3 x4 x2 _ hw) 1 2 rfl rfl rfl rfl hl.1 (Nat.le_of_ble_eq_true rfl) dX2_touch_37 rfl (fun r7 σ7 H locs hw hh => ?_)
        refine lv_if_eq (tgt := 45) hx hb dX2_touch_40 (by decide) (fun c8 => ?_) (fun c8 => ?_)
        · have hw := hw.1 c8
          refine lv_aload_n hx hb dX2_touch_45 rfl (lv_at hl 0 rfl) ?_
          refine lv_iload_n hx hb dX2_touch_46 rfl (lv_at hl 1 rfl) ?_
          refine lv_iload_n hx hb dX2_touch_47 rfl (lv_at hl 2 rfl) ?_
          refine lv_iload_n hx hb dX2_touch_48 rfl (lv_at hl 3 rfl) ?_
          refine lf_callVi (rest := []) F hh (cw_X2_83 F.1.2.2.2.2 ⟨Nat.le_of_ble_eq_true rfl, Nat.le_of_ble_eq_true rfl⟩) (c_X2_side l D ha cy H.size σ7 x1 x2 x3 _ hw) 1 2 rfl rfl rfl rfl hl.1 (Nat.le_of_ble_eq_true rfl) dX2_touch_49 rfl (fun r9 σ9 H locs hw hh => ?_)
          refine lv_aload_n hx hb dX2_touch_52 rfl (lv_at hl 0 rfl) ?_
          refine lv_iload_n hx hb dX2_touch_53 rfl (lv_at hl 1 rfl) ?_
          refine lv_iload_n hx hb dX2_touch_54 rfl (lv_at hl 2 rfl) ?_
          refine lv_iload hx hb dX2_touch_55 (lv_at hl 4 rfl) ?_
          refine lf_callVi (rest := [.int r9]) F hh (cw_X2_83 F.1.2.2.2.2 ⟨Nat.le_of_ble_eq_true rfl, Nat.le_of_ble_eq_true rfl⟩) (c_X2_side l D ha cy H.size σ9 x1 x2 x4 _ hw) 1 2 rfl rfl rfl rfl hl.1 (Nat.le_of_ble_eq_true rfl) dX2_touch_57 rfl (fun r10 σ10 H locs hw hh => ?_)
          refine lv_imul hx hb dX2_touch_60 ?_
          refine lv_if_ge (tgt := 88) hx hb dX2_touch_61 (by decide) (fun c11 => ?_) (fun c11 => ?_)
          · have hw := hw.1 c11
            refine lv_iconst (v := 0) hx hb dX2_touch_88 (by decide) ?_
            exact lf_retz F hh rfl hw dX2_touch_89
          · have hw := hw.2 c11
            refine lv_aload_n hx hb dX2_touch_64 rfl (lv_at hl 0 rfl) ?_
            refine lv_iload_n hx hb dX2_touch_65 rfl (lv_at hl 3 rfl) ?_
            refine lv_iload hx hb dX2_touch_66 (lv_at hl 4 rfl) ?_
            refine lv_iload_n hx hb dX2_touch_68 rfl (lv_at hl 1 rfl) ?_
            refine lf_callVi (rest := []) F hh (cw_X2_83 F.1.2.2.2.2 ⟨Nat.le_of_ble_eq_true rfl, Nat.le_of_ble_eq_true rfl⟩) (c_X2_side l D ha cy H.size σ10 x3 x4 x1 _ hw) 1 2 rfl rfl rfl rfl hl.1 (Nat.le_of_ble_eq_true rfl) dX2_touch_69 rfl (fun r12 σ12 H locs hw hh => ?_)
            refine lv_aload_n hx hb dX2_touch_72 rfl (lv_at hl 0 rfl) ?_
            refine lv_iload_n hx hb dX2_touch_73 rfl (lv_at hl 3 rfl) ?_
            refine lv_iload hx hb dX2_touch_74 (lv_at hl 4 rfl) ?_
            refine lv_iload_n hx hb dX2_touch_76 rfl (lv_at hl 2 rfl) ?_
            refine lf_callVi (rest := [.int r12]) F hh (cw_X2_83 F.1.2.2.2.2 ⟨Nat.le_of_ble_eq_true rfl, Nat.le_of_ble_eq_true rfl⟩) (c_X2_side l D ha cy H.size σ12 x3 x4 x2 _ hw) 1 2 rfl rfl rfl rfl hl.1 (Nat.le_of_ble_eq_true rfl) dX2_touch_77 rfl (fun r13 σ13 H locs hw hh => ?_)
            refine lv_imul hx hb dX2_touch_80 ?_
            refine lv_if_ge (tgt := 88) hx hb dX2_touch_81 (by decide) (fun c14 => ?_) (fun c14 => ?_)
            · have hw := hw.1 c14
              refine lv_iconst (v := 0) hx hb dX2_touch_88 (by decide) ?_
              exact lf_retz F hh rfl hw dX2_touch_89
            · have hw := hw.2 c14
              refine lv_iconst (v := 1) hx hb dX2_touch_84 (by decide) ?_
              refine lv_goto (tgt := 89) hx hb dX2_touch_85 (by decide) ?_
              exact lf_retz F hh rfl hw dX2_touch_89
        · have hw := hw.2 c8
          refine lv_iconst (v := 1) hx hb dX2_touch_43 (by decide) ?_
          exact lf_retz F hh rfl hw dX2_touch_44
