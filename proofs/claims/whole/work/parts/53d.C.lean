theorem cw_X3_137 {R : Room} {s : State} {args : Array Value} (ht : ∀ w ∈ wsL_law, w.before args s = true) (hR : rm_X0_uses.frames + 1 ≤ R.frames ∧ 8 + (2 + 11) + rm_X0_uses.locals ≤ R.locals) : lf_cV R s args RX3 RX0 137 yX0_uses cX0_uses 2 (some .boolean) rm_X0_uses 1 :=
  lf_cV_of 1 ht (lr_18 _ (List.mem_of_getElem? (i := 10) rfl)) (lr_28 _ (List.mem_of_getElem? (i := 11) rfl)) (lr_18 _ (List.mem_of_getElem? (i := 8) rfl)) (lr_18 _ (List.mem_of_getElem? (i := 9) rfl)) (lr_2 _ (List.mem_of_getElem? (i := 21) rfl)) rfl rfl (by decide +kernel) hR
def J_X3_setWanted_90 (K_4 : Int32 → Int32 → lf_St → Prop) (Post : lf_St → Prop) (x2 : Int32) (x3 : Int32) (x4 : Int32) (x5 : Int32) (σ : lf_St) : Prop := ((x5 = 0) → (vp_in x4 10 ∧ (vp_in x3 6 ∧ (∀ v4 : Int32, v4 = x3 + 1 → (K_4 x2 v4 (lf_sb σ 21 x3.toNatClampNeg (((lf_ai σ 10 x4.toNatClampNeg) : Int32).toInt64))))))) ∧ ((¬ (x5 = 0)) → (vp_in x4 10 ∧ (vp_in x3 6 ∧ (∀ v7 : Int32, v7 = x3 + 1 → (K_4 x2 v7 (lf_sb σ 21 x3.toNatClampNeg (((-(lf_ai σ 10 x4.toNatClampNeg)) : Int32).toInt64)))))))
def J_X3_setWanted_84 (K_4 : Int32 → Int32 → lf_St → Prop) (Post : lf_St → Prop) (x2 : Int32) (x3 : Int32) (x4 : Int32) (t0 : Int32) (σ : lf_St) : Prop := ∀ v1 : Int32, v1 = (x2 >>> (1 &&& 31)) → (J_X3_setWanted_90 K_4 Post v1 x3 x4 t0 σ)
def J_X3_setWanted_55 (K_4 : Int32 → Int32 → lf_St → Prop) (Post : lf_St → Prop) (x2 : Int32) (x3 : Int32) (x4 : Int32) (t0 : Int32) (σ : lf_St) : Prop := wp_X0_uses 4 x4 σ (fun r1 σ1 => ((¬ r1 = 0) → (J_X3_setWanted_90 K_4 Post x2 x3 x4 t0 σ1)) ∧ ((r1 = 0) → (((¬ (x2 &&& 1) = 1) → (J_X3_setWanted_84 K_4 Post x2 x3 x4 0 σ1)) ∧ (((x2 &&& 1) = 1) → (J_X3_setWanted_84 K_4 Post x2 x3 x4 1 σ1)))))
def L_X3_setWanted_4 (Post : lf_St → Prop) : Nat → Int32 → Int32 → lf_St → Prop
  | 0, _, _, _ => False
  | n + 1, x2, x3, σ => (((lf_gi σ 7) ≤ x3) → (Post σ)) ∧ ((¬ ((lf_gi σ 7) ≤ x3)) → (vp_in x3 6 ∧ (∀ v3 : Int32, v3 = (lf_ai σ 17 x3.toNatClampNeg) → (vp_in v3 10 ∧ (((0 ≤ (lf_al σ (27 + 4) v3.toNatClampNeg)) → (J_X3_setWanted_55 (L_X3_setWanted_4 Post n) Post x2 x3 v3 0 σ)) ∧ ((¬ (0 ≤ (lf_al σ (27 + 4) v3.toNatClampNeg))) → (J_X3_setWanted_55 (L_X3_setWanted_4 Post n) Post x2 x3 v3 1 σ)))))))
def wp_X3_setWanted (x1 : Int32) (σ : lf_St) (Post : lf_St → Prop) : Prop := ∃ fu : Nat, L_X3_setWanted_4 Post fu x1 0 σ
def rm_X3_setWanted : Room := ({ frames := 1, cells := 0, slots := 0, locals := 21 } : Room)
set_option maxHeartbeats 4000000 in
set_option maxRecDepth 100000 in
theorem w_X3_setWanted_90 {p : Program} {l : Launch} {e : Env} {s : State} {m : MethodId} {args : Array Value} {below : List Frame} {meth : Method} {c : Code} {D : va_G} {A : Nat → Prop} {ha : Nat → Nat} {cy : Nat → ClassId} (K_4 : Int32 → Int32 → lf_St → Prop) (Post : lf_St → Prop) (F : lf_C p s m args meth c RX3 cX3_setWanted 6 none D (tyC_ cy) A) (hK_4 : ∀ (x2 : Int32) (x3 : Int32) (σ : lf_St) (H : Heap) (locs : List Loc) (ls : Array Slot), lf_H D (wC_ ha cy) A s σ H locs → lv_has ls 6 [(0, .ref (ha 19)), (2, .int x2), (3, .int x3)] → K_4 x2 x3 σ → W p l e rm_X3_setWanted s m args below meth c H locs 0 0 (lf_Qv below args s D (tyC_ cy) A (wC_ ha cy) Post) (F0 m 4 ls [])) (x2 : Int32) (x3 : Int32) (x4 : Int32) (x5 : Int32) (σ : lf_St) (H : Heap) (locs : List Loc) (ls : Array Slot) (hh : lf_H D (wC_ ha cy) A s σ H locs) (hl : lv_has ls 6 [(0, .ref (ha 19)), (2, .int x2), (3, .int x3), (4, .int x4), (5, .int x5)]) (hw : J_X3_setWanted_90 K_4 Post x2 x3 x4 x5 σ) : W p l e rm_X3_setWanted s m args below meth c H locs 0 0 (lf_Qv below args s D (tyC_ cy) A (wC_ ha cy) Post) (F0 m 90 ls []) := by
  have hx := F.1.1
  have hb := F.1.2.1
  unfold J_X3_setWanted_90 at hw
  refine lv_aload_n hx hb dX3_setWanted_90 rfl (lv_at hl 0 rfl) ?_
  refine fg_X3_19 F hh dX3_setWanted_91 ?_
  refine lv_iload_n hx hb dX3_setWanted_94 rfl (lv_at hl 2 rfl) ?_
  refine lv_iload hx hb dX3_setWanted_95 (lv_at hl 4 rfl) ?_
  refine lv_if_eq (tgt := 115) hx hb dX3_setWanted_97 (by decide) (fun c1 => ?_) (fun c1 => ?_)
  · have hw := hw.1 c1
    refine lv_aload_n hx hb dX3_setWanted_115 rfl (lv_at hl 0 rfl) ?_
    refine fg_X3_22 F hh dX3_setWanted_116 ?_
    refine fg_X3_76 F hh dX3_setWanted_119 ?_
    refine lv_iload hx hb dX3_setWanted_122 (lv_at hl 3 rfl) ?_
    obtain ⟨q2, hw⟩ := hw
    refine ra_C_10 F hh q2 dX3_setWanted_124 ?_
    refine lv_i2l hx hb dX3_setWanted_125 rfl ?_
    obtain ⟨q3, hw⟩ := hw
    refine wa_C_21 F hh q3 dX3_setWanted_126 (fun H locs hh => ?_)
    obtain ⟨v4, ev4⟩ : ∃ y : Int32, y = x3 + 1 := ⟨_, rfl⟩
    have hw := hw v4 ev4
    refine lv_iinc (v := v4) (lv' := [(3, .int v4), (0, .ref (ha 19)), (2, .int x2), (4, .int x4), (5, .int x5)]) hx hb dX3_setWanted_127 hl (k := 2) rfl (by rw [ev4]; rfl) (by decide) rfl (fun ls hl => ?_)
    refine lv_goto (tgt := 4) hx hb dX3_setWanted_130 (by decide) ?_
    exact hK_4 x2 v4 (lf_sb σ 21 x3.toNatClampNeg (((lf_ai σ 10 x4.toNatClampNeg) : Int32).toInt64)) _ _ _ hh (lv_sub hl [1, 2, 0] rfl) hw
  · have hw := hw.2 c1
    refine lv_aload_n hx hb dX3_setWanted_100 rfl (lv_at hl 0 rfl) ?_
    refine fg_X3_22 F hh dX3_setWanted_101 ?_
    refine fg_X3_76 F hh dX3_setWanted_104 ?_
    refine lv_iload hx hb dX3_setWanted_107 (lv_at hl 3 rfl) ?_
    obtain ⟨q5, hw⟩ := hw
    refine ra_C_10 F hh q5 dX3_setWanted_109 ?_
    refine lv_ineg hx hb dX3_setWanted_110 ?_
    refine lv_i2l hx hb dX3_setWanted_111 rfl ?_
    refine lv_goto (tgt := 126) hx hb dX3_setWanted_112 (by decide) ?_
    obtain ⟨q6, hw⟩ := hw
    refine wa_C_21 F hh q6 dX3_setWanted_126 (fun H locs hh => ?_)
    obtain ⟨v7, ev7⟩ : ∃ y : Int32, y = x3 + 1 := ⟨_, rfl⟩
    have hw := hw v7 ev7
    refine lv_iinc (v := v7) (lv' := [(3, .int v7), (0, .ref (ha 19)), (2, .int x2), (4, .int x4), (5, .int x5)]) hx hb dX3_setWanted_127 hl (k := 2) rfl (by rw [ev7]; rfl) (by decide) rfl (fun ls hl => ?_)
    refine lv_goto (tgt := 4) hx hb dX3_setWanted_130 (by decide) ?_
    exact hK_4 x2 v7 (lf_sb σ 21 x3.toNatClampNeg (((-(lf_ai σ 10 x4.toNatClampNeg)) : Int32).toInt64)) _ _ _ hh (lv_sub hl [1, 2, 0] rfl) hw
set_option maxHeartbeats 4000000 in
set_option maxRecDepth 100000 in
theorem w_X3_setWanted_84 {p : Program} {l : Launch} {e : Env} {s : State} {m : MethodId} {args : Array Value} {below : List Frame} {meth : Method} {c : Code} {D : va_G} {A : Nat → Prop} {ha : Nat → Nat} {cy : Nat → ClassId} (K_4 : Int32 → Int32 → lf_St → Prop) (Post : lf_St → Prop) (F : lf_C p s m args meth c RX3 cX3_setWanted 6 none D (tyC_ cy) A) (hK_4 : ∀ (x2 : Int32) (x3 : Int32) (σ : lf_St) (H : Heap) (locs : List Loc) (ls : Array Slot), lf_H D (wC_ ha cy) A s σ H locs → lv_has ls 6 [(0, .ref (ha 19)), (2, .int x2), (3, .int x3)] → K_4 x2 x3 σ → W p l e rm_X3_setWanted s m args below meth c H locs 0 0 (lf_Qv below args s D (tyC_ cy) A (wC_ ha cy) Post) (F0 m 4 ls [])) (x2 : Int32) (x3 : Int32) (x4 : Int32) (t0 : Int32) (σ : lf_St) (H : Heap) (locs : List Loc) (ls : Array Slot) (hh : lf_H D (wC_ ha cy) A s σ H locs) (hl : lv_has ls 6 [(0, .ref (ha 19)), (2, .int x2), (3, .int x3), (4, .int x4)]) (hw : J_X3_setWanted_84 K_4 Post x2 x3 x4 t0 σ) : W p l e rm_X3_setWanted s m args below meth c H locs 0 0 (lf_Qv below args s D (tyC_ cy) A (wC_ ha cy) Post) (F0 m 84 ls [.int t0]) := by
  have hx := F.1.1
  have hb := F.1.2.1
  unfold J_X3_setWanted_84 at hw
  refine lv_istore (lv' := [(5, .int t0), (0, .ref (ha 19)), (2, .int x2), (3, .int x3), (4, .int x4)]) hx hb dX3_setWanted_84 hl (by decide) rfl (fun ls hl => ?_)
  refine lv_iload_n hx hb dX3_setWanted_86 rfl (lv_at hl 2 rfl) ?_
  refine lv_iconst (v := 1) hx hb dX3_setWanted_87 (by decide) ?_
  refine lv_ishr hx hb dX3_setWanted_88 ?_
  refine lv_topi (fun v1 ev1 => ?_)
  have hw := hw v1 ev1
  refine lv_istore_n (lv' := [(2, .int v1), (5, .int t0), (0, .ref (ha 19)), (3, .int x3), (4, .int x4)]) hx hb dX3_setWanted_89 rfl hl (by decide) rfl (fun ls hl => ?_)
  exact w_X3_setWanted_90 _ Post F hK_4 v1 x3 x4 t0 σ _ _ _ hh (lv_sub hl [2, 0, 3, 4, 1] rfl) hw
set_option maxHeartbeats 4000000 in
set_option maxRecDepth 100000 in
theorem w_X3_setWanted_55 {p : Program} {l : Launch} {e : Env} {s : State} {m : MethodId} {args : Array Value} {below : List Frame} {meth : Method} {c : Code} {D : va_G} {A : Nat → Prop} {ha : Nat → Nat} {cy : Nat → ClassId} (K_4 : Int32 → Int32 → lf_St → Prop) (Post : lf_St → Prop) (F : lf_C p s m args meth c RX3 cX3_setWanted 6 none D (tyC_ cy) A) (hK_4 : ∀ (x2 : Int32) (x3 : Int32) (σ : lf_St) (H : Heap) (locs : List Loc) (ls : Array Slot), lf_H D (wC_ ha cy) A s σ H locs → lv_has ls 6 [(0, .ref (ha 19)), (2, .int x2), (3, .int x3)] → K_4 x2 x3 σ → W p l e rm_X3_setWanted s m args below meth c H locs 0 0 (lf_Qv below args s D (tyC_ cy) A (wC_ ha cy) Post) (F0 m 4 ls [])) (x2 : Int32) (x3 : Int32) (x4 : Int32) (t0 : Int32) (σ : lf_St) (H : Heap) (locs : List Loc) (ls : Array Slot) (hh : lf_H D (wC_ ha cy) A s σ H locs) (hl : lv_has ls 6 [(0, .ref (ha 19)), (2, .int x2), (3, .int x3), (4, .int x4)]) (hw : J_X3_setWanted_55 K_4 Post x2 x3 x4 t0 σ) : W p l e rm_X3_setWanted s m args below meth c H locs 0 0 (lf_Qv below args s D (tyC_ cy) A (wC_ ha cy) Post) (F0 m 55 ls [.int t0]) := by
  have hx := F.1.1
  have hb := F.1.2.1
  unfold J_X3_setWanted_55 at hw
  refine lv_istore (lv' := [(5, .int t0), (0, .ref (ha 19)), (2, .int x2), (3, .int x3), (4, .int x4)]) hx hb dX3_setWanted_55 hl (by decide) rfl (fun ls hl => ?_)
  refine lv_aload_n hx hb dX3_setWanted_57 rfl (lv_at hl 1 rfl) ?_
  refine fg_X3_26 F hh dX3_setWanted_58 ?_
  refine fg_X3_95 F hh dX3_setWanted_61 ?_
  refine lv_iload hx hb dX3_setWanted_64 (lv_at hl 4 rfl) ?_
  refine lf_callVi (rest := []) F hh (cw_X3_137 F.1.2.2.2.2 ⟨Nat.le_of_ble_eq_true rfl, Nat.le_of_ble_eq_true rfl⟩) (c_X0_uses l D ha cy H.size σ 4 (by decide) x4 _ hw) (22 + 4) 0 rfl rfl (lC_fr 4 (by decide)) rfl hl.1 (Nat.le_of_ble_eq_true rfl) dX3_setWanted_66 rfl (fun r1 σ1 H locs hw hh => ?_)
  refine lv_if_ne (tgt := 90) hx hb dX3_setWanted_69 (by decide) (fun c2 => ?_) (fun c2 => ?_)
  · have hw := hw.1 c2
    exact w_X3_setWanted_90 _ Post F hK_4 x2 x3 x4 t0 σ1 _ _ _ hh (lv_sub hl [1, 2, 3, 4, 0] rfl) hw
  · have hw := hw.2 c2
    refine lv_iload_n hx hb dX3_setWanted_72 rfl (lv_at hl 2 rfl) ?_
    refine lv_iconst (v := 1) hx hb dX3_setWanted_73 (by decide) ?_
    refine lv_iand hx hb dX3_setWanted_74 ?_
    refine lv_iconst (v := 1) hx hb dX3_setWanted_75 (by decide) ?_
    refine lv_icmp_ne (tgt := 83) hx hb dX3_setWanted_76 (by decide) (fun c3 => ?_) (fun c3 => ?_)
    · have hw := hw.1 c3
      refine lv_iconst (v := 0) hx hb dX3_setWanted_83 (by decide) ?_
      exact w_X3_setWanted_84 _ Post F hK_4 x2 x3 x4 0 σ1 _ _ _ hh (lv_sub hl [1, 2, 3, 4] rfl) hw
    · have hw := hw.2 c3
      refine lv_iconst (v := 1) hx hb dX3_setWanted_79 (by decide) ?_
      refine lv_goto (tgt := 84) hx hb dX3_setWanted_80 (by decide) ?_
      exact w_X3_setWanted_84 _ Post F hK_4 x2 x3 x4 1 σ1 _ _ _ hh (lv_sub hl [1, 2, 3, 4] rfl) hw
set_option maxHeartbeats 4000000 in
set_option maxRecDepth 100000 in
theorem w_X3_setWanted_4 {p : Program} {l : Launch} {e : Env} {s : State} {m : MethodId} {args : Array Value} {below : List Frame} {meth : Method} {c : Code} {D : va_G} {A : Nat → Prop} {ha : Nat → Nat} {cy : Nat → ClassId} (Post : lf_St → Prop) (F : lf_C p s m args meth c RX3 cX3_setWanted 6 none D (tyC_ cy) A) : ∀ (n : Nat) (x2 : Int32) (x3 : Int32) (σ : lf_St) (H : Heap) (locs : List Loc) (ls : Array Slot), lf_H D (wC_ ha cy) A s σ H locs → lv_has ls 6 [(0, .ref (ha 19)), (2, .int x2), (3, .int x3)] → L_X3_setWanted_4 Post n x2 x3 σ → W p l e rm_X3_setWanted s m args below meth c H locs 0 0 (lf_Qv below args s D (tyC_ cy) A (wC_ ha cy) Post) (F0 m 4 ls []) := by
  have hx := F.1.1
  have hb := F.1.2.1
  intro n
  induction n with
  | zero =>
    intro x2 x3 σ H locs ls hh hl hw
    exact False.elim hw
  | succ n ih =>
    intro x2 x3 σ H locs ls hh hl hw
    unfold L_X3_setWanted_4 at hw
    refine lv_iload_n hx hb dX3_setWanted_4 rfl (lv_at hl 2 rfl) ?_
    refine lv_aload_n hx hb dX3_setWanted_5 rfl (lv_at hl 0 rfl) ?_
    refine fg_X3_26 F hh dX3_setWanted_6 ?_
    refine fg_X3_99 F hh dX3_setWanted_9 ?_
    refine fg_X3_103 F hh dX3_setWanted_12 ?_
    refine lv_icmp_ge (tgt := 133) hx hb dX3_setWanted_15 (by decide) (fun c1 => ?_) (fun c1 => ?_)
    · have hw := hw.1 c1
      exact lf_retv F hh hw dX3_setWanted_133
    · have hw := hw.2 c1
      refine lv_aload_n hx hb dX3_setWanted_18 rfl (lv_at hl 0 rfl) ?_
      refine fg_X3_26 F hh dX3_setWanted_19 ?_
      refine fg_X3_99 F hh dX3_setWanted_22 ?_
      refine fg_X3_132 F hh dX3_setWanted_25 ?_
      refine lv_iload_n hx hb dX3_setWanted_28 rfl (lv_at hl 2 rfl) ?_
      obtain ⟨q2, hw⟩ := hw
      refine ra_C_17 F hh q2 dX3_setWanted_29 ?_
      refine lv_topi (fun v3 ev3 => ?_)
      have hw := hw v3 ev3
      refine lv_istore (lv' := [(4, .int v3), (0, .ref (ha 19)), (2, .int x2), (3, .int x3)]) hx hb dX3_setWanted_30 hl (by decide) rfl (fun ls hl => ?_)
      refine lv_aload_n hx hb dX3_setWanted_32 rfl (lv_at hl 1 rfl) ?_
      refine fg_X3_26 F hh dX3_setWanted_33 ?_
      refine fg_X3_95 F hh dX3_setWanted_36 ?_
      refine fg_X3_134 F hh 4 (by decide) dX3_setWanted_39 ?_
      refine lv_iload hx hb dX3_setWanted_42 (lv_at hl 0 rfl) ?_
      obtain ⟨q4, hw⟩ := hw
      refine ra_C_pt F hh 4 (by decide) q4 dX3_setWanted_44 ?_
      refine lv_lconst (v := 0) hx hb dX3_setWanted_45 (by decide) ?_
      refine lf_lcmp_ge (tgt := 54) hx hb dX3_setWanted_46 dX3_setWanted_47 (by decide) (fun c5 => ?_) (fun c5 => ?_)
      · have hw := hw.1 c5
        refine lv_iconst (v := 0) hx hb dX3_setWanted_54 (by decide) ?_
        exact w_X3_setWanted_55 _ Post F ih x2 x3 v3 0 σ _ _ _ hh (lv_sub hl [1, 2, 3, 0] rfl) hw
      · have hw := hw.2 c5
        refine lv_iconst (v := 1) hx hb dX3_setWanted_50 (by decide) ?_
        refine lv_goto (tgt := 55) hx hb dX3_setWanted_51 (by decide) ?_
        exact w_X3_setWanted_55 _ Post F ih x2 x3 v3 1 σ _ _ _ hh (lv_sub hl [1, 2, 3, 0] rfl) hw
set_option maxHeartbeats 4000000 in
set_option maxRecDepth 100000 in
theorem c_X3_setWanted (l : Launch) (D : va_G) (ha : Nat → Nat) (cy : Nat → ClassId) (sz : Nat) (σ : lf_St) (x1 : Int32) (Post : lf_St → Prop) (hw : wp_X3_setWanted x1 σ Post) : lf_Mv l yX3_setWanted (lf_ws yX3_setWanted cX3_setWanted 6 none) rm_X3_setWanted D (tyC_ cy) (wC_ ha cy) sz σ [.ref (ha 19), .int x1] Post := by
  refine lf_ofv (by decide +kernel) (Nat.le_of_ble_eq_true rfl) ?_
  intro p e s m args below meth c A ls F hh hl
  have hx := F.1.1
  have hb := F.1.2.1
  have hl : lv_has ls 6 [(0, .ref (ha 19)), (1, .int x1)] := hl
  obtain ⟨H, hHe⟩ : ∃ H, H = s.heap := ⟨_, rfl⟩
  rw [← hHe] at hh ⊢
  unfold wp_X3_setWanted at hw
  refine lv_iload_n hx hb dX3_setWanted_0 rfl (lv_at hl 1 rfl) ?_
  refine lv_istore_n (lv' := [(2, .int x1), (0, .ref (ha 19)), (1, .int x1)]) hx hb dX3_setWanted_1 rfl hl (by decide) rfl (fun ls hl => ?_)
  refine lv_iconst (v := 0) hx hb dX3_setWanted_2 (by decide) ?_
  refine lv_istore_n (lv' := [(3, .int 0), (2, .int x1), (0, .ref (ha 19)), (1, .int x1)]) hx hb dX3_setWanted_3 rfl hl (by decide) rfl (fun ls hl => ?_)
  obtain ⟨n4, hw⟩ := hw
  exact w_X3_setWanted_4 Post F  n4 x1 0 σ _ _ _ hh (lv_sub hl [2, 1, 0] rfl) hw
theorem cw_X3_111 {R : Room} {s : State} {args : Array Value} (ht : ∀ w ∈ wsL_law, w.before args s = true) (hR : rm_J6_bitCount_0f7a4.frames + 1 ≤ R.frames ∧ 8 + (1 + 11) + rm_J6_bitCount_0f7a4.locals ≤ R.locals) : lf_cS R s args RX3 111 yJ6_bitCount_0f7a4 cJ6_bitCount_0f7a4 1 (some .int) rm_J6_bitCount_0f7a4 1 :=
  lf_cS_of 1 ht (lr_14 _ (List.mem_of_getElem? (i := 9) rfl)) (lr_28 _ (List.mem_of_getElem? (i := 3) rfl)) (lr_14 _ (List.mem_of_getElem? (i := 7) rfl)) (lr_14 _ (List.mem_of_getElem? (i := 8) rfl)) rfl rfl (by decide +kernel) hR
theorem cw_X3_117 {R : Room} {s : State} {args : Array Value} (ht : ∀ w ∈ wsL_law, w.before args s = true) (hR : rm_X3_setWanted.frames + 1 ≤ R.frames ∧ 8 + (6 + 11) + rm_X3_setWanted.locals ≤ R.locals) : lf_cV R s args RX3 RX3 117 yX3_setWanted cX3_setWanted 6 none rm_X3_setWanted 1 :=
  lf_cV_of 1 ht (lr_28 _ (List.mem_of_getElem? (i := 7) rfl)) (lr_28 _ (List.mem_of_getElem? (i := 4) rfl)) (lr_28 _ (List.mem_of_getElem? (i := 5) rfl)) (lr_28 _ (List.mem_of_getElem? (i := 6) rfl)) (lr_1 _ (List.mem_of_getElem? (i := 22) rfl)) rfl rfl (by decide +kernel) hR
theorem cw_X3_121 {R : Room} {s : State} {args : Array Value} (ht : ∀ w ∈ wsL_law, w.before args s = true) (hR : rm_X3_setField.frames + 1 ≤ R.frames ∧ 8 + (5 + 11) + rm_X3_setField.locals ≤ R.locals) : lf_cV R s args RX3 RX3 121 yX3_setField cX3_setField 5 none rm_X3_setField 0 :=
  lf_cV_of 0 ht (lr_28 _ (List.mem_of_getElem? (i := 15) rfl)) (lr_28 _ (List.mem_of_getElem? (i := 12) rfl)) (lr_28 _ (List.mem_of_getElem? (i := 13) rfl)) (lr_28 _ (List.mem_of_getElem? (i := 14) rfl)) (lr_1 _ (List.mem_of_getElem? (i := 22) rfl)) rfl rfl (by decide +kernel) hR
theorem cw_X3_124 {R : Room} {s : State} {args : Array Value} (ht : ∀ w ∈ wsL_law, w.before args s = true) (hR : rm_X3_noBarExceeds.frames + 1 ≤ R.frames ∧ 8 + (2 + 11) + rm_X3_noBarExceeds.locals ≤ R.locals) : lf_cV R s args RX3 RX3 124 yX3_noBarExceeds cX3_noBarExceeds 2 (some .boolean) rm_X3_noBarExceeds 0 :=
  lf_cV_of 0 ht (lr_28 _ (List.mem_of_getElem? (i := 20) rfl)) (lr_28 _ (List.mem_of_getElem? (i := 17) rfl)) (lr_28 _ (List.mem_of_getElem? (i := 18) rfl)) (lr_28 _ (List.mem_of_getElem? (i := 19) rfl)) (lr_1 _ (List.mem_of_getElem? (i := 22) rfl)) rfl rfl (by decide +kernel) hR
def J_X3_lookAtTrial_64 (Post : lf_St → Prop) (σ : lf_St) : Prop := Post (lf_si σ 9 (lf_gi σ (30 + 4)))
def L_X3_lookAtTrial_27 (Post : lf_St → Prop) : Nat → Int32 → Int32 → lf_St → Prop
  | 0, _, _, _ => False
  | n + 1, x1, x2, σ => (((1 <<< (x1 &&& 31)) ≤ x2) → (J_X3_lookAtTrial_64 Post σ)) ∧ ((¬ ((1 <<< (x1 &&& 31)) ≤ x2)) → (((¬ (lf_gi σ 8) = 0) → (J_X3_lookAtTrial_64 Post σ)) ∧ (((lf_gi σ 8) = 0) → (wp_X3_setWanted x2 σ (fun σ3 => wp_X3_setField σ3 (fun σ4 => wp_X3_noBarExceeds σ4 (fun r5 σ5 => (fits .boolean (.int r5) = true) ∧ (∀ v7 : Int32, v7 = x2 + 1 → (L_X3_lookAtTrial_27 Post n x1 v7 (lf_si σ5 8 r5))))))))))
def wp_X3_lookAtTrial (σ : lf_St) (Post : lf_St → Prop) : Prop := wp_J6_bitCount_0f7a4 (lf_gi σ (40 + 4)) σ (fun r1 σ1 => ∀ v2 : Int32, v2 = ((lf_gi σ 7) - r1) → (∃ fu : Nat, L_X3_lookAtTrial_27 Post fu v2 0 σ1))
def rm_X3_lookAtTrial : Room := ({ frames := 3, cells := 0, slots := 0, locals := 69 } : Room)
set_option maxHeartbeats 4000000 in
set_option maxRecDepth 100000 in
theorem w_X3_lookAtTrial_64 {p : Program} {l : Launch} {e : Env} {s : State} {m : MethodId} {args : Array Value} {below : List Frame} {meth : Method} {c : Code} {D : va_G} {A : Nat → Prop} {ha : Nat → Nat} {cy : Nat → ClassId} (Post : lf_St → Prop) (F : lf_C p s m args meth c RX3 cX3_lookAtTrial 3 none D (tyC_ cy) A) (σ : lf_St) (H : Heap) (locs : List Loc) (ls : Array Slot) (hh : lf_H D (wC_ ha cy) A s σ H locs) (hl : lv_has ls 3 [(0, .ref (ha 19))]) (hw : J_X3_lookAtTrial_64 Post σ) : W p l e rm_X3_lookAtTrial s m args below meth c H locs 0 0 (lf_Qv below args s D (tyC_ cy) A (wC_ ha cy) Post) (F0 m 64 ls []) := by
  have hx := F.1.1
  have hb := F.1.2.1
  unfold J_X3_lookAtTrial_64 at hw
  refine lv_aload_n hx hb dX3_lookAtTrial_64 rfl (lv_at hl 0 rfl) ?_
  refine lv_aload_n hx hb dX3_lookAtTrial_65 rfl (lv_at hl 0 rfl) ?_
  refine fg_X3_26 F hh dX3_lookAtTrial_66 ?_
  refine fg_X3_95 F hh dX3_lookAtTrial_69 ?_
  refine fg_X3_128 F hh 4 (by decide) dX3_lookAtTrial_72 ?_
  refine fp_X3_131 F hh dX3_lookAtTrial_75 (fun H locs hh => ?_)
  exact lf_retv F hh hw dX3_lookAtTrial_78
set_option maxHeartbeats 4000000 in
set_option maxRecDepth 100000 in
theorem w_X3_lookAtTrial_27 {p : Program} {l : Launch} {e : Env} {s : State} {m : MethodId} {args : Array Value} {below : List Frame} {meth : Method} {c : Code} {D : va_G} {A : Nat → Prop} {ha : Nat → Nat} {cy : Nat → ClassId} (Post : lf_St → Prop) (F : lf_C p s m args meth c RX3 cX3_lookAtTrial 3 none D (tyC_ cy) A) : ∀ (n : Nat) (x1 : Int32) (x2 : Int32) (σ : lf_St) (H : Heap) (locs : List Loc) (ls : Array Slot), lf_H D (wC_ ha cy) A s σ H locs → lv_has ls 3 [(0, .ref (ha 19)), (1, .int x1), (2, .int x2)] → L_X3_lookAtTrial_27 Post n x1 x2 σ → W p l e rm_X3_lookAtTrial s m args below meth c H locs 0 0 (lf_Qv below args s D (tyC_ cy) A (wC_ ha cy) Post) (F0 m 27 ls []) := by
  have hx := F.1.1
  have hb := F.1.2.1
  intro n
  induction n with
  | zero =>
    intro x1 x2 σ H locs ls hh hl hw
    exact False.elim hw
  | succ n ih =>
    intro x1 x2 σ H locs ls hh hl hw
    unfold L_X3_lookAtTrial_27 at hw
    refine lv_iload_n hx hb dX3_lookAtTrial_27 rfl (lv_at hl 2 rfl) ?_
    refine lv_iconst (v := 1) hx hb dX3_lookAtTrial_28 (by decide) ?_
    refine lv_iload_n hx hb dX3_lookAtTrial_29 rfl (lv_at hl 1 rfl) ?_
    refine lv_ishl hx hb dX3_lookAtTrial_30 ?_
    refine lv_icmp_ge (tgt := 64) hx hb dX3_lookAtTrial_31 (by decide) (fun c1 => ?_) (fun c1 => ?_)
    · have hw := hw.1 c1
      exact w_X3_lookAtTrial_64 Post F  σ _ _ _ hh (lv_sub hl [0] rfl) hw
    · have hw := hw.2 c1
      refine lv_aload_n hx hb dX3_lookAtTrial_34 rfl (lv_at hl 0 rfl) ?_
      refine fg_X3_36 F hh dX3_lookAtTrial_35 ?_
      refine lv_if_ne (tgt := 64) hx hb dX3_lookAtTrial_38 (by decide) (fun c2 => ?_) (fun c2 => ?_)
      · have hw := hw.1 c2
        exact w_X3_lookAtTrial_64 Post F  σ _ _ _ hh (lv_sub hl [0] rfl) hw
      · have hw := hw.2 c2
        refine lv_aload_n hx hb dX3_lookAtTrial_41 rfl (lv_at hl 0 rfl) ?_
        refine lv_iload_n hx hb dX3_lookAtTrial_42 rfl (lv_at hl 2 rfl) ?_
        refine lf_callVv (rest := []) F hh (cw_X3_117 F.1.2.2.2.2 ⟨Nat.le_of_ble_eq_true rfl, Nat.le_of_ble_eq_true rfl⟩) (c_X3_setWanted l D ha cy H.size σ x2 _ hw) 19 3 rfl rfl rfl rfl hl.1 (Nat.le_of_ble_eq_true rfl) dX3_lookAtTrial_43 rfl (fun σ3 H locs hw hh => ?_)
        refine lv_aload_n hx hb dX3_lookAtTrial_46 rfl (lv_at hl 0 rfl) ?_
        refine lf_callVv (rest := []) F hh (cw_X3_121 F.1.2.2.2.2 ⟨Nat.le_of_ble_eq_true rfl, Nat.le_of_ble_eq_true rfl⟩) (c_X3_setField l D ha cy H.size σ3  _ hw) 19 3 rfl rfl rfl rfl hl.1 (Nat.le_of_ble_eq_true rfl) dX3_lookAtTrial_47 rfl (fun σ4 H locs hw hh => ?_)
        refine lv_aload_n hx hb dX3_lookAtTrial_50 rfl (lv_at hl 0 rfl) ?_
        refine lv_aload_n hx hb dX3_lookAtTrial_51 rfl (lv_at hl 0 rfl) ?_
        refine lf_callVi (rest := [.ref (ha 19)]) F hh (cw_X3_124 F.1.2.2.2.2 ⟨Nat.le_of_ble_eq_true rfl, Nat.le_of_ble_eq_true rfl⟩) (c_X3_noBarExceeds l D ha cy H.size σ4  _ hw) 19 3 rfl rfl rfl rfl hl.1 (Nat.le_of_ble_eq_true rfl) dX3_lookAtTrial_52 rfl (fun r5 σ5 H locs hw hh => ?_)
        obtain ⟨q6, hw⟩ := hw
        refine fp_X3_36 F hh q6 dX3_lookAtTrial_55 (fun H locs hh => ?_)
        obtain ⟨v7, ev7⟩ : ∃ y : Int32, y = x2 + 1 := ⟨_, rfl⟩
        have hw := hw v7 ev7
        refine lv_iinc (v := v7) (lv' := [(2, .int v7), (0, .ref (ha 19)), (1, .int x1)]) hx hb dX3_lookAtTrial_58 hl (k := 2) rfl (by rw [ev7]; rfl) (by decide) rfl (fun ls hl => ?_)
        refine lv_goto (tgt := 27) hx hb dX3_lookAtTrial_61 (by decide) ?_
        exact ih x1 v7 (lf_si σ5 8 r5) _ _ _ hh (lv_sub hl [1, 2, 0] rfl) hw
set_option maxHeartbeats 4000000 in
set_option maxRecDepth 100000 in
theorem c_X3_lookAtTrial (l : Launch) (D : va_G) (ha : Nat → Nat) (cy : Nat → ClassId) (sz : Nat) (σ : lf_St) (Post : lf_St → Prop) (hw : wp_X3_lookAtTrial σ Post) : lf_Mv l yX3_lookAtTrial (lf_ws yX3_lookAtTrial cX3_lookAtTrial 3 none) rm_X3_lookAtTrial D (tyC_ cy) (wC_ ha cy) sz σ [.ref (ha 19)] Post := by
  refine lf_ofv (by decide +kernel) (Nat.le_of_ble_eq_true rfl) ?_
  intro p e s m args below meth c A ls F hh hl
  have hx := F.1.1
  have hb := F.1.2.1
  have hl : lv_has ls 3 [(0, .ref (ha 19))] := hl
  obtain ⟨H, hHe⟩ : ∃ H, H = s.heap := ⟨_, rfl⟩
  rw [← hHe] at hh ⊢
  unfold wp_X3_lookAtTrial at hw
  refine lv_aload_n hx hb dX3_lookAtTrial_0 rfl (lv_at hl 0 rfl) ?_
  refine fg_X3_26 F hh dX3_lookAtTrial_1 ?_
  refine fg_X3_99 F hh dX3_lookAtTrial_4 ?_
  refine fg_X3_103 F hh dX3_lookAtTrial_7 ?_
  refine lv_aload_n hx hb dX3_lookAtTrial_10 rfl (lv_at hl 0 rfl) ?_
  refine fg_X3_26 F hh dX3_lookAtTrial_11 ?_
  refine fg_X3_95 F hh dX3_lookAtTrial_14 ?_
  refine fg_X3_108 F hh 4 (by decide) dX3_lookAtTrial_17 ?_
  refine lf_callSi (rest := [.int (lf_gi σ 7)]) F hh (cw_X3_111 F.1.2.2.2.2 ⟨Nat.le_of_ble_eq_true rfl, Nat.le_of_ble_eq_true rfl⟩) (c_J6_bitCount_0f7a4 l D ha cy H.size σ (lf_gi σ (40 + 4)) _ hw) rfl hl.1 (Nat.le_of_ble_eq_true rfl) dX3_lookAtTrial_20 rfl (fun r1 σ1 H locs hw hh => ?_)
  refine lv_isub hx hb dX3_lookAtTrial_23 ?_
  refine lv_topi (fun v2 ev2 => ?_)
  have hw := hw v2 ev2
  refine lv_istore_n (lv' := [(1, .int v2), (0, .ref (ha 19))]) hx hb dX3_lookAtTrial_24 rfl hl (by decide) rfl (fun ls hl => ?_)
  refine lv_iconst (v := 0) hx hb dX3_lookAtTrial_25 (by decide) ?_
  refine lv_istore_n (lv' := [(2, .int 0), (1, .int v2), (0, .ref (ha 19))]) hx hb dX3_lookAtTrial_26 rfl hl (by decide) rfl (fun ls hl => ?_)
  obtain ⟨n27, hw⟩ := hw
  exact w_X3_lookAtTrial_27 Post F  n27 v2 0 σ1 _ _ _ hh (lv_sub hl [2, 1, 0] rfl) hw
def L_J7_fill_d0a16_6 (Post : lf_St → Prop) : Nat → Int64 → Int32 → Int32 → lf_St → Prop
  | 0, _, _, _, _ => False
  | n + 1, x1, x3, x4, σ => ((x4 ≤ x3) → (Post σ)) ∧ ((¬ (x4 ≤ x3)) → (vp_in x3 10 ∧ (∀ v3 : Int32, v3 = x3 + 1 → (L_J7_fill_d0a16_6 Post n x1 v3 x4 (lf_sb σ (27 + 4) x3.toNatClampNeg x1)))))
def wp_J7_fill_d0a16 (x1 : Int64) (σ : lf_St) (Post : lf_St → Prop) : Prop := ∃ fu : Nat, L_J7_fill_d0a16_6 Post fu x1 0 10 σ
def rm_J7_fill_d0a16 : Room := ({ frames := 0, cells := 0, slots := 0, locals := 0 } : Room)
set_option maxHeartbeats 4000000 in
set_option maxRecDepth 100000 in
theorem w_J7_fill_d0a16_6 {p : Program} {l : Launch} {e : Env} {s : State} {m : MethodId} {args : Array Value} {below : List Frame} {meth : Method} {c : Code} {D : va_G} {A : Nat → Prop} {ha : Nat → Nat} {cy : Nat → ClassId} (Post : lf_St → Prop) (F : lf_C p s m args meth c RJ7 cJ7_fill_d0a16 5 none D (tyC_ cy) A) : ∀ (n : Nat) (x1 : Int64) (x3 : Int32) (x4 : Int32) (σ : lf_St) (H : Heap) (locs : List Loc) (ls : Array Slot), lf_H D (wC_ ha cy) A s σ H locs → lv_has ls 5 [(0, .ref (ha (27 + 4))), (1, .long x1), (3, .int x3), (4, .int x4)] → L_J7_fill_d0a16_6 Post n x1 x3 x4 σ → W p l e rm_J7_fill_d0a16 s m args below meth c H locs 0 0 (lf_Qv below args s D (tyC_ cy) A (wC_ ha cy) Post) (F0 m 6 ls []) := by
  have hx := F.1.1
  have hb := F.1.2.1
  intro n
  induction n with
  | zero =>
    intro x1 x3 x4 σ H locs ls hh hl hw
    exact False.elim hw
  | succ n ih =>
    intro x1 x3 x4 σ H locs ls hh hl hw
    unfold L_J7_fill_d0a16_6 at hw
    refine lv_iload_n hx hb dJ7_fill_d0a16_6 rfl (lv_at hl 2 rfl) ?_
    refine lv_iload hx hb dJ7_fill_d0a16_7 (lv_at hl 3 rfl) ?_
    refine lv_icmp_ge (tgt := 22) hx hb dJ7_fill_d0a16_9 (by decide) (fun c1 => ?_) (fun c1 => ?_)
    · have hw := hw.1 c1
      exact lf_retv F hh hw dJ7_fill_d0a16_22
    · have hw := hw.2 c1
      refine lv_aload_n hx hb dJ7_fill_d0a16_12 rfl (lv_at hl 0 rfl) ?_
      refine lv_iload_n hx hb dJ7_fill_d0a16_13 rfl (lv_at hl 2 rfl) ?_
      refine lv_lload_n hx hb dJ7_fill_d0a16_14 rfl (lv_at hl 1 rfl) ?_
      obtain ⟨q2, hw⟩ := hw
      refine wa_C_pt F hh 4 (by decide) q2 dJ7_fill_d0a16_15 (fun H locs hh => ?_)
      obtain ⟨v3, ev3⟩ : ∃ y : Int32, y = x3 + 1 := ⟨_, rfl⟩
      have hw := hw v3 ev3
      refine lv_iinc (v := v3) (lv' := [(3, .int v3), (0, .ref (ha (27 + 4))), (1, .long x1), (4, .int x4)]) hx hb dJ7_fill_d0a16_16 hl (k := 2) rfl (by rw [ev3]; rfl) (by decide) rfl (fun ls hl => ?_)
      refine lv_goto (tgt := 6) hx hb dJ7_fill_d0a16_19 (by decide) ?_
      exact ih x1 v3 x4 (lf_sb σ (27 + 4) x3.toNatClampNeg x1) _ _ _ hh (lv_sub hl [1, 2, 0, 3] rfl) hw
set_option maxHeartbeats 4000000 in
set_option maxRecDepth 100000 in
theorem c_J7_fill_d0a16 (l : Launch) (D : va_G) (ha : Nat → Nat) (cy : Nat → ClassId) (sz : Nat) (σ : lf_St) (x1 : Int64) (Post : lf_St → Prop) (hw : wp_J7_fill_d0a16 x1 σ Post) : lf_Mv l yJ7_fill_d0a16 (lf_ws yJ7_fill_d0a16 cJ7_fill_d0a16 5 none) rm_J7_fill_d0a16 D (tyC_ cy) (wC_ ha cy) sz σ [.ref (ha (27 + 4)), .long x1] Post := by
  refine lf_ofv (by decide +kernel) (Nat.le_of_ble_eq_true rfl) ?_
  intro p e s m args below meth c A ls F hh hl
  have hx := F.1.1
  have hb := F.1.2.1
  have hl : lv_has ls 5 [(0, .ref (ha (27 + 4))), (1, .long x1)] := hl
  obtain ⟨H, hHe⟩ : ∃ H, H = s.heap := ⟨_, rfl⟩
  rw [← hHe] at hh ⊢
  unfold wp_J7_fill_d0a16 at hw
  refine lv_iconst (v := 0) hx hb dJ7_fill_d0a16_0 (by decide) ?_
  refine lv_istore_n (lv' := [(3, .int 0), (0, .ref (ha (27 + 4))), (1, .long x1)]) hx hb dJ7_fill_d0a16_1 rfl hl (by decide) rfl (fun ls hl => ?_)
  refine lv_aload_n hx hb dJ7_fill_d0a16_2 rfl (lv_at hl 1 rfl) ?_
  refine al_C_pt F hh 4 (by decide) dJ7_fill_d0a16_3 ?_
  refine lv_istore (lv' := [(4, .int 10), (3, .int 0), (0, .ref (ha (27 + 4))), (1, .long x1)]) hx hb dJ7_fill_d0a16_4 hl (by decide) rfl (fun ls hl => ?_)
  obtain ⟨n6, hw⟩ := hw
  exact w_J7_fill_d0a16_6 Post F  n6 x1 0 10 σ _ _ _ hh (lv_sub hl [2, 3, 1, 0] rfl) hw
theorem cw_X4_143 {R : Room} {s : State} {args : Array Value} (ht : ∀ w ∈ wsL_law, w.before args s = true) (hR : rm_X1_at.frames + 1 ≤ R.frames ∧ 8 + (3 + 11) + rm_X1_at.locals ≤ R.locals) : lf_cV R s args RX4 RX1 143 yX1_at cX1_at 3 (some .long) rm_X1_at 2 :=
  lf_cV_of 2 ht (lr_17 _ (List.mem_of_getElem? (i := 21) rfl)) (lr_17 _ (List.mem_of_getElem? (i := 18) rfl)) (lr_17 _ (List.mem_of_getElem? (i := 19) rfl)) (lr_17 _ (List.mem_of_getElem? (i := 20) rfl)) (lr_3 _ (List.mem_of_getElem? (i := 4) rfl)) rfl rfl (by decide +kernel) hR
def L_X4_takePull_5 (Post : lf_St → Prop) : Nat → Int32 → Int64 → Int32 → lf_St → Prop
  | 0, _, _, _, _ => False
  | n + 1, x1, x2, x4, σ => (((lf_gi σ 7) ≤ x4) → (vp_in x1 6 ∧ (∀ v3 : Int32, v3 = (lf_ai σ 17 x1.toNatClampNeg) → (vp_in v3 10 ∧ (((x2 = 0) → (Post (lf_sb σ (27 + 4) v3.toNatClampNeg x2))) ∧ ((¬ (x2 = 0)) → (∀ σ6 : lf_St, σ6 = (lf_sb σ (27 + 4) v3.toNatClampNeg x2) → (∀ σ7 : lf_St, σ7 = (lf_si σ6 (40 + 4) ((lf_gi σ6 (40 + 4)) ||| (1 <<< (v3 &&& 31)))) → (vp_in v3 10 ∧ (vp_in v3 10 ∧ (Post (lf_si σ7 (50 + 4) ((lf_gi σ7 (50 + 4)) ||| ((1 <<< ((lf_ai σ7 6 v3.toNatClampNeg) &&& 31)) ||| (1 <<< ((lf_ai σ7 7 v3.toNatClampNeg) &&& 31)))))))))))))))) ∧ ((¬ ((lf_gi σ 7) ≤ x4)) → (wp_X1_at x1 x4 σ (fun r10 σ10 => vp_in x4 6 ∧ (∀ v12 : Int64, v12 = (x2 - (r10 * (((lf_ai σ10 5 x4.toNatClampNeg) : Int32).toInt64))) → (∀ v13 : Int32, v13 = x4 + 1 → (L_X4_takePull_5 Post n x1 v12 v13 σ10))))))
def wp_X4_takePull (x1 : Int32) (σ : lf_St) (Post : lf_St → Prop) : Prop := ∃ fu : Nat, L_X4_takePull_5 Post fu x1 0 0 σ
def rm_X4_takePull : Room := ({ frames := 1, cells := 0, slots := 0, locals := 22 } : Room)
set_option maxHeartbeats 4000000 in
set_option maxRecDepth 100000 in
theorem w_X4_takePull_5 {p : Program} {l : Launch} {e : Env} {s : State} {m : MethodId} {args : Array Value} {below : List Frame} {meth : Method} {c : Code} {D : va_G} {A : Nat → Prop} {ha : Nat → Nat} {cy : Nat → ClassId} (Post : lf_St → Prop) (F : lf_C p s m args meth c RX4 cX4_takePull 5 none D (tyC_ cy) A) : ∀ (n : Nat) (x1 : Int32) (x2 : Int64) (x4 : Int32) (σ : lf_St) (H : Heap) (locs : List Loc) (ls : Array Slot), lf_H D (wC_ ha cy) A s σ H locs → lv_has ls 5 [(0, .ref (ha 13)), (1, .int x1), (2, .long x2), (4, .int x4)] → L_X4_takePull_5 Post n x1 x2 x4 σ → W p l e rm_X4_takePull s m args below meth c H locs 0 0 (lf_Qv below args s D (tyC_ cy) A (wC_ ha cy) Post) (F0 m 5 ls []) := by
  have hx := F.1.1
  have hb := F.1.2.1
  intro n
  induction n with
  | zero =>
    intro x1 x2 x4 σ H locs ls hh hl hw
    exact False.elim hw
  | succ n ih =>
    intro x1 x2 x4 σ H locs ls hh hl hw
    unfold L_X4_takePull_5 at hw
    refine lv_iload hx hb dX4_takePull_5 (lv_at hl 3 rfl) ?_
    refine lv_aload_n hx hb dX4_takePull_7 rfl (lv_at hl 0 rfl) ?_
    refine fg_X4_35 F hh dX4_takePull_8 ?_
    refine fg_X4_104 F hh dX4_takePull_11 ?_
    refine lv_icmp_ge (tgt := 48) hx hb dX4_takePull_14 (by decide) (fun c1 => ?_) (fun c1 => ?_)
    · have hw := hw.1 c1
      refine lv_aload_n hx hb dX4_takePull_48 rfl (lv_at hl 0 rfl) ?_
      refine fg_X4_35 F hh dX4_takePull_49 ?_
      refine fg_X4_150 F hh dX4_takePull_52 ?_
      refine lv_iload_n hx hb dX4_takePull_55 rfl (lv_at hl 1 rfl) ?_
      obtain ⟨q2, hw⟩ := hw
      refine ra_C_17 F hh q2 dX4_takePull_56 ?_
      refine lv_topi (fun v3 ev3 => ?_)
      have hw := hw v3 ev3
      refine lv_istore (lv' := [(4, .int v3), (0, .ref (ha 13)), (1, .int x1), (2, .long x2)]) hx hb dX4_takePull_57 hl (by decide) rfl (fun ls hl => ?_)
      refine lv_aload_n hx hb dX4_takePull_59 rfl (lv_at hl 1 rfl) ?_
      refine fg_X4_12 F hh dX4_takePull_60 ?_
      refine fg_X4_94 F hh 4 (by decide) dX4_takePull_63 ?_
      refine lv_iload hx hb dX4_takePull_66 (lv_at hl 0 rfl) ?_
      refine lv_lload_n hx hb dX4_takePull_68 rfl (lv_at hl 3 rfl) ?_
      obtain ⟨q4, hw⟩ := hw
      refine wa_C_pt F hh 4 (by decide) q4 dX4_takePull_69 (fun H locs hh => ?_)
      refine lv_lload_n hx hb dX4_takePull_70 rfl (lv_at hl 3 rfl) ?_
      refine lv_lconst (v := 0) hx hb dX4_takePull_71 (by decide) ?_
      refine lf_lcmp_eq (tgt := 129) hx hb dX4_takePull_72 dX4_takePull_73 (by decide) (fun c5 => ?_) (fun c5 => ?_)
      · have hw := hw.1 c5
        exact lf_retv F hh hw dX4_takePull_129
      · have hw := hw.2 c5
        refine lv_aload_n hx hb dX4_takePull_76 rfl (lv_at hl 1 rfl) ?_
        refine fg_X4_12 F hh dX4_takePull_77 ?_
        refine lv_dup hx hb dX4_takePull_80 rfl ?_
        obtain ⟨σ6, eσ6⟩ : ∃ z : lf_St, z = (lf_sb σ (27 + 4) v3.toNatClampNeg x2) := ⟨_, rfl⟩
        rw [← eσ6] at hh
        have hw := hw σ6 eσ6
        refine fg_X4_88 F hh 4 (by decide) dX4_takePull_81 ?_
        refine lv_iconst (v := 1) hx hb dX4_takePull_84 (by decide) ?_
        refine lv_iload hx hb dX4_takePull_85 (lv_at hl 0 rfl) ?_
        refine lv_ishl hx hb dX4_takePull_87 ?_
        refine lv_ior hx hb dX4_takePull_88 ?_
        refine fp_X4_88 F hh 4 (by decide) dX4_takePull_89 (fun H locs hh => ?_)
        refine lv_aload_n hx hb dX4_takePull_92 rfl (lv_at hl 1 rfl) ?_
        refine fg_X4_12 F hh dX4_takePull_93 ?_
        refine lv_dup hx hb dX4_takePull_96 rfl ?_
        obtain ⟨σ7, eσ7⟩ : ∃ z : lf_St, z = (lf_si σ6 (40 + 4) ((lf_gi σ6 (40 + 4)) ||| (1 <<< (v3 &&& 31)))) := ⟨_, rfl⟩
        rw [← eσ7] at hh
        have hw := hw σ7 eσ7
        refine fg_X4_91 F hh 4 (by decide) dX4_takePull_97 ?_
        refine lv_iconst (v := 1) hx hb dX4_takePull_100 (by decide) ?_
        refine lv_aload_n hx hb dX4_takePull_101 rfl (lv_at hl 1 rfl) ?_
        refine fg_X4_26 F hh dX4_takePull_102 ?_
        refine fg_X4_152 F hh dX4_takePull_105 ?_
        refine lv_iload hx hb dX4_takePull_108 (lv_at hl 0 rfl) ?_
        obtain ⟨q8, hw⟩ := hw
        refine ra_C_6 F hh q8 dX4_takePull_110 ?_
        refine lv_ishl hx hb dX4_takePull_111 ?_
        refine lv_iconst (v := 1) hx hb dX4_takePull_112 (by decide) ?_
        refine lv_aload_n hx hb dX4_takePull_113 rfl (lv_at hl 1 rfl) ?_
        refine fg_X4_26 F hh dX4_takePull_114 ?_
        refine fg_X4_155 F hh dX4_takePull_117 ?_
        refine lv_iload hx hb dX4_takePull_120 (lv_at hl 0 rfl) ?_
        obtain ⟨q9, hw⟩ := hw
        refine ra_C_7 F hh q9 dX4_takePull_122 ?_
        refine lv_ishl hx hb dX4_takePull_123 ?_
        refine lv_ior hx hb dX4_takePull_124 ?_
        refine lv_ior hx hb dX4_takePull_125 ?_
        refine fp_X4_91 F hh 4 (by decide) dX4_takePull_126 (fun H locs hh => ?_)
        exact lf_retv F hh hw dX4_takePull_129
    · have hw := hw.2 c1
      refine lv_lload_n hx hb dX4_takePull_17 rfl (lv_at hl 2 rfl) ?_
      refine lv_aload_n hx hb dX4_takePull_18 rfl (lv_at hl 0 rfl) ?_
      refine fg_X4_35 F hh dX4_takePull_19 ?_
      refine lv_iload_n hx hb dX4_takePull_22 rfl (lv_at hl 1 rfl) ?_
      refine lv_iload hx hb dX4_takePull_23 (lv_at hl 3 rfl) ?_
      refine lf_callVl (rest := [.long x2]) F hh (cw_X4_143 F.1.2.2.2.2 ⟨Nat.le_of_ble_eq_true rfl, Nat.le_of_ble_eq_true rfl⟩) (c_X1_at l D ha cy H.size σ x1 x4 _ hw) 16 1 rfl rfl rfl rfl hl.1 (Nat.le_of_ble_eq_true rfl) dX4_takePull_25 rfl (fun r10 σ10 H locs hw hh => ?_)
      refine lv_aload_n hx hb dX4_takePull_28 rfl (lv_at hl 0 rfl) ?_
      refine fg_X4_26 F hh dX4_takePull_29 ?_
      refine fg_X4_147 F hh dX4_takePull_32 ?_
      refine lv_iload hx hb dX4_takePull_35 (lv_at hl 3 rfl) ?_
      obtain ⟨q11, hw⟩ := hw
      refine ra_C_5 F hh q11 dX4_takePull_37 ?_
      refine lv_i2l hx hb dX4_takePull_38 rfl ?_
      refine lv_lmul hx hb dX4_takePull_39 ?_
      refine lv_lsub hx hb dX4_takePull_40 ?_
      refine lv_topl (fun v12 ev12 => ?_)
      have hw := hw v12 ev12
      refine lv_lstore_n (lv' := [(2, .long v12), (0, .ref (ha 13)), (1, .int x1), (4, .int x4)]) hx hb dX4_takePull_41 rfl hl (by decide) rfl (fun ls hl => ?_)
      obtain ⟨v13, ev13⟩ : ∃ y : Int32, y = x4 + 1 := ⟨_, rfl⟩
      have hw := hw v13 ev13
      refine lv_iinc (v := v13) (lv' := [(4, .int v13), (2, .long v12), (0, .ref (ha 13)), (1, .int x1)]) hx hb dX4_takePull_42 hl (k := 3) rfl (by rw [ev13]; rfl) (by decide) rfl (fun ls hl => ?_)
      refine lv_goto (tgt := 5) hx hb dX4_takePull_45 (by decide) ?_
      exact ih x1 v12 v13 σ10 _ _ _ hh (lv_sub hl [2, 3, 1, 0] rfl) hw
set_option maxHeartbeats 4000000 in
set_option maxRecDepth 100000 in
theorem c_X4_takePull (l : Launch) (D : va_G) (ha : Nat → Nat) (cy : Nat → ClassId) (sz : Nat) (σ : lf_St) (x1 : Int32) (Post : lf_St → Prop) (hw : wp_X4_takePull x1 σ Post) : lf_Mv l yX4_takePull (lf_ws yX4_takePull cX4_takePull 5 none) rm_X4_takePull D (tyC_ cy) (wC_ ha cy) sz σ [.ref (ha 13), .int x1] Post := by
  refine lf_ofv (by decide +kernel) (Nat.le_of_ble_eq_true rfl) ?_
  intro p e s m args below meth c A ls F hh hl
  have hx := F.1.1
  have hb := F.1.2.1
  have hl : lv_has ls 5 [(0, .ref (ha 13)), (1, .int x1)] := hl
  obtain ⟨H, hHe⟩ : ∃ H, H = s.heap := ⟨_, rfl⟩
  rw [← hHe] at hh ⊢
  unfold wp_X4_takePull at hw
  refine lv_lconst (v := 0) hx hb dX4_takePull_0 (by decide) ?_
  refine lv_lstore_n (lv' := [(2, .long 0), (0, .ref (ha 13)), (1, .int x1)]) hx hb dX4_takePull_1 rfl hl (by decide) rfl (fun ls hl => ?_)
  refine lv_iconst (v := 0) hx hb dX4_takePull_2 (by decide) ?_
  refine lv_istore (lv' := [(4, .int 0), (2, .long 0), (0, .ref (ha 13)), (1, .int x1)]) hx hb dX4_takePull_3 hl (by decide) rfl (fun ls hl => ?_)
  obtain ⟨n5, hw⟩ := hw
  exact w_X4_takePull_5 Post F  n5 x1 0 0 σ _ _ _ hh (lv_sub hl [2, 3, 1, 0] rfl) hw
theorem cw_X4_75 {R : Room} {s : State} {args : Array Value} (ht : ∀ w ∈ wsL_law, w.before args s = true) (hR : rm_X1_take.frames + 1 ≤ R.frames ∧ 8 + (3 + 11) + rm_X1_take.locals ≤ R.locals) : lf_cV R s args RX4 RX1 75 yX1_take cX1_take 3 none rm_X1_take 1 :=
  lf_cV_of 1 ht (lr_15 _ (List.mem_of_getElem? (i := 13) rfl)) (lr_15 _ (List.mem_of_getElem? (i := 10) rfl)) (lr_15 _ (List.mem_of_getElem? (i := 11) rfl)) (lr_15 _ (List.mem_of_getElem? (i := 12) rfl)) (lr_3 _ (List.mem_of_getElem? (i := 4) rfl)) rfl rfl (by decide +kernel) hR
theorem cw_X4_78 {R : Room} {s : State} {args : Array Value} (ht : ∀ w ∈ wsL_law, w.before args s = true) (hR : rm_X1_invert.frames + 1 ≤ R.frames ∧ 8 + (5 + 11) + rm_X1_invert.locals ≤ R.locals) : lf_cV R s args RX4 RX1 78 yX1_invert cX1_invert 5 (some .boolean) rm_X1_invert 0 :=
  lf_cV_of 0 ht (lr_16 _ (List.mem_of_getElem? (i := 13) rfl)) (lr_16 _ (List.mem_of_getElem? (i := 10) rfl)) (lr_16 _ (List.mem_of_getElem? (i := 11) rfl)) (lr_16 _ (List.mem_of_getElem? (i := 12) rfl)) (lr_3 _ (List.mem_of_getElem? (i := 4) rfl)) rfl rfl (by decide +kernel) hR
theorem cw_X4_98 {R : Room} {s : State} {args : Array Value} (ht : ∀ w ∈ wsL_law, w.before args s = true) (hR : rm_J7_fill_d0a16.frames + 1 ≤ R.frames ∧ 8 + (5 + 11) + rm_J7_fill_d0a16.locals ≤ R.locals) : lf_cS R s args RX4 98 yJ7_fill_d0a16 cJ7_fill_d0a16 5 none rm_J7_fill_d0a16 2 :=
  lf_cS_of 2 ht (lr_17 _ (List.mem_of_getElem? (i := 9) rfl)) (lr_17 _ (List.mem_of_getElem? (i := 6) rfl)) (lr_17 _ (List.mem_of_getElem? (i := 7) rfl)) (lr_17 _ (List.mem_of_getElem? (i := 8) rfl)) rfl rfl (by decide +kernel) hR
theorem cw_X4_107 {R : Room} {s : State} {args : Array Value} (ht : ∀ w ∈ wsL_law, w.before args s = true) (hR : rm_X4_takePull.frames + 1 ≤ R.frames ∧ 8 + (5 + 11) + rm_X4_takePull.locals ≤ R.locals) : lf_cV R s args RX4 RX4 107 yX4_takePull cX4_takePull 5 none rm_X4_takePull 1 :=
  lf_cV_of 1 ht (lr_17 _ (List.mem_of_getElem? (i := 13) rfl)) (lr_17 _ (List.mem_of_getElem? (i := 10) rfl)) (lr_17 _ (List.mem_of_getElem? (i := 11) rfl)) (lr_17 _ (List.mem_of_getElem? (i := 12) rfl)) (lr_1 _ (List.mem_of_getElem? (i := 18) rfl)) rfl rfl (by decide +kernel) hR
def L_X4_tryBars_71 (Post : Int32 → lf_St → Prop) : Nat → Int32 → lf_St → Prop
  | 0, _, _ => False
  | n + 1, x2, σ => (((lf_gi σ 7) ≤ x2) → (Post 1 σ)) ∧ ((¬ ((lf_gi σ 7) ≤ x2)) → (wp_X4_takePull x2 σ (fun σ2 => ∀ v3 : Int32, v3 = x2 + 1 → (L_X4_tryBars_71 Post n v3 σ2))))
def wp_X4_tryBars (x1 : Int32) (σ : lf_St) (Post : Int32 → lf_St → Prop) : Prop := wp_X1_take x1 σ (fun σ1 => wp_X1_invert σ1 (fun r2 σ2 => ((¬ r2 = 0) → (∀ σ4 : lf_St, σ4 = (lf_si σ2 (30 + 4) x1) → (∀ σ5 : lf_St, σ5 = (lf_si (lf_si (lf_sl σ4 (20 + 4) (lf_gl σ4 0)) (40 + 4) 0) (50 + 4) 0) → wp_J7_fill_d0a16 0 σ5 (fun σ6 => ∃ fu : Nat, L_X4_tryBars_71 Post fu 0 σ6)))) ∧ ((r2 = 0) → (Post 0 σ2))))
def rm_X4_tryBars : Room := ({ frames := 2, cells := 0, slots := 0, locals := 53 } : Room)
set_option maxHeartbeats 4000000 in
set_option maxRecDepth 100000 in
theorem w_X4_tryBars_71 {p : Program} {l : Launch} {e : Env} {s : State} {m : MethodId} {args : Array Value} {below : List Frame} {meth : Method} {c : Code} {D : va_G} {A : Nat → Prop} {ha : Nat → Nat} {cy : Nat → ClassId} (Post : Int32 → lf_St → Prop) (F : lf_C p s m args meth c RX4 cX4_tryBars 3 (some .boolean) D (tyC_ cy) A) : ∀ (n : Nat) (x2 : Int32) (σ : lf_St) (H : Heap) (locs : List Loc) (ls : Array Slot), lf_H D (wC_ ha cy) A s σ H locs → lv_has ls 3 [(0, .ref (ha 13)), (2, .int x2)] → L_X4_tryBars_71 Post n x2 σ → W p l e rm_X4_tryBars s m args below meth c H locs 0 0 (lf_Qi below args s D (tyC_ cy) A (wC_ ha cy) Post) (F0 m 71 ls []) := by
  have hx := F.1.1
  have hb := F.1.2.1
  intro n
  induction n with
  | zero =>
    intro x2 σ H locs ls hh hl hw
    exact False.elim hw
  | succ n ih =>
    intro x2 σ H locs ls hh hl hw
    unfold L_X4_tryBars_71 at hw
    refine lv_iload_n hx hb dX4_tryBars_71 rfl (lv_at hl 1 rfl) ?_
    refine lv_aload_n hx hb dX4_tryBars_72 rfl (lv_at hl 0 rfl) ?_
    refine fg_X4_35 F hh dX4_tryBars_73 ?_
    refine fg_X4_104 F hh dX4_tryBars_76 ?_
    refine lv_icmp_ge (tgt := 93) hx hb dX4_tryBars_79 (by decide) (fun c1 => ?_) (fun c1 => ?_)
    · have hw := hw.1 c1
      refine lv_iconst (v := 1) hx hb dX4_tryBars_93 (by decide) ?_
      exact lf_retz F hh rfl hw dX4_tryBars_94
    · have hw := hw.2 c1
      refine lv_aload_n hx hb dX4_tryBars_82 rfl (lv_at hl 0 rfl) ?_
      refine lv_iload_n hx hb dX4_tryBars_83 rfl (lv_at hl 1 rfl) ?_
      refine lf_callVv (rest := []) F hh (cw_X4_107 F.1.2.2.2.2 ⟨Nat.le_of_ble_eq_true rfl, Nat.le_of_ble_eq_true rfl⟩) (c_X4_takePull l D ha cy H.size σ x2 _ hw) 13 4 rfl rfl rfl rfl hl.1 (Nat.le_of_ble_eq_true rfl) dX4_tryBars_84 rfl (fun σ2 H locs hw hh => ?_)
      obtain ⟨v3, ev3⟩ : ∃ y : Int32, y = x2 + 1 := ⟨_, rfl⟩
      have hw := hw v3 ev3
      refine lv_iinc (v := v3) (lv' := [(2, .int v3), (0, .ref (ha 13))]) hx hb dX4_tryBars_87 hl (k := 1) rfl (by rw [ev3]; rfl) (by decide) rfl (fun ls hl => ?_)
      refine lv_goto (tgt := 71) hx hb dX4_tryBars_90 (by decide) ?_
      exact ih v3 σ2 _ _ _ hh (lv_sub hl [1, 0] rfl) hw
set_option maxHeartbeats 4000000 in
set_option maxRecDepth 100000 in
theorem c_X4_tryBars (l : Launch) (D : va_G) (ha : Nat → Nat) (cy : Nat → ClassId) (sz : Nat) (σ : lf_St) (x1 : Int32) (Post : Int32 → lf_St → Prop) (hw : wp_X4_tryBars x1 σ Post) : lf_Mi l yX4_tryBars (lf_ws yX4_tryBars cX4_tryBars 3 (some .boolean)) rm_X4_tryBars D (tyC_ cy) (wC_ ha cy) sz σ [.ref (ha 13), .int x1] Post := by
  refine lf_ofi (by decide +kernel) (Nat.le_of_ble_eq_true rfl) ?_
  intro p e s m args below meth c A ls F hh hl
  have hx := F.1.1
  have hb := F.1.2.1
  have hl : lv_has ls 3 [(0, .ref (ha 13)), (1, .int x1)] := hl
  obtain ⟨H, hHe⟩ : ∃ H, H = s.heap := ⟨_, rfl⟩
  rw [← hHe] at hh ⊢
  unfold wp_X4_tryBars at hw
  refine lv_aload_n hx hb dX4_tryBars_0 rfl (lv_at hl 0 rfl) ?_
  refine fg_X4_35 F hh dX4_tryBars_1 ?_
  refine lv_iload_n hx hb dX4_tryBars_4 rfl (lv_at hl 1 rfl) ?_
  refine lf_callVv (rest := []) F hh (cw_X4_75 F.1.2.2.2.2 ⟨Nat.le_of_ble_eq_true rfl, Nat.le_of_ble_eq_true rfl⟩) (c_X1_take l D ha cy H.size σ x1 _ hw) 16 1 rfl rfl rfl rfl hl.1 (Nat.le_of_ble_eq_true rfl) dX4_tryBars_5 rfl (fun σ1 H locs hw hh => ?_)
  refine lv_aload_n hx hb dX4_tryBars_8 rfl (lv_at hl 0 rfl) ?_
  refine fg_X4_35 F hh dX4_tryBars_9 ?_
  refine lf_callVi (rest := []) F hh (cw_X4_78 F.1.2.2.2.2 ⟨Nat.le_of_ble_eq_true rfl, Nat.le_of_ble_eq_true rfl⟩) (c_X1_invert l D ha cy H.size σ1  _ hw) 16 1 rfl rfl rfl rfl hl.1 (Nat.le_of_ble_eq_true rfl) dX4_tryBars_12 rfl (fun r2 σ2 H locs hw hh => ?_)
  refine lv_if_ne (tgt := 20) hx hb dX4_tryBars_15 (by decide) (fun c3 => ?_) (fun c3 => ?_)
  · have hw := hw.1 c3
    refine lv_aload_n hx hb dX4_tryBars_20 rfl (lv_at hl 0 rfl) ?_
    refine fg_X4_12 F hh dX4_tryBars_21 ?_
    refine lv_iload_n hx hb dX4_tryBars_24 rfl (lv_at hl 1 rfl) ?_
    refine fp_X4_82 F hh 4 (by decide) dX4_tryBars_25 (fun H locs hh => ?_)
    refine lv_aload_n hx hb dX4_tryBars_28 rfl (lv_at hl 0 rfl) ?_
    refine fg_X4_12 F hh dX4_tryBars_29 ?_
    refine lv_aload_n hx hb dX4_tryBars_32 rfl (lv_at hl 0 rfl) ?_
    refine fg_X4_35 F hh dX4_tryBars_33 ?_
    obtain ⟨σ4, eσ4⟩ : ∃ z : lf_St, z = (lf_si σ2 (30 + 4) x1) := ⟨_, rfl⟩
    rw [← eσ4] at hh
    have hw := hw σ4 eσ4
    refine fg_X4_83 F hh dX4_tryBars_36 ?_
    refine fp_X4_87 F hh 4 (by decide) dX4_tryBars_39 (fun H locs hh => ?_)
    refine lv_aload_n hx hb dX4_tryBars_42 rfl (lv_at hl 0 rfl) ?_
    refine fg_X4_12 F hh dX4_tryBars_43 ?_
    refine lv_iconst (v := 0) hx hb dX4_tryBars_46 (by decide) ?_
    refine fp_X4_88 F hh 4 (by decide) dX4_tryBars_47 (fun H locs hh => ?_)
    refine lv_aload_n hx hb dX4_tryBars_50 rfl (lv_at hl 0 rfl) ?_
    refine fg_X4_12 F hh dX4_tryBars_51 ?_
    refine lv_iconst (v := 0) hx hb dX4_tryBars_54 (by decide) ?_
    refine fp_X4_91 F hh 4 (by decide) dX4_tryBars_55 (fun H locs hh => ?_)
    refine lv_aload_n hx hb dX4_tryBars_58 rfl (lv_at hl 0 rfl) ?_
    refine fg_X4_12 F hh dX4_tryBars_59 ?_
    refine fg_X4_94 F hh 4 (by decide) dX4_tryBars_62 ?_
    refine lv_lconst (v := 0) hx hb dX4_tryBars_65 (by decide) ?_
    obtain ⟨σ5, eσ5⟩ : ∃ z : lf_St, z = (lf_si (lf_si (lf_sl σ4 (20 + 4) (lf_gl σ4 0)) (40 + 4) 0) (50 + 4) 0) := ⟨_, rfl⟩
    rw [← eσ5] at hh
    have hw := hw σ5 eσ5
    refine lf_callSv (rest := []) F hh (cw_X4_98 F.1.2.2.2.2 ⟨Nat.le_of_ble_eq_true rfl, Nat.le_of_ble_eq_true rfl⟩) (c_J7_fill_d0a16 l D ha cy H.size σ5 0 _ hw) rfl hl.1 (Nat.le_of_ble_eq_true rfl) dX4_tryBars_66 rfl (fun σ6 H locs hw hh => ?_)
    refine lv_iconst (v := 0) hx hb dX4_tryBars_69 (by decide) ?_
    refine lv_istore_n (lv' := [(2, .int 0), (0, .ref (ha 13)), (1, .int x1)]) hx hb dX4_tryBars_70 rfl hl (by decide) rfl (fun ls hl => ?_)
    obtain ⟨n71, hw⟩ := hw
    exact w_X4_tryBars_71 Post F  n71 0 σ6 _ _ _ hh (lv_sub hl [1, 0] rfl) hw
  · have hw := hw.2 c3
    refine lv_iconst (v := 0) hx hb dX4_tryBars_18 (by decide) ?_
    exact lf_retz F hh rfl hw dX4_tryBars_19
theorem cw_X3_44 {R : Room} {s : State} {args : Array Value} (ht : ∀ w ∈ wsL_law, w.before args s = true) (hR : rm_X4_tryBars.frames + 1 ≤ R.frames ∧ 8 + (3 + 11) + rm_X4_tryBars.locals ≤ R.locals) : lf_cV R s args RX3 RX4 44 yX4_tryBars cX4_tryBars 3 (some .boolean) rm_X4_tryBars 1 :=
  lf_cV_of 1 ht (lr_15 _ (List.mem_of_getElem? (i := 3) rfl)) (lr_27 _ (List.mem_of_getElem? (i := 9) rfl)) (lr_15 _ (List.mem_of_getElem? (i := 1) rfl)) (lr_15 _ (List.mem_of_getElem? (i := 2) rfl)) (lr_1 _ (List.mem_of_getElem? (i := 18) rfl)) rfl rfl (by decide +kernel) hR
theorem cw_X3_48 {R : Room} {s : State} {args : Array Value} (ht : ∀ w ∈ wsL_law, w.before args s = true) (hR : rm_X3_costsAsMuchAs.frames + 1 ≤ R.frames ∧ 8 + (2 + 11) + rm_X3_costsAsMuchAs.locals ≤ R.locals) : lf_cV R s args RX3 RX3 48 yX3_costsAsMuchAs cX3_costsAsMuchAs 2 (some .boolean) rm_X3_costsAsMuchAs 1 :=
  lf_cV_of 1 ht (lr_27 _ (List.mem_of_getElem? (i := 13) rfl)) (lr_27 _ (List.mem_of_getElem? (i := 10) rfl)) (lr_27 _ (List.mem_of_getElem? (i := 11) rfl)) (lr_27 _ (List.mem_of_getElem? (i := 12) rfl)) (lr_1 _ (List.mem_of_getElem? (i := 22) rfl)) rfl rfl (by decide +kernel) hR
theorem cw_X3_52 {R : Room} {s : State} {args : Array Value} (ht : ∀ w ∈ wsL_law, w.before args s = true) (hR : rm_X3_lookAtTrial.frames + 1 ≤ R.frames ∧ 8 + (3 + 11) + rm_X3_lookAtTrial.locals ≤ R.locals) : lf_cV R s args RX3 RX3 52 yX3_lookAtTrial cX3_lookAtTrial 3 none rm_X3_lookAtTrial 0 :=
  lf_cV_of 0 ht (lr_27 _ (List.mem_of_getElem? (i := 21) rfl)) (lr_27 _ (List.mem_of_getElem? (i := 18) rfl)) (lr_27 _ (List.mem_of_getElem? (i := 19) rfl)) (lr_27 _ (List.mem_of_getElem? (i := 20) rfl)) (lr_1 _ (List.mem_of_getElem? (i := 22) rfl)) rfl rfl (by decide +kernel) hR
def L_X3_look_2 (k1 : Nat) (Post : lf_St → Prop) : Nat → Int32 → lf_St → Prop
  | 0, _, _ => False
  | n + 1, x2, σ => (((lf_gi σ 5) ≤ x2) → (Post σ)) ∧ ((¬ ((lf_gi σ 5) ≤ x2)) → (((¬ (lf_gi σ 8) = 0) → (Post σ)) ∧ (((lf_gi σ 8) = 0) → (vp_in x2 210 ∧ (wp_X4_tryBars (lf_ai σ 14 x2.toNatClampNeg) σ (fun r4 σ4 => ((r4 = 0) → (∀ v6 : Int32, v6 = x2 + 1 → (L_X3_look_2 k1 Post n v6 σ4))) ∧ ((¬ (r4 = 0)) → (wp_X3_costsAsMuchAs k1 σ4 (fun r7 σ7 => ((r7 = 0) → (∀ v9 : Int32, v9 = x2 + 1 → (L_X3_look_2 k1 Post n v9 σ7))) ∧ ((¬ (r7 = 0)) → (wp_X3_lookAtTrial σ7 (fun σ10 => ∀ v11 : Int32, v11 = x2 + 1 → (L_X3_look_2 k1 Post n v11 σ10)))))))))))))
def wp_X3_look (k1 : Nat) (σ : lf_St) (Post : lf_St → Prop) : Prop := ∃ fu : Nat, L_X3_look_2 k1 Post fu 0 σ
def rm_X3_look : Room := ({ frames := 4, cells := 0, slots := 0, locals := 91 } : Room)
set_option maxHeartbeats 4000000 in
set_option maxRecDepth 100000 in
theorem w_X3_look_2 {p : Program} {l : Launch} {e : Env} {s : State} {m : MethodId} {args : Array Value} {below : List Frame} {meth : Method} {c : Code} {D : va_G} {A : Nat → Prop} {ha : Nat → Nat} {cy : Nat → ClassId} (k1 : Nat) (hk1 : k1 < 5) (Post : lf_St → Prop) (F : lf_C p s m args meth c RX3 cX3_look 3 none D (tyC_ cy) A) : ∀ (n : Nat) (x2 : Int32) (σ : lf_St) (H : Heap) (locs : List Loc) (ls : Array Slot), lf_H D (wC_ ha cy) A s σ H locs → lv_has ls 3 [(0, .ref (ha 19)), (1, .ref (ha (22 + k1))), (2, .int x2)] → L_X3_look_2 k1 Post n x2 σ → W p l e rm_X3_look s m args below meth c H locs 0 0 (lf_Qv below args s D (tyC_ cy) A (wC_ ha cy) Post) (F0 m 2 ls []) := by
  have hx := F.1.1
  have hb := F.1.2.1
  intro n
  induction n with
  | zero =>
    intro x2 σ H locs ls hh hl hw
    exact False.elim hw
  | succ n ih =>
    intro x2 σ H locs ls hh hl hw
    unfold L_X3_look_2 at hw
    refine lv_iload_n hx hb dX3_look_2 rfl (lv_at hl 2 rfl) ?_
    refine lv_aload_n hx hb dX3_look_3 rfl (lv_at hl 0 rfl) ?_
    refine fg_X3_26 F hh dX3_look_4 ?_
    refine fg_X3_30 F hh dX3_look_7 ?_
    refine lv_icmp_ge (tgt := 57) hx hb dX3_look_10 (by decide) (fun c1 => ?_) (fun c1 => ?_)
    · have hw := hw.1 c1
      exact lf_retv F hh hw dX3_look_57
    · have hw := hw.2 c1
      refine lv_aload_n hx hb dX3_look_13 rfl (lv_at hl 0 rfl) ?_
      refine fg_X3_36 F hh dX3_look_14 ?_
      refine lv_if_ne (tgt := 57) hx hb dX3_look_17 (by decide) (fun c2 => ?_) (fun c2 => ?_)
      · have hw := hw.1 c2
        exact lf_retv F hh hw dX3_look_57
      · have hw := hw.2 c2
        refine lv_aload_n hx hb dX3_look_20 rfl (lv_at hl 0 rfl) ?_
        refine fg_X3_26 F hh dX3_look_21 ?_
        refine lv_aload_n hx hb dX3_look_24 rfl (lv_at hl 0 rfl) ?_
        refine fg_X3_26 F hh dX3_look_25 ?_
        refine fg_X3_40 F hh dX3_look_28 ?_
        refine lv_iload_n hx hb dX3_look_31 rfl (lv_at hl 2 rfl) ?_
        obtain ⟨q3, hw⟩ := hw
        refine ra_C_14 F hh q3 dX3_look_32 ?_
        refine lf_callVi (rest := []) F hh (cw_X3_44 F.1.2.2.2.2 ⟨Nat.le_of_ble_eq_true rfl, Nat.le_of_ble_eq_true rfl⟩) (c_X4_tryBars l D ha cy H.size σ (lf_ai σ 14 x2.toNatClampNeg) _ hw) 13 4 rfl rfl rfl rfl hl.1 (Nat.le_of_ble_eq_true rfl) dX3_look_33 rfl (fun r4 σ4 H locs hw hh => ?_)
        refine lv_if_eq (tgt := 51) hx hb dX3_look_36 (by decide) (fun c5 => ?_) (fun c5 => ?_)
        · have hw := hw.1 c5
          obtain ⟨v6, ev6⟩ : ∃ y : Int32, y = x2 + 1 := ⟨_, rfl⟩
          have hw := hw v6 ev6
          refine lv_iinc (v := v6) (lv' := [(2, .int v6), (0, .ref (ha 19)), (1, .ref (ha (22 + k1)))]) hx hb dX3_look_51 hl (k := 2) rfl (by rw [ev6]; rfl) (by decide) rfl (fun ls hl => ?_)
          refine lv_goto (tgt := 2) hx hb dX3_look_54 (by decide) ?_
          exact ih v6 σ4 _ _ _ hh (lv_sub hl [1, 2, 0] rfl) hw
        · have hw := hw.2 c5
          refine lv_aload_n hx hb dX3_look_39 rfl (lv_at hl 0 rfl) ?_
          refine lv_aload_n hx hb dX3_look_40 rfl (lv_at hl 1 rfl) ?_
          refine lf_callVi (rest := []) F hh (cw_X3_48 F.1.2.2.2.2 ⟨Nat.le_of_ble_eq_true rfl, Nat.le_of_ble_eq_true rfl⟩) (c_X3_costsAsMuchAs l D ha cy H.size σ4 k1 hk1 _ hw) 19 3 rfl rfl rfl rfl hl.1 (Nat.le_of_ble_eq_true rfl) dX3_look_41 rfl (fun r7 σ7 H locs hw hh => ?_)
          refine lv_if_eq (tgt := 51) hx hb dX3_look_44 (by decide) (fun c8 => ?_) (fun c8 => ?_)
          · have hw := hw.1 c8
            obtain ⟨v9, ev9⟩ : ∃ y : Int32, y = x2 + 1 := ⟨_, rfl⟩
            have hw := hw v9 ev9
            refine lv_iinc (v := v9) (lv' := [(2, .int v9), (0, .ref (ha 19)), (1, .ref (ha (22 + k1)))]) hx hb dX3_look_51 hl (k := 2) rfl (by rw [ev9]; rfl) (by decide) rfl (fun ls hl => ?_)
            refine lv_goto (tgt := 2) hx hb dX3_look_54 (by decide) ?_
            exact ih v9 σ7 _ _ _ hh (lv_sub hl [1, 2, 0] rfl) hw
          · have hw := hw.2 c8
            refine lv_aload_n hx hb dX3_look_47 rfl (lv_at hl 0 rfl) ?_
            refine lf_callVv (rest := []) F hh (cw_X3_52 F.1.2.2.2.2 ⟨Nat.le_of_ble_eq_true rfl, Nat.le_of_ble_eq_true rfl⟩) (c_X3_lookAtTrial l D ha cy H.size σ7  _ hw) 19 3 rfl rfl rfl rfl hl.1 (Nat.le_of_ble_eq_true rfl) dX3_look_48 rfl (fun σ10 H locs hw hh => ?_)
            obtain ⟨v11, ev11⟩ : ∃ y : Int32, y = x2 + 1 := ⟨_, rfl⟩
            have hw := hw v11 ev11
            refine lv_iinc (v := v11) (lv' := [(2, .int v11), (0, .ref (ha 19)), (1, .ref (ha (22 + k1)))]) hx hb dX3_look_51 hl (k := 2) rfl (by rw [ev11]; rfl) (by decide) rfl (fun ls hl => ?_)
            refine lv_goto (tgt := 2) hx hb dX3_look_54 (by decide) ?_
            exact ih v11 σ10 _ _ _ hh (lv_sub hl [1, 2, 0] rfl) hw
set_option maxHeartbeats 4000000 in
set_option maxRecDepth 100000 in
theorem c_X3_look (l : Launch) (D : va_G) (ha : Nat → Nat) (cy : Nat → ClassId) (sz : Nat) (σ : lf_St) (k1 : Nat) (hk1 : k1 < 5) (Post : lf_St → Prop) (hw : wp_X3_look k1 σ Post) : lf_Mv l yX3_look (lf_ws yX3_look cX3_look 3 none) rm_X3_look D (tyC_ cy) (wC_ ha cy) sz σ [.ref (ha 19), .ref (ha (22 + k1))] Post := by
  refine lf_ofv (by decide +kernel) (Nat.le_of_ble_eq_true rfl) ?_
  intro p e s m args below meth c A ls F hh hl
  have hx := F.1.1
  have hb := F.1.2.1
  have hl : lv_has ls 3 [(0, .ref (ha 19)), (1, .ref (ha (22 + k1)))] := hl
  obtain ⟨H, hHe⟩ : ∃ H, H = s.heap := ⟨_, rfl⟩
  rw [← hHe] at hh ⊢
  unfold wp_X3_look at hw
  refine lv_iconst (v := 0) hx hb dX3_look_0 (by decide) ?_
  refine lv_istore_n (lv' := [(2, .int 0), (0, .ref (ha 19)), (1, .ref (ha (22 + k1)))]) hx hb dX3_look_1 rfl hl (by decide) rfl (fun ls hl => ?_)
  obtain ⟨n2, hw⟩ := hw
  exact w_X3_look_2 k1 hk1 Post F  n2 0 σ _ _ _ hh (lv_sub hl [1, 2, 0] rfl) hw
theorem cw_X4_58 {R : Room} {s : State} {args : Array Value} (ht : ∀ w ∈ wsL_law, w.before args s = true) (hR : rm_J6_bitCount_0f7a4.frames + 1 ≤ R.frames ∧ 8 + (1 + 11) + rm_J6_bitCount_0f7a4.locals ≤ R.locals) : lf_cS R s args RX4 58 yJ6_bitCount_0f7a4 cJ6_bitCount_0f7a4 1 (some .int) rm_J6_bitCount_0f7a4 1 :=
  lf_cS_of 1 ht (lr_14 _ (List.mem_of_getElem? (i := 9) rfl)) (lr_14 _ (List.mem_of_getElem? (i := 6) rfl)) (lr_14 _ (List.mem_of_getElem? (i := 7) rfl)) (lr_14 _ (List.mem_of_getElem? (i := 8) rfl)) rfl rfl (by decide +kernel) hR
def wp_X4_pricesTop (σ : lf_St) (Post : Int64 → lf_St → Prop) : Prop := wp_J6_bitCount_0f7a4 (lf_gi σ (50 + 4)) σ (fun r1 σ1 => Post (((((lf_gi σ 4) * r1) : Int32).toInt64) * (lf_gl σ1 (20 + 4))) σ1)
def rm_X4_pricesTop : Room := ({ frames := 1, cells := 0, slots := 0, locals := 20 } : Room)
set_option maxHeartbeats 4000000 in
set_option maxRecDepth 100000 in
theorem c_X4_pricesTop (l : Launch) (D : va_G) (ha : Nat → Nat) (cy : Nat → ClassId) (sz : Nat) (σ : lf_St) (Post : Int64 → lf_St → Prop) (hw : wp_X4_pricesTop σ Post) : lf_Ml l yX4_pricesTop (lf_ws yX4_pricesTop cX4_pricesTop 1 (some .long)) rm_X4_pricesTop D (tyC_ cy) (wC_ ha cy) sz σ [.ref (ha 13)] Post := by
  refine lf_ofl (by decide +kernel) (Nat.le_of_ble_eq_true rfl) ?_
  intro p e s m args below meth c A ls F hh hl
  have hx := F.1.1
  have hb := F.1.2.1
  have hl : lv_has ls 1 [(0, .ref (ha 13))] := hl
  obtain ⟨H, hHe⟩ : ∃ H, H = s.heap := ⟨_, rfl⟩
  rw [← hHe] at hh ⊢
  unfold wp_X4_pricesTop at hw
  refine lv_aload_n hx hb dX4_pricesTop_0 rfl (lv_at hl 0 rfl) ?_
  refine fg_X4_26 F hh dX4_pricesTop_1 ?_
  refine fg_X4_181 F hh dX4_pricesTop_4 ?_
  refine lv_aload_n hx hb dX4_pricesTop_7 rfl (lv_at hl 0 rfl) ?_
  refine fg_X4_12 F hh dX4_pricesTop_8 ?_
  refine fg_X4_91 F hh 4 (by decide) dX4_pricesTop_11 ?_
  refine lf_callSi (rest := [.int (lf_gi σ 4)]) F hh (cw_X4_58 F.1.2.2.2.2 ⟨Nat.le_of_ble_eq_true rfl, Nat.le_of_ble_eq_true rfl⟩) (c_J6_bitCount_0f7a4 l D ha cy H.size σ (lf_gi σ (50 + 4)) _ hw) rfl hl.1 (Nat.le_of_ble_eq_true rfl) dX4_pricesTop_14 rfl (fun r1 σ1 H locs hw hh => ?_)
  refine lv_imul hx hb dX4_pricesTop_17 ?_
  refine lv_i2l hx hb dX4_pricesTop_18 rfl ?_
  refine lv_aload_n hx hb dX4_pricesTop_19 rfl (lv_at hl 0 rfl) ?_
  refine fg_X4_12 F hh dX4_pricesTop_20 ?_
  refine fg_X4_87 F hh 4 (by decide) dX4_pricesTop_23 ?_
  refine lv_lmul hx hb dX4_pricesTop_26 ?_
  exact lf_retl F hh hw dX4_pricesTop_27
theorem cw_X4_171 {R : Room} {s : State} {args : Array Value} (ht : ∀ w ∈ wsL_law, w.before args s = true) (hR : rm_X0_uses.frames + 1 ≤ R.frames ∧ 8 + (2 + 11) + rm_X0_uses.locals ≤ R.locals) : lf_cV R s args RX4 RX0 171 yX0_uses cX0_uses 2 (some .boolean) rm_X0_uses 1 :=
  lf_cV_of 1 ht (lr_18 _ (List.mem_of_getElem? (i := 10) rfl)) (lr_18 _ (List.mem_of_getElem? (i := 7) rfl)) (lr_18 _ (List.mem_of_getElem? (i := 8) rfl)) (lr_18 _ (List.mem_of_getElem? (i := 9) rfl)) (lr_2 _ (List.mem_of_getElem? (i := 21) rfl)) rfl rfl (by decide +kernel) hR
def L_X4_usedBarsCross_2 (Post : Int32 → lf_St → Prop) : Nat → Int32 → lf_St → Prop
  | 0, _, _ => False
  | n + 1, x1, σ => (((lf_gi σ 2) ≤ x1) → (Post 0 σ)) ∧ ((¬ ((lf_gi σ 2) ≤ x1)) → (wp_X0_uses 4 x1 σ (fun r2 σ2 => ((r2 = 0) → (∀ v4 : Int32, v4 = x1 + 1 → (L_X4_usedBarsCross_2 Post n v4 σ2))) ∧ ((¬ (r2 = 0)) → (vp_in x1 10 ∧ (((((lf_ai σ2 11 x1.toNatClampNeg) &&& (lf_gi σ2 (40 + 4))) = 0) → (∀ v7 : Int32, v7 = x1 + 1 → (L_X4_usedBarsCross_2 Post n v7 σ2))) ∧ ((¬ (((lf_ai σ2 11 x1.toNatClampNeg) &&& (lf_gi σ2 (40 + 4))) = 0)) → (Post 1 σ2))))))))
def wp_X4_usedBarsCross (σ : lf_St) (Post : Int32 → lf_St → Prop) : Prop := ∃ fu : Nat, L_X4_usedBarsCross_2 Post fu 0 σ
def rm_X4_usedBarsCross : Room := ({ frames := 1, cells := 0, slots := 0, locals := 21 } : Room)
set_option maxHeartbeats 4000000 in
set_option maxRecDepth 100000 in
theorem w_X4_usedBarsCross_2 {p : Program} {l : Launch} {e : Env} {s : State} {m : MethodId} {args : Array Value} {below : List Frame} {meth : Method} {c : Code} {D : va_G} {A : Nat → Prop} {ha : Nat → Nat} {cy : Nat → ClassId} (Post : Int32 → lf_St → Prop) (F : lf_C p s m args meth c RX4 cX4_usedBarsCross 2 (some .boolean) D (tyC_ cy) A) : ∀ (n : Nat) (x1 : Int32) (σ : lf_St) (H : Heap) (locs : List Loc) (ls : Array Slot), lf_H D (wC_ ha cy) A s σ H locs → lv_has ls 2 [(0, .ref (ha 13)), (1, .int x1)] → L_X4_usedBarsCross_2 Post n x1 σ → W p l e rm_X4_usedBarsCross s m args below meth c H locs 0 0 (lf_Qi below args s D (tyC_ cy) A (wC_ ha cy) Post) (F0 m 2 ls []) := by
  have hx := F.1.1
  have hb := F.1.2.1
  intro n
  induction n with
  | zero =>
    intro x1 σ H locs ls hh hl hw
    exact False.elim hw
  | succ n ih =>
    intro x1 σ H locs ls hh hl hw
    unfold L_X4_usedBarsCross_2 at hw
    refine lv_iload_n hx hb dX4_usedBarsCross_2 rfl (lv_at hl 1 rfl) ?_
    refine lv_aload_n hx hb dX4_usedBarsCross_3 rfl (lv_at hl 0 rfl) ?_
    refine fg_X4_26 F hh dX4_usedBarsCross_4 ?_
    refine fg_X4_53 F hh dX4_usedBarsCross_7 ?_
    refine lv_icmp_ge (tgt := 52) hx hb dX4_usedBarsCross_10 (by decide) (fun c1 => ?_) (fun c1 => ?_)
    · have hw := hw.1 c1
      refine lv_iconst (v := 0) hx hb dX4_usedBarsCross_52 (by decide) ?_
      exact lf_retz F hh rfl hw dX4_usedBarsCross_53
    · have hw := hw.2 c1
      refine lv_aload_n hx hb dX4_usedBarsCross_13 rfl (lv_at hl 0 rfl) ?_
      refine fg_X4_12 F hh dX4_usedBarsCross_14 ?_
      refine lv_iload_n hx hb dX4_usedBarsCross_17 rfl (lv_at hl 1 rfl) ?_
      refine lf_callVi (rest := []) F hh (cw_X4_171 F.1.2.2.2.2 ⟨Nat.le_of_ble_eq_true rfl, Nat.le_of_ble_eq_true rfl⟩) (c_X0_uses l D ha cy H.size σ 4 (by decide) x1 _ hw) (22 + 4) 0 rfl rfl (lC_fr 4 (by decide)) rfl hl.1 (Nat.le_of_ble_eq_true rfl) dX4_usedBarsCross_18 rfl (fun r2 σ2 H locs hw hh => ?_)
      refine lv_if_eq (tgt := 46) hx hb dX4_usedBarsCross_21 (by decide) (fun c3 => ?_) (fun c3 => ?_)
      · have hw := hw.1 c3
        obtain ⟨v4, ev4⟩ : ∃ y : Int32, y = x1 + 1 := ⟨_, rfl⟩
        have hw := hw v4 ev4
        refine lv_iinc (v := v4) (lv' := [(1, .int v4), (0, .ref (ha 13))]) hx hb dX4_usedBarsCross_46 hl (k := 1) rfl (by rw [ev4]; rfl) (by decide) rfl (fun ls hl => ?_)
        refine lv_goto (tgt := 2) hx hb dX4_usedBarsCross_49 (by decide) ?_
        exact ih v4 σ2 _ _ _ hh (lv_sub hl [1, 0] rfl) hw
      · have hw := hw.2 c3
        refine lv_aload_n hx hb dX4_usedBarsCross_24 rfl (lv_at hl 0 rfl) ?_
        refine fg_X4_26 F hh dX4_usedBarsCross_25 ?_
        refine fg_X4_174 F hh dX4_usedBarsCross_28 ?_
        refine lv_iload_n hx hb dX4_usedBarsCross_31 rfl (lv_at hl 1 rfl) ?_
        obtain ⟨q5, hw⟩ := hw
        refine ra_C_11 F hh q5 dX4_usedBarsCross_32 ?_
        refine lv_aload_n hx hb dX4_usedBarsCross_33 rfl (lv_at hl 0 rfl) ?_
        refine fg_X4_12 F hh dX4_usedBarsCross_34 ?_
        refine fg_X4_88 F hh 4 (by decide) dX4_usedBarsCross_37 ?_
        refine lv_iand hx hb dX4_usedBarsCross_40 ?_
        refine lv_if_eq (tgt := 46) hx hb dX4_usedBarsCross_41 (by decide) (fun c6 => ?_) (fun c6 => ?_)
        · have hw := hw.1 c6
          obtain ⟨v7, ev7⟩ : ∃ y : Int32, y = x1 + 1 := ⟨_, rfl⟩
          have hw := hw v7 ev7
          refine lv_iinc (v := v7) (lv' := [(1, .int v7), (0, .ref (ha 13))]) hx hb dX4_usedBarsCross_46 hl (k := 1) rfl (by rw [ev7]; rfl) (by decide) rfl (fun ls hl => ?_)
          refine lv_goto (tgt := 2) hx hb dX4_usedBarsCross_49 (by decide) ?_
          exact ih v7 σ2 _ _ _ hh (lv_sub hl [1, 0] rfl) hw
        · have hw := hw.2 c6
          refine lv_iconst (v := 1) hx hb dX4_usedBarsCross_44 (by decide) ?_
          exact lf_retz F hh rfl hw dX4_usedBarsCross_45
set_option maxHeartbeats 4000000 in
set_option maxRecDepth 100000 in
theorem c_X4_usedBarsCross (l : Launch) (D : va_G) (ha : Nat → Nat) (cy : Nat → ClassId) (sz : Nat) (σ : lf_St) (Post : Int32 → lf_St → Prop) (hw : wp_X4_usedBarsCross σ Post) : lf_Mi l yX4_usedBarsCross (lf_ws yX4_usedBarsCross cX4_usedBarsCross 2 (some .boolean)) rm_X4_usedBarsCross D (tyC_ cy) (wC_ ha cy) sz σ [.ref (ha 13)] Post := by
  refine lf_ofi (by decide +kernel) (Nat.le_of_ble_eq_true rfl) ?_
  intro p e s m args below meth c A ls F hh hl
  have hx := F.1.1
  have hb := F.1.2.1
  have hl : lv_has ls 2 [(0, .ref (ha 13))] := hl
  obtain ⟨H, hHe⟩ : ∃ H, H = s.heap := ⟨_, rfl⟩
  rw [← hHe] at hh ⊢
  unfold wp_X4_usedBarsCross at hw
  refine lv_iconst (v := 0) hx hb dX4_usedBarsCross_0 (by decide) ?_
  refine lv_istore_n (lv' := [(1, .int 0), (0, .ref (ha 13))]) hx hb dX4_usedBarsCross_1 rfl hl (by decide) rfl (fun ls hl => ?_)
  obtain ⟨n2, hw⟩ := hw
  exact w_X4_usedBarsCross_2 Post F  n2 0 σ _ _ _ hh (lv_sub hl [1, 0] rfl) hw
def L_X4_leastSizeFor_5 (k1 : Nat) (Post : Int32 → lf_St → Prop) : Nat → Int32 → Int32 → Int32 → lf_St → Prop
  | 0, _, _, _, _ => False
  | n + 1, x2, x3, x4, σ => (((lf_gi σ 3) ≤ x4) → (Post x3 σ)) ∧ ((¬ ((lf_gi σ 3) ≤ x4)) → (vp_in x4 5 ∧ (∀ v3 : Int32, v3 = (lf_ai σ 12 x4.toNatClampNeg) → (vp_in x2 10 ∧ (((((v3.toInt64) * (lf_gl σ (20 + k1))) < (lf_abs (lf_al σ (27 + k1) x2.toNatClampNeg))) → (∀ v6 : Int32, v6 = x4 + 1 → (L_X4_leastSizeFor_5 k1 Post n x2 x3 v6 σ))) ∧ ((¬ (((v3.toInt64) * (lf_gl σ (20 + k1))) < (lf_abs (lf_al σ (27 + k1) x2.toNatClampNeg)))) → (((x3 = 0) → (∀ v8 : Int32, v8 = x4 + 1 → (L_X4_leastSizeFor_5 k1 Post n x2 v3 v8 σ))) ∧ ((¬ (x3 = 0)) → (((x3 ≤ v3) → (∀ v10 : Int32, v10 = x4 + 1 → (L_X4_leastSizeFor_5 k1 Post n x2 x3 v10 σ))) ∧ ((¬ (x3 ≤ v3)) → (∀ v11 : Int32, v11 = x4 + 1 → (L_X4_leastSizeFor_5 k1 Post n x2 v3 v11 σ))))))))))))
def wp_X4_leastSizeFor (k1 : Nat) (x2 : Int32) (σ : lf_St) (Post : Int32 → lf_St → Prop) : Prop := ∃ fu : Nat, L_X4_leastSizeFor_5 k1 Post fu x2 0 0 σ
def rm_X4_leastSizeFor : Room := ({ frames := 1, cells := 0, slots := 0, locals := 21 } : Room)
set_option maxHeartbeats 4000000 in
set_option maxRecDepth 100000 in
theorem w_X4_leastSizeFor_5 {p : Program} {l : Launch} {e : Env} {s : State} {m : MethodId} {args : Array Value} {below : List Frame} {meth : Method} {c : Code} {D : va_G} {A : Nat → Prop} {ha : Nat → Nat} {cy : Nat → ClassId} (k1 : Nat) (hk1 : k1 < 5) (Post : Int32 → lf_St → Prop) (F : lf_C p s m args meth c RX4 cX4_leastSizeFor 6 (some .int) D (tyC_ cy) A) : ∀ (n : Nat) (x2 : Int32) (x3 : Int32) (x4 : Int32) (σ : lf_St) (H : Heap) (locs : List Loc) (ls : Array Slot), lf_H D (wC_ ha cy) A s σ H locs → lv_has ls 6 [(0, .ref (ha 13)), (1, .ref (ha (22 + k1))), (2, .int x2), (3, .int x3), (4, .int x4)] → L_X4_leastSizeFor_5 k1 Post n x2 x3 x4 σ → W p l e rm_X4_leastSizeFor s m args below meth c H locs 0 0 (lf_Qi below args s D (tyC_ cy) A (wC_ ha cy) Post) (F0 m 5 ls []) := by
  have hx := F.1.1
  have hb := F.1.2.1
  intro n
  induction n with
  | zero =>
    intro x2 x3 x4 σ H locs ls hh hl hw
    exact False.elim hw
  | succ n ih =>
    intro x2 x3 x4 σ H locs ls hh hl hw
    unfold L_X4_leastSizeFor_5 at hw
    refine lv_iload hx hb dX4_leastSizeFor_5 (lv_at hl 4 rfl) ?_
    refine lv_aload_n hx hb dX4_leastSizeFor_7 rfl (lv_at hl 0 rfl) ?_
    refine fg_X4_26 F hh dX4_leastSizeFor_8 ?_
    refine fg_X4_119 F hh dX4_leastSizeFor_11 ?_
    refine lv_icmp_ge (tgt := 69) hx hb dX4_leastSizeFor_14 (by decide) (fun c1 => ?_) (fun c1 => ?_)
    · have hw := hw.1 c1
      refine lv_iload_n hx hb dX4_leastSizeFor_69 rfl (lv_at hl 3 rfl) ?_
      exact lf_reti F hh hw dX4_leastSizeFor_70
    · have hw := hw.2 c1
      refine lv_aload_n hx hb dX4_leastSizeFor_17 rfl (lv_at hl 0 rfl) ?_
      refine fg_X4_26 F hh dX4_leastSizeFor_18 ?_
      refine fg_X4_122 F hh dX4_leastSizeFor_21 ?_
      refine lv_iload hx hb dX4_leastSizeFor_24 (lv_at hl 4 rfl) ?_
      obtain ⟨q2, hw⟩ := hw
      refine ra_C_12 F hh q2 dX4_leastSizeFor_26 ?_
      refine lv_topi (fun v3 ev3 => ?_)
      have hw := hw v3 ev3
      refine lv_istore (lv' := [(5, .int v3), (0, .ref (ha 13)), (1, .ref (ha (22 + k1))), (2, .int x2), (3, .int x3), (4, .int x4)]) hx hb dX4_leastSizeFor_27 hl (by decide) rfl (fun ls hl => ?_)
      refine lv_iload hx hb dX4_leastSizeFor_29 (lv_at hl 0 rfl) ?_
      refine lv_i2l hx hb dX4_leastSizeFor_31 rfl ?_
      refine lv_aload_n hx hb dX4_leastSizeFor_32 rfl (lv_at hl 2 rfl) ?_
      refine fg_X4_87 F hh k1 hk1 dX4_leastSizeFor_33 ?_
      refine lv_lmul hx hb dX4_leastSizeFor_36 ?_
      refine lv_aload_n hx hb dX4_leastSizeFor_37 rfl (lv_at hl 2 rfl) ?_
      refine fg_X4_94 F hh k1 hk1 dX4_leastSizeFor_38 ?_
      refine lv_iload_n hx hb dX4_leastSizeFor_41 rfl (lv_at hl 3 rfl) ?_
      obtain ⟨q4, hw⟩ := hw
      refine ra_C_pt F hh k1 hk1 q4 dX4_leastSizeFor_42 ?_
      refine ms_X4_113 (rest := [.long ((v3.toInt64) * (lf_gl σ (20 + k1)))]) F hl.1 (Nat.le_of_ble_eq_true rfl) (Nat.le_of_ble_eq_true rfl) dX4_leastSizeFor_43 ?_
      refine lf_lcmp_lt (tgt := 63) hx hb dX4_leastSizeFor_46 dX4_leastSizeFor_47 (by decide) (fun c5 => ?_) (fun c5 => ?_)
      · have hw := hw.1 c5
        obtain ⟨v6, ev6⟩ : ∃ y : Int32, y = x4 + 1 := ⟨_, rfl⟩
        have hw := hw v6 ev6
        refine lv_iinc (v := v6) (lv' := [(4, .int v6), (5, .int v3), (0, .ref (ha 13)), (1, .ref (ha (22 + k1))), (2, .int x2), (3, .int x3)]) hx hb dX4_leastSizeFor_63 hl (k := 5) rfl (by rw [ev6]; rfl) (by decide) rfl (fun ls hl => ?_)
        refine lv_goto (tgt := 5) hx hb dX4_leastSizeFor_66 (by decide) ?_
        exact ih x2 x3 v6 σ _ _ _ hh (lv_sub hl [2, 3, 4, 5, 0] rfl) hw
      · have hw := hw.2 c5
        refine lv_iload_n hx hb dX4_leastSizeFor_50 rfl (lv_at hl 4 rfl) ?_
        refine lv_if_eq (tgt := 60) hx hb dX4_leastSizeFor_51 (by decide) (fun c7 => ?_) (fun c7 => ?_)
        · have hw := hw.1 c7
          refine lv_iload hx hb dX4_leastSizeFor_60 (lv_at hl 0 rfl) ?_
          refine lv_istore_n (lv' := [(3, .int v3), (5, .int v3), (0, .ref (ha 13)), (1, .ref (ha (22 + k1))), (2, .int x2), (4, .int x4)]) hx hb dX4_leastSizeFor_62 rfl hl (by decide) rfl (fun ls hl => ?_)
          obtain ⟨v8, ev8⟩ : ∃ y : Int32, y = x4 + 1 := ⟨_, rfl⟩
          have hw := hw v8 ev8
          refine lv_iinc (v := v8) (lv' := [(4, .int v8), (3, .int v3), (5, .int v3), (0, .ref (ha 13)), (1, .ref (ha (22 + k1))), (2, .int x2)]) hx hb dX4_leastSizeFor_63 hl (k := 5) rfl (by rw [ev8]; rfl) (by decide) rfl (fun ls hl => ?_)
          refine lv_goto (tgt := 5) hx hb dX4_leastSizeFor_66 (by decide) ?_
          exact ih x2 v3 v8 σ _ _ _ hh (lv_sub hl [3, 4, 5, 1, 0] rfl) hw
        · have hw := hw.2 c7
          refine lv_iload hx hb dX4_leastSizeFor_54 (lv_at hl 0 rfl) ?_
          refine lv_iload_n hx hb dX4_leastSizeFor_56 rfl (lv_at hl 4 rfl) ?_
          refine lv_icmp_ge (tgt := 63) hx hb dX4_leastSizeFor_57 (by decide) (fun c9 => ?_) (fun c9 => ?_)
          · have hw := hw.1 c9
            obtain ⟨v10, ev10⟩ : ∃ y : Int32, y = x4 + 1 := ⟨_, rfl⟩
            have hw := hw v10 ev10
            refine lv_iinc (v := v10) (lv' := [(4, .int v10), (5, .int v3), (0, .ref (ha 13)), (1, .ref (ha (22 + k1))), (2, .int x2), (3, .int x3)]) hx hb dX4_leastSizeFor_63 hl (k := 5) rfl (by rw [ev10]; rfl) (by decide) rfl (fun ls hl => ?_)
            refine lv_goto (tgt := 5) hx hb dX4_leastSizeFor_66 (by decide) ?_
            exact ih x2 x3 v10 σ _ _ _ hh (lv_sub hl [2, 3, 4, 5, 0] rfl) hw
          · have hw := hw.2 c9
            refine lv_iload hx hb dX4_leastSizeFor_60 (lv_at hl 0 rfl) ?_
            refine lv_istore_n (lv' := [(3, .int v3), (5, .int v3), (0, .ref (ha 13)), (1, .ref (ha (22 + k1))), (2, .int x2), (4, .int x4)]) hx hb dX4_leastSizeFor_62 rfl hl (by decide) rfl (fun ls hl => ?_)
            obtain ⟨v11, ev11⟩ : ∃ y : Int32, y = x4 + 1 := ⟨_, rfl⟩
            have hw := hw v11 ev11
            refine lv_iinc (v := v11) (lv' := [(4, .int v11), (3, .int v3), (5, .int v3), (0, .ref (ha 13)), (1, .ref (ha (22 + k1))), (2, .int x2)]) hx hb dX4_leastSizeFor_63 hl (k := 5) rfl (by rw [ev11]; rfl) (by decide) rfl (fun ls hl => ?_)
            refine lv_goto (tgt := 5) hx hb dX4_leastSizeFor_66 (by decide) ?_
            exact ih x2 v3 v11 σ _ _ _ hh (lv_sub hl [3, 4, 5, 1, 0] rfl) hw
set_option maxHeartbeats 4000000 in
set_option maxRecDepth 100000 in
theorem c_X4_leastSizeFor (l : Launch) (D : va_G) (ha : Nat → Nat) (cy : Nat → ClassId) (sz : Nat) (σ : lf_St) (k1 : Nat) (hk1 : k1 < 5) (x2 : Int32) (Post : Int32 → lf_St → Prop) (hw : wp_X4_leastSizeFor k1 x2 σ Post) : lf_Mi l yX4_leastSizeFor (lf_ws yX4_leastSizeFor cX4_leastSizeFor 6 (some .int)) rm_X4_leastSizeFor D (tyC_ cy) (wC_ ha cy) sz σ [.ref (ha 13), .ref (ha (22 + k1)), .int x2] Post := by
  refine lf_ofi (by decide +kernel) (Nat.le_of_ble_eq_true rfl) ?_
  intro p e s m args below meth c A ls F hh hl
  have hx := F.1.1
  have hb := F.1.2.1
  have hl : lv_has ls 6 [(0, .ref (ha 13)), (1, .ref (ha (22 + k1))), (2, .int x2)] := hl
  obtain ⟨H, hHe⟩ : ∃ H, H = s.heap := ⟨_, rfl⟩
  rw [← hHe] at hh ⊢
  unfold wp_X4_leastSizeFor at hw
  refine lv_iconst (v := 0) hx hb dX4_leastSizeFor_0 (by decide) ?_
  refine lv_istore_n (lv' := [(3, .int 0), (0, .ref (ha 13)), (1, .ref (ha (22 + k1))), (2, .int x2)]) hx hb dX4_leastSizeFor_1 rfl hl (by decide) rfl (fun ls hl => ?_)
  refine lv_iconst (v := 0) hx hb dX4_leastSizeFor_2 (by decide) ?_
  refine lv_istore (lv' := [(4, .int 0), (3, .int 0), (0, .ref (ha 13)), (1, .ref (ha (22 + k1))), (2, .int x2)]) hx hb dX4_leastSizeFor_3 hl (by decide) rfl (fun ls hl => ?_)
  obtain ⟨n5, hw⟩ := hw
  exact w_X4_leastSizeFor_5 k1 hk1 Post F  n5 x2 0 0 σ _ _ _ hh (lv_sub hl [2, 3, 4, 1, 0] rfl) hw
theorem cw_X4_177 {R : Room} {s : State} {args : Array Value} (ht : ∀ w ∈ wsL_law, w.before args s = true) (hR : rm_X4_leastSizeFor.frames + 1 ≤ R.frames ∧ 8 + (6 + 11) + rm_X4_leastSizeFor.locals ≤ R.locals) : lf_cV R s args RX4 RX4 177 yX4_leastSizeFor cX4_leastSizeFor 6 (some .int) rm_X4_leastSizeFor 2 :=
  lf_cV_of 2 ht (lr_19 _ (List.mem_of_getElem? (i := 3) rfl)) (lr_19 _ (List.mem_of_getElem? (i := 0) rfl)) (lr_19 _ (List.mem_of_getElem? (i := 1) rfl)) (lr_19 _ (List.mem_of_getElem? (i := 2) rfl)) (lr_1 _ (List.mem_of_getElem? (i := 18) rfl)) rfl rfl (by decide +kernel) hR
def L_X4_wholeSizesTop_4 (Post : Int64 → lf_St → Prop) : Nat → Int64 → Int32 → lf_St → Prop
  | 0, _, _, _ => False
  | n + 1, x1, x3, σ => (((lf_gi σ 2) ≤ x3) → (Post (x1 * (lf_gl σ (20 + 4))) σ)) ∧ ((¬ ((lf_gi σ 2) ≤ x3)) → (wp_X0_uses 4 x3 σ (fun r2 σ2 => ((r2 = 0) → (∀ v4 : Int32, v4 = x3 + 1 → (L_X4_wholeSizesTop_4 Post n x1 v4 σ2))) ∧ ((¬ (r2 = 0)) → (wp_X4_leastSizeFor 4 x3 σ2 (fun r5 σ5 => ((¬ r5 = 0) → (vp_in x3 10 ∧ (∀ v8 : Int64, v8 = (x1 + ((((lf_ai σ5 10 x3.toNatClampNeg) * r5) : Int32).toInt64)) → (∀ v9 : Int32, v9 = x3 + 1 → (L_X4_wholeSizesTop_4 Post n v8 v9 σ5))))) ∧ ((r5 = 0) → (Post (-1) σ5))))))))
def wp_X4_wholeSizesTop (σ : lf_St) (Post : Int64 → lf_St → Prop) : Prop := ∃ fu : Nat, L_X4_wholeSizesTop_4 Post fu 0 0 σ
def rm_X4_wholeSizesTop : Room := ({ frames := 2, cells := 0, slots := 0, locals := 46 } : Room)
set_option maxHeartbeats 4000000 in
set_option maxRecDepth 100000 in
theorem w_X4_wholeSizesTop_4 {p : Program} {l : Launch} {e : Env} {s : State} {m : MethodId} {args : Array Value} {below : List Frame} {meth : Method} {c : Code} {D : va_G} {A : Nat → Prop} {ha : Nat → Nat} {cy : Nat → ClassId} (Post : Int64 → lf_St → Prop) (F : lf_C p s m args meth c RX4 cX4_wholeSizesTop 5 (some .long) D (tyC_ cy) A) : ∀ (n : Nat) (x1 : Int64) (x3 : Int32) (σ : lf_St) (H : Heap) (locs : List Loc) (ls : Array Slot), lf_H D (wC_ ha cy) A s σ H locs → lv_has ls 5 [(0, .ref (ha 13)), (1, .long x1), (3, .int x3)] → L_X4_wholeSizesTop_4 Post n x1 x3 σ → W p l e rm_X4_wholeSizesTop s m args below meth c H locs 0 0 (lf_Ql below args s D (tyC_ cy) A (wC_ ha cy) Post) (F0 m 4 ls []) := by
  have hx := F.1.1
  have hb := F.1.2.1
  intro n
  induction n with
  | zero =>
    intro x1 x3 σ H locs ls hh hl hw
    exact False.elim hw
  | succ n ih =>
    intro x1 x3 σ H locs ls hh hl hw
    unfold L_X4_wholeSizesTop_4 at hw
    refine lv_iload_n hx hb dX4_wholeSizesTop_4 rfl (lv_at hl 2 rfl) ?_
    refine lv_aload_n hx hb dX4_wholeSizesTop_5 rfl (lv_at hl 0 rfl) ?_
    refine fg_X4_26 F hh dX4_wholeSizesTop_6 ?_
    refine fg_X4_53 F hh dX4_wholeSizesTop_9 ?_
    refine lv_icmp_ge (tgt := 68) hx hb dX4_wholeSizesTop_12 (by decide) (fun c1 => ?_) (fun c1 => ?_)
    · have hw := hw.1 c1
      refine lv_lload_n hx hb dX4_wholeSizesTop_68 rfl (lv_at hl 1 rfl) ?_
      refine lv_aload_n hx hb dX4_wholeSizesTop_69 rfl (lv_at hl 0 rfl) ?_
      refine fg_X4_12 F hh dX4_wholeSizesTop_70 ?_
      refine fg_X4_87 F hh 4 (by decide) dX4_wholeSizesTop_73 ?_
      refine lv_lmul hx hb dX4_wholeSizesTop_76 ?_
      exact lf_retl F hh hw dX4_wholeSizesTop_77
    · have hw := hw.2 c1
      refine lv_aload_n hx hb dX4_wholeSizesTop_15 rfl (lv_at hl 0 rfl) ?_
      refine fg_X4_12 F hh dX4_wholeSizesTop_16 ?_
      refine lv_iload_n hx hb dX4_wholeSizesTop_19 rfl (lv_at hl 2 rfl) ?_
      refine lf_callVi (rest := []) F hh (cw_X4_171 F.1.2.2.2.2 ⟨Nat.le_of_ble_eq_true rfl, Nat.le_of_ble_eq_true rfl⟩) (c_X0_uses l D ha cy H.size σ 4 (by decide) x3 _ hw) (22 + 4) 0 rfl rfl (lC_fr 4 (by decide)) rfl hl.1 (Nat.le_of_ble_eq_true rfl) dX4_wholeSizesTop_20 rfl (fun r2 σ2 H locs hw hh => ?_)
      refine lv_if_eq (tgt := 62) hx hb dX4_wholeSizesTop_23 (by decide) (fun c3 => ?_) (fun c3 => ?_)
      · have hw := hw.1 c3
        obtain ⟨v4, ev4⟩ : ∃ y : Int32, y = x3 + 1 := ⟨_, rfl⟩
        have hw := hw v4 ev4
        refine lv_iinc (v := v4) (lv' := [(3, .int v4), (0, .ref (ha 13)), (1, .long x1)]) hx hb dX4_wholeSizesTop_62 hl (k := 2) rfl (by rw [ev4]; rfl) (by decide) rfl (fun ls hl => ?_)
        refine lv_goto (tgt := 4) hx hb dX4_wholeSizesTop_65 (by decide) ?_
        exact ih x1 v4 σ2 _ _ _ hh (lv_sub hl [1, 2, 0] rfl) hw
      · have hw := hw.2 c3
        refine lv_aload_n hx hb dX4_wholeSizesTop_26 rfl (lv_at hl 0 rfl) ?_
        refine lv_aload_n hx hb dX4_wholeSizesTop_27 rfl (lv_at hl 0 rfl) ?_
        refine fg_X4_12 F hh dX4_wholeSizesTop_28 ?_
        refine lv_iload_n hx hb dX4_wholeSizesTop_31 rfl (lv_at hl 2 rfl) ?_
        refine lf_callVi (rest := []) F hh (cw_X4_177 F.1.2.2.2.2 ⟨Nat.le_of_ble_eq_true rfl, Nat.le_of_ble_eq_true rfl⟩) (c_X4_leastSizeFor l D ha cy H.size σ2 4 (by decide) x3 _ hw) 13 4 rfl rfl rfl rfl hl.1 (Nat.le_of_ble_eq_true rfl) dX4_wholeSizesTop_32 rfl (fun r5 σ5 H locs hw hh => ?_)
        refine lv_istore (lv' := [(4, .int r5), (0, .ref (ha 13)), (1, .long x1), (3, .int x3)]) hx hb dX4_wholeSizesTop_35 hl (by decide) rfl (fun ls hl => ?_)
        refine lv_iload hx hb dX4_wholeSizesTop_37 (lv_at hl 0 rfl) ?_
        refine lv_if_ne (tgt := 46) hx hb dX4_wholeSizesTop_39 (by decide) (fun c6 => ?_) (fun c6 => ?_)
        · have hw := hw.1 c6
          refine lv_lload_n hx hb dX4_wholeSizesTop_46 rfl (lv_at hl 2 rfl) ?_
          refine lv_aload_n hx hb dX4_wholeSizesTop_47 rfl (lv_at hl 1 rfl) ?_
          refine fg_X4_26 F hh dX4_wholeSizesTop_48 ?_
          refine fg_X4_110 F hh dX4_wholeSizesTop_51 ?_
          refine lv_iload_n hx hb dX4_wholeSizesTop_54 rfl (lv_at hl 3 rfl) ?_
          obtain ⟨q7, hw⟩ := hw
          refine ra_C_10 F hh q7 dX4_wholeSizesTop_55 ?_
          refine lv_iload hx hb dX4_wholeSizesTop_56 (lv_at hl 0 rfl) ?_
          refine lv_imul hx hb dX4_wholeSizesTop_58 ?_
          refine lv_i2l hx hb dX4_wholeSizesTop_59 rfl ?_
          refine lv_ladd hx hb dX4_wholeSizesTop_60 ?_
          refine lv_topl (fun v8 ev8 => ?_)
          have hw := hw v8 ev8
          refine lv_lstore_n (lv' := [(1, .long v8), (4, .int r5), (0, .ref (ha 13)), (3, .int x3)]) hx hb dX4_wholeSizesTop_61 rfl hl (by decide) rfl (fun ls hl => ?_)
          obtain ⟨v9, ev9⟩ : ∃ y : Int32, y = x3 + 1 := ⟨_, rfl⟩
          have hw := hw v9 ev9
          refine lv_iinc (v := v9) (lv' := [(3, .int v9), (1, .long v8), (4, .int r5), (0, .ref (ha 13))]) hx hb dX4_wholeSizesTop_62 hl (k := 3) rfl (by rw [ev9]; rfl) (by decide) rfl (fun ls hl => ?_)
          refine lv_goto (tgt := 4) hx hb dX4_wholeSizesTop_65 (by decide) ?_
          exact ih v8 v9 σ5 _ _ _ hh (lv_sub hl [3, 1, 0] rfl) hw
        · have hw := hw.2 c6
          refine lv_ldc2 hx hb F.1.2.2.2.1 (F.1.2.2.2.2 _ (lr_14 _ (List.mem_of_getElem? (i := 22) rfl))) dX4_wholeSizesTop_42 ?_
          exact lf_retl F hh hw dX4_wholeSizesTop_45
set_option maxHeartbeats 4000000 in
set_option maxRecDepth 100000 in
theorem c_X4_wholeSizesTop (l : Launch) (D : va_G) (ha : Nat → Nat) (cy : Nat → ClassId) (sz : Nat) (σ : lf_St) (Post : Int64 → lf_St → Prop) (hw : wp_X4_wholeSizesTop σ Post) : lf_Ml l yX4_wholeSizesTop (lf_ws yX4_wholeSizesTop cX4_wholeSizesTop 5 (some .long)) rm_X4_wholeSizesTop D (tyC_ cy) (wC_ ha cy) sz σ [.ref (ha 13)] Post := by
  refine lf_ofl (by decide +kernel) (Nat.le_of_ble_eq_true rfl) ?_
  intro p e s m args below meth c A ls F hh hl
  have hx := F.1.1
  have hb := F.1.2.1
  have hl : lv_has ls 5 [(0, .ref (ha 13))] := hl
  obtain ⟨H, hHe⟩ : ∃ H, H = s.heap := ⟨_, rfl⟩
  rw [← hHe] at hh ⊢
  unfold wp_X4_wholeSizesTop at hw
  refine lv_lconst (v := 0) hx hb dX4_wholeSizesTop_0 (by decide) ?_
  refine lv_lstore_n (lv' := [(1, .long 0), (0, .ref (ha 13))]) hx hb dX4_wholeSizesTop_1 rfl hl (by decide) rfl (fun ls hl => ?_)
  refine lv_iconst (v := 0) hx hb dX4_wholeSizesTop_2 (by decide) ?_
  refine lv_istore_n (lv' := [(3, .int 0), (1, .long 0), (0, .ref (ha 13))]) hx hb dX4_wholeSizesTop_3 rfl hl (by decide) rfl (fun ls hl => ?_)
  obtain ⟨n4, hw⟩ := hw
  exact w_X4_wholeSizesTop_4 Post F  n4 0 0 σ _ _ _ hh (lv_sub hl [2, 1, 0] rfl) hw
theorem cw_X4_158 {R : Room} {s : State} {args : Array Value} (ht : ∀ w ∈ wsL_law, w.before args s = true) (hR : rm_X4_usedBarsCross.frames + 1 ≤ R.frames ∧ 8 + (2 + 11) + rm_X4_usedBarsCross.locals ≤ R.locals) : lf_cV R s args RX4 RX4 158 yX4_usedBarsCross cX4_usedBarsCross 2 (some .boolean) rm_X4_usedBarsCross 0 :=
  lf_cV_of 0 ht (lr_18 _ (List.mem_of_getElem? (i := 5) rfl)) (lr_18 _ (List.mem_of_getElem? (i := 2) rfl)) (lr_18 _ (List.mem_of_getElem? (i := 3) rfl)) (lr_18 _ (List.mem_of_getElem? (i := 4) rfl)) (lr_1 _ (List.mem_of_getElem? (i := 18) rfl)) rfl rfl (by decide +kernel) hR
theorem cw_X4_161 {R : Room} {s : State} {args : Array Value} (ht : ∀ w ∈ wsL_law, w.before args s = true) (hR : rm_X4_lightestTop.frames + 1 ≤ R.frames ∧ 8 + (4 + 11) + rm_X4_lightestTop.locals ≤ R.locals) : lf_cV R s args RX4 RX4 161 yX4_lightestTop cX4_lightestTop 4 (some .long) rm_X4_lightestTop 0 :=
  lf_cV_of 0 ht (lr_18 _ (List.mem_of_getElem? (i := 15) rfl)) (lr_18 _ (List.mem_of_getElem? (i := 12) rfl)) (lr_18 _ (List.mem_of_getElem? (i := 13) rfl)) (lr_18 _ (List.mem_of_getElem? (i := 14) rfl)) (lr_1 _ (List.mem_of_getElem? (i := 18) rfl)) rfl rfl (by decide +kernel) hR
theorem cw_X4_165 {R : Room} {s : State} {args : Array Value} (ht : ∀ w ∈ wsL_law, w.before args s = true) (hR : rm_X4_wholeSizesTop.frames + 1 ≤ R.frames ∧ 8 + (5 + 11) + rm_X4_wholeSizesTop.locals ≤ R.locals) : lf_cV R s args RX4 RX4 165 yX4_wholeSizesTop cX4_wholeSizesTop 5 (some .long) rm_X4_wholeSizesTop 0 :=
  lf_cV_of 0 ht (lr_18 _ (List.mem_of_getElem? (i := 23) rfl)) (lr_18 _ (List.mem_of_getElem? (i := 20) rfl)) (lr_18 _ (List.mem_of_getElem? (i := 21) rfl)) (lr_18 _ (List.mem_of_getElem? (i := 22) rfl)) (lr_1 _ (List.mem_of_getElem? (i := 18) rfl)) rfl rfl (by decide +kernel) hR
theorem cw_X4_168 {R : Room} {s : State} {args : Array Value} (ht : ∀ w ∈ wsL_law, w.before args s = true) (hR : rm_X4_pricesTop.frames + 1 ≤ R.frames ∧ 8 + (1 + 11) + rm_X4_pricesTop.locals ≤ R.locals) : lf_cV R s args RX4 RX4 168 yX4_pricesTop cX4_pricesTop 1 (some .long) rm_X4_pricesTop 0 :=
  lf_cV_of 0 ht (lr_19 _ (List.mem_of_getElem? (i := 9) rfl)) (lr_19 _ (List.mem_of_getElem? (i := 6) rfl)) (lr_19 _ (List.mem_of_getElem? (i := 7) rfl)) (lr_19 _ (List.mem_of_getElem? (i := 8) rfl)) (lr_1 _ (List.mem_of_getElem? (i := 18) rfl)) rfl rfl (by decide +kernel) hR
def wp_X4_trialTop (x1 : Int32) (σ : lf_St) (Post : Int64 → lf_St → Prop) : Prop := ((x1 = 1) → (wp_X4_usedBarsCross σ (fun r2 σ2 => ((r2 = 0) → (wp_X4_lightestTop σ2 (fun r4 σ4 => Post r4 σ4))) ∧ ((¬ (r2 = 0)) → (Post (-1) σ2))))) ∧ (¬ (x1 = 1) → (((x1 = 2) → (wp_X4_wholeSizesTop σ (fun r6 σ6 => Post r6 σ6))) ∧ (¬ (x1 = 2) → (((x1 = 3) → (wp_X4_lightestTop σ (fun r8 σ8 => wp_X4_pricesTop σ8 (fun r9 σ9 => Post (r8 + r9) σ9)))) ∧ (¬ (x1 = 3) → (wp_X4_lightestTop σ (fun r10 σ10 => Post r10 σ10)))))))
def rm_X4_trialTop : Room := ({ frames := 3, cells := 0, slots := 0, locals := 70 } : Room)
set_option maxHeartbeats 4000000 in
set_option maxRecDepth 100000 in
theorem c_X4_trialTop (l : Launch) (D : va_G) (ha : Nat → Nat) (cy : Nat → ClassId) (sz : Nat) (σ : lf_St) (x1 : Int32) (Post : Int64 → lf_St → Prop) (hw : wp_X4_trialTop x1 σ Post) : lf_Ml l yX4_trialTop (lf_ws yX4_trialTop cX4_trialTop 2 (some .long)) rm_X4_trialTop D (tyC_ cy) (wC_ ha cy) sz σ [.ref (ha 13), .int x1] Post := by
  refine lf_ofl (by decide +kernel) (Nat.le_of_ble_eq_true rfl) ?_
  intro p e s m args below meth c A ls F hh hl
  have hx := F.1.1
  have hb := F.1.2.1
  have hl : lv_has ls 2 [(0, .ref (ha 13)), (1, .int x1)] := hl
  obtain ⟨H, hHe⟩ : ∃ H, H = s.heap := ⟨_, rfl⟩
  rw [← hHe] at hh ⊢
  unfold wp_X4_trialTop at hw
  refine lv_iload_n hx hb dX4_trialTop_0 rfl (lv_at hl 1 rfl) ?_
  by_cases c1 : x1 = 1
  · have hw := hw.1 c1
    refine lv_tableIn (tgt := 28) hx hb dX4_trialTop_1 (by rw [c1]; decide) (by rw [c1]; decide) (by rw [c1]; rfl) (by decide) ?_
    refine lv_aload_n hx hb dX4_trialTop_28 rfl (lv_at hl 0 rfl) ?_
    refine lf_callVi (rest := []) F hh (cw_X4_158 F.1.2.2.2.2 ⟨Nat.le_of_ble_eq_true rfl, Nat.le_of_ble_eq_true rfl⟩) (c_X4_usedBarsCross l D ha cy H.size σ  _ hw) 13 4 rfl rfl rfl rfl hl.1 (Nat.le_of_ble_eq_true rfl) dX4_trialTop_29 rfl (fun r2 σ2 H locs hw hh => ?_)
    refine lv_if_eq (tgt := 41) hx hb dX4_trialTop_32 (by decide) (fun c3 => ?_) (fun c3 => ?_)
    · have hw := hw.1 c3
      refine lv_aload_n hx hb dX4_trialTop_41 rfl (lv_at hl 0 rfl) ?_
      refine lf_callVl (rest := []) F hh (cw_X4_161 F.1.2.2.2.2 ⟨Nat.le_of_ble_eq_true rfl, Nat.le_of_ble_eq_true rfl⟩) (c_X4_lightestTop l D ha cy H.size σ2  _ hw) 13 4 rfl rfl rfl rfl hl.1 (Nat.le_of_ble_eq_true rfl) dX4_trialTop_42 rfl (fun r4 σ4 H locs hw hh => ?_)
      exact lf_retl F hh hw dX4_trialTop_45
    · have hw := hw.2 c3
      refine lv_ldc2 hx hb F.1.2.2.2.1 (F.1.2.2.2.2 _ (lr_14 _ (List.mem_of_getElem? (i := 22) rfl))) dX4_trialTop_35 ?_
      refine lv_goto (tgt := 45) hx hb dX4_trialTop_38 (by decide) ?_
      exact lf_retl F hh hw dX4_trialTop_45
  · have hw := hw.2 c1
    by_cases c5 : x1 = 2
    · have hw := hw.1 c5
      refine lv_tableIn (tgt := 46) hx hb dX4_trialTop_1 (by rw [c5]; decide) (by rw [c5]; decide) (by rw [c5]; rfl) (by decide) ?_
      refine lv_aload_n hx hb dX4_trialTop_46 rfl (lv_at hl 0 rfl) ?_
      refine lf_callVl (rest := []) F hh (cw_X4_165 F.1.2.2.2.2 ⟨Nat.le_of_ble_eq_true rfl, Nat.le_of_ble_eq_true rfl⟩) (c_X4_wholeSizesTop l D ha cy H.size σ  _ hw) 13 4 rfl rfl rfl rfl hl.1 (Nat.le_of_ble_eq_true rfl) dX4_trialTop_47 rfl (fun r6 σ6 H locs hw hh => ?_)
      exact lf_retl F hh hw dX4_trialTop_50
    · have hw := hw.2 c5
      by_cases c7 : x1 = 3
      · have hw := hw.1 c7
        refine lv_tableIn (tgt := 51) hx hb dX4_trialTop_1 (by rw [c7]; decide) (by rw [c7]; decide) (by rw [c7]; rfl) (by decide) ?_
        refine lv_aload_n hx hb dX4_trialTop_51 rfl (lv_at hl 0 rfl) ?_
        refine lf_callVl (rest := []) F hh (cw_X4_161 F.1.2.2.2.2 ⟨Nat.le_of_ble_eq_true rfl, Nat.le_of_ble_eq_true rfl⟩) (c_X4_lightestTop l D ha cy H.size σ  _ hw) 13 4 rfl rfl rfl rfl hl.1 (Nat.le_of_ble_eq_true rfl) dX4_trialTop_52 rfl (fun r8 σ8 H locs hw hh => ?_)
        refine lv_aload_n hx hb dX4_trialTop_55 rfl (lv_at hl 0 rfl) ?_
        refine lf_callVl (rest := [.long r8]) F hh (cw_X4_168 F.1.2.2.2.2 ⟨Nat.le_of_ble_eq_true rfl, Nat.le_of_ble_eq_true rfl⟩) (c_X4_pricesTop l D ha cy H.size σ8  _ hw) 13 4 rfl rfl rfl rfl hl.1 (Nat.le_of_ble_eq_true rfl) dX4_trialTop_56 rfl (fun r9 σ9 H locs hw hh => ?_)
        refine lv_ladd hx hb dX4_trialTop_59 ?_
        exact lf_retl F hh hw dX4_trialTop_60
      · have hw := hw.2 c7
        refine lv_tableOut (tgt := 61) hx hb dX4_trialTop_1 (lf_sw_1_3 c1 c5 c7) (by decide) ?_
        refine lv_aload_n hx hb dX4_trialTop_61 rfl (lv_at hl 0 rfl) ?_
        refine lf_callVl (rest := []) F hh (cw_X4_161 F.1.2.2.2.2 ⟨Nat.le_of_ble_eq_true rfl, Nat.le_of_ble_eq_true rfl⟩) (c_X4_lightestTop l D ha cy H.size σ  _ hw) 13 4 rfl rfl rfl rfl hl.1 (Nat.le_of_ble_eq_true rfl) dX4_trialTop_62 rfl (fun r10 σ10 H locs hw hh => ?_)
        exact lf_retl F hh hw dX4_trialTop_65
