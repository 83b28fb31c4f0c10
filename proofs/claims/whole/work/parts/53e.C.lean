theorem cw_X4_125 {R : Room} {s : State} {args : Array Value} (ht : ∀ w ∈ wsL_law, w.before args s = true) (hR : rm_X4_tryBars.frames + 1 ≤ R.frames ∧ 8 + (3 + 11) + rm_X4_tryBars.locals ≤ R.locals) : lf_cV R s args RX4 RX4 125 yX4_tryBars cX4_tryBars 3 (some .boolean) rm_X4_tryBars 1 :=
  lf_cV_of 1 ht (lr_15 _ (List.mem_of_getElem? (i := 3) rfl)) (lr_15 _ (List.mem_of_getElem? (i := 0) rfl)) (lr_15 _ (List.mem_of_getElem? (i := 1) rfl)) (lr_15 _ (List.mem_of_getElem? (i := 2) rfl)) (lr_1 _ (List.mem_of_getElem? (i := 18) rfl)) rfl rfl (by decide +kernel) hR
theorem cw_X4_129 {R : Room} {s : State} {args : Array Value} (ht : ∀ w ∈ wsL_law, w.before args s = true) (hR : rm_X4_trialTop.frames + 1 ≤ R.frames ∧ 8 + (2 + 11) + rm_X4_trialTop.locals ≤ R.locals) : lf_cV R s args RX4 RX4 129 yX4_trialTop cX4_trialTop 2 (some .long) rm_X4_trialTop 1 :=
  lf_cV_of 1 ht (lr_18 _ (List.mem_of_getElem? (i := 1) rfl)) (lr_17 _ (List.mem_of_getElem? (i := 22) rfl)) (lr_17 _ (List.mem_of_getElem? (i := 23) rfl)) (lr_18 _ (List.mem_of_getElem? (i := 0) rfl)) (lr_1 _ (List.mem_of_getElem? (i := 18) rfl)) rfl rfl (by decide +kernel) hR
theorem cw_X4_135 {R : Room} {s : State} {args : Array Value} (ht : ∀ w ∈ wsL_law, w.before args s = true) (hR : rm_X0_givesWayTo.frames + 1 ≤ R.frames ∧ 8 + (5 + 11) + rm_X0_givesWayTo.locals ≤ R.locals) : lf_cV R s args RX4 RX0 135 yX0_givesWayTo cX0_givesWayTo 5 (some .boolean) rm_X0_givesWayTo 2 :=
  lf_cV_of 2 ht (lr_19 _ (List.mem_of_getElem? (i := 14) rfl)) (lr_19 _ (List.mem_of_getElem? (i := 11) rfl)) (lr_19 _ (List.mem_of_getElem? (i := 12) rfl)) (lr_19 _ (List.mem_of_getElem? (i := 13) rfl)) (lr_2 _ (List.mem_of_getElem? (i := 21) rfl)) rfl rfl (by decide +kernel) hR
theorem cw_X4_139 {R : Room} {s : State} {args : Array Value} (ht : ∀ w ∈ wsL_law, w.before args s = true) (hR : rm_X0_become.frames + 1 ≤ R.frames ∧ 8 + (4 + 11) + rm_X0_become.locals ≤ R.locals) : lf_cV R s args RX4 RX0 139 yX0_become cX0_become 4 none rm_X0_become 2 :=
  lf_cV_of 2 ht (lr_19 _ (List.mem_of_getElem? (i := 20) rfl)) (lr_19 _ (List.mem_of_getElem? (i := 17) rfl)) (lr_19 _ (List.mem_of_getElem? (i := 18) rfl)) (lr_19 _ (List.mem_of_getElem? (i := 19) rfl)) (lr_2 _ (List.mem_of_getElem? (i := 21) rfl)) rfl rfl (by decide +kernel) hR
def L_X4_look_41 (Post : lf_St → Prop) : Nat → Int32 → lf_St → Prop
  | 0, _, _ => False
  | n + 1, x2, σ => ((4 ≤ x2) → (Post σ)) ∧ ((¬ (4 ≤ x2)) → (wp_X4_trialTop x2 σ (fun r2 σ2 => ((r2 = (-1)) → (∀ v4 : Int32, v4 = x2 + 1 → (L_X4_look_41 Post n v4 σ2))) ∧ ((¬ (r2 = (-1))) → (vp_in x2 4 ∧ (wp_X0_givesWayTo (x2.toNatClampNeg) r2 (lf_gl σ2 (20 + 4)) σ2 (fun r6 σ6 => ((r6 = 0) → (∀ v8 : Int32, v8 = x2 + 1 → (L_X4_look_41 Post n v8 σ6))) ∧ ((¬ (r6 = 0)) → (vp_in x2 4 ∧ (wp_X0_become (x2.toNatClampNeg) 4 r2 σ6 (fun σ10 => ∀ v11 : Int32, v11 = x2 + 1 → (L_X4_look_41 Post n v11 σ10))))))))))))
def wp_X4_look (x1 : Int32) (σ : lf_St) (Post : lf_St → Prop) : Prop := ((210 ≤ (lf_gi σ 5)) → (Post σ)) ∧ ((¬ (210 ≤ (lf_gi σ 5))) → (wp_X4_tryBars x1 σ (fun r2 σ2 => ((¬ r2 = 0) → (vp_in (lf_gi σ2 5) 210 ∧ (∀ σ5 : lf_St, σ5 = (lf_sa σ2 14 ((lf_gi σ2 5) : Int32).toNatClampNeg x1) → (∃ fu : Nat, L_X4_look_41 Post fu 0 (lf_si σ5 5 ((lf_gi σ5 5) + 1)))))) ∧ ((r2 = 0) → (Post σ2)))))
def rm_X4_look : Room := ({ frames := 4, cells := 0, slots := 0, locals := 91 } : Room)
set_option maxHeartbeats 4000000 in
set_option maxRecDepth 100000 in
theorem w_X4_look_41 {p : Program} {l : Launch} {e : Env} {s : State} {m : MethodId} {args : Array Value} {below : List Frame} {meth : Method} {c : Code} {D : va_G} {A : Nat → Prop} {ha : Nat → Nat} {cy : Nat → ClassId} (Post : lf_St → Prop) (F : lf_C p s m args meth c RX4 cX4_look 5 none D (tyC_ cy) A) : ∀ (n : Nat) (x2 : Int32) (σ : lf_St) (H : Heap) (locs : List Loc) (ls : Array Slot), lf_H D (wC_ ha cy) A s σ H locs → lv_has ls 5 [(0, .ref (ha 13)), (2, .int x2)] → L_X4_look_41 Post n x2 σ → W p l e rm_X4_look s m args below meth c H locs 0 0 (lf_Qv below args s D (tyC_ cy) A (wC_ ha cy) Post) (F0 m 41 ls []) := by
  have hx := F.1.1
  have hb := F.1.2.1
  intro n
  induction n with
  | zero =>
    intro x2 σ H locs ls hh hl hw
    exact False.elim hw
  | succ n ih =>
    intro x2 σ H locs ls hh hl hw
    unfold L_X4_look_41 at hw
    refine lv_iload_n hx hb dX4_look_41 rfl (lv_at hl 1 rfl) ?_
    refine lv_iconst (v := 4) hx hb dX4_look_42 (by decide) ?_
    refine lv_icmp_ge (tgt := 100) hx hb dX4_look_43 (by decide) (fun c1 => ?_) (fun c1 => ?_)
    · have hw := hw.1 c1
      exact lf_retv F hh hw dX4_look_100
    · have hw := hw.2 c1
      refine lv_aload_n hx hb dX4_look_46 rfl (lv_at hl 0 rfl) ?_
      refine lv_iload_n hx hb dX4_look_47 rfl (lv_at hl 1 rfl) ?_
      refine lf_callVl (rest := []) F hh (cw_X4_129 F.1.2.2.2.2 ⟨Nat.le_of_ble_eq_true rfl, Nat.le_of_ble_eq_true rfl⟩) (c_X4_trialTop l D ha cy H.size σ x2 _ hw) 13 4 rfl rfl rfl rfl hl.1 (Nat.le_of_ble_eq_true rfl) dX4_look_48 rfl (fun r2 σ2 H locs hw hh => ?_)
      refine lv_lstore_n (lv' := [(3, .long r2), (0, .ref (ha 13)), (2, .int x2)]) hx hb dX4_look_51 rfl hl (by decide) rfl (fun ls hl => ?_)
      refine lv_lload_n hx hb dX4_look_52 rfl (lv_at hl 0 rfl) ?_
      refine lv_ldc2 hx hb F.1.2.2.2.1 (F.1.2.2.2.2 _ (lr_14 _ (List.mem_of_getElem? (i := 22) rfl))) dX4_look_53 ?_
      refine lf_lcmp_eq (tgt := 94) hx hb dX4_look_56 dX4_look_57 (by decide) (fun c3 => ?_) (fun c3 => ?_)
      · have hw := hw.1 c3
        obtain ⟨v4, ev4⟩ : ∃ y : Int32, y = x2 + 1 := ⟨_, rfl⟩
        have hw := hw v4 ev4
        refine lv_iinc (v := v4) (lv' := [(2, .int v4), (3, .long r2), (0, .ref (ha 13))]) hx hb dX4_look_94 hl (k := 2) rfl (by rw [ev4]; rfl) (by decide) rfl (fun ls hl => ?_)
        refine lv_goto (tgt := 41) hx hb dX4_look_97 (by decide) ?_
        exact ih v4 σ2 _ _ _ hh (lv_sub hl [2, 0] rfl) hw
      · have hw := hw.2 c3
        refine lv_aload_n hx hb dX4_look_60 rfl (lv_at hl 1 rfl) ?_
        refine fg_X4_18 F hh dX4_look_61 ?_
        refine lv_iload_n hx hb dX4_look_64 rfl (lv_at hl 2 rfl) ?_
        obtain ⟨q5, hw⟩ := hw
        refine ra_C_frames F hh q5 dX4_look_65 ?_
        refine lv_lload_n hx hb dX4_look_66 rfl (lv_at hl 0 rfl) ?_
        refine lv_aload_n hx hb dX4_look_67 rfl (lv_at hl 1 rfl) ?_
        refine fg_X4_12 F hh dX4_look_68 ?_
        refine fg_X4_87 F hh 4 (by decide) dX4_look_71 ?_
        refine lf_callVi (rest := []) F hh (cw_X4_135 F.1.2.2.2.2 ⟨Nat.le_of_ble_eq_true rfl, Nat.le_of_ble_eq_true rfl⟩) (c_X0_givesWayTo l D ha cy H.size σ2 (x2.toNatClampNeg) (lf_in5 q5) r2 (lf_gl σ2 (20 + 4)) _ hw) (22 + x2.toNatClampNeg) 0 rfl rfl (lC_fr (x2.toNatClampNeg) (lf_in5 q5)) rfl hl.1 (Nat.le_of_ble_eq_true rfl) dX4_look_74 rfl (fun r6 σ6 H locs hw hh => ?_)
        refine lv_if_eq (tgt := 94) hx hb dX4_look_77 (by decide) (fun c7 => ?_) (fun c7 => ?_)
        · have hw := hw.1 c7
          obtain ⟨v8, ev8⟩ : ∃ y : Int32, y = x2 + 1 := ⟨_, rfl⟩
          have hw := hw v8 ev8
          refine lv_iinc (v := v8) (lv' := [(2, .int v8), (3, .long r2), (0, .ref (ha 13))]) hx hb dX4_look_94 hl (k := 2) rfl (by rw [ev8]; rfl) (by decide) rfl (fun ls hl => ?_)
          refine lv_goto (tgt := 41) hx hb dX4_look_97 (by decide) ?_
          exact ih v8 σ6 _ _ _ hh (lv_sub hl [2, 0] rfl) hw
        · have hw := hw.2 c7
          refine lv_aload_n hx hb dX4_look_80 rfl (lv_at hl 1 rfl) ?_
          refine fg_X4_18 F hh dX4_look_81 ?_
          refine lv_iload_n hx hb dX4_look_84 rfl (lv_at hl 2 rfl) ?_
          obtain ⟨q9, hw⟩ := hw
          refine ra_C_frames F hh q9 dX4_look_85 ?_
          refine lv_aload_n hx hb dX4_look_86 rfl (lv_at hl 1 rfl) ?_
          refine fg_X4_12 F hh dX4_look_87 ?_
          refine lv_lload_n hx hb dX4_look_90 rfl (lv_at hl 0 rfl) ?_
          refine lf_callVv (rest := []) F hh (cw_X4_139 F.1.2.2.2.2 ⟨Nat.le_of_ble_eq_true rfl, Nat.le_of_ble_eq_true rfl⟩) (c_X0_become l D ha cy H.size σ6 (x2.toNatClampNeg) (lf_in5 q9) 4 (by decide) r2 _ hw) (22 + x2.toNatClampNeg) 0 rfl rfl (lC_fr (x2.toNatClampNeg) (lf_in5 q9)) rfl hl.1 (Nat.le_of_ble_eq_true rfl) dX4_look_91 rfl (fun σ10 H locs hw hh => ?_)
          obtain ⟨v11, ev11⟩ : ∃ y : Int32, y = x2 + 1 := ⟨_, rfl⟩
          have hw := hw v11 ev11
          refine lv_iinc (v := v11) (lv' := [(2, .int v11), (3, .long r2), (0, .ref (ha 13))]) hx hb dX4_look_94 hl (k := 2) rfl (by rw [ev11]; rfl) (by decide) rfl (fun ls hl => ?_)
          refine lv_goto (tgt := 41) hx hb dX4_look_97 (by decide) ?_
          exact ih v11 σ10 _ _ _ hh (lv_sub hl [2, 0] rfl) hw
set_option maxHeartbeats 4000000 in
set_option maxRecDepth 100000 in
theorem c_X4_look (l : Launch) (D : va_G) (ha : Nat → Nat) (cy : Nat → ClassId) (sz : Nat) (σ : lf_St) (x1 : Int32) (Post : lf_St → Prop) (hw : wp_X4_look x1 σ Post) : lf_Mv l yX4_look (lf_ws yX4_look cX4_look 5 none) rm_X4_look D (tyC_ cy) (wC_ ha cy) sz σ [.ref (ha 13), .int x1] Post := by
  refine lf_ofv (by decide +kernel) (Nat.le_of_ble_eq_true rfl) ?_
  intro p e s m args below meth c A ls F hh hl
  have hx := F.1.1
  have hb := F.1.2.1
  have hl : lv_has ls 5 [(0, .ref (ha 13)), (1, .int x1)] := hl
  obtain ⟨H, hHe⟩ : ∃ H, H = s.heap := ⟨_, rfl⟩
  rw [← hHe] at hh ⊢
  unfold wp_X4_look at hw
  refine lv_aload_n hx hb dX4_look_0 rfl (lv_at hl 0 rfl) ?_
  refine fg_X4_46 F hh dX4_look_1 ?_
  refine lv_sipush (v := 210) hx hb dX4_look_4 (by decide) ?_
  refine lv_icmp_ge (tgt := 18) hx hb dX4_look_7 (by decide) (fun c1 => ?_) (fun c1 => ?_)
  · have hw := hw.1 c1
    exact lf_retv F hh hw dX4_look_18
  · have hw := hw.2 c1
    refine lv_aload_n hx hb dX4_look_10 rfl (lv_at hl 0 rfl) ?_
    refine lv_iload_n hx hb dX4_look_11 rfl (lv_at hl 1 rfl) ?_
    refine lf_callVi (rest := []) F hh (cw_X4_125 F.1.2.2.2.2 ⟨Nat.le_of_ble_eq_true rfl, Nat.le_of_ble_eq_true rfl⟩) (c_X4_tryBars l D ha cy H.size σ x1 _ hw) 13 4 rfl rfl rfl rfl hl.1 (Nat.le_of_ble_eq_true rfl) dX4_look_12 rfl (fun r2 σ2 H locs hw hh => ?_)
    refine lv_if_ne (tgt := 19) hx hb dX4_look_15 (by decide) (fun c3 => ?_) (fun c3 => ?_)
    · have hw := hw.1 c3
      refine lv_aload_n hx hb dX4_look_19 rfl (lv_at hl 0 rfl) ?_
      refine fg_X4_22 F hh dX4_look_20 ?_
      refine lv_aload_n hx hb dX4_look_23 rfl (lv_at hl 0 rfl) ?_
      refine fg_X4_46 F hh dX4_look_24 ?_
      refine lv_iload_n hx hb dX4_look_27 rfl (lv_at hl 1 rfl) ?_
      obtain ⟨q4, hw⟩ := hw
      refine wa_C_14 F hh q4 dX4_look_28 (fun H locs hh => ?_)
      refine lv_aload_n hx hb dX4_look_29 rfl (lv_at hl 0 rfl) ?_
      refine lv_dup hx hb dX4_look_30 rfl ?_
      obtain ⟨σ5, eσ5⟩ : ∃ z : lf_St, z = (lf_sa σ2 14 ((lf_gi σ2 5) : Int32).toNatClampNeg x1) := ⟨_, rfl⟩
      rw [← eσ5] at hh
      have hw := hw σ5 eσ5
      refine fg_X4_46 F hh dX4_look_31 ?_
      refine lv_iconst (v := 1) hx hb dX4_look_34 (by decide) ?_
      refine lv_iadd hx hb dX4_look_35 ?_
      refine fp_X4_46 F hh dX4_look_36 (fun H locs hh => ?_)
      refine lv_iconst (v := 0) hx hb dX4_look_39 (by decide) ?_
      refine lv_istore_n (lv' := [(2, .int 0), (0, .ref (ha 13)), (1, .int x1)]) hx hb dX4_look_40 rfl hl (by decide) rfl (fun ls hl => ?_)
      obtain ⟨n41, hw⟩ := hw
      exact w_X4_look_41 Post F  n41 0 (lf_si σ5 5 ((lf_gi σ5 5) + 1)) _ _ _ hh (lv_sub hl [1, 0] rfl) hw
    · have hw := hw.2 c3
      exact lf_retv F hh hw dX4_look_18
def L_X4_mirrored_4 (Post : Int32 → lf_St → Prop) : Nat → Int32 → Int32 → Int32 → lf_St → Prop
  | 0, _, _, _, _ => False
  | n + 1, x1, x2, x3, σ => (((lf_gi σ 2) ≤ x3) → (Post x2 σ)) ∧ ((¬ ((lf_gi σ 2) ≤ x3)) → (((¬ ((x1 >>> ((((lf_gi σ 2) - 1) - x3) &&& 31)) &&& 1) = 1) → (∀ v3 : Int32, v3 = x3 + 1 → (L_X4_mirrored_4 Post n x1 x2 v3 σ))) ∧ ((((x1 >>> ((((lf_gi σ 2) - 1) - x3) &&& 31)) &&& 1) = 1) → (∀ v4 : Int32, v4 = (x2 ||| (1 <<< (x3 &&& 31))) → (∀ v5 : Int32, v5 = x3 + 1 → (L_X4_mirrored_4 Post n x1 v4 v5 σ))))))
def wp_X4_mirrored (x1 : Int32) (σ : lf_St) (Post : Int32 → lf_St → Prop) : Prop := ∃ fu : Nat, L_X4_mirrored_4 Post fu x1 0 0 σ
def rm_X4_mirrored : Room := ({ frames := 0, cells := 0, slots := 0, locals := 0 } : Room)
set_option maxHeartbeats 4000000 in
set_option maxRecDepth 100000 in
theorem w_X4_mirrored_4 {p : Program} {l : Launch} {e : Env} {s : State} {m : MethodId} {args : Array Value} {below : List Frame} {meth : Method} {c : Code} {D : va_G} {A : Nat → Prop} {ha : Nat → Nat} {cy : Nat → ClassId} (Post : Int32 → lf_St → Prop) (F : lf_C p s m args meth c RX4 cX4_mirrored 4 (some .int) D (tyC_ cy) A) : ∀ (n : Nat) (x1 : Int32) (x2 : Int32) (x3 : Int32) (σ : lf_St) (H : Heap) (locs : List Loc) (ls : Array Slot), lf_H D (wC_ ha cy) A s σ H locs → lv_has ls 4 [(0, .ref (ha 13)), (1, .int x1), (2, .int x2), (3, .int x3)] → L_X4_mirrored_4 Post n x1 x2 x3 σ → W p l e rm_X4_mirrored s m args below meth c H locs 0 0 (lf_Qi below args s D (tyC_ cy) A (wC_ ha cy) Post) (F0 m 4 ls []) := by
  have hx := F.1.1
  have hb := F.1.2.1
  intro n
  induction n with
  | zero =>
    intro x1 x2 x3 σ H locs ls hh hl hw
    exact False.elim hw
  | succ n ih =>
    intro x1 x2 x3 σ H locs ls hh hl hw
    unfold L_X4_mirrored_4 at hw
    refine lv_iload_n hx hb dX4_mirrored_4 rfl (lv_at hl 3 rfl) ?_
    refine lv_aload_n hx hb dX4_mirrored_5 rfl (lv_at hl 0 rfl) ?_
    refine fg_X4_26 F hh dX4_mirrored_6 ?_
    refine fg_X4_53 F hh dX4_mirrored_9 ?_
    refine lv_icmp_ge (tgt := 46) hx hb dX4_mirrored_12 (by decide) (fun c1 => ?_) (fun c1 => ?_)
    · have hw := hw.1 c1
      refine lv_iload_n hx hb dX4_mirrored_46 rfl (lv_at hl 2 rfl) ?_
      exact lf_reti F hh hw dX4_mirrored_47
    · have hw := hw.2 c1
      refine lv_iload_n hx hb dX4_mirrored_15 rfl (lv_at hl 1 rfl) ?_
      refine lv_aload_n hx hb dX4_mirrored_16 rfl (lv_at hl 0 rfl) ?_
      refine fg_X4_26 F hh dX4_mirrored_17 ?_
      refine fg_X4_53 F hh dX4_mirrored_20 ?_
      refine lv_iconst (v := 1) hx hb dX4_mirrored_23 (by decide) ?_
      refine lv_isub hx hb dX4_mirrored_24 ?_
      refine lv_iload_n hx hb dX4_mirrored_25 rfl (lv_at hl 3 rfl) ?_
      refine lv_isub hx hb dX4_mirrored_26 ?_
      refine lv_ishr hx hb dX4_mirrored_27 ?_
      refine lv_iconst (v := 1) hx hb dX4_mirrored_28 (by decide) ?_
      refine lv_iand hx hb dX4_mirrored_29 ?_
      refine lv_iconst (v := 1) hx hb dX4_mirrored_30 (by decide) ?_
      refine lv_icmp_ne (tgt := 40) hx hb dX4_mirrored_31 (by decide) (fun c2 => ?_) (fun c2 => ?_)
      · have hw := hw.1 c2
        obtain ⟨v3, ev3⟩ : ∃ y : Int32, y = x3 + 1 := ⟨_, rfl⟩
        have hw := hw v3 ev3
        refine lv_iinc (v := v3) (lv' := [(3, .int v3), (0, .ref (ha 13)), (1, .int x1), (2, .int x2)]) hx hb dX4_mirrored_40 hl (k := 3) rfl (by rw [ev3]; rfl) (by decide) rfl (fun ls hl => ?_)
        refine lv_goto (tgt := 4) hx hb dX4_mirrored_43 (by decide) ?_
        exact ih x1 x2 v3 σ _ _ _ hh (lv_sub hl [1, 2, 3, 0] rfl) hw
      · have hw := hw.2 c2
        refine lv_iload_n hx hb dX4_mirrored_34 rfl (lv_at hl 2 rfl) ?_
        refine lv_iconst (v := 1) hx hb dX4_mirrored_35 (by decide) ?_
        refine lv_iload_n hx hb dX4_mirrored_36 rfl (lv_at hl 3 rfl) ?_
        refine lv_ishl hx hb dX4_mirrored_37 ?_
        refine lv_ior hx hb dX4_mirrored_38 ?_
        refine lv_topi (fun v4 ev4 => ?_)
        have hw := hw v4 ev4
        refine lv_istore_n (lv' := [(2, .int v4), (0, .ref (ha 13)), (1, .int x1), (3, .int x3)]) hx hb dX4_mirrored_39 rfl hl (by decide) rfl (fun ls hl => ?_)
        obtain ⟨v5, ev5⟩ : ∃ y : Int32, y = x3 + 1 := ⟨_, rfl⟩
        have hw := hw v5 ev5
        refine lv_iinc (v := v5) (lv' := [(3, .int v5), (2, .int v4), (0, .ref (ha 13)), (1, .int x1)]) hx hb dX4_mirrored_40 hl (k := 3) rfl (by rw [ev5]; rfl) (by decide) rfl (fun ls hl => ?_)
        refine lv_goto (tgt := 4) hx hb dX4_mirrored_43 (by decide) ?_
        exact ih x1 v4 v5 σ _ _ _ hh (lv_sub hl [2, 3, 1, 0] rfl) hw
set_option maxHeartbeats 4000000 in
set_option maxRecDepth 100000 in
theorem c_X4_mirrored (l : Launch) (D : va_G) (ha : Nat → Nat) (cy : Nat → ClassId) (sz : Nat) (σ : lf_St) (x1 : Int32) (Post : Int32 → lf_St → Prop) (hw : wp_X4_mirrored x1 σ Post) : lf_Mi l yX4_mirrored (lf_ws yX4_mirrored cX4_mirrored 4 (some .int)) rm_X4_mirrored D (tyC_ cy) (wC_ ha cy) sz σ [.ref (ha 13), .int x1] Post := by
  refine lf_ofi (by decide +kernel) (Nat.le_of_ble_eq_true rfl) ?_
  intro p e s m args below meth c A ls F hh hl
  have hx := F.1.1
  have hb := F.1.2.1
  have hl : lv_has ls 4 [(0, .ref (ha 13)), (1, .int x1)] := hl
  obtain ⟨H, hHe⟩ : ∃ H, H = s.heap := ⟨_, rfl⟩
  rw [← hHe] at hh ⊢
  unfold wp_X4_mirrored at hw
  refine lv_iconst (v := 0) hx hb dX4_mirrored_0 (by decide) ?_
  refine lv_istore_n (lv' := [(2, .int 0), (0, .ref (ha 13)), (1, .int x1)]) hx hb dX4_mirrored_1 rfl hl (by decide) rfl (fun ls hl => ?_)
  refine lv_iconst (v := 0) hx hb dX4_mirrored_2 (by decide) ?_
  refine lv_istore_n (lv' := [(3, .int 0), (2, .int 0), (0, .ref (ha 13)), (1, .int x1)]) hx hb dX4_mirrored_3 rfl hl (by decide) rfl (fun ls hl => ?_)
  obtain ⟨n4, hw⟩ := hw
  exact w_X4_mirrored_4 Post F  n4 x1 0 0 σ _ _ _ hh (lv_sub hl [2, 3, 1, 0] rfl) hw
theorem cw_X4_64 {R : Room} {s : State} {args : Array Value} (ht : ∀ w ∈ wsL_law, w.before args s = true) (hR : rm_X2_rows.frames + 1 ≤ R.frames ∧ 8 + (1 + 11) + rm_X2_rows.locals ≤ R.locals) : lf_cV R s args RX4 RX2 64 yX2_rows cX2_rows 1 (some .int) rm_X2_rows 0 :=
  lf_cV_of 0 ht (lr_6 _ (List.mem_of_getElem? (i := 6) rfl)) (lr_14 _ (List.mem_of_getElem? (i := 13) rfl)) (lr_6 _ (List.mem_of_getElem? (i := 4) rfl)) (lr_6 _ (List.mem_of_getElem? (i := 5) rfl)) (lr_1 _ (List.mem_of_getElem? (i := 14) rfl)) rfl rfl (by decide +kernel) hR
theorem cw_X4_68 {R : Room} {s : State} {args : Array Value} (ht : ∀ w ∈ wsL_law, w.before args s = true) (hR : rm_X4_mirrored.frames + 1 ≤ R.frames ∧ 8 + (4 + 11) + rm_X4_mirrored.locals ≤ R.locals) : lf_cV R s args RX4 RX4 68 yX4_mirrored cX4_mirrored 4 (some .int) rm_X4_mirrored 1 :=
  lf_cV_of 1 ht (lr_14 _ (List.mem_of_getElem? (i := 17) rfl)) (lr_14 _ (List.mem_of_getElem? (i := 14) rfl)) (lr_14 _ (List.mem_of_getElem? (i := 15) rfl)) (lr_14 _ (List.mem_of_getElem? (i := 16) rfl)) (lr_1 _ (List.mem_of_getElem? (i := 18) rfl)) rfl rfl (by decide +kernel) hR
theorem cw_X4_71 {R : Room} {s : State} {args : Array Value} (ht : ∀ w ∈ wsL_law, w.before args s = true) (hR : rm_X4_look.frames + 1 ≤ R.frames ∧ 8 + (5 + 11) + rm_X4_look.locals ≤ R.locals) : lf_cV R s args RX4 RX4 71 yX4_look cX4_look 5 none rm_X4_look 1 :=
  lf_cV_of 1 ht (lr_14 _ (List.mem_of_getElem? (i := 21) rfl)) (lr_14 _ (List.mem_of_getElem? (i := 18) rfl)) (lr_14 _ (List.mem_of_getElem? (i := 19) rfl)) (lr_14 _ (List.mem_of_getElem? (i := 20) rfl)) (lr_1 _ (List.mem_of_getElem? (i := 18) rfl)) rfl rfl (by decide +kernel) hR
def L_X4_run_48 (Post : lf_St → Prop) : Nat → Int32 → lf_St → Prop
  | 0, _, _ => False
  | n + 1, x1, σ => ((x1 < 0) → (Post (lf_si σ 6 1))) ∧ ((¬ (x1 < 0)) → (wp_J6_bitCount_0f7a4 x1 σ (fun r2 σ2 => wp_X2_rows σ2 (fun r3 σ3 => ((¬ r2 = r3) → (∀ v5 : Int32, v5 = x1 + (-1) → (L_X4_run_48 Post n v5 σ3))) ∧ ((r2 = r3) → (wp_X4_mirrored x1 σ3 (fun r6 σ6 => wp_X4_look r6 σ6 (fun σ7 => ∀ v8 : Int32, v8 = x1 + (-1) → (L_X4_run_48 Post n v8 σ7)))))))))
def L_X4_run_15 (Post : lf_St → Prop) : Nat → Int32 → lf_St → Prop
  | 0, _, _ => False
  | n + 1, x1, σ => ((4 ≤ x1) → (∀ v2 : Int32, v2 = ((1 <<< ((lf_gi σ 2) &&& 31)) - 1) → (∃ fu : Nat, L_X4_run_48 Post fu v2 σ))) ∧ ((¬ (4 ≤ x1)) → (vp_in x1 4 ∧ (∀ v4 : Int32, v4 = x1 + 1 → (L_X4_run_15 Post n v4 (lf_si σ (20 + x1.toNatClampNeg) 0)))))
def wp_X4_run (σ : lf_St) (Post : lf_St → Prop) : Prop := (((lf_gi σ 6) = 0) → (∃ fu : Nat, L_X4_run_15 Post fu 0 (lf_si σ 5 0))) ∧ ((¬ ((lf_gi σ 6) = 0)) → (Post σ))
def rm_X4_run : Room := ({ frames := 5, cells := 0, slots := 0, locals := 115 } : Room)
set_option maxHeartbeats 4000000 in
set_option maxRecDepth 100000 in
theorem w_X4_run_48 {p : Program} {l : Launch} {e : Env} {s : State} {m : MethodId} {args : Array Value} {below : List Frame} {meth : Method} {c : Code} {D : va_G} {A : Nat → Prop} {ha : Nat → Nat} {cy : Nat → ClassId} (Post : lf_St → Prop) (F : lf_C p s m args meth c RX4 cX4_run 2 none D (tyC_ cy) A) : ∀ (n : Nat) (x1 : Int32) (σ : lf_St) (H : Heap) (locs : List Loc) (ls : Array Slot), lf_H D (wC_ ha cy) A s σ H locs → lv_has ls 2 [(0, .ref (ha 13)), (1, .int x1)] → L_X4_run_48 Post n x1 σ → W p l e rm_X4_run s m args below meth c H locs 0 0 (lf_Qv below args s D (tyC_ cy) A (wC_ ha cy) Post) (F0 m 48 ls []) := by
  have hx := F.1.1
  have hb := F.1.2.1
  intro n
  induction n with
  | zero =>
    intro x1 σ H locs ls hh hl hw
    exact False.elim hw
  | succ n ih =>
    intro x1 σ H locs ls hh hl hw
    unfold L_X4_run_48 at hw
    refine lv_iload_n hx hb dX4_run_48 rfl (lv_at hl 1 rfl) ?_
    refine lv_if_lt (tgt := 81) hx hb dX4_run_49 (by decide) (fun c1 => ?_) (fun c1 => ?_)
    · have hw := hw.1 c1
      refine lv_aload_n hx hb dX4_run_81 rfl (lv_at hl 0 rfl) ?_
      refine lv_iconst (v := 1) hx hb dX4_run_82 (by decide) ?_
      refine fp_X4_42 F hh rfl dX4_run_83 (fun H locs hh => ?_)
      exact lf_retv F hh hw dX4_run_86
    · have hw := hw.2 c1
      refine lv_iload_n hx hb dX4_run_52 rfl (lv_at hl 1 rfl) ?_
      refine lf_callSi (rest := []) F hh (cw_X4_58 F.1.2.2.2.2 ⟨Nat.le_of_ble_eq_true rfl, Nat.le_of_ble_eq_true rfl⟩) (c_J6_bitCount_0f7a4 l D ha cy H.size σ x1 _ hw) rfl hl.1 (Nat.le_of_ble_eq_true rfl) dX4_run_53 rfl (fun r2 σ2 H locs hw hh => ?_)
      refine lv_aload_n hx hb dX4_run_56 rfl (lv_at hl 0 rfl) ?_
      refine fg_X4_26 F hh dX4_run_57 ?_
      refine lf_callVi (rest := [.int r2]) F hh (cw_X4_64 F.1.2.2.2.2 ⟨Nat.le_of_ble_eq_true rfl, Nat.le_of_ble_eq_true rfl⟩) (c_X2_rows l D ha cy H.size σ2  _ hw) 1 2 rfl rfl rfl rfl hl.1 (Nat.le_of_ble_eq_true rfl) dX4_run_60 rfl (fun r3 σ3 H locs hw hh => ?_)
      refine lv_icmp_ne (tgt := 75) hx hb dX4_run_63 (by decide) (fun c4 => ?_) (fun c4 => ?_)
      · have hw := hw.1 c4
        obtain ⟨v5, ev5⟩ : ∃ y : Int32, y = x1 + (-1) := ⟨_, rfl⟩
        have hw := hw v5 ev5
        refine lv_iinc (v := v5) (lv' := [(1, .int v5), (0, .ref (ha 13))]) hx hb dX4_run_75 hl (k := 1) rfl (by rw [ev5]; rfl) (by decide) rfl (fun ls hl => ?_)
        refine lv_goto (tgt := 48) hx hb dX4_run_78 (by decide) ?_
        exact ih v5 σ3 _ _ _ hh (lv_sub hl [1, 0] rfl) hw
      · have hw := hw.2 c4
        refine lv_aload_n hx hb dX4_run_66 rfl (lv_at hl 0 rfl) ?_
        refine lv_aload_n hx hb dX4_run_67 rfl (lv_at hl 0 rfl) ?_
        refine lv_iload_n hx hb dX4_run_68 rfl (lv_at hl 1 rfl) ?_
        refine lf_callVi (rest := [.ref (ha 13)]) F hh (cw_X4_68 F.1.2.2.2.2 ⟨Nat.le_of_ble_eq_true rfl, Nat.le_of_ble_eq_true rfl⟩) (c_X4_mirrored l D ha cy H.size σ3 x1 _ hw) 13 4 rfl rfl rfl rfl hl.1 (Nat.le_of_ble_eq_true rfl) dX4_run_69 rfl (fun r6 σ6 H locs hw hh => ?_)
        refine lf_callVv (rest := []) F hh (cw_X4_71 F.1.2.2.2.2 ⟨Nat.le_of_ble_eq_true rfl, Nat.le_of_ble_eq_true rfl⟩) (c_X4_look l D ha cy H.size σ6 r6 _ hw) 13 4 rfl rfl rfl rfl hl.1 (Nat.le_of_ble_eq_true rfl) dX4_run_72 rfl (fun σ7 H locs hw hh => ?_)
        obtain ⟨v8, ev8⟩ : ∃ y : Int32, y = x1 + (-1) := ⟨_, rfl⟩
        have hw := hw v8 ev8
        refine lv_iinc (v := v8) (lv' := [(1, .int v8), (0, .ref (ha 13))]) hx hb dX4_run_75 hl (k := 1) rfl (by rw [ev8]; rfl) (by decide) rfl (fun ls hl => ?_)
        refine lv_goto (tgt := 48) hx hb dX4_run_78 (by decide) ?_
        exact ih v8 σ7 _ _ _ hh (lv_sub hl [1, 0] rfl) hw
set_option maxHeartbeats 4000000 in
set_option maxRecDepth 100000 in
theorem w_X4_run_15 {p : Program} {l : Launch} {e : Env} {s : State} {m : MethodId} {args : Array Value} {below : List Frame} {meth : Method} {c : Code} {D : va_G} {A : Nat → Prop} {ha : Nat → Nat} {cy : Nat → ClassId} (Post : lf_St → Prop) (F : lf_C p s m args meth c RX4 cX4_run 2 none D (tyC_ cy) A) : ∀ (n : Nat) (x1 : Int32) (σ : lf_St) (H : Heap) (locs : List Loc) (ls : Array Slot), lf_H D (wC_ ha cy) A s σ H locs → lv_has ls 2 [(0, .ref (ha 13)), (1, .int x1)] → L_X4_run_15 Post n x1 σ → W p l e rm_X4_run s m args below meth c H locs 0 0 (lf_Qv below args s D (tyC_ cy) A (wC_ ha cy) Post) (F0 m 15 ls []) := by
  have hx := F.1.1
  have hb := F.1.2.1
  intro n
  induction n with
  | zero =>
    intro x1 σ H locs ls hh hl hw
    exact False.elim hw
  | succ n ih =>
    intro x1 σ H locs ls hh hl hw
    unfold L_X4_run_15 at hw
    refine lv_iload_n hx hb dX4_run_15 rfl (lv_at hl 1 rfl) ?_
    refine lv_iconst (v := 4) hx hb dX4_run_16 (by decide) ?_
    refine lv_icmp_ge (tgt := 36) hx hb dX4_run_17 (by decide) (fun c1 => ?_) (fun c1 => ?_)
    · have hw := hw.1 c1
      refine lv_iconst (v := 1) hx hb dX4_run_36 (by decide) ?_
      refine lv_aload_n hx hb dX4_run_37 rfl (lv_at hl 0 rfl) ?_
      refine fg_X4_26 F hh dX4_run_38 ?_
      refine fg_X4_53 F hh dX4_run_41 ?_
      refine lv_ishl hx hb dX4_run_44 ?_
      refine lv_iconst (v := 1) hx hb dX4_run_45 (by decide) ?_
      refine lv_isub hx hb dX4_run_46 ?_
      refine lv_topi (fun v2 ev2 => ?_)
      have hw := hw v2 ev2
      refine lv_istore_n (lv' := [(1, .int v2), (0, .ref (ha 13))]) hx hb dX4_run_47 rfl hl (by decide) rfl (fun ls hl => ?_)
      obtain ⟨n48, hw⟩ := hw
      exact w_X4_run_48 Post F  n48 v2 σ _ _ _ hh (lv_sub hl [1, 0] rfl) hw
    · have hw := hw.2 c1
      refine lv_aload_n hx hb dX4_run_20 rfl (lv_at hl 0 rfl) ?_
      refine fg_X4_18 F hh dX4_run_21 ?_
      refine lv_iload_n hx hb dX4_run_24 rfl (lv_at hl 1 rfl) ?_
      obtain ⟨q3, hw⟩ := hw
      refine ra_C_frames F hh q3 dX4_run_25 ?_
      refine lv_iconst (v := 0) hx hb dX4_run_26 (by decide) ?_
      refine fp_X4_50 F hh (x1.toNatClampNeg) (lf_in5 q3) rfl dX4_run_27 (fun H locs hh => ?_)
      obtain ⟨v4, ev4⟩ : ∃ y : Int32, y = x1 + 1 := ⟨_, rfl⟩
      have hw := hw v4 ev4
      refine lv_iinc (v := v4) (lv' := [(1, .int v4), (0, .ref (ha 13))]) hx hb dX4_run_30 hl (k := 1) rfl (by rw [ev4]; rfl) (by decide) rfl (fun ls hl => ?_)
      refine lv_goto (tgt := 15) hx hb dX4_run_33 (by decide) ?_
      exact ih v4 (lf_si σ (20 + x1.toNatClampNeg) 0) _ _ _ hh (lv_sub hl [1, 0] rfl) hw
set_option maxHeartbeats 4000000 in
set_option maxRecDepth 100000 in
theorem c_X4_run (l : Launch) (D : va_G) (ha : Nat → Nat) (cy : Nat → ClassId) (sz : Nat) (σ : lf_St) (Post : lf_St → Prop) (hw : wp_X4_run σ Post) : lf_Mv l yX4_run (lf_ws yX4_run cX4_run 2 none) rm_X4_run D (tyC_ cy) (wC_ ha cy) sz σ [.ref (ha 13)] Post := by
  refine lf_ofv (by decide +kernel) (Nat.le_of_ble_eq_true rfl) ?_
  intro p e s m args below meth c A ls F hh hl
  have hx := F.1.1
  have hb := F.1.2.1
  have hl : lv_has ls 2 [(0, .ref (ha 13))] := hl
  obtain ⟨H, hHe⟩ : ∃ H, H = s.heap := ⟨_, rfl⟩
  rw [← hHe] at hh ⊢
  unfold wp_X4_run at hw
  refine lv_aload_n hx hb dX4_run_0 rfl (lv_at hl 0 rfl) ?_
  refine fg_X4_42 F hh dX4_run_1 ?_
  refine lv_if_eq (tgt := 8) hx hb dX4_run_4 (by decide) (fun c1 => ?_) (fun c1 => ?_)
  · have hw := hw.1 c1
    refine lv_aload_n hx hb dX4_run_8 rfl (lv_at hl 0 rfl) ?_
    refine lv_iconst (v := 0) hx hb dX4_run_9 (by decide) ?_
    refine fp_X4_46 F hh dX4_run_10 (fun H locs hh => ?_)
    refine lv_iconst (v := 0) hx hb dX4_run_13 (by decide) ?_
    refine lv_istore_n (lv' := [(1, .int 0), (0, .ref (ha 13))]) hx hb dX4_run_14 rfl hl (by decide) rfl (fun ls hl => ?_)
    obtain ⟨n15, hw⟩ := hw
    exact w_X4_run_15 Post F  n15 0 (lf_si σ 5 0) _ _ _ hh (lv_sub hl [1, 0] rfl) hw
  · have hw := hw.2 c1
    exact lf_retv F hh hw dX4_run_7
theorem cw_X4_39 {R : Room} {s : State} {args : Array Value} (ht : ∀ w ∈ wsL_law, w.before args s = true) (hR : rm_X4_run.frames + 1 ≤ R.frames ∧ 8 + (2 + 11) + rm_X4_run.locals ≤ R.locals) : lf_cV R s args RX4 RX4 39 yX4_run cX4_run 2 none rm_X4_run 0 :=
  lf_cV_of 0 ht (lr_14 _ (List.mem_of_getElem? (i := 1) rfl)) (lr_22 _ (List.mem_of_getElem? (i := 11) rfl)) (lr_13 _ (List.mem_of_getElem? (i := 23) rfl)) (lr_14 _ (List.mem_of_getElem? (i := 0) rfl)) (lr_1 _ (List.mem_of_getElem? (i := 18) rfl)) rfl rfl (by decide +kernel) hR
def wp_X4_frameOf (x1 : Int32) (σ : lf_St) (Post : lf_St → Prop) : Prop := wp_X4_run σ (fun σ1 => vp_in x1 4 ∧ (Post σ1))
def rm_X4_frameOf : Room := ({ frames := 6, cells := 0, slots := 0, locals := 136 } : Room)
set_option maxHeartbeats 4000000 in
set_option maxRecDepth 100000 in
theorem c_X4_frameOf (l : Launch) (D : va_G) (ha : Nat → Nat) (cy : Nat → ClassId) (sz : Nat) (σ : lf_St) (x1 : Int32) (Post : lf_St → Prop) (hw : wp_X4_frameOf x1 σ Post) : lf_Mr l yX4_frameOf (lf_ws yX4_frameOf cX4_frameOf 2 (some (.object "LightFrame$Frame"))) rm_X4_frameOf D (tyC_ cy) (wC_ ha cy) sz σ [.ref (ha 13), .int x1] (ha (22 + x1.toNatClampNeg)) Post := by
  refine lf_ofr (by decide +kernel) (Nat.le_of_ble_eq_true rfl) ?_
  intro p e s m args below meth c A ls F hh hl
  have hx := F.1.1
  have hb := F.1.2.1
  have hl : lv_has ls 2 [(0, .ref (ha 13)), (1, .int x1)] := hl
  obtain ⟨H, hHe⟩ : ∃ H, H = s.heap := ⟨_, rfl⟩
  rw [← hHe] at hh ⊢
  unfold wp_X4_frameOf at hw
  refine lv_aload_n hx hb dX4_frameOf_0 rfl (lv_at hl 0 rfl) ?_
  refine lf_callVv (rest := []) F hh (cw_X4_39 F.1.2.2.2.2 ⟨Nat.le_of_ble_eq_true rfl, Nat.le_of_ble_eq_true rfl⟩) (c_X4_run l D ha cy H.size σ  _ hw) 13 4 rfl rfl rfl rfl hl.1 (Nat.le_of_ble_eq_true rfl) dX4_frameOf_1 rfl (fun σ1 H locs hw hh => ?_)
  refine lv_aload_n hx hb dX4_frameOf_4 rfl (lv_at hl 0 rfl) ?_
  refine fg_X4_18 F hh dX4_frameOf_5 ?_
  refine lv_iload_n hx hb dX4_frameOf_8 rfl (lv_at hl 1 rfl) ?_
  obtain ⟨q2, hw⟩ := hw
  refine ra_C_frames F hh q2 dX4_frameOf_9 ?_
  exact lf_retr F hh hw dX4_frameOf_10
def L_X4_hasChoiceIn_2 (Post : Int32 → lf_St → Prop) : Nat → Int32 → Int32 → lf_St → Prop
  | 0, _, _, _ => False
  | n + 1, x1, x2, σ => (((lf_gi σ 5) ≤ x2) → (Post 0 σ)) ∧ ((¬ ((lf_gi σ 5) ≤ x2)) → (vp_in x2 210 ∧ (((¬ ((lf_ai σ 14 x2.toNatClampNeg) &&& (x1 ^^^ (-1))) = 0) → (∀ v4 : Int32, v4 = x2 + 1 → (L_X4_hasChoiceIn_2 Post n x1 v4 σ))) ∧ ((((lf_ai σ 14 x2.toNatClampNeg) &&& (x1 ^^^ (-1))) = 0) → (Post 1 σ)))))
def wp_X4_hasChoiceIn (x1 : Int32) (σ : lf_St) (Post : Int32 → lf_St → Prop) : Prop := ∃ fu : Nat, L_X4_hasChoiceIn_2 Post fu x1 0 σ
def rm_X4_hasChoiceIn : Room := ({ frames := 0, cells := 0, slots := 0, locals := 0 } : Room)
set_option maxHeartbeats 4000000 in
set_option maxRecDepth 100000 in
theorem w_X4_hasChoiceIn_2 {p : Program} {l : Launch} {e : Env} {s : State} {m : MethodId} {args : Array Value} {below : List Frame} {meth : Method} {c : Code} {D : va_G} {A : Nat → Prop} {ha : Nat → Nat} {cy : Nat → ClassId} (Post : Int32 → lf_St → Prop) (F : lf_C p s m args meth c RX4 cX4_hasChoiceIn 3 (some .boolean) D (tyC_ cy) A) : ∀ (n : Nat) (x1 : Int32) (x2 : Int32) (σ : lf_St) (H : Heap) (locs : List Loc) (ls : Array Slot), lf_H D (wC_ ha cy) A s σ H locs → lv_has ls 3 [(0, .ref (ha 13)), (1, .int x1), (2, .int x2)] → L_X4_hasChoiceIn_2 Post n x1 x2 σ → W p l e rm_X4_hasChoiceIn s m args below meth c H locs 0 0 (lf_Qi below args s D (tyC_ cy) A (wC_ ha cy) Post) (F0 m 2 ls []) := by
  have hx := F.1.1
  have hb := F.1.2.1
  intro n
  induction n with
  | zero =>
    intro x1 x2 σ H locs ls hh hl hw
    exact False.elim hw
  | succ n ih =>
    intro x1 x2 σ H locs ls hh hl hw
    unfold L_X4_hasChoiceIn_2 at hw
    refine lv_iload_n hx hb dX4_hasChoiceIn_2 rfl (lv_at hl 2 rfl) ?_
    refine lv_aload_n hx hb dX4_hasChoiceIn_3 rfl (lv_at hl 0 rfl) ?_
    refine fg_X4_46 F hh dX4_hasChoiceIn_4 ?_
    refine lv_icmp_ge (tgt := 31) hx hb dX4_hasChoiceIn_7 (by decide) (fun c1 => ?_) (fun c1 => ?_)
    · have hw := hw.1 c1
      refine lv_iconst (v := 0) hx hb dX4_hasChoiceIn_31 (by decide) ?_
      exact lf_retz F hh rfl hw dX4_hasChoiceIn_32
    · have hw := hw.2 c1
      refine lv_aload_n hx hb dX4_hasChoiceIn_10 rfl (lv_at hl 0 rfl) ?_
      refine fg_X4_22 F hh dX4_hasChoiceIn_11 ?_
      refine lv_iload_n hx hb dX4_hasChoiceIn_14 rfl (lv_at hl 2 rfl) ?_
      obtain ⟨q2, hw⟩ := hw
      refine ra_C_14 F hh q2 dX4_hasChoiceIn_15 ?_
      refine lv_iload_n hx hb dX4_hasChoiceIn_16 rfl (lv_at hl 1 rfl) ?_
      refine lv_iconst (v := (-1)) hx hb dX4_hasChoiceIn_17 (by decide) ?_
      refine lv_ixor hx hb dX4_hasChoiceIn_18 ?_
      refine lv_iand hx hb dX4_hasChoiceIn_19 ?_
      refine lv_if_ne (tgt := 25) hx hb dX4_hasChoiceIn_20 (by decide) (fun c3 => ?_) (fun c3 => ?_)
      · have hw := hw.1 c3
        obtain ⟨v4, ev4⟩ : ∃ y : Int32, y = x2 + 1 := ⟨_, rfl⟩
        have hw := hw v4 ev4
        refine lv_iinc (v := v4) (lv' := [(2, .int v4), (0, .ref (ha 13)), (1, .int x1)]) hx hb dX4_hasChoiceIn_25 hl (k := 2) rfl (by rw [ev4]; rfl) (by decide) rfl (fun ls hl => ?_)
        refine lv_goto (tgt := 2) hx hb dX4_hasChoiceIn_28 (by decide) ?_
        exact ih x1 v4 σ _ _ _ hh (lv_sub hl [1, 2, 0] rfl) hw
      · have hw := hw.2 c3
        refine lv_iconst (v := 1) hx hb dX4_hasChoiceIn_23 (by decide) ?_
        exact lf_retz F hh rfl hw dX4_hasChoiceIn_24
set_option maxHeartbeats 4000000 in
set_option maxRecDepth 100000 in
theorem c_X4_hasChoiceIn (l : Launch) (D : va_G) (ha : Nat → Nat) (cy : Nat → ClassId) (sz : Nat) (σ : lf_St) (x1 : Int32) (Post : Int32 → lf_St → Prop) (hw : wp_X4_hasChoiceIn x1 σ Post) : lf_Mi l yX4_hasChoiceIn (lf_ws yX4_hasChoiceIn cX4_hasChoiceIn 3 (some .boolean)) rm_X4_hasChoiceIn D (tyC_ cy) (wC_ ha cy) sz σ [.ref (ha 13), .int x1] Post := by
  refine lf_ofi (by decide +kernel) (Nat.le_of_ble_eq_true rfl) ?_
  intro p e s m args below meth c A ls F hh hl
  have hx := F.1.1
  have hb := F.1.2.1
  have hl : lv_has ls 3 [(0, .ref (ha 13)), (1, .int x1)] := hl
  obtain ⟨H, hHe⟩ : ∃ H, H = s.heap := ⟨_, rfl⟩
  rw [← hHe] at hh ⊢
  unfold wp_X4_hasChoiceIn at hw
  refine lv_iconst (v := 0) hx hb dX4_hasChoiceIn_0 (by decide) ?_
  refine lv_istore_n (lv' := [(2, .int 0), (0, .ref (ha 13)), (1, .int x1)]) hx hb dX4_hasChoiceIn_1 rfl hl (by decide) rfl (fun ls hl => ?_)
  obtain ⟨n2, hw⟩ := hw
  exact w_X4_hasChoiceIn_2 Post F  n2 x1 0 σ _ _ _ hh (lv_sub hl [1, 2, 0] rfl) hw
def wp_X5_forgetAnswers (σ : lf_St) (Post : lf_St → Prop) : Prop := Post (lf_si (lf_si σ 6 0) 8 0)
def rm_X5_forgetAnswers : Room := ({ frames := 0, cells := 0, slots := 0, locals := 0 } : Room)
set_option maxHeartbeats 4000000 in
set_option maxRecDepth 100000 in
theorem c_X5_forgetAnswers (l : Launch) (D : va_G) (ha : Nat → Nat) (cy : Nat → ClassId) (sz : Nat) (σ : lf_St) (Post : lf_St → Prop) (hw : wp_X5_forgetAnswers σ Post) : lf_Mv l yX5_forgetAnswers (lf_ws yX5_forgetAnswers cX5_forgetAnswers 1 none) rm_X5_forgetAnswers D (tyC_ cy) (wC_ ha cy) sz σ [.ref (ha 0)] Post := by
  refine lf_ofv (by decide +kernel) (Nat.le_of_ble_eq_true rfl) ?_
  intro p e s m args below meth c A ls F hh hl
  have hx := F.1.1
  have hb := F.1.2.1
  have hl : lv_has ls 1 [(0, .ref (ha 0))] := hl
  obtain ⟨H, hHe⟩ : ∃ H, H = s.heap := ⟨_, rfl⟩
  rw [← hHe] at hh ⊢
  unfold wp_X5_forgetAnswers at hw
  refine lv_aload_n hx hb dX5_forgetAnswers_0 rfl (lv_at hl 0 rfl) ?_
  refine fg_X5_21 F hh dX5_forgetAnswers_1 ?_
  refine lv_iconst (v := 0) hx hb dX5_forgetAnswers_4 (by decide) ?_
  refine fp_X5_190 F hh rfl dX5_forgetAnswers_5 (fun H locs hh => ?_)
  refine lv_aload_n hx hb dX5_forgetAnswers_8 rfl (lv_at hl 0 rfl) ?_
  refine fg_X5_30 F hh dX5_forgetAnswers_9 ?_
  refine lv_iconst (v := 0) hx hb dX5_forgetAnswers_12 (by decide) ?_
  refine fp_X5_173 F hh rfl dX5_forgetAnswers_13 (fun H locs hh => ?_)
  exact lf_retv F hh hw dX5_forgetAnswers_16
def wp_X5_isPlace (x0 : Int32) (σ : lf_St) (Post : Int32 → lf_St → Prop) : Prop := ((x0 < 0) → (Post 0 σ)) ∧ ((¬ (x0 < 0)) → (((6 < x0) → (Post 0 σ)) ∧ ((¬ (6 < x0)) → (Post 1 σ))))
def rm_X5_isPlace : Room := ({ frames := 0, cells := 0, slots := 0, locals := 0 } : Room)
set_option maxHeartbeats 4000000 in
set_option maxRecDepth 100000 in
theorem c_X5_isPlace (l : Launch) (D : va_G) (ha : Nat → Nat) (cy : Nat → ClassId) (sz : Nat) (σ : lf_St) (x0 : Int32) (Post : Int32 → lf_St → Prop) (hw : wp_X5_isPlace x0 σ Post) : lf_Mi l yX5_isPlace (lf_ws yX5_isPlace cX5_isPlace 1 (some .boolean)) rm_X5_isPlace D (tyC_ cy) (wC_ ha cy) sz σ [.int x0] Post := by
  refine lf_ofi (by decide +kernel) (Nat.le_of_ble_eq_true rfl) ?_
  intro p e s m args below meth c A ls F hh hl
  have hx := F.1.1
  have hb := F.1.2.1
  have hl : lv_has ls 1 [(0, .int x0)] := hl
  obtain ⟨H, hHe⟩ : ∃ H, H = s.heap := ⟨_, rfl⟩
  rw [← hHe] at hh ⊢
  unfold wp_X5_isPlace at hw
  refine lv_iload_n hx hb dX5_isPlace_0 rfl (lv_at hl 0 rfl) ?_
  refine lv_if_lt (tgt := 14) hx hb dX5_isPlace_1 (by decide) (fun c1 => ?_) (fun c1 => ?_)
  · have hw := hw.1 c1
    refine lv_iconst (v := 0) hx hb dX5_isPlace_14 (by decide) ?_
    exact lf_retz F hh rfl hw dX5_isPlace_15
  · have hw := hw.2 c1
    refine lv_iload_n hx hb dX5_isPlace_4 rfl (lv_at hl 0 rfl) ?_
    refine lv_bipush (v := 6) hx hb dX5_isPlace_5 (by decide) ?_
    refine lv_icmp_gt (tgt := 14) hx hb dX5_isPlace_7 (by decide) (fun c2 => ?_) (fun c2 => ?_)
    · have hw := hw.1 c2
      refine lv_iconst (v := 0) hx hb dX5_isPlace_14 (by decide) ?_
      exact lf_retz F hh rfl hw dX5_isPlace_15
    · have hw := hw.2 c2
      refine lv_iconst (v := 1) hx hb dX5_isPlace_10 (by decide) ?_
      refine lv_goto (tgt := 15) hx hb dX5_isPlace_11 (by decide) ?_
      exact lf_retz F hh rfl hw dX5_isPlace_15
theorem cw_X5_34 {R : Room} {s : State} {args : Array Value} (ht : ∀ w ∈ wsL_law, w.before args s = true) (hR : rm_X5_isPlace.frames + 1 ≤ R.frames ∧ 8 + (1 + 11) + rm_X5_isPlace.locals ≤ R.locals) : lf_cS R s args RX5 34 yX5_isPlace cX5_isPlace 1 (some .boolean) rm_X5_isPlace 1 :=
  lf_cS_of 1 ht (lr_5 _ (List.mem_of_getElem? (i := 10) rfl)) (lr_5 _ (List.mem_of_getElem? (i := 8) rfl)) (lr_5 _ (List.mem_of_getElem? (i := 9) rfl)) (lr_1 _ (List.mem_of_getElem? (i := 2) rfl)) rfl rfl (by decide +kernel) hR
theorem cw_X5_45 {R : Room} {s : State} {args : Array Value} (ht : ∀ w ∈ wsL_law, w.before args s = true) (hR : rm_X2_hasJointAt.frames + 1 ≤ R.frames ∧ 8 + (4 + 11) + rm_X2_hasJointAt.locals ≤ R.locals) : lf_cV R s args RX5 RX2 45 yX2_hasJointAt cX2_hasJointAt 4 (some .boolean) rm_X2_hasJointAt 2 :=
  lf_cV_of 2 ht (lr_5 _ (List.mem_of_getElem? (i := 14) rfl)) (lr_5 _ (List.mem_of_getElem? (i := 11) rfl)) (lr_5 _ (List.mem_of_getElem? (i := 12) rfl)) (lr_5 _ (List.mem_of_getElem? (i := 13) rfl)) (lr_1 _ (List.mem_of_getElem? (i := 14) rfl)) rfl rfl (by decide +kernel) hR
theorem cw_X5_49 {R : Room} {s : State} {args : Array Value} (ht : ∀ w ∈ wsL_law, w.before args s = true) (hR : rm_X5_forgetAnswers.frames + 1 ≤ R.frames ∧ 8 + (1 + 11) + rm_X5_forgetAnswers.locals ≤ R.locals) : lf_cV R s args RX5 RX5 49 yX5_forgetAnswers cX5_forgetAnswers 1 none rm_X5_forgetAnswers 0 :=
  lf_cV_of 0 ht (lr_5 _ (List.mem_of_getElem? (i := 19) rfl)) (lr_5 _ (List.mem_of_getElem? (i := 16) rfl)) (lr_5 _ (List.mem_of_getElem? (i := 17) rfl)) (lr_5 _ (List.mem_of_getElem? (i := 18) rfl)) (lr_1 _ (List.mem_of_getElem? (i := 2) rfl)) rfl rfl (by decide +kernel) hR
theorem cw_X5_52 {R : Room} {s : State} {args : Array Value} (ht : ∀ w ∈ wsL_law, w.before args s = true) (hR : rm_X2_addJoint.frames + 1 ≤ R.frames ∧ 8 + (5 + 11) + rm_X2_addJoint.locals ≤ R.locals) : lf_cV R s args RX5 RX2 52 yX2_addJoint cX2_addJoint 5 (some .int) rm_X2_addJoint 3 :=
  lf_cV_of 3 ht (lr_6 _ (List.mem_of_getElem? (i := 1) rfl)) (lr_5 _ (List.mem_of_getElem? (i := 22) rfl)) (lr_5 _ (List.mem_of_getElem? (i := 23) rfl)) (lr_6 _ (List.mem_of_getElem? (i := 0) rfl)) (lr_1 _ (List.mem_of_getElem? (i := 14) rfl)) rfl rfl (by decide +kernel) hR
def J_X5_joint_47 (Post : Int32 → lf_St → Prop) (x1 : Int32) (x2 : Int32) (x3 : Int32) (σ : lf_St) : Prop := wp_X2_hasJointAt x1 x2 σ (fun r1 σ1 => ((r1 = 0) → (wp_X5_forgetAnswers σ1 (fun σ3 => wp_X2_addJoint x1 x2 x3 σ3 (fun r4 σ4 => Post r4 σ4)))) ∧ ((¬ (r1 = 0)) → (Post (-5) σ1)))
def wp_X5_joint (x1 : Int32) (x2 : Int32) (x3 : Int32) (σ : lf_St) (Post : Int32 → lf_St → Prop) : Prop := wp_X5_isPlace x1 σ (fun r1 σ1 => ((r1 = 0) → (Post (-2) σ1)) ∧ ((¬ (r1 = 0)) → (wp_X5_isPlace x2 σ1 (fun r3 σ3 => ((¬ r3 = 0) → (((6 ≤ (lf_gi σ3 0)) → (Post (-4) σ3)) ∧ ((¬ (6 ≤ (lf_gi σ3 0))) → (((¬ x3 = 0) → (J_X5_joint_47 Post x1 x2 x3 σ3)) ∧ ((x3 = 0) → ((((lf_gi σ3 1) < 3) → (J_X5_joint_47 Post x1 x2 x3 σ3)) ∧ ((¬ ((lf_gi σ3 1) < 3)) → (Post (-4) σ3)))))))) ∧ ((r3 = 0) → (Post (-2) σ3))))))
def rm_X5_joint : Room := ({ frames := 2, cells := 0, slots := 0, locals := 44 } : Room)
set_option maxHeartbeats 4000000 in
set_option maxRecDepth 100000 in
theorem w_X5_joint_47 {p : Program} {l : Launch} {e : Env} {s : State} {m : MethodId} {args : Array Value} {below : List Frame} {meth : Method} {c : Code} {D : va_G} {A : Nat → Prop} {ha : Nat → Nat} {cy : Nat → ClassId} (Post : Int32 → lf_St → Prop) (F : lf_C p s m args meth c RX5 cX5_joint 4 (some .int) D (tyC_ cy) A) (x1 : Int32) (x2 : Int32) (x3 : Int32) (σ : lf_St) (H : Heap) (locs : List Loc) (ls : Array Slot) (hh : lf_H D (wC_ ha cy) A s σ H locs) (hl : lv_has ls 4 [(0, .ref (ha 0)), (1, .int x1), (2, .int x2), (3, .int x3)]) (hw : J_X5_joint_47 Post x1 x2 x3 σ) : W p l e rm_X5_joint s m args below meth c H locs 0 0 (lf_Qi below args s D (tyC_ cy) A (wC_ ha cy) Post) (F0 m 47 ls []) := by
  have hx := F.1.1
  have hb := F.1.2.1
  unfold J_X5_joint_47 at hw
  refine lv_aload_n hx hb dX5_joint_47 rfl (lv_at hl 0 rfl) ?_
  refine fg_X5_12 F hh dX5_joint_48 ?_
  refine lv_iload_n hx hb dX5_joint_51 rfl (lv_at hl 1 rfl) ?_
  refine lv_iload_n hx hb dX5_joint_52 rfl (lv_at hl 2 rfl) ?_
  refine lf_callVi (rest := []) F hh (cw_X5_45 F.1.2.2.2.2 ⟨Nat.le_of_ble_eq_true rfl, Nat.le_of_ble_eq_true rfl⟩) (c_X2_hasJointAt l D ha cy H.size σ x1 x2 _ hw) 1 2 rfl rfl rfl rfl hl.1 (Nat.le_of_ble_eq_true rfl) dX5_joint_53 rfl (fun r1 σ1 H locs hw hh => ?_)
  refine lv_if_eq (tgt := 62) hx hb dX5_joint_56 (by decide) (fun c2 => ?_) (fun c2 => ?_)
  · have hw := hw.1 c2
    refine lv_aload_n hx hb dX5_joint_62 rfl (lv_at hl 0 rfl) ?_
    refine lf_callVv (rest := []) F hh (cw_X5_49 F.1.2.2.2.2 ⟨Nat.le_of_ble_eq_true rfl, Nat.le_of_ble_eq_true rfl⟩) (c_X5_forgetAnswers l D ha cy H.size σ1  _ hw) 0 5 rfl rfl rfl rfl hl.1 (Nat.le_of_ble_eq_true rfl) dX5_joint_63 rfl (fun σ3 H locs hw hh => ?_)
    refine lv_aload_n hx hb dX5_joint_66 rfl (lv_at hl 0 rfl) ?_
    refine fg_X5_12 F hh dX5_joint_67 ?_
    refine lv_iload_n hx hb dX5_joint_70 rfl (lv_at hl 1 rfl) ?_
    refine lv_iload_n hx hb dX5_joint_71 rfl (lv_at hl 2 rfl) ?_
    refine lv_iload_n hx hb dX5_joint_72 rfl (lv_at hl 3 rfl) ?_
    refine lf_callVi (rest := []) F hh (cw_X5_52 F.1.2.2.2.2 ⟨Nat.le_of_ble_eq_true rfl, Nat.le_of_ble_eq_true rfl⟩) (c_X2_addJoint l D ha cy H.size σ3 x1 x2 x3 _ hw) 1 2 rfl rfl rfl rfl hl.1 (Nat.le_of_ble_eq_true rfl) dX5_joint_73 rfl (fun r4 σ4 H locs hw hh => ?_)
    exact lf_reti F hh hw dX5_joint_76
  · have hw := hw.2 c2
    refine lv_bipush (v := (-5)) hx hb dX5_joint_59 (by decide) ?_
    exact lf_reti F hh hw dX5_joint_61
set_option maxHeartbeats 4000000 in
set_option maxRecDepth 100000 in
theorem c_X5_joint (l : Launch) (D : va_G) (ha : Nat → Nat) (cy : Nat → ClassId) (sz : Nat) (σ : lf_St) (x1 : Int32) (x2 : Int32) (x3 : Int32) (Post : Int32 → lf_St → Prop) (hw : wp_X5_joint x1 x2 x3 σ Post) : lf_Mi l yX5_joint (lf_ws yX5_joint cX5_joint 4 (some .int)) rm_X5_joint D (tyC_ cy) (wC_ ha cy) sz σ [.ref (ha 0), .int x1, .int x2, .int x3] Post := by
  refine lf_ofi (by decide +kernel) (Nat.le_of_ble_eq_true rfl) ?_
  intro p e s m args below meth c A ls F hh hl
  have hx := F.1.1
  have hb := F.1.2.1
  have hl : lv_has ls 4 [(0, .ref (ha 0)), (1, .int x1), (2, .int x2), (3, .int x3)] := hl
  obtain ⟨H, hHe⟩ : ∃ H, H = s.heap := ⟨_, rfl⟩
  rw [← hHe] at hh ⊢
  unfold wp_X5_joint at hw
  refine lv_iload_n hx hb dX5_joint_0 rfl (lv_at hl 1 rfl) ?_
  refine lf_callSi (rest := []) F hh (cw_X5_34 F.1.2.2.2.2 ⟨Nat.le_of_ble_eq_true rfl, Nat.le_of_ble_eq_true rfl⟩) (c_X5_isPlace l D ha cy H.size σ x1 _ hw) rfl hl.1 (Nat.le_of_ble_eq_true rfl) dX5_joint_1 rfl (fun r1 σ1 H locs hw hh => ?_)
  refine lv_if_eq (tgt := 14) hx hb dX5_joint_4 (by decide) (fun c2 => ?_) (fun c2 => ?_)
  · have hw := hw.1 c2
    refine lv_bipush (v := (-2)) hx hb dX5_joint_14 (by decide) ?_
    exact lf_reti F hh hw dX5_joint_16
  · have hw := hw.2 c2
    refine lv_iload_n hx hb dX5_joint_7 rfl (lv_at hl 2 rfl) ?_
    refine lf_callSi (rest := []) F hh (cw_X5_34 F.1.2.2.2.2 ⟨Nat.le_of_ble_eq_true rfl, Nat.le_of_ble_eq_true rfl⟩) (c_X5_isPlace l D ha cy H.size σ1 x2 _ hw) rfl hl.1 (Nat.le_of_ble_eq_true rfl) dX5_joint_8 rfl (fun r3 σ3 H locs hw hh => ?_)
    refine lv_if_ne (tgt := 17) hx hb dX5_joint_11 (by decide) (fun c4 => ?_) (fun c4 => ?_)
    · have hw := hw.1 c4
      refine lv_aload_n hx hb dX5_joint_17 rfl (lv_at hl 0 rfl) ?_
      refine fg_X5_12 F hh dX5_joint_18 ?_
      refine fg_X5_38 F hh dX5_joint_21 ?_
      refine lv_bipush (v := 6) hx hb dX5_joint_24 (by decide) ?_
      refine lv_icmp_ge (tgt := 44) hx hb dX5_joint_26 (by decide) (fun c5 => ?_) (fun c5 => ?_)
      · have hw := hw.1 c5
        refine lv_bipush (v := (-4)) hx hb dX5_joint_44 (by decide) ?_
        exact lf_reti F hh hw dX5_joint_46
      · have hw := hw.2 c5
        refine lv_iload_n hx hb dX5_joint_29 rfl (lv_at hl 3 rfl) ?_
        refine lv_if_ne (tgt := 47) hx hb dX5_joint_30 (by decide) (fun c6 => ?_) (fun c6 => ?_)
        · have hw := hw.1 c6
          exact w_X5_joint_47 Post F  x1 x2 x3 σ3 _ _ _ hh (lv_sub hl [0, 1, 2, 3] rfl) hw
        · have hw := hw.2 c6
          refine lv_aload_n hx hb dX5_joint_33 rfl (lv_at hl 0 rfl) ?_
          refine fg_X5_12 F hh dX5_joint_34 ?_
          refine fg_X5_42 F hh dX5_joint_37 ?_
          refine lv_iconst (v := 3) hx hb dX5_joint_40 (by decide) ?_
          refine lv_icmp_lt (tgt := 47) hx hb dX5_joint_41 (by decide) (fun c7 => ?_) (fun c7 => ?_)
          · have hw := hw.1 c7
            exact w_X5_joint_47 Post F  x1 x2 x3 σ3 _ _ _ hh (lv_sub hl [0, 1, 2, 3] rfl) hw
          · have hw := hw.2 c7
            refine lv_bipush (v := (-4)) hx hb dX5_joint_44 (by decide) ?_
            exact lf_reti F hh hw dX5_joint_46
    · have hw := hw.2 c4
      refine lv_bipush (v := (-2)) hx hb dX5_joint_14 (by decide) ?_
      exact lf_reti F hh hw dX5_joint_16
theorem cw_X5_56 {R : Room} {s : State} {args : Array Value} (ht : ∀ w ∈ wsL_law, w.before args s = true) (hR : rm_X2_hasJoint.frames + 1 ≤ R.frames ∧ 8 + (2 + 11) + rm_X2_hasJoint.locals ≤ R.locals) : lf_cV R s args RX5 RX2 56 yX2_hasJoint cX2_hasJoint 2 (some .boolean) rm_X2_hasJoint 1 :=
  lf_cV_of 1 ht (lr_7 _ (List.mem_of_getElem? (i := 5) rfl)) (lr_7 _ (List.mem_of_getElem? (i := 2) rfl)) (lr_7 _ (List.mem_of_getElem? (i := 3) rfl)) (lr_7 _ (List.mem_of_getElem? (i := 4) rfl)) (lr_1 _ (List.mem_of_getElem? (i := 14) rfl)) rfl rfl (by decide +kernel) hR
theorem cw_X5_62 {R : Room} {s : State} {args : Array Value} (ht : ∀ w ∈ wsL_law, w.before args s = true) (hR : rm_X2_hasBarBetween.frames + 1 ≤ R.frames ∧ 8 + (4 + 11) + rm_X2_hasBarBetween.locals ≤ R.locals) : lf_cV R s args RX5 RX2 62 yX2_hasBarBetween cX2_hasBarBetween 4 (some .boolean) rm_X2_hasBarBetween 2 :=
  lf_cV_of 2 ht (lr_7 _ (List.mem_of_getElem? (i := 9) rfl)) (lr_7 _ (List.mem_of_getElem? (i := 6) rfl)) (lr_7 _ (List.mem_of_getElem? (i := 7) rfl)) (lr_7 _ (List.mem_of_getElem? (i := 8) rfl)) (lr_1 _ (List.mem_of_getElem? (i := 14) rfl)) rfl rfl (by decide +kernel) hR
theorem cw_X5_65 {R : Room} {s : State} {args : Array Value} (ht : ∀ w ∈ wsL_law, w.before args s = true) (hR : rm_X2_addBar.frames + 1 ≤ R.frames ∧ 8 + (5 + 11) + rm_X2_addBar.locals ≤ R.locals) : lf_cV R s args RX5 RX2 65 yX2_addBar cX2_addBar 5 (some .int) rm_X2_addBar 2 :=
  lf_cV_of 2 ht (lr_7 _ (List.mem_of_getElem? (i := 14) rfl)) (lr_7 _ (List.mem_of_getElem? (i := 11) rfl)) (lr_7 _ (List.mem_of_getElem? (i := 12) rfl)) (lr_7 _ (List.mem_of_getElem? (i := 13) rfl)) (lr_1 _ (List.mem_of_getElem? (i := 14) rfl)) rfl rfl (by decide +kernel) hR
def wp_X5_bar (x1 : Int32) (x2 : Int32) (σ : lf_St) (Post : Int32 → lf_St → Prop) : Prop := wp_X2_hasJoint x1 σ (fun r1 σ1 => ((r1 = 0) → (Post (-1) σ1)) ∧ ((¬ (r1 = 0)) → (wp_X2_hasJoint x2 σ1 (fun r3 σ3 => ((r3 = 0) → (Post (-1) σ3)) ∧ ((¬ (r3 = 0)) → (((¬ x1 = x2) → ((((lf_gi σ3 2) < 10) → (wp_X2_hasBarBetween x1 x2 σ3 (fun r7 σ7 => ((r7 = 0) → (wp_X5_forgetAnswers σ7 (fun σ9 => wp_X2_addBar x1 x2 σ9 (fun r10 σ10 => Post r10 σ10)))) ∧ ((¬ (r7 = 0)) → (Post (-5) σ7))))) ∧ ((¬ ((lf_gi σ3 2) < 10)) → (Post (-4) σ3)))) ∧ ((x1 = x2) → (Post (-1) σ3))))))))
def rm_X5_bar : Room := ({ frames := 5, cells := 0, slots := 0, locals := 120 } : Room)
set_option maxHeartbeats 4000000 in
set_option maxRecDepth 100000 in
theorem c_X5_bar (l : Launch) (D : va_G) (ha : Nat → Nat) (cy : Nat → ClassId) (sz : Nat) (σ : lf_St) (x1 : Int32) (x2 : Int32) (Post : Int32 → lf_St → Prop) (hw : wp_X5_bar x1 x2 σ Post) : lf_Mi l yX5_bar (lf_ws yX5_bar cX5_bar 3 (some .int)) rm_X5_bar D (tyC_ cy) (wC_ ha cy) sz σ [.ref (ha 0), .int x1, .int x2] Post := by
  refine lf_ofi (by decide +kernel) (Nat.le_of_ble_eq_true rfl) ?_
  intro p e s m args below meth c A ls F hh hl
  have hx := F.1.1
  have hb := F.1.2.1
  have hl : lv_has ls 3 [(0, .ref (ha 0)), (1, .int x1), (2, .int x2)] := hl
  obtain ⟨H, hHe⟩ : ∃ H, H = s.heap := ⟨_, rfl⟩
  rw [← hHe] at hh ⊢
  unfold wp_X5_bar at hw
  refine lv_aload_n hx hb dX5_bar_0 rfl (lv_at hl 0 rfl) ?_
  refine fg_X5_12 F hh dX5_bar_1 ?_
  refine lv_iload_n hx hb dX5_bar_4 rfl (lv_at hl 1 rfl) ?_
  refine lf_callVi (rest := []) F hh (cw_X5_56 F.1.2.2.2.2 ⟨Nat.le_of_ble_eq_true rfl, Nat.le_of_ble_eq_true rfl⟩) (c_X2_hasJoint l D ha cy H.size σ x1 _ hw) 1 2 rfl rfl rfl rfl hl.1 (Nat.le_of_ble_eq_true rfl) dX5_bar_5 rfl (fun r1 σ1 H locs hw hh => ?_)
  refine lv_if_eq (tgt := 27) hx hb dX5_bar_8 (by decide) (fun c2 => ?_) (fun c2 => ?_)
  · have hw := hw.1 c2
    refine lv_iconst (v := (-1)) hx hb dX5_bar_27 (by decide) ?_
    exact lf_reti F hh hw dX5_bar_28
  · have hw := hw.2 c2
    refine lv_aload_n hx hb dX5_bar_11 rfl (lv_at hl 0 rfl) ?_
    refine fg_X5_12 F hh dX5_bar_12 ?_
    refine lv_iload_n hx hb dX5_bar_15 rfl (lv_at hl 2 rfl) ?_
    refine lf_callVi (rest := []) F hh (cw_X5_56 F.1.2.2.2.2 ⟨Nat.le_of_ble_eq_true rfl, Nat.le_of_ble_eq_true rfl⟩) (c_X2_hasJoint l D ha cy H.size σ1 x2 _ hw) 1 2 rfl rfl rfl rfl hl.1 (Nat.le_of_ble_eq_true rfl) dX5_bar_16 rfl (fun r3 σ3 H locs hw hh => ?_)
    refine lv_if_eq (tgt := 27) hx hb dX5_bar_19 (by decide) (fun c4 => ?_) (fun c4 => ?_)
    · have hw := hw.1 c4
      refine lv_iconst (v := (-1)) hx hb dX5_bar_27 (by decide) ?_
      exact lf_reti F hh hw dX5_bar_28
    · have hw := hw.2 c4
      refine lv_iload_n hx hb dX5_bar_22 rfl (lv_at hl 1 rfl) ?_
      refine lv_iload_n hx hb dX5_bar_23 rfl (lv_at hl 2 rfl) ?_
      refine lv_icmp_ne (tgt := 29) hx hb dX5_bar_24 (by decide) (fun c5 => ?_) (fun c5 => ?_)
      · have hw := hw.1 c5
        refine lv_aload_n hx hb dX5_bar_29 rfl (lv_at hl 0 rfl) ?_
        refine fg_X5_12 F hh dX5_bar_30 ?_
        refine fg_X5_59 F hh dX5_bar_33 ?_
        refine lv_bipush (v := 10) hx hb dX5_bar_36 (by decide) ?_
        refine lv_icmp_lt (tgt := 44) hx hb dX5_bar_38 (by decide) (fun c6 => ?_) (fun c6 => ?_)
        · have hw := hw.1 c6
          refine lv_aload_n hx hb dX5_bar_44 rfl (lv_at hl 0 rfl) ?_
          refine fg_X5_12 F hh dX5_bar_45 ?_
          refine lv_iload_n hx hb dX5_bar_48 rfl (lv_at hl 1 rfl) ?_
          refine lv_iload_n hx hb dX5_bar_49 rfl (lv_at hl 2 rfl) ?_
          refine lf_callVi (rest := []) F hh (cw_X5_62 F.1.2.2.2.2 ⟨Nat.le_of_ble_eq_true rfl, Nat.le_of_ble_eq_true rfl⟩) (c_X2_hasBarBetween l D ha cy H.size σ3 x1 x2 _ hw) 1 2 rfl rfl rfl rfl hl.1 (Nat.le_of_ble_eq_true rfl) dX5_bar_50 rfl (fun r7 σ7 H locs hw hh => ?_)
          refine lv_if_eq (tgt := 59) hx hb dX5_bar_53 (by decide) (fun c8 => ?_) (fun c8 => ?_)
          · have hw := hw.1 c8
            refine lv_aload_n hx hb dX5_bar_59 rfl (lv_at hl 0 rfl) ?_
            refine lf_callVv (rest := []) F hh (cw_X5_49 F.1.2.2.2.2 ⟨Nat.le_of_ble_eq_true rfl, Nat.le_of_ble_eq_true rfl⟩) (c_X5_forgetAnswers l D ha cy H.size σ7  _ hw) 0 5 rfl rfl rfl rfl hl.1 (Nat.le_of_ble_eq_true rfl) dX5_bar_60 rfl (fun σ9 H locs hw hh => ?_)
            refine lv_aload_n hx hb dX5_bar_63 rfl (lv_at hl 0 rfl) ?_
            refine fg_X5_12 F hh dX5_bar_64 ?_
            refine lv_iload_n hx hb dX5_bar_67 rfl (lv_at hl 1 rfl) ?_
            refine lv_iload_n hx hb dX5_bar_68 rfl (lv_at hl 2 rfl) ?_
            refine lf_callVi (rest := []) F hh (cw_X5_65 F.1.2.2.2.2 ⟨Nat.le_of_ble_eq_true rfl, Nat.le_of_ble_eq_true rfl⟩) (c_X2_addBar l D ha cy H.size σ9 x1 x2 _ hw) 1 2 rfl rfl rfl rfl hl.1 (Nat.le_of_ble_eq_true rfl) dX5_bar_69 rfl (fun r10 σ10 H locs hw hh => ?_)
            exact lf_reti F hh hw dX5_bar_72
          · have hw := hw.2 c8
            refine lv_bipush (v := (-5)) hx hb dX5_bar_56 (by decide) ?_
            exact lf_reti F hh hw dX5_bar_58
        · have hw := hw.2 c6
          refine lv_bipush (v := (-4)) hx hb dX5_bar_41 (by decide) ?_
          exact lf_reti F hh hw dX5_bar_43
      · have hw := hw.2 c5
        refine lv_iconst (v := (-1)) hx hb dX5_bar_27 (by decide) ?_
        exact lf_reti F hh hw dX5_bar_28
def wp_X5_isLoad (x0 : Int32) (σ : lf_St) (Post : Int32 → lf_St → Prop) : Prop := ((x0 < (-20)) → (Post 0 σ)) ∧ ((¬ (x0 < (-20))) → (((20 < x0) → (Post 0 σ)) ∧ ((¬ (20 < x0)) → (Post 1 σ))))
def rm_X5_isLoad : Room := ({ frames := 0, cells := 0, slots := 0, locals := 0 } : Room)
set_option maxHeartbeats 4000000 in
set_option maxRecDepth 100000 in
theorem c_X5_isLoad (l : Launch) (D : va_G) (ha : Nat → Nat) (cy : Nat → ClassId) (sz : Nat) (σ : lf_St) (x0 : Int32) (Post : Int32 → lf_St → Prop) (hw : wp_X5_isLoad x0 σ Post) : lf_Mi l yX5_isLoad (lf_ws yX5_isLoad cX5_isLoad 1 (some .boolean)) rm_X5_isLoad D (tyC_ cy) (wC_ ha cy) sz σ [.int x0] Post := by
  refine lf_ofi (by decide +kernel) (Nat.le_of_ble_eq_true rfl) ?_
  intro p e s m args below meth c A ls F hh hl
  have hx := F.1.1
  have hb := F.1.2.1
  have hl : lv_has ls 1 [(0, .int x0)] := hl
  obtain ⟨H, hHe⟩ : ∃ H, H = s.heap := ⟨_, rfl⟩
  rw [← hHe] at hh ⊢
  unfold wp_X5_isLoad at hw
  refine lv_iload_n hx hb dX5_isLoad_0 rfl (lv_at hl 0 rfl) ?_
  refine lv_bipush (v := (-20)) hx hb dX5_isLoad_1 (by decide) ?_
  refine lv_icmp_lt (tgt := 16) hx hb dX5_isLoad_3 (by decide) (fun c1 => ?_) (fun c1 => ?_)
  · have hw := hw.1 c1
    refine lv_iconst (v := 0) hx hb dX5_isLoad_16 (by decide) ?_
    exact lf_retz F hh rfl hw dX5_isLoad_17
  · have hw := hw.2 c1
    refine lv_iload_n hx hb dX5_isLoad_6 rfl (lv_at hl 0 rfl) ?_
    refine lv_bipush (v := 20) hx hb dX5_isLoad_7 (by decide) ?_
    refine lv_icmp_gt (tgt := 16) hx hb dX5_isLoad_9 (by decide) (fun c2 => ?_) (fun c2 => ?_)
    · have hw := hw.1 c2
      refine lv_iconst (v := 0) hx hb dX5_isLoad_16 (by decide) ?_
      exact lf_retz F hh rfl hw dX5_isLoad_17
    · have hw := hw.2 c2
      refine lv_iconst (v := 1) hx hb dX5_isLoad_12 (by decide) ?_
      refine lv_goto (tgt := 17) hx hb dX5_isLoad_13 (by decide) ?_
      exact lf_retz F hh rfl hw dX5_isLoad_17
theorem cw_X5_69 {R : Room} {s : State} {args : Array Value} (ht : ∀ w ∈ wsL_law, w.before args s = true) (hR : rm_X5_isLoad.frames + 1 ≤ R.frames ∧ 8 + (1 + 11) + rm_X5_isLoad.locals ≤ R.locals) : lf_cS R s args RX5 69 yX5_isLoad cX5_isLoad 1 (some .boolean) rm_X5_isLoad 1 :=
  lf_cS_of 1 ht (lr_9 _ (List.mem_of_getElem? (i := 11) rfl)) (lr_9 _ (List.mem_of_getElem? (i := 9) rfl)) (lr_9 _ (List.mem_of_getElem? (i := 10) rfl)) (lr_1 _ (List.mem_of_getElem? (i := 2) rfl)) rfl rfl (by decide +kernel) hR
def wp_X5_load (x1 : Int32) (x2 : Int32) (x3 : Int32) (σ : lf_St) (Post : Int32 → lf_St → Prop) : Prop := wp_X2_hasJoint x1 σ (fun r1 σ1 => ((¬ r1 = 0) → (wp_X5_isLoad x2 σ1 (fun r3 σ3 => ((r3 = 0) → (Post (-2) σ3)) ∧ ((¬ (r3 = 0)) → (wp_X5_isLoad x3 σ3 (fun r5 σ5 => ((¬ r5 = 0) → (vp_in x1 6 ∧ (∀ v8 : Int32, v8 = (lf_ai σ5 4 x1.toNatClampNeg) → (((¬ v8 = (-1)) → (wp_X5_forgetAnswers σ5 (fun σ10 => vp_in v8 6 ∧ (vp_in (v8 + 1) 6 ∧ (Post 1 (lf_sa (lf_sa σ10 5 v8.toNatClampNeg x2) 5 ((v8 + 1) : Int32).toNatClampNeg x3)))))) ∧ ((v8 = (-1)) → (Post (-5) σ5)))))) ∧ ((r5 = 0) → (Post (-2) σ5)))))))) ∧ ((r1 = 0) → (Post (-1) σ1)))
def rm_X5_load : Room := ({ frames := 1, cells := 0, slots := 0, locals := 21 } : Room)
set_option maxHeartbeats 4000000 in
set_option maxRecDepth 100000 in
theorem c_X5_load (l : Launch) (D : va_G) (ha : Nat → Nat) (cy : Nat → ClassId) (sz : Nat) (σ : lf_St) (x1 : Int32) (x2 : Int32) (x3 : Int32) (Post : Int32 → lf_St → Prop) (hw : wp_X5_load x1 x2 x3 σ Post) : lf_Mi l yX5_load (lf_ws yX5_load cX5_load 5 (some .int)) rm_X5_load D (tyC_ cy) (wC_ ha cy) sz σ [.ref (ha 0), .int x1, .int x2, .int x3] Post := by
  refine lf_ofi (by decide +kernel) (Nat.le_of_ble_eq_true rfl) ?_
  intro p e s m args below meth c A ls F hh hl
  have hx := F.1.1
  have hb := F.1.2.1
  have hl : lv_has ls 5 [(0, .ref (ha 0)), (1, .int x1), (2, .int x2), (3, .int x3)] := hl
  obtain ⟨H, hHe⟩ : ∃ H, H = s.heap := ⟨_, rfl⟩
  rw [← hHe] at hh ⊢
  unfold wp_X5_load at hw
  refine lv_aload_n hx hb dX5_load_0 rfl (lv_at hl 0 rfl) ?_
  refine fg_X5_12 F hh dX5_load_1 ?_
  refine lv_iload_n hx hb dX5_load_4 rfl (lv_at hl 1 rfl) ?_
  refine lf_callVi (rest := []) F hh (cw_X5_56 F.1.2.2.2.2 ⟨Nat.le_of_ble_eq_true rfl, Nat.le_of_ble_eq_true rfl⟩) (c_X2_hasJoint l D ha cy H.size σ x1 _ hw) 1 2 rfl rfl rfl rfl hl.1 (Nat.le_of_ble_eq_true rfl) dX5_load_5 rfl (fun r1 σ1 H locs hw hh => ?_)
  refine lv_if_ne (tgt := 13) hx hb dX5_load_8 (by decide) (fun c2 => ?_) (fun c2 => ?_)
  · have hw := hw.1 c2
    refine lv_iload_n hx hb dX5_load_13 rfl (lv_at hl 2 rfl) ?_
    refine lf_callSi (rest := []) F hh (cw_X5_69 F.1.2.2.2.2 ⟨Nat.le_of_ble_eq_true rfl, Nat.le_of_ble_eq_true rfl⟩) (c_X5_isLoad l D ha cy H.size σ1 x2 _ hw) rfl hl.1 (Nat.le_of_ble_eq_true rfl) dX5_load_14 rfl (fun r3 σ3 H locs hw hh => ?_)
    refine lv_if_eq (tgt := 27) hx hb dX5_load_17 (by decide) (fun c4 => ?_) (fun c4 => ?_)
    · have hw := hw.1 c4
      refine lv_bipush (v := (-2)) hx hb dX5_load_27 (by decide) ?_
      exact lf_reti F hh hw dX5_load_29
    · have hw := hw.2 c4
      refine lv_iload_n hx hb dX5_load_20 rfl (lv_at hl 3 rfl) ?_
      refine lf_callSi (rest := []) F hh (cw_X5_69 F.1.2.2.2.2 ⟨Nat.le_of_ble_eq_true rfl, Nat.le_of_ble_eq_true rfl⟩) (c_X5_isLoad l D ha cy H.size σ3 x3 _ hw) rfl hl.1 (Nat.le_of_ble_eq_true rfl) dX5_load_21 rfl (fun r5 σ5 H locs hw hh => ?_)
      refine lv_if_ne (tgt := 30) hx hb dX5_load_24 (by decide) (fun c6 => ?_) (fun c6 => ?_)
      · have hw := hw.1 c6
        refine lv_aload_n hx hb dX5_load_30 rfl (lv_at hl 0 rfl) ?_
        refine fg_X5_12 F hh dX5_load_31 ?_
        refine fg_X5_72 F hh dX5_load_34 ?_
        refine lv_iload_n hx hb dX5_load_37 rfl (lv_at hl 1 rfl) ?_
        obtain ⟨q7, hw⟩ := hw
        refine ra_C_4 F hh q7 dX5_load_38 ?_
        refine lv_topi (fun v8 ev8 => ?_)
        have hw := hw v8 ev8
        refine lv_istore (lv' := [(4, .int v8), (0, .ref (ha 0)), (1, .int x1), (2, .int x2), (3, .int x3)]) hx hb dX5_load_39 hl (by decide) rfl (fun ls hl => ?_)
        refine lv_iload hx hb dX5_load_41 (lv_at hl 0 rfl) ?_
        refine lv_iconst (v := (-1)) hx hb dX5_load_43 (by decide) ?_
        refine lv_icmp_ne (tgt := 50) hx hb dX5_load_44 (by decide) (fun c9 => ?_) (fun c9 => ?_)
        · have hw := hw.1 c9
          refine lv_aload_n hx hb dX5_load_50 rfl (lv_at hl 1 rfl) ?_
          refine lf_callVv (rest := []) F hh (cw_X5_49 F.1.2.2.2.2 ⟨Nat.le_of_ble_eq_true rfl, Nat.le_of_ble_eq_true rfl⟩) (c_X5_forgetAnswers l D ha cy H.size σ5  _ hw) 0 5 rfl rfl rfl rfl hl.1 (Nat.le_of_ble_eq_true rfl) dX5_load_51 rfl (fun σ10 H locs hw hh => ?_)
          refine lv_aload_n hx hb dX5_load_54 rfl (lv_at hl 1 rfl) ?_
          refine fg_X5_12 F hh dX5_load_55 ?_
          refine fg_X5_76 F hh dX5_load_58 ?_
          refine lv_iload hx hb dX5_load_61 (lv_at hl 0 rfl) ?_
          refine lv_iload_n hx hb dX5_load_63 rfl (lv_at hl 3 rfl) ?_
          obtain ⟨q11, hw⟩ := hw
          refine wa_C_5 F hh q11 dX5_load_64 (fun H locs hh => ?_)
          refine lv_aload_n hx hb dX5_load_65 rfl (lv_at hl 1 rfl) ?_
          refine fg_X5_12 F hh dX5_load_66 ?_
          refine fg_X5_76 F hh dX5_load_69 ?_
          refine lv_iload hx hb dX5_load_72 (lv_at hl 0 rfl) ?_
          refine lv_iconst (v := 1) hx hb dX5_load_74 (by decide) ?_
          refine lv_iadd hx hb dX5_load_75 ?_
          refine lv_iload_n hx hb dX5_load_76 rfl (lv_at hl 4 rfl) ?_
          obtain ⟨q12, hw⟩ := hw
          refine wa_C_5 F hh q12 dX5_load_77 (fun H locs hh => ?_)
          refine lv_iconst (v := 1) hx hb dX5_load_78 (by decide) ?_
          exact lf_reti F hh hw dX5_load_79
        · have hw := hw.2 c9
          refine lv_bipush (v := (-5)) hx hb dX5_load_47 (by decide) ?_
          exact lf_reti F hh hw dX5_load_49
      · have hw := hw.2 c6
        refine lv_bipush (v := (-2)) hx hb dX5_load_27 (by decide) ?_
        exact lf_reti F hh hw dX5_load_29
  · have hw := hw.2 c2
    refine lv_iconst (v := (-1)) hx hb dX5_load_11 (by decide) ?_
    exact lf_reti F hh hw dX5_load_12
def wp_X5_about (x1 : Int32) (x2 : Int32) (σ : lf_St) (Post : Int32 → lf_St → Prop) : Prop := wp_X2_hasJoint x1 σ (fun r1 σ1 => ((¬ r1 = 0) → (vp_in x1 6 ∧ (∀ v4 : Int32, v4 = (lf_ai σ1 4 x1.toNatClampNeg) → (((x2 = 0) → (vp_in x1 6 ∧ (Post (lf_ai σ1 2 x1.toNatClampNeg) σ1))) ∧ (¬ (x2 = 0) → (((x2 = 1) → (vp_in x1 6 ∧ (Post (lf_ai σ1 3 x1.toNatClampNeg) σ1))) ∧ (¬ (x2 = 1) → (((x2 = 2) → (((¬ v4 = (-1)) → (Post 0 σ1)) ∧ ((v4 = (-1)) → (Post 1 σ1)))) ∧ (¬ (x2 = 2) → (((x2 = 3) → (((¬ v4 = (-1)) → (vp_in v4 6 ∧ (Post (lf_ai σ1 5 v4.toNatClampNeg) σ1))) ∧ ((v4 = (-1)) → (Post 0 σ1)))) ∧ (¬ (x2 = 3) → (((x2 = 4) → (((¬ v4 = (-1)) → (vp_in (v4 + 1) 6 ∧ (Post (lf_ai σ1 5 ((v4 + 1) : Int32).toNatClampNeg) σ1))) ∧ ((v4 = (-1)) → (Post 0 σ1)))) ∧ (¬ (x2 = 4) → (Post (-102) σ1)))))))))))))) ∧ ((r1 = 0) → (Post (-101) σ1)))
def rm_X5_about : Room := ({ frames := 1, cells := 0, slots := 0, locals := 21 } : Room)
set_option maxHeartbeats 4000000 in
set_option maxRecDepth 100000 in
theorem c_X5_about (l : Launch) (D : va_G) (ha : Nat → Nat) (cy : Nat → ClassId) (sz : Nat) (σ : lf_St) (x1 : Int32) (x2 : Int32) (Post : Int32 → lf_St → Prop) (hw : wp_X5_about x1 x2 σ Post) : lf_Mi l yX5_about (lf_ws yX5_about cX5_about 4 (some .int)) rm_X5_about D (tyC_ cy) (wC_ ha cy) sz σ [.ref (ha 0), .int x1, .int x2] Post := by
  refine lf_ofi (by decide +kernel) (Nat.le_of_ble_eq_true rfl) ?_
  intro p e s m args below meth c A ls F hh hl
  have hx := F.1.1
  have hb := F.1.2.1
  have hl : lv_has ls 4 [(0, .ref (ha 0)), (1, .int x1), (2, .int x2)] := hl
  obtain ⟨H, hHe⟩ : ∃ H, H = s.heap := ⟨_, rfl⟩
  rw [← hHe] at hh ⊢
  unfold wp_X5_about at hw
  refine lv_aload_n hx hb dX5_about_0 rfl (lv_at hl 0 rfl) ?_
  refine fg_X5_12 F hh dX5_about_1 ?_
  refine lv_iload_n hx hb dX5_about_4 rfl (lv_at hl 1 rfl) ?_
  refine lf_callVi (rest := []) F hh (cw_X5_56 F.1.2.2.2.2 ⟨Nat.le_of_ble_eq_true rfl, Nat.le_of_ble_eq_true rfl⟩) (c_X2_hasJoint l D ha cy H.size σ x1 _ hw) 1 2 rfl rfl rfl rfl hl.1 (Nat.le_of_ble_eq_true rfl) dX5_about_5 rfl (fun r1 σ1 H locs hw hh => ?_)
  refine lv_if_ne (tgt := 14) hx hb dX5_about_8 (by decide) (fun c2 => ?_) (fun c2 => ?_)
  · have hw := hw.1 c2
    refine lv_aload_n hx hb dX5_about_14 rfl (lv_at hl 0 rfl) ?_
    refine fg_X5_12 F hh dX5_about_15 ?_
    refine fg_X5_72 F hh dX5_about_18 ?_
    refine lv_iload_n hx hb dX5_about_21 rfl (lv_at hl 1 rfl) ?_
    obtain ⟨q3, hw⟩ := hw
    refine ra_C_4 F hh q3 dX5_about_22 ?_
    refine lv_topi (fun v4 ev4 => ?_)
    have hw := hw v4 ev4
    refine lv_istore_n (lv' := [(3, .int v4), (0, .ref (ha 0)), (1, .int x1), (2, .int x2)]) hx hb dX5_about_23 rfl hl (by decide) rfl (fun ls hl => ?_)
    refine lv_iload_n hx hb dX5_about_24 rfl (lv_at hl 3 rfl) ?_
    by_cases c5 : x2 = 0
    · have hw := hw.1 c5
      refine lv_tableIn (tgt := 60) hx hb dX5_about_25 (by rw [c5]; decide) (by rw [c5]; decide) (by rw [c5]; rfl) (by decide) ?_
      refine lv_aload_n hx hb dX5_about_60 rfl (lv_at hl 1 rfl) ?_
      refine fg_X5_12 F hh dX5_about_61 ?_
      refine fg_X5_79 F hh dX5_about_64 ?_
      refine lv_iload_n hx hb dX5_about_67 rfl (lv_at hl 2 rfl) ?_
      obtain ⟨q6, hw⟩ := hw
      refine ra_C_2 F hh q6 dX5_about_68 ?_
      exact lf_reti F hh hw dX5_about_69
    · have hw := hw.2 c5
      by_cases c7 : x2 = 1
      · have hw := hw.1 c7
        refine lv_tableIn (tgt := 70) hx hb dX5_about_25 (by rw [c7]; decide) (by rw [c7]; decide) (by rw [c7]; rfl) (by decide) ?_
        refine lv_aload_n hx hb dX5_about_70 rfl (lv_at hl 1 rfl) ?_
        refine fg_X5_12 F hh dX5_about_71 ?_
        refine fg_X5_82 F hh dX5_about_74 ?_
        refine lv_iload_n hx hb dX5_about_77 rfl (lv_at hl 2 rfl) ?_
        obtain ⟨q8, hw⟩ := hw
        refine ra_C_3 F hh q8 dX5_about_78 ?_
        exact lf_reti F hh hw dX5_about_79
      · have hw := hw.2 c7
        by_cases c9 : x2 = 2
        · have hw := hw.1 c9
          refine lv_tableIn (tgt := 80) hx hb dX5_about_25 (by rw [c9]; decide) (by rw [c9]; decide) (by rw [c9]; rfl) (by decide) ?_
          refine lv_iload_n hx hb dX5_about_80 rfl (lv_at hl 0 rfl) ?_
          refine lv_iconst (v := (-1)) hx hb dX5_about_81 (by decide) ?_
          refine lv_icmp_ne (tgt := 89) hx hb dX5_about_82 (by decide) (fun c10 => ?_) (fun c10 => ?_)
          · have hw := hw.1 c10
            refine lv_iconst (v := 0) hx hb dX5_about_89 (by decide) ?_
            exact lf_reti F hh hw dX5_about_90
          · have hw := hw.2 c10
            refine lv_iconst (v := 1) hx hb dX5_about_85 (by decide) ?_
            refine lv_goto (tgt := 90) hx hb dX5_about_86 (by decide) ?_
            exact lf_reti F hh hw dX5_about_90
        · have hw := hw.2 c9
          by_cases c11 : x2 = 3
          · have hw := hw.1 c11
            refine lv_tableIn (tgt := 91) hx hb dX5_about_25 (by rw [c11]; decide) (by rw [c11]; decide) (by rw [c11]; rfl) (by decide) ?_
            refine lv_iload_n hx hb dX5_about_91 rfl (lv_at hl 0 rfl) ?_
            refine lv_iconst (v := (-1)) hx hb dX5_about_92 (by decide) ?_
            refine lv_icmp_ne (tgt := 100) hx hb dX5_about_93 (by decide) (fun c12 => ?_) (fun c12 => ?_)
            · have hw := hw.1 c12
              refine lv_aload_n hx hb dX5_about_100 rfl (lv_at hl 1 rfl) ?_
              refine fg_X5_12 F hh dX5_about_101 ?_
              refine fg_X5_76 F hh dX5_about_104 ?_
              refine lv_iload_n hx hb dX5_about_107 rfl (lv_at hl 0 rfl) ?_
              obtain ⟨q13, hw⟩ := hw
              refine ra_C_5 F hh q13 dX5_about_108 ?_
              exact lf_reti F hh hw dX5_about_109
            · have hw := hw.2 c12
              refine lv_iconst (v := 0) hx hb dX5_about_96 (by decide) ?_
              refine lv_goto (tgt := 109) hx hb dX5_about_97 (by decide) ?_
              exact lf_reti F hh hw dX5_about_109
          · have hw := hw.2 c11
            by_cases c14 : x2 = 4
            · have hw := hw.1 c14
              refine lv_tableIn (tgt := 110) hx hb dX5_about_25 (by rw [c14]; decide) (by rw [c14]; decide) (by rw [c14]; rfl) (by decide) ?_
              refine lv_iload_n hx hb dX5_about_110 rfl (lv_at hl 0 rfl) ?_
              refine lv_iconst (v := (-1)) hx hb dX5_about_111 (by decide) ?_
              refine lv_icmp_ne (tgt := 119) hx hb dX5_about_112 (by decide) (fun c15 => ?_) (fun c15 => ?_)
              · have hw := hw.1 c15
                refine lv_aload_n hx hb dX5_about_119 rfl (lv_at hl 1 rfl) ?_
                refine fg_X5_12 F hh dX5_about_120 ?_
                refine fg_X5_76 F hh dX5_about_123 ?_
                refine lv_iload_n hx hb dX5_about_126 rfl (lv_at hl 0 rfl) ?_
                refine lv_iconst (v := 1) hx hb dX5_about_127 (by decide) ?_
                refine lv_iadd hx hb dX5_about_128 ?_
                obtain ⟨q16, hw⟩ := hw
                refine ra_C_5 F hh q16 dX5_about_129 ?_
                exact lf_reti F hh hw dX5_about_130
              · have hw := hw.2 c15
                refine lv_iconst (v := 0) hx hb dX5_about_115 (by decide) ?_
                refine lv_goto (tgt := 130) hx hb dX5_about_116 (by decide) ?_
                exact lf_reti F hh hw dX5_about_130
            · have hw := hw.2 c14
              refine lv_tableOut (tgt := 131) hx hb dX5_about_25 (lf_sw_0_4 c5 c7 c9 c11 c14) (by decide) ?_
              refine lv_bipush (v := (-102)) hx hb dX5_about_131 (by decide) ?_
              exact lf_reti F hh hw dX5_about_133
  · have hw := hw.2 c2
    refine lv_bipush (v := (-101)) hx hb dX5_about_11 (by decide) ?_
    exact lf_reti F hh hw dX5_about_13
theorem cw_X5_85 {R : Room} {s : State} {args : Array Value} (ht : ∀ w ∈ wsL_law, w.before args s = true) (hR : rm_X2_hasBar.frames + 1 ≤ R.frames ∧ 8 + (2 + 11) + rm_X2_hasBar.locals ≤ R.locals) : lf_cV R s args RX5 RX2 85 yX2_hasBar cX2_hasBar 2 (some .boolean) rm_X2_hasBar 1 :=
  lf_cV_of 1 ht (lr_10 _ (List.mem_of_getElem? (i := 14) rfl)) (lr_10 _ (List.mem_of_getElem? (i := 11) rfl)) (lr_10 _ (List.mem_of_getElem? (i := 12) rfl)) (lr_10 _ (List.mem_of_getElem? (i := 13) rfl)) (lr_1 _ (List.mem_of_getElem? (i := 14) rfl)) rfl rfl (by decide +kernel) hR
def wp_X5_ofBar (x1 : Int32) (x2 : Int32) (σ : lf_St) (Post : Int32 → lf_St → Prop) : Prop := wp_X2_hasBar x1 σ (fun r1 σ1 => ((¬ r1 = 0) → (((x2 = 0) → (vp_in x1 10 ∧ (Post (lf_ai σ1 6 x1.toNatClampNeg) σ1))) ∧ (¬ (x2 = 0) → (((x2 = 1) → (vp_in x1 10 ∧ (Post (lf_ai σ1 7 x1.toNatClampNeg) σ1))) ∧ (¬ (x2 = 1) → (((x2 = 2) → (vp_in x1 10 ∧ (Post (lf_ai σ1 10 x1.toNatClampNeg) σ1))) ∧ (¬ (x2 = 2) → (Post (-2) σ1)))))))) ∧ ((r1 = 0) → (Post (-1) σ1)))
def rm_X5_ofBar : Room := ({ frames := 1, cells := 0, slots := 0, locals := 21 } : Room)
set_option maxHeartbeats 4000000 in
set_option maxRecDepth 100000 in
theorem c_X5_ofBar (l : Launch) (D : va_G) (ha : Nat → Nat) (cy : Nat → ClassId) (sz : Nat) (σ : lf_St) (x1 : Int32) (x2 : Int32) (Post : Int32 → lf_St → Prop) (hw : wp_X5_ofBar x1 x2 σ Post) : lf_Mi l yX5_ofBar (lf_ws yX5_ofBar cX5_ofBar 3 (some .int)) rm_X5_ofBar D (tyC_ cy) (wC_ ha cy) sz σ [.ref (ha 0), .int x1, .int x2] Post := by
  refine lf_ofi (by decide +kernel) (Nat.le_of_ble_eq_true rfl) ?_
  intro p e s m args below meth c A ls F hh hl
  have hx := F.1.1
  have hb := F.1.2.1
  have hl : lv_has ls 3 [(0, .ref (ha 0)), (1, .int x1), (2, .int x2)] := hl
  obtain ⟨H, hHe⟩ : ∃ H, H = s.heap := ⟨_, rfl⟩
  rw [← hHe] at hh ⊢
  unfold wp_X5_ofBar at hw
  refine lv_aload_n hx hb dX5_ofBar_0 rfl (lv_at hl 0 rfl) ?_
  refine fg_X5_12 F hh dX5_ofBar_1 ?_
  refine lv_iload_n hx hb dX5_ofBar_4 rfl (lv_at hl 1 rfl) ?_
  refine lf_callVi (rest := []) F hh (cw_X5_85 F.1.2.2.2.2 ⟨Nat.le_of_ble_eq_true rfl, Nat.le_of_ble_eq_true rfl⟩) (c_X2_hasBar l D ha cy H.size σ x1 _ hw) 1 2 rfl rfl rfl rfl hl.1 (Nat.le_of_ble_eq_true rfl) dX5_ofBar_5 rfl (fun r1 σ1 H locs hw hh => ?_)
  refine lv_if_ne (tgt := 13) hx hb dX5_ofBar_8 (by decide) (fun c2 => ?_) (fun c2 => ?_)
  · have hw := hw.1 c2
    refine lv_iload_n hx hb dX5_ofBar_13 rfl (lv_at hl 2 rfl) ?_
    by_cases c3 : x2 = 0
    · have hw := hw.1 c3
      refine lv_tableIn (tgt := 40) hx hb dX5_ofBar_14 (by rw [c3]; decide) (by rw [c3]; decide) (by rw [c3]; rfl) (by decide) ?_
      refine lv_aload_n hx hb dX5_ofBar_40 rfl (lv_at hl 0 rfl) ?_
      refine fg_X5_12 F hh dX5_ofBar_41 ?_
      refine fg_X5_88 F hh dX5_ofBar_44 ?_
      refine lv_iload_n hx hb dX5_ofBar_47 rfl (lv_at hl 1 rfl) ?_
      obtain ⟨q4, hw⟩ := hw
      refine ra_C_6 F hh q4 dX5_ofBar_48 ?_
      exact lf_reti F hh hw dX5_ofBar_49
    · have hw := hw.2 c3
      by_cases c5 : x2 = 1
      · have hw := hw.1 c5
        refine lv_tableIn (tgt := 50) hx hb dX5_ofBar_14 (by rw [c5]; decide) (by rw [c5]; decide) (by rw [c5]; rfl) (by decide) ?_
        refine lv_aload_n hx hb dX5_ofBar_50 rfl (lv_at hl 0 rfl) ?_
        refine fg_X5_12 F hh dX5_ofBar_51 ?_
        refine fg_X5_91 F hh dX5_ofBar_54 ?_
        refine lv_iload_n hx hb dX5_ofBar_57 rfl (lv_at hl 1 rfl) ?_
        obtain ⟨q6, hw⟩ := hw
        refine ra_C_7 F hh q6 dX5_ofBar_58 ?_
        exact lf_reti F hh hw dX5_ofBar_59
      · have hw := hw.2 c5
        by_cases c7 : x2 = 2
        · have hw := hw.1 c7
          refine lv_tableIn (tgt := 60) hx hb dX5_ofBar_14 (by rw [c7]; decide) (by rw [c7]; decide) (by rw [c7]; rfl) (by decide) ?_
          refine lv_aload_n hx hb dX5_ofBar_60 rfl (lv_at hl 0 rfl) ?_
          refine fg_X5_12 F hh dX5_ofBar_61 ?_
          refine fg_X5_94 F hh dX5_ofBar_64 ?_
          refine lv_iload_n hx hb dX5_ofBar_67 rfl (lv_at hl 1 rfl) ?_
          obtain ⟨q8, hw⟩ := hw
          refine ra_C_10 F hh q8 dX5_ofBar_68 ?_
          exact lf_reti F hh hw dX5_ofBar_69
        · have hw := hw.2 c7
          refine lv_tableOut (tgt := 70) hx hb dX5_ofBar_14 (lf_sw_0_2 c3 c5 c7) (by decide) ?_
          refine lv_bipush (v := (-2)) hx hb dX5_ofBar_70 (by decide) ?_
          exact lf_reti F hh hw dX5_ofBar_72
  · have hw := hw.2 c2
    refine lv_iconst (v := (-1)) hx hb dX5_ofBar_11 (by decide) ?_
    exact lf_reti F hh hw dX5_ofBar_12
theorem cw_X5_100 {R : Room} {s : State} {args : Array Value} (ht : ∀ w ∈ wsL_law, w.before args s = true) (hR : rm_X2_hasSize.frames + 1 ≤ R.frames ∧ 8 + (3 + 11) + rm_X2_hasSize.locals ≤ R.locals) : lf_cV R s args RX5 RX2 100 yX2_hasSize cX2_hasSize 3 (some .boolean) rm_X2_hasSize 1 :=
  lf_cV_of 1 ht (lr_11 _ (List.mem_of_getElem? (i := 11) rfl)) (lr_11 _ (List.mem_of_getElem? (i := 8) rfl)) (lr_11 _ (List.mem_of_getElem? (i := 9) rfl)) (lr_11 _ (List.mem_of_getElem? (i := 10) rfl)) (lr_1 _ (List.mem_of_getElem? (i := 14) rfl)) rfl rfl (by decide +kernel) hR
theorem cw_X5_103 {R : Room} {s : State} {args : Array Value} (ht : ∀ w ∈ wsL_law, w.before args s = true) (hR : rm_X2_addSize.frames + 1 ≤ R.frames ∧ 8 + (2 + 11) + rm_X2_addSize.locals ≤ R.locals) : lf_cV R s args RX5 RX2 103 yX2_addSize cX2_addSize 2 (some .int) rm_X2_addSize 1 :=
  lf_cV_of 1 ht (lr_11 _ (List.mem_of_getElem? (i := 16) rfl)) (lr_11 _ (List.mem_of_getElem? (i := 13) rfl)) (lr_11 _ (List.mem_of_getElem? (i := 14) rfl)) (lr_11 _ (List.mem_of_getElem? (i := 15) rfl)) (lr_1 _ (List.mem_of_getElem? (i := 14) rfl)) rfl rfl (by decide +kernel) hR
def wp_X5_size (x1 : Int32) (σ : lf_St) (Post : Int32 → lf_St → Prop) : Prop := ((x1 < 1) → (Post (-2) σ)) ∧ ((¬ (x1 < 1)) → (((x1 ≤ 200) → ((((lf_gi σ 3) < 5) → (wp_X2_hasSize x1 σ (fun r4 σ4 => ((r4 = 0) → (wp_X5_forgetAnswers σ4 (fun σ6 => wp_X2_addSize x1 σ6 (fun r7 σ7 => Post r7 σ7)))) ∧ ((¬ (r4 = 0)) → (Post (-5) σ4))))) ∧ ((¬ ((lf_gi σ 3) < 5)) → (Post (-4) σ)))) ∧ ((¬ (x1 ≤ 200)) → (Post (-2) σ))))
def rm_X5_size : Room := ({ frames := 1, cells := 0, slots := 0, locals := 22 } : Room)
set_option maxHeartbeats 4000000 in
set_option maxRecDepth 100000 in
theorem c_X5_size (l : Launch) (D : va_G) (ha : Nat → Nat) (cy : Nat → ClassId) (sz : Nat) (σ : lf_St) (x1 : Int32) (Post : Int32 → lf_St → Prop) (hw : wp_X5_size x1 σ Post) : lf_Mi l yX5_size (lf_ws yX5_size cX5_size 2 (some .int)) rm_X5_size D (tyC_ cy) (wC_ ha cy) sz σ [.ref (ha 0), .int x1] Post := by
  refine lf_ofi (by decide +kernel) (Nat.le_of_ble_eq_true rfl) ?_
  intro p e s m args below meth c A ls F hh hl
  have hx := F.1.1
  have hb := F.1.2.1
  have hl : lv_has ls 2 [(0, .ref (ha 0)), (1, .int x1)] := hl
  obtain ⟨H, hHe⟩ : ∃ H, H = s.heap := ⟨_, rfl⟩
  rw [← hHe] at hh ⊢
  unfold wp_X5_size at hw
  refine lv_iload_n hx hb dX5_size_0 rfl (lv_at hl 1 rfl) ?_
  refine lv_iconst (v := 1) hx hb dX5_size_1 (by decide) ?_
  refine lv_icmp_lt (tgt := 12) hx hb dX5_size_2 (by decide) (fun c1 => ?_) (fun c1 => ?_)
  · have hw := hw.1 c1
    refine lv_bipush (v := (-2)) hx hb dX5_size_12 (by decide) ?_
    exact lf_reti F hh hw dX5_size_14
  · have hw := hw.2 c1
    refine lv_iload_n hx hb dX5_size_5 rfl (lv_at hl 1 rfl) ?_
    refine lv_sipush (v := 200) hx hb dX5_size_6 (by decide) ?_
    refine lv_icmp_le (tgt := 15) hx hb dX5_size_9 (by decide) (fun c2 => ?_) (fun c2 => ?_)
    · have hw := hw.1 c2
      refine lv_aload_n hx hb dX5_size_15 rfl (lv_at hl 0 rfl) ?_
      refine fg_X5_12 F hh dX5_size_16 ?_
      refine fg_X5_97 F hh dX5_size_19 ?_
      refine lv_iconst (v := 5) hx hb dX5_size_22 (by decide) ?_
      refine lv_icmp_lt (tgt := 29) hx hb dX5_size_23 (by decide) (fun c3 => ?_) (fun c3 => ?_)
      · have hw := hw.1 c3
        refine lv_aload_n hx hb dX5_size_29 rfl (lv_at hl 0 rfl) ?_
        refine fg_X5_12 F hh dX5_size_30 ?_
        refine lv_iload_n hx hb dX5_size_33 rfl (lv_at hl 1 rfl) ?_
        refine lf_callVi (rest := []) F hh (cw_X5_100 F.1.2.2.2.2 ⟨Nat.le_of_ble_eq_true rfl, Nat.le_of_ble_eq_true rfl⟩) (c_X2_hasSize l D ha cy H.size σ x1 _ hw) 1 2 rfl rfl rfl rfl hl.1 (Nat.le_of_ble_eq_true rfl) dX5_size_34 rfl (fun r4 σ4 H locs hw hh => ?_)
        refine lv_if_eq (tgt := 43) hx hb dX5_size_37 (by decide) (fun c5 => ?_) (fun c5 => ?_)
        · have hw := hw.1 c5
          refine lv_aload_n hx hb dX5_size_43 rfl (lv_at hl 0 rfl) ?_
          refine lf_callVv (rest := []) F hh (cw_X5_49 F.1.2.2.2.2 ⟨Nat.le_of_ble_eq_true rfl, Nat.le_of_ble_eq_true rfl⟩) (c_X5_forgetAnswers l D ha cy H.size σ4  _ hw) 0 5 rfl rfl rfl rfl hl.1 (Nat.le_of_ble_eq_true rfl) dX5_size_44 rfl (fun σ6 H locs hw hh => ?_)
          refine lv_aload_n hx hb dX5_size_47 rfl (lv_at hl 0 rfl) ?_
          refine fg_X5_12 F hh dX5_size_48 ?_
          refine lv_iload_n hx hb dX5_size_51 rfl (lv_at hl 1 rfl) ?_
          refine lf_callVi (rest := []) F hh (cw_X5_103 F.1.2.2.2.2 ⟨Nat.le_of_ble_eq_true rfl, Nat.le_of_ble_eq_true rfl⟩) (c_X2_addSize l D ha cy H.size σ6 x1 _ hw) 1 2 rfl rfl rfl rfl hl.1 (Nat.le_of_ble_eq_true rfl) dX5_size_52 rfl (fun r7 σ7 H locs hw hh => ?_)
          exact lf_reti F hh hw dX5_size_55
        · have hw := hw.2 c5
          refine lv_bipush (v := (-5)) hx hb dX5_size_40 (by decide) ?_
          exact lf_reti F hh hw dX5_size_42
      · have hw := hw.2 c3
        refine lv_bipush (v := (-4)) hx hb dX5_size_26 (by decide) ?_
        exact lf_reti F hh hw dX5_size_28
    · have hw := hw.2 c2
      refine lv_bipush (v := (-2)) hx hb dX5_size_12 (by decide) ?_
      exact lf_reti F hh hw dX5_size_14
def wp_X5_price (x1 : Int32) (σ : lf_St) (Post : Int32 → lf_St → Prop) : Prop := ((x1 < 0) → (Post (-2) σ)) ∧ ((¬ (x1 < 0)) → (((x1 ≤ 1000) → (wp_X5_forgetAnswers σ (fun σ3 => ∀ v4 : Int32, v4 = (lf_gi σ3 4) → (Post v4 (lf_si σ3 4 x1))))) ∧ ((¬ (x1 ≤ 1000)) → (Post (-2) σ))))
def rm_X5_price : Room := ({ frames := 1, cells := 0, slots := 0, locals := 20 } : Room)
set_option maxHeartbeats 4000000 in
set_option maxRecDepth 100000 in
theorem c_X5_price (l : Launch) (D : va_G) (ha : Nat → Nat) (cy : Nat → ClassId) (sz : Nat) (σ : lf_St) (x1 : Int32) (Post : Int32 → lf_St → Prop) (hw : wp_X5_price x1 σ Post) : lf_Mi l yX5_price (lf_ws yX5_price cX5_price 3 (some .int)) rm_X5_price D (tyC_ cy) (wC_ ha cy) sz σ [.ref (ha 0), .int x1] Post := by
  refine lf_ofi (by decide +kernel) (Nat.le_of_ble_eq_true rfl) ?_
  intro p e s m args below meth c A ls F hh hl
  have hx := F.1.1
  have hb := F.1.2.1
  have hl : lv_has ls 3 [(0, .ref (ha 0)), (1, .int x1)] := hl
  obtain ⟨H, hHe⟩ : ∃ H, H = s.heap := ⟨_, rfl⟩
  rw [← hHe] at hh ⊢
  unfold wp_X5_price at hw
  refine lv_iload_n hx hb dX5_price_0 rfl (lv_at hl 1 rfl) ?_
  refine lv_if_lt (tgt := 11) hx hb dX5_price_1 (by decide) (fun c1 => ?_) (fun c1 => ?_)
  · have hw := hw.1 c1
    refine lv_bipush (v := (-2)) hx hb dX5_price_11 (by decide) ?_
    exact lf_reti F hh hw dX5_price_13
  · have hw := hw.2 c1
    refine lv_iload_n hx hb dX5_price_4 rfl (lv_at hl 1 rfl) ?_
    refine lv_sipush (v := 1000) hx hb dX5_price_5 (by decide) ?_
    refine lv_icmp_le (tgt := 14) hx hb dX5_price_8 (by decide) (fun c2 => ?_) (fun c2 => ?_)
    · have hw := hw.1 c2
      refine lv_aload_n hx hb dX5_price_14 rfl (lv_at hl 0 rfl) ?_
      refine lf_callVv (rest := []) F hh (cw_X5_49 F.1.2.2.2.2 ⟨Nat.le_of_ble_eq_true rfl, Nat.le_of_ble_eq_true rfl⟩) (c_X5_forgetAnswers l D ha cy H.size σ  _ hw) 0 5 rfl rfl rfl rfl hl.1 (Nat.le_of_ble_eq_true rfl) dX5_price_15 rfl (fun σ3 H locs hw hh => ?_)
      refine lv_aload_n hx hb dX5_price_18 rfl (lv_at hl 0 rfl) ?_
      refine fg_X5_12 F hh dX5_price_19 ?_
      refine fg_X5_107 F hh dX5_price_22 ?_
      refine lv_topi (fun v4 ev4 => ?_)
      have hw := hw v4 ev4
      refine lv_istore_n (lv' := [(2, .int v4), (0, .ref (ha 0)), (1, .int x1)]) hx hb dX5_price_25 rfl hl (by decide) rfl (fun ls hl => ?_)
      refine lv_aload_n hx hb dX5_price_26 rfl (lv_at hl 1 rfl) ?_
      refine fg_X5_12 F hh dX5_price_27 ?_
      refine lv_iload_n hx hb dX5_price_30 rfl (lv_at hl 2 rfl) ?_
      refine fp_X5_107 F hh dX5_price_31 (fun H locs hh => ?_)
      refine lv_iload_n hx hb dX5_price_34 rfl (lv_at hl 0 rfl) ?_
      exact lf_reti F hh hw dX5_price_35
    · have hw := hw.2 c2
      refine lv_bipush (v := (-2)) hx hb dX5_price_11 (by decide) ?_
      exact lf_reti F hh hw dX5_price_13
