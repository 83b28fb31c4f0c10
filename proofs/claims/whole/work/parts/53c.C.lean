theorem cw_X2_75 {R : Room} {s : State} {args : Array Value} (ht : ∀ w ∈ wsL_law, w.before args s = true) (hR : rm_X2_sameWay.frames + 1 ≤ R.frames ∧ 8 + (5 + 11) + rm_X2_sameWay.locals ≤ R.locals) : lf_cV R s args RX2 RX2 75 yX2_sameWay cX2_sameWay 5 (some .boolean) rm_X2_sameWay 3 :=
  lf_cV_of 3 ht (lr_7 _ (List.mem_of_getElem? (i := 22) rfl)) (lr_7 _ (List.mem_of_getElem? (i := 19) rfl)) (lr_7 _ (List.mem_of_getElem? (i := 20) rfl)) (lr_7 _ (List.mem_of_getElem? (i := 21) rfl)) (lr_1 _ (List.mem_of_getElem? (i := 14) rfl)) rfl rfl (by decide +kernel) hR
theorem cw_X2_79 {R : Room} {s : State} {args : Array Value} (ht : ∀ w ∈ wsL_law, w.before args s = true) (hR : rm_X2_touch.frames + 1 ≤ R.frames ∧ 8 + (5 + 11) + rm_X2_touch.locals ≤ R.locals) : lf_cV R s args RX2 RX2 79 yX2_touch cX2_touch 5 (some .boolean) rm_X2_touch 4 :=
  lf_cV_of 4 ht (lr_8 _ (List.mem_of_getElem? (i := 6) rfl)) (lr_8 _ (List.mem_of_getElem? (i := 3) rfl)) (lr_8 _ (List.mem_of_getElem? (i := 4) rfl)) (lr_8 _ (List.mem_of_getElem? (i := 5) rfl)) (lr_1 _ (List.mem_of_getElem? (i := 14) rfl)) rfl rfl (by decide +kernel) hR
def wp_X2_meet (x1 : Int32) (x2 : Int32) (σ : lf_St) (Post : Int32 → lf_St → Prop) : Prop := vp_in x1 10 ∧ (∀ v2 : Int32, v2 = (lf_ai σ 6 x1.toNatClampNeg) → (vp_in x1 10 ∧ (∀ v4 : Int32, v4 = (lf_ai σ 7 x1.toNatClampNeg) → (vp_in x2 10 ∧ (∀ v6 : Int32, v6 = (lf_ai σ 6 x2.toNatClampNeg) → (vp_in x2 10 ∧ (∀ v8 : Int32, v8 = (lf_ai σ 7 x2.toNatClampNeg) → (((¬ v2 = v6) → (((¬ v2 = v8) → (((¬ v4 = v6) → (((¬ v4 = v8) → (wp_X2_touch v2 v4 v6 v8 σ (fun r13 σ13 => (fits .boolean (.int r13) = true) ∧ Post r13 σ13))) ∧ ((v4 = v8) → (wp_X2_sameWay v4 v2 v6 σ (fun r15 σ15 => (fits .boolean (.int r15) = true) ∧ Post r15 σ15))))) ∧ ((v4 = v6) → (wp_X2_sameWay v4 v2 v8 σ (fun r17 σ17 => (fits .boolean (.int r17) = true) ∧ Post r17 σ17))))) ∧ ((v2 = v8) → (wp_X2_sameWay v2 v4 v6 σ (fun r19 σ19 => (fits .boolean (.int r19) = true) ∧ Post r19 σ19))))) ∧ ((v2 = v6) → (wp_X2_sameWay v2 v4 v8 σ (fun r21 σ21 => (fits .boolean (.int r21) = true) ∧ Post r21 σ21)))))))))))
def rm_X2_meet : Room := ({ frames := 3, cells := 0, slots := 0, locals := 70 } : Room)
set_option maxHeartbeats 4000000 in
set_option maxRecDepth 100000 in
theorem c_X2_meet (l : Launch) (D : va_G) (ha : Nat → Nat) (cy : Nat → ClassId) (sz : Nat) (σ : lf_St) (x1 : Int32) (x2 : Int32) (Post : Int32 → lf_St → Prop) (hw : wp_X2_meet x1 x2 σ Post) : lf_Mi l yX2_meet (lf_ws yX2_meet cX2_meet 7 (some .boolean)) rm_X2_meet D (tyC_ cy) (wC_ ha cy) sz σ [.ref (ha 1), .int x1, .int x2] Post := by
  refine lf_ofi (by decide +kernel) (Nat.le_of_ble_eq_true rfl) ?_
  intro p e s m args below meth c A ls F hh hl
  have hx := F.1.1
  have hb := F.1.2.1
  have hl : lv_has ls 7 [(0, .ref (ha 1)), (1, .int x1), (2, .int x2)] := hl
  obtain ⟨H, hHe⟩ : ∃ H, H = s.heap := ⟨_, rfl⟩
  rw [← hHe] at hh ⊢
  unfold wp_X2_meet at hw
  refine lv_aload_n hx hb dX2_meet_0 rfl (lv_at hl 0 rfl) ?_
  refine fg_X2_24 F hh dX2_meet_1 ?_
  refine lv_iload_n hx hb dX2_meet_4 rfl (lv_at hl 1 rfl) ?_
  obtain ⟨q1, hw⟩ := hw
  refine ra_C_6 F hh q1 dX2_meet_5 ?_
  refine lv_topi (fun v2 ev2 => ?_)
  have hw := hw v2 ev2
  refine lv_istore_n (lv' := [(3, .int v2), (0, .ref (ha 1)), (1, .int x1), (2, .int x2)]) hx hb dX2_meet_6 rfl hl (by decide) rfl (fun ls hl => ?_)
  refine lv_aload_n hx hb dX2_meet_7 rfl (lv_at hl 1 rfl) ?_
  refine fg_X2_27 F hh dX2_meet_8 ?_
  refine lv_iload_n hx hb dX2_meet_11 rfl (lv_at hl 2 rfl) ?_
  obtain ⟨q3, hw⟩ := hw
  refine ra_C_7 F hh q3 dX2_meet_12 ?_
  refine lv_topi (fun v4 ev4 => ?_)
  have hw := hw v4 ev4
  refine lv_istore (lv' := [(4, .int v4), (3, .int v2), (0, .ref (ha 1)), (1, .int x1), (2, .int x2)]) hx hb dX2_meet_13 hl (by decide) rfl (fun ls hl => ?_)
  refine lv_aload_n hx hb dX2_meet_15 rfl (lv_at hl 2 rfl) ?_
  refine fg_X2_24 F hh dX2_meet_16 ?_
  refine lv_iload_n hx hb dX2_meet_19 rfl (lv_at hl 4 rfl) ?_
  obtain ⟨q5, hw⟩ := hw
  refine ra_C_6 F hh q5 dX2_meet_20 ?_
  refine lv_topi (fun v6 ev6 => ?_)
  have hw := hw v6 ev6
  refine lv_istore (lv' := [(5, .int v6), (4, .int v4), (3, .int v2), (0, .ref (ha 1)), (1, .int x1), (2, .int x2)]) hx hb dX2_meet_21 hl (by decide) rfl (fun ls hl => ?_)
  refine lv_aload_n hx hb dX2_meet_23 rfl (lv_at hl 3 rfl) ?_
  refine fg_X2_27 F hh dX2_meet_24 ?_
  refine lv_iload_n hx hb dX2_meet_27 rfl (lv_at hl 5 rfl) ?_
  obtain ⟨q7, hw⟩ := hw
  refine ra_C_7 F hh q7 dX2_meet_28 ?_
  refine lv_topi (fun v8 ev8 => ?_)
  have hw := hw v8 ev8
  refine lv_istore (lv' := [(6, .int v8), (5, .int v6), (4, .int v4), (3, .int v2), (0, .ref (ha 1)), (1, .int x1), (2, .int x2)]) hx hb dX2_meet_29 hl (by decide) rfl (fun ls hl => ?_)
  refine lv_iload_n hx hb dX2_meet_31 rfl (lv_at hl 3 rfl) ?_
  refine lv_iload hx hb dX2_meet_32 (lv_at hl 1 rfl) ?_
  refine lv_icmp_ne (tgt := 47) hx hb dX2_meet_34 (by decide) (fun c9 => ?_) (fun c9 => ?_)
  · have hw := hw.1 c9
    refine lv_iload_n hx hb dX2_meet_47 rfl (lv_at hl 3 rfl) ?_
    refine lv_iload hx hb dX2_meet_48 (lv_at hl 0 rfl) ?_
    refine lv_icmp_ne (tgt := 63) hx hb dX2_meet_50 (by decide) (fun c10 => ?_) (fun c10 => ?_)
    · have hw := hw.1 c10
      refine lv_iload hx hb dX2_meet_63 (lv_at hl 2 rfl) ?_
      refine lv_iload hx hb dX2_meet_65 (lv_at hl 1 rfl) ?_
      refine lv_icmp_ne (tgt := 80) hx hb dX2_meet_67 (by decide) (fun c11 => ?_) (fun c11 => ?_)
      · have hw := hw.1 c11
        refine lv_iload hx hb dX2_meet_80 (lv_at hl 2 rfl) ?_
        refine lv_iload hx hb dX2_meet_82 (lv_at hl 0 rfl) ?_
        refine lv_icmp_ne (tgt := 97) hx hb dX2_meet_84 (by decide) (fun c12 => ?_) (fun c12 => ?_)
        · have hw := hw.1 c12
          refine lv_aload_n hx hb dX2_meet_97 rfl (lv_at hl 4 rfl) ?_
          refine lv_iload_n hx hb dX2_meet_98 rfl (lv_at hl 3 rfl) ?_
          refine lv_iload hx hb dX2_meet_99 (lv_at hl 2 rfl) ?_
          refine lv_iload hx hb dX2_meet_101 (lv_at hl 1 rfl) ?_
          refine lv_iload hx hb dX2_meet_103 (lv_at hl 0 rfl) ?_
          refine lf_callVi (rest := []) F hh (cw_X2_79 F.1.2.2.2.2 ⟨Nat.le_of_ble_eq_true rfl, Nat.le_of_ble_eq_true rfl⟩) (c_X2_touch l D ha cy H.size σ v2 v4 v6 v8 _ hw) 1 2 rfl rfl rfl rfl hl.1 (Nat.le_of_ble_eq_true rfl) dX2_meet_105 rfl (fun r13 σ13 H locs hw hh => ?_)
          obtain ⟨q14, hw⟩ := hw
          exact lf_retz F hh (lf_nz q14) hw dX2_meet_108
        · have hw := hw.2 c12
          refine lv_aload_n hx hb dX2_meet_87 rfl (lv_at hl 4 rfl) ?_
          refine lv_iload hx hb dX2_meet_88 (lv_at hl 2 rfl) ?_
          refine lv_iload_n hx hb dX2_meet_90 rfl (lv_at hl 3 rfl) ?_
          refine lv_iload hx hb dX2_meet_91 (lv_at hl 1 rfl) ?_
          refine lf_callVi (rest := []) F hh (cw_X2_75 F.1.2.2.2.2 ⟨Nat.le_of_ble_eq_true rfl, Nat.le_of_ble_eq_true rfl⟩) (c_X2_sameWay l D ha cy H.size σ v4 v2 v6 _ hw) 1 2 rfl rfl rfl rfl hl.1 (Nat.le_of_ble_eq_true rfl) dX2_meet_93 rfl (fun r15 σ15 H locs hw hh => ?_)
          obtain ⟨q16, hw⟩ := hw
          exact lf_retz F hh (lf_nz q16) hw dX2_meet_96
      · have hw := hw.2 c11
        refine lv_aload_n hx hb dX2_meet_70 rfl (lv_at hl 4 rfl) ?_
        refine lv_iload hx hb dX2_meet_71 (lv_at hl 2 rfl) ?_
        refine lv_iload_n hx hb dX2_meet_73 rfl (lv_at hl 3 rfl) ?_
        refine lv_iload hx hb dX2_meet_74 (lv_at hl 0 rfl) ?_
        refine lf_callVi (rest := []) F hh (cw_X2_75 F.1.2.2.2.2 ⟨Nat.le_of_ble_eq_true rfl, Nat.le_of_ble_eq_true rfl⟩) (c_X2_sameWay l D ha cy H.size σ v4 v2 v8 _ hw) 1 2 rfl rfl rfl rfl hl.1 (Nat.le_of_ble_eq_true rfl) dX2_meet_76 rfl (fun r17 σ17 H locs hw hh => ?_)
        obtain ⟨q18, hw⟩ := hw
        exact lf_retz F hh (lf_nz q18) hw dX2_meet_79
    · have hw := hw.2 c10
      refine lv_aload_n hx hb dX2_meet_53 rfl (lv_at hl 4 rfl) ?_
      refine lv_iload_n hx hb dX2_meet_54 rfl (lv_at hl 3 rfl) ?_
      refine lv_iload hx hb dX2_meet_55 (lv_at hl 2 rfl) ?_
      refine lv_iload hx hb dX2_meet_57 (lv_at hl 1 rfl) ?_
      refine lf_callVi (rest := []) F hh (cw_X2_75 F.1.2.2.2.2 ⟨Nat.le_of_ble_eq_true rfl, Nat.le_of_ble_eq_true rfl⟩) (c_X2_sameWay l D ha cy H.size σ v2 v4 v6 _ hw) 1 2 rfl rfl rfl rfl hl.1 (Nat.le_of_ble_eq_true rfl) dX2_meet_59 rfl (fun r19 σ19 H locs hw hh => ?_)
      obtain ⟨q20, hw⟩ := hw
      exact lf_retz F hh (lf_nz q20) hw dX2_meet_62
  · have hw := hw.2 c9
    refine lv_aload_n hx hb dX2_meet_37 rfl (lv_at hl 4 rfl) ?_
    refine lv_iload_n hx hb dX2_meet_38 rfl (lv_at hl 3 rfl) ?_
    refine lv_iload hx hb dX2_meet_39 (lv_at hl 2 rfl) ?_
    refine lv_iload hx hb dX2_meet_41 (lv_at hl 0 rfl) ?_
    refine lf_callVi (rest := []) F hh (cw_X2_75 F.1.2.2.2.2 ⟨Nat.le_of_ble_eq_true rfl, Nat.le_of_ble_eq_true rfl⟩) (c_X2_sameWay l D ha cy H.size σ v2 v4 v8 _ hw) 1 2 rfl rfl rfl rfl hl.1 (Nat.le_of_ble_eq_true rfl) dX2_meet_43 rfl (fun r21 σ21 H locs hw hh => ?_)
    obtain ⟨q22, hw⟩ := hw
    exact lf_retz F hh (lf_nz q22) hw dX2_meet_46
theorem cw_X2_62 {R : Room} {s : State} {args : Array Value} (ht : ∀ w ∈ wsL_law, w.before args s = true) (hR : rm_X2_meet.frames + 1 ≤ R.frames ∧ 8 + (7 + 11) + rm_X2_meet.locals ≤ R.locals) : lf_cV R s args RX2 RX2 62 yX2_meet cX2_meet 7 (some .boolean) rm_X2_meet 2 :=
  lf_cV_of 2 ht (lr_7 _ (List.mem_of_getElem? (i := 18) rfl)) (lr_7 _ (List.mem_of_getElem? (i := 15) rfl)) (lr_7 _ (List.mem_of_getElem? (i := 16) rfl)) (lr_7 _ (List.mem_of_getElem? (i := 17) rfl)) (lr_1 _ (List.mem_of_getElem? (i := 14) rfl)) rfl rfl (by decide +kernel) hR
def L_X2_addBar_100 (Post : Int32 → lf_St → Prop) : Nat → Int32 → Int32 → lf_St → Prop
  | 0, _, _, _ => False
  | n + 1, x3, x4, σ => ((x3 ≤ x4) → (Post x3 (lf_si σ 2 ((lf_gi σ 2) + 1)))) ∧ ((¬ (x3 ≤ x4)) → (vp_in x3 10 ∧ (wp_X2_meet x3 x4 σ (fun r3 σ3 => ((r3 = 0) → (vp_in x3 10 ∧ (∀ v6 : Int32, v6 = x4 + 1 → (L_X2_addBar_100 Post n x3 v6 (lf_sa σ3 11 x3.toNatClampNeg ((lf_ai σ 11 x3.toNatClampNeg) ||| 0)))))) ∧ ((¬ (r3 = 0)) → (vp_in x3 10 ∧ (∀ v8 : Int32, v8 = x4 + 1 → (L_X2_addBar_100 Post n x3 v8 (lf_sa σ3 11 x3.toNatClampNeg ((lf_ai σ 11 x3.toNatClampNeg) ||| (1 <<< (x4 &&& 31))))))))))))
def wp_X2_addBar (x1 : Int32) (x2 : Int32) (σ : lf_St) (Post : Int32 → lf_St → Prop) : Prop := ∀ v1 : Int32, v1 = (lf_gi σ 2) → (vp_in v1 10 ∧ (vp_in v1 10 ∧ (∀ σ4 : lf_St, σ4 = (lf_sa (lf_sa σ 6 v1.toNatClampNeg x1) 7 v1.toNatClampNeg x2) → vp_in x2 6 ∧ (vp_in x1 6 ∧ (vp_in v1 10 ∧ (∀ σ8 : lf_St, σ8 = (lf_sa σ4 8 v1.toNatClampNeg ((lf_ai σ4 2 x2.toNatClampNeg) - (lf_ai σ4 2 x1.toNatClampNeg))) → vp_in x2 6 ∧ (vp_in x1 6 ∧ (vp_in v1 10 ∧ (∀ σ12 : lf_St, σ12 = (lf_sa σ8 9 v1.toNatClampNeg ((lf_ai σ8 3 x2.toNatClampNeg) - (lf_ai σ8 3 x1.toNatClampNeg))) → vp_in v1 10 ∧ (vp_in v1 10 ∧ (vp_in v1 10 ∧ (vp_in v1 10 ∧ (vp_in v1 10 ∧ (vp_in v1 10 ∧ (∃ fu : Nat, L_X2_addBar_100 Post fu v1 0 (lf_sa (lf_sa σ12 10 v1.toNatClampNeg (((lf_ai σ12 8 v1.toNatClampNeg) * (lf_ai σ12 8 v1.toNatClampNeg)) + ((lf_ai σ12 9 v1.toNatClampNeg) * (lf_ai σ12 9 v1.toNatClampNeg)))) 11 v1.toNatClampNeg 0))))))))))))))))
def rm_X2_addBar : Room := ({ frames := 4, cells := 0, slots := 0, locals := 96 } : Room)
set_option maxHeartbeats 4000000 in
set_option maxRecDepth 100000 in
theorem w_X2_addBar_100 {p : Program} {l : Launch} {e : Env} {s : State} {m : MethodId} {args : Array Value} {below : List Frame} {meth : Method} {c : Code} {D : va_G} {A : Nat → Prop} {ha : Nat → Nat} {cy : Nat → ClassId} (Post : Int32 → lf_St → Prop) (F : lf_C p s m args meth c RX2 cX2_addBar 5 (some .int) D (tyC_ cy) A) : ∀ (n : Nat) (x3 : Int32) (x4 : Int32) (σ : lf_St) (H : Heap) (locs : List Loc) (ls : Array Slot), lf_H D (wC_ ha cy) A s σ H locs → lv_has ls 5 [(0, .ref (ha 1)), (3, .int x3), (4, .int x4)] → L_X2_addBar_100 Post n x3 x4 σ → W p l e rm_X2_addBar s m args below meth c H locs 0 0 (lf_Qi below args s D (tyC_ cy) A (wC_ ha cy) Post) (F0 m 100 ls []) := by
  have hx := F.1.1
  have hb := F.1.2.1
  intro n
  induction n with
  | zero =>
    intro x3 x4 σ H locs ls hh hl hw
    exact False.elim hw
  | succ n ih =>
    intro x3 x4 σ H locs ls hh hl hw
    unfold L_X2_addBar_100 at hw
    refine lv_iload hx hb dX2_addBar_100 (lv_at hl 2 rfl) ?_
    refine lv_iload_n hx hb dX2_addBar_102 rfl (lv_at hl 1 rfl) ?_
    refine lv_icmp_ge (tgt := 139) hx hb dX2_addBar_103 (by decide) (fun c1 => ?_) (fun c1 => ?_)
    · have hw := hw.1 c1
      refine lv_aload_n hx hb dX2_addBar_139 rfl (lv_at hl 0 rfl) ?_
      refine lv_dup hx hb dX2_addBar_140 rfl ?_
      refine fg_X2_49 F hh dX2_addBar_141 ?_
      refine lv_iconst (v := 1) hx hb dX2_addBar_144 (by decide) ?_
      refine lv_iadd hx hb dX2_addBar_145 ?_
      refine fp_X2_49 F hh dX2_addBar_146 (fun H locs hh => ?_)
      refine lv_iload_n hx hb dX2_addBar_149 rfl (lv_at hl 1 rfl) ?_
      exact lf_reti F hh hw dX2_addBar_150
    · have hw := hw.2 c1
      refine lv_aload_n hx hb dX2_addBar_106 rfl (lv_at hl 0 rfl) ?_
      refine fg_X2_39 F hh dX2_addBar_107 ?_
      refine lv_iload_n hx hb dX2_addBar_110 rfl (lv_at hl 1 rfl) ?_
      refine lv_dup2_11 hx hb dX2_addBar_111 rfl rfl ?_
      obtain ⟨q2, hw⟩ := hw
      refine ra_C_11 F hh q2 dX2_addBar_112 ?_
      refine lv_aload_n hx hb dX2_addBar_113 rfl (lv_at hl 0 rfl) ?_
      refine lv_iload_n hx hb dX2_addBar_114 rfl (lv_at hl 1 rfl) ?_
      refine lv_iload hx hb dX2_addBar_115 (lv_at hl 2 rfl) ?_
      refine lf_callVi (rest := [.int (lf_ai σ 11 x3.toNatClampNeg), .int x3, .ref (ha 11)]) F hh (cw_X2_62 F.1.2.2.2.2 ⟨Nat.le_of_ble_eq_true rfl, Nat.le_of_ble_eq_true rfl⟩) (c_X2_meet l D ha cy H.size σ x3 x4 _ hw) 1 2 rfl rfl rfl rfl hl.1 (Nat.le_of_ble_eq_true rfl) dX2_addBar_117 rfl (fun r3 σ3 H locs hw hh => ?_)
      refine lv_if_eq (tgt := 130) hx hb dX2_addBar_120 (by decide) (fun c4 => ?_) (fun c4 => ?_)
      · have hw := hw.1 c4
        refine lv_iconst (v := 0) hx hb dX2_addBar_130 (by decide) ?_
        refine lv_ior hx hb dX2_addBar_131 ?_
        obtain ⟨q5, hw⟩ := hw
        refine wa_C_11 F hh q5 dX2_addBar_132 (fun H locs hh => ?_)
        obtain ⟨v6, ev6⟩ : ∃ y : Int32, y = x4 + 1 := ⟨_, rfl⟩
        have hw := hw v6 ev6
        refine lv_iinc (v := v6) (lv' := [(4, .int v6), (0, .ref (ha 1)), (3, .int x3)]) hx hb dX2_addBar_133 hl (k := 2) rfl (by rw [ev6]; rfl) (by decide) rfl (fun ls hl => ?_)
        refine lv_goto (tgt := 100) hx hb dX2_addBar_136 (by decide) ?_
        exact ih x3 v6 (lf_sa σ3 11 x3.toNatClampNeg ((lf_ai σ 11 x3.toNatClampNeg) ||| 0)) _ _ _ hh (lv_sub hl [1, 2, 0] rfl) hw
      · have hw := hw.2 c4
        refine lv_iconst (v := 1) hx hb dX2_addBar_123 (by decide) ?_
        refine lv_iload hx hb dX2_addBar_124 (lv_at hl 2 rfl) ?_
        refine lv_ishl hx hb dX2_addBar_126 ?_
        refine lv_goto (tgt := 131) hx hb dX2_addBar_127 (by decide) ?_
        refine lv_ior hx hb dX2_addBar_131 ?_
        obtain ⟨q7, hw⟩ := hw
        refine wa_C_11 F hh q7 dX2_addBar_132 (fun H locs hh => ?_)
        obtain ⟨v8, ev8⟩ : ∃ y : Int32, y = x4 + 1 := ⟨_, rfl⟩
        have hw := hw v8 ev8
        refine lv_iinc (v := v8) (lv' := [(4, .int v8), (0, .ref (ha 1)), (3, .int x3)]) hx hb dX2_addBar_133 hl (k := 2) rfl (by rw [ev8]; rfl) (by decide) rfl (fun ls hl => ?_)
        refine lv_goto (tgt := 100) hx hb dX2_addBar_136 (by decide) ?_
        exact ih x3 v8 (lf_sa σ3 11 x3.toNatClampNeg ((lf_ai σ 11 x3.toNatClampNeg) ||| (1 <<< (x4 &&& 31)))) _ _ _ hh (lv_sub hl [1, 2, 0] rfl) hw
set_option maxHeartbeats 4000000 in
set_option maxRecDepth 100000 in
theorem c_X2_addBar (l : Launch) (D : va_G) (ha : Nat → Nat) (cy : Nat → ClassId) (sz : Nat) (σ : lf_St) (x1 : Int32) (x2 : Int32) (Post : Int32 → lf_St → Prop) (hw : wp_X2_addBar x1 x2 σ Post) : lf_Mi l yX2_addBar (lf_ws yX2_addBar cX2_addBar 5 (some .int)) rm_X2_addBar D (tyC_ cy) (wC_ ha cy) sz σ [.ref (ha 1), .int x1, .int x2] Post := by
  refine lf_ofi (by decide +kernel) (Nat.le_of_ble_eq_true rfl) ?_
  intro p e s m args below meth c A ls F hh hl
  have hx := F.1.1
  have hb := F.1.2.1
  have hl : lv_has ls 5 [(0, .ref (ha 1)), (1, .int x1), (2, .int x2)] := hl
  obtain ⟨H, hHe⟩ : ∃ H, H = s.heap := ⟨_, rfl⟩
  rw [← hHe] at hh ⊢
  unfold wp_X2_addBar at hw
  refine lv_aload_n hx hb dX2_addBar_0 rfl (lv_at hl 0 rfl) ?_
  refine fg_X2_49 F hh dX2_addBar_1 ?_
  refine lv_topi (fun v1 ev1 => ?_)
  have hw := hw v1 ev1
  refine lv_istore_n (lv' := [(3, .int v1), (0, .ref (ha 1)), (1, .int x1), (2, .int x2)]) hx hb dX2_addBar_4 rfl hl (by decide) rfl (fun ls hl => ?_)
  refine lv_aload_n hx hb dX2_addBar_5 rfl (lv_at hl 1 rfl) ?_
  refine fg_X2_24 F hh dX2_addBar_6 ?_
  refine lv_iload_n hx hb dX2_addBar_9 rfl (lv_at hl 0 rfl) ?_
  refine lv_iload_n hx hb dX2_addBar_10 rfl (lv_at hl 2 rfl) ?_
  obtain ⟨q2, hw⟩ := hw
  refine wa_C_6 F hh q2 dX2_addBar_11 (fun H locs hh => ?_)
  refine lv_aload_n hx hb dX2_addBar_12 rfl (lv_at hl 1 rfl) ?_
  refine fg_X2_27 F hh dX2_addBar_13 ?_
  refine lv_iload_n hx hb dX2_addBar_16 rfl (lv_at hl 0 rfl) ?_
  refine lv_iload_n hx hb dX2_addBar_17 rfl (lv_at hl 3 rfl) ?_
  obtain ⟨q3, hw⟩ := hw
  refine wa_C_7 F hh q3 dX2_addBar_18 (fun H locs hh => ?_)
  refine lv_aload_n hx hb dX2_addBar_19 rfl (lv_at hl 1 rfl) ?_
  refine fg_X2_30 F hh dX2_addBar_20 ?_
  refine lv_iload_n hx hb dX2_addBar_23 rfl (lv_at hl 0 rfl) ?_
  refine lv_aload_n hx hb dX2_addBar_24 rfl (lv_at hl 1 rfl) ?_
  refine fg_X2_9 F hh dX2_addBar_25 ?_
  refine lv_iload_n hx hb dX2_addBar_28 rfl (lv_at hl 3 rfl) ?_
  obtain ⟨σ4, eσ4⟩ : ∃ z : lf_St, z = (lf_sa (lf_sa σ 6 v1.toNatClampNeg x1) 7 v1.toNatClampNeg x2) := ⟨_, rfl⟩
  rw [← eσ4] at hh
  have hw := hw σ4 eσ4
  obtain ⟨q5, hw⟩ := hw
  refine ra_C_2 F hh q5 dX2_addBar_29 ?_
  refine lv_aload_n hx hb dX2_addBar_30 rfl (lv_at hl 1 rfl) ?_
  refine fg_X2_9 F hh dX2_addBar_31 ?_
  refine lv_iload_n hx hb dX2_addBar_34 rfl (lv_at hl 2 rfl) ?_
  obtain ⟨q6, hw⟩ := hw
  refine ra_C_2 F hh q6 dX2_addBar_35 ?_
  refine lv_isub hx hb dX2_addBar_36 ?_
  obtain ⟨q7, hw⟩ := hw
  refine wa_C_8 F hh q7 dX2_addBar_37 (fun H locs hh => ?_)
  refine lv_aload_n hx hb dX2_addBar_38 rfl (lv_at hl 1 rfl) ?_
  refine fg_X2_33 F hh dX2_addBar_39 ?_
  refine lv_iload_n hx hb dX2_addBar_42 rfl (lv_at hl 0 rfl) ?_
  refine lv_aload_n hx hb dX2_addBar_43 rfl (lv_at hl 1 rfl) ?_
  refine fg_X2_15 F hh dX2_addBar_44 ?_
  refine lv_iload_n hx hb dX2_addBar_47 rfl (lv_at hl 3 rfl) ?_
  obtain ⟨σ8, eσ8⟩ : ∃ z : lf_St, z = (lf_sa σ4 8 v1.toNatClampNeg ((lf_ai σ4 2 x2.toNatClampNeg) - (lf_ai σ4 2 x1.toNatClampNeg))) := ⟨_, rfl⟩
  rw [← eσ8] at hh
  have hw := hw σ8 eσ8
  obtain ⟨q9, hw⟩ := hw
  refine ra_C_3 F hh q9 dX2_addBar_48 ?_
  refine lv_aload_n hx hb dX2_addBar_49 rfl (lv_at hl 1 rfl) ?_
  refine fg_X2_15 F hh dX2_addBar_50 ?_
  refine lv_iload_n hx hb dX2_addBar_53 rfl (lv_at hl 2 rfl) ?_
  obtain ⟨q10, hw⟩ := hw
  refine ra_C_3 F hh q10 dX2_addBar_54 ?_
  refine lv_isub hx hb dX2_addBar_55 ?_
  obtain ⟨q11, hw⟩ := hw
  refine wa_C_9 F hh q11 dX2_addBar_56 (fun H locs hh => ?_)
  refine lv_aload_n hx hb dX2_addBar_57 rfl (lv_at hl 1 rfl) ?_
  refine fg_X2_36 F hh dX2_addBar_58 ?_
  refine lv_iload_n hx hb dX2_addBar_61 rfl (lv_at hl 0 rfl) ?_
  refine lv_aload_n hx hb dX2_addBar_62 rfl (lv_at hl 1 rfl) ?_
  refine fg_X2_30 F hh dX2_addBar_63 ?_
  refine lv_iload_n hx hb dX2_addBar_66 rfl (lv_at hl 0 rfl) ?_
  obtain ⟨σ12, eσ12⟩ : ∃ z : lf_St, z = (lf_sa σ8 9 v1.toNatClampNeg ((lf_ai σ8 3 x2.toNatClampNeg) - (lf_ai σ8 3 x1.toNatClampNeg))) := ⟨_, rfl⟩
  rw [← eσ12] at hh
  have hw := hw σ12 eσ12
  obtain ⟨q13, hw⟩ := hw
  refine ra_C_8 F hh q13 dX2_addBar_67 ?_
  refine lv_aload_n hx hb dX2_addBar_68 rfl (lv_at hl 1 rfl) ?_
  refine fg_X2_30 F hh dX2_addBar_69 ?_
  refine lv_iload_n hx hb dX2_addBar_72 rfl (lv_at hl 0 rfl) ?_
  obtain ⟨q14, hw⟩ := hw
  refine ra_C_8 F hh q14 dX2_addBar_73 ?_
  refine lv_imul hx hb dX2_addBar_74 ?_
  refine lv_aload_n hx hb dX2_addBar_75 rfl (lv_at hl 1 rfl) ?_
  refine fg_X2_33 F hh dX2_addBar_76 ?_
  refine lv_iload_n hx hb dX2_addBar_79 rfl (lv_at hl 0 rfl) ?_
  obtain ⟨q15, hw⟩ := hw
  refine ra_C_9 F hh q15 dX2_addBar_80 ?_
  refine lv_aload_n hx hb dX2_addBar_81 rfl (lv_at hl 1 rfl) ?_
  refine fg_X2_33 F hh dX2_addBar_82 ?_
  refine lv_iload_n hx hb dX2_addBar_85 rfl (lv_at hl 0 rfl) ?_
  obtain ⟨q16, hw⟩ := hw
  refine ra_C_9 F hh q16 dX2_addBar_86 ?_
  refine lv_imul hx hb dX2_addBar_87 ?_
  refine lv_iadd hx hb dX2_addBar_88 ?_
  obtain ⟨q17, hw⟩ := hw
  refine wa_C_10 F hh q17 dX2_addBar_89 (fun H locs hh => ?_)
  refine lv_aload_n hx hb dX2_addBar_90 rfl (lv_at hl 1 rfl) ?_
  refine fg_X2_39 F hh dX2_addBar_91 ?_
  refine lv_iload_n hx hb dX2_addBar_94 rfl (lv_at hl 0 rfl) ?_
  refine lv_iconst (v := 0) hx hb dX2_addBar_95 (by decide) ?_
  obtain ⟨q18, hw⟩ := hw
  refine wa_C_11 F hh q18 dX2_addBar_96 (fun H locs hh => ?_)
  refine lv_iconst (v := 0) hx hb dX2_addBar_97 (by decide) ?_
  refine lv_istore (lv' := [(4, .int 0), (3, .int v1), (0, .ref (ha 1)), (1, .int x1), (2, .int x2)]) hx hb dX2_addBar_98 hl (by decide) rfl (fun ls hl => ?_)
  obtain ⟨n100, hw⟩ := hw
  exact w_X2_addBar_100 Post F  n100 v1 0 (lf_sa (lf_sa σ12 10 v1.toNatClampNeg (((lf_ai σ12 8 v1.toNatClampNeg) * (lf_ai σ12 8 v1.toNatClampNeg)) + ((lf_ai σ12 9 v1.toNatClampNeg) * (lf_ai σ12 9 v1.toNatClampNeg)))) 11 v1.toNatClampNeg 0) _ _ _ hh (lv_sub hl [2, 1, 0] rfl) hw
def wp_X2_addSize (x1 : Int32) (σ : lf_St) (Post : Int32 → lf_St → Prop) : Prop := vp_in (lf_gi σ 3) 5 ∧ (∀ σ2 : lf_St, σ2 = (lf_sa σ 12 ((lf_gi σ 3) : Int32).toNatClampNeg x1) → (∀ σ3 : lf_St, σ3 = (lf_si σ2 3 ((lf_gi σ2 3) + 1)) → (Post (lf_gi σ3 3) σ3)))
def rm_X2_addSize : Room := ({ frames := 0, cells := 0, slots := 0, locals := 0 } : Room)
set_option maxHeartbeats 4000000 in
set_option maxRecDepth 100000 in
theorem c_X2_addSize (l : Launch) (D : va_G) (ha : Nat → Nat) (cy : Nat → ClassId) (sz : Nat) (σ : lf_St) (x1 : Int32) (Post : Int32 → lf_St → Prop) (hw : wp_X2_addSize x1 σ Post) : lf_Mi l yX2_addSize (lf_ws yX2_addSize cX2_addSize 2 (some .int)) rm_X2_addSize D (tyC_ cy) (wC_ ha cy) sz σ [.ref (ha 1), .int x1] Post := by
  refine lf_ofi (by decide +kernel) (Nat.le_of_ble_eq_true rfl) ?_
  intro p e s m args below meth c A ls F hh hl
  have hx := F.1.1
  have hb := F.1.2.1
  have hl : lv_has ls 2 [(0, .ref (ha 1)), (1, .int x1)] := hl
  obtain ⟨H, hHe⟩ : ∃ H, H = s.heap := ⟨_, rfl⟩
  rw [← hHe] at hh ⊢
  unfold wp_X2_addSize at hw
  refine lv_aload_n hx hb dX2_addSize_0 rfl (lv_at hl 0 rfl) ?_
  refine fg_X2_42 F hh dX2_addSize_1 ?_
  refine lv_aload_n hx hb dX2_addSize_4 rfl (lv_at hl 0 rfl) ?_
  refine fg_X2_55 F hh dX2_addSize_5 ?_
  refine lv_iload_n hx hb dX2_addSize_8 rfl (lv_at hl 1 rfl) ?_
  obtain ⟨q1, hw⟩ := hw
  refine wa_C_12 F hh q1 dX2_addSize_9 (fun H locs hh => ?_)
  refine lv_aload_n hx hb dX2_addSize_10 rfl (lv_at hl 0 rfl) ?_
  refine lv_dup hx hb dX2_addSize_11 rfl ?_
  obtain ⟨σ2, eσ2⟩ : ∃ z : lf_St, z = (lf_sa σ 12 ((lf_gi σ 3) : Int32).toNatClampNeg x1) := ⟨_, rfl⟩
  rw [← eσ2] at hh
  have hw := hw σ2 eσ2
  refine fg_X2_55 F hh dX2_addSize_12 ?_
  refine lv_iconst (v := 1) hx hb dX2_addSize_15 (by decide) ?_
  refine lv_iadd hx hb dX2_addSize_16 ?_
  refine fp_X2_55 F hh dX2_addSize_17 (fun H locs hh => ?_)
  refine lv_aload_n hx hb dX2_addSize_20 rfl (lv_at hl 0 rfl) ?_
  obtain ⟨σ3, eσ3⟩ : ∃ z : lf_St, z = (lf_si σ2 3 ((lf_gi σ2 3) + 1)) := ⟨_, rfl⟩
  rw [← eσ3] at hh
  have hw := hw σ3 eσ3
  refine fg_X2_55 F hh dX2_addSize_21 ?_
  exact lf_reti F hh hw dX2_addSize_24
def wp_X2_barsCross (x1 : Int32) (x2 : Int32) (σ : lf_St) (Post : Int32 → lf_St → Prop) : Prop := vp_in (lf_max x1 x2) 10 ∧ (((¬ (((lf_ai σ 11 ((lf_max x1 x2) : Int32).toNatClampNeg) >>> ((lf_min x1 x2) &&& 31)) &&& 1) = 1) → (Post 0 σ)) ∧ (((((lf_ai σ 11 ((lf_max x1 x2) : Int32).toNatClampNeg) >>> ((lf_min x1 x2) &&& 31)) &&& 1) = 1) → (Post 1 σ)))
def rm_X2_barsCross : Room := ({ frames := 1, cells := 0, slots := 0, locals := 21 } : Room)
set_option maxHeartbeats 4000000 in
set_option maxRecDepth 100000 in
theorem c_X2_barsCross (l : Launch) (D : va_G) (ha : Nat → Nat) (cy : Nat → ClassId) (sz : Nat) (σ : lf_St) (x1 : Int32) (x2 : Int32) (Post : Int32 → lf_St → Prop) (hw : wp_X2_barsCross x1 x2 σ Post) : lf_Mi l yX2_barsCross (lf_ws yX2_barsCross cX2_barsCross 3 (some .boolean)) rm_X2_barsCross D (tyC_ cy) (wC_ ha cy) sz σ [.ref (ha 1), .int x1, .int x2] Post := by
  refine lf_ofi (by decide +kernel) (Nat.le_of_ble_eq_true rfl) ?_
  intro p e s m args below meth c A ls F hh hl
  have hx := F.1.1
  have hb := F.1.2.1
  have hl : lv_has ls 3 [(0, .ref (ha 1)), (1, .int x1), (2, .int x2)] := hl
  obtain ⟨H, hHe⟩ : ∃ H, H = s.heap := ⟨_, rfl⟩
  rw [← hHe] at hh ⊢
  unfold wp_X2_barsCross at hw
  refine lv_aload_n hx hb dX2_barsCross_0 rfl (lv_at hl 0 rfl) ?_
  refine fg_X2_39 F hh dX2_barsCross_1 ?_
  refine lv_iload_n hx hb dX2_barsCross_4 rfl (lv_at hl 1 rfl) ?_
  refine lv_iload_n hx hb dX2_barsCross_5 rfl (lv_at hl 2 rfl) ?_
  refine ms_X2_66 (rest := [.ref (ha 11)]) F hl.1 (Nat.le_of_ble_eq_true rfl) (Nat.le_of_ble_eq_true rfl) dX2_barsCross_6 ?_
  obtain ⟨q1, hw⟩ := hw
  refine ra_C_11 F hh q1 dX2_barsCross_9 ?_
  refine lv_iload_n hx hb dX2_barsCross_10 rfl (lv_at hl 1 rfl) ?_
  refine lv_iload_n hx hb dX2_barsCross_11 rfl (lv_at hl 2 rfl) ?_
  refine ms_X2_72 (rest := [.int (lf_ai σ 11 ((lf_max x1 x2) : Int32).toNatClampNeg)]) F hl.1 (Nat.le_of_ble_eq_true rfl) (Nat.le_of_ble_eq_true rfl) dX2_barsCross_12 ?_
  refine lv_ishr hx hb dX2_barsCross_15 ?_
  refine lv_iconst (v := 1) hx hb dX2_barsCross_16 (by decide) ?_
  refine lv_iand hx hb dX2_barsCross_17 ?_
  refine lv_iconst (v := 1) hx hb dX2_barsCross_18 (by decide) ?_
  refine lv_icmp_ne (tgt := 26) hx hb dX2_barsCross_19 (by decide) (fun c2 => ?_) (fun c2 => ?_)
  · have hw := hw.1 c2
    refine lv_iconst (v := 0) hx hb dX2_barsCross_26 (by decide) ?_
    exact lf_retz F hh rfl hw dX2_barsCross_27
  · have hw := hw.2 c2
    refine lv_iconst (v := 1) hx hb dX2_barsCross_22 (by decide) ?_
    refine lv_goto (tgt := 27) hx hb dX2_barsCross_23 (by decide) ?_
    exact lf_retz F hh rfl hw dX2_barsCross_27
def L_X4_lightestTop_4 (Post : Int64 → lf_St → Prop) : Nat → Int64 → Int32 → lf_St → Prop
  | 0, _, _, _ => False
  | n + 1, x1, x3, σ => (((lf_gi σ 2) ≤ x3) → (Post x1 σ)) ∧ ((¬ ((lf_gi σ 2) ≤ x3)) → (vp_in x3 10 ∧ (vp_in x3 10 ∧ (∀ v4 : Int64, v4 = (x1 + ((((lf_ai σ 10 x3.toNatClampNeg) : Int32).toInt64) * (lf_abs (lf_al σ (27 + 4) x3.toNatClampNeg)))) → (∀ v5 : Int32, v5 = x3 + 1 → (L_X4_lightestTop_4 Post n v4 v5 σ))))))
def wp_X4_lightestTop (σ : lf_St) (Post : Int64 → lf_St → Prop) : Prop := ∃ fu : Nat, L_X4_lightestTop_4 Post fu 0 0 σ
def rm_X4_lightestTop : Room := ({ frames := 1, cells := 0, slots := 0, locals := 21 } : Room)
set_option maxHeartbeats 4000000 in
set_option maxRecDepth 100000 in
theorem w_X4_lightestTop_4 {p : Program} {l : Launch} {e : Env} {s : State} {m : MethodId} {args : Array Value} {below : List Frame} {meth : Method} {c : Code} {D : va_G} {A : Nat → Prop} {ha : Nat → Nat} {cy : Nat → ClassId} (Post : Int64 → lf_St → Prop) (F : lf_C p s m args meth c RX4 cX4_lightestTop 4 (some .long) D (tyC_ cy) A) : ∀ (n : Nat) (x1 : Int64) (x3 : Int32) (σ : lf_St) (H : Heap) (locs : List Loc) (ls : Array Slot), lf_H D (wC_ ha cy) A s σ H locs → lv_has ls 4 [(0, .ref (ha 13)), (1, .long x1), (3, .int x3)] → L_X4_lightestTop_4 Post n x1 x3 σ → W p l e rm_X4_lightestTop s m args below meth c H locs 0 0 (lf_Ql below args s D (tyC_ cy) A (wC_ ha cy) Post) (F0 m 4 ls []) := by
  have hx := F.1.1
  have hb := F.1.2.1
  intro n
  induction n with
  | zero =>
    intro x1 x3 σ H locs ls hh hl hw
    exact False.elim hw
  | succ n ih =>
    intro x1 x3 σ H locs ls hh hl hw
    unfold L_X4_lightestTop_4 at hw
    refine lv_iload_n hx hb dX4_lightestTop_4 rfl (lv_at hl 2 rfl) ?_
    refine lv_aload_n hx hb dX4_lightestTop_5 rfl (lv_at hl 0 rfl) ?_
    refine fg_X4_26 F hh dX4_lightestTop_6 ?_
    refine fg_X4_53 F hh dX4_lightestTop_9 ?_
    refine lv_icmp_ge (tgt := 47) hx hb dX4_lightestTop_12 (by decide) (fun c1 => ?_) (fun c1 => ?_)
    · have hw := hw.1 c1
      refine lv_lload_n hx hb dX4_lightestTop_47 rfl (lv_at hl 1 rfl) ?_
      exact lf_retl F hh hw dX4_lightestTop_48
    · have hw := hw.2 c1
      refine lv_lload_n hx hb dX4_lightestTop_15 rfl (lv_at hl 1 rfl) ?_
      refine lv_aload_n hx hb dX4_lightestTop_16 rfl (lv_at hl 0 rfl) ?_
      refine fg_X4_26 F hh dX4_lightestTop_17 ?_
      refine fg_X4_110 F hh dX4_lightestTop_20 ?_
      refine lv_iload_n hx hb dX4_lightestTop_23 rfl (lv_at hl 2 rfl) ?_
      obtain ⟨q2, hw⟩ := hw
      refine ra_C_10 F hh q2 dX4_lightestTop_24 ?_
      refine lv_i2l hx hb dX4_lightestTop_25 rfl ?_
      refine lv_aload_n hx hb dX4_lightestTop_26 rfl (lv_at hl 0 rfl) ?_
      refine fg_X4_12 F hh dX4_lightestTop_27 ?_
      refine fg_X4_94 F hh 4 (by decide) dX4_lightestTop_30 ?_
      refine lv_iload_n hx hb dX4_lightestTop_33 rfl (lv_at hl 2 rfl) ?_
      obtain ⟨q3, hw⟩ := hw
      refine ra_C_pt F hh 4 (by decide) q3 dX4_lightestTop_34 ?_
      refine ms_X4_113 (rest := [.long ((lf_ai σ 10 x3.toNatClampNeg) : Int32).toInt64, .long x1]) F hl.1 (Nat.le_of_ble_eq_true rfl) (Nat.le_of_ble_eq_true rfl) dX4_lightestTop_35 ?_
      refine lv_lmul hx hb dX4_lightestTop_38 ?_
      refine lv_ladd hx hb dX4_lightestTop_39 ?_
      refine lv_topl (fun v4 ev4 => ?_)
      have hw := hw v4 ev4
      refine lv_lstore_n (lv' := [(1, .long v4), (0, .ref (ha 13)), (3, .int x3)]) hx hb dX4_lightestTop_40 rfl hl (by decide) rfl (fun ls hl => ?_)
      obtain ⟨v5, ev5⟩ : ∃ y : Int32, y = x3 + 1 := ⟨_, rfl⟩
      have hw := hw v5 ev5
      refine lv_iinc (v := v5) (lv' := [(3, .int v5), (1, .long v4), (0, .ref (ha 13))]) hx hb dX4_lightestTop_41 hl (k := 2) rfl (by rw [ev5]; rfl) (by decide) rfl (fun ls hl => ?_)
      refine lv_goto (tgt := 4) hx hb dX4_lightestTop_44 (by decide) ?_
      exact ih v4 v5 σ _ _ _ hh (lv_sub hl [2, 1, 0] rfl) hw
set_option maxHeartbeats 4000000 in
set_option maxRecDepth 100000 in
theorem c_X4_lightestTop (l : Launch) (D : va_G) (ha : Nat → Nat) (cy : Nat → ClassId) (sz : Nat) (σ : lf_St) (Post : Int64 → lf_St → Prop) (hw : wp_X4_lightestTop σ Post) : lf_Ml l yX4_lightestTop (lf_ws yX4_lightestTop cX4_lightestTop 4 (some .long)) rm_X4_lightestTop D (tyC_ cy) (wC_ ha cy) sz σ [.ref (ha 13)] Post := by
  refine lf_ofl (by decide +kernel) (Nat.le_of_ble_eq_true rfl) ?_
  intro p e s m args below meth c A ls F hh hl
  have hx := F.1.1
  have hb := F.1.2.1
  have hl : lv_has ls 4 [(0, .ref (ha 13))] := hl
  obtain ⟨H, hHe⟩ : ∃ H, H = s.heap := ⟨_, rfl⟩
  rw [← hHe] at hh ⊢
  unfold wp_X4_lightestTop at hw
  refine lv_lconst (v := 0) hx hb dX4_lightestTop_0 (by decide) ?_
  refine lv_lstore_n (lv' := [(1, .long 0), (0, .ref (ha 13))]) hx hb dX4_lightestTop_1 rfl hl (by decide) rfl (fun ls hl => ?_)
  refine lv_iconst (v := 0) hx hb dX4_lightestTop_2 (by decide) ?_
  refine lv_istore_n (lv' := [(3, .int 0), (1, .long 0), (0, .ref (ha 13))]) hx hb dX4_lightestTop_3 rfl hl (by decide) rfl (fun ls hl => ?_)
  obtain ⟨n4, hw⟩ := hw
  exact w_X4_lightestTop_4 Post F  n4 0 0 σ _ _ _ hh (lv_sub hl [2, 1, 0] rfl) hw
theorem cw_X3_85 {R : Room} {s : State} {args : Array Value} (ht : ∀ w ∈ wsL_law, w.before args s = true) (hR : rm_X4_lightestTop.frames + 1 ≤ R.frames ∧ 8 + (4 + 11) + rm_X4_lightestTop.locals ≤ R.locals) : lf_cV R s args RX3 RX4 85 yX4_lightestTop cX4_lightestTop 4 (some .long) rm_X4_lightestTop 0 :=
  lf_cV_of 0 ht (lr_18 _ (List.mem_of_getElem? (i := 15) rfl)) (lr_27 _ (List.mem_of_getElem? (i := 17) rfl)) (lr_18 _ (List.mem_of_getElem? (i := 13) rfl)) (lr_18 _ (List.mem_of_getElem? (i := 14) rfl)) (lr_1 _ (List.mem_of_getElem? (i := 18) rfl)) rfl rfl (by decide +kernel) hR
def wp_X3_costsAsMuchAs (k1 : Nat) (σ : lf_St) (Post : Int32 → lf_St → Prop) : Prop := wp_X4_lightestTop σ (fun r1 σ1 => ((¬ (r1 * (lf_gl σ1 (20 + k1))) = ((lf_gl σ1 (10 + k1)) * (lf_gl σ1 (20 + 4)))) → (Post 0 σ1)) ∧ (((r1 * (lf_gl σ1 (20 + k1))) = ((lf_gl σ1 (10 + k1)) * (lf_gl σ1 (20 + 4)))) → (Post 1 σ1)))
def rm_X3_costsAsMuchAs : Room := ({ frames := 2, cells := 0, slots := 0, locals := 44 } : Room)
set_option maxHeartbeats 4000000 in
set_option maxRecDepth 100000 in
theorem c_X3_costsAsMuchAs (l : Launch) (D : va_G) (ha : Nat → Nat) (cy : Nat → ClassId) (sz : Nat) (σ : lf_St) (k1 : Nat) (hk1 : k1 < 5) (Post : Int32 → lf_St → Prop) (hw : wp_X3_costsAsMuchAs k1 σ Post) : lf_Mi l yX3_costsAsMuchAs (lf_ws yX3_costsAsMuchAs cX3_costsAsMuchAs 2 (some .boolean)) rm_X3_costsAsMuchAs D (tyC_ cy) (wC_ ha cy) sz σ [.ref (ha 19), .ref (ha (22 + k1))] Post := by
  refine lf_ofi (by decide +kernel) (Nat.le_of_ble_eq_true rfl) ?_
  intro p e s m args below meth c A ls F hh hl
  have hx := F.1.1
  have hb := F.1.2.1
  have hl : lv_has ls 2 [(0, .ref (ha 19)), (1, .ref (ha (22 + k1)))] := hl
  obtain ⟨H, hHe⟩ : ∃ H, H = s.heap := ⟨_, rfl⟩
  rw [← hHe] at hh ⊢
  unfold wp_X3_costsAsMuchAs at hw
  refine lv_aload_n hx hb dX3_costsAsMuchAs_0 rfl (lv_at hl 0 rfl) ?_
  refine fg_X3_26 F hh dX3_costsAsMuchAs_1 ?_
  refine lf_callVl (rest := []) F hh (cw_X3_85 F.1.2.2.2.2 ⟨Nat.le_of_ble_eq_true rfl, Nat.le_of_ble_eq_true rfl⟩) (c_X4_lightestTop l D ha cy H.size σ  _ hw) 13 4 rfl rfl rfl rfl hl.1 (Nat.le_of_ble_eq_true rfl) dX3_costsAsMuchAs_4 rfl (fun r1 σ1 H locs hw hh => ?_)
  refine lv_aload_n hx hb dX3_costsAsMuchAs_7 rfl (lv_at hl 1 rfl) ?_
  refine fg_X3_89 F hh k1 hk1 dX3_costsAsMuchAs_8 ?_
  refine lv_lmul hx hb dX3_costsAsMuchAs_11 ?_
  refine lv_aload_n hx hb dX3_costsAsMuchAs_12 rfl (lv_at hl 1 rfl) ?_
  refine fg_X3_92 F hh k1 hk1 dX3_costsAsMuchAs_13 ?_
  refine lv_aload_n hx hb dX3_costsAsMuchAs_16 rfl (lv_at hl 0 rfl) ?_
  refine fg_X3_26 F hh dX3_costsAsMuchAs_17 ?_
  refine fg_X3_95 F hh dX3_costsAsMuchAs_20 ?_
  refine fg_X3_89 F hh 4 (by decide) dX3_costsAsMuchAs_23 ?_
  refine lv_lmul hx hb dX3_costsAsMuchAs_26 ?_
  refine lf_lcmp_ne (tgt := 35) hx hb dX3_costsAsMuchAs_27 dX3_costsAsMuchAs_28 (by decide) (fun c2 => ?_) (fun c2 => ?_)
  · have hw := hw.1 c2
    refine lv_iconst (v := 0) hx hb dX3_costsAsMuchAs_35 (by decide) ?_
    exact lf_retz F hh rfl hw dX3_costsAsMuchAs_36
  · have hw := hw.2 c2
    refine lv_iconst (v := 1) hx hb dX3_costsAsMuchAs_31 (by decide) ?_
    refine lv_goto (tgt := 36) hx hb dX3_costsAsMuchAs_32 (by decide) ?_
    exact lf_retz F hh rfl hw dX3_costsAsMuchAs_36
def wp_J6_bitCount_0f7a4 (x0 : Int32) (σ : lf_St) (Post : Int32 → lf_St → Prop) : Prop := ∀ v1 : Int32, v1 = (x0 - ((((x0).toUInt32 >>> ((1 : Int32).toUInt32 &&& Int32.toUInt32 31)).toInt32) &&& 1431655765)) → (∀ v2 : Int32, v2 = ((v1 &&& 858993459) + ((((v1).toUInt32 >>> ((2 : Int32).toUInt32 &&& Int32.toUInt32 31)).toInt32) &&& 858993459)) → (∀ v3 : Int32, v3 = ((v2 + (((v2).toUInt32 >>> ((4 : Int32).toUInt32 &&& Int32.toUInt32 31)).toInt32)) &&& 252645135) → (∀ v4 : Int32, v4 = (v3 + (((v3).toUInt32 >>> ((8 : Int32).toUInt32 &&& Int32.toUInt32 31)).toInt32)) → (∀ v5 : Int32, v5 = (v4 + (((v4).toUInt32 >>> ((16 : Int32).toUInt32 &&& Int32.toUInt32 31)).toInt32)) → (Post (v5 &&& 63) σ)))))
def rm_J6_bitCount_0f7a4 : Room := ({ frames := 0, cells := 0, slots := 0, locals := 0 } : Room)
set_option maxHeartbeats 4000000 in
set_option maxRecDepth 100000 in
theorem c_J6_bitCount_0f7a4 (l : Launch) (D : va_G) (ha : Nat → Nat) (cy : Nat → ClassId) (sz : Nat) (σ : lf_St) (x0 : Int32) (Post : Int32 → lf_St → Prop) (hw : wp_J6_bitCount_0f7a4 x0 σ Post) : lf_Mi l yJ6_bitCount_0f7a4 (lf_ws yJ6_bitCount_0f7a4 cJ6_bitCount_0f7a4 1 (some .int)) rm_J6_bitCount_0f7a4 D (tyC_ cy) (wC_ ha cy) sz σ [.int x0] Post := by
  refine lf_ofi (by decide +kernel) (Nat.le_of_ble_eq_true rfl) ?_
  intro p e s m args below meth c A ls F hh hl
  have hx := F.1.1
  have hb := F.1.2.1
  have hl : lv_has ls 1 [(0, .int x0)] := hl
  obtain ⟨H, hHe⟩ : ∃ H, H = s.heap := ⟨_, rfl⟩
  rw [← hHe] at hh ⊢
  unfold wp_J6_bitCount_0f7a4 at hw
  refine lv_iload_n hx hb dJ6_bitCount_0f7a4_0 rfl (lv_at hl 0 rfl) ?_
  refine lv_iload_n hx hb dJ6_bitCount_0f7a4_1 rfl (lv_at hl 0 rfl) ?_
  refine lv_iconst (v := 1) hx hb dJ6_bitCount_0f7a4_2 (by decide) ?_
  refine lv_iushr hx hb dJ6_bitCount_0f7a4_3 rfl ?_
  refine lv_ldcw hx hb F.1.2.2.2.1 (F.1.2.2.2.2 _ (lr_14 _ (List.mem_of_getElem? (i := 10) rfl))) dJ6_bitCount_0f7a4_4 ?_
  refine lv_iand hx hb dJ6_bitCount_0f7a4_7 ?_
  refine lv_isub hx hb dJ6_bitCount_0f7a4_8 ?_
  refine lv_topi (fun v1 ev1 => ?_)
  have hw := hw v1 ev1
  refine lv_istore_n (lv' := [(0, .int v1)]) hx hb dJ6_bitCount_0f7a4_9 rfl hl (by decide) rfl (fun ls hl => ?_)
  refine lv_iload_n hx hb dJ6_bitCount_0f7a4_10 rfl (lv_at hl 0 rfl) ?_
  refine lv_ldcw hx hb F.1.2.2.2.1 (F.1.2.2.2.2 _ (lr_14 _ (List.mem_of_getElem? (i := 11) rfl))) dJ6_bitCount_0f7a4_11 ?_
  refine lv_iand hx hb dJ6_bitCount_0f7a4_14 ?_
  refine lv_iload_n hx hb dJ6_bitCount_0f7a4_15 rfl (lv_at hl 0 rfl) ?_
  refine lv_iconst (v := 2) hx hb dJ6_bitCount_0f7a4_16 (by decide) ?_
  refine lv_iushr hx hb dJ6_bitCount_0f7a4_17 rfl ?_
  refine lv_ldcw hx hb F.1.2.2.2.1 (F.1.2.2.2.2 _ (lr_14 _ (List.mem_of_getElem? (i := 11) rfl))) dJ6_bitCount_0f7a4_18 ?_
  refine lv_iand hx hb dJ6_bitCount_0f7a4_21 ?_
  refine lv_iadd hx hb dJ6_bitCount_0f7a4_22 ?_
  refine lv_topi (fun v2 ev2 => ?_)
  have hw := hw v2 ev2
  refine lv_istore_n (lv' := [(0, .int v2)]) hx hb dJ6_bitCount_0f7a4_23 rfl hl (by decide) rfl (fun ls hl => ?_)
  refine lv_iload_n hx hb dJ6_bitCount_0f7a4_24 rfl (lv_at hl 0 rfl) ?_
  refine lv_iload_n hx hb dJ6_bitCount_0f7a4_25 rfl (lv_at hl 0 rfl) ?_
  refine lv_iconst (v := 4) hx hb dJ6_bitCount_0f7a4_26 (by decide) ?_
  refine lv_iushr hx hb dJ6_bitCount_0f7a4_27 rfl ?_
  refine lv_iadd hx hb dJ6_bitCount_0f7a4_28 ?_
  refine lv_ldcw hx hb F.1.2.2.2.1 (F.1.2.2.2.2 _ (lr_14 _ (List.mem_of_getElem? (i := 12) rfl))) dJ6_bitCount_0f7a4_29 ?_
  refine lv_iand hx hb dJ6_bitCount_0f7a4_32 ?_
  refine lv_topi (fun v3 ev3 => ?_)
  have hw := hw v3 ev3
  refine lv_istore_n (lv' := [(0, .int v3)]) hx hb dJ6_bitCount_0f7a4_33 rfl hl (by decide) rfl (fun ls hl => ?_)
  refine lv_iload_n hx hb dJ6_bitCount_0f7a4_34 rfl (lv_at hl 0 rfl) ?_
  refine lv_iload_n hx hb dJ6_bitCount_0f7a4_35 rfl (lv_at hl 0 rfl) ?_
  refine lv_bipush (v := 8) hx hb dJ6_bitCount_0f7a4_36 (by decide) ?_
  refine lv_iushr hx hb dJ6_bitCount_0f7a4_38 rfl ?_
  refine lv_iadd hx hb dJ6_bitCount_0f7a4_39 ?_
  refine lv_topi (fun v4 ev4 => ?_)
  have hw := hw v4 ev4
  refine lv_istore_n (lv' := [(0, .int v4)]) hx hb dJ6_bitCount_0f7a4_40 rfl hl (by decide) rfl (fun ls hl => ?_)
  refine lv_iload_n hx hb dJ6_bitCount_0f7a4_41 rfl (lv_at hl 0 rfl) ?_
  refine lv_iload_n hx hb dJ6_bitCount_0f7a4_42 rfl (lv_at hl 0 rfl) ?_
  refine lv_bipush (v := 16) hx hb dJ6_bitCount_0f7a4_43 (by decide) ?_
  refine lv_iushr hx hb dJ6_bitCount_0f7a4_45 rfl ?_
  refine lv_iadd hx hb dJ6_bitCount_0f7a4_46 ?_
  refine lv_topi (fun v5 ev5 => ?_)
  have hw := hw v5 ev5
  refine lv_istore_n (lv' := [(0, .int v5)]) hx hb dJ6_bitCount_0f7a4_47 rfl hl (by decide) rfl (fun ls hl => ?_)
  refine lv_iload_n hx hb dJ6_bitCount_0f7a4_48 rfl (lv_at hl 0 rfl) ?_
  refine lv_bipush (v := 63) hx hb dJ6_bitCount_0f7a4_49 (by decide) ?_
  refine lv_iand hx hb dJ6_bitCount_0f7a4_51 ?_
  exact lf_reti F hh hw dJ6_bitCount_0f7a4_52
def wp_X3_fieldTop (x1 : Int32) (x2 : Int32) (σ : lf_St) (Post : Int64 → lf_St → Prop) : Prop := vp_in x1 6 ∧ (∀ v2 : Int32, v2 = (lf_ai σ 4 x1.toNatClampNeg) → (((¬ v2 = (-1)) → (vp_in (v2 + x2) 6 ∧ (Post (lf_al σ 20 ((v2 + x2) : Int32).toNatClampNeg) σ))) ∧ ((v2 = (-1)) → (Post 0 σ))))
def rm_X3_fieldTop : Room := ({ frames := 0, cells := 0, slots := 0, locals := 0 } : Room)
set_option maxHeartbeats 4000000 in
set_option maxRecDepth 100000 in
theorem c_X3_fieldTop (l : Launch) (D : va_G) (ha : Nat → Nat) (cy : Nat → ClassId) (sz : Nat) (σ : lf_St) (x1 : Int32) (x2 : Int32) (Post : Int64 → lf_St → Prop) (hw : wp_X3_fieldTop x1 x2 σ Post) : lf_Ml l yX3_fieldTop (lf_ws yX3_fieldTop cX3_fieldTop 4 (some .long)) rm_X3_fieldTop D (tyC_ cy) (wC_ ha cy) sz σ [.ref (ha 19), .int x1, .int x2] Post := by
  refine lf_ofl (by decide +kernel) (Nat.le_of_ble_eq_true rfl) ?_
  intro p e s m args below meth c A ls F hh hl
  have hx := F.1.1
  have hb := F.1.2.1
  have hl : lv_has ls 4 [(0, .ref (ha 19)), (1, .int x1), (2, .int x2)] := hl
  obtain ⟨H, hHe⟩ : ∃ H, H = s.heap := ⟨_, rfl⟩
  rw [← hHe] at hh ⊢
  unfold wp_X3_fieldTop at hw
  refine lv_aload_n hx hb dX3_fieldTop_0 rfl (lv_at hl 0 rfl) ?_
  refine fg_X3_22 F hh dX3_fieldTop_1 ?_
  refine fg_X3_55 F hh dX3_fieldTop_4 ?_
  refine lv_iload_n hx hb dX3_fieldTop_7 rfl (lv_at hl 1 rfl) ?_
  obtain ⟨q1, hw⟩ := hw
  refine ra_C_4 F hh q1 dX3_fieldTop_8 ?_
  refine lv_topi (fun v2 ev2 => ?_)
  have hw := hw v2 ev2
  refine lv_istore_n (lv' := [(3, .int v2), (0, .ref (ha 19)), (1, .int x1), (2, .int x2)]) hx hb dX3_fieldTop_9 rfl hl (by decide) rfl (fun ls hl => ?_)
  refine lv_iload_n hx hb dX3_fieldTop_10 rfl (lv_at hl 0 rfl) ?_
  refine lv_iconst (v := (-1)) hx hb dX3_fieldTop_11 (by decide) ?_
  refine lv_icmp_ne (tgt := 19) hx hb dX3_fieldTop_12 (by decide) (fun c3 => ?_) (fun c3 => ?_)
  · have hw := hw.1 c3
    refine lv_aload_n hx hb dX3_fieldTop_19 rfl (lv_at hl 1 rfl) ?_
    refine fg_X3_15 F hh dX3_fieldTop_20 ?_
    refine lv_iload_n hx hb dX3_fieldTop_23 rfl (lv_at hl 0 rfl) ?_
    refine lv_iload_n hx hb dX3_fieldTop_24 rfl (lv_at hl 3 rfl) ?_
    refine lv_iadd hx hb dX3_fieldTop_25 ?_
    obtain ⟨q4, hw⟩ := hw
    refine ra_C_20 F hh q4 dX3_fieldTop_26 ?_
    exact lf_retl F hh hw dX3_fieldTop_27
  · have hw := hw.2 c3
    refine lv_lconst (v := 0) hx hb dX3_fieldTop_15 (by decide) ?_
    refine lv_goto (tgt := 27) hx hb dX3_fieldTop_16 (by decide) ?_
    exact lf_retl F hh hw dX3_fieldTop_27
theorem cw_X3_69 {R : Room} {s : State} {args : Array Value} (ht : ∀ w ∈ wsL_law, w.before args s = true) (hR : rm_X3_fieldTop.frames + 1 ≤ R.frames ∧ 8 + (4 + 11) + rm_X3_fieldTop.locals ≤ R.locals) : lf_cV R s args RX3 RX3 69 yX3_fieldTop cX3_fieldTop 4 (some .long) rm_X3_fieldTop 2 :=
  lf_cV_of 2 ht (lr_29 _ (List.mem_of_getElem? (i := 10) rfl)) (lr_29 _ (List.mem_of_getElem? (i := 7) rfl)) (lr_29 _ (List.mem_of_getElem? (i := 8) rfl)) (lr_29 _ (List.mem_of_getElem? (i := 9) rfl)) (lr_1 _ (List.mem_of_getElem? (i := 22) rfl)) rfl rfl (by decide +kernel) hR
def wp_X3_slackTop (x1 : Int32) (σ : lf_St) (Post : Int64 → lf_St → Prop) : Prop := vp_in x1 10 ∧ (∀ v2 : Int32, v2 = (lf_ai σ 6 x1.toNatClampNeg) → (vp_in x1 10 ∧ (∀ v4 : Int32, v4 = (lf_ai σ 7 x1.toNatClampNeg) → (vp_in x1 10 ∧ (wp_X3_fieldTop v4 0 σ (fun r6 σ6 => wp_X3_fieldTop v2 0 σ6 (fun r7 σ7 => vp_in x1 10 ∧ (wp_X3_fieldTop v4 1 σ7 (fun r9 σ9 => wp_X3_fieldTop v2 1 σ9 (fun r10 σ10 => ∀ v11 : Int64, v11 = (((((lf_ai σ 8 x1.toNatClampNeg) : Int32).toInt64) * (r6 - r7)) + ((((lf_ai σ7 9 x1.toNatClampNeg) : Int32).toInt64) * (r9 - r10))) → (vp_in x1 10 ∧ (Post (((((lf_ai σ10 10 x1.toNatClampNeg) : Int32).toInt64) * (lf_gl σ10 1)) - (lf_abs v11)) σ10))))))))))))
def rm_X3_slackTop : Room := ({ frames := 1, cells := 0, slots := 0, locals := 23 } : Room)
set_option maxHeartbeats 4000000 in
set_option maxRecDepth 100000 in
theorem c_X3_slackTop (l : Launch) (D : va_G) (ha : Nat → Nat) (cy : Nat → ClassId) (sz : Nat) (σ : lf_St) (x1 : Int32) (Post : Int64 → lf_St → Prop) (hw : wp_X3_slackTop x1 σ Post) : lf_Ml l yX3_slackTop (lf_ws yX3_slackTop cX3_slackTop 6 (some .long)) rm_X3_slackTop D (tyC_ cy) (wC_ ha cy) sz σ [.ref (ha 19), .int x1] Post := by
  refine lf_ofl (by decide +kernel) (Nat.le_of_ble_eq_true rfl) ?_
  intro p e s m args below meth c A ls F hh hl
  have hx := F.1.1
  have hb := F.1.2.1
  have hl : lv_has ls 6 [(0, .ref (ha 19)), (1, .int x1)] := hl
  obtain ⟨H, hHe⟩ : ∃ H, H = s.heap := ⟨_, rfl⟩
  rw [← hHe] at hh ⊢
  unfold wp_X3_slackTop at hw
  refine lv_aload_n hx hb dX3_slackTop_0 rfl (lv_at hl 0 rfl) ?_
  refine fg_X3_22 F hh dX3_slackTop_1 ?_
  refine fg_X3_60 F hh dX3_slackTop_4 ?_
  refine lv_iload_n hx hb dX3_slackTop_7 rfl (lv_at hl 1 rfl) ?_
  obtain ⟨q1, hw⟩ := hw
  refine ra_C_6 F hh q1 dX3_slackTop_8 ?_
  refine lv_topi (fun v2 ev2 => ?_)
  have hw := hw v2 ev2
  refine lv_istore_n (lv' := [(2, .int v2), (0, .ref (ha 19)), (1, .int x1)]) hx hb dX3_slackTop_9 rfl hl (by decide) rfl (fun ls hl => ?_)
  refine lv_aload_n hx hb dX3_slackTop_10 rfl (lv_at hl 1 rfl) ?_
  refine fg_X3_22 F hh dX3_slackTop_11 ?_
  refine fg_X3_63 F hh dX3_slackTop_14 ?_
  refine lv_iload_n hx hb dX3_slackTop_17 rfl (lv_at hl 2 rfl) ?_
  obtain ⟨q3, hw⟩ := hw
  refine ra_C_7 F hh q3 dX3_slackTop_18 ?_
  refine lv_topi (fun v4 ev4 => ?_)
  have hw := hw v4 ev4
  refine lv_istore_n (lv' := [(3, .int v4), (2, .int v2), (0, .ref (ha 19)), (1, .int x1)]) hx hb dX3_slackTop_19 rfl hl (by decide) rfl (fun ls hl => ?_)
  refine lv_aload_n hx hb dX3_slackTop_20 rfl (lv_at hl 2 rfl) ?_
  refine fg_X3_22 F hh dX3_slackTop_21 ?_
  refine fg_X3_66 F hh dX3_slackTop_24 ?_
  refine lv_iload_n hx hb dX3_slackTop_27 rfl (lv_at hl 3 rfl) ?_
  obtain ⟨q5, hw⟩ := hw
  refine ra_C_8 F hh q5 dX3_slackTop_28 ?_
  refine lv_i2l hx hb dX3_slackTop_29 rfl ?_
  refine lv_aload_n hx hb dX3_slackTop_30 rfl (lv_at hl 2 rfl) ?_
  refine lv_iload_n hx hb dX3_slackTop_31 rfl (lv_at hl 0 rfl) ?_
  refine lv_iconst (v := 0) hx hb dX3_slackTop_32 (by decide) ?_
  refine lf_callVl (rest := [.long ((lf_ai σ 8 x1.toNatClampNeg) : Int32).toInt64]) F hh (cw_X3_69 F.1.2.2.2.2 ⟨Nat.le_of_ble_eq_true rfl, Nat.le_of_ble_eq_true rfl⟩) (c_X3_fieldTop l D ha cy H.size σ v4 0 _ hw) 19 3 rfl rfl rfl rfl hl.1 (Nat.le_of_ble_eq_true rfl) dX3_slackTop_33 rfl (fun r6 σ6 H locs hw hh => ?_)
  refine lv_aload_n hx hb dX3_slackTop_36 rfl (lv_at hl 2 rfl) ?_
  refine lv_iload_n hx hb dX3_slackTop_37 rfl (lv_at hl 1 rfl) ?_
  refine lv_iconst (v := 0) hx hb dX3_slackTop_38 (by decide) ?_
  refine lf_callVl (rest := [.long r6, .long ((lf_ai σ 8 x1.toNatClampNeg) : Int32).toInt64]) F hh (cw_X3_69 F.1.2.2.2.2 ⟨Nat.le_of_ble_eq_true rfl, Nat.le_of_ble_eq_true rfl⟩) (c_X3_fieldTop l D ha cy H.size σ6 v2 0 _ hw) 19 3 rfl rfl rfl rfl hl.1 (Nat.le_of_ble_eq_true rfl) dX3_slackTop_39 rfl (fun r7 σ7 H locs hw hh => ?_)
  refine lv_lsub hx hb dX3_slackTop_42 ?_
  refine lv_lmul hx hb dX3_slackTop_43 ?_
  refine lv_aload_n hx hb dX3_slackTop_44 rfl (lv_at hl 2 rfl) ?_
  refine fg_X3_22 F hh dX3_slackTop_45 ?_
  refine fg_X3_73 F hh dX3_slackTop_48 ?_
  refine lv_iload_n hx hb dX3_slackTop_51 rfl (lv_at hl 3 rfl) ?_
  obtain ⟨q8, hw⟩ := hw
  refine ra_C_9 F hh q8 dX3_slackTop_52 ?_
  refine lv_i2l hx hb dX3_slackTop_53 rfl ?_
  refine lv_aload_n hx hb dX3_slackTop_54 rfl (lv_at hl 2 rfl) ?_
  refine lv_iload_n hx hb dX3_slackTop_55 rfl (lv_at hl 0 rfl) ?_
  refine lv_iconst (v := 1) hx hb dX3_slackTop_56 (by decide) ?_
  refine lf_callVl (rest := [.long ((lf_ai σ7 9 x1.toNatClampNeg) : Int32).toInt64, .long ((((lf_ai σ 8 x1.toNatClampNeg) : Int32).toInt64) * (r6 - r7))]) F hh (cw_X3_69 F.1.2.2.2.2 ⟨Nat.le_of_ble_eq_true rfl, Nat.le_of_ble_eq_true rfl⟩) (c_X3_fieldTop l D ha cy H.size σ7 v4 1 _ hw) 19 3 rfl rfl rfl rfl hl.1 (Nat.le_of_ble_eq_true rfl) dX3_slackTop_57 rfl (fun r9 σ9 H locs hw hh => ?_)
  refine lv_aload_n hx hb dX3_slackTop_60 rfl (lv_at hl 2 rfl) ?_
  refine lv_iload_n hx hb dX3_slackTop_61 rfl (lv_at hl 1 rfl) ?_
  refine lv_iconst (v := 1) hx hb dX3_slackTop_62 (by decide) ?_
  refine lf_callVl (rest := [.long r9, .long ((lf_ai σ7 9 x1.toNatClampNeg) : Int32).toInt64, .long ((((lf_ai σ 8 x1.toNatClampNeg) : Int32).toInt64) * (r6 - r7))]) F hh (cw_X3_69 F.1.2.2.2.2 ⟨Nat.le_of_ble_eq_true rfl, Nat.le_of_ble_eq_true rfl⟩) (c_X3_fieldTop l D ha cy H.size σ9 v2 1 _ hw) 19 3 rfl rfl rfl rfl hl.1 (Nat.le_of_ble_eq_true rfl) dX3_slackTop_63 rfl (fun r10 σ10 H locs hw hh => ?_)
  refine lv_lsub hx hb dX3_slackTop_66 ?_
  refine lv_lmul hx hb dX3_slackTop_67 ?_
  refine lv_ladd hx hb dX3_slackTop_68 ?_
  refine lv_topl (fun v11 ev11 => ?_)
  have hw := hw v11 ev11
  refine lv_lstore (lv' := [(4, .long v11), (3, .int v4), (2, .int v2), (0, .ref (ha 19)), (1, .int x1)]) hx hb dX3_slackTop_69 hl (by decide) rfl (fun ls hl => ?_)
  refine lv_aload_n hx hb dX3_slackTop_71 rfl (lv_at hl 3 rfl) ?_
  refine fg_X3_22 F hh dX3_slackTop_72 ?_
  refine fg_X3_76 F hh dX3_slackTop_75 ?_
  refine lv_iload_n hx hb dX3_slackTop_78 rfl (lv_at hl 4 rfl) ?_
  obtain ⟨q12, hw⟩ := hw
  refine ra_C_10 F hh q12 dX3_slackTop_79 ?_
  refine lv_i2l hx hb dX3_slackTop_80 rfl ?_
  refine lv_aload_n hx hb dX3_slackTop_81 rfl (lv_at hl 3 rfl) ?_
  refine fg_X3_9 F hh dX3_slackTop_82 ?_
  refine lv_lmul hx hb dX3_slackTop_85 ?_
  refine lv_lload hx hb dX3_slackTop_86 (lv_at hl 0 rfl) ?_
  refine ms_X3_79 (rest := [.long ((((lf_ai σ10 10 x1.toNatClampNeg) : Int32).toInt64) * (lf_gl σ10 1))]) F hl.1 (Nat.le_of_ble_eq_true rfl) (Nat.le_of_ble_eq_true rfl) dX3_slackTop_88 ?_
  refine lv_lsub hx hb dX3_slackTop_91 ?_
  exact lf_retl F hh hw dX3_slackTop_92
theorem cw_X3_144 {R : Room} {s : State} {args : Array Value} (ht : ∀ w ∈ wsL_law, w.before args s = true) (hR : rm_X3_slackTop.frames + 1 ≤ R.frames ∧ 8 + (6 + 11) + rm_X3_slackTop.locals ≤ R.locals) : lf_cV R s args RX3 RX3 144 yX3_slackTop cX3_slackTop 6 (some .long) rm_X3_slackTop 1 :=
  lf_cV_of 1 ht (lr_29 _ (List.mem_of_getElem? (i := 1) rfl)) (lr_28 _ (List.mem_of_getElem? (i := 22) rfl)) (lr_28 _ (List.mem_of_getElem? (i := 23) rfl)) (lr_29 _ (List.mem_of_getElem? (i := 0) rfl)) (lr_1 _ (List.mem_of_getElem? (i := 22) rfl)) rfl rfl (by decide +kernel) hR
def L_X3_noBarExceeds_2 (Post : Int32 → lf_St → Prop) : Nat → Int32 → lf_St → Prop
  | 0, _, _ => False
  | n + 1, x1, σ => (((lf_gi σ 2) ≤ x1) → (Post 1 σ)) ∧ ((¬ ((lf_gi σ 2) ≤ x1)) → (wp_X3_slackTop x1 σ (fun r2 σ2 => ((0 ≤ r2) → (∀ v4 : Int32, v4 = x1 + 1 → (L_X3_noBarExceeds_2 Post n v4 σ2))) ∧ ((¬ (0 ≤ r2)) → (Post 0 σ2)))))
def wp_X3_noBarExceeds (σ : lf_St) (Post : Int32 → lf_St → Prop) : Prop := ∃ fu : Nat, L_X3_noBarExceeds_2 Post fu 0 σ
def rm_X3_noBarExceeds : Room := ({ frames := 2, cells := 0, slots := 0, locals := 48 } : Room)
set_option maxHeartbeats 4000000 in
set_option maxRecDepth 100000 in
theorem w_X3_noBarExceeds_2 {p : Program} {l : Launch} {e : Env} {s : State} {m : MethodId} {args : Array Value} {below : List Frame} {meth : Method} {c : Code} {D : va_G} {A : Nat → Prop} {ha : Nat → Nat} {cy : Nat → ClassId} (Post : Int32 → lf_St → Prop) (F : lf_C p s m args meth c RX3 cX3_noBarExceeds 2 (some .boolean) D (tyC_ cy) A) : ∀ (n : Nat) (x1 : Int32) (σ : lf_St) (H : Heap) (locs : List Loc) (ls : Array Slot), lf_H D (wC_ ha cy) A s σ H locs → lv_has ls 2 [(0, .ref (ha 19)), (1, .int x1)] → L_X3_noBarExceeds_2 Post n x1 σ → W p l e rm_X3_noBarExceeds s m args below meth c H locs 0 0 (lf_Qi below args s D (tyC_ cy) A (wC_ ha cy) Post) (F0 m 2 ls []) := by
  have hx := F.1.1
  have hb := F.1.2.1
  intro n
  induction n with
  | zero =>
    intro x1 σ H locs ls hh hl hw
    exact False.elim hw
  | succ n ih =>
    intro x1 σ H locs ls hh hl hw
    unfold L_X3_noBarExceeds_2 at hw
    refine lv_iload_n hx hb dX3_noBarExceeds_2 rfl (lv_at hl 1 rfl) ?_
    refine lv_aload_n hx hb dX3_noBarExceeds_3 rfl (lv_at hl 0 rfl) ?_
    refine fg_X3_22 F hh dX3_noBarExceeds_4 ?_
    refine fg_X3_143 F hh dX3_noBarExceeds_7 ?_
    refine lv_icmp_ge (tgt := 31) hx hb dX3_noBarExceeds_10 (by decide) (fun c1 => ?_) (fun c1 => ?_)
    · have hw := hw.1 c1
      refine lv_iconst (v := 1) hx hb dX3_noBarExceeds_31 (by decide) ?_
      exact lf_retz F hh rfl hw dX3_noBarExceeds_32
    · have hw := hw.2 c1
      refine lv_aload_n hx hb dX3_noBarExceeds_13 rfl (lv_at hl 0 rfl) ?_
      refine lv_iload_n hx hb dX3_noBarExceeds_14 rfl (lv_at hl 1 rfl) ?_
      refine lf_callVl (rest := []) F hh (cw_X3_144 F.1.2.2.2.2 ⟨Nat.le_of_ble_eq_true rfl, Nat.le_of_ble_eq_true rfl⟩) (c_X3_slackTop l D ha cy H.size σ x1 _ hw) 19 3 rfl rfl rfl rfl hl.1 (Nat.le_of_ble_eq_true rfl) dX3_noBarExceeds_15 rfl (fun r2 σ2 H locs hw hh => ?_)
      refine lv_lconst (v := 0) hx hb dX3_noBarExceeds_18 (by decide) ?_
      refine lf_lcmp_ge (tgt := 25) hx hb dX3_noBarExceeds_19 dX3_noBarExceeds_20 (by decide) (fun c3 => ?_) (fun c3 => ?_)
      · have hw := hw.1 c3
        obtain ⟨v4, ev4⟩ : ∃ y : Int32, y = x1 + 1 := ⟨_, rfl⟩
        have hw := hw v4 ev4
        refine lv_iinc (v := v4) (lv' := [(1, .int v4), (0, .ref (ha 19))]) hx hb dX3_noBarExceeds_25 hl (k := 1) rfl (by rw [ev4]; rfl) (by decide) rfl (fun ls hl => ?_)
        refine lv_goto (tgt := 2) hx hb dX3_noBarExceeds_28 (by decide) ?_
        exact ih v4 σ2 _ _ _ hh (lv_sub hl [1, 0] rfl) hw
      · have hw := hw.2 c3
        refine lv_iconst (v := 0) hx hb dX3_noBarExceeds_23 (by decide) ?_
        exact lf_retz F hh rfl hw dX3_noBarExceeds_24
set_option maxHeartbeats 4000000 in
set_option maxRecDepth 100000 in
theorem c_X3_noBarExceeds (l : Launch) (D : va_G) (ha : Nat → Nat) (cy : Nat → ClassId) (sz : Nat) (σ : lf_St) (Post : Int32 → lf_St → Prop) (hw : wp_X3_noBarExceeds σ Post) : lf_Mi l yX3_noBarExceeds (lf_ws yX3_noBarExceeds cX3_noBarExceeds 2 (some .boolean)) rm_X3_noBarExceeds D (tyC_ cy) (wC_ ha cy) sz σ [.ref (ha 19)] Post := by
  refine lf_ofi (by decide +kernel) (Nat.le_of_ble_eq_true rfl) ?_
  intro p e s m args below meth c A ls F hh hl
  have hx := F.1.1
  have hb := F.1.2.1
  have hl : lv_has ls 2 [(0, .ref (ha 19))] := hl
  obtain ⟨H, hHe⟩ : ∃ H, H = s.heap := ⟨_, rfl⟩
  rw [← hHe] at hh ⊢
  unfold wp_X3_noBarExceeds at hw
  refine lv_iconst (v := 0) hx hb dX3_noBarExceeds_0 (by decide) ?_
  refine lv_istore_n (lv' := [(1, .int 0), (0, .ref (ha 19))]) hx hb dX3_noBarExceeds_1 rfl hl (by decide) rfl (fun ls hl => ?_)
  obtain ⟨n2, hw⟩ := hw
  exact w_X3_noBarExceeds_2 Post F  n2 0 σ _ _ _ hh (lv_sub hl [1, 0] rfl) hw
theorem cw_X3_140 {R : Room} {s : State} {args : Array Value} (ht : ∀ w ∈ wsL_law, w.before args s = true) (hR : rm_X1_at.frames + 1 ≤ R.frames ∧ 8 + (3 + 11) + rm_X1_at.locals ≤ R.locals) : lf_cV R s args RX3 RX1 140 yX1_at cX1_at 3 (some .long) rm_X1_at 2 :=
  lf_cV_of 2 ht (lr_17 _ (List.mem_of_getElem? (i := 21) rfl)) (lr_28 _ (List.mem_of_getElem? (i := 16) rfl)) (lr_17 _ (List.mem_of_getElem? (i := 19) rfl)) (lr_17 _ (List.mem_of_getElem? (i := 20) rfl)) (lr_3 _ (List.mem_of_getElem? (i := 4) rfl)) rfl rfl (by decide +kernel) hR
def L_X3_setField_35 (K_16 : Int32 → lf_St → Prop) (Post : lf_St → Prop) : Nat → Int32 → Int64 → Int32 → lf_St → Prop
  | 0, _, _, _, _ => False
  | n + 1, x1, x2, x4, σ => (((lf_gi σ 7) ≤ x4) → (vp_in x1 6 ∧ (∀ v3 : Int32, v3 = x1 + 1 → (K_16 v3 (lf_sb σ 20 x1.toNatClampNeg x2))))) ∧ ((¬ ((lf_gi σ 7) ≤ x4)) → (wp_X1_at x4 x1 σ (fun r4 σ4 => vp_in x4 6 ∧ (∀ v6 : Int64, v6 = (x2 - (r4 * (lf_al σ4 21 x4.toNatClampNeg))) → (∀ v7 : Int32, v7 = x4 + 1 → (L_X3_setField_35 K_16 Post n x1 v6 v7 σ4))))))
def L_X3_setField_16 (Post : lf_St → Prop) : Nat → Int32 → lf_St → Prop
  | 0, _, _ => False
  | n + 1, x1, σ => (((lf_gi σ 7) ≤ x1) → (Post σ)) ∧ ((¬ ((lf_gi σ 7) ≤ x1)) → (∃ fu : Nat, L_X3_setField_35 (L_X3_setField_16 Post n) Post fu x1 0 0 σ))
def wp_X3_setField (σ : lf_St) (Post : lf_St → Prop) : Prop := ∃ fu : Nat, L_X3_setField_16 Post fu 0 (lf_sl σ 1 (lf_gl σ (20 + 4)))
def rm_X3_setField : Room := ({ frames := 1, cells := 0, slots := 0, locals := 22 } : Room)
set_option maxHeartbeats 4000000 in
set_option maxRecDepth 100000 in
theorem w_X3_setField_35 {p : Program} {l : Launch} {e : Env} {s : State} {m : MethodId} {args : Array Value} {below : List Frame} {meth : Method} {c : Code} {D : va_G} {A : Nat → Prop} {ha : Nat → Nat} {cy : Nat → ClassId} (K_16 : Int32 → lf_St → Prop) (Post : lf_St → Prop) (F : lf_C p s m args meth c RX3 cX3_setField 5 none D (tyC_ cy) A) (hK_16 : ∀ (x1 : Int32) (σ : lf_St) (H : Heap) (locs : List Loc) (ls : Array Slot), lf_H D (wC_ ha cy) A s σ H locs → lv_has ls 5 [(0, .ref (ha 19)), (1, .int x1)] → K_16 x1 σ → W p l e rm_X3_setField s m args below meth c H locs 0 0 (lf_Qv below args s D (tyC_ cy) A (wC_ ha cy) Post) (F0 m 16 ls [])) : ∀ (n : Nat) (x1 : Int32) (x2 : Int64) (x4 : Int32) (σ : lf_St) (H : Heap) (locs : List Loc) (ls : Array Slot), lf_H D (wC_ ha cy) A s σ H locs → lv_has ls 5 [(0, .ref (ha 19)), (1, .int x1), (2, .long x2), (4, .int x4)] → L_X3_setField_35 K_16 Post n x1 x2 x4 σ → W p l e rm_X3_setField s m args below meth c H locs 0 0 (lf_Qv below args s D (tyC_ cy) A (wC_ ha cy) Post) (F0 m 35 ls []) := by
  have hx := F.1.1
  have hb := F.1.2.1
  intro n
  induction n with
  | zero =>
    intro x1 x2 x4 σ H locs ls hh hl hw
    exact False.elim hw
  | succ n ih =>
    intro x1 x2 x4 σ H locs ls hh hl hw
    unfold L_X3_setField_35 at hw
    refine lv_iload hx hb dX3_setField_35 (lv_at hl 3 rfl) ?_
    refine lv_aload_n hx hb dX3_setField_37 rfl (lv_at hl 0 rfl) ?_
    refine fg_X3_26 F hh dX3_setField_38 ?_
    refine fg_X3_99 F hh dX3_setField_41 ?_
    refine fg_X3_103 F hh dX3_setField_44 ?_
    refine lv_icmp_ge (tgt := 80) hx hb dX3_setField_47 (by decide) (fun c1 => ?_) (fun c1 => ?_)
    · have hw := hw.1 c1
      refine lv_aload_n hx hb dX3_setField_80 rfl (lv_at hl 0 rfl) ?_
      refine fg_X3_15 F hh dX3_setField_81 ?_
      refine lv_iload_n hx hb dX3_setField_84 rfl (lv_at hl 1 rfl) ?_
      refine lv_lload_n hx hb dX3_setField_85 rfl (lv_at hl 2 rfl) ?_
      obtain ⟨q2, hw⟩ := hw
      refine wa_C_20 F hh q2 dX3_setField_86 (fun H locs hh => ?_)
      obtain ⟨v3, ev3⟩ : ∃ y : Int32, y = x1 + 1 := ⟨_, rfl⟩
      have hw := hw v3 ev3
      refine lv_iinc (v := v3) (lv' := [(1, .int v3), (0, .ref (ha 19)), (2, .long x2), (4, .int x4)]) hx hb dX3_setField_87 hl (k := 1) rfl (by rw [ev3]; rfl) (by decide) rfl (fun ls hl => ?_)
      refine lv_goto (tgt := 16) hx hb dX3_setField_90 (by decide) ?_
      exact hK_16 v3 (lf_sb σ 20 x1.toNatClampNeg x2) _ _ _ hh (lv_sub hl [1, 0] rfl) hw
    · have hw := hw.2 c1
      refine lv_lload_n hx hb dX3_setField_50 rfl (lv_at hl 2 rfl) ?_
      refine lv_aload_n hx hb dX3_setField_51 rfl (lv_at hl 0 rfl) ?_
      refine fg_X3_26 F hh dX3_setField_52 ?_
      refine fg_X3_99 F hh dX3_setField_55 ?_
      refine lv_iload hx hb dX3_setField_58 (lv_at hl 3 rfl) ?_
      refine lv_iload_n hx hb dX3_setField_60 rfl (lv_at hl 1 rfl) ?_
      refine lf_callVl (rest := [.long x2]) F hh (cw_X3_140 F.1.2.2.2.2 ⟨Nat.le_of_ble_eq_true rfl, Nat.le_of_ble_eq_true rfl⟩) (c_X1_at l D ha cy H.size σ x4 x1 _ hw) 16 1 rfl rfl rfl rfl hl.1 (Nat.le_of_ble_eq_true rfl) dX3_setField_61 rfl (fun r4 σ4 H locs hw hh => ?_)
      refine lv_aload_n hx hb dX3_setField_64 rfl (lv_at hl 0 rfl) ?_
      refine fg_X3_19 F hh dX3_setField_65 ?_
      refine lv_iload hx hb dX3_setField_68 (lv_at hl 3 rfl) ?_
      obtain ⟨q5, hw⟩ := hw
      refine ra_C_21 F hh q5 dX3_setField_70 ?_
      refine lv_lmul hx hb dX3_setField_71 ?_
      refine lv_lsub hx hb dX3_setField_72 ?_
      refine lv_topl (fun v6 ev6 => ?_)
      have hw := hw v6 ev6
      refine lv_lstore_n (lv' := [(2, .long v6), (0, .ref (ha 19)), (1, .int x1), (4, .int x4)]) hx hb dX3_setField_73 rfl hl (by decide) rfl (fun ls hl => ?_)
      obtain ⟨v7, ev7⟩ : ∃ y : Int32, y = x4 + 1 := ⟨_, rfl⟩
      have hw := hw v7 ev7
      refine lv_iinc (v := v7) (lv' := [(4, .int v7), (2, .long v6), (0, .ref (ha 19)), (1, .int x1)]) hx hb dX3_setField_74 hl (k := 3) rfl (by rw [ev7]; rfl) (by decide) rfl (fun ls hl => ?_)
      refine lv_goto (tgt := 35) hx hb dX3_setField_77 (by decide) ?_
      exact ih x1 v6 v7 σ4 _ _ _ hh (lv_sub hl [2, 3, 1, 0] rfl) hw
set_option maxHeartbeats 4000000 in
set_option maxRecDepth 100000 in
theorem w_X3_setField_16 {p : Program} {l : Launch} {e : Env} {s : State} {m : MethodId} {args : Array Value} {below : List Frame} {meth : Method} {c : Code} {D : va_G} {A : Nat → Prop} {ha : Nat → Nat} {cy : Nat → ClassId} (Post : lf_St → Prop) (F : lf_C p s m args meth c RX3 cX3_setField 5 none D (tyC_ cy) A) : ∀ (n : Nat) (x1 : Int32) (σ : lf_St) (H : Heap) (locs : List Loc) (ls : Array Slot), lf_H D (wC_ ha cy) A s σ H locs → lv_has ls 5 [(0, .ref (ha 19)), (1, .int x1)] → L_X3_setField_16 Post n x1 σ → W p l e rm_X3_setField s m args below meth c H locs 0 0 (lf_Qv below args s D (tyC_ cy) A (wC_ ha cy) Post) (F0 m 16 ls []) := by
  have hx := F.1.1
  have hb := F.1.2.1
  intro n
  induction n with
  | zero =>
    intro x1 σ H locs ls hh hl hw
    exact False.elim hw
  | succ n ih =>
    intro x1 σ H locs ls hh hl hw
    unfold L_X3_setField_16 at hw
    refine lv_iload_n hx hb dX3_setField_16 rfl (lv_at hl 1 rfl) ?_
    refine lv_aload_n hx hb dX3_setField_17 rfl (lv_at hl 0 rfl) ?_
    refine fg_X3_26 F hh dX3_setField_18 ?_
    refine fg_X3_99 F hh dX3_setField_21 ?_
    refine fg_X3_103 F hh dX3_setField_24 ?_
    refine lv_icmp_ge (tgt := 93) hx hb dX3_setField_27 (by decide) (fun c1 => ?_) (fun c1 => ?_)
    · have hw := hw.1 c1
      exact lf_retv F hh hw dX3_setField_93
    · have hw := hw.2 c1
      refine lv_lconst (v := 0) hx hb dX3_setField_30 (by decide) ?_
      refine lv_lstore_n (lv' := [(2, .long 0), (0, .ref (ha 19)), (1, .int x1)]) hx hb dX3_setField_31 rfl hl (by decide) rfl (fun ls hl => ?_)
      refine lv_iconst (v := 0) hx hb dX3_setField_32 (by decide) ?_
      refine lv_istore (lv' := [(4, .int 0), (2, .long 0), (0, .ref (ha 19)), (1, .int x1)]) hx hb dX3_setField_33 hl (by decide) rfl (fun ls hl => ?_)
      obtain ⟨n35, hw⟩ := hw
      exact w_X3_setField_35 _ Post F ih n35 x1 0 0 σ _ _ _ hh (lv_sub hl [2, 3, 1, 0] rfl) hw
set_option maxHeartbeats 4000000 in
set_option maxRecDepth 100000 in
theorem c_X3_setField (l : Launch) (D : va_G) (ha : Nat → Nat) (cy : Nat → ClassId) (sz : Nat) (σ : lf_St) (Post : lf_St → Prop) (hw : wp_X3_setField σ Post) : lf_Mv l yX3_setField (lf_ws yX3_setField cX3_setField 5 none) rm_X3_setField D (tyC_ cy) (wC_ ha cy) sz σ [.ref (ha 19)] Post := by
  refine lf_ofv (by decide +kernel) (Nat.le_of_ble_eq_true rfl) ?_
  intro p e s m args below meth c A ls F hh hl
  have hx := F.1.1
  have hb := F.1.2.1
  have hl : lv_has ls 5 [(0, .ref (ha 19))] := hl
  obtain ⟨H, hHe⟩ : ∃ H, H = s.heap := ⟨_, rfl⟩
  rw [← hHe] at hh ⊢
  unfold wp_X3_setField at hw
  refine lv_aload_n hx hb dX3_setField_0 rfl (lv_at hl 0 rfl) ?_
  refine lv_aload_n hx hb dX3_setField_1 rfl (lv_at hl 0 rfl) ?_
  refine fg_X3_26 F hh dX3_setField_2 ?_
  refine fg_X3_95 F hh dX3_setField_5 ?_
  refine fg_X3_89 F hh 4 (by decide) dX3_setField_8 ?_
  refine fp_X3_9 F hh dX3_setField_11 (fun H locs hh => ?_)
  refine lv_iconst (v := 0) hx hb dX3_setField_14 (by decide) ?_
  refine lv_istore_n (lv' := [(1, .int 0), (0, .ref (ha 19))]) hx hb dX3_setField_15 rfl hl (by decide) rfl (fun ls hl => ?_)
  obtain ⟨n16, hw⟩ := hw
  exact w_X3_setField_16 Post F  n16 0 (lf_sl σ 1 (lf_gl σ (20 + 4))) _ _ _ hh (lv_sub hl [1, 0] rfl) hw
