def J_X6_numberOf_92 (Post : Int64 → lf_St → Prop) (x2 : Int64) (x4 : Int32) (x5 : Int32) (σ : lf_St) : Prop := vp_in x5 6 ∧ ((((lf_ai σ 13 x5.toNatClampNeg) < 0) → (Post x2 σ)) ∧ ((¬ ((lf_ai σ 13 x5.toNatClampNeg) < 0)) → (vp_in x5 6 ∧ (vp_in x4 6 ∧ (vp_in x5 6 ∧ (vp_in (lf_ai σ 13 x5.toNatClampNeg) 6 ∧ (vp_in x5 6 ∧ (vp_in x4 6 ∧ (vp_in x5 6 ∧ (vp_in ((lf_ai σ 13 x5.toNatClampNeg) + 1) 6 ∧ (∀ v11 : Int64, v11 = (x2 + ((((((lf_ai σ 1 x5.toNatClampNeg) - (lf_ai σ 1 x4.toNatClampNeg)) : Int32).toInt64) * (lf_al σ 24 ((lf_ai σ 13 x5.toNatClampNeg) : Int32).toNatClampNeg)) + (((((lf_ai σ 2 x5.toNatClampNeg) - (lf_ai σ 2 x4.toNatClampNeg)) : Int32).toInt64) * (lf_al σ 24 (((lf_ai σ 13 x5.toNatClampNeg) + 1) : Int32).toNatClampNeg)))) → (Post v11 σ))))))))))))
def wp_X6_numberOf (x1 : Int32) (σ : lf_St) (Post : Int64 → lf_St → Prop) : Prop := vp_in x1 10 ∧ (∀ v2 : Int32, v2 = (lf_ai σ 7 x1.toNatClampNeg) → (vp_in x1 10 ∧ (∀ v4 : Int32, v4 = (lf_ai σ 8 x1.toNatClampNeg) → (vp_in v2 6 ∧ ((((lf_ai σ 13 v2.toNatClampNeg) < 0) → (J_X6_numberOf_92 Post 0 v2 v4 σ)) ∧ ((¬ ((lf_ai σ 13 v2.toNatClampNeg) < 0)) → (vp_in v2 6 ∧ (vp_in v4 6 ∧ (vp_in v2 6 ∧ (vp_in (lf_ai σ 13 v2.toNatClampNeg) 6 ∧ (vp_in v2 6 ∧ (vp_in v4 6 ∧ (vp_in v2 6 ∧ (vp_in ((lf_ai σ 13 v2.toNatClampNeg) + 1) 6 ∧ (∀ v15 : Int64, v15 = (0 + ((((((lf_ai σ 1 v2.toNatClampNeg) - (lf_ai σ 1 v4.toNatClampNeg)) : Int32).toInt64) * (lf_al σ 24 ((lf_ai σ 13 v2.toNatClampNeg) : Int32).toNatClampNeg)) + (((((lf_ai σ 2 v2.toNatClampNeg) - (lf_ai σ 2 v4.toNatClampNeg)) : Int32).toInt64) * (lf_al σ 24 (((lf_ai σ 13 v2.toNatClampNeg) + 1) : Int32).toNatClampNeg)))) → (J_X6_numberOf_92 Post v15 v2 v4 σ))))))))))))))))
def rm_X6_numberOf : Room := ({ frames := 0, cells := 0, slots := 0, locals := 0 } : Room)
set_option maxHeartbeats 4000000 in
set_option maxRecDepth 100000 in
theorem w_X6_numberOf_92 {p : Program} {l : Launch} {e : Env} {s : State} {m : MethodId} {args : Array Value} {below : List Frame} {meth : Method} {c : Code} {D : va_G} {A : Nat → Prop} {ha : Nat → Nat} {cy : Nat → ClassId} (Post : Int64 → lf_St → Prop) (F : lf_C p s m args meth c RX6 cX6_numberOf 6 (some .long) D (tyM_ cy) A) (x2 : Int64) (x4 : Int32) (x5 : Int32) (σ : lf_St) (H : Heap) (locs : List Loc) (ls : Array Slot) (hh : lf_H D (wM_ ha cy) A s σ H locs) (hl : lv_has ls 6 [(0, .ref (ha 0)), (2, .long x2), (4, .int x4), (5, .int x5)]) (hw : J_X6_numberOf_92 Post x2 x4 x5 σ) : W p l e rm_X6_numberOf s m args below meth c H locs 0 0 (lf_Ql below args s D (tyM_ cy) A (wM_ ha cy) Post) (F0 m 92 ls []) := by
  have hx := F.1.1
  have hb := F.1.2.1
  unfold J_X6_numberOf_92 at hw
  refine lv_aload_n hx hb dX6_numberOf_92 rfl (lv_at hl 0 rfl) ?_
  refine fg_X6_35 F hh dX6_numberOf_93 ?_
  refine lv_iload hx hb dX6_numberOf_96 (lv_at hl 3 rfl) ?_
  obtain ⟨q1, hw⟩ := hw
  refine ra_M_13 F hh q1 dX6_numberOf_98 ?_
  refine lv_if_lt (tgt := 166) hx hb dX6_numberOf_99 (by decide) (fun c2 => ?_) (fun c2 => ?_)
  · have hw := hw.1 c2
    refine lv_lload_n hx hb dX6_numberOf_166 rfl (lv_at hl 1 rfl) ?_
    exact lf_retl F hh hw dX6_numberOf_167
  · have hw := hw.2 c2
    refine lv_lload_n hx hb dX6_numberOf_102 rfl (lv_at hl 1 rfl) ?_
    refine lv_aload_n hx hb dX6_numberOf_103 rfl (lv_at hl 0 rfl) ?_
    refine fg_X6_7 F hh dX6_numberOf_104 ?_
    refine lv_iload hx hb dX6_numberOf_107 (lv_at hl 3 rfl) ?_
    obtain ⟨q3, hw⟩ := hw
    refine ra_M_1 F hh q3 dX6_numberOf_109 ?_
    refine lv_aload_n hx hb dX6_numberOf_110 rfl (lv_at hl 0 rfl) ?_
    refine fg_X6_7 F hh dX6_numberOf_111 ?_
    refine lv_iload hx hb dX6_numberOf_114 (lv_at hl 2 rfl) ?_
    obtain ⟨q4, hw⟩ := hw
    refine ra_M_1 F hh q4 dX6_numberOf_116 ?_
    refine lv_isub hx hb dX6_numberOf_117 ?_
    refine lv_i2l hx hb dX6_numberOf_118 rfl ?_
    refine lv_aload_n hx hb dX6_numberOf_119 rfl (lv_at hl 0 rfl) ?_
    refine fg_X6_54 F hh dX6_numberOf_120 ?_
    refine lv_aload_n hx hb dX6_numberOf_123 rfl (lv_at hl 0 rfl) ?_
    refine fg_X6_35 F hh dX6_numberOf_124 ?_
    refine lv_iload hx hb dX6_numberOf_127 (lv_at hl 3 rfl) ?_
    obtain ⟨q5, hw⟩ := hw
    refine ra_M_13 F hh q5 dX6_numberOf_129 ?_
    obtain ⟨q6, hw⟩ := hw
    refine ra_M_24 F hh q6 dX6_numberOf_130 ?_
    refine lv_lmul hx hb dX6_numberOf_131 ?_
    refine lv_aload_n hx hb dX6_numberOf_132 rfl (lv_at hl 0 rfl) ?_
    refine fg_X6_13 F hh dX6_numberOf_133 ?_
    refine lv_iload hx hb dX6_numberOf_136 (lv_at hl 3 rfl) ?_
    obtain ⟨q7, hw⟩ := hw
    refine ra_M_2 F hh q7 dX6_numberOf_138 ?_
    refine lv_aload_n hx hb dX6_numberOf_139 rfl (lv_at hl 0 rfl) ?_
    refine fg_X6_13 F hh dX6_numberOf_140 ?_
    refine lv_iload hx hb dX6_numberOf_143 (lv_at hl 2 rfl) ?_
    obtain ⟨q8, hw⟩ := hw
    refine ra_M_2 F hh q8 dX6_numberOf_145 ?_
    refine lv_isub hx hb dX6_numberOf_146 ?_
    refine lv_i2l hx hb dX6_numberOf_147 rfl ?_
    refine lv_aload_n hx hb dX6_numberOf_148 rfl (lv_at hl 0 rfl) ?_
    refine fg_X6_54 F hh dX6_numberOf_149 ?_
    refine lv_aload_n hx hb dX6_numberOf_152 rfl (lv_at hl 0 rfl) ?_
    refine fg_X6_35 F hh dX6_numberOf_153 ?_
    refine lv_iload hx hb dX6_numberOf_156 (lv_at hl 3 rfl) ?_
    obtain ⟨q9, hw⟩ := hw
    refine ra_M_13 F hh q9 dX6_numberOf_158 ?_
    refine lv_iconst (v := 1) hx hb dX6_numberOf_159 (by decide) ?_
    refine lv_iadd hx hb dX6_numberOf_160 ?_
    obtain ⟨q10, hw⟩ := hw
    refine ra_M_24 F hh q10 dX6_numberOf_161 ?_
    refine lv_lmul hx hb dX6_numberOf_162 ?_
    refine lv_ladd hx hb dX6_numberOf_163 ?_
    refine lv_ladd hx hb dX6_numberOf_164 ?_
    refine lv_topl (fun v11 ev11 => ?_)
    have hw := hw v11 ev11
    refine lv_lstore_n (lv' := [(2, .long v11), (0, .ref (ha 0)), (4, .int x4), (5, .int x5)]) hx hb dX6_numberOf_165 rfl hl (by decide) rfl (fun ls hl => ?_)
    refine lv_lload_n hx hb dX6_numberOf_166 rfl (lv_at hl 0 rfl) ?_
    exact lf_retl F hh hw dX6_numberOf_167
set_option maxHeartbeats 4000000 in
set_option maxRecDepth 100000 in
theorem c_X6_numberOf (l : Launch) (D : va_G) (ha : Nat → Nat) (cy : Nat → ClassId) (sz : Nat) (σ : lf_St) (x1 : Int32) (Post : Int64 → lf_St → Prop) (hw : wp_X6_numberOf x1 σ Post) : lf_Ml l yX6_numberOf (lf_ws yX6_numberOf cX6_numberOf 6 (some .long)) rm_X6_numberOf D (tyM_ cy) (wM_ ha cy) sz σ [.ref (ha 0), .int x1] Post := by
  refine lf_ofl (by decide +kernel) (Nat.le_of_ble_eq_true rfl) ?_
  intro p e s m args below meth c A ls F hh hl
  have hx := F.1.1
  have hb := F.1.2.1
  have hl : lv_has ls 6 [(0, .ref (ha 0)), (1, .int x1)] := hl
  obtain ⟨H, hHe⟩ : ∃ H, H = s.heap := ⟨_, rfl⟩
  rw [← hHe] at hh ⊢
  unfold wp_X6_numberOf at hw
  refine lv_lconst (v := 0) hx hb dX6_numberOf_0 (by decide) ?_
  refine lv_lstore_n (lv' := [(2, .long 0), (0, .ref (ha 0)), (1, .int x1)]) hx hb dX6_numberOf_1 rfl hl (by decide) rfl (fun ls hl => ?_)
  refine lv_aload_n hx hb dX6_numberOf_2 rfl (lv_at hl 1 rfl) ?_
  refine fg_X6_26 F hh dX6_numberOf_3 ?_
  refine lv_iload_n hx hb dX6_numberOf_6 rfl (lv_at hl 2 rfl) ?_
  obtain ⟨q1, hw⟩ := hw
  refine ra_M_7 F hh q1 dX6_numberOf_7 ?_
  refine lv_topi (fun v2 ev2 => ?_)
  have hw := hw v2 ev2
  refine lv_istore (lv' := [(4, .int v2), (2, .long 0), (0, .ref (ha 0)), (1, .int x1)]) hx hb dX6_numberOf_8 hl (by decide) rfl (fun ls hl => ?_)
  refine lv_aload_n hx hb dX6_numberOf_10 rfl (lv_at hl 2 rfl) ?_
  refine fg_X6_29 F hh dX6_numberOf_11 ?_
  refine lv_iload_n hx hb dX6_numberOf_14 rfl (lv_at hl 3 rfl) ?_
  obtain ⟨q3, hw⟩ := hw
  refine ra_M_8 F hh q3 dX6_numberOf_15 ?_
  refine lv_topi (fun v4 ev4 => ?_)
  have hw := hw v4 ev4
  refine lv_istore (lv' := [(5, .int v4), (4, .int v2), (2, .long 0), (0, .ref (ha 0)), (1, .int x1)]) hx hb dX6_numberOf_16 hl (by decide) rfl (fun ls hl => ?_)
  refine lv_aload_n hx hb dX6_numberOf_18 rfl (lv_at hl 3 rfl) ?_
  refine fg_X6_35 F hh dX6_numberOf_19 ?_
  refine lv_iload hx hb dX6_numberOf_22 (lv_at hl 1 rfl) ?_
  obtain ⟨q5, hw⟩ := hw
  refine ra_M_13 F hh q5 dX6_numberOf_24 ?_
  refine lv_if_lt (tgt := 92) hx hb dX6_numberOf_25 (by decide) (fun c6 => ?_) (fun c6 => ?_)
  · have hw := hw.1 c6
    exact w_X6_numberOf_92 Post F  0 v2 v4 σ _ _ _ hh (lv_sub hl [3, 2, 1, 0] rfl) hw
  · have hw := hw.2 c6
    refine lv_lload_n hx hb dX6_numberOf_28 rfl (lv_at hl 2 rfl) ?_
    refine lv_aload_n hx hb dX6_numberOf_29 rfl (lv_at hl 3 rfl) ?_
    refine fg_X6_7 F hh dX6_numberOf_30 ?_
    refine lv_iload hx hb dX6_numberOf_33 (lv_at hl 1 rfl) ?_
    obtain ⟨q7, hw⟩ := hw
    refine ra_M_1 F hh q7 dX6_numberOf_35 ?_
    refine lv_aload_n hx hb dX6_numberOf_36 rfl (lv_at hl 3 rfl) ?_
    refine fg_X6_7 F hh dX6_numberOf_37 ?_
    refine lv_iload hx hb dX6_numberOf_40 (lv_at hl 0 rfl) ?_
    obtain ⟨q8, hw⟩ := hw
    refine ra_M_1 F hh q8 dX6_numberOf_42 ?_
    refine lv_isub hx hb dX6_numberOf_43 ?_
    refine lv_i2l hx hb dX6_numberOf_44 rfl ?_
    refine lv_aload_n hx hb dX6_numberOf_45 rfl (lv_at hl 3 rfl) ?_
    refine fg_X6_54 F hh dX6_numberOf_46 ?_
    refine lv_aload_n hx hb dX6_numberOf_49 rfl (lv_at hl 3 rfl) ?_
    refine fg_X6_35 F hh dX6_numberOf_50 ?_
    refine lv_iload hx hb dX6_numberOf_53 (lv_at hl 1 rfl) ?_
    obtain ⟨q9, hw⟩ := hw
    refine ra_M_13 F hh q9 dX6_numberOf_55 ?_
    obtain ⟨q10, hw⟩ := hw
    refine ra_M_24 F hh q10 dX6_numberOf_56 ?_
    refine lv_lmul hx hb dX6_numberOf_57 ?_
    refine lv_aload_n hx hb dX6_numberOf_58 rfl (lv_at hl 3 rfl) ?_
    refine fg_X6_13 F hh dX6_numberOf_59 ?_
    refine lv_iload hx hb dX6_numberOf_62 (lv_at hl 1 rfl) ?_
    obtain ⟨q11, hw⟩ := hw
    refine ra_M_2 F hh q11 dX6_numberOf_64 ?_
    refine lv_aload_n hx hb dX6_numberOf_65 rfl (lv_at hl 3 rfl) ?_
    refine fg_X6_13 F hh dX6_numberOf_66 ?_
    refine lv_iload hx hb dX6_numberOf_69 (lv_at hl 0 rfl) ?_
    obtain ⟨q12, hw⟩ := hw
    refine ra_M_2 F hh q12 dX6_numberOf_71 ?_
    refine lv_isub hx hb dX6_numberOf_72 ?_
    refine lv_i2l hx hb dX6_numberOf_73 rfl ?_
    refine lv_aload_n hx hb dX6_numberOf_74 rfl (lv_at hl 3 rfl) ?_
    refine fg_X6_54 F hh dX6_numberOf_75 ?_
    refine lv_aload_n hx hb dX6_numberOf_78 rfl (lv_at hl 3 rfl) ?_
    refine fg_X6_35 F hh dX6_numberOf_79 ?_
    refine lv_iload hx hb dX6_numberOf_82 (lv_at hl 1 rfl) ?_
    obtain ⟨q13, hw⟩ := hw
    refine ra_M_13 F hh q13 dX6_numberOf_84 ?_
    refine lv_iconst (v := 1) hx hb dX6_numberOf_85 (by decide) ?_
    refine lv_iadd hx hb dX6_numberOf_86 ?_
    obtain ⟨q14, hw⟩ := hw
    refine ra_M_24 F hh q14 dX6_numberOf_87 ?_
    refine lv_lmul hx hb dX6_numberOf_88 ?_
    refine lv_ladd hx hb dX6_numberOf_89 ?_
    refine lv_ladd hx hb dX6_numberOf_90 ?_
    refine lv_topl (fun v15 ev15 => ?_)
    have hw := hw v15 ev15
    refine lv_lstore_n (lv' := [(2, .long v15), (5, .int v4), (4, .int v2), (0, .ref (ha 0)), (1, .int x1)]) hx hb dX6_numberOf_91 rfl hl (by decide) rfl (fun ls hl => ?_)
    exact w_X6_numberOf_92 Post F  v15 v2 v4 σ _ _ _ hh (lv_sub hl [3, 0, 2, 1] rfl) hw
theorem cw_X6_204 {R : Room} {s : State} {args : Array Value} (ht : ∀ w ∈ wsL_law, w.before args s = true) (hR : rm_X6_numberOf.frames + 1 ≤ R.frames ∧ 8 + (6 + 11) + rm_X6_numberOf.locals ≤ R.locals) : lf_cV R s args RX6 RX6 204 yX6_numberOf cX6_numberOf 6 (some .long) rm_X6_numberOf 1 :=
  lf_cV_of 1 ht (lr_30 _ (List.mem_of_getElem? (i := 8) rfl)) (lr_30 _ (List.mem_of_getElem? (i := 5) rfl)) (lr_30 _ (List.mem_of_getElem? (i := 6) rfl)) (lr_30 _ (List.mem_of_getElem? (i := 7) rfl)) (lr_1 _ (List.mem_of_getElem? (i := 5) rfl)) rfl rfl (by decide +kernel) hR
def L_X6_isGood_409 (Post : Int32 → lf_St → Prop) : Nat → Int32 → Int32 → lf_St → Prop
  | 0, _, _, _ => False
  | n + 1, x3, x7, σ => (((lf_gi σ 6) ≤ x7) → ((fits .boolean (.int x3) = true) ∧ Post x3 σ)) ∧ ((¬ ((lf_gi σ 6) ≤ x7)) → (((x3 = 0) → ((fits .boolean (.int x3) = true) ∧ Post x3 σ)) ∧ ((¬ (x3 = 0)) → (wp_X6_numberOf x7 σ (fun r5 σ5 => wp_X6_abs r5 σ5 (fun r6 σ6 => wp_X6_stuff x7 σ6 (fun r7 σ7 => ((((r7.toInt64) * (lf_gl σ7 25)) < r6) → (∀ v9 : Int32, v9 = x7 + 1 → (L_X6_isGood_409 Post n 0 v9 σ7))) ∧ ((¬ (((r7.toInt64) * (lf_gl σ7 25)) < r6)) → (∀ v10 : Int32, v10 = x7 + 1 → (L_X6_isGood_409 Post n 1 v10 σ7))))))))))
def L_X6_isGood_352 (Post : Int32 → lf_St → Prop) : Nat → Int32 → Int64 → Int32 → lf_St → Prop
  | 0, _, _, _, _ => False
  | n + 1, x3, x5, x7, σ => (((lf_gi σ 14) ≤ x7) → (wp_X6_abs x5 σ (fun r2 σ2 => ∃ fu : Nat, L_X6_isGood_409 Post fu x3 0 (lf_sl σ2 25 r2)))) ∧ ((¬ ((lf_gi σ 14) ≤ x7)) → (wp_X6_determinant x7 σ (fun r3 σ3 => ((0 ≤ x5) → (vp_in x7 6 ∧ (∀ v6 : Int32, v6 = x7 + 1 → (L_X6_isGood_352 Post n x3 x5 v6 (lf_sb σ3 24 x7.toNatClampNeg r3))))) ∧ ((¬ (0 ≤ x5)) → (vp_in x7 6 ∧ (∀ v8 : Int32, v8 = x7 + 1 → (L_X6_isGood_352 Post n x3 x5 v8 (lf_sb σ3 24 x7.toNatClampNeg (-r3)))))))))
def J_X6_isGood_266 (K_159 : Int32 → Int32 → lf_St → Prop) (Post : Int32 → lf_St → Prop) (x3 : Int32) (x5 : Int32) (x6 : Int32) (x7 : Int32) (σ : lf_St) : Prop := vp_in x7 6 ∧ ((((lf_ai σ 13 x7.toNatClampNeg) < 0) → (∀ v3 : Int32, v3 = x5 + 1 → (K_159 x3 v3 σ))) ∧ ((¬ ((lf_ai σ 13 x7.toNatClampNeg) < 0)) → (vp_in x7 6 ∧ (vp_in x7 6 ∧ (vp_in x6 6 ∧ (wp_X6_put x5 (lf_ai σ 13 x7.toNatClampNeg) ((((lf_ai σ 1 x7.toNatClampNeg) - (lf_ai σ 1 x6.toNatClampNeg)) : Int32).toInt64) σ (fun σ7 => vp_in x7 6 ∧ (vp_in x7 6 ∧ (vp_in x6 6 ∧ (wp_X6_put x5 ((lf_ai σ7 13 x7.toNatClampNeg) + 1) ((((lf_ai σ7 2 x7.toNatClampNeg) - (lf_ai σ7 2 x6.toNatClampNeg)) : Int32).toInt64) σ7 (fun σ11 => ∀ v12 : Int32, v12 = x5 + 1 → (K_159 x3 v12 σ11))))))))))))
def L_X6_isGood_159 (Post : Int32 → lf_St → Prop) : Nat → Int32 → Int32 → lf_St → Prop
  | 0, _, _, _ => False
  | n + 1, x3, x5, σ => (((lf_gi σ 14) ≤ x5) → (wp_X6_determinant (-1) σ (fun r2 σ2 => ∃ fu : Nat, L_X6_isGood_352 Post fu x3 r2 0 σ2))) ∧ ((¬ ((lf_gi σ 14) ≤ x5)) → (vp_in x5 6 ∧ (vp_in (lf_ai σ 19 x5.toNatClampNeg) 10 ∧ (∀ v5 : Int32, v5 = (lf_ai σ 7 ((lf_ai σ 19 x5.toNatClampNeg) : Int32).toNatClampNeg) → (vp_in x5 6 ∧ (vp_in (lf_ai σ 19 x5.toNatClampNeg) 10 ∧ (∀ v8 : Int32, v8 = (lf_ai σ 8 ((lf_ai σ 19 x5.toNatClampNeg) : Int32).toNatClampNeg) → (vp_in v5 6 ∧ ((((lf_ai σ 13 v5.toNatClampNeg) < 0) → (J_X6_isGood_266 (L_X6_isGood_159 Post n) Post x3 x5 v5 v8 σ)) ∧ ((¬ ((lf_ai σ 13 v5.toNatClampNeg) < 0)) → (vp_in v5 6 ∧ (vp_in v5 6 ∧ (vp_in v8 6 ∧ (wp_X6_put x5 (lf_ai σ 13 v5.toNatClampNeg) ((((lf_ai σ 1 v5.toNatClampNeg) - (lf_ai σ 1 v8.toNatClampNeg)) : Int32).toInt64) σ (fun σ14 => vp_in v5 6 ∧ (vp_in v5 6 ∧ (vp_in v8 6 ∧ (wp_X6_put x5 ((lf_ai σ14 13 v5.toNatClampNeg) + 1) ((((lf_ai σ14 2 v5.toNatClampNeg) - (lf_ai σ14 2 v8.toNatClampNeg)) : Int32).toInt64) σ14 (fun σ18 => J_X6_isGood_266 (L_X6_isGood_159 Post n) Post x3 x5 v5 v8 σ18)))))))))))))))))))
def L_X6_isGood_135 (Post : Int32 → lf_St → Prop) : Nat → Int32 → Int32 → lf_St → Prop
  | 0, _, _, _ => False
  | n + 1, x3, x5, σ => ((36 ≤ x5) → (∃ fu : Nat, L_X6_isGood_159 Post fu x3 0 σ)) ∧ ((¬ (36 ≤ x5)) → (vp_in x5 36 ∧ (∀ v3 : Int32, v3 = x5 + 1 → (L_X6_isGood_135 Post n x3 v3 (lf_sb σ 15 x5.toNatClampNeg 0)))))
def J_X6_isGood_103 (K_12 : Int32 → Int32 → Int32 → Int32 → lf_St → Prop) (Post : Int32 → lf_St → Prop) (x2 : Int32) (x3 : Int32) (x5 : Int32) (x6 : Int64) (x8 : Int32) (t0 : Int32) (t1 : Int32) (σ : lf_St) : Prop := ∀ v1 : Int32, v1 = (t1 + t0) → (((x8 = 0) → (vp_in x5 6 ∧ (∀ v4 : Int32, v4 = x5 + 1 → (K_12 x2 x3 v1 v4 (lf_sb σ 17 x5.toNatClampNeg x6))))) ∧ ((¬ (x8 = 0)) → (vp_in x5 6 ∧ (∀ v6 : Int32, v6 = x5 + 1 → (K_12 x2 x3 v1 v6 (lf_sb σ 17 x5.toNatClampNeg (-x6)))))))
def J_X6_isGood_82 (K_12 : Int32 → Int32 → Int32 → Int32 → lf_St → Prop) (Post : Int32 → lf_St → Prop) (x2 : Int32) (x3 : Int32) (x4 : Int32) (x5 : Int32) (x6 : Int64) (t0 : Int32) (σ : lf_St) : Prop := vp_in x5 6 ∧ (((¬ (lf_al σ 21 x5.toNatClampNeg) = 0) → (J_X6_isGood_103 K_12 Post x2 x3 x5 x6 t0 0 x4 σ)) ∧ (((lf_al σ 21 x5.toNatClampNeg) = 0) → (J_X6_isGood_103 K_12 Post x2 x3 x5 x6 t0 1 x4 σ)))
def L_X6_isGood_12 (Post : Int32 → lf_St → Prop) : Nat → Int32 → Int32 → Int32 → Int32 → lf_St → Prop
  | 0, _, _, _, _, _ => False
  | n + 1, x2, x3, x4, x5, σ => (((lf_gi σ 14) ≤ x5) → (∃ fu : Nat, L_X6_isGood_135 Post fu x3 0 σ)) ∧ ((¬ ((lf_gi σ 14) ≤ x5)) → (vp_in x5 6 ∧ (wp_X6_stuff (lf_ai σ 19 x5.toNatClampNeg) σ (fun r3 σ3 => ∀ v4 : Int64, v4 = r3.toInt64 → (vp_in x5 6 ∧ (((¬ (lf_al σ3 21 x5.toNatClampNeg) = 0) → (vp_in x5 6 ∧ (((0 ≤ (lf_al σ3 21 x5.toNatClampNeg)) → (J_X6_isGood_82 (L_X6_isGood_12 Post n) Post x2 x3 x4 x5 v4 0 σ3)) ∧ ((¬ (0 ≤ (lf_al σ3 21 x5.toNatClampNeg))) → (J_X6_isGood_82 (L_X6_isGood_12 Post n) Post x2 x3 x4 x5 v4 1 σ3))))) ∧ (((lf_al σ3 21 x5.toNatClampNeg) = 0) → (((¬ ((x2 >>> (x4 &&& 31)) &&& 1) = 1) → (J_X6_isGood_82 (L_X6_isGood_12 Post n) Post x2 x3 x4 x5 v4 0 σ3)) ∧ ((((x2 >>> (x4 &&& 31)) &&& 1) = 1) → (J_X6_isGood_82 (L_X6_isGood_12 Post n) Post x2 x3 x4 x5 v4 1 σ3))))))))))
def wp_X6_isGood (x1 : Int32) (x2 : Int32) (σ : lf_St) (Post : Int32 → lf_St → Prop) : Prop := wp_X6_isChoice x1 σ (fun r1 σ1 => ∃ fu : Nat, L_X6_isGood_12 Post fu x2 r1 0 0 σ1)
def rm_X6_isGood : Room := ({ frames := 3, cells := 0, slots := 0, locals := 71 } : Room)
set_option maxHeartbeats 4000000 in
set_option maxRecDepth 100000 in
theorem w_X6_isGood_409 {p : Program} {l : Launch} {e : Env} {s : State} {m : MethodId} {args : Array Value} {below : List Frame} {meth : Method} {c : Code} {D : va_G} {A : Nat → Prop} {ha : Nat → Nat} {cy : Nat → ClassId} (Post : Int32 → lf_St → Prop) (F : lf_C p s m args meth c RX6 cX6_isGood 10 (some .boolean) D (tyM_ cy) A) : ∀ (n : Nat) (x3 : Int32) (x7 : Int32) (σ : lf_St) (H : Heap) (locs : List Loc) (ls : Array Slot), lf_H D (wM_ ha cy) A s σ H locs → lv_has ls 10 [(0, .ref (ha 0)), (3, .int x3), (7, .int x7)] → L_X6_isGood_409 Post n x3 x7 σ → W p l e rm_X6_isGood s m args below meth c H locs 0 0 (lf_Qi below args s D (tyM_ cy) A (wM_ ha cy) Post) (F0 m 409 ls []) := by
  have hx := F.1.1
  have hb := F.1.2.1
  intro n
  induction n with
  | zero =>
    intro x3 x7 σ H locs ls hh hl hw
    exact False.elim hw
  | succ n ih =>
    intro x3 x7 σ H locs ls hh hl hw
    unfold L_X6_isGood_409 at hw
    refine lv_iload hx hb dX6_isGood_409 (lv_at hl 2 rfl) ?_
    refine lv_aload_n hx hb dX6_isGood_411 rfl (lv_at hl 0 rfl) ?_
    refine fg_X6_65 F hh dX6_isGood_412 ?_
    refine lv_icmp_ge (tgt := 459) hx hb dX6_isGood_415 (by decide) (fun c1 => ?_) (fun c1 => ?_)
    · have hw := hw.1 c1
      refine lv_iload_n hx hb dX6_isGood_459 rfl (lv_at hl 1 rfl) ?_
      obtain ⟨q2, hw⟩ := hw
      exact lf_retz F hh (lf_nz q2) hw dX6_isGood_460
    · have hw := hw.2 c1
      refine lv_iload_n hx hb dX6_isGood_418 rfl (lv_at hl 1 rfl) ?_
      refine lv_if_eq (tgt := 459) hx hb dX6_isGood_419 (by decide) (fun c3 => ?_) (fun c3 => ?_)
      · have hw := hw.1 c3
        refine lv_iload_n hx hb dX6_isGood_459 rfl (lv_at hl 1 rfl) ?_
        obtain ⟨q4, hw⟩ := hw
        exact lf_retz F hh (lf_nz q4) hw dX6_isGood_460
      · have hw := hw.2 c3
        refine lv_aload_n hx hb dX6_isGood_422 rfl (lv_at hl 0 rfl) ?_
        refine lv_iload hx hb dX6_isGood_423 (lv_at hl 2 rfl) ?_
        refine lf_callVl (rest := []) F hh (cw_X6_204 F.1.2.2.2.2 ⟨Nat.le_of_ble_eq_true rfl, Nat.le_of_ble_eq_true rfl⟩) (c_X6_numberOf l D ha cy H.size σ x7 _ hw) 0 6 rfl rfl rfl rfl hl.1 (Nat.le_of_ble_eq_true rfl) dX6_isGood_425 rfl (fun r5 σ5 H locs hw hh => ?_)
        refine lf_callSl (rest := []) F hh (cw_X6_140 F.1.2.2.2.2 ⟨Nat.le_of_ble_eq_true rfl, Nat.le_of_ble_eq_true rfl⟩) (c_X6_abs l D ha cy H.size σ5 r5 _ hw) rfl hl.1 (Nat.le_of_ble_eq_true rfl) dX6_isGood_428 rfl (fun r6 σ6 H locs hw hh => ?_)
        refine lv_aload_n hx hb dX6_isGood_431 rfl (lv_at hl 0 rfl) ?_
        refine lv_iload hx hb dX6_isGood_432 (lv_at hl 2 rfl) ?_
        refine lf_callVi (rest := [.long r6]) F hh (cw_X6_93 F.1.2.2.2.2 ⟨Nat.le_of_ble_eq_true rfl, Nat.le_of_ble_eq_true rfl⟩) (c_X6_stuff l D ha cy H.size σ6 x7 _ hw) 0 6 rfl rfl rfl rfl hl.1 (Nat.le_of_ble_eq_true rfl) dX6_isGood_434 rfl (fun r7 σ7 H locs hw hh => ?_)
        refine lv_i2l hx hb dX6_isGood_437 rfl ?_
        refine lv_aload_n hx hb dX6_isGood_438 rfl (lv_at hl 0 rfl) ?_
        refine fg_X6_201 F hh dX6_isGood_439 ?_
        refine lv_lmul hx hb dX6_isGood_442 ?_
        refine lf_lcmp_gt (tgt := 451) hx hb dX6_isGood_443 dX6_isGood_444 (by decide) (fun c8 => ?_) (fun c8 => ?_)
        · have hw := hw.1 c8
          refine lv_iconst (v := 0) hx hb dX6_isGood_451 (by decide) ?_
          refine lv_istore_n (lv' := [(3, .int 0), (0, .ref (ha 0)), (7, .int x7)]) hx hb dX6_isGood_452 rfl hl (by decide) rfl (fun ls hl => ?_)
          obtain ⟨v9, ev9⟩ : ∃ y : Int32, y = x7 + 1 := ⟨_, rfl⟩
          have hw := hw v9 ev9
          refine lv_iinc (v := v9) (lv' := [(7, .int v9), (3, .int 0), (0, .ref (ha 0))]) hx hb dX6_isGood_453 hl (k := 2) rfl (by rw [ev9]; rfl) (by decide) rfl (fun ls hl => ?_)
          refine lv_goto (tgt := 409) hx hb dX6_isGood_456 (by decide) ?_
          exact ih 0 v9 σ7 _ _ _ hh (lv_sub hl [2, 1, 0] rfl) hw
        · have hw := hw.2 c8
          refine lv_iconst (v := 1) hx hb dX6_isGood_447 (by decide) ?_
          refine lv_goto (tgt := 452) hx hb dX6_isGood_448 (by decide) ?_
          refine lv_istore_n (lv' := [(3, .int 1), (0, .ref (ha 0)), (7, .int x7)]) hx hb dX6_isGood_452 rfl hl (by decide) rfl (fun ls hl => ?_)
          obtain ⟨v10, ev10⟩ : ∃ y : Int32, y = x7 + 1 := ⟨_, rfl⟩
          have hw := hw v10 ev10
          refine lv_iinc (v := v10) (lv' := [(7, .int v10), (3, .int 1), (0, .ref (ha 0))]) hx hb dX6_isGood_453 hl (k := 2) rfl (by rw [ev10]; rfl) (by decide) rfl (fun ls hl => ?_)
          refine lv_goto (tgt := 409) hx hb dX6_isGood_456 (by decide) ?_
          exact ih 1 v10 σ7 _ _ _ hh (lv_sub hl [2, 1, 0] rfl) hw
set_option maxHeartbeats 4000000 in
set_option maxRecDepth 100000 in
theorem w_X6_isGood_352 {p : Program} {l : Launch} {e : Env} {s : State} {m : MethodId} {args : Array Value} {below : List Frame} {meth : Method} {c : Code} {D : va_G} {A : Nat → Prop} {ha : Nat → Nat} {cy : Nat → ClassId} (Post : Int32 → lf_St → Prop) (F : lf_C p s m args meth c RX6 cX6_isGood 10 (some .boolean) D (tyM_ cy) A) : ∀ (n : Nat) (x3 : Int32) (x5 : Int64) (x7 : Int32) (σ : lf_St) (H : Heap) (locs : List Loc) (ls : Array Slot), lf_H D (wM_ ha cy) A s σ H locs → lv_has ls 10 [(0, .ref (ha 0)), (3, .int x3), (5, .long x5), (7, .int x7)] → L_X6_isGood_352 Post n x3 x5 x7 σ → W p l e rm_X6_isGood s m args below meth c H locs 0 0 (lf_Qi below args s D (tyM_ cy) A (wM_ ha cy) Post) (F0 m 352 ls []) := by
  have hx := F.1.1
  have hb := F.1.2.1
  intro n
  induction n with
  | zero =>
    intro x3 x5 x7 σ H locs ls hh hl hw
    exact False.elim hw
  | succ n ih =>
    intro x3 x5 x7 σ H locs ls hh hl hw
    unfold L_X6_isGood_352 at hw
    refine lv_iload hx hb dX6_isGood_352 (lv_at hl 3 rfl) ?_
    refine lv_aload_n hx hb dX6_isGood_354 rfl (lv_at hl 0 rfl) ?_
    refine fg_X6_119 F hh dX6_isGood_355 ?_
    refine lv_icmp_ge (tgt := 397) hx hb dX6_isGood_358 (by decide) (fun c1 => ?_) (fun c1 => ?_)
    · have hw := hw.1 c1
      refine lv_aload_n hx hb dX6_isGood_397 rfl (lv_at hl 0 rfl) ?_
      refine lv_lload hx hb dX6_isGood_398 (lv_at hl 2 rfl) ?_
      refine lf_callSl (rest := [.ref (ha 0)]) F hh (cw_X6_140 F.1.2.2.2.2 ⟨Nat.le_of_ble_eq_true rfl, Nat.le_of_ble_eq_true rfl⟩) (c_X6_abs l D ha cy H.size σ x5 _ hw) rfl hl.1 (Nat.le_of_ble_eq_true rfl) dX6_isGood_400 rfl (fun r2 σ2 H locs hw hh => ?_)
      refine fp_X6_201 F hh dX6_isGood_403 (fun H locs hh => ?_)
      refine lv_iconst (v := 0) hx hb dX6_isGood_406 (by decide) ?_
      refine lv_istore (lv' := [(7, .int 0), (0, .ref (ha 0)), (3, .int x3), (5, .long x5)]) hx hb dX6_isGood_407 hl (by decide) rfl (fun ls hl => ?_)
      obtain ⟨n409, hw⟩ := hw
      exact w_X6_isGood_409 Post F  n409 x3 0 (lf_sl σ2 25 r2) _ _ _ hh (lv_sub hl [1, 2, 0] rfl) hw
    · have hw := hw.2 c1
      refine lv_aload_n hx hb dX6_isGood_361 rfl (lv_at hl 0 rfl) ?_
      refine lv_iload hx hb dX6_isGood_362 (lv_at hl 3 rfl) ?_
      refine lf_callVl (rest := []) F hh (cw_X6_132 F.1.2.2.2.2 ⟨Nat.le_of_ble_eq_true rfl, Nat.le_of_ble_eq_true rfl⟩) (c_X6_determinant l D ha cy H.size σ x7 _ hw) 0 6 rfl rfl rfl rfl hl.1 (Nat.le_of_ble_eq_true rfl) dX6_isGood_364 rfl (fun r3 σ3 H locs hw hh => ?_)
      refine lv_lstore (lv' := [(8, .long r3), (0, .ref (ha 0)), (3, .int x3), (5, .long x5), (7, .int x7)]) hx hb dX6_isGood_367 hl (by decide) rfl (fun ls hl => ?_)
      refine lv_aload_n hx hb dX6_isGood_369 rfl (lv_at hl 1 rfl) ?_
      refine fg_X6_54 F hh dX6_isGood_370 ?_
      refine lv_iload hx hb dX6_isGood_373 (lv_at hl 4 rfl) ?_
      refine lv_lload hx hb dX6_isGood_375 (lv_at hl 3 rfl) ?_
      refine lv_lconst (v := 0) hx hb dX6_isGood_377 (by decide) ?_
      refine lf_lcmp_ge (tgt := 388) hx hb dX6_isGood_378 dX6_isGood_379 (by decide) (fun c4 => ?_) (fun c4 => ?_)
      · have hw := hw.1 c4
        refine lv_lload hx hb dX6_isGood_388 (lv_at hl 0 rfl) ?_
        obtain ⟨q5, hw⟩ := hw
        refine wa_M_24 F hh q5 dX6_isGood_390 (fun H locs hh => ?_)
        obtain ⟨v6, ev6⟩ : ∃ y : Int32, y = x7 + 1 := ⟨_, rfl⟩
        have hw := hw v6 ev6
        refine lv_iinc (v := v6) (lv' := [(7, .int v6), (8, .long r3), (0, .ref (ha 0)), (3, .int x3), (5, .long x5)]) hx hb dX6_isGood_391 hl (k := 4) rfl (by rw [ev6]; rfl) (by decide) rfl (fun ls hl => ?_)
        refine lv_goto (tgt := 352) hx hb dX6_isGood_394 (by decide) ?_
        exact ih x3 x5 v6 (lf_sb σ3 24 x7.toNatClampNeg r3) _ _ _ hh (lv_sub hl [2, 3, 4, 0] rfl) hw
      · have hw := hw.2 c4
        refine lv_lload hx hb dX6_isGood_382 (lv_at hl 0 rfl) ?_
        refine lv_lneg hx hb dX6_isGood_384 ?_
        refine lv_goto (tgt := 390) hx hb dX6_isGood_385 (by decide) ?_
        obtain ⟨q7, hw⟩ := hw
        refine wa_M_24 F hh q7 dX6_isGood_390 (fun H locs hh => ?_)
        obtain ⟨v8, ev8⟩ : ∃ y : Int32, y = x7 + 1 := ⟨_, rfl⟩
        have hw := hw v8 ev8
        refine lv_iinc (v := v8) (lv' := [(7, .int v8), (8, .long r3), (0, .ref (ha 0)), (3, .int x3), (5, .long x5)]) hx hb dX6_isGood_391 hl (k := 4) rfl (by rw [ev8]; rfl) (by decide) rfl (fun ls hl => ?_)
        refine lv_goto (tgt := 352) hx hb dX6_isGood_394 (by decide) ?_
        exact ih x3 x5 v8 (lf_sb σ3 24 x7.toNatClampNeg (-r3)) _ _ _ hh (lv_sub hl [2, 3, 4, 0] rfl) hw
set_option maxHeartbeats 4000000 in
set_option maxRecDepth 100000 in
theorem w_X6_isGood_266 {p : Program} {l : Launch} {e : Env} {s : State} {m : MethodId} {args : Array Value} {below : List Frame} {meth : Method} {c : Code} {D : va_G} {A : Nat → Prop} {ha : Nat → Nat} {cy : Nat → ClassId} (K_159 : Int32 → Int32 → lf_St → Prop) (Post : Int32 → lf_St → Prop) (F : lf_C p s m args meth c RX6 cX6_isGood 10 (some .boolean) D (tyM_ cy) A) (hK_159 : ∀ (x3 : Int32) (x5 : Int32) (σ : lf_St) (H : Heap) (locs : List Loc) (ls : Array Slot), lf_H D (wM_ ha cy) A s σ H locs → lv_has ls 10 [(0, .ref (ha 0)), (3, .int x3), (5, .int x5)] → K_159 x3 x5 σ → W p l e rm_X6_isGood s m args below meth c H locs 0 0 (lf_Qi below args s D (tyM_ cy) A (wM_ ha cy) Post) (F0 m 159 ls [])) (x3 : Int32) (x5 : Int32) (x6 : Int32) (x7 : Int32) (σ : lf_St) (H : Heap) (locs : List Loc) (ls : Array Slot) (hh : lf_H D (wM_ ha cy) A s σ H locs) (hl : lv_has ls 10 [(0, .ref (ha 0)), (3, .int x3), (5, .int x5), (6, .int x6), (7, .int x7)]) (hw : J_X6_isGood_266 K_159 Post x3 x5 x6 x7 σ) : W p l e rm_X6_isGood s m args below meth c H locs 0 0 (lf_Qi below args s D (tyM_ cy) A (wM_ ha cy) Post) (F0 m 266 ls []) := by
  have hx := F.1.1
  have hb := F.1.2.1
  unfold J_X6_isGood_266 at hw
  refine lv_aload_n hx hb dX6_isGood_266 rfl (lv_at hl 0 rfl) ?_
  refine fg_X6_35 F hh dX6_isGood_267 ?_
  refine lv_iload hx hb dX6_isGood_270 (lv_at hl 4 rfl) ?_
  obtain ⟨q1, hw⟩ := hw
  refine ra_M_13 F hh q1 dX6_isGood_272 ?_
  refine lv_if_lt (tgt := 336) hx hb dX6_isGood_273 (by decide) (fun c2 => ?_) (fun c2 => ?_)
  · have hw := hw.1 c2
    obtain ⟨v3, ev3⟩ : ∃ y : Int32, y = x5 + 1 := ⟨_, rfl⟩
    have hw := hw v3 ev3
    refine lv_iinc (v := v3) (lv' := [(5, .int v3), (0, .ref (ha 0)), (3, .int x3), (6, .int x6), (7, .int x7)]) hx hb dX6_isGood_336 hl (k := 2) rfl (by rw [ev3]; rfl) (by decide) rfl (fun ls hl => ?_)
    refine lv_goto (tgt := 159) hx hb dX6_isGood_339 (by decide) ?_
    exact hK_159 x3 v3 σ _ _ _ hh (lv_sub hl [1, 2, 0] rfl) hw
  · have hw := hw.2 c2
    refine lv_aload_n hx hb dX6_isGood_276 rfl (lv_at hl 0 rfl) ?_
    refine lv_iload hx hb dX6_isGood_277 (lv_at hl 2 rfl) ?_
    refine lv_aload_n hx hb dX6_isGood_279 rfl (lv_at hl 0 rfl) ?_
    refine fg_X6_35 F hh dX6_isGood_280 ?_
    refine lv_iload hx hb dX6_isGood_283 (lv_at hl 4 rfl) ?_
    obtain ⟨q4, hw⟩ := hw
    refine ra_M_13 F hh q4 dX6_isGood_285 ?_
    refine lv_aload_n hx hb dX6_isGood_286 rfl (lv_at hl 0 rfl) ?_
    refine fg_X6_7 F hh dX6_isGood_287 ?_
    refine lv_iload hx hb dX6_isGood_290 (lv_at hl 4 rfl) ?_
    obtain ⟨q5, hw⟩ := hw
    refine ra_M_1 F hh q5 dX6_isGood_292 ?_
    refine lv_aload_n hx hb dX6_isGood_293 rfl (lv_at hl 0 rfl) ?_
    refine fg_X6_7 F hh dX6_isGood_294 ?_
    refine lv_iload hx hb dX6_isGood_297 (lv_at hl 3 rfl) ?_
    obtain ⟨q6, hw⟩ := hw
    refine ra_M_1 F hh q6 dX6_isGood_299 ?_
    refine lv_isub hx hb dX6_isGood_300 ?_
    refine lv_i2l hx hb dX6_isGood_301 rfl ?_
    refine lf_callVv (rest := []) F hh (cw_X6_122 F.1.2.2.2.2 ⟨Nat.le_of_ble_eq_true rfl, Nat.le_of_ble_eq_true rfl⟩) (c_X6_put l D ha cy H.size σ x5 (lf_ai σ 13 x7.toNatClampNeg) ((((lf_ai σ 1 x7.toNatClampNeg) - (lf_ai σ 1 x6.toNatClampNeg)) : Int32).toInt64) _ hw) 0 6 rfl rfl rfl rfl hl.1 (Nat.le_of_ble_eq_true rfl) dX6_isGood_302 rfl (fun σ7 H locs hw hh => ?_)
    refine lv_aload_n hx hb dX6_isGood_305 rfl (lv_at hl 0 rfl) ?_
    refine lv_iload hx hb dX6_isGood_306 (lv_at hl 2 rfl) ?_
    refine lv_aload_n hx hb dX6_isGood_308 rfl (lv_at hl 0 rfl) ?_
    refine fg_X6_35 F hh dX6_isGood_309 ?_
    refine lv_iload hx hb dX6_isGood_312 (lv_at hl 4 rfl) ?_
    obtain ⟨q8, hw⟩ := hw
    refine ra_M_13 F hh q8 dX6_isGood_314 ?_
    refine lv_iconst (v := 1) hx hb dX6_isGood_315 (by decide) ?_
    refine lv_iadd hx hb dX6_isGood_316 ?_
    refine lv_aload_n hx hb dX6_isGood_317 rfl (lv_at hl 0 rfl) ?_
    refine fg_X6_13 F hh dX6_isGood_318 ?_
    refine lv_iload hx hb dX6_isGood_321 (lv_at hl 4 rfl) ?_
    obtain ⟨q9, hw⟩ := hw
    refine ra_M_2 F hh q9 dX6_isGood_323 ?_
    refine lv_aload_n hx hb dX6_isGood_324 rfl (lv_at hl 0 rfl) ?_
    refine fg_X6_13 F hh dX6_isGood_325 ?_
    refine lv_iload hx hb dX6_isGood_328 (lv_at hl 3 rfl) ?_
    obtain ⟨q10, hw⟩ := hw
    refine ra_M_2 F hh q10 dX6_isGood_330 ?_
    refine lv_isub hx hb dX6_isGood_331 ?_
    refine lv_i2l hx hb dX6_isGood_332 rfl ?_
    refine lf_callVv (rest := []) F hh (cw_X6_122 F.1.2.2.2.2 ⟨Nat.le_of_ble_eq_true rfl, Nat.le_of_ble_eq_true rfl⟩) (c_X6_put l D ha cy H.size σ7 x5 ((lf_ai σ7 13 x7.toNatClampNeg) + 1) ((((lf_ai σ7 2 x7.toNatClampNeg) - (lf_ai σ7 2 x6.toNatClampNeg)) : Int32).toInt64) _ hw) 0 6 rfl rfl rfl rfl hl.1 (Nat.le_of_ble_eq_true rfl) dX6_isGood_333 rfl (fun σ11 H locs hw hh => ?_)
    obtain ⟨v12, ev12⟩ : ∃ y : Int32, y = x5 + 1 := ⟨_, rfl⟩
    have hw := hw v12 ev12
    refine lv_iinc (v := v12) (lv' := [(5, .int v12), (0, .ref (ha 0)), (3, .int x3), (6, .int x6), (7, .int x7)]) hx hb dX6_isGood_336 hl (k := 2) rfl (by rw [ev12]; rfl) (by decide) rfl (fun ls hl => ?_)
    refine lv_goto (tgt := 159) hx hb dX6_isGood_339 (by decide) ?_
    exact hK_159 x3 v12 σ11 _ _ _ hh (lv_sub hl [1, 2, 0] rfl) hw
set_option maxHeartbeats 4000000 in
set_option maxRecDepth 100000 in
theorem w_X6_isGood_159 {p : Program} {l : Launch} {e : Env} {s : State} {m : MethodId} {args : Array Value} {below : List Frame} {meth : Method} {c : Code} {D : va_G} {A : Nat → Prop} {ha : Nat → Nat} {cy : Nat → ClassId} (Post : Int32 → lf_St → Prop) (F : lf_C p s m args meth c RX6 cX6_isGood 10 (some .boolean) D (tyM_ cy) A) : ∀ (n : Nat) (x3 : Int32) (x5 : Int32) (σ : lf_St) (H : Heap) (locs : List Loc) (ls : Array Slot), lf_H D (wM_ ha cy) A s σ H locs → lv_has ls 10 [(0, .ref (ha 0)), (3, .int x3), (5, .int x5)] → L_X6_isGood_159 Post n x3 x5 σ → W p l e rm_X6_isGood s m args below meth c H locs 0 0 (lf_Qi below args s D (tyM_ cy) A (wM_ ha cy) Post) (F0 m 159 ls []) := by
  have hx := F.1.1
  have hb := F.1.2.1
  intro n
  induction n with
  | zero =>
    intro x3 x5 σ H locs ls hh hl hw
    exact False.elim hw
  | succ n ih =>
    intro x3 x5 σ H locs ls hh hl hw
    unfold L_X6_isGood_159 at hw
    refine lv_iload hx hb dX6_isGood_159 (lv_at hl 2 rfl) ?_
    refine lv_aload_n hx hb dX6_isGood_161 rfl (lv_at hl 0 rfl) ?_
    refine fg_X6_119 F hh dX6_isGood_162 ?_
    refine lv_icmp_ge (tgt := 342) hx hb dX6_isGood_165 (by decide) (fun c1 => ?_) (fun c1 => ?_)
    · have hw := hw.1 c1
      refine lv_aload_n hx hb dX6_isGood_342 rfl (lv_at hl 0 rfl) ?_
      refine lv_iconst (v := (-1)) hx hb dX6_isGood_343 (by decide) ?_
      refine lf_callVl (rest := []) F hh (cw_X6_132 F.1.2.2.2.2 ⟨Nat.le_of_ble_eq_true rfl, Nat.le_of_ble_eq_true rfl⟩) (c_X6_determinant l D ha cy H.size σ (-1) _ hw) 0 6 rfl rfl rfl rfl hl.1 (Nat.le_of_ble_eq_true rfl) dX6_isGood_344 rfl (fun r2 σ2 H locs hw hh => ?_)
      refine lv_lstore (lv' := [(5, .long r2), (0, .ref (ha 0)), (3, .int x3)]) hx hb dX6_isGood_347 hl (by decide) rfl (fun ls hl => ?_)
      refine lv_iconst (v := 0) hx hb dX6_isGood_349 (by decide) ?_
      refine lv_istore (lv' := [(7, .int 0), (5, .long r2), (0, .ref (ha 0)), (3, .int x3)]) hx hb dX6_isGood_350 hl (by decide) rfl (fun ls hl => ?_)
      obtain ⟨n352, hw⟩ := hw
      exact w_X6_isGood_352 Post F  n352 x3 r2 0 σ2 _ _ _ hh (lv_sub hl [2, 3, 1, 0] rfl) hw
    · have hw := hw.2 c1
      refine lv_aload_n hx hb dX6_isGood_168 rfl (lv_at hl 0 rfl) ?_
      refine fg_X6_26 F hh dX6_isGood_169 ?_
      refine lv_aload_n hx hb dX6_isGood_172 rfl (lv_at hl 0 rfl) ?_
      refine fg_X6_48 F hh dX6_isGood_173 ?_
      refine lv_iload hx hb dX6_isGood_176 (lv_at hl 2 rfl) ?_
      obtain ⟨q3, hw⟩ := hw
      refine ra_M_19 F hh q3 dX6_isGood_178 ?_
      obtain ⟨q4, hw⟩ := hw
      refine ra_M_7 F hh q4 dX6_isGood_179 ?_
      refine lv_topi (fun v5 ev5 => ?_)
      have hw := hw v5 ev5
      refine lv_istore (lv' := [(6, .int v5), (0, .ref (ha 0)), (3, .int x3), (5, .int x5)]) hx hb dX6_isGood_180 hl (by decide) rfl (fun ls hl => ?_)
      refine lv_aload_n hx hb dX6_isGood_182 rfl (lv_at hl 1 rfl) ?_
      refine fg_X6_29 F hh dX6_isGood_183 ?_
      refine lv_aload_n hx hb dX6_isGood_186 rfl (lv_at hl 1 rfl) ?_
      refine fg_X6_48 F hh dX6_isGood_187 ?_
      refine lv_iload hx hb dX6_isGood_190 (lv_at hl 3 rfl) ?_
      obtain ⟨q6, hw⟩ := hw
      refine ra_M_19 F hh q6 dX6_isGood_192 ?_
      obtain ⟨q7, hw⟩ := hw
      refine ra_M_8 F hh q7 dX6_isGood_193 ?_
      refine lv_topi (fun v8 ev8 => ?_)
      have hw := hw v8 ev8
      refine lv_istore (lv' := [(7, .int v8), (6, .int v5), (0, .ref (ha 0)), (3, .int x3), (5, .int x5)]) hx hb dX6_isGood_194 hl (by decide) rfl (fun ls hl => ?_)
      refine lv_aload_n hx hb dX6_isGood_196 rfl (lv_at hl 2 rfl) ?_
      refine fg_X6_35 F hh dX6_isGood_197 ?_
      refine lv_iload hx hb dX6_isGood_200 (lv_at hl 1 rfl) ?_
      obtain ⟨q9, hw⟩ := hw
      refine ra_M_13 F hh q9 dX6_isGood_202 ?_
      refine lv_if_lt (tgt := 266) hx hb dX6_isGood_203 (by decide) (fun c10 => ?_) (fun c10 => ?_)
      · have hw := hw.1 c10
        exact w_X6_isGood_266 _ Post F ih x3 x5 v5 v8 σ _ _ _ hh (lv_sub hl [2, 3, 4, 1, 0] rfl) hw
      · have hw := hw.2 c10
        refine lv_aload_n hx hb dX6_isGood_206 rfl (lv_at hl 2 rfl) ?_
        refine lv_iload hx hb dX6_isGood_207 (lv_at hl 4 rfl) ?_
        refine lv_aload_n hx hb dX6_isGood_209 rfl (lv_at hl 2 rfl) ?_
        refine fg_X6_35 F hh dX6_isGood_210 ?_
        refine lv_iload hx hb dX6_isGood_213 (lv_at hl 1 rfl) ?_
        obtain ⟨q11, hw⟩ := hw
        refine ra_M_13 F hh q11 dX6_isGood_215 ?_
        refine lv_aload_n hx hb dX6_isGood_216 rfl (lv_at hl 2 rfl) ?_
        refine fg_X6_7 F hh dX6_isGood_217 ?_
        refine lv_iload hx hb dX6_isGood_220 (lv_at hl 1 rfl) ?_
        obtain ⟨q12, hw⟩ := hw
        refine ra_M_1 F hh q12 dX6_isGood_222 ?_
        refine lv_aload_n hx hb dX6_isGood_223 rfl (lv_at hl 2 rfl) ?_
        refine fg_X6_7 F hh dX6_isGood_224 ?_
        refine lv_iload hx hb dX6_isGood_227 (lv_at hl 0 rfl) ?_
        obtain ⟨q13, hw⟩ := hw
        refine ra_M_1 F hh q13 dX6_isGood_229 ?_
        refine lv_isub hx hb dX6_isGood_230 ?_
        refine lv_i2l hx hb dX6_isGood_231 rfl ?_
        refine lf_callVv (rest := []) F hh (cw_X6_122 F.1.2.2.2.2 ⟨Nat.le_of_ble_eq_true rfl, Nat.le_of_ble_eq_true rfl⟩) (c_X6_put l D ha cy H.size σ x5 (lf_ai σ 13 v5.toNatClampNeg) ((((lf_ai σ 1 v5.toNatClampNeg) - (lf_ai σ 1 v8.toNatClampNeg)) : Int32).toInt64) _ hw) 0 6 rfl rfl rfl rfl hl.1 (Nat.le_of_ble_eq_true rfl) dX6_isGood_232 rfl (fun σ14 H locs hw hh => ?_)
        refine lv_aload_n hx hb dX6_isGood_235 rfl (lv_at hl 2 rfl) ?_
        refine lv_iload hx hb dX6_isGood_236 (lv_at hl 4 rfl) ?_
        refine lv_aload_n hx hb dX6_isGood_238 rfl (lv_at hl 2 rfl) ?_
        refine fg_X6_35 F hh dX6_isGood_239 ?_
        refine lv_iload hx hb dX6_isGood_242 (lv_at hl 1 rfl) ?_
        obtain ⟨q15, hw⟩ := hw
        refine ra_M_13 F hh q15 dX6_isGood_244 ?_
        refine lv_iconst (v := 1) hx hb dX6_isGood_245 (by decide) ?_
        refine lv_iadd hx hb dX6_isGood_246 ?_
        refine lv_aload_n hx hb dX6_isGood_247 rfl (lv_at hl 2 rfl) ?_
        refine fg_X6_13 F hh dX6_isGood_248 ?_
        refine lv_iload hx hb dX6_isGood_251 (lv_at hl 1 rfl) ?_
        obtain ⟨q16, hw⟩ := hw
        refine ra_M_2 F hh q16 dX6_isGood_253 ?_
        refine lv_aload_n hx hb dX6_isGood_254 rfl (lv_at hl 2 rfl) ?_
        refine fg_X6_13 F hh dX6_isGood_255 ?_
        refine lv_iload hx hb dX6_isGood_258 (lv_at hl 0 rfl) ?_
        obtain ⟨q17, hw⟩ := hw
        refine ra_M_2 F hh q17 dX6_isGood_260 ?_
        refine lv_isub hx hb dX6_isGood_261 ?_
        refine lv_i2l hx hb dX6_isGood_262 rfl ?_
        refine lf_callVv (rest := []) F hh (cw_X6_122 F.1.2.2.2.2 ⟨Nat.le_of_ble_eq_true rfl, Nat.le_of_ble_eq_true rfl⟩) (c_X6_put l D ha cy H.size σ14 x5 ((lf_ai σ14 13 v5.toNatClampNeg) + 1) ((((lf_ai σ14 2 v5.toNatClampNeg) - (lf_ai σ14 2 v8.toNatClampNeg)) : Int32).toInt64) _ hw) 0 6 rfl rfl rfl rfl hl.1 (Nat.le_of_ble_eq_true rfl) dX6_isGood_263 rfl (fun σ18 H locs hw hh => ?_)
        exact w_X6_isGood_266 _ Post F ih x3 x5 v5 v8 σ18 _ _ _ hh (lv_sub hl [2, 3, 4, 1, 0] rfl) hw
set_option maxHeartbeats 4000000 in
set_option maxRecDepth 100000 in
theorem w_X6_isGood_135 {p : Program} {l : Launch} {e : Env} {s : State} {m : MethodId} {args : Array Value} {below : List Frame} {meth : Method} {c : Code} {D : va_G} {A : Nat → Prop} {ha : Nat → Nat} {cy : Nat → ClassId} (Post : Int32 → lf_St → Prop) (F : lf_C p s m args meth c RX6 cX6_isGood 10 (some .boolean) D (tyM_ cy) A) : ∀ (n : Nat) (x3 : Int32) (x5 : Int32) (σ : lf_St) (H : Heap) (locs : List Loc) (ls : Array Slot), lf_H D (wM_ ha cy) A s σ H locs → lv_has ls 10 [(0, .ref (ha 0)), (3, .int x3), (5, .int x5)] → L_X6_isGood_135 Post n x3 x5 σ → W p l e rm_X6_isGood s m args below meth c H locs 0 0 (lf_Qi below args s D (tyM_ cy) A (wM_ ha cy) Post) (F0 m 135 ls []) := by
  have hx := F.1.1
  have hb := F.1.2.1
  intro n
  induction n with
  | zero =>
    intro x3 x5 σ H locs ls hh hl hw
    exact False.elim hw
  | succ n ih =>
    intro x3 x5 σ H locs ls hh hl hw
    unfold L_X6_isGood_135 at hw
    refine lv_iload hx hb dX6_isGood_135 (lv_at hl 2 rfl) ?_
    refine lv_bipush (v := 36) hx hb dX6_isGood_137 (by decide) ?_
    refine lv_icmp_ge (tgt := 156) hx hb dX6_isGood_139 (by decide) (fun c1 => ?_) (fun c1 => ?_)
    · have hw := hw.1 c1
      refine lv_iconst (v := 0) hx hb dX6_isGood_156 (by decide) ?_
      refine lv_istore (lv' := [(5, .int 0), (0, .ref (ha 0)), (3, .int x3)]) hx hb dX6_isGood_157 hl (by decide) rfl (fun ls hl => ?_)
      obtain ⟨n159, hw⟩ := hw
      exact w_X6_isGood_159 Post F  n159 x3 0 σ _ _ _ hh (lv_sub hl [1, 2, 0] rfl) hw
    · have hw := hw.2 c1
      refine lv_aload_n hx hb dX6_isGood_142 rfl (lv_at hl 0 rfl) ?_
      refine fg_X6_38 F hh dX6_isGood_143 ?_
      refine lv_iload hx hb dX6_isGood_146 (lv_at hl 2 rfl) ?_
      refine lv_lconst (v := 0) hx hb dX6_isGood_148 (by decide) ?_
      obtain ⟨q2, hw⟩ := hw
      refine wa_M_15 F hh q2 dX6_isGood_149 (fun H locs hh => ?_)
      obtain ⟨v3, ev3⟩ : ∃ y : Int32, y = x5 + 1 := ⟨_, rfl⟩
      have hw := hw v3 ev3
      refine lv_iinc (v := v3) (lv' := [(5, .int v3), (0, .ref (ha 0)), (3, .int x3)]) hx hb dX6_isGood_150 hl (k := 2) rfl (by rw [ev3]; rfl) (by decide) rfl (fun ls hl => ?_)
      refine lv_goto (tgt := 135) hx hb dX6_isGood_153 (by decide) ?_
      exact ih x3 v3 (lf_sb σ 15 x5.toNatClampNeg 0) _ _ _ hh (lv_sub hl [1, 2, 0] rfl) hw
set_option maxHeartbeats 4000000 in
set_option maxRecDepth 100000 in
theorem w_X6_isGood_103 {p : Program} {l : Launch} {e : Env} {s : State} {m : MethodId} {args : Array Value} {below : List Frame} {meth : Method} {c : Code} {D : va_G} {A : Nat → Prop} {ha : Nat → Nat} {cy : Nat → ClassId} (K_12 : Int32 → Int32 → Int32 → Int32 → lf_St → Prop) (Post : Int32 → lf_St → Prop) (F : lf_C p s m args meth c RX6 cX6_isGood 10 (some .boolean) D (tyM_ cy) A) (hK_12 : ∀ (x2 : Int32) (x3 : Int32) (x4 : Int32) (x5 : Int32) (σ : lf_St) (H : Heap) (locs : List Loc) (ls : Array Slot), lf_H D (wM_ ha cy) A s σ H locs → lv_has ls 10 [(0, .ref (ha 0)), (2, .int x2), (3, .int x3), (4, .int x4), (5, .int x5)] → K_12 x2 x3 x4 x5 σ → W p l e rm_X6_isGood s m args below meth c H locs 0 0 (lf_Qi below args s D (tyM_ cy) A (wM_ ha cy) Post) (F0 m 12 ls [])) (x2 : Int32) (x3 : Int32) (x5 : Int32) (x6 : Int64) (x8 : Int32) (t0 : Int32) (t1 : Int32) (σ : lf_St) (H : Heap) (locs : List Loc) (ls : Array Slot) (hh : lf_H D (wM_ ha cy) A s σ H locs) (hl : lv_has ls 10 [(0, .ref (ha 0)), (2, .int x2), (3, .int x3), (5, .int x5), (6, .long x6), (8, .int x8)]) (hw : J_X6_isGood_103 K_12 Post x2 x3 x5 x6 x8 t0 t1 σ) : W p l e rm_X6_isGood s m args below meth c H locs 0 0 (lf_Qi below args s D (tyM_ cy) A (wM_ ha cy) Post) (F0 m 103 ls [.int t0, .int t1]) := by
  have hx := F.1.1
  have hb := F.1.2.1
  unfold J_X6_isGood_103 at hw
  refine lv_iadd hx hb dX6_isGood_103 ?_
  refine lv_topi (fun v1 ev1 => ?_)
  have hw := hw v1 ev1
  refine lv_istore (lv' := [(4, .int v1), (0, .ref (ha 0)), (2, .int x2), (3, .int x3), (5, .int x5), (6, .long x6), (8, .int x8)]) hx hb dX6_isGood_104 hl (by decide) rfl (fun ls hl => ?_)
  refine lv_aload_n hx hb dX6_isGood_106 rfl (lv_at hl 1 rfl) ?_
  refine fg_X6_45 F hh dX6_isGood_107 ?_
  refine lv_iload hx hb dX6_isGood_110 (lv_at hl 4 rfl) ?_
  refine lv_iload hx hb dX6_isGood_112 (lv_at hl 6 rfl) ?_
  refine lv_if_eq (tgt := 123) hx hb dX6_isGood_114 (by decide) (fun c2 => ?_) (fun c2 => ?_)
  · have hw := hw.1 c2
    refine lv_lload hx hb dX6_isGood_123 (lv_at hl 5 rfl) ?_
    obtain ⟨q3, hw⟩ := hw
    refine wa_M_17 F hh q3 dX6_isGood_125 (fun H locs hh => ?_)
    obtain ⟨v4, ev4⟩ : ∃ y : Int32, y = x5 + 1 := ⟨_, rfl⟩
    have hw := hw v4 ev4
    refine lv_iinc (v := v4) (lv' := [(5, .int v4), (4, .int v1), (0, .ref (ha 0)), (2, .int x2), (3, .int x3), (6, .long x6), (8, .int x8)]) hx hb dX6_isGood_126 hl (k := 4) rfl (by rw [ev4]; rfl) (by decide) rfl (fun ls hl => ?_)
    refine lv_goto (tgt := 12) hx hb dX6_isGood_129 (by decide) ?_
    exact hK_12 x2 x3 v1 v4 (lf_sb σ 17 x5.toNatClampNeg x6) _ _ _ hh (lv_sub hl [2, 3, 4, 1, 0] rfl) hw
  · have hw := hw.2 c2
    refine lv_lload hx hb dX6_isGood_117 (lv_at hl 5 rfl) ?_
    refine lv_lneg hx hb dX6_isGood_119 ?_
    refine lv_goto (tgt := 125) hx hb dX6_isGood_120 (by decide) ?_
    obtain ⟨q5, hw⟩ := hw
    refine wa_M_17 F hh q5 dX6_isGood_125 (fun H locs hh => ?_)
    obtain ⟨v6, ev6⟩ : ∃ y : Int32, y = x5 + 1 := ⟨_, rfl⟩
    have hw := hw v6 ev6
    refine lv_iinc (v := v6) (lv' := [(5, .int v6), (4, .int v1), (0, .ref (ha 0)), (2, .int x2), (3, .int x3), (6, .long x6), (8, .int x8)]) hx hb dX6_isGood_126 hl (k := 4) rfl (by rw [ev6]; rfl) (by decide) rfl (fun ls hl => ?_)
    refine lv_goto (tgt := 12) hx hb dX6_isGood_129 (by decide) ?_
    exact hK_12 x2 x3 v1 v6 (lf_sb σ 17 x5.toNatClampNeg (-x6)) _ _ _ hh (lv_sub hl [2, 3, 4, 1, 0] rfl) hw
set_option maxHeartbeats 4000000 in
set_option maxRecDepth 100000 in
theorem w_X6_isGood_82 {p : Program} {l : Launch} {e : Env} {s : State} {m : MethodId} {args : Array Value} {below : List Frame} {meth : Method} {c : Code} {D : va_G} {A : Nat → Prop} {ha : Nat → Nat} {cy : Nat → ClassId} (K_12 : Int32 → Int32 → Int32 → Int32 → lf_St → Prop) (Post : Int32 → lf_St → Prop) (F : lf_C p s m args meth c RX6 cX6_isGood 10 (some .boolean) D (tyM_ cy) A) (hK_12 : ∀ (x2 : Int32) (x3 : Int32) (x4 : Int32) (x5 : Int32) (σ : lf_St) (H : Heap) (locs : List Loc) (ls : Array Slot), lf_H D (wM_ ha cy) A s σ H locs → lv_has ls 10 [(0, .ref (ha 0)), (2, .int x2), (3, .int x3), (4, .int x4), (5, .int x5)] → K_12 x2 x3 x4 x5 σ → W p l e rm_X6_isGood s m args below meth c H locs 0 0 (lf_Qi below args s D (tyM_ cy) A (wM_ ha cy) Post) (F0 m 12 ls [])) (x2 : Int32) (x3 : Int32) (x4 : Int32) (x5 : Int32) (x6 : Int64) (t0 : Int32) (σ : lf_St) (H : Heap) (locs : List Loc) (ls : Array Slot) (hh : lf_H D (wM_ ha cy) A s σ H locs) (hl : lv_has ls 10 [(0, .ref (ha 0)), (2, .int x2), (3, .int x3), (4, .int x4), (5, .int x5), (6, .long x6)]) (hw : J_X6_isGood_82 K_12 Post x2 x3 x4 x5 x6 t0 σ) : W p l e rm_X6_isGood s m args below meth c H locs 0 0 (lf_Qi below args s D (tyM_ cy) A (wM_ ha cy) Post) (F0 m 82 ls [.int t0]) := by
  have hx := F.1.1
  have hb := F.1.2.1
  unfold J_X6_isGood_82 at hw
  refine lv_istore (lv' := [(8, .int t0), (0, .ref (ha 0)), (2, .int x2), (3, .int x3), (4, .int x4), (5, .int x5), (6, .long x6)]) hx hb dX6_isGood_82 hl (by decide) rfl (fun ls hl => ?_)
  refine lv_iload hx hb dX6_isGood_84 (lv_at hl 4 rfl) ?_
  refine lv_aload_n hx hb dX6_isGood_86 rfl (lv_at hl 1 rfl) ?_
  refine fg_X6_51 F hh dX6_isGood_87 ?_
  refine lv_iload hx hb dX6_isGood_90 (lv_at hl 5 rfl) ?_
  obtain ⟨q1, hw⟩ := hw
  refine ra_M_21 F hh q1 dX6_isGood_92 ?_
  refine lv_lconst (v := 0) hx hb dX6_isGood_93 (by decide) ?_
  refine lf_lcmp_ne (tgt := 102) hx hb dX6_isGood_94 dX6_isGood_95 (by decide) (fun c2 => ?_) (fun c2 => ?_)
  · have hw := hw.1 c2
    refine lv_iconst (v := 0) hx hb dX6_isGood_102 (by decide) ?_
    exact w_X6_isGood_103 _ Post F hK_12 x2 x3 x5 x6 t0 0 x4 σ _ _ _ hh (lv_sub hl [1, 2, 3, 5, 6, 0] rfl) hw
  · have hw := hw.2 c2
    refine lv_iconst (v := 1) hx hb dX6_isGood_98 (by decide) ?_
    refine lv_goto (tgt := 103) hx hb dX6_isGood_99 (by decide) ?_
    exact w_X6_isGood_103 _ Post F hK_12 x2 x3 x5 x6 t0 1 x4 σ _ _ _ hh (lv_sub hl [1, 2, 3, 5, 6, 0] rfl) hw
set_option maxHeartbeats 4000000 in
set_option maxRecDepth 100000 in
theorem w_X6_isGood_12 {p : Program} {l : Launch} {e : Env} {s : State} {m : MethodId} {args : Array Value} {below : List Frame} {meth : Method} {c : Code} {D : va_G} {A : Nat → Prop} {ha : Nat → Nat} {cy : Nat → ClassId} (Post : Int32 → lf_St → Prop) (F : lf_C p s m args meth c RX6 cX6_isGood 10 (some .boolean) D (tyM_ cy) A) : ∀ (n : Nat) (x2 : Int32) (x3 : Int32) (x4 : Int32) (x5 : Int32) (σ : lf_St) (H : Heap) (locs : List Loc) (ls : Array Slot), lf_H D (wM_ ha cy) A s σ H locs → lv_has ls 10 [(0, .ref (ha 0)), (2, .int x2), (3, .int x3), (4, .int x4), (5, .int x5)] → L_X6_isGood_12 Post n x2 x3 x4 x5 σ → W p l e rm_X6_isGood s m args below meth c H locs 0 0 (lf_Qi below args s D (tyM_ cy) A (wM_ ha cy) Post) (F0 m 12 ls []) := by
  have hx := F.1.1
  have hb := F.1.2.1
  intro n
  induction n with
  | zero =>
    intro x2 x3 x4 x5 σ H locs ls hh hl hw
    exact False.elim hw
  | succ n ih =>
    intro x2 x3 x4 x5 σ H locs ls hh hl hw
    unfold L_X6_isGood_12 at hw
    refine lv_iload hx hb dX6_isGood_12 (lv_at hl 4 rfl) ?_
    refine lv_aload_n hx hb dX6_isGood_14 rfl (lv_at hl 0 rfl) ?_
    refine fg_X6_119 F hh dX6_isGood_15 ?_
    refine lv_icmp_ge (tgt := 132) hx hb dX6_isGood_18 (by decide) (fun c1 => ?_) (fun c1 => ?_)
    · have hw := hw.1 c1
      refine lv_iconst (v := 0) hx hb dX6_isGood_132 (by decide) ?_
      refine lv_istore (lv' := [(5, .int 0), (0, .ref (ha 0)), (2, .int x2), (3, .int x3), (4, .int x4)]) hx hb dX6_isGood_133 hl (by decide) rfl (fun ls hl => ?_)
      obtain ⟨n135, hw⟩ := hw
      exact w_X6_isGood_135 Post F  n135 x3 0 σ _ _ _ hh (lv_sub hl [1, 3, 0] rfl) hw
    · have hw := hw.2 c1
      refine lv_aload_n hx hb dX6_isGood_21 rfl (lv_at hl 0 rfl) ?_
      refine lv_aload_n hx hb dX6_isGood_22 rfl (lv_at hl 0 rfl) ?_
      refine fg_X6_48 F hh dX6_isGood_23 ?_
      refine lv_iload hx hb dX6_isGood_26 (lv_at hl 4 rfl) ?_
      obtain ⟨q2, hw⟩ := hw
      refine ra_M_19 F hh q2 dX6_isGood_28 ?_
      refine lf_callVi (rest := []) F hh (cw_X6_93 F.1.2.2.2.2 ⟨Nat.le_of_ble_eq_true rfl, Nat.le_of_ble_eq_true rfl⟩) (c_X6_stuff l D ha cy H.size σ (lf_ai σ 19 x5.toNatClampNeg) _ hw) 0 6 rfl rfl rfl rfl hl.1 (Nat.le_of_ble_eq_true rfl) dX6_isGood_29 rfl (fun r3 σ3 H locs hw hh => ?_)
      refine lv_i2l hx hb dX6_isGood_32 rfl ?_
      refine lv_topl (fun v4 ev4 => ?_)
      have hw := hw v4 ev4
      refine lv_lstore (lv' := [(6, .long v4), (0, .ref (ha 0)), (2, .int x2), (3, .int x3), (4, .int x4), (5, .int x5)]) hx hb dX6_isGood_33 hl (by decide) rfl (fun ls hl => ?_)
      refine lv_aload_n hx hb dX6_isGood_35 rfl (lv_at hl 1 rfl) ?_
      refine fg_X6_51 F hh dX6_isGood_36 ?_
      refine lv_iload hx hb dX6_isGood_39 (lv_at hl 5 rfl) ?_
      obtain ⟨q5, hw⟩ := hw
      refine ra_M_21 F hh q5 dX6_isGood_41 ?_
      refine lv_lconst (v := 0) hx hb dX6_isGood_42 (by decide) ?_
      refine lf_lcmp_ne (tgt := 65) hx hb dX6_isGood_43 dX6_isGood_44 (by decide) (fun c6 => ?_) (fun c6 => ?_)
      · have hw := hw.1 c6
        refine lv_aload_n hx hb dX6_isGood_65 rfl (lv_at hl 1 rfl) ?_
        refine fg_X6_51 F hh dX6_isGood_66 ?_
        refine lv_iload hx hb dX6_isGood_69 (lv_at hl 5 rfl) ?_
        obtain ⟨q7, hw⟩ := hw
        refine ra_M_21 F hh q7 dX6_isGood_71 ?_
        refine lv_lconst (v := 0) hx hb dX6_isGood_72 (by decide) ?_
        refine lf_lcmp_ge (tgt := 81) hx hb dX6_isGood_73 dX6_isGood_74 (by decide) (fun c8 => ?_) (fun c8 => ?_)
        · have hw := hw.1 c8
          refine lv_iconst (v := 0) hx hb dX6_isGood_81 (by decide) ?_
          exact w_X6_isGood_82 _ Post F ih x2 x3 x4 x5 v4 0 σ3 _ _ _ hh (lv_sub hl [1, 2, 3, 4, 5, 0] rfl) hw
        · have hw := hw.2 c8
          refine lv_iconst (v := 1) hx hb dX6_isGood_77 (by decide) ?_
          refine lv_goto (tgt := 82) hx hb dX6_isGood_78 (by decide) ?_
          exact w_X6_isGood_82 _ Post F ih x2 x3 x4 x5 v4 1 σ3 _ _ _ hh (lv_sub hl [1, 2, 3, 4, 5, 0] rfl) hw
      · have hw := hw.2 c6
        refine lv_iload_n hx hb dX6_isGood_47 rfl (lv_at hl 2 rfl) ?_
        refine lv_iload hx hb dX6_isGood_48 (lv_at hl 4 rfl) ?_
        refine lv_ishr hx hb dX6_isGood_50 ?_
        refine lv_iconst (v := 1) hx hb dX6_isGood_51 (by decide) ?_
        refine lv_iand hx hb dX6_isGood_52 ?_
        refine lv_iconst (v := 1) hx hb dX6_isGood_53 (by decide) ?_
        refine lv_icmp_ne (tgt := 61) hx hb dX6_isGood_54 (by decide) (fun c9 => ?_) (fun c9 => ?_)
        · have hw := hw.1 c9
          refine lv_iconst (v := 0) hx hb dX6_isGood_61 (by decide) ?_
          refine lv_goto (tgt := 82) hx hb dX6_isGood_62 (by decide) ?_
          exact w_X6_isGood_82 _ Post F ih x2 x3 x4 x5 v4 0 σ3 _ _ _ hh (lv_sub hl [1, 2, 3, 4, 5, 0] rfl) hw
        · have hw := hw.2 c9
          refine lv_iconst (v := 1) hx hb dX6_isGood_57 (by decide) ?_
          refine lv_goto (tgt := 82) hx hb dX6_isGood_58 (by decide) ?_
          exact w_X6_isGood_82 _ Post F ih x2 x3 x4 x5 v4 1 σ3 _ _ _ hh (lv_sub hl [1, 2, 3, 4, 5, 0] rfl) hw
set_option maxHeartbeats 4000000 in
set_option maxRecDepth 100000 in
theorem c_X6_isGood (l : Launch) (D : va_G) (ha : Nat → Nat) (cy : Nat → ClassId) (sz : Nat) (σ : lf_St) (x1 : Int32) (x2 : Int32) (Post : Int32 → lf_St → Prop) (hw : wp_X6_isGood x1 x2 σ Post) : lf_Mi l yX6_isGood (lf_ws yX6_isGood cX6_isGood 10 (some .boolean)) rm_X6_isGood D (tyM_ cy) (wM_ ha cy) sz σ [.ref (ha 0), .int x1, .int x2] Post := by
  refine lf_ofi (by decide +kernel) (Nat.le_of_ble_eq_true rfl) ?_
  intro p e s m args below meth c A ls F hh hl
  have hx := F.1.1
  have hb := F.1.2.1
  have hl : lv_has ls 10 [(0, .ref (ha 0)), (1, .int x1), (2, .int x2)] := hl
  obtain ⟨H, hHe⟩ : ∃ H, H = s.heap := ⟨_, rfl⟩
  rw [← hHe] at hh ⊢
  unfold wp_X6_isGood at hw
  refine lv_aload_n hx hb dX6_isGood_0 rfl (lv_at hl 0 rfl) ?_
  refine lv_iload_n hx hb dX6_isGood_1 rfl (lv_at hl 1 rfl) ?_
  refine lf_callVi (rest := []) F hh (cw_X6_153 F.1.2.2.2.2 ⟨Nat.le_of_ble_eq_true rfl, Nat.le_of_ble_eq_true rfl⟩) (c_X6_isChoice l D ha cy H.size σ x1 _ hw) 0 6 rfl rfl rfl rfl hl.1 (Nat.le_of_ble_eq_true rfl) dX6_isGood_2 rfl (fun r1 σ1 H locs hw hh => ?_)
  refine lv_istore_n (lv' := [(3, .int r1), (0, .ref (ha 0)), (1, .int x1), (2, .int x2)]) hx hb dX6_isGood_5 rfl hl (by decide) rfl (fun ls hl => ?_)
  refine lv_iconst (v := 0) hx hb dX6_isGood_6 (by decide) ?_
  refine lv_istore (lv' := [(4, .int 0), (3, .int r1), (0, .ref (ha 0)), (1, .int x1), (2, .int x2)]) hx hb dX6_isGood_7 hl (by decide) rfl (fun ls hl => ?_)
  refine lv_iconst (v := 0) hx hb dX6_isGood_9 (by decide) ?_
  refine lv_istore (lv' := [(5, .int 0), (4, .int 0), (3, .int r1), (0, .ref (ha 0)), (1, .int x1), (2, .int x2)]) hx hb dX6_isGood_10 hl (by decide) rfl (fun ls hl => ?_)
  obtain ⟨n12, hw⟩ := hw
  exact w_X6_isGood_12 Post F  n12 x2 r1 0 0 σ1 _ _ _ hh (lv_sub hl [3, 5, 2, 1, 0] rfl) hw
def L_X6_unused_4 (Post : Int32 → lf_St → Prop) : Nat → Int32 → Int32 → lf_St → Prop
  | 0, _, _, _ => False
  | n + 1, x1, x2, σ => (((lf_gi σ 14) ≤ x2) → (Post x1 σ)) ∧ ((¬ ((lf_gi σ 14) ≤ x2)) → (vp_in x2 6 ∧ (((¬ (lf_al σ 21 x2.toNatClampNeg) = 0) → (∀ v4 : Int32, v4 = (x1 + 0) → (∀ v5 : Int32, v5 = x2 + 1 → (L_X6_unused_4 Post n v4 v5 σ)))) ∧ (((lf_al σ 21 x2.toNatClampNeg) = 0) → (∀ v6 : Int32, v6 = (x1 + 1) → (∀ v7 : Int32, v7 = x2 + 1 → (L_X6_unused_4 Post n v6 v7 σ)))))))
def wp_X6_unused (σ : lf_St) (Post : Int32 → lf_St → Prop) : Prop := ∃ fu : Nat, L_X6_unused_4 Post fu 0 0 σ
def rm_X6_unused : Room := ({ frames := 0, cells := 0, slots := 0, locals := 0 } : Room)
set_option maxHeartbeats 4000000 in
set_option maxRecDepth 100000 in
theorem w_X6_unused_4 {p : Program} {l : Launch} {e : Env} {s : State} {m : MethodId} {args : Array Value} {below : List Frame} {meth : Method} {c : Code} {D : va_G} {A : Nat → Prop} {ha : Nat → Nat} {cy : Nat → ClassId} (Post : Int32 → lf_St → Prop) (F : lf_C p s m args meth c RX6 cX6_unused 3 (some .int) D (tyM_ cy) A) : ∀ (n : Nat) (x1 : Int32) (x2 : Int32) (σ : lf_St) (H : Heap) (locs : List Loc) (ls : Array Slot), lf_H D (wM_ ha cy) A s σ H locs → lv_has ls 3 [(0, .ref (ha 0)), (1, .int x1), (2, .int x2)] → L_X6_unused_4 Post n x1 x2 σ → W p l e rm_X6_unused s m args below meth c H locs 0 0 (lf_Qi below args s D (tyM_ cy) A (wM_ ha cy) Post) (F0 m 4 ls []) := by
  have hx := F.1.1
  have hb := F.1.2.1
  intro n
  induction n with
  | zero =>
    intro x1 x2 σ H locs ls hh hl hw
    exact False.elim hw
  | succ n ih =>
    intro x1 x2 σ H locs ls hh hl hw
    unfold L_X6_unused_4 at hw
    refine lv_iload_n hx hb dX6_unused_4 rfl (lv_at hl 2 rfl) ?_
    refine lv_aload_n hx hb dX6_unused_5 rfl (lv_at hl 0 rfl) ?_
    refine fg_X6_119 F hh dX6_unused_6 ?_
    refine lv_icmp_ge (tgt := 37) hx hb dX6_unused_9 (by decide) (fun c1 => ?_) (fun c1 => ?_)
    · have hw := hw.1 c1
      refine lv_iload_n hx hb dX6_unused_37 rfl (lv_at hl 1 rfl) ?_
      exact lf_reti F hh hw dX6_unused_38
    · have hw := hw.2 c1
      refine lv_iload_n hx hb dX6_unused_12 rfl (lv_at hl 1 rfl) ?_
      refine lv_aload_n hx hb dX6_unused_13 rfl (lv_at hl 0 rfl) ?_
      refine fg_X6_51 F hh dX6_unused_14 ?_
      refine lv_iload_n hx hb dX6_unused_17 rfl (lv_at hl 2 rfl) ?_
      obtain ⟨q2, hw⟩ := hw
      refine ra_M_21 F hh q2 dX6_unused_18 ?_
      refine lv_lconst (v := 0) hx hb dX6_unused_19 (by decide) ?_
      refine lf_lcmp_ne (tgt := 28) hx hb dX6_unused_20 dX6_unused_21 (by decide) (fun c3 => ?_) (fun c3 => ?_)
      · have hw := hw.1 c3
        refine lv_iconst (v := 0) hx hb dX6_unused_28 (by decide) ?_
        refine lv_iadd hx hb dX6_unused_29 ?_
        refine lv_topi (fun v4 ev4 => ?_)
        have hw := hw v4 ev4
        refine lv_istore_n (lv' := [(1, .int v4), (0, .ref (ha 0)), (2, .int x2)]) hx hb dX6_unused_30 rfl hl (by decide) rfl (fun ls hl => ?_)
        obtain ⟨v5, ev5⟩ : ∃ y : Int32, y = x2 + 1 := ⟨_, rfl⟩
        have hw := hw v5 ev5
        refine lv_iinc (v := v5) (lv' := [(2, .int v5), (1, .int v4), (0, .ref (ha 0))]) hx hb dX6_unused_31 hl (k := 2) rfl (by rw [ev5]; rfl) (by decide) rfl (fun ls hl => ?_)
        refine lv_goto (tgt := 4) hx hb dX6_unused_34 (by decide) ?_
        exact ih v4 v5 σ _ _ _ hh (lv_sub hl [2, 1, 0] rfl) hw
      · have hw := hw.2 c3
        refine lv_iconst (v := 1) hx hb dX6_unused_24 (by decide) ?_
        refine lv_goto (tgt := 29) hx hb dX6_unused_25 (by decide) ?_
        refine lv_iadd hx hb dX6_unused_29 ?_
        refine lv_topi (fun v6 ev6 => ?_)
        have hw := hw v6 ev6
        refine lv_istore_n (lv' := [(1, .int v6), (0, .ref (ha 0)), (2, .int x2)]) hx hb dX6_unused_30 rfl hl (by decide) rfl (fun ls hl => ?_)
        obtain ⟨v7, ev7⟩ : ∃ y : Int32, y = x2 + 1 := ⟨_, rfl⟩
        have hw := hw v7 ev7
        refine lv_iinc (v := v7) (lv' := [(2, .int v7), (1, .int v6), (0, .ref (ha 0))]) hx hb dX6_unused_31 hl (k := 2) rfl (by rw [ev7]; rfl) (by decide) rfl (fun ls hl => ?_)
        refine lv_goto (tgt := 4) hx hb dX6_unused_34 (by decide) ?_
        exact ih v6 v7 σ _ _ _ hh (lv_sub hl [2, 1, 0] rfl) hw
set_option maxHeartbeats 4000000 in
set_option maxRecDepth 100000 in
theorem c_X6_unused (l : Launch) (D : va_G) (ha : Nat → Nat) (cy : Nat → ClassId) (sz : Nat) (σ : lf_St) (Post : Int32 → lf_St → Prop) (hw : wp_X6_unused σ Post) : lf_Mi l yX6_unused (lf_ws yX6_unused cX6_unused 3 (some .int)) rm_X6_unused D (tyM_ cy) (wM_ ha cy) sz σ [.ref (ha 0)] Post := by
  refine lf_ofi (by decide +kernel) (Nat.le_of_ble_eq_true rfl) ?_
  intro p e s m args below meth c A ls F hh hl
  have hx := F.1.1
  have hb := F.1.2.1
  have hl : lv_has ls 3 [(0, .ref (ha 0))] := hl
  obtain ⟨H, hHe⟩ : ∃ H, H = s.heap := ⟨_, rfl⟩
  rw [← hHe] at hh ⊢
  unfold wp_X6_unused at hw
  refine lv_iconst (v := 0) hx hb dX6_unused_0 (by decide) ?_
  refine lv_istore_n (lv' := [(1, .int 0), (0, .ref (ha 0))]) hx hb dX6_unused_1 rfl hl (by decide) rfl (fun ls hl => ?_)
  refine lv_iconst (v := 0) hx hb dX6_unused_2 (by decide) ?_
  refine lv_istore_n (lv' := [(2, .int 0), (1, .int 0), (0, .ref (ha 0))]) hx hb dX6_unused_3 rfl hl (by decide) rfl (fun ls hl => ?_)
  obtain ⟨n4, hw⟩ := hw
  exact w_X6_unused_4 Post F  n4 0 0 σ _ _ _ hh (lv_sub hl [2, 1, 0] rfl) hw
theorem cw_X6_207 {R : Room} {s : State} {args : Array Value} (ht : ∀ w ∈ wsL_law, w.before args s = true) (hR : rm_X6_after.frames + 1 ≤ R.frames ∧ 8 + (5 + 11) + rm_X6_after.locals ≤ R.locals) : lf_cV R s args RX6 RX6 207 yX6_after cX6_after 5 (some .int) rm_X6_after 1 :=
  lf_cV_of 1 ht (lr_29 _ (List.mem_of_getElem? (i := 19) rfl)) (lr_29 _ (List.mem_of_getElem? (i := 16) rfl)) (lr_29 _ (List.mem_of_getElem? (i := 17) rfl)) (lr_29 _ (List.mem_of_getElem? (i := 18) rfl)) (lr_1 _ (List.mem_of_getElem? (i := 5) rfl)) rfl rfl (by decide +kernel) hR
theorem cw_X6_210 {R : Room} {s : State} {args : Array Value} (ht : ∀ w ∈ wsL_law, w.before args s = true) (hR : rm_X6_unused.frames + 1 ≤ R.frames ∧ 8 + (3 + 11) + rm_X6_unused.locals ≤ R.locals) : lf_cV R s args RX6 RX6 210 yX6_unused cX6_unused 3 (some .int) rm_X6_unused 0 :=
  lf_cV_of 0 ht (lr_29 _ (List.mem_of_getElem? (i := 23) rfl)) (lr_29 _ (List.mem_of_getElem? (i := 20) rfl)) (lr_29 _ (List.mem_of_getElem? (i := 21) rfl)) (lr_29 _ (List.mem_of_getElem? (i := 22) rfl)) (lr_1 _ (List.mem_of_getElem? (i := 5) rfl)) rfl rfl (by decide +kernel) hR
theorem cw_X6_213 {R : Room} {s : State} {args : Array Value} (ht : ∀ w ∈ wsL_law, w.before args s = true) (hR : rm_X6_isGood.frames + 1 ≤ R.frames ∧ 8 + (10 + 11) + rm_X6_isGood.locals ≤ R.locals) : lf_cV R s args RX6 RX6 213 yX6_isGood cX6_isGood 10 (some .boolean) rm_X6_isGood 2 :=
  lf_cV_of 2 ht (lr_30 _ (List.mem_of_getElem? (i := 3) rfl)) (lr_30 _ (List.mem_of_getElem? (i := 0) rfl)) (lr_30 _ (List.mem_of_getElem? (i := 1) rfl)) (lr_30 _ (List.mem_of_getElem? (i := 2) rfl)) (lr_1 _ (List.mem_of_getElem? (i := 5) rfl)) rfl rfl (by decide +kernel) hR
def L_X6_prove_66 (K_22 : Int32 → lf_St → Prop) (Post : Int32 → lf_St → Prop) : Nat → Int32 → Int32 → Int32 → lf_St → Prop
  | 0, _, _, _, _ => False
  | n + 1, x1, x2, x3, σ => ((x2 ≤ x3) → (wp_X6_after x1 σ (fun r2 σ2 => K_22 r2 σ2))) ∧ ((¬ (x2 ≤ x3)) → (wp_X6_isGood x1 x3 σ (fun r3 σ3 => ((r3 = 0) → (∀ v5 : Int32, v5 = x3 + 1 → (L_X6_prove_66 K_22 Post n x1 x2 v5 σ3))) ∧ ((¬ (r3 = 0)) → (Post x1 (lf_si σ3 12 1))))))
def L_X6_prove_22 (Post : Int32 → lf_St → Prop) : Nat → Int32 → lf_St → Prop
  | 0, _, _ => False
  | n + 1, x1, σ => ((x1 < 0) → (Post (-6) σ)) ∧ ((¬ (x1 < 0)) → (wp_X6_isChoice x1 σ (fun r2 σ2 => ((r2 = 0) → (wp_X6_after x1 σ2 (fun r4 σ4 => L_X6_prove_22 Post n r4 σ4))) ∧ ((¬ (r2 = 0)) → (wp_X6_costOf 0 σ2 (fun r5 σ5 => ((¬ (r5 * (lf_gl σ5 23)) = ((lf_gl σ5 22) * (lf_gl σ5 20))) → (wp_X6_after x1 σ5 (fun r7 σ7 => L_X6_prove_22 Post n r7 σ7))) ∧ (((r5 * (lf_gl σ5 23)) = ((lf_gl σ5 22) * (lf_gl σ5 20))) → (wp_X6_unused σ5 (fun r8 σ8 => ∀ v9 : Int32, v9 = (1 <<< (r8 &&& 31)) → (∃ fu : Nat, L_X6_prove_66 (L_X6_prove_22 Post n) Post fu x1 v9 0 σ8))))))))))
def wp_X6_prove (σ : lf_St) (Post : Int32 → lf_St → Prop) : Prop := ∀ σ1 : lf_St, σ1 = (lf_si σ 12 0) → wp_X6_find 0 σ1 (fun r2 σ2 => ((0 ≤ r2) → (wp_X6_after (-1) σ2 (fun r4 σ4 => ∃ fu : Nat, L_X6_prove_22 Post fu r4 σ4))) ∧ ((¬ (0 ≤ r2)) → (Post (-6) σ2)))
def rm_X6_prove : Room := ({ frames := 5, cells := 0, slots := 0, locals := 130 } : Room)
set_option maxHeartbeats 4000000 in
set_option maxRecDepth 100000 in
theorem w_X6_prove_66 {p : Program} {l : Launch} {e : Env} {s : State} {m : MethodId} {args : Array Value} {below : List Frame} {meth : Method} {c : Code} {D : va_G} {A : Nat → Prop} {ha : Nat → Nat} {cy : Nat → ClassId} (K_22 : Int32 → lf_St → Prop) (Post : Int32 → lf_St → Prop) (F : lf_C p s m args meth c RX6 cX6_prove 4 (some .int) D (tyM_ cy) A) (hK_22 : ∀ (x1 : Int32) (σ : lf_St) (H : Heap) (locs : List Loc) (ls : Array Slot), lf_H D (wM_ ha cy) A s σ H locs → lv_has ls 4 [(0, .ref (ha 0)), (1, .int x1)] → K_22 x1 σ → W p l e rm_X6_prove s m args below meth c H locs 0 0 (lf_Qi below args s D (tyM_ cy) A (wM_ ha cy) Post) (F0 m 22 ls [])) : ∀ (n : Nat) (x1 : Int32) (x2 : Int32) (x3 : Int32) (σ : lf_St) (H : Heap) (locs : List Loc) (ls : Array Slot), lf_H D (wM_ ha cy) A s σ H locs → lv_has ls 4 [(0, .ref (ha 0)), (1, .int x1), (2, .int x2), (3, .int x3)] → L_X6_prove_66 K_22 Post n x1 x2 x3 σ → W p l e rm_X6_prove s m args below meth c H locs 0 0 (lf_Qi below args s D (tyM_ cy) A (wM_ ha cy) Post) (F0 m 66 ls []) := by
  have hx := F.1.1
  have hb := F.1.2.1
  intro n
  induction n with
  | zero =>
    intro x1 x2 x3 σ H locs ls hh hl hw
    exact False.elim hw
  | succ n ih =>
    intro x1 x2 x3 σ H locs ls hh hl hw
    unfold L_X6_prove_66 at hw
    refine lv_iload_n hx hb dX6_prove_66 rfl (lv_at hl 3 rfl) ?_
    refine lv_iload_n hx hb dX6_prove_67 rfl (lv_at hl 2 rfl) ?_
    refine lv_icmp_ge (tgt := 93) hx hb dX6_prove_68 (by decide) (fun c1 => ?_) (fun c1 => ?_)
    · have hw := hw.1 c1
      refine lv_aload_n hx hb dX6_prove_93 rfl (lv_at hl 0 rfl) ?_
      refine lv_iload_n hx hb dX6_prove_94 rfl (lv_at hl 1 rfl) ?_
      refine lf_callVi (rest := []) F hh (cw_X6_207 F.1.2.2.2.2 ⟨Nat.le_of_ble_eq_true rfl, Nat.le_of_ble_eq_true rfl⟩) (c_X6_after l D ha cy H.size σ x1 _ hw) 0 6 rfl rfl rfl rfl hl.1 (Nat.le_of_ble_eq_true rfl) dX6_prove_95 rfl (fun r2 σ2 H locs hw hh => ?_)
      refine lv_istore_n (lv' := [(1, .int r2), (0, .ref (ha 0)), (2, .int x2), (3, .int x3)]) hx hb dX6_prove_98 rfl hl (by decide) rfl (fun ls hl => ?_)
      refine lv_goto (tgt := 22) hx hb dX6_prove_99 (by decide) ?_
      exact hK_22 r2 σ2 _ _ _ hh (lv_sub hl [1, 0] rfl) hw
    · have hw := hw.2 c1
      refine lv_aload_n hx hb dX6_prove_71 rfl (lv_at hl 0 rfl) ?_
      refine lv_iload_n hx hb dX6_prove_72 rfl (lv_at hl 1 rfl) ?_
      refine lv_iload_n hx hb dX6_prove_73 rfl (lv_at hl 3 rfl) ?_
      refine lf_callVi (rest := []) F hh (cw_X6_213 F.1.2.2.2.2 ⟨Nat.le_of_ble_eq_true rfl, Nat.le_of_ble_eq_true rfl⟩) (c_X6_isGood l D ha cy H.size σ x1 x3 _ hw) 0 6 rfl rfl rfl rfl hl.1 (Nat.le_of_ble_eq_true rfl) dX6_prove_74 rfl (fun r3 σ3 H locs hw hh => ?_)
      refine lv_if_eq (tgt := 87) hx hb dX6_prove_77 (by decide) (fun c4 => ?_) (fun c4 => ?_)
      · have hw := hw.1 c4
        obtain ⟨v5, ev5⟩ : ∃ y : Int32, y = x3 + 1 := ⟨_, rfl⟩
        have hw := hw v5 ev5
        refine lv_iinc (v := v5) (lv' := [(3, .int v5), (0, .ref (ha 0)), (1, .int x1), (2, .int x2)]) hx hb dX6_prove_87 hl (k := 3) rfl (by rw [ev5]; rfl) (by decide) rfl (fun ls hl => ?_)
        refine lv_goto (tgt := 66) hx hb dX6_prove_90 (by decide) ?_
        exact ih x1 x2 v5 σ3 _ _ _ hh (lv_sub hl [1, 2, 3, 0] rfl) hw
      · have hw := hw.2 c4
        refine lv_aload_n hx hb dX6_prove_80 rfl (lv_at hl 0 rfl) ?_
        refine lv_iconst (v := 1) hx hb dX6_prove_81 (by decide) ?_
        refine fp_X6_78 F hh rfl dX6_prove_82 (fun H locs hh => ?_)
        refine lv_iload_n hx hb dX6_prove_85 rfl (lv_at hl 1 rfl) ?_
        exact lf_reti F hh hw dX6_prove_86
set_option maxHeartbeats 4000000 in
set_option maxRecDepth 100000 in
theorem w_X6_prove_22 {p : Program} {l : Launch} {e : Env} {s : State} {m : MethodId} {args : Array Value} {below : List Frame} {meth : Method} {c : Code} {D : va_G} {A : Nat → Prop} {ha : Nat → Nat} {cy : Nat → ClassId} (Post : Int32 → lf_St → Prop) (F : lf_C p s m args meth c RX6 cX6_prove 4 (some .int) D (tyM_ cy) A) : ∀ (n : Nat) (x1 : Int32) (σ : lf_St) (H : Heap) (locs : List Loc) (ls : Array Slot), lf_H D (wM_ ha cy) A s σ H locs → lv_has ls 4 [(0, .ref (ha 0)), (1, .int x1)] → L_X6_prove_22 Post n x1 σ → W p l e rm_X6_prove s m args below meth c H locs 0 0 (lf_Qi below args s D (tyM_ cy) A (wM_ ha cy) Post) (F0 m 22 ls []) := by
  have hx := F.1.1
  have hb := F.1.2.1
  intro n
  induction n with
  | zero =>
    intro x1 σ H locs ls hh hl hw
    exact False.elim hw
  | succ n ih =>
    intro x1 σ H locs ls hh hl hw
    unfold L_X6_prove_22 at hw
    refine lv_iload_n hx hb dX6_prove_22 rfl (lv_at hl 1 rfl) ?_
    refine lv_if_lt (tgt := 102) hx hb dX6_prove_23 (by decide) (fun c1 => ?_) (fun c1 => ?_)
    · have hw := hw.1 c1
      refine lv_bipush (v := (-6)) hx hb dX6_prove_102 (by decide) ?_
      exact lf_reti F hh hw dX6_prove_104
    · have hw := hw.2 c1
      refine lv_aload_n hx hb dX6_prove_26 rfl (lv_at hl 0 rfl) ?_
      refine lv_iload_n hx hb dX6_prove_27 rfl (lv_at hl 1 rfl) ?_
      refine lf_callVi (rest := []) F hh (cw_X6_153 F.1.2.2.2.2 ⟨Nat.le_of_ble_eq_true rfl, Nat.le_of_ble_eq_true rfl⟩) (c_X6_isChoice l D ha cy H.size σ x1 _ hw) 0 6 rfl rfl rfl rfl hl.1 (Nat.le_of_ble_eq_true rfl) dX6_prove_28 rfl (fun r2 σ2 H locs hw hh => ?_)
      refine lv_if_eq (tgt := 93) hx hb dX6_prove_31 (by decide) (fun c3 => ?_) (fun c3 => ?_)
      · have hw := hw.1 c3
        refine lv_aload_n hx hb dX6_prove_93 rfl (lv_at hl 0 rfl) ?_
        refine lv_iload_n hx hb dX6_prove_94 rfl (lv_at hl 1 rfl) ?_
        refine lf_callVi (rest := []) F hh (cw_X6_207 F.1.2.2.2.2 ⟨Nat.le_of_ble_eq_true rfl, Nat.le_of_ble_eq_true rfl⟩) (c_X6_after l D ha cy H.size σ2 x1 _ hw) 0 6 rfl rfl rfl rfl hl.1 (Nat.le_of_ble_eq_true rfl) dX6_prove_95 rfl (fun r4 σ4 H locs hw hh => ?_)
        refine lv_istore_n (lv' := [(1, .int r4), (0, .ref (ha 0))]) hx hb dX6_prove_98 rfl hl (by decide) rfl (fun ls hl => ?_)
        refine lv_goto (tgt := 22) hx hb dX6_prove_99 (by decide) ?_
        exact ih r4 σ4 _ _ _ hh (lv_sub hl [1, 0] rfl) hw
      · have hw := hw.2 c3
        refine lv_aload_n hx hb dX6_prove_34 rfl (lv_at hl 0 rfl) ?_
        refine lv_iconst (v := 0) hx hb dX6_prove_35 (by decide) ?_
        refine lf_callVl (rest := []) F hh (cw_X6_165 F.1.2.2.2.2 ⟨Nat.le_of_ble_eq_true rfl, Nat.le_of_ble_eq_true rfl⟩) (c_X6_costOf l D ha cy H.size σ2 0 _ hw) 0 6 rfl rfl rfl rfl hl.1 (Nat.le_of_ble_eq_true rfl) dX6_prove_36 rfl (fun r5 σ5 H locs hw hh => ?_)
        refine lv_aload_n hx hb dX6_prove_39 rfl (lv_at hl 0 rfl) ?_
        refine fg_X6_168 F hh dX6_prove_40 ?_
        refine lv_lmul hx hb dX6_prove_43 ?_
        refine lv_aload_n hx hb dX6_prove_44 rfl (lv_at hl 0 rfl) ?_
        refine fg_X6_171 F hh dX6_prove_45 ?_
        refine lv_aload_n hx hb dX6_prove_48 rfl (lv_at hl 0 rfl) ?_
        refine fg_X6_136 F hh dX6_prove_49 ?_
        refine lv_lmul hx hb dX6_prove_52 ?_
        refine lf_lcmp_ne (tgt := 93) hx hb dX6_prove_53 dX6_prove_54 (by decide) (fun c6 => ?_) (fun c6 => ?_)
        · have hw := hw.1 c6
          refine lv_aload_n hx hb dX6_prove_93 rfl (lv_at hl 0 rfl) ?_
          refine lv_iload_n hx hb dX6_prove_94 rfl (lv_at hl 1 rfl) ?_
          refine lf_callVi (rest := []) F hh (cw_X6_207 F.1.2.2.2.2 ⟨Nat.le_of_ble_eq_true rfl, Nat.le_of_ble_eq_true rfl⟩) (c_X6_after l D ha cy H.size σ5 x1 _ hw) 0 6 rfl rfl rfl rfl hl.1 (Nat.le_of_ble_eq_true rfl) dX6_prove_95 rfl (fun r7 σ7 H locs hw hh => ?_)
          refine lv_istore_n (lv' := [(1, .int r7), (0, .ref (ha 0))]) hx hb dX6_prove_98 rfl hl (by decide) rfl (fun ls hl => ?_)
          refine lv_goto (tgt := 22) hx hb dX6_prove_99 (by decide) ?_
          exact ih r7 σ7 _ _ _ hh (lv_sub hl [1, 0] rfl) hw
        · have hw := hw.2 c6
          refine lv_iconst (v := 1) hx hb dX6_prove_57 (by decide) ?_
          refine lv_aload_n hx hb dX6_prove_58 rfl (lv_at hl 0 rfl) ?_
          refine lf_callVi (rest := [.int 1]) F hh (cw_X6_210 F.1.2.2.2.2 ⟨Nat.le_of_ble_eq_true rfl, Nat.le_of_ble_eq_true rfl⟩) (c_X6_unused l D ha cy H.size σ5  _ hw) 0 6 rfl rfl rfl rfl hl.1 (Nat.le_of_ble_eq_true rfl) dX6_prove_59 rfl (fun r8 σ8 H locs hw hh => ?_)
          refine lv_ishl hx hb dX6_prove_62 ?_
          refine lv_topi (fun v9 ev9 => ?_)
          have hw := hw v9 ev9
          refine lv_istore_n (lv' := [(2, .int v9), (0, .ref (ha 0)), (1, .int x1)]) hx hb dX6_prove_63 rfl hl (by decide) rfl (fun ls hl => ?_)
          refine lv_iconst (v := 0) hx hb dX6_prove_64 (by decide) ?_
          refine lv_istore_n (lv' := [(3, .int 0), (2, .int v9), (0, .ref (ha 0)), (1, .int x1)]) hx hb dX6_prove_65 rfl hl (by decide) rfl (fun ls hl => ?_)
          obtain ⟨n66, hw⟩ := hw
          exact w_X6_prove_66 _ Post F ih n66 x1 v9 0 σ8 _ _ _ hh (lv_sub hl [2, 3, 1, 0] rfl) hw
set_option maxHeartbeats 4000000 in
set_option maxRecDepth 100000 in
theorem c_X6_prove (l : Launch) (D : va_G) (ha : Nat → Nat) (cy : Nat → ClassId) (sz : Nat) (σ : lf_St) (Post : Int32 → lf_St → Prop) (hw : wp_X6_prove σ Post) : lf_Mi l yX6_prove (lf_ws yX6_prove cX6_prove 4 (some .int)) rm_X6_prove D (tyM_ cy) (wM_ ha cy) sz σ [.ref (ha 0)] Post := by
  refine lf_ofi (by decide +kernel) (Nat.le_of_ble_eq_true rfl) ?_
  intro p e s m args below meth c A ls F hh hl
  have hx := F.1.1
  have hb := F.1.2.1
  have hl : lv_has ls 4 [(0, .ref (ha 0))] := hl
  obtain ⟨H, hHe⟩ : ∃ H, H = s.heap := ⟨_, rfl⟩
  rw [← hHe] at hh ⊢
  unfold wp_X6_prove at hw
  refine lv_aload_n hx hb dX6_prove_0 rfl (lv_at hl 0 rfl) ?_
  refine lv_iconst (v := 0) hx hb dX6_prove_1 (by decide) ?_
  refine fp_X6_78 F hh rfl dX6_prove_2 (fun H locs hh => ?_)
  refine lv_aload_n hx hb dX6_prove_5 rfl (lv_at hl 0 rfl) ?_
  refine lv_iconst (v := 0) hx hb dX6_prove_6 (by decide) ?_
  obtain ⟨σ1, eσ1⟩ : ∃ z : lf_St, z = (lf_si σ 12 0) := ⟨_, rfl⟩
  rw [← eσ1] at hh
  have hw := hw σ1 eσ1
  refine lf_callVi (rest := []) F hh (cw_X6_179 F.1.2.2.2.2 ⟨Nat.le_of_ble_eq_true rfl, Nat.le_of_ble_eq_true rfl⟩) (c_X6_find l D ha cy H.size σ1 0 _ hw) 0 6 rfl rfl rfl rfl hl.1 (Nat.le_of_ble_eq_true rfl) dX6_prove_7 rfl (fun r2 σ2 H locs hw hh => ?_)
  refine lv_if_ge (tgt := 16) hx hb dX6_prove_10 (by decide) (fun c3 => ?_) (fun c3 => ?_)
  · have hw := hw.1 c3
    refine lv_aload_n hx hb dX6_prove_16 rfl (lv_at hl 0 rfl) ?_
    refine lv_iconst (v := (-1)) hx hb dX6_prove_17 (by decide) ?_
    refine lf_callVi (rest := []) F hh (cw_X6_207 F.1.2.2.2.2 ⟨Nat.le_of_ble_eq_true rfl, Nat.le_of_ble_eq_true rfl⟩) (c_X6_after l D ha cy H.size σ2 (-1) _ hw) 0 6 rfl rfl rfl rfl hl.1 (Nat.le_of_ble_eq_true rfl) dX6_prove_18 rfl (fun r4 σ4 H locs hw hh => ?_)
    refine lv_istore_n (lv' := [(1, .int r4), (0, .ref (ha 0))]) hx hb dX6_prove_21 rfl hl (by decide) rfl (fun ls hl => ?_)
    obtain ⟨n22, hw⟩ := hw
    exact w_X6_prove_22 Post F  n22 r4 σ4 _ _ _ hh (lv_sub hl [1, 0] rfl) hw
  · have hw := hw.2 c3
    refine lv_bipush (v := (-6)) hx hb dX6_prove_13 (by decide) ?_
    exact lf_reti F hh hw dX6_prove_15
