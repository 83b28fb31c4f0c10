theorem cw_X6_156 {R : Room} {s : State} {args : Array Value} (ht : ∀ w ∈ wsL_law, w.before args s = true) (hR : rm_X6_sizeFor.frames + 1 ≤ R.frames ∧ 8 + (6 + 11) + rm_X6_sizeFor.locals ≤ R.locals) : lf_cV R s args RX6 RX6 156 yX6_sizeFor cX6_sizeFor 6 (some .int) rm_X6_sizeFor 1 :=
  lf_cV_of 1 ht (lr_23 _ (List.mem_of_getElem? (i := 10) rfl)) (lr_23 _ (List.mem_of_getElem? (i := 7) rfl)) (lr_23 _ (List.mem_of_getElem? (i := 8) rfl)) (lr_23 _ (List.mem_of_getElem? (i := 9) rfl)) (lr_1 _ (List.mem_of_getElem? (i := 5) rfl)) rfl rfl (by decide +kernel) hR
theorem cw_X6_162 {R : Room} {s : State} {args : Array Value} (ht : ∀ w ∈ wsL_law, w.before args s = true) (hR : rm_X6_usedJoints.frames + 1 ≤ R.frames ∧ 8 + (3 + 11) + rm_X6_usedJoints.locals ≤ R.locals) : lf_cV R s args RX6 RX6 162 yX6_usedJoints cX6_usedJoints 3 (some .int) rm_X6_usedJoints 0 :=
  lf_cV_of 0 ht (lr_23 _ (List.mem_of_getElem? (i := 14) rfl)) (lr_23 _ (List.mem_of_getElem? (i := 11) rfl)) (lr_23 _ (List.mem_of_getElem? (i := 12) rfl)) (lr_23 _ (List.mem_of_getElem? (i := 13) rfl)) (lr_1 _ (List.mem_of_getElem? (i := 5) rfl)) rfl rfl (by decide +kernel) hR
def L_X6_costOf_86 (K_5 : Int32 → Int64 → Int32 → lf_St → Prop) (Post : Int64 → lf_St → Prop) : Nat → Int32 → Int64 → Int32 → Int32 → lf_St → Prop
  | 0, _, _, _, _, _ => False
  | n + 1, x1, x2, x4, x6, σ => ((x4 ≤ x6) → (∀ v2 : Int32, v2 = x4 + 1 → (K_5 x1 x2 v2 σ))) ∧ ((¬ (x4 ≤ x6)) → (((¬ x1 = 1) → (∀ v4 : Int32, v4 = x4 + 1 → (K_5 x1 x2 v4 σ))) ∧ ((x1 = 1) → (vp_in x4 6 ∧ ((((lf_al σ 21 x4.toNatClampNeg) = 0) → (∀ v7 : Int32, v7 = x6 + 1 → (L_X6_costOf_86 K_5 Post n x1 x2 x4 v7 σ))) ∧ ((¬ ((lf_al σ 21 x4.toNatClampNeg) = 0)) → (vp_in x6 6 ∧ ((((lf_al σ 21 x6.toNatClampNeg) = 0) → (∀ v10 : Int32, v10 = x6 + 1 → (L_X6_costOf_86 K_5 Post n x1 x2 x4 v10 σ))) ∧ ((¬ ((lf_al σ 21 x6.toNatClampNeg) = 0)) → (vp_in x4 6 ∧ (vp_in x6 6 ∧ (wp_X6_areCrossed (lf_ai σ 19 x4.toNatClampNeg) (lf_ai σ 19 x6.toNatClampNeg) σ (fun r13 σ13 => ((r13 = 0) → (∀ v15 : Int32, v15 = x6 + 1 → (L_X6_costOf_86 K_5 Post n x1 x2 x4 v15 σ13))) ∧ ((¬ (r13 = 0)) → (Post (-1) σ13)))))))))))))))
def J_X6_costOf_80 (K_5 : Int32 → Int64 → Int32 → lf_St → Prop) (Post : Int64 → lf_St → Prop) (x1 : Int32) (x4 : Int32) (t0 : Int64) (t1 : Int64) (t2 : Int64) (σ : lf_St) : Prop := ∀ v1 : Int64, v1 = (t2 + (t1 * t0)) → (∃ fu : Nat, L_X6_costOf_86 K_5 Post fu x1 v1 x4 0 σ)
def J_X6_costOf_41 (K_5 : Int32 → Int64 → Int32 → lf_St → Prop) (Post : Int64 → lf_St → Prop) (x1 : Int32) (x2 : Int64) (x4 : Int32) (x5 : Int32) (σ : lf_St) : Prop := vp_in x4 6 ∧ (wp_X6_stuff (lf_ai σ 19 x4.toNatClampNeg) σ (fun r2 σ2 => ((¬ x1 = 2) → (vp_in x4 6 ∧ (wp_X6_abs (lf_al σ2 21 x4.toNatClampNeg) σ2 (fun r5 σ5 => J_X6_costOf_80 K_5 Post x1 x4 r5 (r2.toInt64) x2 σ5)))) ∧ ((x1 = 2) → (J_X6_costOf_80 K_5 Post x1 x4 ((x5.toInt64) * (lf_gl σ2 20)) (r2.toInt64) x2 σ2))))
def L_X6_costOf_5 (Post : Int64 → lf_St → Prop) : Nat → Int32 → Int64 → Int32 → lf_St → Prop
  | 0, _, _, _, _ => False
  | n + 1, x1, x2, x4, σ => (((lf_gi σ 14) ≤ x4) → (((¬ x1 = 3) → (Post (x2 + 0) σ)) ∧ ((x1 = 3) → (wp_X6_usedJoints σ (fun r3 σ3 => wp_X6_bits r3 σ3 (fun r4 σ4 => Post (x2 + (((((lf_gi σ 11) : Int32).toInt64) * (r4.toInt64)) * (lf_gl σ4 20))) σ4)))))) ∧ ((¬ ((lf_gi σ 14) ≤ x4)) → (vp_in x4 6 ∧ (wp_X6_sizeFor (lf_al σ 21 x4.toNatClampNeg) σ (fun r6 σ6 => ((¬ x1 = 2) → (J_X6_costOf_41 (L_X6_costOf_5 Post n) Post x1 x2 x4 r6 σ6)) ∧ ((x1 = 2) → (((0 ≤ r6) → (J_X6_costOf_41 (L_X6_costOf_5 Post n) Post x1 x2 x4 r6 σ6)) ∧ ((¬ (0 ≤ r6)) → (Post (-1) σ6))))))))
def wp_X6_costOf (x1 : Int32) (σ : lf_St) (Post : Int64 → lf_St → Prop) : Prop := ∃ fu : Nat, L_X6_costOf_5 Post fu x1 0 0 σ
def rm_X6_costOf : Room := ({ frames := 3, cells := 0, slots := 0, locals := 77 } : Room)
set_option maxHeartbeats 4000000 in
set_option maxRecDepth 100000 in
theorem w_X6_costOf_86 {p : Program} {l : Launch} {e : Env} {s : State} {m : MethodId} {args : Array Value} {below : List Frame} {meth : Method} {c : Code} {D : va_G} {A : Nat → Prop} {ha : Nat → Nat} {cy : Nat → ClassId} (K_5 : Int32 → Int64 → Int32 → lf_St → Prop) (Post : Int64 → lf_St → Prop) (F : lf_C p s m args meth c RX6 cX6_costOf 7 (some .long) D (tyM_ cy) A) (hK_5 : ∀ (x1 : Int32) (x2 : Int64) (x4 : Int32) (σ : lf_St) (H : Heap) (locs : List Loc) (ls : Array Slot), lf_H D (wM_ ha cy) A s σ H locs → lv_has ls 7 [(0, .ref (ha 0)), (1, .int x1), (2, .long x2), (4, .int x4)] → K_5 x1 x2 x4 σ → W p l e rm_X6_costOf s m args below meth c H locs 0 0 (lf_Ql below args s D (tyM_ cy) A (wM_ ha cy) Post) (F0 m 5 ls [])) : ∀ (n : Nat) (x1 : Int32) (x2 : Int64) (x4 : Int32) (x6 : Int32) (σ : lf_St) (H : Heap) (locs : List Loc) (ls : Array Slot), lf_H D (wM_ ha cy) A s σ H locs → lv_has ls 7 [(0, .ref (ha 0)), (1, .int x1), (2, .long x2), (4, .int x4), (6, .int x6)] → L_X6_costOf_86 K_5 Post n x1 x2 x4 x6 σ → W p l e rm_X6_costOf s m args below meth c H locs 0 0 (lf_Ql below args s D (tyM_ cy) A (wM_ ha cy) Post) (F0 m 86 ls []) := by
  have hx := F.1.1
  have hb := F.1.2.1
  intro n
  induction n with
  | zero =>
    intro x1 x2 x4 x6 σ H locs ls hh hl hw
    exact False.elim hw
  | succ n ih =>
    intro x1 x2 x4 x6 σ H locs ls hh hl hw
    unfold L_X6_costOf_86 at hw
    refine lv_iload hx hb dX6_costOf_86 (lv_at hl 4 rfl) ?_
    refine lv_iload hx hb dX6_costOf_88 (lv_at hl 3 rfl) ?_
    refine lv_icmp_ge (tgt := 153) hx hb dX6_costOf_90 (by decide) (fun c1 => ?_) (fun c1 => ?_)
    · have hw := hw.1 c1
      obtain ⟨v2, ev2⟩ : ∃ y : Int32, y = x4 + 1 := ⟨_, rfl⟩
      have hw := hw v2 ev2
      refine lv_iinc (v := v2) (lv' := [(4, .int v2), (0, .ref (ha 0)), (1, .int x1), (2, .long x2), (6, .int x6)]) hx hb dX6_costOf_153 hl (k := 3) rfl (by rw [ev2]; rfl) (by decide) rfl (fun ls hl => ?_)
      refine lv_goto (tgt := 5) hx hb dX6_costOf_156 (by decide) ?_
      exact hK_5 x1 x2 v2 σ _ _ _ hh (lv_sub hl [1, 2, 3, 0] rfl) hw
    · have hw := hw.2 c1
      refine lv_iload_n hx hb dX6_costOf_93 rfl (lv_at hl 1 rfl) ?_
      refine lv_iconst (v := 1) hx hb dX6_costOf_94 (by decide) ?_
      refine lv_icmp_ne (tgt := 153) hx hb dX6_costOf_95 (by decide) (fun c3 => ?_) (fun c3 => ?_)
      · have hw := hw.1 c3
        obtain ⟨v4, ev4⟩ : ∃ y : Int32, y = x4 + 1 := ⟨_, rfl⟩
        have hw := hw v4 ev4
        refine lv_iinc (v := v4) (lv' := [(4, .int v4), (0, .ref (ha 0)), (1, .int x1), (2, .long x2), (6, .int x6)]) hx hb dX6_costOf_153 hl (k := 3) rfl (by rw [ev4]; rfl) (by decide) rfl (fun ls hl => ?_)
        refine lv_goto (tgt := 5) hx hb dX6_costOf_156 (by decide) ?_
        exact hK_5 x1 x2 v4 σ _ _ _ hh (lv_sub hl [1, 2, 3, 0] rfl) hw
      · have hw := hw.2 c3
        refine lv_aload_n hx hb dX6_costOf_98 rfl (lv_at hl 0 rfl) ?_
        refine fg_X6_51 F hh dX6_costOf_99 ?_
        refine lv_iload hx hb dX6_costOf_102 (lv_at hl 3 rfl) ?_
        obtain ⟨q5, hw⟩ := hw
        refine ra_M_21 F hh q5 dX6_costOf_104 ?_
        refine lv_lconst (v := 0) hx hb dX6_costOf_105 (by decide) ?_
        refine lf_lcmp_eq (tgt := 147) hx hb dX6_costOf_106 dX6_costOf_107 (by decide) (fun c6 => ?_) (fun c6 => ?_)
        · have hw := hw.1 c6
          obtain ⟨v7, ev7⟩ : ∃ y : Int32, y = x6 + 1 := ⟨_, rfl⟩
          have hw := hw v7 ev7
          refine lv_iinc (v := v7) (lv' := [(6, .int v7), (0, .ref (ha 0)), (1, .int x1), (2, .long x2), (4, .int x4)]) hx hb dX6_costOf_147 hl (k := 4) rfl (by rw [ev7]; rfl) (by decide) rfl (fun ls hl => ?_)
          refine lv_goto (tgt := 86) hx hb dX6_costOf_150 (by decide) ?_
          exact ih x1 x2 x4 v7 σ _ _ _ hh (lv_sub hl [1, 2, 3, 4, 0] rfl) hw
        · have hw := hw.2 c6
          refine lv_aload_n hx hb dX6_costOf_110 rfl (lv_at hl 0 rfl) ?_
          refine fg_X6_51 F hh dX6_costOf_111 ?_
          refine lv_iload hx hb dX6_costOf_114 (lv_at hl 4 rfl) ?_
          obtain ⟨q8, hw⟩ := hw
          refine ra_M_21 F hh q8 dX6_costOf_116 ?_
          refine lv_lconst (v := 0) hx hb dX6_costOf_117 (by decide) ?_
          refine lf_lcmp_eq (tgt := 147) hx hb dX6_costOf_118 dX6_costOf_119 (by decide) (fun c9 => ?_) (fun c9 => ?_)
          · have hw := hw.1 c9
            obtain ⟨v10, ev10⟩ : ∃ y : Int32, y = x6 + 1 := ⟨_, rfl⟩
            have hw := hw v10 ev10
            refine lv_iinc (v := v10) (lv' := [(6, .int v10), (0, .ref (ha 0)), (1, .int x1), (2, .long x2), (4, .int x4)]) hx hb dX6_costOf_147 hl (k := 4) rfl (by rw [ev10]; rfl) (by decide) rfl (fun ls hl => ?_)
            refine lv_goto (tgt := 86) hx hb dX6_costOf_150 (by decide) ?_
            exact ih x1 x2 x4 v10 σ _ _ _ hh (lv_sub hl [1, 2, 3, 4, 0] rfl) hw
          · have hw := hw.2 c9
            refine lv_aload_n hx hb dX6_costOf_122 rfl (lv_at hl 0 rfl) ?_
            refine lv_aload_n hx hb dX6_costOf_123 rfl (lv_at hl 0 rfl) ?_
            refine fg_X6_48 F hh dX6_costOf_124 ?_
            refine lv_iload hx hb dX6_costOf_127 (lv_at hl 3 rfl) ?_
            obtain ⟨q11, hw⟩ := hw
            refine ra_M_19 F hh q11 dX6_costOf_129 ?_
            refine lv_aload_n hx hb dX6_costOf_130 rfl (lv_at hl 0 rfl) ?_
            refine fg_X6_48 F hh dX6_costOf_131 ?_
            refine lv_iload hx hb dX6_costOf_134 (lv_at hl 4 rfl) ?_
            obtain ⟨q12, hw⟩ := hw
            refine ra_M_19 F hh q12 dX6_costOf_136 ?_
            refine lf_callVi (rest := []) F hh (cw_X6_115 F.1.2.2.2.2 ⟨Nat.le_of_ble_eq_true rfl, Nat.le_of_ble_eq_true rfl⟩) (c_X6_areCrossed l D ha cy H.size σ (lf_ai σ 19 x4.toNatClampNeg) (lf_ai σ 19 x6.toNatClampNeg) _ hw) 0 6 rfl rfl rfl rfl hl.1 (Nat.le_of_ble_eq_true rfl) dX6_costOf_137 rfl (fun r13 σ13 H locs hw hh => ?_)
            refine lv_if_eq (tgt := 147) hx hb dX6_costOf_140 (by decide) (fun c14 => ?_) (fun c14 => ?_)
            · have hw := hw.1 c14
              obtain ⟨v15, ev15⟩ : ∃ y : Int32, y = x6 + 1 := ⟨_, rfl⟩
              have hw := hw v15 ev15
              refine lv_iinc (v := v15) (lv' := [(6, .int v15), (0, .ref (ha 0)), (1, .int x1), (2, .long x2), (4, .int x4)]) hx hb dX6_costOf_147 hl (k := 4) rfl (by rw [ev15]; rfl) (by decide) rfl (fun ls hl => ?_)
              refine lv_goto (tgt := 86) hx hb dX6_costOf_150 (by decide) ?_
              exact ih x1 x2 x4 v15 σ13 _ _ _ hh (lv_sub hl [1, 2, 3, 4, 0] rfl) hw
            · have hw := hw.2 c14
              refine lv_ldc2 hx hb F.1.2.2.2.1 (F.1.2.2.2.2 _ (lr_23 _ (List.mem_of_getElem? (i := 6) rfl))) dX6_costOf_143 ?_
              exact lf_retl F hh hw dX6_costOf_146
set_option maxHeartbeats 4000000 in
set_option maxRecDepth 100000 in
theorem w_X6_costOf_80 {p : Program} {l : Launch} {e : Env} {s : State} {m : MethodId} {args : Array Value} {below : List Frame} {meth : Method} {c : Code} {D : va_G} {A : Nat → Prop} {ha : Nat → Nat} {cy : Nat → ClassId} (K_5 : Int32 → Int64 → Int32 → lf_St → Prop) (Post : Int64 → lf_St → Prop) (F : lf_C p s m args meth c RX6 cX6_costOf 7 (some .long) D (tyM_ cy) A) (hK_5 : ∀ (x1 : Int32) (x2 : Int64) (x4 : Int32) (σ : lf_St) (H : Heap) (locs : List Loc) (ls : Array Slot), lf_H D (wM_ ha cy) A s σ H locs → lv_has ls 7 [(0, .ref (ha 0)), (1, .int x1), (2, .long x2), (4, .int x4)] → K_5 x1 x2 x4 σ → W p l e rm_X6_costOf s m args below meth c H locs 0 0 (lf_Ql below args s D (tyM_ cy) A (wM_ ha cy) Post) (F0 m 5 ls [])) (x1 : Int32) (x4 : Int32) (t0 : Int64) (t1 : Int64) (t2 : Int64) (σ : lf_St) (H : Heap) (locs : List Loc) (ls : Array Slot) (hh : lf_H D (wM_ ha cy) A s σ H locs) (hl : lv_has ls 7 [(0, .ref (ha 0)), (1, .int x1), (4, .int x4)]) (hw : J_X6_costOf_80 K_5 Post x1 x4 t0 t1 t2 σ) : W p l e rm_X6_costOf s m args below meth c H locs 0 0 (lf_Ql below args s D (tyM_ cy) A (wM_ ha cy) Post) (F0 m 80 ls [.long t0, .long t1, .long t2]) := by
  have hx := F.1.1
  have hb := F.1.2.1
  unfold J_X6_costOf_80 at hw
  refine lv_lmul hx hb dX6_costOf_80 ?_
  refine lv_ladd hx hb dX6_costOf_81 ?_
  refine lv_topl (fun v1 ev1 => ?_)
  have hw := hw v1 ev1
  refine lv_lstore_n (lv' := [(2, .long v1), (0, .ref (ha 0)), (1, .int x1), (4, .int x4)]) hx hb dX6_costOf_82 rfl hl (by decide) rfl (fun ls hl => ?_)
  refine lv_iconst (v := 0) hx hb dX6_costOf_83 (by decide) ?_
  refine lv_istore (lv' := [(6, .int 0), (2, .long v1), (0, .ref (ha 0)), (1, .int x1), (4, .int x4)]) hx hb dX6_costOf_84 hl (by decide) rfl (fun ls hl => ?_)
  obtain ⟨n86, hw⟩ := hw
  exact w_X6_costOf_86 _ Post F hK_5 n86 x1 v1 x4 0 σ _ _ _ hh (lv_sub hl [2, 3, 1, 4, 0] rfl) hw
set_option maxHeartbeats 4000000 in
set_option maxRecDepth 100000 in
theorem w_X6_costOf_41 {p : Program} {l : Launch} {e : Env} {s : State} {m : MethodId} {args : Array Value} {below : List Frame} {meth : Method} {c : Code} {D : va_G} {A : Nat → Prop} {ha : Nat → Nat} {cy : Nat → ClassId} (K_5 : Int32 → Int64 → Int32 → lf_St → Prop) (Post : Int64 → lf_St → Prop) (F : lf_C p s m args meth c RX6 cX6_costOf 7 (some .long) D (tyM_ cy) A) (hK_5 : ∀ (x1 : Int32) (x2 : Int64) (x4 : Int32) (σ : lf_St) (H : Heap) (locs : List Loc) (ls : Array Slot), lf_H D (wM_ ha cy) A s σ H locs → lv_has ls 7 [(0, .ref (ha 0)), (1, .int x1), (2, .long x2), (4, .int x4)] → K_5 x1 x2 x4 σ → W p l e rm_X6_costOf s m args below meth c H locs 0 0 (lf_Ql below args s D (tyM_ cy) A (wM_ ha cy) Post) (F0 m 5 ls [])) (x1 : Int32) (x2 : Int64) (x4 : Int32) (x5 : Int32) (σ : lf_St) (H : Heap) (locs : List Loc) (ls : Array Slot) (hh : lf_H D (wM_ ha cy) A s σ H locs) (hl : lv_has ls 7 [(0, .ref (ha 0)), (1, .int x1), (2, .long x2), (4, .int x4), (5, .int x5)]) (hw : J_X6_costOf_41 K_5 Post x1 x2 x4 x5 σ) : W p l e rm_X6_costOf s m args below meth c H locs 0 0 (lf_Ql below args s D (tyM_ cy) A (wM_ ha cy) Post) (F0 m 41 ls []) := by
  have hx := F.1.1
  have hb := F.1.2.1
  unfold J_X6_costOf_41 at hw
  refine lv_lload_n hx hb dX6_costOf_41 rfl (lv_at hl 2 rfl) ?_
  refine lv_aload_n hx hb dX6_costOf_42 rfl (lv_at hl 0 rfl) ?_
  refine lv_aload_n hx hb dX6_costOf_43 rfl (lv_at hl 0 rfl) ?_
  refine fg_X6_48 F hh dX6_costOf_44 ?_
  refine lv_iload hx hb dX6_costOf_47 (lv_at hl 3 rfl) ?_
  obtain ⟨q1, hw⟩ := hw
  refine ra_M_19 F hh q1 dX6_costOf_49 ?_
  refine lf_callVi (rest := [.long x2]) F hh (cw_X6_93 F.1.2.2.2.2 ⟨Nat.le_of_ble_eq_true rfl, Nat.le_of_ble_eq_true rfl⟩) (c_X6_stuff l D ha cy H.size σ (lf_ai σ 19 x4.toNatClampNeg) _ hw) 0 6 rfl rfl rfl rfl hl.1 (Nat.le_of_ble_eq_true rfl) dX6_costOf_50 rfl (fun r2 σ2 H locs hw hh => ?_)
  refine lv_i2l hx hb dX6_costOf_53 rfl ?_
  refine lv_iload_n hx hb dX6_costOf_54 rfl (lv_at hl 1 rfl) ?_
  refine lv_iconst (v := 2) hx hb dX6_costOf_55 (by decide) ?_
  refine lv_icmp_ne (tgt := 70) hx hb dX6_costOf_56 (by decide) (fun c3 => ?_) (fun c3 => ?_)
  · have hw := hw.1 c3
    refine lv_aload_n hx hb dX6_costOf_70 rfl (lv_at hl 0 rfl) ?_
    refine fg_X6_51 F hh dX6_costOf_71 ?_
    refine lv_iload hx hb dX6_costOf_74 (lv_at hl 3 rfl) ?_
    obtain ⟨q4, hw⟩ := hw
    refine ra_M_21 F hh q4 dX6_costOf_76 ?_
    refine lf_callSl (rest := [.long r2.toInt64, .long x2]) F hh (cw_X6_140 F.1.2.2.2.2 ⟨Nat.le_of_ble_eq_true rfl, Nat.le_of_ble_eq_true rfl⟩) (c_X6_abs l D ha cy H.size σ2 (lf_al σ2 21 x4.toNatClampNeg) _ hw) rfl hl.1 (Nat.le_of_ble_eq_true rfl) dX6_costOf_77 rfl (fun r5 σ5 H locs hw hh => ?_)
    exact w_X6_costOf_80 _ Post F hK_5 x1 x4 r5 (r2.toInt64) x2 σ5 _ _ _ hh (lv_sub hl [0, 1, 3] rfl) hw
  · have hw := hw.2 c3
    refine lv_iload hx hb dX6_costOf_59 (lv_at hl 4 rfl) ?_
    refine lv_i2l hx hb dX6_costOf_61 rfl ?_
    refine lv_aload_n hx hb dX6_costOf_62 rfl (lv_at hl 0 rfl) ?_
    refine fg_X6_136 F hh dX6_costOf_63 ?_
    refine lv_lmul hx hb dX6_costOf_66 ?_
    refine lv_goto (tgt := 80) hx hb dX6_costOf_67 (by decide) ?_
    exact w_X6_costOf_80 _ Post F hK_5 x1 x4 ((x5.toInt64) * (lf_gl σ2 20)) (r2.toInt64) x2 σ2 _ _ _ hh (lv_sub hl [0, 1, 3] rfl) hw
set_option maxHeartbeats 4000000 in
set_option maxRecDepth 100000 in
theorem w_X6_costOf_5 {p : Program} {l : Launch} {e : Env} {s : State} {m : MethodId} {args : Array Value} {below : List Frame} {meth : Method} {c : Code} {D : va_G} {A : Nat → Prop} {ha : Nat → Nat} {cy : Nat → ClassId} (Post : Int64 → lf_St → Prop) (F : lf_C p s m args meth c RX6 cX6_costOf 7 (some .long) D (tyM_ cy) A) : ∀ (n : Nat) (x1 : Int32) (x2 : Int64) (x4 : Int32) (σ : lf_St) (H : Heap) (locs : List Loc) (ls : Array Slot), lf_H D (wM_ ha cy) A s σ H locs → lv_has ls 7 [(0, .ref (ha 0)), (1, .int x1), (2, .long x2), (4, .int x4)] → L_X6_costOf_5 Post n x1 x2 x4 σ → W p l e rm_X6_costOf s m args below meth c H locs 0 0 (lf_Ql below args s D (tyM_ cy) A (wM_ ha cy) Post) (F0 m 5 ls []) := by
  have hx := F.1.1
  have hb := F.1.2.1
  intro n
  induction n with
  | zero =>
    intro x1 x2 x4 σ H locs ls hh hl hw
    exact False.elim hw
  | succ n ih =>
    intro x1 x2 x4 σ H locs ls hh hl hw
    unfold L_X6_costOf_5 at hw
    refine lv_iload hx hb dX6_costOf_5 (lv_at hl 3 rfl) ?_
    refine lv_aload_n hx hb dX6_costOf_7 rfl (lv_at hl 0 rfl) ?_
    refine fg_X6_119 F hh dX6_costOf_8 ?_
    refine lv_icmp_ge (tgt := 159) hx hb dX6_costOf_11 (by decide) (fun c1 => ?_) (fun c1 => ?_)
    · have hw := hw.1 c1
      refine lv_lload_n hx hb dX6_costOf_159 rfl (lv_at hl 2 rfl) ?_
      refine lv_iload_n hx hb dX6_costOf_160 rfl (lv_at hl 1 rfl) ?_
      refine lv_iconst (v := 3) hx hb dX6_costOf_161 (by decide) ?_
      refine lv_icmp_ne (tgt := 187) hx hb dX6_costOf_162 (by decide) (fun c2 => ?_) (fun c2 => ?_)
      · have hw := hw.1 c2
        refine lv_lconst (v := 0) hx hb dX6_costOf_187 (by decide) ?_
        refine lv_ladd hx hb dX6_costOf_188 ?_
        exact lf_retl F hh hw dX6_costOf_189
      · have hw := hw.2 c2
        refine lv_aload_n hx hb dX6_costOf_165 rfl (lv_at hl 0 rfl) ?_
        refine fg_X6_104 F hh dX6_costOf_166 ?_
        refine lv_i2l hx hb dX6_costOf_169 rfl ?_
        refine lv_aload_n hx hb dX6_costOf_170 rfl (lv_at hl 0 rfl) ?_
        refine lf_callVi (rest := [.long ((lf_gi σ 11) : Int32).toInt64, .long x2]) F hh (cw_X6_162 F.1.2.2.2.2 ⟨Nat.le_of_ble_eq_true rfl, Nat.le_of_ble_eq_true rfl⟩) (c_X6_usedJoints l D ha cy H.size σ  _ hw) 0 6 rfl rfl rfl rfl hl.1 (Nat.le_of_ble_eq_true rfl) dX6_costOf_171 rfl (fun r3 σ3 H locs hw hh => ?_)
        refine lf_callSi (rest := [.long ((lf_gi σ 11) : Int32).toInt64, .long x2]) F hh (cw_X6_147 F.1.2.2.2.2 ⟨Nat.le_of_ble_eq_true rfl, Nat.le_of_ble_eq_true rfl⟩) (c_X6_bits l D ha cy H.size σ3 r3 _ hw) rfl hl.1 (Nat.le_of_ble_eq_true rfl) dX6_costOf_174 rfl (fun r4 σ4 H locs hw hh => ?_)
        refine lv_i2l hx hb dX6_costOf_177 rfl ?_
        refine lv_lmul hx hb dX6_costOf_178 ?_
        refine lv_aload_n hx hb dX6_costOf_179 rfl (lv_at hl 0 rfl) ?_
        refine fg_X6_136 F hh dX6_costOf_180 ?_
        refine lv_lmul hx hb dX6_costOf_183 ?_
        refine lv_goto (tgt := 188) hx hb dX6_costOf_184 (by decide) ?_
        refine lv_ladd hx hb dX6_costOf_188 ?_
        exact lf_retl F hh hw dX6_costOf_189
    · have hw := hw.2 c1
      refine lv_aload_n hx hb dX6_costOf_14 rfl (lv_at hl 0 rfl) ?_
      refine lv_aload_n hx hb dX6_costOf_15 rfl (lv_at hl 0 rfl) ?_
      refine fg_X6_51 F hh dX6_costOf_16 ?_
      refine lv_iload hx hb dX6_costOf_19 (lv_at hl 3 rfl) ?_
      obtain ⟨q5, hw⟩ := hw
      refine ra_M_21 F hh q5 dX6_costOf_21 ?_
      refine lf_callVi (rest := []) F hh (cw_X6_156 F.1.2.2.2.2 ⟨Nat.le_of_ble_eq_true rfl, Nat.le_of_ble_eq_true rfl⟩) (c_X6_sizeFor l D ha cy H.size σ (lf_al σ 21 x4.toNatClampNeg) _ hw) 0 6 rfl rfl rfl rfl hl.1 (Nat.le_of_ble_eq_true rfl) dX6_costOf_22 rfl (fun r6 σ6 H locs hw hh => ?_)
      refine lv_istore (lv' := [(5, .int r6), (0, .ref (ha 0)), (1, .int x1), (2, .long x2), (4, .int x4)]) hx hb dX6_costOf_25 hl (by decide) rfl (fun ls hl => ?_)
      refine lv_iload_n hx hb dX6_costOf_27 rfl (lv_at hl 2 rfl) ?_
      refine lv_iconst (v := 2) hx hb dX6_costOf_28 (by decide) ?_
      refine lv_icmp_ne (tgt := 41) hx hb dX6_costOf_29 (by decide) (fun c7 => ?_) (fun c7 => ?_)
      · have hw := hw.1 c7
        exact w_X6_costOf_41 _ Post F ih x1 x2 x4 r6 σ6 _ _ _ hh (lv_sub hl [1, 2, 3, 4, 0] rfl) hw
      · have hw := hw.2 c7
        refine lv_iload hx hb dX6_costOf_32 (lv_at hl 0 rfl) ?_
        refine lv_if_ge (tgt := 41) hx hb dX6_costOf_34 (by decide) (fun c8 => ?_) (fun c8 => ?_)
        · have hw := hw.1 c8
          exact w_X6_costOf_41 _ Post F ih x1 x2 x4 r6 σ6 _ _ _ hh (lv_sub hl [1, 2, 3, 4, 0] rfl) hw
        · have hw := hw.2 c8
          refine lv_ldc2 hx hb F.1.2.2.2.1 (F.1.2.2.2.2 _ (lr_23 _ (List.mem_of_getElem? (i := 6) rfl))) dX6_costOf_37 ?_
          exact lf_retl F hh hw dX6_costOf_40
set_option maxHeartbeats 4000000 in
set_option maxRecDepth 100000 in
theorem c_X6_costOf (l : Launch) (D : va_G) (ha : Nat → Nat) (cy : Nat → ClassId) (sz : Nat) (σ : lf_St) (x1 : Int32) (Post : Int64 → lf_St → Prop) (hw : wp_X6_costOf x1 σ Post) : lf_Ml l yX6_costOf (lf_ws yX6_costOf cX6_costOf 7 (some .long)) rm_X6_costOf D (tyM_ cy) (wM_ ha cy) sz σ [.ref (ha 0), .int x1] Post := by
  refine lf_ofl (by decide +kernel) (Nat.le_of_ble_eq_true rfl) ?_
  intro p e s m args below meth c A ls F hh hl
  have hx := F.1.1
  have hb := F.1.2.1
  have hl : lv_has ls 7 [(0, .ref (ha 0)), (1, .int x1)] := hl
  obtain ⟨H, hHe⟩ : ∃ H, H = s.heap := ⟨_, rfl⟩
  rw [← hHe] at hh ⊢
  unfold wp_X6_costOf at hw
  refine lv_lconst (v := 0) hx hb dX6_costOf_0 (by decide) ?_
  refine lv_lstore_n (lv' := [(2, .long 0), (0, .ref (ha 0)), (1, .int x1)]) hx hb dX6_costOf_1 rfl hl (by decide) rfl (fun ls hl => ?_)
  refine lv_iconst (v := 0) hx hb dX6_costOf_2 (by decide) ?_
  refine lv_istore (lv' := [(4, .int 0), (2, .long 0), (0, .ref (ha 0)), (1, .int x1)]) hx hb dX6_costOf_3 hl (by decide) rfl (fun ls hl => ?_)
  obtain ⟨n5, hw⟩ := hw
  exact w_X6_costOf_5 Post F  n5 x1 0 0 σ _ _ _ hh (lv_sub hl [2, 3, 1, 0] rfl) hw
theorem cw_X6_165 {R : Room} {s : State} {args : Array Value} (ht : ∀ w ∈ wsL_law, w.before args s = true) (hR : rm_X6_costOf.frames + 1 ≤ R.frames ∧ 8 + (7 + 11) + rm_X6_costOf.locals ≤ R.locals) : lf_cV R s args RX6 RX6 165 yX6_costOf cX6_costOf 7 (some .long) rm_X6_costOf 1 :=
  lf_cV_of 1 ht (lr_23 _ (List.mem_of_getElem? (i := 5) rfl)) (lr_23 _ (List.mem_of_getElem? (i := 2) rfl)) (lr_23 _ (List.mem_of_getElem? (i := 3) rfl)) (lr_23 _ (List.mem_of_getElem? (i := 4) rfl)) (lr_1 _ (List.mem_of_getElem? (i := 5) rfl)) rfl rfl (by decide +kernel) hR
def J_X6_find_121 (K_9 : Int32 → Int32 → Int32 → lf_St → Prop) (Post : Int32 → lf_St → Prop) (x1 : Int32) (x3 : Int32) (x4 : Int64) (σ : lf_St) : Prop := ∀ σ1 : lf_St, σ1 = (lf_sl σ 22 x4) → (∀ v2 : Int32, v2 = x3 + 1 → (K_9 x1 x3 v2 (lf_sl σ1 23 (lf_gl σ1 20))))
def J_X6_find_102 (K_9 : Int32 → Int32 → Int32 → lf_St → Prop) (Post : Int32 → lf_St → Prop) (x1 : Int32) (x2 : Int32) (x3 : Int32) (x4 : Int64) (x6 : Int32) (t0 : Int32) (σ : lf_St) : Prop := ((x4 < 0) → (∀ v2 : Int32, v2 = x3 + 1 → (K_9 x1 x2 v2 σ))) ∧ ((¬ (x4 < 0)) → (((¬ x6 = 0) → (J_X6_find_121 K_9 Post x1 x3 x4 σ)) ∧ ((x6 = 0) → (((t0 = 0) → (∀ v5 : Int32, v5 = x3 + 1 → (K_9 x1 x2 v5 σ))) ∧ ((¬ (t0 = 0)) → (J_X6_find_121 K_9 Post x1 x3 x4 σ))))))
def J_X6_find_101 (K_9 : Int32 → Int32 → Int32 → lf_St → Prop) (Post : Int32 → lf_St → Prop) (x1 : Int32) (x2 : Int32) (x3 : Int32) (x4 : Int64) (x6 : Int32) (σ : lf_St) : Prop := J_X6_find_102 K_9 Post x1 x2 x3 x4 x6 0 σ
def J_X6_find_63 (K_9 : Int32 → Int32 → Int32 → lf_St → Prop) (Post : Int32 → lf_St → Prop) (x1 : Int32) (x2 : Int32) (x3 : Int32) (x4 : Int64) (t0 : Int32) (σ : lf_St) : Prop := ((x2 < 0) → (J_X6_find_101 K_9 Post x1 x2 x3 x4 t0 σ)) ∧ ((¬ (x2 < 0)) → (((¬ (x4 * (lf_gl σ 23)) = ((lf_gl σ 22) * (lf_gl σ 20))) → (J_X6_find_101 K_9 Post x1 x2 x3 x4 t0 σ)) ∧ (((x4 * (lf_gl σ 23)) = ((lf_gl σ 22) * (lf_gl σ 20))) → (wp_X6_isAhead x3 x2 σ (fun r3 σ3 => ((r3 = 0) → (J_X6_find_101 K_9 Post x1 x2 x3 x4 t0 σ3)) ∧ ((¬ (r3 = 0)) → (J_X6_find_102 K_9 Post x1 x2 x3 x4 t0 1 σ3)))))))
def J_X6_find_58 (K_9 : Int32 → Int32 → Int32 → lf_St → Prop) (Post : Int32 → lf_St → Prop) (x1 : Int32) (x2 : Int32) (x3 : Int32) (x4 : Int64) (σ : lf_St) : Prop := J_X6_find_63 K_9 Post x1 x2 x3 x4 1 σ
def L_X6_find_9 (Post : Int32 → lf_St → Prop) : Nat → Int32 → Int32 → Int32 → lf_St → Prop
  | 0, _, _, _, _ => False
  | n + 1, x1, x2, x3, σ => (((1 <<< ((lf_gi σ 6) &&& 31)) ≤ x3) → (Post x2 σ)) ∧ ((¬ ((1 <<< ((lf_gi σ 6) &&& 31)) ≤ x3)) → (wp_X6_isChoice x3 σ (fun r2 σ2 => ((r2 = 0) → (∀ v4 : Int32, v4 = x3 + 1 → (L_X6_find_9 Post n x1 x2 v4 σ2))) ∧ ((¬ (r2 = 0)) → (wp_X6_costOf x1 σ2 (fun r5 σ5 => ((x2 < 0) → (J_X6_find_58 (L_X6_find_9 Post n) Post x1 x2 x3 r5 σ5)) ∧ ((¬ (x2 < 0)) → (((((lf_gl σ5 22) * (lf_gl σ5 20)) ≤ (r5 * (lf_gl σ5 23))) → (J_X6_find_63 (L_X6_find_9 Post n) Post x1 x2 x3 r5 0 σ5)) ∧ ((¬ (((lf_gl σ5 22) * (lf_gl σ5 20)) ≤ (r5 * (lf_gl σ5 23)))) → (J_X6_find_58 (L_X6_find_9 Post n) Post x1 x2 x3 r5 σ5))))))))))
def wp_X6_find (x1 : Int32) (σ : lf_St) (Post : Int32 → lf_St → Prop) : Prop := wp_X6_layRows σ (fun σ1 => ∃ fu : Nat, L_X6_find_9 Post fu x1 (-6) 0 σ1)
def rm_X6_find : Room := ({ frames := 4, cells := 0, slots := 0, locals := 103 } : Room)
set_option maxHeartbeats 4000000 in
set_option maxRecDepth 100000 in
theorem w_X6_find_121 {p : Program} {l : Launch} {e : Env} {s : State} {m : MethodId} {args : Array Value} {below : List Frame} {meth : Method} {c : Code} {D : va_G} {A : Nat → Prop} {ha : Nat → Nat} {cy : Nat → ClassId} (K_9 : Int32 → Int32 → Int32 → lf_St → Prop) (Post : Int32 → lf_St → Prop) (F : lf_C p s m args meth c RX6 cX6_find 8 (some .int) D (tyM_ cy) A) (hK_9 : ∀ (x1 : Int32) (x2 : Int32) (x3 : Int32) (σ : lf_St) (H : Heap) (locs : List Loc) (ls : Array Slot), lf_H D (wM_ ha cy) A s σ H locs → lv_has ls 8 [(0, .ref (ha 0)), (1, .int x1), (2, .int x2), (3, .int x3)] → K_9 x1 x2 x3 σ → W p l e rm_X6_find s m args below meth c H locs 0 0 (lf_Qi below args s D (tyM_ cy) A (wM_ ha cy) Post) (F0 m 9 ls [])) (x1 : Int32) (x3 : Int32) (x4 : Int64) (σ : lf_St) (H : Heap) (locs : List Loc) (ls : Array Slot) (hh : lf_H D (wM_ ha cy) A s σ H locs) (hl : lv_has ls 8 [(0, .ref (ha 0)), (1, .int x1), (3, .int x3), (4, .long x4)]) (hw : J_X6_find_121 K_9 Post x1 x3 x4 σ) : W p l e rm_X6_find s m args below meth c H locs 0 0 (lf_Qi below args s D (tyM_ cy) A (wM_ ha cy) Post) (F0 m 121 ls []) := by
  have hx := F.1.1
  have hb := F.1.2.1
  unfold J_X6_find_121 at hw
  refine lv_iload_n hx hb dX6_find_121 rfl (lv_at hl 2 rfl) ?_
  refine lv_istore_n (lv' := [(2, .int x3), (0, .ref (ha 0)), (1, .int x1), (3, .int x3), (4, .long x4)]) hx hb dX6_find_122 rfl hl (by decide) rfl (fun ls hl => ?_)
  refine lv_aload_n hx hb dX6_find_123 rfl (lv_at hl 1 rfl) ?_
  refine lv_lload hx hb dX6_find_124 (lv_at hl 4 rfl) ?_
  refine fp_X6_171 F hh dX6_find_126 (fun H locs hh => ?_)
  refine lv_aload_n hx hb dX6_find_129 rfl (lv_at hl 1 rfl) ?_
  refine lv_aload_n hx hb dX6_find_130 rfl (lv_at hl 1 rfl) ?_
  obtain ⟨σ1, eσ1⟩ : ∃ z : lf_St, z = (lf_sl σ 22 x4) := ⟨_, rfl⟩
  rw [← eσ1] at hh
  have hw := hw σ1 eσ1
  refine fg_X6_136 F hh dX6_find_131 ?_
  refine fp_X6_168 F hh dX6_find_134 (fun H locs hh => ?_)
  obtain ⟨v2, ev2⟩ : ∃ y : Int32, y = x3 + 1 := ⟨_, rfl⟩
  have hw := hw v2 ev2
  refine lv_iinc (v := v2) (lv' := [(3, .int v2), (2, .int x3), (0, .ref (ha 0)), (1, .int x1), (4, .long x4)]) hx hb dX6_find_137 hl (k := 3) rfl (by rw [ev2]; rfl) (by decide) rfl (fun ls hl => ?_)
  refine lv_goto (tgt := 9) hx hb dX6_find_140 (by decide) ?_
  exact hK_9 x1 x3 v2 (lf_sl σ1 23 (lf_gl σ1 20)) _ _ _ hh (lv_sub hl [2, 3, 1, 0] rfl) hw
set_option maxHeartbeats 4000000 in
set_option maxRecDepth 100000 in
theorem w_X6_find_102 {p : Program} {l : Launch} {e : Env} {s : State} {m : MethodId} {args : Array Value} {below : List Frame} {meth : Method} {c : Code} {D : va_G} {A : Nat → Prop} {ha : Nat → Nat} {cy : Nat → ClassId} (K_9 : Int32 → Int32 → Int32 → lf_St → Prop) (Post : Int32 → lf_St → Prop) (F : lf_C p s m args meth c RX6 cX6_find 8 (some .int) D (tyM_ cy) A) (hK_9 : ∀ (x1 : Int32) (x2 : Int32) (x3 : Int32) (σ : lf_St) (H : Heap) (locs : List Loc) (ls : Array Slot), lf_H D (wM_ ha cy) A s σ H locs → lv_has ls 8 [(0, .ref (ha 0)), (1, .int x1), (2, .int x2), (3, .int x3)] → K_9 x1 x2 x3 σ → W p l e rm_X6_find s m args below meth c H locs 0 0 (lf_Qi below args s D (tyM_ cy) A (wM_ ha cy) Post) (F0 m 9 ls [])) (x1 : Int32) (x2 : Int32) (x3 : Int32) (x4 : Int64) (x6 : Int32) (t0 : Int32) (σ : lf_St) (H : Heap) (locs : List Loc) (ls : Array Slot) (hh : lf_H D (wM_ ha cy) A s σ H locs) (hl : lv_has ls 8 [(0, .ref (ha 0)), (1, .int x1), (2, .int x2), (3, .int x3), (4, .long x4), (6, .int x6)]) (hw : J_X6_find_102 K_9 Post x1 x2 x3 x4 x6 t0 σ) : W p l e rm_X6_find s m args below meth c H locs 0 0 (lf_Qi below args s D (tyM_ cy) A (wM_ ha cy) Post) (F0 m 102 ls [.int t0]) := by
  have hx := F.1.1
  have hb := F.1.2.1
  unfold J_X6_find_102 at hw
  refine lv_istore (lv' := [(7, .int t0), (0, .ref (ha 0)), (1, .int x1), (2, .int x2), (3, .int x3), (4, .long x4), (6, .int x6)]) hx hb dX6_find_102 hl (by decide) rfl (fun ls hl => ?_)
  refine lv_lload hx hb dX6_find_104 (lv_at hl 5 rfl) ?_
  refine lv_lconst (v := 0) hx hb dX6_find_106 (by decide) ?_
  refine lf_lcmp_lt (tgt := 137) hx hb dX6_find_107 dX6_find_108 (by decide) (fun c1 => ?_) (fun c1 => ?_)
  · have hw := hw.1 c1
    obtain ⟨v2, ev2⟩ : ∃ y : Int32, y = x3 + 1 := ⟨_, rfl⟩
    have hw := hw v2 ev2
    refine lv_iinc (v := v2) (lv' := [(3, .int v2), (7, .int t0), (0, .ref (ha 0)), (1, .int x1), (2, .int x2), (4, .long x4), (6, .int x6)]) hx hb dX6_find_137 hl (k := 4) rfl (by rw [ev2]; rfl) (by decide) rfl (fun ls hl => ?_)
    refine lv_goto (tgt := 9) hx hb dX6_find_140 (by decide) ?_
    exact hK_9 x1 x2 v2 σ _ _ _ hh (lv_sub hl [2, 3, 4, 0] rfl) hw
  · have hw := hw.2 c1
    refine lv_iload hx hb dX6_find_111 (lv_at hl 6 rfl) ?_
    refine lv_if_ne (tgt := 121) hx hb dX6_find_113 (by decide) (fun c3 => ?_) (fun c3 => ?_)
    · have hw := hw.1 c3
      exact w_X6_find_121 _ Post F hK_9 x1 x3 x4 σ _ _ _ hh (lv_sub hl [1, 2, 4, 5] rfl) hw
    · have hw := hw.2 c3
      refine lv_iload hx hb dX6_find_116 (lv_at hl 0 rfl) ?_
      refine lv_if_eq (tgt := 137) hx hb dX6_find_118 (by decide) (fun c4 => ?_) (fun c4 => ?_)
      · have hw := hw.1 c4
        obtain ⟨v5, ev5⟩ : ∃ y : Int32, y = x3 + 1 := ⟨_, rfl⟩
        have hw := hw v5 ev5
        refine lv_iinc (v := v5) (lv' := [(3, .int v5), (7, .int t0), (0, .ref (ha 0)), (1, .int x1), (2, .int x2), (4, .long x4), (6, .int x6)]) hx hb dX6_find_137 hl (k := 4) rfl (by rw [ev5]; rfl) (by decide) rfl (fun ls hl => ?_)
        refine lv_goto (tgt := 9) hx hb dX6_find_140 (by decide) ?_
        exact hK_9 x1 x2 v5 σ _ _ _ hh (lv_sub hl [2, 3, 4, 0] rfl) hw
      · have hw := hw.2 c4
        exact w_X6_find_121 _ Post F hK_9 x1 x3 x4 σ _ _ _ hh (lv_sub hl [1, 2, 4, 5] rfl) hw
set_option maxHeartbeats 4000000 in
set_option maxRecDepth 100000 in
theorem w_X6_find_101 {p : Program} {l : Launch} {e : Env} {s : State} {m : MethodId} {args : Array Value} {below : List Frame} {meth : Method} {c : Code} {D : va_G} {A : Nat → Prop} {ha : Nat → Nat} {cy : Nat → ClassId} (K_9 : Int32 → Int32 → Int32 → lf_St → Prop) (Post : Int32 → lf_St → Prop) (F : lf_C p s m args meth c RX6 cX6_find 8 (some .int) D (tyM_ cy) A) (hK_9 : ∀ (x1 : Int32) (x2 : Int32) (x3 : Int32) (σ : lf_St) (H : Heap) (locs : List Loc) (ls : Array Slot), lf_H D (wM_ ha cy) A s σ H locs → lv_has ls 8 [(0, .ref (ha 0)), (1, .int x1), (2, .int x2), (3, .int x3)] → K_9 x1 x2 x3 σ → W p l e rm_X6_find s m args below meth c H locs 0 0 (lf_Qi below args s D (tyM_ cy) A (wM_ ha cy) Post) (F0 m 9 ls [])) (x1 : Int32) (x2 : Int32) (x3 : Int32) (x4 : Int64) (x6 : Int32) (σ : lf_St) (H : Heap) (locs : List Loc) (ls : Array Slot) (hh : lf_H D (wM_ ha cy) A s σ H locs) (hl : lv_has ls 8 [(0, .ref (ha 0)), (1, .int x1), (2, .int x2), (3, .int x3), (4, .long x4), (6, .int x6)]) (hw : J_X6_find_101 K_9 Post x1 x2 x3 x4 x6 σ) : W p l e rm_X6_find s m args below meth c H locs 0 0 (lf_Qi below args s D (tyM_ cy) A (wM_ ha cy) Post) (F0 m 101 ls []) := by
  have hx := F.1.1
  have hb := F.1.2.1
  unfold J_X6_find_101 at hw
  refine lv_iconst (v := 0) hx hb dX6_find_101 (by decide) ?_
  exact w_X6_find_102 _ Post F hK_9 x1 x2 x3 x4 x6 0 σ _ _ _ hh (lv_sub hl [0, 1, 2, 3, 4, 5] rfl) hw
set_option maxHeartbeats 4000000 in
set_option maxRecDepth 100000 in
theorem w_X6_find_63 {p : Program} {l : Launch} {e : Env} {s : State} {m : MethodId} {args : Array Value} {below : List Frame} {meth : Method} {c : Code} {D : va_G} {A : Nat → Prop} {ha : Nat → Nat} {cy : Nat → ClassId} (K_9 : Int32 → Int32 → Int32 → lf_St → Prop) (Post : Int32 → lf_St → Prop) (F : lf_C p s m args meth c RX6 cX6_find 8 (some .int) D (tyM_ cy) A) (hK_9 : ∀ (x1 : Int32) (x2 : Int32) (x3 : Int32) (σ : lf_St) (H : Heap) (locs : List Loc) (ls : Array Slot), lf_H D (wM_ ha cy) A s σ H locs → lv_has ls 8 [(0, .ref (ha 0)), (1, .int x1), (2, .int x2), (3, .int x3)] → K_9 x1 x2 x3 σ → W p l e rm_X6_find s m args below meth c H locs 0 0 (lf_Qi below args s D (tyM_ cy) A (wM_ ha cy) Post) (F0 m 9 ls [])) (x1 : Int32) (x2 : Int32) (x3 : Int32) (x4 : Int64) (t0 : Int32) (σ : lf_St) (H : Heap) (locs : List Loc) (ls : Array Slot) (hh : lf_H D (wM_ ha cy) A s σ H locs) (hl : lv_has ls 8 [(0, .ref (ha 0)), (1, .int x1), (2, .int x2), (3, .int x3), (4, .long x4)]) (hw : J_X6_find_63 K_9 Post x1 x2 x3 x4 t0 σ) : W p l e rm_X6_find s m args below meth c H locs 0 0 (lf_Qi below args s D (tyM_ cy) A (wM_ ha cy) Post) (F0 m 63 ls [.int t0]) := by
  have hx := F.1.1
  have hb := F.1.2.1
  unfold J_X6_find_63 at hw
  refine lv_istore (lv' := [(6, .int t0), (0, .ref (ha 0)), (1, .int x1), (2, .int x2), (3, .int x3), (4, .long x4)]) hx hb dX6_find_63 hl (by decide) rfl (fun ls hl => ?_)
  refine lv_iload_n hx hb dX6_find_65 rfl (lv_at hl 3 rfl) ?_
  refine lv_if_lt (tgt := 101) hx hb dX6_find_66 (by decide) (fun c1 => ?_) (fun c1 => ?_)
  · have hw := hw.1 c1
    exact w_X6_find_101 _ Post F hK_9 x1 x2 x3 x4 t0 σ _ _ _ hh (lv_sub hl [1, 2, 3, 4, 5, 0] rfl) hw
  · have hw := hw.2 c1
    refine lv_lload hx hb dX6_find_69 (lv_at hl 5 rfl) ?_
    refine lv_aload_n hx hb dX6_find_71 rfl (lv_at hl 1 rfl) ?_
    refine fg_X6_168 F hh dX6_find_72 ?_
    refine lv_lmul hx hb dX6_find_75 ?_
    refine lv_aload_n hx hb dX6_find_76 rfl (lv_at hl 1 rfl) ?_
    refine fg_X6_171 F hh dX6_find_77 ?_
    refine lv_aload_n hx hb dX6_find_80 rfl (lv_at hl 1 rfl) ?_
    refine fg_X6_136 F hh dX6_find_81 ?_
    refine lv_lmul hx hb dX6_find_84 ?_
    refine lf_lcmp_ne (tgt := 101) hx hb dX6_find_85 dX6_find_86 (by decide) (fun c2 => ?_) (fun c2 => ?_)
    · have hw := hw.1 c2
      exact w_X6_find_101 _ Post F hK_9 x1 x2 x3 x4 t0 σ _ _ _ hh (lv_sub hl [1, 2, 3, 4, 5, 0] rfl) hw
    · have hw := hw.2 c2
      refine lv_iload_n hx hb dX6_find_89 rfl (lv_at hl 4 rfl) ?_
      refine lv_iload_n hx hb dX6_find_90 rfl (lv_at hl 3 rfl) ?_
      refine lf_callSi (rest := []) F hh (cw_X6_144 F.1.2.2.2.2 ⟨Nat.le_of_ble_eq_true rfl, Nat.le_of_ble_eq_true rfl⟩) (c_X6_isAhead l D ha cy H.size σ x3 x2 _ hw) rfl hl.1 (Nat.le_of_ble_eq_true rfl) dX6_find_91 rfl (fun r3 σ3 H locs hw hh => ?_)
      refine lv_if_eq (tgt := 101) hx hb dX6_find_94 (by decide) (fun c4 => ?_) (fun c4 => ?_)
      · have hw := hw.1 c4
        exact w_X6_find_101 _ Post F hK_9 x1 x2 x3 x4 t0 σ3 _ _ _ hh (lv_sub hl [1, 2, 3, 4, 5, 0] rfl) hw
      · have hw := hw.2 c4
        refine lv_iconst (v := 1) hx hb dX6_find_97 (by decide) ?_
        refine lv_goto (tgt := 102) hx hb dX6_find_98 (by decide) ?_
        exact w_X6_find_102 _ Post F hK_9 x1 x2 x3 x4 t0 1 σ3 _ _ _ hh (lv_sub hl [1, 2, 3, 4, 5, 0] rfl) hw
set_option maxHeartbeats 4000000 in
set_option maxRecDepth 100000 in
theorem w_X6_find_58 {p : Program} {l : Launch} {e : Env} {s : State} {m : MethodId} {args : Array Value} {below : List Frame} {meth : Method} {c : Code} {D : va_G} {A : Nat → Prop} {ha : Nat → Nat} {cy : Nat → ClassId} (K_9 : Int32 → Int32 → Int32 → lf_St → Prop) (Post : Int32 → lf_St → Prop) (F : lf_C p s m args meth c RX6 cX6_find 8 (some .int) D (tyM_ cy) A) (hK_9 : ∀ (x1 : Int32) (x2 : Int32) (x3 : Int32) (σ : lf_St) (H : Heap) (locs : List Loc) (ls : Array Slot), lf_H D (wM_ ha cy) A s σ H locs → lv_has ls 8 [(0, .ref (ha 0)), (1, .int x1), (2, .int x2), (3, .int x3)] → K_9 x1 x2 x3 σ → W p l e rm_X6_find s m args below meth c H locs 0 0 (lf_Qi below args s D (tyM_ cy) A (wM_ ha cy) Post) (F0 m 9 ls [])) (x1 : Int32) (x2 : Int32) (x3 : Int32) (x4 : Int64) (σ : lf_St) (H : Heap) (locs : List Loc) (ls : Array Slot) (hh : lf_H D (wM_ ha cy) A s σ H locs) (hl : lv_has ls 8 [(0, .ref (ha 0)), (1, .int x1), (2, .int x2), (3, .int x3), (4, .long x4)]) (hw : J_X6_find_58 K_9 Post x1 x2 x3 x4 σ) : W p l e rm_X6_find s m args below meth c H locs 0 0 (lf_Qi below args s D (tyM_ cy) A (wM_ ha cy) Post) (F0 m 58 ls []) := by
  have hx := F.1.1
  have hb := F.1.2.1
  unfold J_X6_find_58 at hw
  refine lv_iconst (v := 1) hx hb dX6_find_58 (by decide) ?_
  refine lv_goto (tgt := 63) hx hb dX6_find_59 (by decide) ?_
  exact w_X6_find_63 _ Post F hK_9 x1 x2 x3 x4 1 σ _ _ _ hh (lv_sub hl [0, 1, 2, 3, 4] rfl) hw
set_option maxHeartbeats 4000000 in
set_option maxRecDepth 100000 in
theorem w_X6_find_9 {p : Program} {l : Launch} {e : Env} {s : State} {m : MethodId} {args : Array Value} {below : List Frame} {meth : Method} {c : Code} {D : va_G} {A : Nat → Prop} {ha : Nat → Nat} {cy : Nat → ClassId} (Post : Int32 → lf_St → Prop) (F : lf_C p s m args meth c RX6 cX6_find 8 (some .int) D (tyM_ cy) A) : ∀ (n : Nat) (x1 : Int32) (x2 : Int32) (x3 : Int32) (σ : lf_St) (H : Heap) (locs : List Loc) (ls : Array Slot), lf_H D (wM_ ha cy) A s σ H locs → lv_has ls 8 [(0, .ref (ha 0)), (1, .int x1), (2, .int x2), (3, .int x3)] → L_X6_find_9 Post n x1 x2 x3 σ → W p l e rm_X6_find s m args below meth c H locs 0 0 (lf_Qi below args s D (tyM_ cy) A (wM_ ha cy) Post) (F0 m 9 ls []) := by
  have hx := F.1.1
  have hb := F.1.2.1
  intro n
  induction n with
  | zero =>
    intro x1 x2 x3 σ H locs ls hh hl hw
    exact False.elim hw
  | succ n ih =>
    intro x1 x2 x3 σ H locs ls hh hl hw
    unfold L_X6_find_9 at hw
    refine lv_iload_n hx hb dX6_find_9 rfl (lv_at hl 3 rfl) ?_
    refine lv_iconst (v := 1) hx hb dX6_find_10 (by decide) ?_
    refine lv_aload_n hx hb dX6_find_11 rfl (lv_at hl 0 rfl) ?_
    refine fg_X6_65 F hh dX6_find_12 ?_
    refine lv_ishl hx hb dX6_find_15 ?_
    refine lv_icmp_ge (tgt := 143) hx hb dX6_find_16 (by decide) (fun c1 => ?_) (fun c1 => ?_)
    · have hw := hw.1 c1
      refine lv_iload_n hx hb dX6_find_143 rfl (lv_at hl 2 rfl) ?_
      exact lf_reti F hh hw dX6_find_144
    · have hw := hw.2 c1
      refine lv_aload_n hx hb dX6_find_19 rfl (lv_at hl 0 rfl) ?_
      refine lv_iload_n hx hb dX6_find_20 rfl (lv_at hl 3 rfl) ?_
      refine lf_callVi (rest := []) F hh (cw_X6_153 F.1.2.2.2.2 ⟨Nat.le_of_ble_eq_true rfl, Nat.le_of_ble_eq_true rfl⟩) (c_X6_isChoice l D ha cy H.size σ x3 _ hw) 0 6 rfl rfl rfl rfl hl.1 (Nat.le_of_ble_eq_true rfl) dX6_find_21 rfl (fun r2 σ2 H locs hw hh => ?_)
      refine lv_if_eq (tgt := 137) hx hb dX6_find_24 (by decide) (fun c3 => ?_) (fun c3 => ?_)
      · have hw := hw.1 c3
        obtain ⟨v4, ev4⟩ : ∃ y : Int32, y = x3 + 1 := ⟨_, rfl⟩
        have hw := hw v4 ev4
        refine lv_iinc (v := v4) (lv' := [(3, .int v4), (0, .ref (ha 0)), (1, .int x1), (2, .int x2)]) hx hb dX6_find_137 hl (k := 3) rfl (by rw [ev4]; rfl) (by decide) rfl (fun ls hl => ?_)
        refine lv_goto (tgt := 9) hx hb dX6_find_140 (by decide) ?_
        exact ih x1 x2 v4 σ2 _ _ _ hh (lv_sub hl [1, 2, 3, 0] rfl) hw
      · have hw := hw.2 c3
        refine lv_aload_n hx hb dX6_find_27 rfl (lv_at hl 0 rfl) ?_
        refine lv_iload_n hx hb dX6_find_28 rfl (lv_at hl 1 rfl) ?_
        refine lf_callVl (rest := []) F hh (cw_X6_165 F.1.2.2.2.2 ⟨Nat.le_of_ble_eq_true rfl, Nat.le_of_ble_eq_true rfl⟩) (c_X6_costOf l D ha cy H.size σ2 x1 _ hw) 0 6 rfl rfl rfl rfl hl.1 (Nat.le_of_ble_eq_true rfl) dX6_find_29 rfl (fun r5 σ5 H locs hw hh => ?_)
        refine lv_lstore (lv' := [(4, .long r5), (0, .ref (ha 0)), (1, .int x1), (2, .int x2), (3, .int x3)]) hx hb dX6_find_32 hl (by decide) rfl (fun ls hl => ?_)
        refine lv_iload_n hx hb dX6_find_34 rfl (lv_at hl 3 rfl) ?_
        refine lv_if_lt (tgt := 58) hx hb dX6_find_35 (by decide) (fun c6 => ?_) (fun c6 => ?_)
        · have hw := hw.1 c6
          exact w_X6_find_58 _ Post F ih x1 x2 x3 r5 σ5 _ _ _ hh (lv_sub hl [1, 2, 3, 4, 0] rfl) hw
        · have hw := hw.2 c6
          refine lv_lload hx hb dX6_find_38 (lv_at hl 0 rfl) ?_
          refine lv_aload_n hx hb dX6_find_40 rfl (lv_at hl 1 rfl) ?_
          refine fg_X6_168 F hh dX6_find_41 ?_
          refine lv_lmul hx hb dX6_find_44 ?_
          refine lv_aload_n hx hb dX6_find_45 rfl (lv_at hl 1 rfl) ?_
          refine fg_X6_171 F hh dX6_find_46 ?_
          refine lv_aload_n hx hb dX6_find_49 rfl (lv_at hl 1 rfl) ?_
          refine fg_X6_136 F hh dX6_find_50 ?_
          refine lv_lmul hx hb dX6_find_53 ?_
          refine lf_lcmp_ge (tgt := 62) hx hb dX6_find_54 dX6_find_55 (by decide) (fun c7 => ?_) (fun c7 => ?_)
          · have hw := hw.1 c7
            refine lv_iconst (v := 0) hx hb dX6_find_62 (by decide) ?_
            exact w_X6_find_63 _ Post F ih x1 x2 x3 r5 0 σ5 _ _ _ hh (lv_sub hl [1, 2, 3, 4, 0] rfl) hw
          · have hw := hw.2 c7
            exact w_X6_find_58 _ Post F ih x1 x2 x3 r5 σ5 _ _ _ hh (lv_sub hl [1, 2, 3, 4, 0] rfl) hw
set_option maxHeartbeats 4000000 in
set_option maxRecDepth 100000 in
theorem c_X6_find (l : Launch) (D : va_G) (ha : Nat → Nat) (cy : Nat → ClassId) (sz : Nat) (σ : lf_St) (x1 : Int32) (Post : Int32 → lf_St → Prop) (hw : wp_X6_find x1 σ Post) : lf_Mi l yX6_find (lf_ws yX6_find cX6_find 8 (some .int)) rm_X6_find D (tyM_ cy) (wM_ ha cy) sz σ [.ref (ha 0), .int x1] Post := by
  refine lf_ofi (by decide +kernel) (Nat.le_of_ble_eq_true rfl) ?_
  intro p e s m args below meth c A ls F hh hl
  have hx := F.1.1
  have hb := F.1.2.1
  have hl : lv_has ls 8 [(0, .ref (ha 0)), (1, .int x1)] := hl
  obtain ⟨H, hHe⟩ : ∃ H, H = s.heap := ⟨_, rfl⟩
  rw [← hHe] at hh ⊢
  unfold wp_X6_find at hw
  refine lv_aload_n hx hb dX6_find_0 rfl (lv_at hl 0 rfl) ?_
  refine lf_callVv (rest := []) F hh (cw_X6_150 F.1.2.2.2.2 ⟨Nat.le_of_ble_eq_true rfl, Nat.le_of_ble_eq_true rfl⟩) (c_X6_layRows l D ha cy H.size σ  _ hw) 0 6 rfl rfl rfl rfl hl.1 (Nat.le_of_ble_eq_true rfl) dX6_find_1 rfl (fun σ1 H locs hw hh => ?_)
  refine lv_bipush (v := (-6)) hx hb dX6_find_4 (by decide) ?_
  refine lv_istore_n (lv' := [(2, .int (-6)), (0, .ref (ha 0)), (1, .int x1)]) hx hb dX6_find_6 rfl hl (by decide) rfl (fun ls hl => ?_)
  refine lv_iconst (v := 0) hx hb dX6_find_7 (by decide) ?_
  refine lv_istore_n (lv' := [(3, .int 0), (2, .int (-6)), (0, .ref (ha 0)), (1, .int x1)]) hx hb dX6_find_8 rfl hl (by decide) rfl (fun ls hl => ?_)
  obtain ⟨n9, hw⟩ := hw
  exact w_X6_find_9 Post F  n9 x1 (-6) 0 σ1 _ _ _ hh (lv_sub hl [2, 3, 1, 0] rfl) hw
def wp_X6_isKind (x0 : Int32) (σ : lf_St) (Post : Int32 → lf_St → Prop) : Prop := wp_X6_in (x0.toInt64) 0 3 σ (fun r1 σ1 => (fits .boolean (.int r1) = true) ∧ Post r1 σ1)
def rm_X6_isKind : Room := ({ frames := 1, cells := 0, slots := 0, locals := 25 } : Room)
set_option maxHeartbeats 4000000 in
set_option maxRecDepth 100000 in
theorem c_X6_isKind (l : Launch) (D : va_G) (ha : Nat → Nat) (cy : Nat → ClassId) (sz : Nat) (σ : lf_St) (x0 : Int32) (Post : Int32 → lf_St → Prop) (hw : wp_X6_isKind x0 σ Post) : lf_Mi l yX6_isKind (lf_ws yX6_isKind cX6_isKind 1 (some .boolean)) rm_X6_isKind D (tyM_ cy) (wM_ ha cy) sz σ [.int x0] Post := by
  refine lf_ofi (by decide +kernel) (Nat.le_of_ble_eq_true rfl) ?_
  intro p e s m args below meth c A ls F hh hl
  have hx := F.1.1
  have hb := F.1.2.1
  have hl : lv_has ls 1 [(0, .int x0)] := hl
  obtain ⟨H, hHe⟩ : ∃ H, H = s.heap := ⟨_, rfl⟩
  rw [← hHe] at hh ⊢
  unfold wp_X6_isKind at hw
  refine lv_iload_n hx hb dX6_isKind_0 rfl (lv_at hl 0 rfl) ?_
  refine lv_i2l hx hb dX6_isKind_1 rfl ?_
  refine lv_lconst (v := 0) hx hb dX6_isKind_2 (by decide) ?_
  refine lv_ldc2 hx hb F.1.2.2.2.1 (F.1.2.2.2.2 _ (lr_22 _ (List.mem_of_getElem? (i := 19) rfl))) dX6_isKind_3 ?_
  refine lf_callSi (rest := []) F hh (cw_X6_61 F.1.2.2.2.2 ⟨Nat.le_of_ble_eq_true rfl, Nat.le_of_ble_eq_true rfl⟩) (c_X6_in l D ha cy H.size σ (x0.toInt64) 0 3 _ hw) rfl hl.1 (Nat.le_of_ble_eq_true rfl) dX6_isKind_6 rfl (fun r1 σ1 H locs hw hh => ?_)
  obtain ⟨q2, hw⟩ := hw
  exact lf_retz F hh (lf_nz q2) hw dX6_isKind_9
theorem cw_X6_176 {R : Room} {s : State} {args : Array Value} (ht : ∀ w ∈ wsL_law, w.before args s = true) (hR : rm_X6_isKind.frames + 1 ≤ R.frames ∧ 8 + (1 + 11) + rm_X6_isKind.locals ≤ R.locals) : lf_cS R s args RX6 176 yX6_isKind cX6_isKind 1 (some .boolean) rm_X6_isKind 1 :=
  lf_cS_of 1 ht (lr_22 _ (List.mem_of_getElem? (i := 18) rfl)) (lr_22 _ (List.mem_of_getElem? (i := 16) rfl)) (lr_22 _ (List.mem_of_getElem? (i := 17) rfl)) (lr_1 _ (List.mem_of_getElem? (i := 5) rfl)) rfl rfl (by decide +kernel) hR
theorem cw_X6_179 {R : Room} {s : State} {args : Array Value} (ht : ∀ w ∈ wsL_law, w.before args s = true) (hR : rm_X6_find.frames + 1 ≤ R.frames ∧ 8 + (8 + 11) + rm_X6_find.locals ≤ R.locals) : lf_cV R s args RX6 RX6 179 yX6_find cX6_find 8 (some .int) rm_X6_find 1 :=
  lf_cV_of 1 ht (lr_22 _ (List.mem_of_getElem? (i := 23) rfl)) (lr_22 _ (List.mem_of_getElem? (i := 20) rfl)) (lr_22 _ (List.mem_of_getElem? (i := 21) rfl)) (lr_22 _ (List.mem_of_getElem? (i := 22) rfl)) (lr_1 _ (List.mem_of_getElem? (i := 5) rfl)) rfl rfl (by decide +kernel) hR
def wp_X6_frame (x1 : Int32) (σ : lf_St) (Post : Int32 → lf_St → Prop) : Prop := wp_X6_isKind x1 σ (fun r1 σ1 => ((r1 = 0) → (Post (-2) σ1)) ∧ ((¬ (r1 = 0)) → (wp_X6_find x1 σ1 (fun r3 σ3 => Post r3 σ3))))
def rm_X6_frame : Room := ({ frames := 5, cells := 0, slots := 0, locals := 130 } : Room)
set_option maxHeartbeats 4000000 in
set_option maxRecDepth 100000 in
theorem c_X6_frame (l : Launch) (D : va_G) (ha : Nat → Nat) (cy : Nat → ClassId) (sz : Nat) (σ : lf_St) (x1 : Int32) (Post : Int32 → lf_St → Prop) (hw : wp_X6_frame x1 σ Post) : lf_Mi l yX6_frame (lf_ws yX6_frame cX6_frame 2 (some .int)) rm_X6_frame D (tyM_ cy) (wM_ ha cy) sz σ [.ref (ha 0), .int x1] Post := by
  refine lf_ofi (by decide +kernel) (Nat.le_of_ble_eq_true rfl) ?_
  intro p e s m args below meth c A ls F hh hl
  have hx := F.1.1
  have hb := F.1.2.1
  have hl : lv_has ls 2 [(0, .ref (ha 0)), (1, .int x1)] := hl
  obtain ⟨H, hHe⟩ : ∃ H, H = s.heap := ⟨_, rfl⟩
  rw [← hHe] at hh ⊢
  unfold wp_X6_frame at hw
  refine lv_iload_n hx hb dX6_frame_0 rfl (lv_at hl 1 rfl) ?_
  refine lf_callSi (rest := []) F hh (cw_X6_176 F.1.2.2.2.2 ⟨Nat.le_of_ble_eq_true rfl, Nat.le_of_ble_eq_true rfl⟩) (c_X6_isKind l D ha cy H.size σ x1 _ hw) rfl hl.1 (Nat.le_of_ble_eq_true rfl) dX6_frame_1 rfl (fun r1 σ1 H locs hw hh => ?_)
  refine lv_if_eq (tgt := 15) hx hb dX6_frame_4 (by decide) (fun c2 => ?_) (fun c2 => ?_)
  · have hw := hw.1 c2
    refine lv_bipush (v := (-2)) hx hb dX6_frame_15 (by decide) ?_
    exact lf_reti F hh hw dX6_frame_17
  · have hw := hw.2 c2
    refine lv_aload_n hx hb dX6_frame_7 rfl (lv_at hl 0 rfl) ?_
    refine lv_iload_n hx hb dX6_frame_8 rfl (lv_at hl 1 rfl) ?_
    refine lf_callVi (rest := []) F hh (cw_X6_179 F.1.2.2.2.2 ⟨Nat.le_of_ble_eq_true rfl, Nat.le_of_ble_eq_true rfl⟩) (c_X6_find l D ha cy H.size σ1 x1 _ hw) 0 6 rfl rfl rfl rfl hl.1 (Nat.le_of_ble_eq_true rfl) dX6_frame_9 rfl (fun r3 σ3 H locs hw hh => ?_)
    refine lv_goto (tgt := 17) hx hb dX6_frame_12 (by decide) ?_
    exact lf_reti F hh hw dX6_frame_17
def wp_X6_isPart (x0 : Int32) (σ : lf_St) (Post : Int32 → lf_St → Prop) : Prop := wp_X6_in (x0.toInt64) 0 1 σ (fun r1 σ1 => (fits .boolean (.int r1) = true) ∧ Post r1 σ1)
def rm_X6_isPart : Room := ({ frames := 1, cells := 0, slots := 0, locals := 25 } : Room)
set_option maxHeartbeats 4000000 in
set_option maxRecDepth 100000 in
theorem c_X6_isPart (l : Launch) (D : va_G) (ha : Nat → Nat) (cy : Nat → ClassId) (sz : Nat) (σ : lf_St) (x0 : Int32) (Post : Int32 → lf_St → Prop) (hw : wp_X6_isPart x0 σ Post) : lf_Mi l yX6_isPart (lf_ws yX6_isPart cX6_isPart 1 (some .boolean)) rm_X6_isPart D (tyM_ cy) (wM_ ha cy) sz σ [.int x0] Post := by
  refine lf_ofi (by decide +kernel) (Nat.le_of_ble_eq_true rfl) ?_
  intro p e s m args below meth c A ls F hh hl
  have hx := F.1.1
  have hb := F.1.2.1
  have hl : lv_has ls 1 [(0, .int x0)] := hl
  obtain ⟨H, hHe⟩ : ∃ H, H = s.heap := ⟨_, rfl⟩
  rw [← hHe] at hh ⊢
  unfold wp_X6_isPart at hw
  refine lv_iload_n hx hb dX6_isPart_0 rfl (lv_at hl 0 rfl) ?_
  refine lv_i2l hx hb dX6_isPart_1 rfl ?_
  refine lv_lconst (v := 0) hx hb dX6_isPart_2 (by decide) ?_
  refine lv_lconst (v := 1) hx hb dX6_isPart_3 (by decide) ?_
  refine lf_callSi (rest := []) F hh (cw_X6_61 F.1.2.2.2.2 ⟨Nat.le_of_ble_eq_true rfl, Nat.le_of_ble_eq_true rfl⟩) (c_X6_in l D ha cy H.size σ (x0.toInt64) 0 1 _ hw) rfl hl.1 (Nat.le_of_ble_eq_true rfl) dX6_isPart_4 rfl (fun r1 σ1 H locs hw hh => ?_)
  obtain ⟨q2, hw⟩ := hw
  exact lf_retz F hh (lf_nz q2) hw dX6_isPart_7
theorem cw_X6_182 {R : Room} {s : State} {args : Array Value} (ht : ∀ w ∈ wsL_law, w.before args s = true) (hR : rm_X6_isPart.frames + 1 ≤ R.frames ∧ 8 + (1 + 11) + rm_X6_isPart.locals ≤ R.locals) : lf_cS R s args RX6 182 yX6_isPart cX6_isPart 1 (some .boolean) rm_X6_isPart 1 :=
  lf_cS_of 1 ht (lr_24 _ (List.mem_of_getElem? (i := 23) rfl)) (lr_24 _ (List.mem_of_getElem? (i := 21) rfl)) (lr_24 _ (List.mem_of_getElem? (i := 22) rfl)) (lr_1 _ (List.mem_of_getElem? (i := 5) rfl)) rfl rfl (by decide +kernel) hR
theorem cw_X6_189 {R : Room} {s : State} {args : Array Value} (ht : ∀ w ∈ wsL_law, w.before args s = true) (hR : rm_X6_term.frames + 1 ≤ R.frames ∧ 8 + (7 + 11) + rm_X6_term.locals ≤ R.locals) : lf_cS R s args RX6 189 yX6_term cX6_term 7 (some .long) rm_X6_term 3 :=
  lf_cS_of 3 ht (lr_25 _ (List.mem_of_getElem? (i := 2) rfl)) (lr_25 _ (List.mem_of_getElem? (i := 0) rfl)) (lr_25 _ (List.mem_of_getElem? (i := 1) rfl)) (lr_1 _ (List.mem_of_getElem? (i := 5) rfl)) rfl rfl (by decide +kernel) hR
def wp_X6_cost (x1 : Int32) (x2 : Int32) (σ : lf_St) (Post : Int64 → lf_St → Prop) : Prop := wp_X6_isKind x1 σ (fun r1 σ1 => ((r1 = 0) → (Post (-1000000000000002) σ1)) ∧ ((¬ (r1 = 0)) → (wp_X6_isPart x2 σ1 (fun r3 σ3 => ((¬ r3 = 0) → (wp_X6_find x1 σ3 (fun r5 σ5 => ((0 ≤ r5) → (wp_X6_term (lf_gl σ5 22) (lf_gl σ5 23) x2 σ5 (fun r7 σ7 => Post r7 σ7))) ∧ ((¬ (0 ≤ r5)) → (Post (-1000000000000006) σ5))))) ∧ ((r3 = 0) → (Post (-1000000000000002) σ3))))))
def rm_X6_cost : Room := ({ frames := 5, cells := 0, slots := 0, locals := 130 } : Room)
set_option maxHeartbeats 4000000 in
set_option maxRecDepth 100000 in
theorem c_X6_cost (l : Launch) (D : va_G) (ha : Nat → Nat) (cy : Nat → ClassId) (sz : Nat) (σ : lf_St) (x1 : Int32) (x2 : Int32) (Post : Int64 → lf_St → Prop) (hw : wp_X6_cost x1 x2 σ Post) : lf_Ml l yX6_cost (lf_ws yX6_cost cX6_cost 3 (some .long)) rm_X6_cost D (tyM_ cy) (wM_ ha cy) sz σ [.ref (ha 0), .int x1, .int x2] Post := by
  refine lf_ofl (by decide +kernel) (Nat.le_of_ble_eq_true rfl) ?_
  intro p e s m args below meth c A ls F hh hl
  have hx := F.1.1
  have hb := F.1.2.1
  have hl : lv_has ls 3 [(0, .ref (ha 0)), (1, .int x1), (2, .int x2)] := hl
  obtain ⟨H, hHe⟩ : ∃ H, H = s.heap := ⟨_, rfl⟩
  rw [← hHe] at hh ⊢
  unfold wp_X6_cost at hw
  refine lv_iload_n hx hb dX6_cost_0 rfl (lv_at hl 1 rfl) ?_
  refine lf_callSi (rest := []) F hh (cw_X6_176 F.1.2.2.2.2 ⟨Nat.le_of_ble_eq_true rfl, Nat.le_of_ble_eq_true rfl⟩) (c_X6_isKind l D ha cy H.size σ x1 _ hw) rfl hl.1 (Nat.le_of_ble_eq_true rfl) dX6_cost_1 rfl (fun r1 σ1 H locs hw hh => ?_)
  refine lv_if_eq (tgt := 14) hx hb dX6_cost_4 (by decide) (fun c2 => ?_) (fun c2 => ?_)
  · have hw := hw.1 c2
    refine lv_ldc2 hx hb F.1.2.2.2.1 (F.1.2.2.2.2 _ (lr_24 _ (List.mem_of_getElem? (i := 19) rfl))) dX6_cost_14 ?_
    exact lf_retl F hh hw dX6_cost_17
  · have hw := hw.2 c2
    refine lv_iload_n hx hb dX6_cost_7 rfl (lv_at hl 2 rfl) ?_
    refine lf_callSi (rest := []) F hh (cw_X6_182 F.1.2.2.2.2 ⟨Nat.le_of_ble_eq_true rfl, Nat.le_of_ble_eq_true rfl⟩) (c_X6_isPart l D ha cy H.size σ1 x2 _ hw) rfl hl.1 (Nat.le_of_ble_eq_true rfl) dX6_cost_8 rfl (fun r3 σ3 H locs hw hh => ?_)
    refine lv_if_ne (tgt := 18) hx hb dX6_cost_11 (by decide) (fun c4 => ?_) (fun c4 => ?_)
    · have hw := hw.1 c4
      refine lv_aload_n hx hb dX6_cost_18 rfl (lv_at hl 0 rfl) ?_
      refine lv_iload_n hx hb dX6_cost_19 rfl (lv_at hl 1 rfl) ?_
      refine lf_callVi (rest := []) F hh (cw_X6_179 F.1.2.2.2.2 ⟨Nat.le_of_ble_eq_true rfl, Nat.le_of_ble_eq_true rfl⟩) (c_X6_find l D ha cy H.size σ3 x1 _ hw) 0 6 rfl rfl rfl rfl hl.1 (Nat.le_of_ble_eq_true rfl) dX6_cost_20 rfl (fun r5 σ5 H locs hw hh => ?_)
      refine lv_if_ge (tgt := 32) hx hb dX6_cost_23 (by decide) (fun c6 => ?_) (fun c6 => ?_)
      · have hw := hw.1 c6
        refine lv_aload_n hx hb dX6_cost_32 rfl (lv_at hl 0 rfl) ?_
        refine fg_X6_171 F hh dX6_cost_33 ?_
        refine lv_aload_n hx hb dX6_cost_36 rfl (lv_at hl 0 rfl) ?_
        refine fg_X6_168 F hh dX6_cost_37 ?_
        refine lv_iload_n hx hb dX6_cost_40 rfl (lv_at hl 2 rfl) ?_
        refine lf_callSl (rest := []) F hh (cw_X6_189 F.1.2.2.2.2 ⟨Nat.le_of_ble_eq_true rfl, Nat.le_of_ble_eq_true rfl⟩) (c_X6_term l D ha cy H.size σ5 (lf_gl σ5 22) (lf_gl σ5 23) x2 _ hw) rfl hl.1 (Nat.le_of_ble_eq_true rfl) dX6_cost_41 rfl (fun r7 σ7 H locs hw hh => ?_)
        exact lf_retl F hh hw dX6_cost_44
      · have hw := hw.2 c6
        refine lv_ldc2 hx hb F.1.2.2.2.1 (F.1.2.2.2.2 _ (lr_24 _ (List.mem_of_getElem? (i := 20) rfl))) dX6_cost_26 ?_
        refine lv_goto (tgt := 44) hx hb dX6_cost_29 (by decide) ?_
        exact lf_retl F hh hw dX6_cost_44
    · have hw := hw.2 c4
      refine lv_ldc2 hx hb F.1.2.2.2.1 (F.1.2.2.2.2 _ (lr_24 _ (List.mem_of_getElem? (i := 19) rfl))) dX6_cost_14 ?_
      exact lf_retl F hh hw dX6_cost_17
def L_X6_placeOf_5 (Post : Int32 → lf_St → Prop) : Nat → Int32 → Int32 → Int32 → lf_St → Prop
  | 0, _, _, _, _ => False
  | n + 1, x1, x2, x3, σ => (((lf_gi σ 14) ≤ x3) → (Post x2 σ)) ∧ ((¬ ((lf_gi σ 14) ≤ x3)) → (vp_in x3 6 ∧ (((¬ (lf_ai σ 19 x3.toNatClampNeg) = x1) → (∀ v4 : Int32, v4 = x3 + 1 → (L_X6_placeOf_5 Post n x1 x2 v4 σ))) ∧ (((lf_ai σ 19 x3.toNatClampNeg) = x1) → (∀ v5 : Int32, v5 = x3 + 1 → (L_X6_placeOf_5 Post n x1 x3 v5 σ))))))
def wp_X6_placeOf (x1 : Int32) (σ : lf_St) (Post : Int32 → lf_St → Prop) : Prop := ∃ fu : Nat, L_X6_placeOf_5 Post fu x1 (-6) 0 σ
def rm_X6_placeOf : Room := ({ frames := 0, cells := 0, slots := 0, locals := 0 } : Room)
set_option maxHeartbeats 4000000 in
set_option maxRecDepth 100000 in
theorem w_X6_placeOf_5 {p : Program} {l : Launch} {e : Env} {s : State} {m : MethodId} {args : Array Value} {below : List Frame} {meth : Method} {c : Code} {D : va_G} {A : Nat → Prop} {ha : Nat → Nat} {cy : Nat → ClassId} (Post : Int32 → lf_St → Prop) (F : lf_C p s m args meth c RX6 cX6_placeOf 4 (some .int) D (tyM_ cy) A) : ∀ (n : Nat) (x1 : Int32) (x2 : Int32) (x3 : Int32) (σ : lf_St) (H : Heap) (locs : List Loc) (ls : Array Slot), lf_H D (wM_ ha cy) A s σ H locs → lv_has ls 4 [(0, .ref (ha 0)), (1, .int x1), (2, .int x2), (3, .int x3)] → L_X6_placeOf_5 Post n x1 x2 x3 σ → W p l e rm_X6_placeOf s m args below meth c H locs 0 0 (lf_Qi below args s D (tyM_ cy) A (wM_ ha cy) Post) (F0 m 5 ls []) := by
  have hx := F.1.1
  have hb := F.1.2.1
  intro n
  induction n with
  | zero =>
    intro x1 x2 x3 σ H locs ls hh hl hw
    exact False.elim hw
  | succ n ih =>
    intro x1 x2 x3 σ H locs ls hh hl hw
    unfold L_X6_placeOf_5 at hw
    refine lv_iload_n hx hb dX6_placeOf_5 rfl (lv_at hl 3 rfl) ?_
    refine lv_aload_n hx hb dX6_placeOf_6 rfl (lv_at hl 0 rfl) ?_
    refine fg_X6_119 F hh dX6_placeOf_7 ?_
    refine lv_icmp_ge (tgt := 35) hx hb dX6_placeOf_10 (by decide) (fun c1 => ?_) (fun c1 => ?_)
    · have hw := hw.1 c1
      refine lv_iload_n hx hb dX6_placeOf_35 rfl (lv_at hl 2 rfl) ?_
      exact lf_reti F hh hw dX6_placeOf_36
    · have hw := hw.2 c1
      refine lv_aload_n hx hb dX6_placeOf_13 rfl (lv_at hl 0 rfl) ?_
      refine fg_X6_48 F hh dX6_placeOf_14 ?_
      refine lv_iload_n hx hb dX6_placeOf_17 rfl (lv_at hl 3 rfl) ?_
      obtain ⟨q2, hw⟩ := hw
      refine ra_M_19 F hh q2 dX6_placeOf_18 ?_
      refine lv_iload_n hx hb dX6_placeOf_19 rfl (lv_at hl 1 rfl) ?_
      refine lv_icmp_ne (tgt := 27) hx hb dX6_placeOf_20 (by decide) (fun c3 => ?_) (fun c3 => ?_)
      · have hw := hw.1 c3
        refine lv_iload_n hx hb dX6_placeOf_27 rfl (lv_at hl 2 rfl) ?_
        refine lv_istore_n (lv' := [(2, .int x2), (0, .ref (ha 0)), (1, .int x1), (3, .int x3)]) hx hb dX6_placeOf_28 rfl hl (by decide) rfl (fun ls hl => ?_)
        obtain ⟨v4, ev4⟩ : ∃ y : Int32, y = x3 + 1 := ⟨_, rfl⟩
        have hw := hw v4 ev4
        refine lv_iinc (v := v4) (lv' := [(3, .int v4), (2, .int x2), (0, .ref (ha 0)), (1, .int x1)]) hx hb dX6_placeOf_29 hl (k := 3) rfl (by rw [ev4]; rfl) (by decide) rfl (fun ls hl => ?_)
        refine lv_goto (tgt := 5) hx hb dX6_placeOf_32 (by decide) ?_
        exact ih x1 x2 v4 σ _ _ _ hh (lv_sub hl [2, 3, 1, 0] rfl) hw
      · have hw := hw.2 c3
        refine lv_iload_n hx hb dX6_placeOf_23 rfl (lv_at hl 3 rfl) ?_
        refine lv_goto (tgt := 28) hx hb dX6_placeOf_24 (by decide) ?_
        refine lv_istore_n (lv' := [(2, .int x3), (0, .ref (ha 0)), (1, .int x1), (3, .int x3)]) hx hb dX6_placeOf_28 rfl hl (by decide) rfl (fun ls hl => ?_)
        obtain ⟨v5, ev5⟩ : ∃ y : Int32, y = x3 + 1 := ⟨_, rfl⟩
        have hw := hw v5 ev5
        refine lv_iinc (v := v5) (lv' := [(3, .int v5), (2, .int x3), (0, .ref (ha 0)), (1, .int x1)]) hx hb dX6_placeOf_29 hl (k := 3) rfl (by rw [ev5]; rfl) (by decide) rfl (fun ls hl => ?_)
        refine lv_goto (tgt := 5) hx hb dX6_placeOf_32 (by decide) ?_
        exact ih x1 x3 v5 σ _ _ _ hh (lv_sub hl [2, 3, 1, 0] rfl) hw
set_option maxHeartbeats 4000000 in
set_option maxRecDepth 100000 in
theorem c_X6_placeOf (l : Launch) (D : va_G) (ha : Nat → Nat) (cy : Nat → ClassId) (sz : Nat) (σ : lf_St) (x1 : Int32) (Post : Int32 → lf_St → Prop) (hw : wp_X6_placeOf x1 σ Post) : lf_Mi l yX6_placeOf (lf_ws yX6_placeOf cX6_placeOf 4 (some .int)) rm_X6_placeOf D (tyM_ cy) (wM_ ha cy) sz σ [.ref (ha 0), .int x1] Post := by
  refine lf_ofi (by decide +kernel) (Nat.le_of_ble_eq_true rfl) ?_
  intro p e s m args below meth c A ls F hh hl
  have hx := F.1.1
  have hb := F.1.2.1
  have hl : lv_has ls 4 [(0, .ref (ha 0)), (1, .int x1)] := hl
  obtain ⟨H, hHe⟩ : ∃ H, H = s.heap := ⟨_, rfl⟩
  rw [← hHe] at hh ⊢
  unfold wp_X6_placeOf at hw
  refine lv_bipush (v := (-6)) hx hb dX6_placeOf_0 (by decide) ?_
  refine lv_istore_n (lv' := [(2, .int (-6)), (0, .ref (ha 0)), (1, .int x1)]) hx hb dX6_placeOf_2 rfl hl (by decide) rfl (fun ls hl => ?_)
  refine lv_iconst (v := 0) hx hb dX6_placeOf_3 (by decide) ?_
  refine lv_istore_n (lv' := [(3, .int 0), (2, .int (-6)), (0, .ref (ha 0)), (1, .int x1)]) hx hb dX6_placeOf_4 rfl hl (by decide) rfl (fun ls hl => ?_)
  obtain ⟨n5, hw⟩ := hw
  exact w_X6_placeOf_5 Post F  n5 x1 (-6) 0 σ _ _ _ hh (lv_sub hl [2, 3, 1, 0] rfl) hw
theorem cw_X6_195 {R : Room} {s : State} {args : Array Value} (ht : ∀ w ∈ wsL_law, w.before args s = true) (hR : rm_X6_placeOf.frames + 1 ≤ R.frames ∧ 8 + (4 + 11) + rm_X6_placeOf.locals ≤ R.locals) : lf_cV R s args RX6 RX6 195 yX6_placeOf cX6_placeOf 4 (some .int) rm_X6_placeOf 1 :=
  lf_cV_of 1 ht (lr_25 _ (List.mem_of_getElem? (i := 20) rfl)) (lr_25 _ (List.mem_of_getElem? (i := 17) rfl)) (lr_25 _ (List.mem_of_getElem? (i := 18) rfl)) (lr_25 _ (List.mem_of_getElem? (i := 19) rfl)) (lr_1 _ (List.mem_of_getElem? (i := 5) rfl)) rfl rfl (by decide +kernel) hR
def wp_X6_pull (x1 : Int32) (x2 : Int32) (x3 : Int32) (σ : lf_St) (Post : Int64 → lf_St → Prop) : Prop := wp_X6_isBar x2 σ (fun r1 σ1 => ((¬ r1 = 0) → (wp_X6_isKind x1 σ1 (fun r3 σ3 => ((r3 = 0) → (Post (-1000000000000002) σ3)) ∧ ((¬ (r3 = 0)) → (wp_X6_isPart x3 σ3 (fun r5 σ5 => ((¬ r5 = 0) → (wp_X6_find x1 σ5 (fun r7 σ7 => ((r7 < 0) → (Post (-1000000000000006) σ7)) ∧ ((¬ (r7 < 0)) → (wp_X6_isChoice r7 σ7 (fun r9 σ9 => ((¬ r9 = 0) → (wp_X6_placeOf x2 σ9 (fun r11 σ11 => ((0 ≤ r11) → (vp_in r11 6 ∧ (wp_X6_term (lf_al σ11 21 r11.toNatClampNeg) (lf_gl σ11 20) x3 σ11 (fun r14 σ14 => Post r14 σ14)))) ∧ ((¬ (0 ≤ r11)) → (wp_X6_term 0 1 x3 σ11 (fun r15 σ15 => Post r15 σ15)))))) ∧ ((r9 = 0) → (Post (-1000000000000006) σ9)))))))) ∧ ((r5 = 0) → (Post (-1000000000000002) σ5)))))))) ∧ ((r1 = 0) → (Post (-1000000000000001) σ1)))
def rm_X6_pull : Room := ({ frames := 5, cells := 0, slots := 0, locals := 130 } : Room)
set_option maxHeartbeats 4000000 in
set_option maxRecDepth 100000 in
theorem c_X6_pull (l : Launch) (D : va_G) (ha : Nat → Nat) (cy : Nat → ClassId) (sz : Nat) (σ : lf_St) (x1 : Int32) (x2 : Int32) (x3 : Int32) (Post : Int64 → lf_St → Prop) (hw : wp_X6_pull x1 x2 x3 σ Post) : lf_Ml l yX6_pull (lf_ws yX6_pull cX6_pull 6 (some .long)) rm_X6_pull D (tyM_ cy) (wM_ ha cy) sz σ [.ref (ha 0), .int x1, .int x2, .int x3] Post := by
  refine lf_ofl (by decide +kernel) (Nat.le_of_ble_eq_true rfl) ?_
  intro p e s m args below meth c A ls F hh hl
  have hx := F.1.1
  have hb := F.1.2.1
  have hl : lv_has ls 6 [(0, .ref (ha 0)), (1, .int x1), (2, .int x2), (3, .int x3)] := hl
  obtain ⟨H, hHe⟩ : ∃ H, H = s.heap := ⟨_, rfl⟩
  rw [← hHe] at hh ⊢
  unfold wp_X6_pull at hw
  refine lv_aload_n hx hb dX6_pull_0 rfl (lv_at hl 0 rfl) ?_
  refine lv_iload_n hx hb dX6_pull_1 rfl (lv_at hl 2 rfl) ?_
  refine lf_callVi (rest := []) F hh (cw_X6_90 F.1.2.2.2.2 ⟨Nat.le_of_ble_eq_true rfl, Nat.le_of_ble_eq_true rfl⟩) (c_X6_isBar l D ha cy H.size σ x2 _ hw) 0 6 rfl rfl rfl rfl hl.1 (Nat.le_of_ble_eq_true rfl) dX6_pull_2 rfl (fun r1 σ1 H locs hw hh => ?_)
  refine lv_if_ne (tgt := 12) hx hb dX6_pull_5 (by decide) (fun c2 => ?_) (fun c2 => ?_)
  · have hw := hw.1 c2
    refine lv_iload_n hx hb dX6_pull_12 rfl (lv_at hl 1 rfl) ?_
    refine lf_callSi (rest := []) F hh (cw_X6_176 F.1.2.2.2.2 ⟨Nat.le_of_ble_eq_true rfl, Nat.le_of_ble_eq_true rfl⟩) (c_X6_isKind l D ha cy H.size σ1 x1 _ hw) rfl hl.1 (Nat.le_of_ble_eq_true rfl) dX6_pull_13 rfl (fun r3 σ3 H locs hw hh => ?_)
    refine lv_if_eq (tgt := 26) hx hb dX6_pull_16 (by decide) (fun c4 => ?_) (fun c4 => ?_)
    · have hw := hw.1 c4
      refine lv_ldc2 hx hb F.1.2.2.2.1 (F.1.2.2.2.2 _ (lr_24 _ (List.mem_of_getElem? (i := 19) rfl))) dX6_pull_26 ?_
      exact lf_retl F hh hw dX6_pull_29
    · have hw := hw.2 c4
      refine lv_iload_n hx hb dX6_pull_19 rfl (lv_at hl 3 rfl) ?_
      refine lf_callSi (rest := []) F hh (cw_X6_182 F.1.2.2.2.2 ⟨Nat.le_of_ble_eq_true rfl, Nat.le_of_ble_eq_true rfl⟩) (c_X6_isPart l D ha cy H.size σ3 x3 _ hw) rfl hl.1 (Nat.le_of_ble_eq_true rfl) dX6_pull_20 rfl (fun r5 σ5 H locs hw hh => ?_)
      refine lv_if_ne (tgt := 30) hx hb dX6_pull_23 (by decide) (fun c6 => ?_) (fun c6 => ?_)
      · have hw := hw.1 c6
        refine lv_aload_n hx hb dX6_pull_30 rfl (lv_at hl 0 rfl) ?_
        refine lv_iload_n hx hb dX6_pull_31 rfl (lv_at hl 1 rfl) ?_
        refine lf_callVi (rest := []) F hh (cw_X6_179 F.1.2.2.2.2 ⟨Nat.le_of_ble_eq_true rfl, Nat.le_of_ble_eq_true rfl⟩) (c_X6_find l D ha cy H.size σ5 x1 _ hw) 0 6 rfl rfl rfl rfl hl.1 (Nat.le_of_ble_eq_true rfl) dX6_pull_32 rfl (fun r7 σ7 H locs hw hh => ?_)
        refine lv_istore (lv' := [(4, .int r7), (0, .ref (ha 0)), (1, .int x1), (2, .int x2), (3, .int x3)]) hx hb dX6_pull_35 hl (by decide) rfl (fun ls hl => ?_)
        refine lv_iload hx hb dX6_pull_37 (lv_at hl 0 rfl) ?_
        refine lv_if_lt (tgt := 51) hx hb dX6_pull_39 (by decide) (fun c8 => ?_) (fun c8 => ?_)
        · have hw := hw.1 c8
          refine lv_ldc2 hx hb F.1.2.2.2.1 (F.1.2.2.2.2 _ (lr_24 _ (List.mem_of_getElem? (i := 20) rfl))) dX6_pull_51 ?_
          exact lf_retl F hh hw dX6_pull_54
        · have hw := hw.2 c8
          refine lv_aload_n hx hb dX6_pull_42 rfl (lv_at hl 1 rfl) ?_
          refine lv_iload hx hb dX6_pull_43 (lv_at hl 0 rfl) ?_
          refine lf_callVi (rest := []) F hh (cw_X6_153 F.1.2.2.2.2 ⟨Nat.le_of_ble_eq_true rfl, Nat.le_of_ble_eq_true rfl⟩) (c_X6_isChoice l D ha cy H.size σ7 r7 _ hw) 0 6 rfl rfl rfl rfl hl.1 (Nat.le_of_ble_eq_true rfl) dX6_pull_45 rfl (fun r9 σ9 H locs hw hh => ?_)
          refine lv_if_ne (tgt := 55) hx hb dX6_pull_48 (by decide) (fun c10 => ?_) (fun c10 => ?_)
          · have hw := hw.1 c10
            refine lv_aload_n hx hb dX6_pull_55 rfl (lv_at hl 1 rfl) ?_
            refine lv_iload_n hx hb dX6_pull_56 rfl (lv_at hl 3 rfl) ?_
            refine lf_callVi (rest := []) F hh (cw_X6_195 F.1.2.2.2.2 ⟨Nat.le_of_ble_eq_true rfl, Nat.le_of_ble_eq_true rfl⟩) (c_X6_placeOf l D ha cy H.size σ9 x2 _ hw) 0 6 rfl rfl rfl rfl hl.1 (Nat.le_of_ble_eq_true rfl) dX6_pull_57 rfl (fun r11 σ11 H locs hw hh => ?_)
            refine lv_istore (lv' := [(5, .int r11), (4, .int r7), (0, .ref (ha 0)), (1, .int x1), (2, .int x2), (3, .int x3)]) hx hb dX6_pull_60 hl (by decide) rfl (fun ls hl => ?_)
            refine lv_iload hx hb dX6_pull_62 (lv_at hl 0 rfl) ?_
            refine lv_if_ge (tgt := 76) hx hb dX6_pull_64 (by decide) (fun c12 => ?_) (fun c12 => ?_)
            · have hw := hw.1 c12
              refine lv_aload_n hx hb dX6_pull_76 rfl (lv_at hl 2 rfl) ?_
              refine fg_X6_51 F hh dX6_pull_77 ?_
              refine lv_iload hx hb dX6_pull_80 (lv_at hl 0 rfl) ?_
              obtain ⟨q13, hw⟩ := hw
              refine ra_M_21 F hh q13 dX6_pull_82 ?_
              refine lv_aload_n hx hb dX6_pull_83 rfl (lv_at hl 2 rfl) ?_
              refine fg_X6_136 F hh dX6_pull_84 ?_
              refine lv_iload_n hx hb dX6_pull_87 rfl (lv_at hl 5 rfl) ?_
              refine lf_callSl (rest := []) F hh (cw_X6_189 F.1.2.2.2.2 ⟨Nat.le_of_ble_eq_true rfl, Nat.le_of_ble_eq_true rfl⟩) (c_X6_term l D ha cy H.size σ11 (lf_al σ11 21 r11.toNatClampNeg) (lf_gl σ11 20) x3 _ hw) rfl hl.1 (Nat.le_of_ble_eq_true rfl) dX6_pull_88 rfl (fun r14 σ14 H locs hw hh => ?_)
              exact lf_retl F hh hw dX6_pull_91
            · have hw := hw.2 c12
              refine lv_lconst (v := 0) hx hb dX6_pull_67 (by decide) ?_
              refine lv_lconst (v := 1) hx hb dX6_pull_68 (by decide) ?_
              refine lv_iload_n hx hb dX6_pull_69 rfl (lv_at hl 5 rfl) ?_
              refine lf_callSl (rest := []) F hh (cw_X6_189 F.1.2.2.2.2 ⟨Nat.le_of_ble_eq_true rfl, Nat.le_of_ble_eq_true rfl⟩) (c_X6_term l D ha cy H.size σ11 0 1 x3 _ hw) rfl hl.1 (Nat.le_of_ble_eq_true rfl) dX6_pull_70 rfl (fun r15 σ15 H locs hw hh => ?_)
              refine lv_goto (tgt := 91) hx hb dX6_pull_73 (by decide) ?_
              exact lf_retl F hh hw dX6_pull_91
          · have hw := hw.2 c10
            refine lv_ldc2 hx hb F.1.2.2.2.1 (F.1.2.2.2.2 _ (lr_24 _ (List.mem_of_getElem? (i := 20) rfl))) dX6_pull_51 ?_
            exact lf_retl F hh hw dX6_pull_54
      · have hw := hw.2 c6
        refine lv_ldc2 hx hb F.1.2.2.2.1 (F.1.2.2.2.2 _ (lr_24 _ (List.mem_of_getElem? (i := 19) rfl))) dX6_pull_26 ?_
        exact lf_retl F hh hw dX6_pull_29
  · have hw := hw.2 c2
    refine lv_ldc2 hx hb F.1.2.2.2.1 (F.1.2.2.2.2 _ (lr_25 _ (List.mem_of_getElem? (i := 16) rfl))) dX6_pull_8 ?_
    exact lf_retl F hh hw dX6_pull_11
theorem cw_X6_198 {R : Room} {s : State} {args : Array Value} (ht : ∀ w ∈ wsL_law, w.before args s = true) (hR : rm_X6_usedBars.frames + 1 ≤ R.frames ∧ 8 + (3 + 11) + rm_X6_usedBars.locals ≤ R.locals) : lf_cV R s args RX6 RX6 198 yX6_usedBars cX6_usedBars 3 (some .int) rm_X6_usedBars 0 :=
  lf_cV_of 0 ht (lr_26 _ (List.mem_of_getElem? (i := 10) rfl)) (lr_26 _ (List.mem_of_getElem? (i := 7) rfl)) (lr_26 _ (List.mem_of_getElem? (i := 8) rfl)) (lr_26 _ (List.mem_of_getElem? (i := 9) rfl)) (lr_1 _ (List.mem_of_getElem? (i := 5) rfl)) rfl rfl (by decide +kernel) hR
def wp_X6_used (x1 : Int32) (x2 : Int32) (σ : lf_St) (Post : Int32 → lf_St → Prop) : Prop := wp_X6_isKind x1 σ (fun r1 σ1 => ((r1 = 0) → (Post (-2) σ1)) ∧ ((¬ (r1 = 0)) → (wp_X6_isPart x2 σ1 (fun r3 σ3 => ((¬ r3 = 0) → (wp_X6_find x1 σ3 (fun r5 σ5 => ((r5 < 0) → (Post (-6) σ5)) ∧ ((¬ (r5 < 0)) → (wp_X6_isChoice r5 σ5 (fun r7 σ7 => ((¬ r7 = 0) → (((¬ x2 = 0) → (wp_X6_usedJoints σ7 (fun r10 σ10 => Post r10 σ10))) ∧ ((x2 = 0) → (wp_X6_usedBars σ7 (fun r11 σ11 => Post r11 σ11))))) ∧ ((r7 = 0) → (Post (-6) σ7)))))))) ∧ ((r3 = 0) → (Post (-2) σ3))))))
def rm_X6_used : Room := ({ frames := 5, cells := 0, slots := 0, locals := 130 } : Room)
set_option maxHeartbeats 4000000 in
set_option maxRecDepth 100000 in
theorem c_X6_used (l : Launch) (D : va_G) (ha : Nat → Nat) (cy : Nat → ClassId) (sz : Nat) (σ : lf_St) (x1 : Int32) (x2 : Int32) (Post : Int32 → lf_St → Prop) (hw : wp_X6_used x1 x2 σ Post) : lf_Mi l yX6_used (lf_ws yX6_used cX6_used 4 (some .int)) rm_X6_used D (tyM_ cy) (wM_ ha cy) sz σ [.ref (ha 0), .int x1, .int x2] Post := by
  refine lf_ofi (by decide +kernel) (Nat.le_of_ble_eq_true rfl) ?_
  intro p e s m args below meth c A ls F hh hl
  have hx := F.1.1
  have hb := F.1.2.1
  have hl : lv_has ls 4 [(0, .ref (ha 0)), (1, .int x1), (2, .int x2)] := hl
  obtain ⟨H, hHe⟩ : ∃ H, H = s.heap := ⟨_, rfl⟩
  rw [← hHe] at hh ⊢
  unfold wp_X6_used at hw
  refine lv_iload_n hx hb dX6_used_0 rfl (lv_at hl 1 rfl) ?_
  refine lf_callSi (rest := []) F hh (cw_X6_176 F.1.2.2.2.2 ⟨Nat.le_of_ble_eq_true rfl, Nat.le_of_ble_eq_true rfl⟩) (c_X6_isKind l D ha cy H.size σ x1 _ hw) rfl hl.1 (Nat.le_of_ble_eq_true rfl) dX6_used_1 rfl (fun r1 σ1 H locs hw hh => ?_)
  refine lv_if_eq (tgt := 14) hx hb dX6_used_4 (by decide) (fun c2 => ?_) (fun c2 => ?_)
  · have hw := hw.1 c2
    refine lv_bipush (v := (-2)) hx hb dX6_used_14 (by decide) ?_
    exact lf_reti F hh hw dX6_used_16
  · have hw := hw.2 c2
    refine lv_iload_n hx hb dX6_used_7 rfl (lv_at hl 2 rfl) ?_
    refine lf_callSi (rest := []) F hh (cw_X6_182 F.1.2.2.2.2 ⟨Nat.le_of_ble_eq_true rfl, Nat.le_of_ble_eq_true rfl⟩) (c_X6_isPart l D ha cy H.size σ1 x2 _ hw) rfl hl.1 (Nat.le_of_ble_eq_true rfl) dX6_used_8 rfl (fun r3 σ3 H locs hw hh => ?_)
    refine lv_if_ne (tgt := 17) hx hb dX6_used_11 (by decide) (fun c4 => ?_) (fun c4 => ?_)
    · have hw := hw.1 c4
      refine lv_aload_n hx hb dX6_used_17 rfl (lv_at hl 0 rfl) ?_
      refine lv_iload_n hx hb dX6_used_18 rfl (lv_at hl 1 rfl) ?_
      refine lf_callVi (rest := []) F hh (cw_X6_179 F.1.2.2.2.2 ⟨Nat.le_of_ble_eq_true rfl, Nat.le_of_ble_eq_true rfl⟩) (c_X6_find l D ha cy H.size σ3 x1 _ hw) 0 6 rfl rfl rfl rfl hl.1 (Nat.le_of_ble_eq_true rfl) dX6_used_19 rfl (fun r5 σ5 H locs hw hh => ?_)
      refine lv_istore_n (lv' := [(3, .int r5), (0, .ref (ha 0)), (1, .int x1), (2, .int x2)]) hx hb dX6_used_22 rfl hl (by decide) rfl (fun ls hl => ?_)
      refine lv_iload_n hx hb dX6_used_23 rfl (lv_at hl 0 rfl) ?_
      refine lv_if_lt (tgt := 35) hx hb dX6_used_24 (by decide) (fun c6 => ?_) (fun c6 => ?_)
      · have hw := hw.1 c6
        refine lv_bipush (v := (-6)) hx hb dX6_used_35 (by decide) ?_
        refine lv_goto (tgt := 55) hx hb dX6_used_37 (by decide) ?_
        exact lf_reti F hh hw dX6_used_55
      · have hw := hw.2 c6
        refine lv_aload_n hx hb dX6_used_27 rfl (lv_at hl 1 rfl) ?_
        refine lv_iload_n hx hb dX6_used_28 rfl (lv_at hl 0 rfl) ?_
        refine lf_callVi (rest := []) F hh (cw_X6_153 F.1.2.2.2.2 ⟨Nat.le_of_ble_eq_true rfl, Nat.le_of_ble_eq_true rfl⟩) (c_X6_isChoice l D ha cy H.size σ5 r5 _ hw) 0 6 rfl rfl rfl rfl hl.1 (Nat.le_of_ble_eq_true rfl) dX6_used_29 rfl (fun r7 σ7 H locs hw hh => ?_)
        refine lv_if_ne (tgt := 40) hx hb dX6_used_32 (by decide) (fun c8 => ?_) (fun c8 => ?_)
        · have hw := hw.1 c8
          refine lv_iload_n hx hb dX6_used_40 rfl (lv_at hl 3 rfl) ?_
          refine lv_if_ne (tgt := 51) hx hb dX6_used_41 (by decide) (fun c9 => ?_) (fun c9 => ?_)
          · have hw := hw.1 c9
            refine lv_aload_n hx hb dX6_used_51 rfl (lv_at hl 1 rfl) ?_
            refine lf_callVi (rest := []) F hh (cw_X6_162 F.1.2.2.2.2 ⟨Nat.le_of_ble_eq_true rfl, Nat.le_of_ble_eq_true rfl⟩) (c_X6_usedJoints l D ha cy H.size σ7  _ hw) 0 6 rfl rfl rfl rfl hl.1 (Nat.le_of_ble_eq_true rfl) dX6_used_52 rfl (fun r10 σ10 H locs hw hh => ?_)
            exact lf_reti F hh hw dX6_used_55
          · have hw := hw.2 c9
            refine lv_aload_n hx hb dX6_used_44 rfl (lv_at hl 1 rfl) ?_
            refine lf_callVi (rest := []) F hh (cw_X6_198 F.1.2.2.2.2 ⟨Nat.le_of_ble_eq_true rfl, Nat.le_of_ble_eq_true rfl⟩) (c_X6_usedBars l D ha cy H.size σ7  _ hw) 0 6 rfl rfl rfl rfl hl.1 (Nat.le_of_ble_eq_true rfl) dX6_used_45 rfl (fun r11 σ11 H locs hw hh => ?_)
            refine lv_goto (tgt := 55) hx hb dX6_used_48 (by decide) ?_
            exact lf_reti F hh hw dX6_used_55
        · have hw := hw.2 c8
          refine lv_bipush (v := (-6)) hx hb dX6_used_35 (by decide) ?_
          refine lv_goto (tgt := 55) hx hb dX6_used_37 (by decide) ?_
          exact lf_reti F hh hw dX6_used_55
    · have hw := hw.2 c4
      refine lv_bipush (v := (-2)) hx hb dX6_used_14 (by decide) ?_
      exact lf_reti F hh hw dX6_used_16
def wp_X6_sized (x1 : Int32) (σ : lf_St) (Post : Int32 → lf_St → Prop) : Prop := wp_X6_isBar x1 σ (fun r1 σ1 => ((¬ r1 = 0) → (wp_X6_find 2 σ1 (fun r3 σ3 => ((r3 < 0) → (Post (-6) σ3)) ∧ ((¬ (r3 < 0)) → (wp_X6_isChoice r3 σ3 (fun r5 σ5 => ((¬ r5 = 0) → (wp_X6_placeOf x1 σ5 (fun r7 σ7 => ((0 ≤ r7) → (vp_in r7 6 ∧ (wp_X6_sizeFor (lf_al σ7 21 r7.toNatClampNeg) σ7 (fun r10 σ10 => Post r10 σ10)))) ∧ ((¬ (0 ≤ r7)) → (Post 0 σ7))))) ∧ ((r5 = 0) → (Post (-6) σ5)))))))) ∧ ((r1 = 0) → (Post (-1) σ1)))
def rm_X6_sized : Room := ({ frames := 5, cells := 0, slots := 0, locals := 130 } : Room)
set_option maxHeartbeats 4000000 in
set_option maxRecDepth 100000 in
theorem c_X6_sized (l : Launch) (D : va_G) (ha : Nat → Nat) (cy : Nat → ClassId) (sz : Nat) (σ : lf_St) (x1 : Int32) (Post : Int32 → lf_St → Prop) (hw : wp_X6_sized x1 σ Post) : lf_Mi l yX6_sized (lf_ws yX6_sized cX6_sized 4 (some .int)) rm_X6_sized D (tyM_ cy) (wM_ ha cy) sz σ [.ref (ha 0), .int x1] Post := by
  refine lf_ofi (by decide +kernel) (Nat.le_of_ble_eq_true rfl) ?_
  intro p e s m args below meth c A ls F hh hl
  have hx := F.1.1
  have hb := F.1.2.1
  have hl : lv_has ls 4 [(0, .ref (ha 0)), (1, .int x1)] := hl
  obtain ⟨H, hHe⟩ : ∃ H, H = s.heap := ⟨_, rfl⟩
  rw [← hHe] at hh ⊢
  unfold wp_X6_sized at hw
  refine lv_aload_n hx hb dX6_sized_0 rfl (lv_at hl 0 rfl) ?_
  refine lv_iload_n hx hb dX6_sized_1 rfl (lv_at hl 1 rfl) ?_
  refine lf_callVi (rest := []) F hh (cw_X6_90 F.1.2.2.2.2 ⟨Nat.le_of_ble_eq_true rfl, Nat.le_of_ble_eq_true rfl⟩) (c_X6_isBar l D ha cy H.size σ x1 _ hw) 0 6 rfl rfl rfl rfl hl.1 (Nat.le_of_ble_eq_true rfl) dX6_sized_2 rfl (fun r1 σ1 H locs hw hh => ?_)
  refine lv_if_ne (tgt := 10) hx hb dX6_sized_5 (by decide) (fun c2 => ?_) (fun c2 => ?_)
  · have hw := hw.1 c2
    refine lv_aload_n hx hb dX6_sized_10 rfl (lv_at hl 0 rfl) ?_
    refine lv_iconst (v := 2) hx hb dX6_sized_11 (by decide) ?_
    refine lf_callVi (rest := []) F hh (cw_X6_179 F.1.2.2.2.2 ⟨Nat.le_of_ble_eq_true rfl, Nat.le_of_ble_eq_true rfl⟩) (c_X6_find l D ha cy H.size σ1 2 _ hw) 0 6 rfl rfl rfl rfl hl.1 (Nat.le_of_ble_eq_true rfl) dX6_sized_12 rfl (fun r3 σ3 H locs hw hh => ?_)
    refine lv_istore_n (lv' := [(2, .int r3), (0, .ref (ha 0)), (1, .int x1)]) hx hb dX6_sized_15 rfl hl (by decide) rfl (fun ls hl => ?_)
    refine lv_iload_n hx hb dX6_sized_16 rfl (lv_at hl 0 rfl) ?_
    refine lv_if_lt (tgt := 28) hx hb dX6_sized_17 (by decide) (fun c4 => ?_) (fun c4 => ?_)
    · have hw := hw.1 c4
      refine lv_bipush (v := (-6)) hx hb dX6_sized_28 (by decide) ?_
      exact lf_reti F hh hw dX6_sized_30
    · have hw := hw.2 c4
      refine lv_aload_n hx hb dX6_sized_20 rfl (lv_at hl 1 rfl) ?_
      refine lv_iload_n hx hb dX6_sized_21 rfl (lv_at hl 0 rfl) ?_
      refine lf_callVi (rest := []) F hh (cw_X6_153 F.1.2.2.2.2 ⟨Nat.le_of_ble_eq_true rfl, Nat.le_of_ble_eq_true rfl⟩) (c_X6_isChoice l D ha cy H.size σ3 r3 _ hw) 0 6 rfl rfl rfl rfl hl.1 (Nat.le_of_ble_eq_true rfl) dX6_sized_22 rfl (fun r5 σ5 H locs hw hh => ?_)
      refine lv_if_ne (tgt := 31) hx hb dX6_sized_25 (by decide) (fun c6 => ?_) (fun c6 => ?_)
      · have hw := hw.1 c6
        refine lv_aload_n hx hb dX6_sized_31 rfl (lv_at hl 1 rfl) ?_
        refine lv_iload_n hx hb dX6_sized_32 rfl (lv_at hl 2 rfl) ?_
        refine lf_callVi (rest := []) F hh (cw_X6_195 F.1.2.2.2.2 ⟨Nat.le_of_ble_eq_true rfl, Nat.le_of_ble_eq_true rfl⟩) (c_X6_placeOf l D ha cy H.size σ5 x1 _ hw) 0 6 rfl rfl rfl rfl hl.1 (Nat.le_of_ble_eq_true rfl) dX6_sized_33 rfl (fun r7 σ7 H locs hw hh => ?_)
        refine lv_istore_n (lv' := [(3, .int r7), (2, .int r3), (0, .ref (ha 0)), (1, .int x1)]) hx hb dX6_sized_36 rfl hl (by decide) rfl (fun ls hl => ?_)
        refine lv_iload_n hx hb dX6_sized_37 rfl (lv_at hl 0 rfl) ?_
        refine lv_if_ge (tgt := 45) hx hb dX6_sized_38 (by decide) (fun c8 => ?_) (fun c8 => ?_)
        · have hw := hw.1 c8
          refine lv_aload_n hx hb dX6_sized_45 rfl (lv_at hl 2 rfl) ?_
          refine lv_aload_n hx hb dX6_sized_46 rfl (lv_at hl 2 rfl) ?_
          refine fg_X6_51 F hh dX6_sized_47 ?_
          refine lv_iload_n hx hb dX6_sized_50 rfl (lv_at hl 0 rfl) ?_
          obtain ⟨q9, hw⟩ := hw
          refine ra_M_21 F hh q9 dX6_sized_51 ?_
          refine lf_callVi (rest := []) F hh (cw_X6_156 F.1.2.2.2.2 ⟨Nat.le_of_ble_eq_true rfl, Nat.le_of_ble_eq_true rfl⟩) (c_X6_sizeFor l D ha cy H.size σ7 (lf_al σ7 21 r7.toNatClampNeg) _ hw) 0 6 rfl rfl rfl rfl hl.1 (Nat.le_of_ble_eq_true rfl) dX6_sized_52 rfl (fun r10 σ10 H locs hw hh => ?_)
          exact lf_reti F hh hw dX6_sized_55
        · have hw := hw.2 c8
          refine lv_iconst (v := 0) hx hb dX6_sized_41 (by decide) ?_
          refine lv_goto (tgt := 55) hx hb dX6_sized_42 (by decide) ?_
          exact lf_reti F hh hw dX6_sized_55
      · have hw := hw.2 c6
        refine lv_bipush (v := (-6)) hx hb dX6_sized_28 (by decide) ?_
        exact lf_reti F hh hw dX6_sized_30
  · have hw := hw.2 c2
    refine lv_iconst (v := (-1)) hx hb dX6_sized_8 (by decide) ?_
    exact lf_reti F hh hw dX6_sized_9
