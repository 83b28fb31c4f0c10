theorem cw_X6_129 {R : Room} {s : State} {args : Array Value} (ht : ∀ w ∈ wsL_law, w.before args s = true) (hR : rm_X6_layCells.frames + 1 ≤ R.frames ∧ 8 + (4 + 11) + rm_X6_layCells.locals ≤ R.locals) : lf_cV R s args RX6 RX6 129 yX6_layCells cX6_layCells 4 none rm_X6_layCells 0 :=
  lf_cV_of 0 ht (lr_21 _ (List.mem_of_getElem? (i := 1) rfl)) (lr_20 _ (List.mem_of_getElem? (i := 22) rfl)) (lr_20 _ (List.mem_of_getElem? (i := 23) rfl)) (lr_21 _ (List.mem_of_getElem? (i := 0) rfl)) (lr_1 _ (List.mem_of_getElem? (i := 5) rfl)) rfl rfl (by decide +kernel) hR
theorem cw_X6_132 {R : Room} {s : State} {args : Array Value} (ht : ∀ w ∈ wsL_law, w.before args s = true) (hR : rm_X6_determinant.frames + 1 ≤ R.frames ∧ 8 + (11 + 11) + rm_X6_determinant.locals ≤ R.locals) : lf_cV R s args RX6 RX6 132 yX6_determinant cX6_determinant 11 (some .long) rm_X6_determinant 1 :=
  lf_cV_of 1 ht (lr_21 _ (List.mem_of_getElem? (i := 9) rfl)) (lr_21 _ (List.mem_of_getElem? (i := 6) rfl)) (lr_21 _ (List.mem_of_getElem? (i := 7) rfl)) (lr_21 _ (List.mem_of_getElem? (i := 8) rfl)) (lr_1 _ (List.mem_of_getElem? (i := 5) rfl)) rfl rfl (by decide +kernel) hR
theorem cw_X6_140 {R : Room} {s : State} {args : Array Value} (ht : ∀ w ∈ wsL_law, w.before args s = true) (hR : rm_X6_abs.frames + 1 ≤ R.frames ∧ 8 + (2 + 11) + rm_X6_abs.locals ≤ R.locals) : lf_cS R s args RX6 140 yX6_abs cX6_abs 2 (some .long) rm_X6_abs 1 :=
  lf_cS_of 1 ht (lr_21 _ (List.mem_of_getElem? (i := 12) rfl)) (lr_21 _ (List.mem_of_getElem? (i := 10) rfl)) (lr_21 _ (List.mem_of_getElem? (i := 11) rfl)) (lr_1 _ (List.mem_of_getElem? (i := 5) rfl)) rfl rfl (by decide +kernel) hR
def L_X6_isChoice_102 (Post : Int32 → lf_St → Prop) : Nat → Int32 → lf_St → Prop
  | 0, _, _ => False
  | n + 1, x2, σ => (((lf_gi σ 14) ≤ x2) → (wp_X6_abs (lf_gl σ 20) σ (fun r2 σ2 => Post 1 (lf_sl σ2 20 r2)))) ∧ ((¬ ((lf_gi σ 14) ≤ x2)) → (wp_X6_determinant x2 σ (fun r3 σ3 => ((0 ≤ (lf_gl σ3 20)) → (vp_in x2 6 ∧ (∀ v6 : Int32, v6 = x2 + 1 → (L_X6_isChoice_102 Post n v6 (lf_sb σ3 21 x2.toNatClampNeg r3))))) ∧ ((¬ (0 ≤ (lf_gl σ3 20))) → (vp_in x2 6 ∧ (∀ v8 : Int32, v8 = x2 + 1 → (L_X6_isChoice_102 Post n v8 (lf_sb σ3 21 x2.toNatClampNeg (-r3)))))))))
def L_X6_isChoice_7 (Post : Int32 → lf_St → Prop) : Nat → Int32 → Int32 → lf_St → Prop
  | 0, _, _, _ => False
  | n + 1, x1, x2, σ => (((lf_gi σ 6) ≤ x2) → ((((lf_gi σ 18) = (lf_gi σ 14)) → (wp_X6_layCells σ (fun σ3 => wp_X6_determinant (-1) σ3 (fun r4 σ4 => ∀ σ5 : lf_St, σ5 = (lf_sl σ4 20 r4) → (((¬ (lf_gl σ5 20) = 0) → (∃ fu : Nat, L_X6_isChoice_102 Post fu 0 σ5)) ∧ (((lf_gl σ5 20) = 0) → (Post 0 σ5))))))) ∧ ((¬ ((lf_gi σ 18) = (lf_gi σ 14))) → (Post 0 σ)))) ∧ ((¬ ((lf_gi σ 6) ≤ x2)) → (((¬ ((x1 >>> (x2 &&& 31)) &&& 1) = 1) → (∀ v8 : Int32, v8 = x2 + 1 → (L_X6_isChoice_7 Post n x1 v8 σ))) ∧ ((((x1 >>> (x2 &&& 31)) &&& 1) = 1) → (((¬ (lf_gi σ 18) = (lf_gi σ 14)) → (vp_in (lf_gi σ 18) 6 ∧ (∀ σ11 : lf_St, σ11 = (lf_sa σ 19 ((lf_gi σ 18) : Int32).toNatClampNeg x2) → (∀ v12 : Int32, v12 = x2 + 1 → (L_X6_isChoice_7 Post n x1 v12 (lf_si σ11 18 ((lf_gi σ11 18) + 1))))))) ∧ (((lf_gi σ 18) = (lf_gi σ 14)) → (Post 0 σ))))))
def wp_X6_isChoice (x1 : Int32) (σ : lf_St) (Post : Int32 → lf_St → Prop) : Prop := ∃ fu : Nat, L_X6_isChoice_7 Post fu x1 0 (lf_si σ 18 0)
def rm_X6_isChoice : Room := ({ frames := 2, cells := 0, slots := 0, locals := 47 } : Room)
set_option maxHeartbeats 4000000 in
set_option maxRecDepth 100000 in
theorem w_X6_isChoice_102 {p : Program} {l : Launch} {e : Env} {s : State} {m : MethodId} {args : Array Value} {below : List Frame} {meth : Method} {c : Code} {D : va_G} {A : Nat → Prop} {ha : Nat → Nat} {cy : Nat → ClassId} (Post : Int32 → lf_St → Prop) (F : lf_C p s m args meth c RX6 cX6_isChoice 5 (some .boolean) D (tyM_ cy) A) : ∀ (n : Nat) (x2 : Int32) (σ : lf_St) (H : Heap) (locs : List Loc) (ls : Array Slot), lf_H D (wM_ ha cy) A s σ H locs → lv_has ls 5 [(0, .ref (ha 0)), (2, .int x2)] → L_X6_isChoice_102 Post n x2 σ → W p l e rm_X6_isChoice s m args below meth c H locs 0 0 (lf_Qi below args s D (tyM_ cy) A (wM_ ha cy) Post) (F0 m 102 ls []) := by
  have hx := F.1.1
  have hb := F.1.2.1
  intro n
  induction n with
  | zero =>
    intro x2 σ H locs ls hh hl hw
    exact False.elim hw
  | succ n ih =>
    intro x2 σ H locs ls hh hl hw
    unfold L_X6_isChoice_102 at hw
    refine lv_iload_n hx hb dX6_isChoice_102 rfl (lv_at hl 1 rfl) ?_
    refine lv_aload_n hx hb dX6_isChoice_103 rfl (lv_at hl 0 rfl) ?_
    refine fg_X6_119 F hh dX6_isChoice_104 ?_
    refine lv_icmp_ge (tgt := 143) hx hb dX6_isChoice_107 (by decide) (fun c1 => ?_) (fun c1 => ?_)
    · have hw := hw.1 c1
      refine lv_aload_n hx hb dX6_isChoice_143 rfl (lv_at hl 0 rfl) ?_
      refine lv_aload_n hx hb dX6_isChoice_144 rfl (lv_at hl 0 rfl) ?_
      refine fg_X6_136 F hh dX6_isChoice_145 ?_
      refine lf_callSl (rest := [.ref (ha 0)]) F hh (cw_X6_140 F.1.2.2.2.2 ⟨Nat.le_of_ble_eq_true rfl, Nat.le_of_ble_eq_true rfl⟩) (c_X6_abs l D ha cy H.size σ (lf_gl σ 20) _ hw) rfl hl.1 (Nat.le_of_ble_eq_true rfl) dX6_isChoice_148 rfl (fun r2 σ2 H locs hw hh => ?_)
      refine fp_X6_136 F hh dX6_isChoice_151 (fun H locs hh => ?_)
      refine lv_iconst (v := 1) hx hb dX6_isChoice_154 (by decide) ?_
      exact lf_retz F hh rfl hw dX6_isChoice_155
    · have hw := hw.2 c1
      refine lv_aload_n hx hb dX6_isChoice_110 rfl (lv_at hl 0 rfl) ?_
      refine lv_iload_n hx hb dX6_isChoice_111 rfl (lv_at hl 1 rfl) ?_
      refine lf_callVl (rest := []) F hh (cw_X6_132 F.1.2.2.2.2 ⟨Nat.le_of_ble_eq_true rfl, Nat.le_of_ble_eq_true rfl⟩) (c_X6_determinant l D ha cy H.size σ x2 _ hw) 0 6 rfl rfl rfl rfl hl.1 (Nat.le_of_ble_eq_true rfl) dX6_isChoice_112 rfl (fun r3 σ3 H locs hw hh => ?_)
      refine lv_lstore_n (lv' := [(3, .long r3), (0, .ref (ha 0)), (2, .int x2)]) hx hb dX6_isChoice_115 rfl hl (by decide) rfl (fun ls hl => ?_)
      refine lv_aload_n hx hb dX6_isChoice_116 rfl (lv_at hl 1 rfl) ?_
      refine fg_X6_51 F hh dX6_isChoice_117 ?_
      refine lv_iload_n hx hb dX6_isChoice_120 rfl (lv_at hl 2 rfl) ?_
      refine lv_aload_n hx hb dX6_isChoice_121 rfl (lv_at hl 1 rfl) ?_
      refine fg_X6_136 F hh dX6_isChoice_122 ?_
      refine lv_lconst (v := 0) hx hb dX6_isChoice_125 (by decide) ?_
      refine lf_lcmp_ge (tgt := 135) hx hb dX6_isChoice_126 dX6_isChoice_127 (by decide) (fun c4 => ?_) (fun c4 => ?_)
      · have hw := hw.1 c4
        refine lv_lload_n hx hb dX6_isChoice_135 rfl (lv_at hl 0 rfl) ?_
        obtain ⟨q5, hw⟩ := hw
        refine wa_M_21 F hh q5 dX6_isChoice_136 (fun H locs hh => ?_)
        obtain ⟨v6, ev6⟩ : ∃ y : Int32, y = x2 + 1 := ⟨_, rfl⟩
        have hw := hw v6 ev6
        refine lv_iinc (v := v6) (lv' := [(2, .int v6), (3, .long r3), (0, .ref (ha 0))]) hx hb dX6_isChoice_137 hl (k := 2) rfl (by rw [ev6]; rfl) (by decide) rfl (fun ls hl => ?_)
        refine lv_goto (tgt := 102) hx hb dX6_isChoice_140 (by decide) ?_
        exact ih v6 (lf_sb σ3 21 x2.toNatClampNeg r3) _ _ _ hh (lv_sub hl [2, 0] rfl) hw
      · have hw := hw.2 c4
        refine lv_lload_n hx hb dX6_isChoice_130 rfl (lv_at hl 0 rfl) ?_
        refine lv_lneg hx hb dX6_isChoice_131 ?_
        refine lv_goto (tgt := 136) hx hb dX6_isChoice_132 (by decide) ?_
        obtain ⟨q7, hw⟩ := hw
        refine wa_M_21 F hh q7 dX6_isChoice_136 (fun H locs hh => ?_)
        obtain ⟨v8, ev8⟩ : ∃ y : Int32, y = x2 + 1 := ⟨_, rfl⟩
        have hw := hw v8 ev8
        refine lv_iinc (v := v8) (lv' := [(2, .int v8), (3, .long r3), (0, .ref (ha 0))]) hx hb dX6_isChoice_137 hl (k := 2) rfl (by rw [ev8]; rfl) (by decide) rfl (fun ls hl => ?_)
        refine lv_goto (tgt := 102) hx hb dX6_isChoice_140 (by decide) ?_
        exact ih v8 (lf_sb σ3 21 x2.toNatClampNeg (-r3)) _ _ _ hh (lv_sub hl [2, 0] rfl) hw
set_option maxHeartbeats 4000000 in
set_option maxRecDepth 100000 in
theorem w_X6_isChoice_7 {p : Program} {l : Launch} {e : Env} {s : State} {m : MethodId} {args : Array Value} {below : List Frame} {meth : Method} {c : Code} {D : va_G} {A : Nat → Prop} {ha : Nat → Nat} {cy : Nat → ClassId} (Post : Int32 → lf_St → Prop) (F : lf_C p s m args meth c RX6 cX6_isChoice 5 (some .boolean) D (tyM_ cy) A) : ∀ (n : Nat) (x1 : Int32) (x2 : Int32) (σ : lf_St) (H : Heap) (locs : List Loc) (ls : Array Slot), lf_H D (wM_ ha cy) A s σ H locs → lv_has ls 5 [(0, .ref (ha 0)), (1, .int x1), (2, .int x2)] → L_X6_isChoice_7 Post n x1 x2 σ → W p l e rm_X6_isChoice s m args below meth c H locs 0 0 (lf_Qi below args s D (tyM_ cy) A (wM_ ha cy) Post) (F0 m 7 ls []) := by
  have hx := F.1.1
  have hb := F.1.2.1
  intro n
  induction n with
  | zero =>
    intro x1 x2 σ H locs ls hh hl hw
    exact False.elim hw
  | succ n ih =>
    intro x1 x2 σ H locs ls hh hl hw
    unfold L_X6_isChoice_7 at hw
    refine lv_iload_n hx hb dX6_isChoice_7 rfl (lv_at hl 2 rfl) ?_
    refine lv_aload_n hx hb dX6_isChoice_8 rfl (lv_at hl 0 rfl) ?_
    refine fg_X6_65 F hh dX6_isChoice_9 ?_
    refine lv_icmp_ge (tgt := 63) hx hb dX6_isChoice_12 (by decide) (fun c1 => ?_) (fun c1 => ?_)
    · have hw := hw.1 c1
      refine lv_aload_n hx hb dX6_isChoice_63 rfl (lv_at hl 0 rfl) ?_
      refine fg_X6_126 F hh dX6_isChoice_64 ?_
      refine lv_aload_n hx hb dX6_isChoice_67 rfl (lv_at hl 0 rfl) ?_
      refine fg_X6_119 F hh dX6_isChoice_68 ?_
      refine lv_icmp_eq (tgt := 76) hx hb dX6_isChoice_71 (by decide) (fun c2 => ?_) (fun c2 => ?_)
      · have hw := hw.1 c2
        refine lv_aload_n hx hb dX6_isChoice_76 rfl (lv_at hl 0 rfl) ?_
        refine lf_callVv (rest := []) F hh (cw_X6_129 F.1.2.2.2.2 ⟨Nat.le_of_ble_eq_true rfl, Nat.le_of_ble_eq_true rfl⟩) (c_X6_layCells l D ha cy H.size σ  _ hw) 0 6 rfl rfl rfl rfl hl.1 (Nat.le_of_ble_eq_true rfl) dX6_isChoice_77 rfl (fun σ3 H locs hw hh => ?_)
        refine lv_aload_n hx hb dX6_isChoice_80 rfl (lv_at hl 0 rfl) ?_
        refine lv_aload_n hx hb dX6_isChoice_81 rfl (lv_at hl 0 rfl) ?_
        refine lv_iconst (v := (-1)) hx hb dX6_isChoice_82 (by decide) ?_
        refine lf_callVl (rest := [.ref (ha 0)]) F hh (cw_X6_132 F.1.2.2.2.2 ⟨Nat.le_of_ble_eq_true rfl, Nat.le_of_ble_eq_true rfl⟩) (c_X6_determinant l D ha cy H.size σ3 (-1) _ hw) 0 6 rfl rfl rfl rfl hl.1 (Nat.le_of_ble_eq_true rfl) dX6_isChoice_83 rfl (fun r4 σ4 H locs hw hh => ?_)
        refine fp_X6_136 F hh dX6_isChoice_86 (fun H locs hh => ?_)
        refine lv_aload_n hx hb dX6_isChoice_89 rfl (lv_at hl 0 rfl) ?_
        obtain ⟨σ5, eσ5⟩ : ∃ z : lf_St, z = (lf_sl σ4 20 r4) := ⟨_, rfl⟩
        rw [← eσ5] at hh
        have hw := hw σ5 eσ5
        refine fg_X6_136 F hh dX6_isChoice_90 ?_
        refine lv_lconst (v := 0) hx hb dX6_isChoice_93 (by decide) ?_
        refine lf_lcmp_ne (tgt := 100) hx hb dX6_isChoice_94 dX6_isChoice_95 (by decide) (fun c6 => ?_) (fun c6 => ?_)
        · have hw := hw.1 c6
          refine lv_iconst (v := 0) hx hb dX6_isChoice_100 (by decide) ?_
          refine lv_istore_n (lv' := [(2, .int 0), (0, .ref (ha 0)), (1, .int x1)]) hx hb dX6_isChoice_101 rfl hl (by decide) rfl (fun ls hl => ?_)
          obtain ⟨n102, hw⟩ := hw
          exact w_X6_isChoice_102 Post F  n102 0 σ5 _ _ _ hh (lv_sub hl [1, 0] rfl) hw
        · have hw := hw.2 c6
          refine lv_iconst (v := 0) hx hb dX6_isChoice_98 (by decide) ?_
          exact lf_retz F hh rfl hw dX6_isChoice_99
      · have hw := hw.2 c2
        refine lv_iconst (v := 0) hx hb dX6_isChoice_74 (by decide) ?_
        exact lf_retz F hh rfl hw dX6_isChoice_75
    · have hw := hw.2 c1
      refine lv_iload_n hx hb dX6_isChoice_15 rfl (lv_at hl 1 rfl) ?_
      refine lv_iload_n hx hb dX6_isChoice_16 rfl (lv_at hl 2 rfl) ?_
      refine lv_ishr hx hb dX6_isChoice_17 ?_
      refine lv_iconst (v := 1) hx hb dX6_isChoice_18 (by decide) ?_
      refine lv_iand hx hb dX6_isChoice_19 ?_
      refine lv_iconst (v := 1) hx hb dX6_isChoice_20 (by decide) ?_
      refine lv_icmp_ne (tgt := 57) hx hb dX6_isChoice_21 (by decide) (fun c7 => ?_) (fun c7 => ?_)
      · have hw := hw.1 c7
        obtain ⟨v8, ev8⟩ : ∃ y : Int32, y = x2 + 1 := ⟨_, rfl⟩
        have hw := hw v8 ev8
        refine lv_iinc (v := v8) (lv' := [(2, .int v8), (0, .ref (ha 0)), (1, .int x1)]) hx hb dX6_isChoice_57 hl (k := 2) rfl (by rw [ev8]; rfl) (by decide) rfl (fun ls hl => ?_)
        refine lv_goto (tgt := 7) hx hb dX6_isChoice_60 (by decide) ?_
        exact ih x1 v8 σ _ _ _ hh (lv_sub hl [1, 2, 0] rfl) hw
      · have hw := hw.2 c7
        refine lv_aload_n hx hb dX6_isChoice_24 rfl (lv_at hl 0 rfl) ?_
        refine fg_X6_126 F hh dX6_isChoice_25 ?_
        refine lv_aload_n hx hb dX6_isChoice_28 rfl (lv_at hl 0 rfl) ?_
        refine fg_X6_119 F hh dX6_isChoice_29 ?_
        refine lv_icmp_ne (tgt := 37) hx hb dX6_isChoice_32 (by decide) (fun c9 => ?_) (fun c9 => ?_)
        · have hw := hw.1 c9
          refine lv_aload_n hx hb dX6_isChoice_37 rfl (lv_at hl 0 rfl) ?_
          refine fg_X6_48 F hh dX6_isChoice_38 ?_
          refine lv_aload_n hx hb dX6_isChoice_41 rfl (lv_at hl 0 rfl) ?_
          refine fg_X6_126 F hh dX6_isChoice_42 ?_
          refine lv_iload_n hx hb dX6_isChoice_45 rfl (lv_at hl 2 rfl) ?_
          obtain ⟨q10, hw⟩ := hw
          refine wa_M_19 F hh q10 dX6_isChoice_46 (fun H locs hh => ?_)
          refine lv_aload_n hx hb dX6_isChoice_47 rfl (lv_at hl 0 rfl) ?_
          refine lv_dup hx hb dX6_isChoice_48 rfl ?_
          obtain ⟨σ11, eσ11⟩ : ∃ z : lf_St, z = (lf_sa σ 19 ((lf_gi σ 18) : Int32).toNatClampNeg x2) := ⟨_, rfl⟩
          rw [← eσ11] at hh
          have hw := hw σ11 eσ11
          refine fg_X6_126 F hh dX6_isChoice_49 ?_
          refine lv_iconst (v := 1) hx hb dX6_isChoice_52 (by decide) ?_
          refine lv_iadd hx hb dX6_isChoice_53 ?_
          refine fp_X6_126 F hh dX6_isChoice_54 (fun H locs hh => ?_)
          obtain ⟨v12, ev12⟩ : ∃ y : Int32, y = x2 + 1 := ⟨_, rfl⟩
          have hw := hw v12 ev12
          refine lv_iinc (v := v12) (lv' := [(2, .int v12), (0, .ref (ha 0)), (1, .int x1)]) hx hb dX6_isChoice_57 hl (k := 2) rfl (by rw [ev12]; rfl) (by decide) rfl (fun ls hl => ?_)
          refine lv_goto (tgt := 7) hx hb dX6_isChoice_60 (by decide) ?_
          exact ih x1 v12 (lf_si σ11 18 ((lf_gi σ11 18) + 1)) _ _ _ hh (lv_sub hl [1, 2, 0] rfl) hw
        · have hw := hw.2 c9
          refine lv_iconst (v := 0) hx hb dX6_isChoice_35 (by decide) ?_
          exact lf_retz F hh rfl hw dX6_isChoice_36
set_option maxHeartbeats 4000000 in
set_option maxRecDepth 100000 in
theorem c_X6_isChoice (l : Launch) (D : va_G) (ha : Nat → Nat) (cy : Nat → ClassId) (sz : Nat) (σ : lf_St) (x1 : Int32) (Post : Int32 → lf_St → Prop) (hw : wp_X6_isChoice x1 σ Post) : lf_Mi l yX6_isChoice (lf_ws yX6_isChoice cX6_isChoice 5 (some .boolean)) rm_X6_isChoice D (tyM_ cy) (wM_ ha cy) sz σ [.ref (ha 0), .int x1] Post := by
  refine lf_ofi (by decide +kernel) (Nat.le_of_ble_eq_true rfl) ?_
  intro p e s m args below meth c A ls F hh hl
  have hx := F.1.1
  have hb := F.1.2.1
  have hl : lv_has ls 5 [(0, .ref (ha 0)), (1, .int x1)] := hl
  obtain ⟨H, hHe⟩ : ∃ H, H = s.heap := ⟨_, rfl⟩
  rw [← hHe] at hh ⊢
  unfold wp_X6_isChoice at hw
  refine lv_aload_n hx hb dX6_isChoice_0 rfl (lv_at hl 0 rfl) ?_
  refine lv_iconst (v := 0) hx hb dX6_isChoice_1 (by decide) ?_
  refine fp_X6_126 F hh dX6_isChoice_2 (fun H locs hh => ?_)
  refine lv_iconst (v := 0) hx hb dX6_isChoice_5 (by decide) ?_
  refine lv_istore_n (lv' := [(2, .int 0), (0, .ref (ha 0)), (1, .int x1)]) hx hb dX6_isChoice_6 rfl hl (by decide) rfl (fun ls hl => ?_)
  obtain ⟨n7, hw⟩ := hw
  exact w_X6_isChoice_7 Post F  n7 x1 0 (lf_si σ 18 0) _ _ _ hh (lv_sub hl [1, 2, 0] rfl) hw
def wp_X6_isAhead (x0 : Int32) (x1 : Int32) (σ : lf_St) (Post : Int32 → lf_St → Prop) : Prop := ∀ v1 : Int32, v1 = (x0 ^^^ x1) → (((((x0 &&& v1) &&& (-v1)) = 0) → (Post 0 σ)) ∧ ((¬ (((x0 &&& v1) &&& (-v1)) = 0)) → (Post 1 σ)))
def rm_X6_isAhead : Room := ({ frames := 0, cells := 0, slots := 0, locals := 0 } : Room)
set_option maxHeartbeats 4000000 in
set_option maxRecDepth 100000 in
theorem c_X6_isAhead (l : Launch) (D : va_G) (ha : Nat → Nat) (cy : Nat → ClassId) (sz : Nat) (σ : lf_St) (x0 : Int32) (x1 : Int32) (Post : Int32 → lf_St → Prop) (hw : wp_X6_isAhead x0 x1 σ Post) : lf_Mi l yX6_isAhead (lf_ws yX6_isAhead cX6_isAhead 3 (some .boolean)) rm_X6_isAhead D (tyM_ cy) (wM_ ha cy) sz σ [.int x0, .int x1] Post := by
  refine lf_ofi (by decide +kernel) (Nat.le_of_ble_eq_true rfl) ?_
  intro p e s m args below meth c A ls F hh hl
  have hx := F.1.1
  have hb := F.1.2.1
  have hl : lv_has ls 3 [(0, .int x0), (1, .int x1)] := hl
  obtain ⟨H, hHe⟩ : ∃ H, H = s.heap := ⟨_, rfl⟩
  rw [← hHe] at hh ⊢
  unfold wp_X6_isAhead at hw
  refine lv_iload_n hx hb dX6_isAhead_0 rfl (lv_at hl 0 rfl) ?_
  refine lv_iload_n hx hb dX6_isAhead_1 rfl (lv_at hl 1 rfl) ?_
  refine lv_ixor hx hb dX6_isAhead_2 ?_
  refine lv_topi (fun v1 ev1 => ?_)
  have hw := hw v1 ev1
  refine lv_istore_n (lv' := [(2, .int v1), (0, .int x0), (1, .int x1)]) hx hb dX6_isAhead_3 rfl hl (by decide) rfl (fun ls hl => ?_)
  refine lv_iload_n hx hb dX6_isAhead_4 rfl (lv_at hl 1 rfl) ?_
  refine lv_iload_n hx hb dX6_isAhead_5 rfl (lv_at hl 0 rfl) ?_
  refine lv_iand hx hb dX6_isAhead_6 ?_
  refine lv_iload_n hx hb dX6_isAhead_7 rfl (lv_at hl 0 rfl) ?_
  refine lv_ineg hx hb dX6_isAhead_8 ?_
  refine lv_iand hx hb dX6_isAhead_9 ?_
  refine lv_if_eq (tgt := 17) hx hb dX6_isAhead_10 (by decide) (fun c2 => ?_) (fun c2 => ?_)
  · have hw := hw.1 c2
    refine lv_iconst (v := 0) hx hb dX6_isAhead_17 (by decide) ?_
    exact lf_retz F hh rfl hw dX6_isAhead_18
  · have hw := hw.2 c2
    refine lv_iconst (v := 1) hx hb dX6_isAhead_13 (by decide) ?_
    refine lv_goto (tgt := 18) hx hb dX6_isAhead_14 (by decide) ?_
    exact lf_retz F hh rfl hw dX6_isAhead_18
def L_X6_bits_4 (Post : Int32 → lf_St → Prop) : Nat → Int32 → Int32 → Int32 → lf_St → Prop
  | 0, _, _, _, _ => False
  | n + 1, x0, x1, x2, σ => ((10 ≤ x2) → (Post x1 σ)) ∧ ((¬ (10 ≤ x2)) → (∀ v2 : Int32, v2 = (x1 + ((x0 >>> (x2 &&& 31)) &&& 1)) → (∀ v3 : Int32, v3 = x2 + 1 → (L_X6_bits_4 Post n x0 v2 v3 σ))))
def wp_X6_bits (x0 : Int32) (σ : lf_St) (Post : Int32 → lf_St → Prop) : Prop := ∃ fu : Nat, L_X6_bits_4 Post fu x0 0 0 σ
def rm_X6_bits : Room := ({ frames := 0, cells := 0, slots := 0, locals := 0 } : Room)
set_option maxHeartbeats 4000000 in
set_option maxRecDepth 100000 in
theorem w_X6_bits_4 {p : Program} {l : Launch} {e : Env} {s : State} {m : MethodId} {args : Array Value} {below : List Frame} {meth : Method} {c : Code} {D : va_G} {A : Nat → Prop} {ha : Nat → Nat} {cy : Nat → ClassId} (Post : Int32 → lf_St → Prop) (F : lf_C p s m args meth c RX6 cX6_bits 3 (some .int) D (tyM_ cy) A) : ∀ (n : Nat) (x0 : Int32) (x1 : Int32) (x2 : Int32) (σ : lf_St) (H : Heap) (locs : List Loc) (ls : Array Slot), lf_H D (wM_ ha cy) A s σ H locs → lv_has ls 3 [(0, .int x0), (1, .int x1), (2, .int x2)] → L_X6_bits_4 Post n x0 x1 x2 σ → W p l e rm_X6_bits s m args below meth c H locs 0 0 (lf_Qi below args s D (tyM_ cy) A (wM_ ha cy) Post) (F0 m 4 ls []) := by
  have hx := F.1.1
  have hb := F.1.2.1
  intro n
  induction n with
  | zero =>
    intro x0 x1 x2 σ H locs ls hh hl hw
    exact False.elim hw
  | succ n ih =>
    intro x0 x1 x2 σ H locs ls hh hl hw
    unfold L_X6_bits_4 at hw
    refine lv_iload_n hx hb dX6_bits_4 rfl (lv_at hl 2 rfl) ?_
    refine lv_bipush (v := 10) hx hb dX6_bits_5 (by decide) ?_
    refine lv_icmp_ge (tgt := 24) hx hb dX6_bits_7 (by decide) (fun c1 => ?_) (fun c1 => ?_)
    · have hw := hw.1 c1
      refine lv_iload_n hx hb dX6_bits_24 rfl (lv_at hl 1 rfl) ?_
      exact lf_reti F hh hw dX6_bits_25
    · have hw := hw.2 c1
      refine lv_iload_n hx hb dX6_bits_10 rfl (lv_at hl 1 rfl) ?_
      refine lv_iload_n hx hb dX6_bits_11 rfl (lv_at hl 0 rfl) ?_
      refine lv_iload_n hx hb dX6_bits_12 rfl (lv_at hl 2 rfl) ?_
      refine lv_ishr hx hb dX6_bits_13 ?_
      refine lv_iconst (v := 1) hx hb dX6_bits_14 (by decide) ?_
      refine lv_iand hx hb dX6_bits_15 ?_
      refine lv_iadd hx hb dX6_bits_16 ?_
      refine lv_topi (fun v2 ev2 => ?_)
      have hw := hw v2 ev2
      refine lv_istore_n (lv' := [(1, .int v2), (0, .int x0), (2, .int x2)]) hx hb dX6_bits_17 rfl hl (by decide) rfl (fun ls hl => ?_)
      obtain ⟨v3, ev3⟩ : ∃ y : Int32, y = x2 + 1 := ⟨_, rfl⟩
      have hw := hw v3 ev3
      refine lv_iinc (v := v3) (lv' := [(2, .int v3), (1, .int v2), (0, .int x0)]) hx hb dX6_bits_18 hl (k := 2) rfl (by rw [ev3]; rfl) (by decide) rfl (fun ls hl => ?_)
      refine lv_goto (tgt := 4) hx hb dX6_bits_21 (by decide) ?_
      exact ih x0 v2 v3 σ _ _ _ hh (lv_sub hl [2, 1, 0] rfl) hw
set_option maxHeartbeats 4000000 in
set_option maxRecDepth 100000 in
theorem c_X6_bits (l : Launch) (D : va_G) (ha : Nat → Nat) (cy : Nat → ClassId) (sz : Nat) (σ : lf_St) (x0 : Int32) (Post : Int32 → lf_St → Prop) (hw : wp_X6_bits x0 σ Post) : lf_Mi l yX6_bits (lf_ws yX6_bits cX6_bits 3 (some .int)) rm_X6_bits D (tyM_ cy) (wM_ ha cy) sz σ [.int x0] Post := by
  refine lf_ofi (by decide +kernel) (Nat.le_of_ble_eq_true rfl) ?_
  intro p e s m args below meth c A ls F hh hl
  have hx := F.1.1
  have hb := F.1.2.1
  have hl : lv_has ls 3 [(0, .int x0)] := hl
  obtain ⟨H, hHe⟩ : ∃ H, H = s.heap := ⟨_, rfl⟩
  rw [← hHe] at hh ⊢
  unfold wp_X6_bits at hw
  refine lv_iconst (v := 0) hx hb dX6_bits_0 (by decide) ?_
  refine lv_istore_n (lv' := [(1, .int 0), (0, .int x0)]) hx hb dX6_bits_1 rfl hl (by decide) rfl (fun ls hl => ?_)
  refine lv_iconst (v := 0) hx hb dX6_bits_2 (by decide) ?_
  refine lv_istore_n (lv' := [(2, .int 0), (1, .int 0), (0, .int x0)]) hx hb dX6_bits_3 rfl hl (by decide) rfl (fun ls hl => ?_)
  obtain ⟨n4, hw⟩ := hw
  exact w_X6_bits_4 Post F  n4 x0 0 0 σ _ _ _ hh (lv_sub hl [2, 1, 0] rfl) hw
theorem cw_X6_144 {R : Room} {s : State} {args : Array Value} (ht : ∀ w ∈ wsL_law, w.before args s = true) (hR : rm_X6_isAhead.frames + 1 ≤ R.frames ∧ 8 + (3 + 11) + rm_X6_isAhead.locals ≤ R.locals) : lf_cS R s args RX6 144 yX6_isAhead cX6_isAhead 3 (some .boolean) rm_X6_isAhead 2 :=
  lf_cS_of 2 ht (lr_23 _ (List.mem_of_getElem? (i := 20) rfl)) (lr_23 _ (List.mem_of_getElem? (i := 18) rfl)) (lr_23 _ (List.mem_of_getElem? (i := 19) rfl)) (lr_1 _ (List.mem_of_getElem? (i := 5) rfl)) rfl rfl (by decide +kernel) hR
theorem cw_X6_147 {R : Room} {s : State} {args : Array Value} (ht : ∀ w ∈ wsL_law, w.before args s = true) (hR : rm_X6_bits.frames + 1 ≤ R.frames ∧ 8 + (3 + 11) + rm_X6_bits.locals ≤ R.locals) : lf_cS R s args RX6 147 yX6_bits cX6_bits 3 (some .int) rm_X6_bits 1 :=
  lf_cS_of 1 ht (lr_23 _ (List.mem_of_getElem? (i := 17) rfl)) (lr_23 _ (List.mem_of_getElem? (i := 15) rfl)) (lr_23 _ (List.mem_of_getElem? (i := 16) rfl)) (lr_1 _ (List.mem_of_getElem? (i := 5) rfl)) rfl rfl (by decide +kernel) hR
def J_X6_after_32 (K_5 : Int32 → Int32 → Int32 → lf_St → Prop) (Post : Int32 → lf_St → Prop) (x1 : Int32) (x2 : Int32) (x3 : Int32) (t0 : Int32) (σ : lf_St) : Prop := wp_X6_bits x3 σ (fun r1 σ1 => ((¬ r1 = (lf_gi σ1 14)) → (∀ v3 : Int32, v3 = x3 + 1 → (K_5 x1 x2 v3 σ1))) ∧ ((r1 = (lf_gi σ1 14)) → (((t0 = 0) → (∀ v5 : Int32, v5 = x3 + 1 → (K_5 x1 x2 v5 σ1))) ∧ ((¬ (t0 = 0)) → (((x2 < 0) → (∀ v7 : Int32, v7 = x3 + 1 → (K_5 x1 x3 v7 σ1))) ∧ ((¬ (x2 < 0)) → (wp_X6_isAhead x3 x2 σ1 (fun r8 σ8 => ((r8 = 0) → (∀ v10 : Int32, v10 = x3 + 1 → (K_5 x1 x2 v10 σ8))) ∧ ((¬ (r8 = 0)) → (∀ v11 : Int32, v11 = x3 + 1 → (K_5 x1 x3 v11 σ8)))))))))))
def J_X6_after_27 (K_5 : Int32 → Int32 → Int32 → lf_St → Prop) (Post : Int32 → lf_St → Prop) (x1 : Int32) (x2 : Int32) (x3 : Int32) (σ : lf_St) : Prop := J_X6_after_32 K_5 Post x1 x2 x3 1 σ
def L_X6_after_5 (Post : Int32 → lf_St → Prop) : Nat → Int32 → Int32 → Int32 → lf_St → Prop
  | 0, _, _, _, _ => False
  | n + 1, x1, x2, x3, σ => (((1 <<< ((lf_gi σ 6) &&& 31)) ≤ x3) → (Post x2 σ)) ∧ ((¬ ((1 <<< ((lf_gi σ 6) &&& 31)) ≤ x3)) → (((x1 < 0) → (J_X6_after_27 (L_X6_after_5 Post n) Post x1 x2 x3 σ)) ∧ ((¬ (x1 < 0)) → (wp_X6_isAhead x1 x3 σ (fun r3 σ3 => ((r3 = 0) → (J_X6_after_32 (L_X6_after_5 Post n) Post x1 x2 x3 0 σ3)) ∧ ((¬ (r3 = 0)) → (J_X6_after_27 (L_X6_after_5 Post n) Post x1 x2 x3 σ3)))))))
def wp_X6_after (x1 : Int32) (σ : lf_St) (Post : Int32 → lf_St → Prop) : Prop := ∃ fu : Nat, L_X6_after_5 Post fu x1 (-6) 0 σ
def rm_X6_after : Room := ({ frames := 1, cells := 0, slots := 0, locals := 22 } : Room)
set_option maxHeartbeats 4000000 in
set_option maxRecDepth 100000 in
theorem w_X6_after_32 {p : Program} {l : Launch} {e : Env} {s : State} {m : MethodId} {args : Array Value} {below : List Frame} {meth : Method} {c : Code} {D : va_G} {A : Nat → Prop} {ha : Nat → Nat} {cy : Nat → ClassId} (K_5 : Int32 → Int32 → Int32 → lf_St → Prop) (Post : Int32 → lf_St → Prop) (F : lf_C p s m args meth c RX6 cX6_after 5 (some .int) D (tyM_ cy) A) (hK_5 : ∀ (x1 : Int32) (x2 : Int32) (x3 : Int32) (σ : lf_St) (H : Heap) (locs : List Loc) (ls : Array Slot), lf_H D (wM_ ha cy) A s σ H locs → lv_has ls 5 [(0, .ref (ha 0)), (1, .int x1), (2, .int x2), (3, .int x3)] → K_5 x1 x2 x3 σ → W p l e rm_X6_after s m args below meth c H locs 0 0 (lf_Qi below args s D (tyM_ cy) A (wM_ ha cy) Post) (F0 m 5 ls [])) (x1 : Int32) (x2 : Int32) (x3 : Int32) (t0 : Int32) (σ : lf_St) (H : Heap) (locs : List Loc) (ls : Array Slot) (hh : lf_H D (wM_ ha cy) A s σ H locs) (hl : lv_has ls 5 [(0, .ref (ha 0)), (1, .int x1), (2, .int x2), (3, .int x3)]) (hw : J_X6_after_32 K_5 Post x1 x2 x3 t0 σ) : W p l e rm_X6_after s m args below meth c H locs 0 0 (lf_Qi below args s D (tyM_ cy) A (wM_ ha cy) Post) (F0 m 32 ls [.int t0]) := by
  have hx := F.1.1
  have hb := F.1.2.1
  unfold J_X6_after_32 at hw
  refine lv_istore (lv' := [(4, .int t0), (0, .ref (ha 0)), (1, .int x1), (2, .int x2), (3, .int x3)]) hx hb dX6_after_32 hl (by decide) rfl (fun ls hl => ?_)
  refine lv_iload_n hx hb dX6_after_34 rfl (lv_at hl 4 rfl) ?_
  refine lf_callSi (rest := []) F hh (cw_X6_147 F.1.2.2.2.2 ⟨Nat.le_of_ble_eq_true rfl, Nat.le_of_ble_eq_true rfl⟩) (c_X6_bits l D ha cy H.size σ x3 _ hw) rfl hl.1 (Nat.le_of_ble_eq_true rfl) dX6_after_35 rfl (fun r1 σ1 H locs hw hh => ?_)
  refine lv_aload_n hx hb dX6_after_38 rfl (lv_at hl 1 rfl) ?_
  refine fg_X6_119 F hh dX6_after_39 ?_
  refine lv_icmp_ne (tgt := 66) hx hb dX6_after_42 (by decide) (fun c2 => ?_) (fun c2 => ?_)
  · have hw := hw.1 c2
    refine lv_iload_n hx hb dX6_after_66 rfl (lv_at hl 3 rfl) ?_
    refine lv_istore_n (lv' := [(2, .int x2), (4, .int t0), (0, .ref (ha 0)), (1, .int x1), (3, .int x3)]) hx hb dX6_after_67 rfl hl (by decide) rfl (fun ls hl => ?_)
    obtain ⟨v3, ev3⟩ : ∃ y : Int32, y = x3 + 1 := ⟨_, rfl⟩
    have hw := hw v3 ev3
    refine lv_iinc (v := v3) (lv' := [(3, .int v3), (2, .int x2), (4, .int t0), (0, .ref (ha 0)), (1, .int x1)]) hx hb dX6_after_68 hl (k := 4) rfl (by rw [ev3]; rfl) (by decide) rfl (fun ls hl => ?_)
    refine lv_goto (tgt := 5) hx hb dX6_after_71 (by decide) ?_
    exact hK_5 x1 x2 v3 σ1 _ _ _ hh (lv_sub hl [3, 4, 1, 0] rfl) hw
  · have hw := hw.2 c2
    refine lv_iload hx hb dX6_after_45 (lv_at hl 0 rfl) ?_
    refine lv_if_eq (tgt := 66) hx hb dX6_after_47 (by decide) (fun c4 => ?_) (fun c4 => ?_)
    · have hw := hw.1 c4
      refine lv_iload_n hx hb dX6_after_66 rfl (lv_at hl 3 rfl) ?_
      refine lv_istore_n (lv' := [(2, .int x2), (4, .int t0), (0, .ref (ha 0)), (1, .int x1), (3, .int x3)]) hx hb dX6_after_67 rfl hl (by decide) rfl (fun ls hl => ?_)
      obtain ⟨v5, ev5⟩ : ∃ y : Int32, y = x3 + 1 := ⟨_, rfl⟩
      have hw := hw v5 ev5
      refine lv_iinc (v := v5) (lv' := [(3, .int v5), (2, .int x2), (4, .int t0), (0, .ref (ha 0)), (1, .int x1)]) hx hb dX6_after_68 hl (k := 4) rfl (by rw [ev5]; rfl) (by decide) rfl (fun ls hl => ?_)
      refine lv_goto (tgt := 5) hx hb dX6_after_71 (by decide) ?_
      exact hK_5 x1 x2 v5 σ1 _ _ _ hh (lv_sub hl [3, 4, 1, 0] rfl) hw
    · have hw := hw.2 c4
      refine lv_iload_n hx hb dX6_after_50 rfl (lv_at hl 3 rfl) ?_
      refine lv_if_lt (tgt := 62) hx hb dX6_after_51 (by decide) (fun c6 => ?_) (fun c6 => ?_)
      · have hw := hw.1 c6
        refine lv_iload_n hx hb dX6_after_62 rfl (lv_at hl 4 rfl) ?_
        refine lv_goto (tgt := 67) hx hb dX6_after_63 (by decide) ?_
        refine lv_istore_n (lv' := [(2, .int x3), (4, .int t0), (0, .ref (ha 0)), (1, .int x1), (3, .int x3)]) hx hb dX6_after_67 rfl hl (by decide) rfl (fun ls hl => ?_)
        obtain ⟨v7, ev7⟩ : ∃ y : Int32, y = x3 + 1 := ⟨_, rfl⟩
        have hw := hw v7 ev7
        refine lv_iinc (v := v7) (lv' := [(3, .int v7), (2, .int x3), (4, .int t0), (0, .ref (ha 0)), (1, .int x1)]) hx hb dX6_after_68 hl (k := 4) rfl (by rw [ev7]; rfl) (by decide) rfl (fun ls hl => ?_)
        refine lv_goto (tgt := 5) hx hb dX6_after_71 (by decide) ?_
        exact hK_5 x1 x3 v7 σ1 _ _ _ hh (lv_sub hl [3, 4, 1, 0] rfl) hw
      · have hw := hw.2 c6
        refine lv_iload_n hx hb dX6_after_54 rfl (lv_at hl 4 rfl) ?_
        refine lv_iload_n hx hb dX6_after_55 rfl (lv_at hl 3 rfl) ?_
        refine lf_callSi (rest := []) F hh (cw_X6_144 F.1.2.2.2.2 ⟨Nat.le_of_ble_eq_true rfl, Nat.le_of_ble_eq_true rfl⟩) (c_X6_isAhead l D ha cy H.size σ1 x3 x2 _ hw) rfl hl.1 (Nat.le_of_ble_eq_true rfl) dX6_after_56 rfl (fun r8 σ8 H locs hw hh => ?_)
        refine lv_if_eq (tgt := 66) hx hb dX6_after_59 (by decide) (fun c9 => ?_) (fun c9 => ?_)
        · have hw := hw.1 c9
          refine lv_iload_n hx hb dX6_after_66 rfl (lv_at hl 3 rfl) ?_
          refine lv_istore_n (lv' := [(2, .int x2), (4, .int t0), (0, .ref (ha 0)), (1, .int x1), (3, .int x3)]) hx hb dX6_after_67 rfl hl (by decide) rfl (fun ls hl => ?_)
          obtain ⟨v10, ev10⟩ : ∃ y : Int32, y = x3 + 1 := ⟨_, rfl⟩
          have hw := hw v10 ev10
          refine lv_iinc (v := v10) (lv' := [(3, .int v10), (2, .int x2), (4, .int t0), (0, .ref (ha 0)), (1, .int x1)]) hx hb dX6_after_68 hl (k := 4) rfl (by rw [ev10]; rfl) (by decide) rfl (fun ls hl => ?_)
          refine lv_goto (tgt := 5) hx hb dX6_after_71 (by decide) ?_
          exact hK_5 x1 x2 v10 σ8 _ _ _ hh (lv_sub hl [3, 4, 1, 0] rfl) hw
        · have hw := hw.2 c9
          refine lv_iload_n hx hb dX6_after_62 rfl (lv_at hl 4 rfl) ?_
          refine lv_goto (tgt := 67) hx hb dX6_after_63 (by decide) ?_
          refine lv_istore_n (lv' := [(2, .int x3), (4, .int t0), (0, .ref (ha 0)), (1, .int x1), (3, .int x3)]) hx hb dX6_after_67 rfl hl (by decide) rfl (fun ls hl => ?_)
          obtain ⟨v11, ev11⟩ : ∃ y : Int32, y = x3 + 1 := ⟨_, rfl⟩
          have hw := hw v11 ev11
          refine lv_iinc (v := v11) (lv' := [(3, .int v11), (2, .int x3), (4, .int t0), (0, .ref (ha 0)), (1, .int x1)]) hx hb dX6_after_68 hl (k := 4) rfl (by rw [ev11]; rfl) (by decide) rfl (fun ls hl => ?_)
          refine lv_goto (tgt := 5) hx hb dX6_after_71 (by decide) ?_
          exact hK_5 x1 x3 v11 σ8 _ _ _ hh (lv_sub hl [3, 4, 1, 0] rfl) hw
set_option maxHeartbeats 4000000 in
set_option maxRecDepth 100000 in
theorem w_X6_after_27 {p : Program} {l : Launch} {e : Env} {s : State} {m : MethodId} {args : Array Value} {below : List Frame} {meth : Method} {c : Code} {D : va_G} {A : Nat → Prop} {ha : Nat → Nat} {cy : Nat → ClassId} (K_5 : Int32 → Int32 → Int32 → lf_St → Prop) (Post : Int32 → lf_St → Prop) (F : lf_C p s m args meth c RX6 cX6_after 5 (some .int) D (tyM_ cy) A) (hK_5 : ∀ (x1 : Int32) (x2 : Int32) (x3 : Int32) (σ : lf_St) (H : Heap) (locs : List Loc) (ls : Array Slot), lf_H D (wM_ ha cy) A s σ H locs → lv_has ls 5 [(0, .ref (ha 0)), (1, .int x1), (2, .int x2), (3, .int x3)] → K_5 x1 x2 x3 σ → W p l e rm_X6_after s m args below meth c H locs 0 0 (lf_Qi below args s D (tyM_ cy) A (wM_ ha cy) Post) (F0 m 5 ls [])) (x1 : Int32) (x2 : Int32) (x3 : Int32) (σ : lf_St) (H : Heap) (locs : List Loc) (ls : Array Slot) (hh : lf_H D (wM_ ha cy) A s σ H locs) (hl : lv_has ls 5 [(0, .ref (ha 0)), (1, .int x1), (2, .int x2), (3, .int x3)]) (hw : J_X6_after_27 K_5 Post x1 x2 x3 σ) : W p l e rm_X6_after s m args below meth c H locs 0 0 (lf_Qi below args s D (tyM_ cy) A (wM_ ha cy) Post) (F0 m 27 ls []) := by
  have hx := F.1.1
  have hb := F.1.2.1
  unfold J_X6_after_27 at hw
  refine lv_iconst (v := 1) hx hb dX6_after_27 (by decide) ?_
  refine lv_goto (tgt := 32) hx hb dX6_after_28 (by decide) ?_
  exact w_X6_after_32 _ Post F hK_5 x1 x2 x3 1 σ _ _ _ hh (lv_sub hl [0, 1, 2, 3] rfl) hw
set_option maxHeartbeats 4000000 in
set_option maxRecDepth 100000 in
theorem w_X6_after_5 {p : Program} {l : Launch} {e : Env} {s : State} {m : MethodId} {args : Array Value} {below : List Frame} {meth : Method} {c : Code} {D : va_G} {A : Nat → Prop} {ha : Nat → Nat} {cy : Nat → ClassId} (Post : Int32 → lf_St → Prop) (F : lf_C p s m args meth c RX6 cX6_after 5 (some .int) D (tyM_ cy) A) : ∀ (n : Nat) (x1 : Int32) (x2 : Int32) (x3 : Int32) (σ : lf_St) (H : Heap) (locs : List Loc) (ls : Array Slot), lf_H D (wM_ ha cy) A s σ H locs → lv_has ls 5 [(0, .ref (ha 0)), (1, .int x1), (2, .int x2), (3, .int x3)] → L_X6_after_5 Post n x1 x2 x3 σ → W p l e rm_X6_after s m args below meth c H locs 0 0 (lf_Qi below args s D (tyM_ cy) A (wM_ ha cy) Post) (F0 m 5 ls []) := by
  have hx := F.1.1
  have hb := F.1.2.1
  intro n
  induction n with
  | zero =>
    intro x1 x2 x3 σ H locs ls hh hl hw
    exact False.elim hw
  | succ n ih =>
    intro x1 x2 x3 σ H locs ls hh hl hw
    unfold L_X6_after_5 at hw
    refine lv_iload_n hx hb dX6_after_5 rfl (lv_at hl 3 rfl) ?_
    refine lv_iconst (v := 1) hx hb dX6_after_6 (by decide) ?_
    refine lv_aload_n hx hb dX6_after_7 rfl (lv_at hl 0 rfl) ?_
    refine fg_X6_65 F hh dX6_after_8 ?_
    refine lv_ishl hx hb dX6_after_11 ?_
    refine lv_icmp_ge (tgt := 74) hx hb dX6_after_12 (by decide) (fun c1 => ?_) (fun c1 => ?_)
    · have hw := hw.1 c1
      refine lv_iload_n hx hb dX6_after_74 rfl (lv_at hl 2 rfl) ?_
      exact lf_reti F hh hw dX6_after_75
    · have hw := hw.2 c1
      refine lv_iload_n hx hb dX6_after_15 rfl (lv_at hl 1 rfl) ?_
      refine lv_if_lt (tgt := 27) hx hb dX6_after_16 (by decide) (fun c2 => ?_) (fun c2 => ?_)
      · have hw := hw.1 c2
        exact w_X6_after_27 _ Post F ih x1 x2 x3 σ _ _ _ hh (lv_sub hl [0, 1, 2, 3] rfl) hw
      · have hw := hw.2 c2
        refine lv_iload_n hx hb dX6_after_19 rfl (lv_at hl 1 rfl) ?_
        refine lv_iload_n hx hb dX6_after_20 rfl (lv_at hl 3 rfl) ?_
        refine lf_callSi (rest := []) F hh (cw_X6_144 F.1.2.2.2.2 ⟨Nat.le_of_ble_eq_true rfl, Nat.le_of_ble_eq_true rfl⟩) (c_X6_isAhead l D ha cy H.size σ x1 x3 _ hw) rfl hl.1 (Nat.le_of_ble_eq_true rfl) dX6_after_21 rfl (fun r3 σ3 H locs hw hh => ?_)
        refine lv_if_eq (tgt := 31) hx hb dX6_after_24 (by decide) (fun c4 => ?_) (fun c4 => ?_)
        · have hw := hw.1 c4
          refine lv_iconst (v := 0) hx hb dX6_after_31 (by decide) ?_
          exact w_X6_after_32 _ Post F ih x1 x2 x3 0 σ3 _ _ _ hh (lv_sub hl [0, 1, 2, 3] rfl) hw
        · have hw := hw.2 c4
          exact w_X6_after_27 _ Post F ih x1 x2 x3 σ3 _ _ _ hh (lv_sub hl [0, 1, 2, 3] rfl) hw
set_option maxHeartbeats 4000000 in
set_option maxRecDepth 100000 in
theorem c_X6_after (l : Launch) (D : va_G) (ha : Nat → Nat) (cy : Nat → ClassId) (sz : Nat) (σ : lf_St) (x1 : Int32) (Post : Int32 → lf_St → Prop) (hw : wp_X6_after x1 σ Post) : lf_Mi l yX6_after (lf_ws yX6_after cX6_after 5 (some .int)) rm_X6_after D (tyM_ cy) (wM_ ha cy) sz σ [.ref (ha 0), .int x1] Post := by
  refine lf_ofi (by decide +kernel) (Nat.le_of_ble_eq_true rfl) ?_
  intro p e s m args below meth c A ls F hh hl
  have hx := F.1.1
  have hb := F.1.2.1
  have hl : lv_has ls 5 [(0, .ref (ha 0)), (1, .int x1)] := hl
  obtain ⟨H, hHe⟩ : ∃ H, H = s.heap := ⟨_, rfl⟩
  rw [← hHe] at hh ⊢
  unfold wp_X6_after at hw
  refine lv_bipush (v := (-6)) hx hb dX6_after_0 (by decide) ?_
  refine lv_istore_n (lv' := [(2, .int (-6)), (0, .ref (ha 0)), (1, .int x1)]) hx hb dX6_after_2 rfl hl (by decide) rfl (fun ls hl => ?_)
  refine lv_iconst (v := 0) hx hb dX6_after_3 (by decide) ?_
  refine lv_istore_n (lv' := [(3, .int 0), (2, .int (-6)), (0, .ref (ha 0)), (1, .int x1)]) hx hb dX6_after_4 rfl hl (by decide) rfl (fun ls hl => ?_)
  obtain ⟨n5, hw⟩ := hw
  exact w_X6_after_5 Post F  n5 x1 (-6) 0 σ _ _ _ hh (lv_sub hl [2, 3, 1, 0] rfl) hw
theorem cw_X6_150 {R : Room} {s : State} {args : Array Value} (ht : ∀ w ∈ wsL_law, w.before args s = true) (hR : rm_X6_layRows.frames + 1 ≤ R.frames ∧ 8 + (2 + 11) + rm_X6_layRows.locals ≤ R.locals) : lf_cV R s args RX6 RX6 150 yX6_layRows cX6_layRows 2 none rm_X6_layRows 0 :=
  lf_cV_of 0 ht (lr_20 _ (List.mem_of_getElem? (i := 14) rfl)) (lr_20 _ (List.mem_of_getElem? (i := 11) rfl)) (lr_20 _ (List.mem_of_getElem? (i := 12) rfl)) (lr_20 _ (List.mem_of_getElem? (i := 13) rfl)) (lr_1 _ (List.mem_of_getElem? (i := 5) rfl)) rfl rfl (by decide +kernel) hR
theorem cw_X6_153 {R : Room} {s : State} {args : Array Value} (ht : ∀ w ∈ wsL_law, w.before args s = true) (hR : rm_X6_isChoice.frames + 1 ≤ R.frames ∧ 8 + (5 + 11) + rm_X6_isChoice.locals ≤ R.locals) : lf_cV R s args RX6 RX6 153 yX6_isChoice cX6_isChoice 5 (some .boolean) rm_X6_isChoice 1 :=
  lf_cV_of 1 ht (lr_20 _ (List.mem_of_getElem? (i := 19) rfl)) (lr_20 _ (List.mem_of_getElem? (i := 16) rfl)) (lr_20 _ (List.mem_of_getElem? (i := 17) rfl)) (lr_20 _ (List.mem_of_getElem? (i := 18) rfl)) (lr_1 _ (List.mem_of_getElem? (i := 5) rfl)) rfl rfl (by decide +kernel) hR
def L_X6_stiff_27 (Post : Int32 → lf_St → Prop) : Nat → Int32 → Int32 → lf_St → Prop
  | 0, _, _, _ => False
  | n + 1, x1, x2, σ => (((1 <<< ((lf_gi σ 6) &&& 31)) ≤ x2) → (Post 0 σ)) ∧ ((¬ ((1 <<< ((lf_gi σ 6) &&& 31)) ≤ x2)) → (((¬ (x2 &&& (x1 ^^^ (-1))) = 0) → (∀ v3 : Int32, v3 = x2 + 1 → (L_X6_stiff_27 Post n x1 v3 σ))) ∧ (((x2 &&& (x1 ^^^ (-1))) = 0) → (wp_X6_isChoice x2 σ (fun r4 σ4 => ((r4 = 0) → (∀ v6 : Int32, v6 = x2 + 1 → (L_X6_stiff_27 Post n x1 v6 σ4))) ∧ ((¬ (r4 = 0)) → (Post 1 σ4)))))))
def wp_X6_stiff (x1 : Int32) (σ : lf_St) (Post : Int32 → lf_St → Prop) : Prop := wp_X6_in (x1.toInt64) 0 ((((1 <<< ((lf_gi σ 6) &&& 31)) - 1) : Int32).toInt64) σ (fun r1 σ1 => ((¬ r1 = 0) → (wp_X6_layRows σ1 (fun σ3 => ∃ fu : Nat, L_X6_stiff_27 Post fu x1 0 σ3))) ∧ ((r1 = 0) → (Post (-2) σ1)))
def rm_X6_stiff : Room := ({ frames := 3, cells := 0, slots := 0, locals := 71 } : Room)
set_option maxHeartbeats 4000000 in
set_option maxRecDepth 100000 in
theorem w_X6_stiff_27 {p : Program} {l : Launch} {e : Env} {s : State} {m : MethodId} {args : Array Value} {below : List Frame} {meth : Method} {c : Code} {D : va_G} {A : Nat → Prop} {ha : Nat → Nat} {cy : Nat → ClassId} (Post : Int32 → lf_St → Prop) (F : lf_C p s m args meth c RX6 cX6_stiff 3 (some .int) D (tyM_ cy) A) : ∀ (n : Nat) (x1 : Int32) (x2 : Int32) (σ : lf_St) (H : Heap) (locs : List Loc) (ls : Array Slot), lf_H D (wM_ ha cy) A s σ H locs → lv_has ls 3 [(0, .ref (ha 0)), (1, .int x1), (2, .int x2)] → L_X6_stiff_27 Post n x1 x2 σ → W p l e rm_X6_stiff s m args below meth c H locs 0 0 (lf_Qi below args s D (tyM_ cy) A (wM_ ha cy) Post) (F0 m 27 ls []) := by
  have hx := F.1.1
  have hb := F.1.2.1
  intro n
  induction n with
  | zero =>
    intro x1 x2 σ H locs ls hh hl hw
    exact False.elim hw
  | succ n ih =>
    intro x1 x2 σ H locs ls hh hl hw
    unfold L_X6_stiff_27 at hw
    refine lv_iload_n hx hb dX6_stiff_27 rfl (lv_at hl 2 rfl) ?_
    refine lv_iconst (v := 1) hx hb dX6_stiff_28 (by decide) ?_
    refine lv_aload_n hx hb dX6_stiff_29 rfl (lv_at hl 0 rfl) ?_
    refine fg_X6_65 F hh dX6_stiff_30 ?_
    refine lv_ishl hx hb dX6_stiff_33 ?_
    refine lv_icmp_ge (tgt := 61) hx hb dX6_stiff_34 (by decide) (fun c1 => ?_) (fun c1 => ?_)
    · have hw := hw.1 c1
      refine lv_iconst (v := 0) hx hb dX6_stiff_61 (by decide) ?_
      exact lf_reti F hh hw dX6_stiff_62
    · have hw := hw.2 c1
      refine lv_iload_n hx hb dX6_stiff_37 rfl (lv_at hl 2 rfl) ?_
      refine lv_iload_n hx hb dX6_stiff_38 rfl (lv_at hl 1 rfl) ?_
      refine lv_iconst (v := (-1)) hx hb dX6_stiff_39 (by decide) ?_
      refine lv_ixor hx hb dX6_stiff_40 ?_
      refine lv_iand hx hb dX6_stiff_41 ?_
      refine lv_if_ne (tgt := 55) hx hb dX6_stiff_42 (by decide) (fun c2 => ?_) (fun c2 => ?_)
      · have hw := hw.1 c2
        obtain ⟨v3, ev3⟩ : ∃ y : Int32, y = x2 + 1 := ⟨_, rfl⟩
        have hw := hw v3 ev3
        refine lv_iinc (v := v3) (lv' := [(2, .int v3), (0, .ref (ha 0)), (1, .int x1)]) hx hb dX6_stiff_55 hl (k := 2) rfl (by rw [ev3]; rfl) (by decide) rfl (fun ls hl => ?_)
        refine lv_goto (tgt := 27) hx hb dX6_stiff_58 (by decide) ?_
        exact ih x1 v3 σ _ _ _ hh (lv_sub hl [1, 2, 0] rfl) hw
      · have hw := hw.2 c2
        refine lv_aload_n hx hb dX6_stiff_45 rfl (lv_at hl 0 rfl) ?_
        refine lv_iload_n hx hb dX6_stiff_46 rfl (lv_at hl 2 rfl) ?_
        refine lf_callVi (rest := []) F hh (cw_X6_153 F.1.2.2.2.2 ⟨Nat.le_of_ble_eq_true rfl, Nat.le_of_ble_eq_true rfl⟩) (c_X6_isChoice l D ha cy H.size σ x2 _ hw) 0 6 rfl rfl rfl rfl hl.1 (Nat.le_of_ble_eq_true rfl) dX6_stiff_47 rfl (fun r4 σ4 H locs hw hh => ?_)
        refine lv_if_eq (tgt := 55) hx hb dX6_stiff_50 (by decide) (fun c5 => ?_) (fun c5 => ?_)
        · have hw := hw.1 c5
          obtain ⟨v6, ev6⟩ : ∃ y : Int32, y = x2 + 1 := ⟨_, rfl⟩
          have hw := hw v6 ev6
          refine lv_iinc (v := v6) (lv' := [(2, .int v6), (0, .ref (ha 0)), (1, .int x1)]) hx hb dX6_stiff_55 hl (k := 2) rfl (by rw [ev6]; rfl) (by decide) rfl (fun ls hl => ?_)
          refine lv_goto (tgt := 27) hx hb dX6_stiff_58 (by decide) ?_
          exact ih x1 v6 σ4 _ _ _ hh (lv_sub hl [1, 2, 0] rfl) hw
        · have hw := hw.2 c5
          refine lv_iconst (v := 1) hx hb dX6_stiff_53 (by decide) ?_
          exact lf_reti F hh hw dX6_stiff_54
set_option maxHeartbeats 4000000 in
set_option maxRecDepth 100000 in
theorem c_X6_stiff (l : Launch) (D : va_G) (ha : Nat → Nat) (cy : Nat → ClassId) (sz : Nat) (σ : lf_St) (x1 : Int32) (Post : Int32 → lf_St → Prop) (hw : wp_X6_stiff x1 σ Post) : lf_Mi l yX6_stiff (lf_ws yX6_stiff cX6_stiff 3 (some .int)) rm_X6_stiff D (tyM_ cy) (wM_ ha cy) sz σ [.ref (ha 0), .int x1] Post := by
  refine lf_ofi (by decide +kernel) (Nat.le_of_ble_eq_true rfl) ?_
  intro p e s m args below meth c A ls F hh hl
  have hx := F.1.1
  have hb := F.1.2.1
  have hl : lv_has ls 3 [(0, .ref (ha 0)), (1, .int x1)] := hl
  obtain ⟨H, hHe⟩ : ∃ H, H = s.heap := ⟨_, rfl⟩
  rw [← hHe] at hh ⊢
  unfold wp_X6_stiff at hw
  refine lv_iload_n hx hb dX6_stiff_0 rfl (lv_at hl 1 rfl) ?_
  refine lv_i2l hx hb dX6_stiff_1 rfl ?_
  refine lv_lconst (v := 0) hx hb dX6_stiff_2 (by decide) ?_
  refine lv_iconst (v := 1) hx hb dX6_stiff_3 (by decide) ?_
  refine lv_aload_n hx hb dX6_stiff_4 rfl (lv_at hl 0 rfl) ?_
  refine fg_X6_65 F hh dX6_stiff_5 ?_
  refine lv_ishl hx hb dX6_stiff_8 ?_
  refine lv_iconst (v := 1) hx hb dX6_stiff_9 (by decide) ?_
  refine lv_isub hx hb dX6_stiff_10 ?_
  refine lv_i2l hx hb dX6_stiff_11 rfl ?_
  refine lf_callSi (rest := []) F hh (cw_X6_61 F.1.2.2.2.2 ⟨Nat.le_of_ble_eq_true rfl, Nat.le_of_ble_eq_true rfl⟩) (c_X6_in l D ha cy H.size σ (x1.toInt64) 0 ((((1 <<< ((lf_gi σ 6) &&& 31)) - 1) : Int32).toInt64) _ hw) rfl hl.1 (Nat.le_of_ble_eq_true rfl) dX6_stiff_12 rfl (fun r1 σ1 H locs hw hh => ?_)
  refine lv_if_ne (tgt := 21) hx hb dX6_stiff_15 (by decide) (fun c2 => ?_) (fun c2 => ?_)
  · have hw := hw.1 c2
    refine lv_aload_n hx hb dX6_stiff_21 rfl (lv_at hl 0 rfl) ?_
    refine lf_callVv (rest := []) F hh (cw_X6_150 F.1.2.2.2.2 ⟨Nat.le_of_ble_eq_true rfl, Nat.le_of_ble_eq_true rfl⟩) (c_X6_layRows l D ha cy H.size σ1  _ hw) 0 6 rfl rfl rfl rfl hl.1 (Nat.le_of_ble_eq_true rfl) dX6_stiff_22 rfl (fun σ3 H locs hw hh => ?_)
    refine lv_iconst (v := 0) hx hb dX6_stiff_25 (by decide) ?_
    refine lv_istore_n (lv' := [(2, .int 0), (0, .ref (ha 0)), (1, .int x1)]) hx hb dX6_stiff_26 rfl hl (by decide) rfl (fun ls hl => ?_)
    obtain ⟨n27, hw⟩ := hw
    exact w_X6_stiff_27 Post F  n27 x1 0 σ3 _ _ _ hh (lv_sub hl [1, 2, 0] rfl) hw
  · have hw := hw.2 c2
    refine lv_bipush (v := (-2)) hx hb dX6_stiff_18 (by decide) ?_
    exact lf_reti F hh hw dX6_stiff_20
def L_X6_choices_8 (Post : Int32 → lf_St → Prop) : Nat → Int32 → Int32 → lf_St → Prop
  | 0, _, _, _ => False
  | n + 1, x1, x2, σ => (((1 <<< ((lf_gi σ 6) &&& 31)) ≤ x2) → (Post x1 σ)) ∧ ((¬ ((1 <<< ((lf_gi σ 6) &&& 31)) ≤ x2)) → (wp_X6_isChoice x2 σ (fun r2 σ2 => ((r2 = 0) → (∀ v4 : Int32, v4 = (x1 + 0) → (∀ v5 : Int32, v5 = x2 + 1 → (L_X6_choices_8 Post n v4 v5 σ2)))) ∧ ((¬ (r2 = 0)) → (∀ v6 : Int32, v6 = (x1 + 1) → (∀ v7 : Int32, v7 = x2 + 1 → (L_X6_choices_8 Post n v6 v7 σ2)))))))
def wp_X6_choices (σ : lf_St) (Post : Int32 → lf_St → Prop) : Prop := wp_X6_layRows σ (fun σ1 => ∃ fu : Nat, L_X6_choices_8 Post fu 0 0 σ1)
def rm_X6_choices : Room := ({ frames := 3, cells := 0, slots := 0, locals := 71 } : Room)
set_option maxHeartbeats 4000000 in
set_option maxRecDepth 100000 in
theorem w_X6_choices_8 {p : Program} {l : Launch} {e : Env} {s : State} {m : MethodId} {args : Array Value} {below : List Frame} {meth : Method} {c : Code} {D : va_G} {A : Nat → Prop} {ha : Nat → Nat} {cy : Nat → ClassId} (Post : Int32 → lf_St → Prop) (F : lf_C p s m args meth c RX6 cX6_choices 3 (some .int) D (tyM_ cy) A) : ∀ (n : Nat) (x1 : Int32) (x2 : Int32) (σ : lf_St) (H : Heap) (locs : List Loc) (ls : Array Slot), lf_H D (wM_ ha cy) A s σ H locs → lv_has ls 3 [(0, .ref (ha 0)), (1, .int x1), (2, .int x2)] → L_X6_choices_8 Post n x1 x2 σ → W p l e rm_X6_choices s m args below meth c H locs 0 0 (lf_Qi below args s D (tyM_ cy) A (wM_ ha cy) Post) (F0 m 8 ls []) := by
  have hx := F.1.1
  have hb := F.1.2.1
  intro n
  induction n with
  | zero =>
    intro x1 x2 σ H locs ls hh hl hw
    exact False.elim hw
  | succ n ih =>
    intro x1 x2 σ H locs ls hh hl hw
    unfold L_X6_choices_8 at hw
    refine lv_iload_n hx hb dX6_choices_8 rfl (lv_at hl 2 rfl) ?_
    refine lv_iconst (v := 1) hx hb dX6_choices_9 (by decide) ?_
    refine lv_aload_n hx hb dX6_choices_10 rfl (lv_at hl 0 rfl) ?_
    refine fg_X6_65 F hh dX6_choices_11 ?_
    refine lv_ishl hx hb dX6_choices_14 ?_
    refine lv_icmp_ge (tgt := 40) hx hb dX6_choices_15 (by decide) (fun c1 => ?_) (fun c1 => ?_)
    · have hw := hw.1 c1
      refine lv_iload_n hx hb dX6_choices_40 rfl (lv_at hl 1 rfl) ?_
      exact lf_reti F hh hw dX6_choices_41
    · have hw := hw.2 c1
      refine lv_iload_n hx hb dX6_choices_18 rfl (lv_at hl 1 rfl) ?_
      refine lv_aload_n hx hb dX6_choices_19 rfl (lv_at hl 0 rfl) ?_
      refine lv_iload_n hx hb dX6_choices_20 rfl (lv_at hl 2 rfl) ?_
      refine lf_callVi (rest := [.int x1]) F hh (cw_X6_153 F.1.2.2.2.2 ⟨Nat.le_of_ble_eq_true rfl, Nat.le_of_ble_eq_true rfl⟩) (c_X6_isChoice l D ha cy H.size σ x2 _ hw) 0 6 rfl rfl rfl rfl hl.1 (Nat.le_of_ble_eq_true rfl) dX6_choices_21 rfl (fun r2 σ2 H locs hw hh => ?_)
      refine lv_if_eq (tgt := 31) hx hb dX6_choices_24 (by decide) (fun c3 => ?_) (fun c3 => ?_)
      · have hw := hw.1 c3
        refine lv_iconst (v := 0) hx hb dX6_choices_31 (by decide) ?_
        refine lv_iadd hx hb dX6_choices_32 ?_
        refine lv_topi (fun v4 ev4 => ?_)
        have hw := hw v4 ev4
        refine lv_istore_n (lv' := [(1, .int v4), (0, .ref (ha 0)), (2, .int x2)]) hx hb dX6_choices_33 rfl hl (by decide) rfl (fun ls hl => ?_)
        obtain ⟨v5, ev5⟩ : ∃ y : Int32, y = x2 + 1 := ⟨_, rfl⟩
        have hw := hw v5 ev5
        refine lv_iinc (v := v5) (lv' := [(2, .int v5), (1, .int v4), (0, .ref (ha 0))]) hx hb dX6_choices_34 hl (k := 2) rfl (by rw [ev5]; rfl) (by decide) rfl (fun ls hl => ?_)
        refine lv_goto (tgt := 8) hx hb dX6_choices_37 (by decide) ?_
        exact ih v4 v5 σ2 _ _ _ hh (lv_sub hl [2, 1, 0] rfl) hw
      · have hw := hw.2 c3
        refine lv_iconst (v := 1) hx hb dX6_choices_27 (by decide) ?_
        refine lv_goto (tgt := 32) hx hb dX6_choices_28 (by decide) ?_
        refine lv_iadd hx hb dX6_choices_32 ?_
        refine lv_topi (fun v6 ev6 => ?_)
        have hw := hw v6 ev6
        refine lv_istore_n (lv' := [(1, .int v6), (0, .ref (ha 0)), (2, .int x2)]) hx hb dX6_choices_33 rfl hl (by decide) rfl (fun ls hl => ?_)
        obtain ⟨v7, ev7⟩ : ∃ y : Int32, y = x2 + 1 := ⟨_, rfl⟩
        have hw := hw v7 ev7
        refine lv_iinc (v := v7) (lv' := [(2, .int v7), (1, .int v6), (0, .ref (ha 0))]) hx hb dX6_choices_34 hl (k := 2) rfl (by rw [ev7]; rfl) (by decide) rfl (fun ls hl => ?_)
        refine lv_goto (tgt := 8) hx hb dX6_choices_37 (by decide) ?_
        exact ih v6 v7 σ2 _ _ _ hh (lv_sub hl [2, 1, 0] rfl) hw
set_option maxHeartbeats 4000000 in
set_option maxRecDepth 100000 in
theorem c_X6_choices (l : Launch) (D : va_G) (ha : Nat → Nat) (cy : Nat → ClassId) (sz : Nat) (σ : lf_St) (Post : Int32 → lf_St → Prop) (hw : wp_X6_choices σ Post) : lf_Mi l yX6_choices (lf_ws yX6_choices cX6_choices 3 (some .int)) rm_X6_choices D (tyM_ cy) (wM_ ha cy) sz σ [.ref (ha 0)] Post := by
  refine lf_ofi (by decide +kernel) (Nat.le_of_ble_eq_true rfl) ?_
  intro p e s m args below meth c A ls F hh hl
  have hx := F.1.1
  have hb := F.1.2.1
  have hl : lv_has ls 3 [(0, .ref (ha 0))] := hl
  obtain ⟨H, hHe⟩ : ∃ H, H = s.heap := ⟨_, rfl⟩
  rw [← hHe] at hh ⊢
  unfold wp_X6_choices at hw
  refine lv_aload_n hx hb dX6_choices_0 rfl (lv_at hl 0 rfl) ?_
  refine lf_callVv (rest := []) F hh (cw_X6_150 F.1.2.2.2.2 ⟨Nat.le_of_ble_eq_true rfl, Nat.le_of_ble_eq_true rfl⟩) (c_X6_layRows l D ha cy H.size σ  _ hw) 0 6 rfl rfl rfl rfl hl.1 (Nat.le_of_ble_eq_true rfl) dX6_choices_1 rfl (fun σ1 H locs hw hh => ?_)
  refine lv_iconst (v := 0) hx hb dX6_choices_4 (by decide) ?_
  refine lv_istore_n (lv' := [(1, .int 0), (0, .ref (ha 0))]) hx hb dX6_choices_5 rfl hl (by decide) rfl (fun ls hl => ?_)
  refine lv_iconst (v := 0) hx hb dX6_choices_6 (by decide) ?_
  refine lv_istore_n (lv' := [(2, .int 0), (1, .int 0), (0, .ref (ha 0))]) hx hb dX6_choices_7 rfl hl (by decide) rfl (fun ls hl => ?_)
  obtain ⟨n8, hw⟩ := hw
  exact w_X6_choices_8 Post F  n8 0 0 σ1 _ _ _ hh (lv_sub hl [2, 1, 0] rfl) hw
def J_X6_sizeFor_71 (K_14 : Int64 → Int32 → Int32 → lf_St → Prop) (Post : Int32 → lf_St → Prop) (x1 : Int64) (x4 : Int32) (σ : lf_St) : Prop := vp_in x4 5 ∧ (∀ v2 : Int32, v2 = (lf_ai σ 10 x4.toNatClampNeg) → (∀ v3 : Int32, v3 = x4 + 1 → (K_14 x1 v2 v3 σ)))
def J_X6_sizeFor_49 (K_14 : Int64 → Int32 → Int32 → lf_St → Prop) (Post : Int32 → lf_St → Prop) (x1 : Int64) (x3 : Int32) (x4 : Int32) (t0 : Int32) (σ : lf_St) : Prop := ((t0 = 0) → (∀ v2 : Int32, v2 = x4 + 1 → (K_14 x1 x3 v2 σ))) ∧ ((¬ (t0 = 0)) → (((x3 < 0) → (J_X6_sizeFor_71 K_14 Post x1 x4 σ)) ∧ ((¬ (x3 < 0)) → (vp_in x4 5 ∧ (((x3 ≤ (lf_ai σ 10 x4.toNatClampNeg)) → (∀ v6 : Int32, v6 = x4 + 1 → (K_14 x1 x3 v6 σ))) ∧ ((¬ (x3 ≤ (lf_ai σ 10 x4.toNatClampNeg))) → (J_X6_sizeFor_71 K_14 Post x1 x4 σ)))))))
def L_X6_sizeFor_14 (Post : Int32 → lf_St → Prop) : Nat → Int64 → Int32 → Int32 → lf_St → Prop
  | 0, _, _, _, _ => False
  | n + 1, x1, x3, x4, σ => (((lf_gi σ 9) ≤ x4) → (Post x3 σ)) ∧ ((¬ ((lf_gi σ 9) ≤ x4)) → (vp_in x4 5 ∧ (wp_X6_abs x1 σ (fun r3 σ3 => ((((((lf_ai σ 10 x4.toNatClampNeg) : Int32).toInt64) * (lf_gl σ 20)) < r3) → (J_X6_sizeFor_49 (L_X6_sizeFor_14 Post n) Post x1 x3 x4 0 σ3)) ∧ ((¬ (((((lf_ai σ 10 x4.toNatClampNeg) : Int32).toInt64) * (lf_gl σ 20)) < r3)) → (J_X6_sizeFor_49 (L_X6_sizeFor_14 Post n) Post x1 x3 x4 1 σ3))))))
def wp_X6_sizeFor (x1 : Int64) (σ : lf_St) (Post : Int32 → lf_St → Prop) : Prop := ((¬ x1 = 0) → (∃ fu : Nat, L_X6_sizeFor_14 Post fu x1 (-6) 0 σ)) ∧ ((x1 = 0) → (Post 0 σ))
def rm_X6_sizeFor : Room := ({ frames := 1, cells := 0, slots := 0, locals := 21 } : Room)
set_option maxHeartbeats 4000000 in
set_option maxRecDepth 100000 in
theorem w_X6_sizeFor_71 {p : Program} {l : Launch} {e : Env} {s : State} {m : MethodId} {args : Array Value} {below : List Frame} {meth : Method} {c : Code} {D : va_G} {A : Nat → Prop} {ha : Nat → Nat} {cy : Nat → ClassId} (K_14 : Int64 → Int32 → Int32 → lf_St → Prop) (Post : Int32 → lf_St → Prop) (F : lf_C p s m args meth c RX6 cX6_sizeFor 6 (some .int) D (tyM_ cy) A) (hK_14 : ∀ (x1 : Int64) (x3 : Int32) (x4 : Int32) (σ : lf_St) (H : Heap) (locs : List Loc) (ls : Array Slot), lf_H D (wM_ ha cy) A s σ H locs → lv_has ls 6 [(0, .ref (ha 0)), (1, .long x1), (3, .int x3), (4, .int x4)] → K_14 x1 x3 x4 σ → W p l e rm_X6_sizeFor s m args below meth c H locs 0 0 (lf_Qi below args s D (tyM_ cy) A (wM_ ha cy) Post) (F0 m 14 ls [])) (x1 : Int64) (x4 : Int32) (σ : lf_St) (H : Heap) (locs : List Loc) (ls : Array Slot) (hh : lf_H D (wM_ ha cy) A s σ H locs) (hl : lv_has ls 6 [(0, .ref (ha 0)), (1, .long x1), (4, .int x4)]) (hw : J_X6_sizeFor_71 K_14 Post x1 x4 σ) : W p l e rm_X6_sizeFor s m args below meth c H locs 0 0 (lf_Qi below args s D (tyM_ cy) A (wM_ ha cy) Post) (F0 m 71 ls []) := by
  have hx := F.1.1
  have hb := F.1.2.1
  unfold J_X6_sizeFor_71 at hw
  refine lv_aload_n hx hb dX6_sizeFor_71 rfl (lv_at hl 0 rfl) ?_
  refine fg_X6_32 F hh dX6_sizeFor_72 ?_
  refine lv_iload hx hb dX6_sizeFor_75 (lv_at hl 2 rfl) ?_
  obtain ⟨q1, hw⟩ := hw
  refine ra_M_10 F hh q1 dX6_sizeFor_77 ?_
  refine lv_goto (tgt := 82) hx hb dX6_sizeFor_78 (by decide) ?_
  refine lv_topi (fun v2 ev2 => ?_)
  have hw := hw v2 ev2
  refine lv_istore_n (lv' := [(3, .int v2), (0, .ref (ha 0)), (1, .long x1), (4, .int x4)]) hx hb dX6_sizeFor_82 rfl hl (by decide) rfl (fun ls hl => ?_)
  obtain ⟨v3, ev3⟩ : ∃ y : Int32, y = x4 + 1 := ⟨_, rfl⟩
  have hw := hw v3 ev3
  refine lv_iinc (v := v3) (lv' := [(4, .int v3), (3, .int v2), (0, .ref (ha 0)), (1, .long x1)]) hx hb dX6_sizeFor_83 hl (k := 3) rfl (by rw [ev3]; rfl) (by decide) rfl (fun ls hl => ?_)
  refine lv_goto (tgt := 14) hx hb dX6_sizeFor_86 (by decide) ?_
  exact hK_14 x1 v2 v3 σ _ _ _ hh (lv_sub hl [2, 3, 1, 0] rfl) hw
set_option maxHeartbeats 4000000 in
set_option maxRecDepth 100000 in
theorem w_X6_sizeFor_49 {p : Program} {l : Launch} {e : Env} {s : State} {m : MethodId} {args : Array Value} {below : List Frame} {meth : Method} {c : Code} {D : va_G} {A : Nat → Prop} {ha : Nat → Nat} {cy : Nat → ClassId} (K_14 : Int64 → Int32 → Int32 → lf_St → Prop) (Post : Int32 → lf_St → Prop) (F : lf_C p s m args meth c RX6 cX6_sizeFor 6 (some .int) D (tyM_ cy) A) (hK_14 : ∀ (x1 : Int64) (x3 : Int32) (x4 : Int32) (σ : lf_St) (H : Heap) (locs : List Loc) (ls : Array Slot), lf_H D (wM_ ha cy) A s σ H locs → lv_has ls 6 [(0, .ref (ha 0)), (1, .long x1), (3, .int x3), (4, .int x4)] → K_14 x1 x3 x4 σ → W p l e rm_X6_sizeFor s m args below meth c H locs 0 0 (lf_Qi below args s D (tyM_ cy) A (wM_ ha cy) Post) (F0 m 14 ls [])) (x1 : Int64) (x3 : Int32) (x4 : Int32) (t0 : Int32) (σ : lf_St) (H : Heap) (locs : List Loc) (ls : Array Slot) (hh : lf_H D (wM_ ha cy) A s σ H locs) (hl : lv_has ls 6 [(0, .ref (ha 0)), (1, .long x1), (3, .int x3), (4, .int x4)]) (hw : J_X6_sizeFor_49 K_14 Post x1 x3 x4 t0 σ) : W p l e rm_X6_sizeFor s m args below meth c H locs 0 0 (lf_Qi below args s D (tyM_ cy) A (wM_ ha cy) Post) (F0 m 49 ls [.int t0]) := by
  have hx := F.1.1
  have hb := F.1.2.1
  unfold J_X6_sizeFor_49 at hw
  refine lv_istore (lv' := [(5, .int t0), (0, .ref (ha 0)), (1, .long x1), (3, .int x3), (4, .int x4)]) hx hb dX6_sizeFor_49 hl (by decide) rfl (fun ls hl => ?_)
  refine lv_iload hx hb dX6_sizeFor_51 (lv_at hl 0 rfl) ?_
  refine lv_if_eq (tgt := 81) hx hb dX6_sizeFor_53 (by decide) (fun c1 => ?_) (fun c1 => ?_)
  · have hw := hw.1 c1
    refine lv_iload_n hx hb dX6_sizeFor_81 rfl (lv_at hl 3 rfl) ?_
    refine lv_istore_n (lv' := [(3, .int x3), (5, .int t0), (0, .ref (ha 0)), (1, .long x1), (4, .int x4)]) hx hb dX6_sizeFor_82 rfl hl (by decide) rfl (fun ls hl => ?_)
    obtain ⟨v2, ev2⟩ : ∃ y : Int32, y = x4 + 1 := ⟨_, rfl⟩
    have hw := hw v2 ev2
    refine lv_iinc (v := v2) (lv' := [(4, .int v2), (3, .int x3), (5, .int t0), (0, .ref (ha 0)), (1, .long x1)]) hx hb dX6_sizeFor_83 hl (k := 4) rfl (by rw [ev2]; rfl) (by decide) rfl (fun ls hl => ?_)
    refine lv_goto (tgt := 14) hx hb dX6_sizeFor_86 (by decide) ?_
    exact hK_14 x1 x3 v2 σ _ _ _ hh (lv_sub hl [3, 4, 1, 0] rfl) hw
  · have hw := hw.2 c1
    refine lv_iload_n hx hb dX6_sizeFor_56 rfl (lv_at hl 3 rfl) ?_
    refine lv_if_lt (tgt := 71) hx hb dX6_sizeFor_57 (by decide) (fun c3 => ?_) (fun c3 => ?_)
    · have hw := hw.1 c3
      exact w_X6_sizeFor_71 _ Post F hK_14 x1 x4 σ _ _ _ hh (lv_sub hl [1, 2, 4] rfl) hw
    · have hw := hw.2 c3
      refine lv_aload_n hx hb dX6_sizeFor_60 rfl (lv_at hl 1 rfl) ?_
      refine fg_X6_32 F hh dX6_sizeFor_61 ?_
      refine lv_iload hx hb dX6_sizeFor_64 (lv_at hl 4 rfl) ?_
      obtain ⟨q4, hw⟩ := hw
      refine ra_M_10 F hh q4 dX6_sizeFor_66 ?_
      refine lv_iload_n hx hb dX6_sizeFor_67 rfl (lv_at hl 3 rfl) ?_
      refine lv_icmp_ge (tgt := 81) hx hb dX6_sizeFor_68 (by decide) (fun c5 => ?_) (fun c5 => ?_)
      · have hw := hw.1 c5
        refine lv_iload_n hx hb dX6_sizeFor_81 rfl (lv_at hl 3 rfl) ?_
        refine lv_istore_n (lv' := [(3, .int x3), (5, .int t0), (0, .ref (ha 0)), (1, .long x1), (4, .int x4)]) hx hb dX6_sizeFor_82 rfl hl (by decide) rfl (fun ls hl => ?_)
        obtain ⟨v6, ev6⟩ : ∃ y : Int32, y = x4 + 1 := ⟨_, rfl⟩
        have hw := hw v6 ev6
        refine lv_iinc (v := v6) (lv' := [(4, .int v6), (3, .int x3), (5, .int t0), (0, .ref (ha 0)), (1, .long x1)]) hx hb dX6_sizeFor_83 hl (k := 4) rfl (by rw [ev6]; rfl) (by decide) rfl (fun ls hl => ?_)
        refine lv_goto (tgt := 14) hx hb dX6_sizeFor_86 (by decide) ?_
        exact hK_14 x1 x3 v6 σ _ _ _ hh (lv_sub hl [3, 4, 1, 0] rfl) hw
      · have hw := hw.2 c5
        exact w_X6_sizeFor_71 _ Post F hK_14 x1 x4 σ _ _ _ hh (lv_sub hl [1, 2, 4] rfl) hw
set_option maxHeartbeats 4000000 in
set_option maxRecDepth 100000 in
theorem w_X6_sizeFor_14 {p : Program} {l : Launch} {e : Env} {s : State} {m : MethodId} {args : Array Value} {below : List Frame} {meth : Method} {c : Code} {D : va_G} {A : Nat → Prop} {ha : Nat → Nat} {cy : Nat → ClassId} (Post : Int32 → lf_St → Prop) (F : lf_C p s m args meth c RX6 cX6_sizeFor 6 (some .int) D (tyM_ cy) A) : ∀ (n : Nat) (x1 : Int64) (x3 : Int32) (x4 : Int32) (σ : lf_St) (H : Heap) (locs : List Loc) (ls : Array Slot), lf_H D (wM_ ha cy) A s σ H locs → lv_has ls 6 [(0, .ref (ha 0)), (1, .long x1), (3, .int x3), (4, .int x4)] → L_X6_sizeFor_14 Post n x1 x3 x4 σ → W p l e rm_X6_sizeFor s m args below meth c H locs 0 0 (lf_Qi below args s D (tyM_ cy) A (wM_ ha cy) Post) (F0 m 14 ls []) := by
  have hx := F.1.1
  have hb := F.1.2.1
  intro n
  induction n with
  | zero =>
    intro x1 x3 x4 σ H locs ls hh hl hw
    exact False.elim hw
  | succ n ih =>
    intro x1 x3 x4 σ H locs ls hh hl hw
    unfold L_X6_sizeFor_14 at hw
    refine lv_iload hx hb dX6_sizeFor_14 (lv_at hl 3 rfl) ?_
    refine lv_aload_n hx hb dX6_sizeFor_16 rfl (lv_at hl 0 rfl) ?_
    refine fg_X6_99 F hh dX6_sizeFor_17 ?_
    refine lv_icmp_ge (tgt := 89) hx hb dX6_sizeFor_20 (by decide) (fun c1 => ?_) (fun c1 => ?_)
    · have hw := hw.1 c1
      refine lv_iload_n hx hb dX6_sizeFor_89 rfl (lv_at hl 2 rfl) ?_
      exact lf_reti F hh hw dX6_sizeFor_90
    · have hw := hw.2 c1
      refine lv_aload_n hx hb dX6_sizeFor_23 rfl (lv_at hl 0 rfl) ?_
      refine fg_X6_32 F hh dX6_sizeFor_24 ?_
      refine lv_iload hx hb dX6_sizeFor_27 (lv_at hl 3 rfl) ?_
      obtain ⟨q2, hw⟩ := hw
      refine ra_M_10 F hh q2 dX6_sizeFor_29 ?_
      refine lv_i2l hx hb dX6_sizeFor_30 rfl ?_
      refine lv_aload_n hx hb dX6_sizeFor_31 rfl (lv_at hl 0 rfl) ?_
      refine fg_X6_136 F hh dX6_sizeFor_32 ?_
      refine lv_lmul hx hb dX6_sizeFor_35 ?_
      refine lv_lload_n hx hb dX6_sizeFor_36 rfl (lv_at hl 1 rfl) ?_
      refine lf_callSl (rest := [.long ((((lf_ai σ 10 x4.toNatClampNeg) : Int32).toInt64) * (lf_gl σ 20))]) F hh (cw_X6_140 F.1.2.2.2.2 ⟨Nat.le_of_ble_eq_true rfl, Nat.le_of_ble_eq_true rfl⟩) (c_X6_abs l D ha cy H.size σ x1 _ hw) rfl hl.1 (Nat.le_of_ble_eq_true rfl) dX6_sizeFor_37 rfl (fun r3 σ3 H locs hw hh => ?_)
      refine lf_lcmp_lt (tgt := 48) hx hb dX6_sizeFor_40 dX6_sizeFor_41 (by decide) (fun c4 => ?_) (fun c4 => ?_)
      · have hw := hw.1 c4
        refine lv_iconst (v := 0) hx hb dX6_sizeFor_48 (by decide) ?_
        exact w_X6_sizeFor_49 _ Post F ih x1 x3 x4 0 σ3 _ _ _ hh (lv_sub hl [0, 1, 2, 3] rfl) hw
      · have hw := hw.2 c4
        refine lv_iconst (v := 1) hx hb dX6_sizeFor_44 (by decide) ?_
        refine lv_goto (tgt := 49) hx hb dX6_sizeFor_45 (by decide) ?_
        exact w_X6_sizeFor_49 _ Post F ih x1 x3 x4 1 σ3 _ _ _ hh (lv_sub hl [0, 1, 2, 3] rfl) hw
set_option maxHeartbeats 4000000 in
set_option maxRecDepth 100000 in
theorem c_X6_sizeFor (l : Launch) (D : va_G) (ha : Nat → Nat) (cy : Nat → ClassId) (sz : Nat) (σ : lf_St) (x1 : Int64) (Post : Int32 → lf_St → Prop) (hw : wp_X6_sizeFor x1 σ Post) : lf_Mi l yX6_sizeFor (lf_ws yX6_sizeFor cX6_sizeFor 6 (some .int)) rm_X6_sizeFor D (tyM_ cy) (wM_ ha cy) sz σ [.ref (ha 0), .long x1] Post := by
  refine lf_ofi (by decide +kernel) (Nat.le_of_ble_eq_true rfl) ?_
  intro p e s m args below meth c A ls F hh hl
  have hx := F.1.1
  have hb := F.1.2.1
  have hl : lv_has ls 6 [(0, .ref (ha 0)), (1, .long x1)] := hl
  obtain ⟨H, hHe⟩ : ∃ H, H = s.heap := ⟨_, rfl⟩
  rw [← hHe] at hh ⊢
  unfold wp_X6_sizeFor at hw
  refine lv_lload_n hx hb dX6_sizeFor_0 rfl (lv_at hl 1 rfl) ?_
  refine lv_lconst (v := 0) hx hb dX6_sizeFor_1 (by decide) ?_
  refine lf_lcmp_ne (tgt := 8) hx hb dX6_sizeFor_2 dX6_sizeFor_3 (by decide) (fun c1 => ?_) (fun c1 => ?_)
  · have hw := hw.1 c1
    refine lv_bipush (v := (-6)) hx hb dX6_sizeFor_8 (by decide) ?_
    refine lv_istore_n (lv' := [(3, .int (-6)), (0, .ref (ha 0)), (1, .long x1)]) hx hb dX6_sizeFor_10 rfl hl (by decide) rfl (fun ls hl => ?_)
    refine lv_iconst (v := 0) hx hb dX6_sizeFor_11 (by decide) ?_
    refine lv_istore (lv' := [(4, .int 0), (3, .int (-6)), (0, .ref (ha 0)), (1, .long x1)]) hx hb dX6_sizeFor_12 hl (by decide) rfl (fun ls hl => ?_)
    obtain ⟨n14, hw⟩ := hw
    exact w_X6_sizeFor_14 Post F  n14 x1 (-6) 0 σ _ _ _ hh (lv_sub hl [2, 3, 1, 0] rfl) hw
  · have hw := hw.2 c1
    refine lv_iconst (v := 0) hx hb dX6_sizeFor_6 (by decide) ?_
    exact lf_reti F hh hw dX6_sizeFor_7
def L_X6_usedBars_4 (Post : Int32 → lf_St → Prop) : Nat → Int32 → Int32 → lf_St → Prop
  | 0, _, _, _ => False
  | n + 1, x1, x2, σ => (((lf_gi σ 14) ≤ x2) → (Post x1 σ)) ∧ ((¬ ((lf_gi σ 14) ≤ x2)) → (vp_in x2 6 ∧ ((((lf_al σ 21 x2.toNatClampNeg) = 0) → (∀ v4 : Int32, v4 = (x1 ||| 0) → (∀ v5 : Int32, v5 = x2 + 1 → (L_X6_usedBars_4 Post n v4 v5 σ)))) ∧ ((¬ ((lf_al σ 21 x2.toNatClampNeg) = 0)) → (vp_in x2 6 ∧ (∀ v7 : Int32, v7 = (x1 ||| (1 <<< ((lf_ai σ 19 x2.toNatClampNeg) &&& 31))) → (∀ v8 : Int32, v8 = x2 + 1 → (L_X6_usedBars_4 Post n v7 v8 σ))))))))
def wp_X6_usedBars (σ : lf_St) (Post : Int32 → lf_St → Prop) : Prop := ∃ fu : Nat, L_X6_usedBars_4 Post fu 0 0 σ
def rm_X6_usedBars : Room := ({ frames := 0, cells := 0, slots := 0, locals := 0 } : Room)
set_option maxHeartbeats 4000000 in
set_option maxRecDepth 100000 in
theorem w_X6_usedBars_4 {p : Program} {l : Launch} {e : Env} {s : State} {m : MethodId} {args : Array Value} {below : List Frame} {meth : Method} {c : Code} {D : va_G} {A : Nat → Prop} {ha : Nat → Nat} {cy : Nat → ClassId} (Post : Int32 → lf_St → Prop) (F : lf_C p s m args meth c RX6 cX6_usedBars 3 (some .int) D (tyM_ cy) A) : ∀ (n : Nat) (x1 : Int32) (x2 : Int32) (σ : lf_St) (H : Heap) (locs : List Loc) (ls : Array Slot), lf_H D (wM_ ha cy) A s σ H locs → lv_has ls 3 [(0, .ref (ha 0)), (1, .int x1), (2, .int x2)] → L_X6_usedBars_4 Post n x1 x2 σ → W p l e rm_X6_usedBars s m args below meth c H locs 0 0 (lf_Qi below args s D (tyM_ cy) A (wM_ ha cy) Post) (F0 m 4 ls []) := by
  have hx := F.1.1
  have hb := F.1.2.1
  intro n
  induction n with
  | zero =>
    intro x1 x2 σ H locs ls hh hl hw
    exact False.elim hw
  | succ n ih =>
    intro x1 x2 σ H locs ls hh hl hw
    unfold L_X6_usedBars_4 at hw
    refine lv_iload_n hx hb dX6_usedBars_4 rfl (lv_at hl 2 rfl) ?_
    refine lv_aload_n hx hb dX6_usedBars_5 rfl (lv_at hl 0 rfl) ?_
    refine fg_X6_119 F hh dX6_usedBars_6 ?_
    refine lv_icmp_ge (tgt := 44) hx hb dX6_usedBars_9 (by decide) (fun c1 => ?_) (fun c1 => ?_)
    · have hw := hw.1 c1
      refine lv_iload_n hx hb dX6_usedBars_44 rfl (lv_at hl 1 rfl) ?_
      exact lf_reti F hh hw dX6_usedBars_45
    · have hw := hw.2 c1
      refine lv_iload_n hx hb dX6_usedBars_12 rfl (lv_at hl 1 rfl) ?_
      refine lv_aload_n hx hb dX6_usedBars_13 rfl (lv_at hl 0 rfl) ?_
      refine fg_X6_51 F hh dX6_usedBars_14 ?_
      refine lv_iload_n hx hb dX6_usedBars_17 rfl (lv_at hl 2 rfl) ?_
      obtain ⟨q2, hw⟩ := hw
      refine ra_M_21 F hh q2 dX6_usedBars_18 ?_
      refine lv_lconst (v := 0) hx hb dX6_usedBars_19 (by decide) ?_
      refine lf_lcmp_eq (tgt := 35) hx hb dX6_usedBars_20 dX6_usedBars_21 (by decide) (fun c3 => ?_) (fun c3 => ?_)
      · have hw := hw.1 c3
        refine lv_iconst (v := 0) hx hb dX6_usedBars_35 (by decide) ?_
        refine lv_ior hx hb dX6_usedBars_36 ?_
        refine lv_topi (fun v4 ev4 => ?_)
        have hw := hw v4 ev4
        refine lv_istore_n (lv' := [(1, .int v4), (0, .ref (ha 0)), (2, .int x2)]) hx hb dX6_usedBars_37 rfl hl (by decide) rfl (fun ls hl => ?_)
        obtain ⟨v5, ev5⟩ : ∃ y : Int32, y = x2 + 1 := ⟨_, rfl⟩
        have hw := hw v5 ev5
        refine lv_iinc (v := v5) (lv' := [(2, .int v5), (1, .int v4), (0, .ref (ha 0))]) hx hb dX6_usedBars_38 hl (k := 2) rfl (by rw [ev5]; rfl) (by decide) rfl (fun ls hl => ?_)
        refine lv_goto (tgt := 4) hx hb dX6_usedBars_41 (by decide) ?_
        exact ih v4 v5 σ _ _ _ hh (lv_sub hl [2, 1, 0] rfl) hw
      · have hw := hw.2 c3
        refine lv_iconst (v := 1) hx hb dX6_usedBars_24 (by decide) ?_
        refine lv_aload_n hx hb dX6_usedBars_25 rfl (lv_at hl 0 rfl) ?_
        refine fg_X6_48 F hh dX6_usedBars_26 ?_
        refine lv_iload_n hx hb dX6_usedBars_29 rfl (lv_at hl 2 rfl) ?_
        obtain ⟨q6, hw⟩ := hw
        refine ra_M_19 F hh q6 dX6_usedBars_30 ?_
        refine lv_ishl hx hb dX6_usedBars_31 ?_
        refine lv_goto (tgt := 36) hx hb dX6_usedBars_32 (by decide) ?_
        refine lv_ior hx hb dX6_usedBars_36 ?_
        refine lv_topi (fun v7 ev7 => ?_)
        have hw := hw v7 ev7
        refine lv_istore_n (lv' := [(1, .int v7), (0, .ref (ha 0)), (2, .int x2)]) hx hb dX6_usedBars_37 rfl hl (by decide) rfl (fun ls hl => ?_)
        obtain ⟨v8, ev8⟩ : ∃ y : Int32, y = x2 + 1 := ⟨_, rfl⟩
        have hw := hw v8 ev8
        refine lv_iinc (v := v8) (lv' := [(2, .int v8), (1, .int v7), (0, .ref (ha 0))]) hx hb dX6_usedBars_38 hl (k := 2) rfl (by rw [ev8]; rfl) (by decide) rfl (fun ls hl => ?_)
        refine lv_goto (tgt := 4) hx hb dX6_usedBars_41 (by decide) ?_
        exact ih v7 v8 σ _ _ _ hh (lv_sub hl [2, 1, 0] rfl) hw
set_option maxHeartbeats 4000000 in
set_option maxRecDepth 100000 in
theorem c_X6_usedBars (l : Launch) (D : va_G) (ha : Nat → Nat) (cy : Nat → ClassId) (sz : Nat) (σ : lf_St) (Post : Int32 → lf_St → Prop) (hw : wp_X6_usedBars σ Post) : lf_Mi l yX6_usedBars (lf_ws yX6_usedBars cX6_usedBars 3 (some .int)) rm_X6_usedBars D (tyM_ cy) (wM_ ha cy) sz σ [.ref (ha 0)] Post := by
  refine lf_ofi (by decide +kernel) (Nat.le_of_ble_eq_true rfl) ?_
  intro p e s m args below meth c A ls F hh hl
  have hx := F.1.1
  have hb := F.1.2.1
  have hl : lv_has ls 3 [(0, .ref (ha 0))] := hl
  obtain ⟨H, hHe⟩ : ∃ H, H = s.heap := ⟨_, rfl⟩
  rw [← hHe] at hh ⊢
  unfold wp_X6_usedBars at hw
  refine lv_iconst (v := 0) hx hb dX6_usedBars_0 (by decide) ?_
  refine lv_istore_n (lv' := [(1, .int 0), (0, .ref (ha 0))]) hx hb dX6_usedBars_1 rfl hl (by decide) rfl (fun ls hl => ?_)
  refine lv_iconst (v := 0) hx hb dX6_usedBars_2 (by decide) ?_
  refine lv_istore_n (lv' := [(2, .int 0), (1, .int 0), (0, .ref (ha 0))]) hx hb dX6_usedBars_3 rfl hl (by decide) rfl (fun ls hl => ?_)
  obtain ⟨n4, hw⟩ := hw
  exact w_X6_usedBars_4 Post F  n4 0 0 σ _ _ _ hh (lv_sub hl [2, 1, 0] rfl) hw
def L_X6_usedJoints_4 (Post : Int32 → lf_St → Prop) : Nat → Int32 → Int32 → lf_St → Prop
  | 0, _, _, _ => False
  | n + 1, x1, x2, σ => (((lf_gi σ 14) ≤ x2) → (Post x1 σ)) ∧ ((¬ ((lf_gi σ 14) ≤ x2)) → (vp_in x2 6 ∧ ((((lf_al σ 21 x2.toNatClampNeg) = 0) → (∀ v4 : Int32, v4 = (x1 ||| 0) → (∀ v5 : Int32, v5 = x2 + 1 → (L_X6_usedJoints_4 Post n v4 v5 σ)))) ∧ ((¬ ((lf_al σ 21 x2.toNatClampNeg) = 0)) → (vp_in x2 6 ∧ (vp_in (lf_ai σ 19 x2.toNatClampNeg) 10 ∧ (vp_in x2 6 ∧ (vp_in (lf_ai σ 19 x2.toNatClampNeg) 10 ∧ (∀ v10 : Int32, v10 = (x1 ||| ((1 <<< ((lf_ai σ 7 ((lf_ai σ 19 x2.toNatClampNeg) : Int32).toNatClampNeg) &&& 31)) ||| (1 <<< ((lf_ai σ 8 ((lf_ai σ 19 x2.toNatClampNeg) : Int32).toNatClampNeg) &&& 31)))) → (∀ v11 : Int32, v11 = x2 + 1 → (L_X6_usedJoints_4 Post n v10 v11 σ)))))))))))
def wp_X6_usedJoints (σ : lf_St) (Post : Int32 → lf_St → Prop) : Prop := ∃ fu : Nat, L_X6_usedJoints_4 Post fu 0 0 σ
def rm_X6_usedJoints : Room := ({ frames := 0, cells := 0, slots := 0, locals := 0 } : Room)
set_option maxHeartbeats 4000000 in
set_option maxRecDepth 100000 in
theorem w_X6_usedJoints_4 {p : Program} {l : Launch} {e : Env} {s : State} {m : MethodId} {args : Array Value} {below : List Frame} {meth : Method} {c : Code} {D : va_G} {A : Nat → Prop} {ha : Nat → Nat} {cy : Nat → ClassId} (Post : Int32 → lf_St → Prop) (F : lf_C p s m args meth c RX6 cX6_usedJoints 3 (some .int) D (tyM_ cy) A) : ∀ (n : Nat) (x1 : Int32) (x2 : Int32) (σ : lf_St) (H : Heap) (locs : List Loc) (ls : Array Slot), lf_H D (wM_ ha cy) A s σ H locs → lv_has ls 3 [(0, .ref (ha 0)), (1, .int x1), (2, .int x2)] → L_X6_usedJoints_4 Post n x1 x2 σ → W p l e rm_X6_usedJoints s m args below meth c H locs 0 0 (lf_Qi below args s D (tyM_ cy) A (wM_ ha cy) Post) (F0 m 4 ls []) := by
  have hx := F.1.1
  have hb := F.1.2.1
  intro n
  induction n with
  | zero =>
    intro x1 x2 σ H locs ls hh hl hw
    exact False.elim hw
  | succ n ih =>
    intro x1 x2 σ H locs ls hh hl hw
    unfold L_X6_usedJoints_4 at hw
    refine lv_iload_n hx hb dX6_usedJoints_4 rfl (lv_at hl 2 rfl) ?_
    refine lv_aload_n hx hb dX6_usedJoints_5 rfl (lv_at hl 0 rfl) ?_
    refine fg_X6_119 F hh dX6_usedJoints_6 ?_
    refine lv_icmp_ge (tgt := 63) hx hb dX6_usedJoints_9 (by decide) (fun c1 => ?_) (fun c1 => ?_)
    · have hw := hw.1 c1
      refine lv_iload_n hx hb dX6_usedJoints_63 rfl (lv_at hl 1 rfl) ?_
      exact lf_reti F hh hw dX6_usedJoints_64
    · have hw := hw.2 c1
      refine lv_iload_n hx hb dX6_usedJoints_12 rfl (lv_at hl 1 rfl) ?_
      refine lv_aload_n hx hb dX6_usedJoints_13 rfl (lv_at hl 0 rfl) ?_
      refine fg_X6_51 F hh dX6_usedJoints_14 ?_
      refine lv_iload_n hx hb dX6_usedJoints_17 rfl (lv_at hl 2 rfl) ?_
      obtain ⟨q2, hw⟩ := hw
      refine ra_M_21 F hh q2 dX6_usedJoints_18 ?_
      refine lv_lconst (v := 0) hx hb dX6_usedJoints_19 (by decide) ?_
      refine lf_lcmp_eq (tgt := 54) hx hb dX6_usedJoints_20 dX6_usedJoints_21 (by decide) (fun c3 => ?_) (fun c3 => ?_)
      · have hw := hw.1 c3
        refine lv_iconst (v := 0) hx hb dX6_usedJoints_54 (by decide) ?_
        refine lv_ior hx hb dX6_usedJoints_55 ?_
        refine lv_topi (fun v4 ev4 => ?_)
        have hw := hw v4 ev4
        refine lv_istore_n (lv' := [(1, .int v4), (0, .ref (ha 0)), (2, .int x2)]) hx hb dX6_usedJoints_56 rfl hl (by decide) rfl (fun ls hl => ?_)
        obtain ⟨v5, ev5⟩ : ∃ y : Int32, y = x2 + 1 := ⟨_, rfl⟩
        have hw := hw v5 ev5
        refine lv_iinc (v := v5) (lv' := [(2, .int v5), (1, .int v4), (0, .ref (ha 0))]) hx hb dX6_usedJoints_57 hl (k := 2) rfl (by rw [ev5]; rfl) (by decide) rfl (fun ls hl => ?_)
        refine lv_goto (tgt := 4) hx hb dX6_usedJoints_60 (by decide) ?_
        exact ih v4 v5 σ _ _ _ hh (lv_sub hl [2, 1, 0] rfl) hw
      · have hw := hw.2 c3
        refine lv_iconst (v := 1) hx hb dX6_usedJoints_24 (by decide) ?_
        refine lv_aload_n hx hb dX6_usedJoints_25 rfl (lv_at hl 0 rfl) ?_
        refine fg_X6_26 F hh dX6_usedJoints_26 ?_
        refine lv_aload_n hx hb dX6_usedJoints_29 rfl (lv_at hl 0 rfl) ?_
        refine fg_X6_48 F hh dX6_usedJoints_30 ?_
        refine lv_iload_n hx hb dX6_usedJoints_33 rfl (lv_at hl 2 rfl) ?_
        obtain ⟨q6, hw⟩ := hw
        refine ra_M_19 F hh q6 dX6_usedJoints_34 ?_
        obtain ⟨q7, hw⟩ := hw
        refine ra_M_7 F hh q7 dX6_usedJoints_35 ?_
        refine lv_ishl hx hb dX6_usedJoints_36 ?_
        refine lv_iconst (v := 1) hx hb dX6_usedJoints_37 (by decide) ?_
        refine lv_aload_n hx hb dX6_usedJoints_38 rfl (lv_at hl 0 rfl) ?_
        refine fg_X6_29 F hh dX6_usedJoints_39 ?_
        refine lv_aload_n hx hb dX6_usedJoints_42 rfl (lv_at hl 0 rfl) ?_
        refine fg_X6_48 F hh dX6_usedJoints_43 ?_
        refine lv_iload_n hx hb dX6_usedJoints_46 rfl (lv_at hl 2 rfl) ?_
        obtain ⟨q8, hw⟩ := hw
        refine ra_M_19 F hh q8 dX6_usedJoints_47 ?_
        obtain ⟨q9, hw⟩ := hw
        refine ra_M_8 F hh q9 dX6_usedJoints_48 ?_
        refine lv_ishl hx hb dX6_usedJoints_49 ?_
        refine lv_ior hx hb dX6_usedJoints_50 ?_
        refine lv_goto (tgt := 55) hx hb dX6_usedJoints_51 (by decide) ?_
        refine lv_ior hx hb dX6_usedJoints_55 ?_
        refine lv_topi (fun v10 ev10 => ?_)
        have hw := hw v10 ev10
        refine lv_istore_n (lv' := [(1, .int v10), (0, .ref (ha 0)), (2, .int x2)]) hx hb dX6_usedJoints_56 rfl hl (by decide) rfl (fun ls hl => ?_)
        obtain ⟨v11, ev11⟩ : ∃ y : Int32, y = x2 + 1 := ⟨_, rfl⟩
        have hw := hw v11 ev11
        refine lv_iinc (v := v11) (lv' := [(2, .int v11), (1, .int v10), (0, .ref (ha 0))]) hx hb dX6_usedJoints_57 hl (k := 2) rfl (by rw [ev11]; rfl) (by decide) rfl (fun ls hl => ?_)
        refine lv_goto (tgt := 4) hx hb dX6_usedJoints_60 (by decide) ?_
        exact ih v10 v11 σ _ _ _ hh (lv_sub hl [2, 1, 0] rfl) hw
set_option maxHeartbeats 4000000 in
set_option maxRecDepth 100000 in
theorem c_X6_usedJoints (l : Launch) (D : va_G) (ha : Nat → Nat) (cy : Nat → ClassId) (sz : Nat) (σ : lf_St) (Post : Int32 → lf_St → Prop) (hw : wp_X6_usedJoints σ Post) : lf_Mi l yX6_usedJoints (lf_ws yX6_usedJoints cX6_usedJoints 3 (some .int)) rm_X6_usedJoints D (tyM_ cy) (wM_ ha cy) sz σ [.ref (ha 0)] Post := by
  refine lf_ofi (by decide +kernel) (Nat.le_of_ble_eq_true rfl) ?_
  intro p e s m args below meth c A ls F hh hl
  have hx := F.1.1
  have hb := F.1.2.1
  have hl : lv_has ls 3 [(0, .ref (ha 0))] := hl
  obtain ⟨H, hHe⟩ : ∃ H, H = s.heap := ⟨_, rfl⟩
  rw [← hHe] at hh ⊢
  unfold wp_X6_usedJoints at hw
  refine lv_iconst (v := 0) hx hb dX6_usedJoints_0 (by decide) ?_
  refine lv_istore_n (lv' := [(1, .int 0), (0, .ref (ha 0))]) hx hb dX6_usedJoints_1 rfl hl (by decide) rfl (fun ls hl => ?_)
  refine lv_iconst (v := 0) hx hb dX6_usedJoints_2 (by decide) ?_
  refine lv_istore_n (lv' := [(2, .int 0), (1, .int 0), (0, .ref (ha 0))]) hx hb dX6_usedJoints_3 rfl hl (by decide) rfl (fun ls hl => ?_)
  obtain ⟨n4, hw⟩ := hw
  exact w_X6_usedJoints_4 Post F  n4 0 0 σ _ _ _ hh (lv_sub hl [2, 1, 0] rfl) hw
