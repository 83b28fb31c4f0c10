def L_X6_size_28 (Post : Int32 → lf_St → Prop) : Nat → Int32 → Int32 → lf_St → Prop
  | 0, _, _, _ => False
  | n + 1, x1, x2, σ => (((lf_gi σ 9) ≤ x2) → (vp_in (lf_gi σ 9) 5 ∧ (∀ σ3 : lf_St, σ3 = (lf_sa σ 10 ((lf_gi σ 9) : Int32).toNatClampNeg x1) → (∀ σ4 : lf_St, σ4 = (lf_si (lf_si σ3 9 ((lf_gi σ3 9) + 1)) 12 0) → (Post (lf_gi σ4 9) σ4))))) ∧ ((¬ ((lf_gi σ 9) ≤ x2)) → (vp_in x2 5 ∧ (((¬ (lf_ai σ 10 x2.toNatClampNeg) = x1) → (∀ v7 : Int32, v7 = x2 + 1 → (L_X6_size_28 Post n x1 v7 σ))) ∧ (((lf_ai σ 10 x2.toNatClampNeg) = x1) → (Post (-5) σ)))))
def wp_X6_size (x1 : Int32) (σ : lf_St) (Post : Int32 → lf_St → Prop) : Prop := wp_X6_in (x1.toInt64) 1 200 σ (fun r1 σ1 => ((¬ r1 = 0) → (((¬ (lf_gi σ1 9) = 5) → (∃ fu : Nat, L_X6_size_28 Post fu x1 0 σ1)) ∧ (((lf_gi σ1 9) = 5) → (Post (-4) σ1)))) ∧ ((r1 = 0) → (Post (-2) σ1)))
def rm_X6_size : Room := ({ frames := 1, cells := 0, slots := 0, locals := 25 } : Room)
set_option maxHeartbeats 4000000 in
set_option maxRecDepth 100000 in
theorem w_X6_size_28 {p : Program} {l : Launch} {e : Env} {s : State} {m : MethodId} {args : Array Value} {below : List Frame} {meth : Method} {c : Code} {D : va_G} {A : Nat → Prop} {ha : Nat → Nat} {cy : Nat → ClassId} (Post : Int32 → lf_St → Prop) (F : lf_C p s m args meth c RX6 cX6_size 3 (some .int) D (tyM_ cy) A) : ∀ (n : Nat) (x1 : Int32) (x2 : Int32) (σ : lf_St) (H : Heap) (locs : List Loc) (ls : Array Slot), lf_H D (wM_ ha cy) A s σ H locs → lv_has ls 3 [(0, .ref (ha 0)), (1, .int x1), (2, .int x2)] → L_X6_size_28 Post n x1 x2 σ → W p l e rm_X6_size s m args below meth c H locs 0 0 (lf_Qi below args s D (tyM_ cy) A (wM_ ha cy) Post) (F0 m 28 ls []) := by
  have hx := F.1.1
  have hb := F.1.2.1
  intro n
  induction n with
  | zero =>
    intro x1 x2 σ H locs ls hh hl hw
    exact False.elim hw
  | succ n ih =>
    intro x1 x2 σ H locs ls hh hl hw
    unfold L_X6_size_28 at hw
    refine lv_iload_n hx hb dX6_size_28 rfl (lv_at hl 2 rfl) ?_
    refine lv_aload_n hx hb dX6_size_29 rfl (lv_at hl 0 rfl) ?_
    refine fg_X6_99 F hh dX6_size_30 ?_
    refine lv_icmp_ge (tgt := 55) hx hb dX6_size_33 (by decide) (fun c1 => ?_) (fun c1 => ?_)
    · have hw := hw.1 c1
      refine lv_aload_n hx hb dX6_size_55 rfl (lv_at hl 0 rfl) ?_
      refine fg_X6_32 F hh dX6_size_56 ?_
      refine lv_aload_n hx hb dX6_size_59 rfl (lv_at hl 0 rfl) ?_
      refine fg_X6_99 F hh dX6_size_60 ?_
      refine lv_iload_n hx hb dX6_size_63 rfl (lv_at hl 1 rfl) ?_
      obtain ⟨q2, hw⟩ := hw
      refine wa_M_10 F hh q2 dX6_size_64 (fun H locs hh => ?_)
      refine lv_aload_n hx hb dX6_size_65 rfl (lv_at hl 0 rfl) ?_
      refine lv_dup hx hb dX6_size_66 rfl ?_
      obtain ⟨σ3, eσ3⟩ : ∃ z : lf_St, z = (lf_sa σ 10 ((lf_gi σ 9) : Int32).toNatClampNeg x1) := ⟨_, rfl⟩
      rw [← eσ3] at hh
      have hw := hw σ3 eσ3
      refine fg_X6_99 F hh dX6_size_67 ?_
      refine lv_iconst (v := 1) hx hb dX6_size_70 (by decide) ?_
      refine lv_iadd hx hb dX6_size_71 ?_
      refine fp_X6_99 F hh dX6_size_72 (fun H locs hh => ?_)
      refine lv_aload_n hx hb dX6_size_75 rfl (lv_at hl 0 rfl) ?_
      refine lv_iconst (v := 0) hx hb dX6_size_76 (by decide) ?_
      refine fp_X6_78 F hh rfl dX6_size_77 (fun H locs hh => ?_)
      refine lv_aload_n hx hb dX6_size_80 rfl (lv_at hl 0 rfl) ?_
      obtain ⟨σ4, eσ4⟩ : ∃ z : lf_St, z = (lf_si (lf_si σ3 9 ((lf_gi σ3 9) + 1)) 12 0) := ⟨_, rfl⟩
      rw [← eσ4] at hh
      have hw := hw σ4 eσ4
      refine fg_X6_99 F hh dX6_size_81 ?_
      exact lf_reti F hh hw dX6_size_84
    · have hw := hw.2 c1
      refine lv_aload_n hx hb dX6_size_36 rfl (lv_at hl 0 rfl) ?_
      refine fg_X6_32 F hh dX6_size_37 ?_
      refine lv_iload_n hx hb dX6_size_40 rfl (lv_at hl 2 rfl) ?_
      obtain ⟨q5, hw⟩ := hw
      refine ra_M_10 F hh q5 dX6_size_41 ?_
      refine lv_iload_n hx hb dX6_size_42 rfl (lv_at hl 1 rfl) ?_
      refine lv_icmp_ne (tgt := 49) hx hb dX6_size_43 (by decide) (fun c6 => ?_) (fun c6 => ?_)
      · have hw := hw.1 c6
        obtain ⟨v7, ev7⟩ : ∃ y : Int32, y = x2 + 1 := ⟨_, rfl⟩
        have hw := hw v7 ev7
        refine lv_iinc (v := v7) (lv' := [(2, .int v7), (0, .ref (ha 0)), (1, .int x1)]) hx hb dX6_size_49 hl (k := 2) rfl (by rw [ev7]; rfl) (by decide) rfl (fun ls hl => ?_)
        refine lv_goto (tgt := 28) hx hb dX6_size_52 (by decide) ?_
        exact ih x1 v7 σ _ _ _ hh (lv_sub hl [1, 2, 0] rfl) hw
      · have hw := hw.2 c6
        refine lv_bipush (v := (-5)) hx hb dX6_size_46 (by decide) ?_
        exact lf_reti F hh hw dX6_size_48
set_option maxHeartbeats 4000000 in
set_option maxRecDepth 100000 in
theorem c_X6_size (l : Launch) (D : va_G) (ha : Nat → Nat) (cy : Nat → ClassId) (sz : Nat) (σ : lf_St) (x1 : Int32) (Post : Int32 → lf_St → Prop) (hw : wp_X6_size x1 σ Post) : lf_Mi l yX6_size (lf_ws yX6_size cX6_size 3 (some .int)) rm_X6_size D (tyM_ cy) (wM_ ha cy) sz σ [.ref (ha 0), .int x1] Post := by
  refine lf_ofi (by decide +kernel) (Nat.le_of_ble_eq_true rfl) ?_
  intro p e s m args below meth c A ls F hh hl
  have hx := F.1.1
  have hb := F.1.2.1
  have hl : lv_has ls 3 [(0, .ref (ha 0)), (1, .int x1)] := hl
  obtain ⟨H, hHe⟩ : ∃ H, H = s.heap := ⟨_, rfl⟩
  rw [← hHe] at hh ⊢
  unfold wp_X6_size at hw
  refine lv_iload_n hx hb dX6_size_0 rfl (lv_at hl 1 rfl) ?_
  refine lv_i2l hx hb dX6_size_1 rfl ?_
  refine lv_lconst (v := 1) hx hb dX6_size_2 (by decide) ?_
  refine lv_ldc2 hx hb F.1.2.2.2.1 (F.1.2.2.2.2 _ (lr_11 _ (List.mem_of_getElem? (i := 21) rfl))) dX6_size_3 ?_
  refine lf_callSi (rest := []) F hh (cw_X6_61 F.1.2.2.2.2 ⟨Nat.le_of_ble_eq_true rfl, Nat.le_of_ble_eq_true rfl⟩) (c_X6_in l D ha cy H.size σ (x1.toInt64) 1 200 _ hw) rfl hl.1 (Nat.le_of_ble_eq_true rfl) dX6_size_6 rfl (fun r1 σ1 H locs hw hh => ?_)
  refine lv_if_ne (tgt := 15) hx hb dX6_size_9 (by decide) (fun c2 => ?_) (fun c2 => ?_)
  · have hw := hw.1 c2
    refine lv_aload_n hx hb dX6_size_15 rfl (lv_at hl 0 rfl) ?_
    refine fg_X6_99 F hh dX6_size_16 ?_
    refine lv_iconst (v := 5) hx hb dX6_size_19 (by decide) ?_
    refine lv_icmp_ne (tgt := 26) hx hb dX6_size_20 (by decide) (fun c3 => ?_) (fun c3 => ?_)
    · have hw := hw.1 c3
      refine lv_iconst (v := 0) hx hb dX6_size_26 (by decide) ?_
      refine lv_istore_n (lv' := [(2, .int 0), (0, .ref (ha 0)), (1, .int x1)]) hx hb dX6_size_27 rfl hl (by decide) rfl (fun ls hl => ?_)
      obtain ⟨n28, hw⟩ := hw
      exact w_X6_size_28 Post F  n28 x1 0 σ1 _ _ _ hh (lv_sub hl [1, 2, 0] rfl) hw
    · have hw := hw.2 c3
      refine lv_bipush (v := (-4)) hx hb dX6_size_23 (by decide) ?_
      exact lf_reti F hh hw dX6_size_25
  · have hw := hw.2 c2
    refine lv_bipush (v := (-2)) hx hb dX6_size_12 (by decide) ?_
    exact lf_reti F hh hw dX6_size_14
def wp_X6_price (x1 : Int32) (σ : lf_St) (Post : Int32 → lf_St → Prop) : Prop := wp_X6_in (x1.toInt64) 0 1000 σ (fun r1 σ1 => ((¬ r1 = 0) → (∀ v3 : Int32, v3 = (lf_gi σ1 11) → (Post v3 (lf_si (lf_si σ1 11 x1) 12 0)))) ∧ ((r1 = 0) → (Post (-2) σ1)))
def rm_X6_price : Room := ({ frames := 1, cells := 0, slots := 0, locals := 25 } : Room)
set_option maxHeartbeats 4000000 in
set_option maxRecDepth 100000 in
theorem c_X6_price (l : Launch) (D : va_G) (ha : Nat → Nat) (cy : Nat → ClassId) (sz : Nat) (σ : lf_St) (x1 : Int32) (Post : Int32 → lf_St → Prop) (hw : wp_X6_price x1 σ Post) : lf_Mi l yX6_price (lf_ws yX6_price cX6_price 3 (some .int)) rm_X6_price D (tyM_ cy) (wM_ ha cy) sz σ [.ref (ha 0), .int x1] Post := by
  refine lf_ofi (by decide +kernel) (Nat.le_of_ble_eq_true rfl) ?_
  intro p e s m args below meth c A ls F hh hl
  have hx := F.1.1
  have hb := F.1.2.1
  have hl : lv_has ls 3 [(0, .ref (ha 0)), (1, .int x1)] := hl
  obtain ⟨H, hHe⟩ : ∃ H, H = s.heap := ⟨_, rfl⟩
  rw [← hHe] at hh ⊢
  unfold wp_X6_price at hw
  refine lv_iload_n hx hb dX6_price_0 rfl (lv_at hl 1 rfl) ?_
  refine lv_i2l hx hb dX6_price_1 rfl ?_
  refine lv_lconst (v := 0) hx hb dX6_price_2 (by decide) ?_
  refine lv_ldc2 hx hb F.1.2.2.2.1 (F.1.2.2.2.2 _ (lr_12 _ (List.mem_of_getElem? (i := 8) rfl))) dX6_price_3 ?_
  refine lf_callSi (rest := []) F hh (cw_X6_61 F.1.2.2.2.2 ⟨Nat.le_of_ble_eq_true rfl, Nat.le_of_ble_eq_true rfl⟩) (c_X6_in l D ha cy H.size σ (x1.toInt64) 0 1000 _ hw) rfl hl.1 (Nat.le_of_ble_eq_true rfl) dX6_price_6 rfl (fun r1 σ1 H locs hw hh => ?_)
  refine lv_if_ne (tgt := 15) hx hb dX6_price_9 (by decide) (fun c2 => ?_) (fun c2 => ?_)
  · have hw := hw.1 c2
    refine lv_aload_n hx hb dX6_price_15 rfl (lv_at hl 0 rfl) ?_
    refine fg_X6_104 F hh dX6_price_16 ?_
    refine lv_topi (fun v3 ev3 => ?_)
    have hw := hw v3 ev3
    refine lv_istore_n (lv' := [(2, .int v3), (0, .ref (ha 0)), (1, .int x1)]) hx hb dX6_price_19 rfl hl (by decide) rfl (fun ls hl => ?_)
    refine lv_aload_n hx hb dX6_price_20 rfl (lv_at hl 1 rfl) ?_
    refine lv_iload_n hx hb dX6_price_21 rfl (lv_at hl 2 rfl) ?_
    refine fp_X6_104 F hh dX6_price_22 (fun H locs hh => ?_)
    refine lv_aload_n hx hb dX6_price_25 rfl (lv_at hl 1 rfl) ?_
    refine lv_iconst (v := 0) hx hb dX6_price_26 (by decide) ?_
    refine fp_X6_78 F hh rfl dX6_price_27 (fun H locs hh => ?_)
    refine lv_iload_n hx hb dX6_price_30 rfl (lv_at hl 0 rfl) ?_
    exact lf_reti F hh hw dX6_price_31
  · have hw := hw.2 c2
    refine lv_bipush (v := (-2)) hx hb dX6_price_12 (by decide) ?_
    exact lf_reti F hh hw dX6_price_14
def wp_X6_drop (σ : lf_St) (Post : Int32 → lf_St → Prop) : Prop := ((¬ (lf_gi σ 6) = 0) → (∀ σ2 : lf_St, σ2 = (lf_si (lf_si σ 6 ((lf_gi σ 6) - 1)) 12 0) → (Post (lf_gi σ2 6) σ2))) ∧ (((lf_gi σ 6) = 0) → (Post (-1) σ))
def rm_X6_drop : Room := ({ frames := 0, cells := 0, slots := 0, locals := 0 } : Room)
set_option maxHeartbeats 4000000 in
set_option maxRecDepth 100000 in
theorem c_X6_drop (l : Launch) (D : va_G) (ha : Nat → Nat) (cy : Nat → ClassId) (sz : Nat) (σ : lf_St) (Post : Int32 → lf_St → Prop) (hw : wp_X6_drop σ Post) : lf_Mi l yX6_drop (lf_ws yX6_drop cX6_drop 1 (some .int)) rm_X6_drop D (tyM_ cy) (wM_ ha cy) sz σ [.ref (ha 0)] Post := by
  refine lf_ofi (by decide +kernel) (Nat.le_of_ble_eq_true rfl) ?_
  intro p e s m args below meth c A ls F hh hl
  have hx := F.1.1
  have hb := F.1.2.1
  have hl : lv_has ls 1 [(0, .ref (ha 0))] := hl
  obtain ⟨H, hHe⟩ : ∃ H, H = s.heap := ⟨_, rfl⟩
  rw [← hHe] at hh ⊢
  unfold wp_X6_drop at hw
  refine lv_aload_n hx hb dX6_drop_0 rfl (lv_at hl 0 rfl) ?_
  refine fg_X6_65 F hh dX6_drop_1 ?_
  refine lv_if_ne (tgt := 9) hx hb dX6_drop_4 (by decide) (fun c1 => ?_) (fun c1 => ?_)
  · have hw := hw.1 c1
    refine lv_aload_n hx hb dX6_drop_9 rfl (lv_at hl 0 rfl) ?_
    refine lv_dup hx hb dX6_drop_10 rfl ?_
    refine fg_X6_65 F hh dX6_drop_11 ?_
    refine lv_iconst (v := 1) hx hb dX6_drop_14 (by decide) ?_
    refine lv_isub hx hb dX6_drop_15 ?_
    refine fp_X6_65 F hh dX6_drop_16 (fun H locs hh => ?_)
    refine lv_aload_n hx hb dX6_drop_19 rfl (lv_at hl 0 rfl) ?_
    refine lv_iconst (v := 0) hx hb dX6_drop_20 (by decide) ?_
    refine fp_X6_78 F hh rfl dX6_drop_21 (fun H locs hh => ?_)
    refine lv_aload_n hx hb dX6_drop_24 rfl (lv_at hl 0 rfl) ?_
    obtain ⟨σ2, eσ2⟩ : ∃ z : lf_St, z = (lf_si (lf_si σ 6 ((lf_gi σ 6) - 1)) 12 0) := ⟨_, rfl⟩
    rw [← eσ2] at hh
    have hw := hw σ2 eσ2
    refine fg_X6_65 F hh dX6_drop_25 ?_
    exact lf_reti F hh hw dX6_drop_28
  · have hw := hw.2 c1
    refine lv_iconst (v := (-1)) hx hb dX6_drop_7 (by decide) ?_
    exact lf_reti F hh hw dX6_drop_8
def wp_X6_side (x1 : Int32) (x2 : Int32) (x3 : Int32) (σ : lf_St) (Post : Int32 → lf_St → Prop) : Prop := vp_in x2 6 ∧ (vp_in x1 6 ∧ (vp_in x3 6 ∧ (vp_in x1 6 ∧ (vp_in x2 6 ∧ (vp_in x1 6 ∧ (vp_in x3 6 ∧ (vp_in x1 6 ∧ (∀ v9 : Int32, v9 = ((((lf_ai σ 1 x2.toNatClampNeg) - (lf_ai σ 1 x1.toNatClampNeg)) * ((lf_ai σ 2 x3.toNatClampNeg) - (lf_ai σ 2 x1.toNatClampNeg))) - (((lf_ai σ 2 x2.toNatClampNeg) - (lf_ai σ 2 x1.toNatClampNeg)) * ((lf_ai σ 1 x3.toNatClampNeg) - (lf_ai σ 1 x1.toNatClampNeg)))) → (((0 ≤ v9) → (((v9 ≤ 0) → (Post 0 σ)) ∧ ((¬ (v9 ≤ 0)) → (Post 1 σ)))) ∧ ((¬ (0 ≤ v9)) → (Post (-1) σ)))))))))))
def rm_X6_side : Room := ({ frames := 0, cells := 0, slots := 0, locals := 0 } : Room)
set_option maxHeartbeats 4000000 in
set_option maxRecDepth 100000 in
theorem c_X6_side (l : Launch) (D : va_G) (ha : Nat → Nat) (cy : Nat → ClassId) (sz : Nat) (σ : lf_St) (x1 : Int32) (x2 : Int32) (x3 : Int32) (Post : Int32 → lf_St → Prop) (hw : wp_X6_side x1 x2 x3 σ Post) : lf_Mi l yX6_side (lf_ws yX6_side cX6_side 5 (some .int)) rm_X6_side D (tyM_ cy) (wM_ ha cy) sz σ [.ref (ha 0), .int x1, .int x2, .int x3] Post := by
  refine lf_ofi (by decide +kernel) (Nat.le_of_ble_eq_true rfl) ?_
  intro p e s m args below meth c A ls F hh hl
  have hx := F.1.1
  have hb := F.1.2.1
  have hl : lv_has ls 5 [(0, .ref (ha 0)), (1, .int x1), (2, .int x2), (3, .int x3)] := hl
  obtain ⟨H, hHe⟩ : ∃ H, H = s.heap := ⟨_, rfl⟩
  rw [← hHe] at hh ⊢
  unfold wp_X6_side at hw
  refine lv_aload_n hx hb dX6_side_0 rfl (lv_at hl 0 rfl) ?_
  refine fg_X6_7 F hh dX6_side_1 ?_
  refine lv_iload_n hx hb dX6_side_4 rfl (lv_at hl 2 rfl) ?_
  obtain ⟨q1, hw⟩ := hw
  refine ra_M_1 F hh q1 dX6_side_5 ?_
  refine lv_aload_n hx hb dX6_side_6 rfl (lv_at hl 0 rfl) ?_
  refine fg_X6_7 F hh dX6_side_7 ?_
  refine lv_iload_n hx hb dX6_side_10 rfl (lv_at hl 1 rfl) ?_
  obtain ⟨q2, hw⟩ := hw
  refine ra_M_1 F hh q2 dX6_side_11 ?_
  refine lv_isub hx hb dX6_side_12 ?_
  refine lv_aload_n hx hb dX6_side_13 rfl (lv_at hl 0 rfl) ?_
  refine fg_X6_13 F hh dX6_side_14 ?_
  refine lv_iload_n hx hb dX6_side_17 rfl (lv_at hl 3 rfl) ?_
  obtain ⟨q3, hw⟩ := hw
  refine ra_M_2 F hh q3 dX6_side_18 ?_
  refine lv_aload_n hx hb dX6_side_19 rfl (lv_at hl 0 rfl) ?_
  refine fg_X6_13 F hh dX6_side_20 ?_
  refine lv_iload_n hx hb dX6_side_23 rfl (lv_at hl 1 rfl) ?_
  obtain ⟨q4, hw⟩ := hw
  refine ra_M_2 F hh q4 dX6_side_24 ?_
  refine lv_isub hx hb dX6_side_25 ?_
  refine lv_imul hx hb dX6_side_26 ?_
  refine lv_aload_n hx hb dX6_side_27 rfl (lv_at hl 0 rfl) ?_
  refine fg_X6_13 F hh dX6_side_28 ?_
  refine lv_iload_n hx hb dX6_side_31 rfl (lv_at hl 2 rfl) ?_
  obtain ⟨q5, hw⟩ := hw
  refine ra_M_2 F hh q5 dX6_side_32 ?_
  refine lv_aload_n hx hb dX6_side_33 rfl (lv_at hl 0 rfl) ?_
  refine fg_X6_13 F hh dX6_side_34 ?_
  refine lv_iload_n hx hb dX6_side_37 rfl (lv_at hl 1 rfl) ?_
  obtain ⟨q6, hw⟩ := hw
  refine ra_M_2 F hh q6 dX6_side_38 ?_
  refine lv_isub hx hb dX6_side_39 ?_
  refine lv_aload_n hx hb dX6_side_40 rfl (lv_at hl 0 rfl) ?_
  refine fg_X6_7 F hh dX6_side_41 ?_
  refine lv_iload_n hx hb dX6_side_44 rfl (lv_at hl 3 rfl) ?_
  obtain ⟨q7, hw⟩ := hw
  refine ra_M_1 F hh q7 dX6_side_45 ?_
  refine lv_aload_n hx hb dX6_side_46 rfl (lv_at hl 0 rfl) ?_
  refine fg_X6_7 F hh dX6_side_47 ?_
  refine lv_iload_n hx hb dX6_side_50 rfl (lv_at hl 1 rfl) ?_
  obtain ⟨q8, hw⟩ := hw
  refine ra_M_1 F hh q8 dX6_side_51 ?_
  refine lv_isub hx hb dX6_side_52 ?_
  refine lv_imul hx hb dX6_side_53 ?_
  refine lv_isub hx hb dX6_side_54 ?_
  refine lv_topi (fun v9 ev9 => ?_)
  have hw := hw v9 ev9
  refine lv_istore (lv' := [(4, .int v9), (0, .ref (ha 0)), (1, .int x1), (2, .int x2), (3, .int x3)]) hx hb dX6_side_55 hl (by decide) rfl (fun ls hl => ?_)
  refine lv_iload hx hb dX6_side_57 (lv_at hl 0 rfl) ?_
  refine lv_if_ge (tgt := 66) hx hb dX6_side_59 (by decide) (fun c10 => ?_) (fun c10 => ?_)
  · have hw := hw.1 c10
    refine lv_iload hx hb dX6_side_66 (lv_at hl 0 rfl) ?_
    refine lv_if_le (tgt := 75) hx hb dX6_side_68 (by decide) (fun c11 => ?_) (fun c11 => ?_)
    · have hw := hw.1 c11
      refine lv_iconst (v := 0) hx hb dX6_side_75 (by decide) ?_
      exact lf_reti F hh hw dX6_side_76
    · have hw := hw.2 c11
      refine lv_iconst (v := 1) hx hb dX6_side_71 (by decide) ?_
      refine lv_goto (tgt := 76) hx hb dX6_side_72 (by decide) ?_
      exact lf_reti F hh hw dX6_side_76
  · have hw := hw.2 c10
    refine lv_iconst (v := (-1)) hx hb dX6_side_62 (by decide) ?_
    refine lv_goto (tgt := 76) hx hb dX6_side_63 (by decide) ?_
    exact lf_reti F hh hw dX6_side_76
theorem cw_X6_107 {R : Room} {s : State} {args : Array Value} (ht : ∀ w ∈ wsL_law, w.before args s = true) (hR : rm_X6_side.frames + 1 ≤ R.frames ∧ 8 + (5 + 11) + rm_X6_side.locals ≤ R.locals) : lf_cV R s args RX6 RX6 107 yX6_side cX6_side 5 (some .int) rm_X6_side 3 :=
  lf_cV_of 3 ht (lr_13 _ (List.mem_of_getElem? (i := 17) rfl)) (lr_13 _ (List.mem_of_getElem? (i := 14) rfl)) (lr_13 _ (List.mem_of_getElem? (i := 15) rfl)) (lr_13 _ (List.mem_of_getElem? (i := 16) rfl)) (lr_1 _ (List.mem_of_getElem? (i := 5) rfl)) rfl rfl (by decide +kernel) hR
def wp_X6_isOn (x1 : Int32) (x2 : Int32) (x3 : Int32) (σ : lf_St) (Post : Int32 → lf_St → Prop) : Prop := vp_in x2 6 ∧ (vp_in x1 6 ∧ (vp_in x3 6 ∧ (vp_in x1 6 ∧ (vp_in x2 6 ∧ (vp_in x1 6 ∧ (vp_in x3 6 ∧ (vp_in x1 6 ∧ (∀ v9 : Int32, v9 = ((((lf_ai σ 1 x2.toNatClampNeg) - (lf_ai σ 1 x1.toNatClampNeg)) * ((lf_ai σ 1 x3.toNatClampNeg) - (lf_ai σ 1 x1.toNatClampNeg))) + (((lf_ai σ 2 x2.toNatClampNeg) - (lf_ai σ 2 x1.toNatClampNeg)) * ((lf_ai σ 2 x3.toNatClampNeg) - (lf_ai σ 2 x1.toNatClampNeg)))) → (wp_X6_side x2 x3 x1 σ (fun r10 σ10 => ((¬ r10 = 0) → (Post 0 σ10)) ∧ ((r10 = 0) → (((0 < v9) → (Post 0 σ10)) ∧ ((¬ (0 < v9)) → (Post 1 σ10))))))))))))))
def rm_X6_isOn : Room := ({ frames := 1, cells := 0, slots := 0, locals := 24 } : Room)
set_option maxHeartbeats 4000000 in
set_option maxRecDepth 100000 in
theorem c_X6_isOn (l : Launch) (D : va_G) (ha : Nat → Nat) (cy : Nat → ClassId) (sz : Nat) (σ : lf_St) (x1 : Int32) (x2 : Int32) (x3 : Int32) (Post : Int32 → lf_St → Prop) (hw : wp_X6_isOn x1 x2 x3 σ Post) : lf_Mi l yX6_isOn (lf_ws yX6_isOn cX6_isOn 5 (some .boolean)) rm_X6_isOn D (tyM_ cy) (wM_ ha cy) sz σ [.ref (ha 0), .int x1, .int x2, .int x3] Post := by
  refine lf_ofi (by decide +kernel) (Nat.le_of_ble_eq_true rfl) ?_
  intro p e s m args below meth c A ls F hh hl
  have hx := F.1.1
  have hb := F.1.2.1
  have hl : lv_has ls 5 [(0, .ref (ha 0)), (1, .int x1), (2, .int x2), (3, .int x3)] := hl
  obtain ⟨H, hHe⟩ : ∃ H, H = s.heap := ⟨_, rfl⟩
  rw [← hHe] at hh ⊢
  unfold wp_X6_isOn at hw
  refine lv_aload_n hx hb dX6_isOn_0 rfl (lv_at hl 0 rfl) ?_
  refine fg_X6_7 F hh dX6_isOn_1 ?_
  refine lv_iload_n hx hb dX6_isOn_4 rfl (lv_at hl 2 rfl) ?_
  obtain ⟨q1, hw⟩ := hw
  refine ra_M_1 F hh q1 dX6_isOn_5 ?_
  refine lv_aload_n hx hb dX6_isOn_6 rfl (lv_at hl 0 rfl) ?_
  refine fg_X6_7 F hh dX6_isOn_7 ?_
  refine lv_iload_n hx hb dX6_isOn_10 rfl (lv_at hl 1 rfl) ?_
  obtain ⟨q2, hw⟩ := hw
  refine ra_M_1 F hh q2 dX6_isOn_11 ?_
  refine lv_isub hx hb dX6_isOn_12 ?_
  refine lv_aload_n hx hb dX6_isOn_13 rfl (lv_at hl 0 rfl) ?_
  refine fg_X6_7 F hh dX6_isOn_14 ?_
  refine lv_iload_n hx hb dX6_isOn_17 rfl (lv_at hl 3 rfl) ?_
  obtain ⟨q3, hw⟩ := hw
  refine ra_M_1 F hh q3 dX6_isOn_18 ?_
  refine lv_aload_n hx hb dX6_isOn_19 rfl (lv_at hl 0 rfl) ?_
  refine fg_X6_7 F hh dX6_isOn_20 ?_
  refine lv_iload_n hx hb dX6_isOn_23 rfl (lv_at hl 1 rfl) ?_
  obtain ⟨q4, hw⟩ := hw
  refine ra_M_1 F hh q4 dX6_isOn_24 ?_
  refine lv_isub hx hb dX6_isOn_25 ?_
  refine lv_imul hx hb dX6_isOn_26 ?_
  refine lv_aload_n hx hb dX6_isOn_27 rfl (lv_at hl 0 rfl) ?_
  refine fg_X6_13 F hh dX6_isOn_28 ?_
  refine lv_iload_n hx hb dX6_isOn_31 rfl (lv_at hl 2 rfl) ?_
  obtain ⟨q5, hw⟩ := hw
  refine ra_M_2 F hh q5 dX6_isOn_32 ?_
  refine lv_aload_n hx hb dX6_isOn_33 rfl (lv_at hl 0 rfl) ?_
  refine fg_X6_13 F hh dX6_isOn_34 ?_
  refine lv_iload_n hx hb dX6_isOn_37 rfl (lv_at hl 1 rfl) ?_
  obtain ⟨q6, hw⟩ := hw
  refine ra_M_2 F hh q6 dX6_isOn_38 ?_
  refine lv_isub hx hb dX6_isOn_39 ?_
  refine lv_aload_n hx hb dX6_isOn_40 rfl (lv_at hl 0 rfl) ?_
  refine fg_X6_13 F hh dX6_isOn_41 ?_
  refine lv_iload_n hx hb dX6_isOn_44 rfl (lv_at hl 3 rfl) ?_
  obtain ⟨q7, hw⟩ := hw
  refine ra_M_2 F hh q7 dX6_isOn_45 ?_
  refine lv_aload_n hx hb dX6_isOn_46 rfl (lv_at hl 0 rfl) ?_
  refine fg_X6_13 F hh dX6_isOn_47 ?_
  refine lv_iload_n hx hb dX6_isOn_50 rfl (lv_at hl 1 rfl) ?_
  obtain ⟨q8, hw⟩ := hw
  refine ra_M_2 F hh q8 dX6_isOn_51 ?_
  refine lv_isub hx hb dX6_isOn_52 ?_
  refine lv_imul hx hb dX6_isOn_53 ?_
  refine lv_iadd hx hb dX6_isOn_54 ?_
  refine lv_topi (fun v9 ev9 => ?_)
  have hw := hw v9 ev9
  refine lv_istore (lv' := [(4, .int v9), (0, .ref (ha 0)), (1, .int x1), (2, .int x2), (3, .int x3)]) hx hb dX6_isOn_55 hl (by decide) rfl (fun ls hl => ?_)
  refine lv_aload_n hx hb dX6_isOn_57 rfl (lv_at hl 1 rfl) ?_
  refine lv_iload_n hx hb dX6_isOn_58 rfl (lv_at hl 3 rfl) ?_
  refine lv_iload_n hx hb dX6_isOn_59 rfl (lv_at hl 4 rfl) ?_
  refine lv_iload_n hx hb dX6_isOn_60 rfl (lv_at hl 2 rfl) ?_
  refine lf_callVi (rest := []) F hh (cw_X6_107 F.1.2.2.2.2 ⟨Nat.le_of_ble_eq_true rfl, Nat.le_of_ble_eq_true rfl⟩) (c_X6_side l D ha cy H.size σ x2 x3 x1 _ hw) 0 6 rfl rfl rfl rfl hl.1 (Nat.le_of_ble_eq_true rfl) dX6_isOn_61 rfl (fun r10 σ10 H locs hw hh => ?_)
  refine lv_if_ne (tgt := 76) hx hb dX6_isOn_64 (by decide) (fun c11 => ?_) (fun c11 => ?_)
  · have hw := hw.1 c11
    refine lv_iconst (v := 0) hx hb dX6_isOn_76 (by decide) ?_
    exact lf_retz F hh rfl hw dX6_isOn_77
  · have hw := hw.2 c11
    refine lv_iload hx hb dX6_isOn_67 (lv_at hl 0 rfl) ?_
    refine lv_if_gt (tgt := 76) hx hb dX6_isOn_69 (by decide) (fun c12 => ?_) (fun c12 => ?_)
    · have hw := hw.1 c12
      refine lv_iconst (v := 0) hx hb dX6_isOn_76 (by decide) ?_
      exact lf_retz F hh rfl hw dX6_isOn_77
    · have hw := hw.2 c12
      refine lv_iconst (v := 1) hx hb dX6_isOn_72 (by decide) ?_
      refine lv_goto (tgt := 77) hx hb dX6_isOn_73 (by decide) ?_
      exact lf_retz F hh rfl hw dX6_isOn_77
theorem cw_X6_111 {R : Room} {s : State} {args : Array Value} (ht : ∀ w ∈ wsL_law, w.before args s = true) (hR : rm_X6_isOn.frames + 1 ≤ R.frames ∧ 8 + (5 + 11) + rm_X6_isOn.locals ≤ R.locals) : lf_cV R s args RX6 RX6 111 yX6_isOn cX6_isOn 5 (some .boolean) rm_X6_isOn 3 :=
  lf_cV_of 3 ht (lr_13 _ (List.mem_of_getElem? (i := 13) rfl)) (lr_13 _ (List.mem_of_getElem? (i := 10) rfl)) (lr_13 _ (List.mem_of_getElem? (i := 11) rfl)) (lr_13 _ (List.mem_of_getElem? (i := 12) rfl)) (lr_1 _ (List.mem_of_getElem? (i := 5) rfl)) rfl rfl (by decide +kernel) hR
def J_X6_areCrossed_75 (Post : Int32 → lf_St → Prop) (x3 : Int32) (x4 : Int32) (x5 : Int32) (x6 : Int32) (t0 : Int32) (σ : lf_St) : Prop := ∀ v1 : Int32, v1 = ((x3 + x4) - t0) → (∀ v2 : Int32, v2 = ((x5 + x6) - t0) → (wp_X6_isOn v1 x5 x6 σ (fun r3 σ3 => ((¬ r3 = 0) → (Post 1 σ3)) ∧ ((r3 = 0) → (wp_X6_isOn v2 x3 x4 σ3 (fun r5 σ5 => ((r5 = 0) → (Post 0 σ5)) ∧ ((¬ (r5 = 0)) → (Post 1 σ5))))))))
def J_X6_areCrossed_69 (Post : Int32 → lf_St → Prop) (x3 : Int32) (x4 : Int32) (x5 : Int32) (x6 : Int32) (σ : lf_St) : Prop := J_X6_areCrossed_75 Post x3 x4 x5 x6 x3 σ
def J_X6_areCrossed_57 (Post : Int32 → lf_St → Prop) (x3 : Int32) (x4 : Int32) (x5 : Int32) (x6 : Int32) (σ : lf_St) : Prop := ((x3 = x5) → (J_X6_areCrossed_69 Post x3 x4 x5 x6 σ)) ∧ ((¬ (x3 = x5)) → (((¬ x3 = x6) → (J_X6_areCrossed_75 Post x3 x4 x5 x6 x4 σ)) ∧ ((x3 = x6) → (J_X6_areCrossed_69 Post x3 x4 x5 x6 σ))))
def wp_X6_areCrossed (x1 : Int32) (x2 : Int32) (σ : lf_St) (Post : Int32 → lf_St → Prop) : Prop := vp_in x1 10 ∧ (∀ v2 : Int32, v2 = (lf_ai σ 7 x1.toNatClampNeg) → (vp_in x1 10 ∧ (∀ v4 : Int32, v4 = (lf_ai σ 8 x1.toNatClampNeg) → (vp_in x2 10 ∧ (∀ v6 : Int32, v6 = (lf_ai σ 7 x2.toNatClampNeg) → (vp_in x2 10 ∧ (∀ v8 : Int32, v8 = (lf_ai σ 8 x2.toNatClampNeg) → (((v2 = v6) → (J_X6_areCrossed_57 Post v2 v4 v6 v8 σ)) ∧ ((¬ (v2 = v6)) → (((v2 = v8) → (J_X6_areCrossed_57 Post v2 v4 v6 v8 σ)) ∧ ((¬ (v2 = v8)) → (((v4 = v6) → (J_X6_areCrossed_57 Post v2 v4 v6 v8 σ)) ∧ ((¬ (v4 = v6)) → (((¬ v4 = v8) → (wp_X6_isOn v2 v6 v8 σ (fun r13 σ13 => ((¬ r13 = 0) → (Post 1 σ13)) ∧ ((r13 = 0) → (wp_X6_isOn v4 v6 v8 σ13 (fun r15 σ15 => ((¬ r15 = 0) → (Post 1 σ15)) ∧ ((r15 = 0) → (wp_X6_isOn v6 v2 v4 σ15 (fun r17 σ17 => ((¬ r17 = 0) → (Post 1 σ17)) ∧ ((r17 = 0) → (wp_X6_isOn v8 v2 v4 σ17 (fun r19 σ19 => ((r19 = 0) → (wp_X6_side v2 v4 v6 σ19 (fun r21 σ21 => wp_X6_side v2 v4 v8 σ21 (fun r22 σ22 => ((0 ≤ (r21 * r22)) → (Post 0 σ22)) ∧ ((¬ (0 ≤ (r21 * r22))) → (wp_X6_side v6 v8 v2 σ22 (fun r24 σ24 => wp_X6_side v6 v8 v4 σ24 (fun r25 σ25 => ((0 ≤ (r24 * r25)) → (Post 0 σ25)) ∧ ((¬ (0 ≤ (r24 * r25))) → (Post 1 σ25)))))))))) ∧ ((¬ (r19 = 0)) → (Post 1 σ19)))))))))))))) ∧ ((v4 = v8) → (J_X6_areCrossed_57 Post v2 v4 v6 v8 σ))))))))))))))))
def rm_X6_areCrossed : Room := ({ frames := 2, cells := 0, slots := 0, locals := 48 } : Room)
set_option maxHeartbeats 4000000 in
set_option maxRecDepth 100000 in
theorem w_X6_areCrossed_75 {p : Program} {l : Launch} {e : Env} {s : State} {m : MethodId} {args : Array Value} {below : List Frame} {meth : Method} {c : Code} {D : va_G} {A : Nat → Prop} {ha : Nat → Nat} {cy : Nat → ClassId} (Post : Int32 → lf_St → Prop) (F : lf_C p s m args meth c RX6 cX6_areCrossed 10 (some .boolean) D (tyM_ cy) A) (x3 : Int32) (x4 : Int32) (x5 : Int32) (x6 : Int32) (t0 : Int32) (σ : lf_St) (H : Heap) (locs : List Loc) (ls : Array Slot) (hh : lf_H D (wM_ ha cy) A s σ H locs) (hl : lv_has ls 10 [(0, .ref (ha 0)), (3, .int x3), (4, .int x4), (5, .int x5), (6, .int x6)]) (hw : J_X6_areCrossed_75 Post x3 x4 x5 x6 t0 σ) : W p l e rm_X6_areCrossed s m args below meth c H locs 0 0 (lf_Qi below args s D (tyM_ cy) A (wM_ ha cy) Post) (F0 m 75 ls [.int t0]) := by
  have hx := F.1.1
  have hb := F.1.2.1
  unfold J_X6_areCrossed_75 at hw
  refine lv_istore (lv' := [(7, .int t0), (0, .ref (ha 0)), (3, .int x3), (4, .int x4), (5, .int x5), (6, .int x6)]) hx hb dX6_areCrossed_75 hl (by decide) rfl (fun ls hl => ?_)
  refine lv_iload_n hx hb dX6_areCrossed_77 rfl (lv_at hl 2 rfl) ?_
  refine lv_iload hx hb dX6_areCrossed_78 (lv_at hl 3 rfl) ?_
  refine lv_iadd hx hb dX6_areCrossed_80 ?_
  refine lv_iload hx hb dX6_areCrossed_81 (lv_at hl 0 rfl) ?_
  refine lv_isub hx hb dX6_areCrossed_83 ?_
  refine lv_topi (fun v1 ev1 => ?_)
  have hw := hw v1 ev1
  refine lv_istore (lv' := [(8, .int v1), (7, .int t0), (0, .ref (ha 0)), (3, .int x3), (4, .int x4), (5, .int x5), (6, .int x6)]) hx hb dX6_areCrossed_84 hl (by decide) rfl (fun ls hl => ?_)
  refine lv_iload hx hb dX6_areCrossed_86 (lv_at hl 5 rfl) ?_
  refine lv_iload hx hb dX6_areCrossed_88 (lv_at hl 6 rfl) ?_
  refine lv_iadd hx hb dX6_areCrossed_90 ?_
  refine lv_iload hx hb dX6_areCrossed_91 (lv_at hl 1 rfl) ?_
  refine lv_isub hx hb dX6_areCrossed_93 ?_
  refine lv_topi (fun v2 ev2 => ?_)
  have hw := hw v2 ev2
  refine lv_istore (lv' := [(9, .int v2), (8, .int v1), (7, .int t0), (0, .ref (ha 0)), (3, .int x3), (4, .int x4), (5, .int x5), (6, .int x6)]) hx hb dX6_areCrossed_94 hl (by decide) rfl (fun ls hl => ?_)
  refine lv_aload_n hx hb dX6_areCrossed_96 rfl (lv_at hl 3 rfl) ?_
  refine lv_iload hx hb dX6_areCrossed_97 (lv_at hl 1 rfl) ?_
  refine lv_iload hx hb dX6_areCrossed_99 (lv_at hl 6 rfl) ?_
  refine lv_iload hx hb dX6_areCrossed_101 (lv_at hl 7 rfl) ?_
  refine lf_callVi (rest := []) F hh (cw_X6_111 F.1.2.2.2.2 ⟨Nat.le_of_ble_eq_true rfl, Nat.le_of_ble_eq_true rfl⟩) (c_X6_isOn l D ha cy H.size σ v1 x5 x6 _ hw) 0 6 rfl rfl rfl rfl hl.1 (Nat.le_of_ble_eq_true rfl) dX6_areCrossed_103 rfl (fun r3 σ3 H locs hw hh => ?_)
  refine lv_if_ne (tgt := 121) hx hb dX6_areCrossed_106 (by decide) (fun c4 => ?_) (fun c4 => ?_)
  · have hw := hw.1 c4
    refine lv_iconst (v := 1) hx hb dX6_areCrossed_121 (by decide) ?_
    refine lv_goto (tgt := 126) hx hb dX6_areCrossed_122 (by decide) ?_
    exact lf_retz F hh rfl hw dX6_areCrossed_126
  · have hw := hw.2 c4
    refine lv_aload_n hx hb dX6_areCrossed_109 rfl (lv_at hl 3 rfl) ?_
    refine lv_iload hx hb dX6_areCrossed_110 (lv_at hl 0 rfl) ?_
    refine lv_iload_n hx hb dX6_areCrossed_112 rfl (lv_at hl 4 rfl) ?_
    refine lv_iload hx hb dX6_areCrossed_113 (lv_at hl 5 rfl) ?_
    refine lf_callVi (rest := []) F hh (cw_X6_111 F.1.2.2.2.2 ⟨Nat.le_of_ble_eq_true rfl, Nat.le_of_ble_eq_true rfl⟩) (c_X6_isOn l D ha cy H.size σ3 v2 x3 x4 _ hw) 0 6 rfl rfl rfl rfl hl.1 (Nat.le_of_ble_eq_true rfl) dX6_areCrossed_115 rfl (fun r5 σ5 H locs hw hh => ?_)
    refine lv_if_eq (tgt := 125) hx hb dX6_areCrossed_118 (by decide) (fun c6 => ?_) (fun c6 => ?_)
    · have hw := hw.1 c6
      refine lv_iconst (v := 0) hx hb dX6_areCrossed_125 (by decide) ?_
      exact lf_retz F hh rfl hw dX6_areCrossed_126
    · have hw := hw.2 c6
      refine lv_iconst (v := 1) hx hb dX6_areCrossed_121 (by decide) ?_
      refine lv_goto (tgt := 126) hx hb dX6_areCrossed_122 (by decide) ?_
      exact lf_retz F hh rfl hw dX6_areCrossed_126
set_option maxHeartbeats 4000000 in
set_option maxRecDepth 100000 in
theorem w_X6_areCrossed_69 {p : Program} {l : Launch} {e : Env} {s : State} {m : MethodId} {args : Array Value} {below : List Frame} {meth : Method} {c : Code} {D : va_G} {A : Nat → Prop} {ha : Nat → Nat} {cy : Nat → ClassId} (Post : Int32 → lf_St → Prop) (F : lf_C p s m args meth c RX6 cX6_areCrossed 10 (some .boolean) D (tyM_ cy) A) (x3 : Int32) (x4 : Int32) (x5 : Int32) (x6 : Int32) (σ : lf_St) (H : Heap) (locs : List Loc) (ls : Array Slot) (hh : lf_H D (wM_ ha cy) A s σ H locs) (hl : lv_has ls 10 [(0, .ref (ha 0)), (3, .int x3), (4, .int x4), (5, .int x5), (6, .int x6)]) (hw : J_X6_areCrossed_69 Post x3 x4 x5 x6 σ) : W p l e rm_X6_areCrossed s m args below meth c H locs 0 0 (lf_Qi below args s D (tyM_ cy) A (wM_ ha cy) Post) (F0 m 69 ls []) := by
  have hx := F.1.1
  have hb := F.1.2.1
  unfold J_X6_areCrossed_69 at hw
  refine lv_iload_n hx hb dX6_areCrossed_69 rfl (lv_at hl 1 rfl) ?_
  refine lv_goto (tgt := 75) hx hb dX6_areCrossed_70 (by decide) ?_
  exact w_X6_areCrossed_75 Post F  x3 x4 x5 x6 x3 σ _ _ _ hh (lv_sub hl [0, 1, 2, 3, 4] rfl) hw
set_option maxHeartbeats 4000000 in
set_option maxRecDepth 100000 in
theorem w_X6_areCrossed_57 {p : Program} {l : Launch} {e : Env} {s : State} {m : MethodId} {args : Array Value} {below : List Frame} {meth : Method} {c : Code} {D : va_G} {A : Nat → Prop} {ha : Nat → Nat} {cy : Nat → ClassId} (Post : Int32 → lf_St → Prop) (F : lf_C p s m args meth c RX6 cX6_areCrossed 10 (some .boolean) D (tyM_ cy) A) (x3 : Int32) (x4 : Int32) (x5 : Int32) (x6 : Int32) (σ : lf_St) (H : Heap) (locs : List Loc) (ls : Array Slot) (hh : lf_H D (wM_ ha cy) A s σ H locs) (hl : lv_has ls 10 [(0, .ref (ha 0)), (3, .int x3), (4, .int x4), (5, .int x5), (6, .int x6)]) (hw : J_X6_areCrossed_57 Post x3 x4 x5 x6 σ) : W p l e rm_X6_areCrossed s m args below meth c H locs 0 0 (lf_Qi below args s D (tyM_ cy) A (wM_ ha cy) Post) (F0 m 57 ls []) := by
  have hx := F.1.1
  have hb := F.1.2.1
  unfold J_X6_areCrossed_57 at hw
  refine lv_iload_n hx hb dX6_areCrossed_57 rfl (lv_at hl 1 rfl) ?_
  refine lv_iload hx hb dX6_areCrossed_58 (lv_at hl 3 rfl) ?_
  refine lv_icmp_eq (tgt := 69) hx hb dX6_areCrossed_60 (by decide) (fun c1 => ?_) (fun c1 => ?_)
  · have hw := hw.1 c1
    exact w_X6_areCrossed_69 Post F  x3 x4 x5 x6 σ _ _ _ hh (lv_sub hl [0, 1, 2, 3, 4] rfl) hw
  · have hw := hw.2 c1
    refine lv_iload_n hx hb dX6_areCrossed_63 rfl (lv_at hl 1 rfl) ?_
    refine lv_iload hx hb dX6_areCrossed_64 (lv_at hl 4 rfl) ?_
    refine lv_icmp_ne (tgt := 73) hx hb dX6_areCrossed_66 (by decide) (fun c2 => ?_) (fun c2 => ?_)
    · have hw := hw.1 c2
      refine lv_iload hx hb dX6_areCrossed_73 (lv_at hl 2 rfl) ?_
      exact w_X6_areCrossed_75 Post F  x3 x4 x5 x6 x4 σ _ _ _ hh (lv_sub hl [0, 1, 2, 3, 4] rfl) hw
    · have hw := hw.2 c2
      exact w_X6_areCrossed_69 Post F  x3 x4 x5 x6 σ _ _ _ hh (lv_sub hl [0, 1, 2, 3, 4] rfl) hw
set_option maxHeartbeats 4000000 in
set_option maxRecDepth 100000 in
theorem c_X6_areCrossed (l : Launch) (D : va_G) (ha : Nat → Nat) (cy : Nat → ClassId) (sz : Nat) (σ : lf_St) (x1 : Int32) (x2 : Int32) (Post : Int32 → lf_St → Prop) (hw : wp_X6_areCrossed x1 x2 σ Post) : lf_Mi l yX6_areCrossed (lf_ws yX6_areCrossed cX6_areCrossed 10 (some .boolean)) rm_X6_areCrossed D (tyM_ cy) (wM_ ha cy) sz σ [.ref (ha 0), .int x1, .int x2] Post := by
  refine lf_ofi (by decide +kernel) (Nat.le_of_ble_eq_true rfl) ?_
  intro p e s m args below meth c A ls F hh hl
  have hx := F.1.1
  have hb := F.1.2.1
  have hl : lv_has ls 10 [(0, .ref (ha 0)), (1, .int x1), (2, .int x2)] := hl
  obtain ⟨H, hHe⟩ : ∃ H, H = s.heap := ⟨_, rfl⟩
  rw [← hHe] at hh ⊢
  unfold wp_X6_areCrossed at hw
  refine lv_aload_n hx hb dX6_areCrossed_0 rfl (lv_at hl 0 rfl) ?_
  refine fg_X6_26 F hh dX6_areCrossed_1 ?_
  refine lv_iload_n hx hb dX6_areCrossed_4 rfl (lv_at hl 1 rfl) ?_
  obtain ⟨q1, hw⟩ := hw
  refine ra_M_7 F hh q1 dX6_areCrossed_5 ?_
  refine lv_topi (fun v2 ev2 => ?_)
  have hw := hw v2 ev2
  refine lv_istore_n (lv' := [(3, .int v2), (0, .ref (ha 0)), (1, .int x1), (2, .int x2)]) hx hb dX6_areCrossed_6 rfl hl (by decide) rfl (fun ls hl => ?_)
  refine lv_aload_n hx hb dX6_areCrossed_7 rfl (lv_at hl 1 rfl) ?_
  refine fg_X6_29 F hh dX6_areCrossed_8 ?_
  refine lv_iload_n hx hb dX6_areCrossed_11 rfl (lv_at hl 2 rfl) ?_
  obtain ⟨q3, hw⟩ := hw
  refine ra_M_8 F hh q3 dX6_areCrossed_12 ?_
  refine lv_topi (fun v4 ev4 => ?_)
  have hw := hw v4 ev4
  refine lv_istore (lv' := [(4, .int v4), (3, .int v2), (0, .ref (ha 0)), (1, .int x1), (2, .int x2)]) hx hb dX6_areCrossed_13 hl (by decide) rfl (fun ls hl => ?_)
  refine lv_aload_n hx hb dX6_areCrossed_15 rfl (lv_at hl 2 rfl) ?_
  refine fg_X6_26 F hh dX6_areCrossed_16 ?_
  refine lv_iload_n hx hb dX6_areCrossed_19 rfl (lv_at hl 4 rfl) ?_
  obtain ⟨q5, hw⟩ := hw
  refine ra_M_7 F hh q5 dX6_areCrossed_20 ?_
  refine lv_topi (fun v6 ev6 => ?_)
  have hw := hw v6 ev6
  refine lv_istore (lv' := [(5, .int v6), (4, .int v4), (3, .int v2), (0, .ref (ha 0)), (1, .int x1), (2, .int x2)]) hx hb dX6_areCrossed_21 hl (by decide) rfl (fun ls hl => ?_)
  refine lv_aload_n hx hb dX6_areCrossed_23 rfl (lv_at hl 3 rfl) ?_
  refine fg_X6_29 F hh dX6_areCrossed_24 ?_
  refine lv_iload_n hx hb dX6_areCrossed_27 rfl (lv_at hl 5 rfl) ?_
  obtain ⟨q7, hw⟩ := hw
  refine ra_M_8 F hh q7 dX6_areCrossed_28 ?_
  refine lv_topi (fun v8 ev8 => ?_)
  have hw := hw v8 ev8
  refine lv_istore (lv' := [(6, .int v8), (5, .int v6), (4, .int v4), (3, .int v2), (0, .ref (ha 0)), (1, .int x1), (2, .int x2)]) hx hb dX6_areCrossed_29 hl (by decide) rfl (fun ls hl => ?_)
  refine lv_iload_n hx hb dX6_areCrossed_31 rfl (lv_at hl 3 rfl) ?_
  refine lv_iload hx hb dX6_areCrossed_32 (lv_at hl 1 rfl) ?_
  refine lv_icmp_eq (tgt := 57) hx hb dX6_areCrossed_34 (by decide) (fun c9 => ?_) (fun c9 => ?_)
  · have hw := hw.1 c9
    exact w_X6_areCrossed_57 Post F  v2 v4 v6 v8 σ _ _ _ hh (lv_sub hl [4, 3, 2, 1, 0] rfl) hw
  · have hw := hw.2 c9
    refine lv_iload_n hx hb dX6_areCrossed_37 rfl (lv_at hl 3 rfl) ?_
    refine lv_iload hx hb dX6_areCrossed_38 (lv_at hl 0 rfl) ?_
    refine lv_icmp_eq (tgt := 57) hx hb dX6_areCrossed_40 (by decide) (fun c10 => ?_) (fun c10 => ?_)
    · have hw := hw.1 c10
      exact w_X6_areCrossed_57 Post F  v2 v4 v6 v8 σ _ _ _ hh (lv_sub hl [4, 3, 2, 1, 0] rfl) hw
    · have hw := hw.2 c10
      refine lv_iload hx hb dX6_areCrossed_43 (lv_at hl 2 rfl) ?_
      refine lv_iload hx hb dX6_areCrossed_45 (lv_at hl 1 rfl) ?_
      refine lv_icmp_eq (tgt := 57) hx hb dX6_areCrossed_47 (by decide) (fun c11 => ?_) (fun c11 => ?_)
      · have hw := hw.1 c11
        exact w_X6_areCrossed_57 Post F  v2 v4 v6 v8 σ _ _ _ hh (lv_sub hl [4, 3, 2, 1, 0] rfl) hw
      · have hw := hw.2 c11
        refine lv_iload hx hb dX6_areCrossed_50 (lv_at hl 2 rfl) ?_
        refine lv_iload hx hb dX6_areCrossed_52 (lv_at hl 0 rfl) ?_
        refine lv_icmp_ne (tgt := 127) hx hb dX6_areCrossed_54 (by decide) (fun c12 => ?_) (fun c12 => ?_)
        · have hw := hw.1 c12
          refine lv_aload_n hx hb dX6_areCrossed_127 rfl (lv_at hl 4 rfl) ?_
          refine lv_iload_n hx hb dX6_areCrossed_128 rfl (lv_at hl 3 rfl) ?_
          refine lv_iload hx hb dX6_areCrossed_129 (lv_at hl 1 rfl) ?_
          refine lv_iload hx hb dX6_areCrossed_131 (lv_at hl 0 rfl) ?_
          refine lf_callVi (rest := []) F hh (cw_X6_111 F.1.2.2.2.2 ⟨Nat.le_of_ble_eq_true rfl, Nat.le_of_ble_eq_true rfl⟩) (c_X6_isOn l D ha cy H.size σ v2 v6 v8 _ hw) 0 6 rfl rfl rfl rfl hl.1 (Nat.le_of_ble_eq_true rfl) dX6_areCrossed_133 rfl (fun r13 σ13 H locs hw hh => ?_)
          refine lv_if_ne (tgt := 176) hx hb dX6_areCrossed_136 (by decide) (fun c14 => ?_) (fun c14 => ?_)
          · have hw := hw.1 c14
            refine lv_iconst (v := 1) hx hb dX6_areCrossed_176 (by decide) ?_
            exact lf_retz F hh rfl hw dX6_areCrossed_177
          · have hw := hw.2 c14
            refine lv_aload_n hx hb dX6_areCrossed_139 rfl (lv_at hl 4 rfl) ?_
            refine lv_iload hx hb dX6_areCrossed_140 (lv_at hl 2 rfl) ?_
            refine lv_iload hx hb dX6_areCrossed_142 (lv_at hl 1 rfl) ?_
            refine lv_iload hx hb dX6_areCrossed_144 (lv_at hl 0 rfl) ?_
            refine lf_callVi (rest := []) F hh (cw_X6_111 F.1.2.2.2.2 ⟨Nat.le_of_ble_eq_true rfl, Nat.le_of_ble_eq_true rfl⟩) (c_X6_isOn l D ha cy H.size σ13 v4 v6 v8 _ hw) 0 6 rfl rfl rfl rfl hl.1 (Nat.le_of_ble_eq_true rfl) dX6_areCrossed_146 rfl (fun r15 σ15 H locs hw hh => ?_)
            refine lv_if_ne (tgt := 176) hx hb dX6_areCrossed_149 (by decide) (fun c16 => ?_) (fun c16 => ?_)
            · have hw := hw.1 c16
              refine lv_iconst (v := 1) hx hb dX6_areCrossed_176 (by decide) ?_
              exact lf_retz F hh rfl hw dX6_areCrossed_177
            · have hw := hw.2 c16
              refine lv_aload_n hx hb dX6_areCrossed_152 rfl (lv_at hl 4 rfl) ?_
              refine lv_iload hx hb dX6_areCrossed_153 (lv_at hl 1 rfl) ?_
              refine lv_iload_n hx hb dX6_areCrossed_155 rfl (lv_at hl 3 rfl) ?_
              refine lv_iload hx hb dX6_areCrossed_156 (lv_at hl 2 rfl) ?_
              refine lf_callVi (rest := []) F hh (cw_X6_111 F.1.2.2.2.2 ⟨Nat.le_of_ble_eq_true rfl, Nat.le_of_ble_eq_true rfl⟩) (c_X6_isOn l D ha cy H.size σ15 v6 v2 v4 _ hw) 0 6 rfl rfl rfl rfl hl.1 (Nat.le_of_ble_eq_true rfl) dX6_areCrossed_158 rfl (fun r17 σ17 H locs hw hh => ?_)
              refine lv_if_ne (tgt := 176) hx hb dX6_areCrossed_161 (by decide) (fun c18 => ?_) (fun c18 => ?_)
              · have hw := hw.1 c18
                refine lv_iconst (v := 1) hx hb dX6_areCrossed_176 (by decide) ?_
                exact lf_retz F hh rfl hw dX6_areCrossed_177
              · have hw := hw.2 c18
                refine lv_aload_n hx hb dX6_areCrossed_164 rfl (lv_at hl 4 rfl) ?_
                refine lv_iload hx hb dX6_areCrossed_165 (lv_at hl 0 rfl) ?_
                refine lv_iload_n hx hb dX6_areCrossed_167 rfl (lv_at hl 3 rfl) ?_
                refine lv_iload hx hb dX6_areCrossed_168 (lv_at hl 2 rfl) ?_
                refine lf_callVi (rest := []) F hh (cw_X6_111 F.1.2.2.2.2 ⟨Nat.le_of_ble_eq_true rfl, Nat.le_of_ble_eq_true rfl⟩) (c_X6_isOn l D ha cy H.size σ17 v8 v2 v4 _ hw) 0 6 rfl rfl rfl rfl hl.1 (Nat.le_of_ble_eq_true rfl) dX6_areCrossed_170 rfl (fun r19 σ19 H locs hw hh => ?_)
                refine lv_if_eq (tgt := 178) hx hb dX6_areCrossed_173 (by decide) (fun c20 => ?_) (fun c20 => ?_)
                · have hw := hw.1 c20
                  refine lv_aload_n hx hb dX6_areCrossed_178 rfl (lv_at hl 4 rfl) ?_
                  refine lv_iload_n hx hb dX6_areCrossed_179 rfl (lv_at hl 3 rfl) ?_
                  refine lv_iload hx hb dX6_areCrossed_180 (lv_at hl 2 rfl) ?_
                  refine lv_iload hx hb dX6_areCrossed_182 (lv_at hl 1 rfl) ?_
                  refine lf_callVi (rest := []) F hh (cw_X6_107 F.1.2.2.2.2 ⟨Nat.le_of_ble_eq_true rfl, Nat.le_of_ble_eq_true rfl⟩) (c_X6_side l D ha cy H.size σ19 v2 v4 v6 _ hw) 0 6 rfl rfl rfl rfl hl.1 (Nat.le_of_ble_eq_true rfl) dX6_areCrossed_184 rfl (fun r21 σ21 H locs hw hh => ?_)
                  refine lv_aload_n hx hb dX6_areCrossed_187 rfl (lv_at hl 4 rfl) ?_
                  refine lv_iload_n hx hb dX6_areCrossed_188 rfl (lv_at hl 3 rfl) ?_
                  refine lv_iload hx hb dX6_areCrossed_189 (lv_at hl 2 rfl) ?_
                  refine lv_iload hx hb dX6_areCrossed_191 (lv_at hl 0 rfl) ?_
                  refine lf_callVi (rest := [.int r21]) F hh (cw_X6_107 F.1.2.2.2.2 ⟨Nat.le_of_ble_eq_true rfl, Nat.le_of_ble_eq_true rfl⟩) (c_X6_side l D ha cy H.size σ21 v2 v4 v8 _ hw) 0 6 rfl rfl rfl rfl hl.1 (Nat.le_of_ble_eq_true rfl) dX6_areCrossed_193 rfl (fun r22 σ22 H locs hw hh => ?_)
                  refine lv_imul hx hb dX6_areCrossed_196 ?_
                  refine lv_if_ge (tgt := 227) hx hb dX6_areCrossed_197 (by decide) (fun c23 => ?_) (fun c23 => ?_)
                  · have hw := hw.1 c23
                    refine lv_iconst (v := 0) hx hb dX6_areCrossed_227 (by decide) ?_
                    exact lf_retz F hh rfl hw dX6_areCrossed_228
                  · have hw := hw.2 c23
                    refine lv_aload_n hx hb dX6_areCrossed_200 rfl (lv_at hl 4 rfl) ?_
                    refine lv_iload hx hb dX6_areCrossed_201 (lv_at hl 1 rfl) ?_
                    refine lv_iload hx hb dX6_areCrossed_203 (lv_at hl 0 rfl) ?_
                    refine lv_iload_n hx hb dX6_areCrossed_205 rfl (lv_at hl 3 rfl) ?_
                    refine lf_callVi (rest := []) F hh (cw_X6_107 F.1.2.2.2.2 ⟨Nat.le_of_ble_eq_true rfl, Nat.le_of_ble_eq_true rfl⟩) (c_X6_side l D ha cy H.size σ22 v6 v8 v2 _ hw) 0 6 rfl rfl rfl rfl hl.1 (Nat.le_of_ble_eq_true rfl) dX6_areCrossed_206 rfl (fun r24 σ24 H locs hw hh => ?_)
                    refine lv_aload_n hx hb dX6_areCrossed_209 rfl (lv_at hl 4 rfl) ?_
                    refine lv_iload hx hb dX6_areCrossed_210 (lv_at hl 1 rfl) ?_
                    refine lv_iload hx hb dX6_areCrossed_212 (lv_at hl 0 rfl) ?_
                    refine lv_iload hx hb dX6_areCrossed_214 (lv_at hl 2 rfl) ?_
                    refine lf_callVi (rest := [.int r24]) F hh (cw_X6_107 F.1.2.2.2.2 ⟨Nat.le_of_ble_eq_true rfl, Nat.le_of_ble_eq_true rfl⟩) (c_X6_side l D ha cy H.size σ24 v6 v8 v4 _ hw) 0 6 rfl rfl rfl rfl hl.1 (Nat.le_of_ble_eq_true rfl) dX6_areCrossed_216 rfl (fun r25 σ25 H locs hw hh => ?_)
                    refine lv_imul hx hb dX6_areCrossed_219 ?_
                    refine lv_if_ge (tgt := 227) hx hb dX6_areCrossed_220 (by decide) (fun c26 => ?_) (fun c26 => ?_)
                    · have hw := hw.1 c26
                      refine lv_iconst (v := 0) hx hb dX6_areCrossed_227 (by decide) ?_
                      exact lf_retz F hh rfl hw dX6_areCrossed_228
                    · have hw := hw.2 c26
                      refine lv_iconst (v := 1) hx hb dX6_areCrossed_223 (by decide) ?_
                      refine lv_goto (tgt := 228) hx hb dX6_areCrossed_224 (by decide) ?_
                      exact lf_retz F hh rfl hw dX6_areCrossed_228
                · have hw := hw.2 c20
                  refine lv_iconst (v := 1) hx hb dX6_areCrossed_176 (by decide) ?_
                  exact lf_retz F hh rfl hw dX6_areCrossed_177
        · have hw := hw.2 c12
          exact w_X6_areCrossed_57 Post F  v2 v4 v6 v8 σ _ _ _ hh (lv_sub hl [4, 3, 2, 1, 0] rfl) hw
theorem cw_X6_115 {R : Room} {s : State} {args : Array Value} (ht : ∀ w ∈ wsL_law, w.before args s = true) (hR : rm_X6_areCrossed.frames + 1 ≤ R.frames ∧ 8 + (10 + 11) + rm_X6_areCrossed.locals ≤ R.locals) : lf_cV R s args RX6 RX6 115 yX6_areCrossed cX6_areCrossed 10 (some .boolean) rm_X6_areCrossed 2 :=
  lf_cV_of 2 ht (lr_13 _ (List.mem_of_getElem? (i := 9) rfl)) (lr_13 _ (List.mem_of_getElem? (i := 6) rfl)) (lr_13 _ (List.mem_of_getElem? (i := 7) rfl)) (lr_13 _ (List.mem_of_getElem? (i := 8) rfl)) (lr_1 _ (List.mem_of_getElem? (i := 5) rfl)) rfl rfl (by decide +kernel) hR
def wp_X6_cross (x1 : Int32) (x2 : Int32) (σ : lf_St) (Post : Int32 → lf_St → Prop) : Prop := wp_X6_isBar x1 σ (fun r1 σ1 => ((r1 = 0) → (Post (-1) σ1)) ∧ ((¬ (r1 = 0)) → (wp_X6_isBar x2 σ1 (fun r3 σ3 => ((r3 = 0) → (Post (-1) σ3)) ∧ ((¬ (r3 = 0)) → (((x1 = x2) → (Post (-1) σ3)) ∧ ((¬ (x1 = x2)) → (wp_X6_areCrossed x1 x2 σ3 (fun r6 σ6 => ((r6 = 0) → (Post 0 σ6)) ∧ ((¬ (r6 = 0)) → (Post 1 σ6)))))))))))
def rm_X6_cross : Room := ({ frames := 3, cells := 0, slots := 0, locals := 77 } : Room)
set_option maxHeartbeats 4000000 in
set_option maxRecDepth 100000 in
theorem c_X6_cross (l : Launch) (D : va_G) (ha : Nat → Nat) (cy : Nat → ClassId) (sz : Nat) (σ : lf_St) (x1 : Int32) (x2 : Int32) (Post : Int32 → lf_St → Prop) (hw : wp_X6_cross x1 x2 σ Post) : lf_Mi l yX6_cross (lf_ws yX6_cross cX6_cross 3 (some .int)) rm_X6_cross D (tyM_ cy) (wM_ ha cy) sz σ [.ref (ha 0), .int x1, .int x2] Post := by
  refine lf_ofi (by decide +kernel) (Nat.le_of_ble_eq_true rfl) ?_
  intro p e s m args below meth c A ls F hh hl
  have hx := F.1.1
  have hb := F.1.2.1
  have hl : lv_has ls 3 [(0, .ref (ha 0)), (1, .int x1), (2, .int x2)] := hl
  obtain ⟨H, hHe⟩ : ∃ H, H = s.heap := ⟨_, rfl⟩
  rw [← hHe] at hh ⊢
  unfold wp_X6_cross at hw
  refine lv_aload_n hx hb dX6_cross_0 rfl (lv_at hl 0 rfl) ?_
  refine lv_iload_n hx hb dX6_cross_1 rfl (lv_at hl 1 rfl) ?_
  refine lf_callVi (rest := []) F hh (cw_X6_90 F.1.2.2.2.2 ⟨Nat.le_of_ble_eq_true rfl, Nat.le_of_ble_eq_true rfl⟩) (c_X6_isBar l D ha cy H.size σ x1 _ hw) 0 6 rfl rfl rfl rfl hl.1 (Nat.le_of_ble_eq_true rfl) dX6_cross_2 rfl (fun r1 σ1 H locs hw hh => ?_)
  refine lv_if_eq (tgt := 38) hx hb dX6_cross_5 (by decide) (fun c2 => ?_) (fun c2 => ?_)
  · have hw := hw.1 c2
    refine lv_iconst (v := (-1)) hx hb dX6_cross_38 (by decide) ?_
    exact lf_reti F hh hw dX6_cross_39
  · have hw := hw.2 c2
    refine lv_aload_n hx hb dX6_cross_8 rfl (lv_at hl 0 rfl) ?_
    refine lv_iload_n hx hb dX6_cross_9 rfl (lv_at hl 2 rfl) ?_
    refine lf_callVi (rest := []) F hh (cw_X6_90 F.1.2.2.2.2 ⟨Nat.le_of_ble_eq_true rfl, Nat.le_of_ble_eq_true rfl⟩) (c_X6_isBar l D ha cy H.size σ1 x2 _ hw) 0 6 rfl rfl rfl rfl hl.1 (Nat.le_of_ble_eq_true rfl) dX6_cross_10 rfl (fun r3 σ3 H locs hw hh => ?_)
    refine lv_if_eq (tgt := 38) hx hb dX6_cross_13 (by decide) (fun c4 => ?_) (fun c4 => ?_)
    · have hw := hw.1 c4
      refine lv_iconst (v := (-1)) hx hb dX6_cross_38 (by decide) ?_
      exact lf_reti F hh hw dX6_cross_39
    · have hw := hw.2 c4
      refine lv_iload_n hx hb dX6_cross_16 rfl (lv_at hl 1 rfl) ?_
      refine lv_iload_n hx hb dX6_cross_17 rfl (lv_at hl 2 rfl) ?_
      refine lv_icmp_eq (tgt := 38) hx hb dX6_cross_18 (by decide) (fun c5 => ?_) (fun c5 => ?_)
      · have hw := hw.1 c5
        refine lv_iconst (v := (-1)) hx hb dX6_cross_38 (by decide) ?_
        exact lf_reti F hh hw dX6_cross_39
      · have hw := hw.2 c5
        refine lv_aload_n hx hb dX6_cross_21 rfl (lv_at hl 0 rfl) ?_
        refine lv_iload_n hx hb dX6_cross_22 rfl (lv_at hl 1 rfl) ?_
        refine lv_iload_n hx hb dX6_cross_23 rfl (lv_at hl 2 rfl) ?_
        refine lf_callVi (rest := []) F hh (cw_X6_115 F.1.2.2.2.2 ⟨Nat.le_of_ble_eq_true rfl, Nat.le_of_ble_eq_true rfl⟩) (c_X6_areCrossed l D ha cy H.size σ3 x1 x2 _ hw) 0 6 rfl rfl rfl rfl hl.1 (Nat.le_of_ble_eq_true rfl) dX6_cross_24 rfl (fun r6 σ6 H locs hw hh => ?_)
        refine lv_if_eq (tgt := 34) hx hb dX6_cross_27 (by decide) (fun c7 => ?_) (fun c7 => ?_)
        · have hw := hw.1 c7
          refine lv_iconst (v := 0) hx hb dX6_cross_34 (by decide) ?_
          refine lv_goto (tgt := 39) hx hb dX6_cross_35 (by decide) ?_
          exact lf_reti F hh hw dX6_cross_39
        · have hw := hw.2 c7
          refine lv_iconst (v := 1) hx hb dX6_cross_30 (by decide) ?_
          refine lv_goto (tgt := 39) hx hb dX6_cross_31 (by decide) ?_
          exact lf_reti F hh hw dX6_cross_39
