def wp_X0_uses (k : Nat) (x1 : Int32) (σ : lf_St) (Post : Int32 → lf_St → Prop) : Prop := ((¬ (((lf_gi σ (40 + k)) >>> (x1 &&& 31)) &&& 1) = 1) → (Post 0 σ)) ∧ (((((lf_gi σ (40 + k)) >>> (x1 &&& 31)) &&& 1) = 1) → (Post 1 σ))
def rm_X0_uses : Room := ({ frames := 0, cells := 0, slots := 0, locals := 0 } : Room)
set_option maxHeartbeats 4000000 in
set_option maxRecDepth 100000 in
theorem c_X0_uses (l : Launch) (D : va_G) (ha : Nat → Nat) (cy : Nat → ClassId) (sz : Nat) (σ : lf_St) (k : Nat) (hk : k < 5) (x1 : Int32) (Post : Int32 → lf_St → Prop) (hw : wp_X0_uses k x1 σ Post) : lf_Mi l yX0_uses (lf_ws yX0_uses cX0_uses 2 (some .boolean)) rm_X0_uses D (tyC_ cy) (wC_ ha cy) sz σ [.ref (ha (22 + k)), .int x1] Post := by
  refine lf_ofi (by decide +kernel) (Nat.le_of_ble_eq_true rfl) ?_
  intro p e s m args below meth c A ls F hh hl
  have hx := F.1.1
  have hb := F.1.2.1
  have hl : lv_has ls 2 [(0, .ref (ha (22 + k))), (1, .int x1)] := hl
  obtain ⟨H, hHe⟩ : ∃ H, H = s.heap := ⟨_, rfl⟩
  rw [← hHe] at hh ⊢
  unfold wp_X0_uses at hw
  refine lv_aload_n hx hb dX0_uses_0 rfl (lv_at hl 0 rfl) ?_
  refine fg_X0_19 F hh k hk dX0_uses_1 ?_
  refine lv_iload_n hx hb dX0_uses_4 rfl (lv_at hl 1 rfl) ?_
  refine lv_ishr hx hb dX0_uses_5 ?_
  refine lv_iconst (v := 1) hx hb dX0_uses_6 (by decide) ?_
  refine lv_iand hx hb dX0_uses_7 ?_
  refine lv_iconst (v := 1) hx hb dX0_uses_8 (by decide) ?_
  refine lv_icmp_ne (tgt := 16) hx hb dX0_uses_9 (by decide) (fun c1 => ?_) (fun c1 => ?_)
  · have hw := hw.1 c1
    refine lv_iconst (v := 0) hx hb dX0_uses_16 (by decide) ?_
    exact lf_retz F hh rfl hw dX0_uses_17
  · have hw := hw.2 c1
    refine lv_iconst (v := 1) hx hb dX0_uses_12 (by decide) ?_
    refine lv_goto (tgt := 17) hx hb dX0_uses_13 (by decide) ?_
    exact lf_retz F hh rfl hw dX0_uses_17
def wp_X0_givesWayTo (k : Nat) (x1 : Int64) (x3 : Int64) (σ : lf_St) (Post : Int32 → lf_St → Prop) : Prop := (((lf_gi σ (20 + k)) = 0) → (Post 1 σ)) ∧ ((¬ ((lf_gi σ (20 + k)) = 0)) → (((((lf_gl σ (10 + k)) * x3) ≤ (x1 * (lf_gl σ (20 + k)))) → (Post 0 σ)) ∧ ((¬ (((lf_gl σ (10 + k)) * x3) ≤ (x1 * (lf_gl σ (20 + k))))) → (Post 1 σ))))
def rm_X0_givesWayTo : Room := ({ frames := 0, cells := 0, slots := 0, locals := 0 } : Room)
set_option maxHeartbeats 4000000 in
set_option maxRecDepth 100000 in
theorem c_X0_givesWayTo (l : Launch) (D : va_G) (ha : Nat → Nat) (cy : Nat → ClassId) (sz : Nat) (σ : lf_St) (k : Nat) (hk : k < 5) (x1 : Int64) (x3 : Int64) (Post : Int32 → lf_St → Prop) (hw : wp_X0_givesWayTo k x1 x3 σ Post) : lf_Mi l yX0_givesWayTo (lf_ws yX0_givesWayTo cX0_givesWayTo 5 (some .boolean)) rm_X0_givesWayTo D (tyC_ cy) (wC_ ha cy) sz σ [.ref (ha (22 + k)), .long x1, .long x3] Post := by
  refine lf_ofi (by decide +kernel) (Nat.le_of_ble_eq_true rfl) ?_
  intro p e s m args below meth c A ls F hh hl
  have hx := F.1.1
  have hb := F.1.2.1
  have hl : lv_has ls 5 [(0, .ref (ha (22 + k))), (1, .long x1), (3, .long x3)] := hl
  obtain ⟨H, hHe⟩ : ∃ H, H = s.heap := ⟨_, rfl⟩
  rw [← hHe] at hh ⊢
  unfold wp_X0_givesWayTo at hw
  refine lv_aload_n hx hb dX0_givesWayTo_0 rfl (lv_at hl 0 rfl) ?_
  refine fg_X0_23 F hh k hk dX0_givesWayTo_1 ?_
  refine lv_if_eq (tgt := 23) hx hb dX0_givesWayTo_4 (by decide) (fun c1 => ?_) (fun c1 => ?_)
  · have hw := hw.1 c1
    refine lv_iconst (v := 1) hx hb dX0_givesWayTo_23 (by decide) ?_
    refine lv_goto (tgt := 28) hx hb dX0_givesWayTo_24 (by decide) ?_
    exact lf_retz F hh rfl hw dX0_givesWayTo_28
  · have hw := hw.2 c1
    refine lv_lload_n hx hb dX0_givesWayTo_7 rfl (lv_at hl 1 rfl) ?_
    refine lv_aload_n hx hb dX0_givesWayTo_8 rfl (lv_at hl 0 rfl) ?_
    refine fg_X0_9 F hh k hk dX0_givesWayTo_9 ?_
    refine lv_lmul hx hb dX0_givesWayTo_12 ?_
    refine lv_aload_n hx hb dX0_givesWayTo_13 rfl (lv_at hl 0 rfl) ?_
    refine fg_X0_27 F hh k hk dX0_givesWayTo_14 ?_
    refine lv_lload_n hx hb dX0_givesWayTo_17 rfl (lv_at hl 2 rfl) ?_
    refine lv_lmul hx hb dX0_givesWayTo_18 ?_
    refine lf_lcmp_ge (tgt := 27) hx hb dX0_givesWayTo_19 dX0_givesWayTo_20 (by decide) (fun c2 => ?_) (fun c2 => ?_)
    · have hw := hw.1 c2
      refine lv_iconst (v := 0) hx hb dX0_givesWayTo_27 (by decide) ?_
      exact lf_retz F hh rfl hw dX0_givesWayTo_28
    · have hw := hw.2 c2
      refine lv_iconst (v := 1) hx hb dX0_givesWayTo_23 (by decide) ?_
      refine lv_goto (tgt := 28) hx hb dX0_givesWayTo_24 (by decide) ?_
      exact lf_retz F hh rfl hw dX0_givesWayTo_28
def wp_X0_become (k : Nat) (k1 : Nat) (x2 : Int64) (σ : lf_St) (Post : lf_St → Prop) : Prop := ∀ σ1 : lf_St, σ1 = (lf_si σ (20 + k) 1) → (∀ σ2 : lf_St, σ2 = (lf_si σ1 (30 + k) (lf_gi σ1 (30 + k1))) → (∀ σ3 : lf_St, σ3 = (lf_si σ2 (40 + k) (lf_gi σ2 (40 + k1))) → (∀ σ4 : lf_St, σ4 = (lf_sl (lf_si σ3 (50 + k) (lf_gi σ3 (50 + k1))) (10 + k) x2) → (Post (lf_sB (lf_sl σ4 (20 + k) (lf_gl σ4 (20 + k1))) (27 + k) (va_cpy (lf_al (lf_sl σ4 (20 + k) (lf_gl σ4 (20 + k1))) (27 + k1)) (lf_al (lf_sl σ4 (20 + k) (lf_gl σ4 (20 + k1))) (27 + k)) 0 0 10))))))
def rm_X0_become : Room := ({ frames := 1, cells := 0, slots := 0, locals := 26 } : Room)
set_option maxHeartbeats 4000000 in
set_option maxRecDepth 100000 in
theorem c_X0_become (l : Launch) (D : va_G) (ha : Nat → Nat) (cy : Nat → ClassId) (sz : Nat) (σ : lf_St) (k : Nat) (hk : k < 5) (k1 : Nat) (hk1 : k1 < 5) (x2 : Int64) (Post : lf_St → Prop) (hw : wp_X0_become k k1 x2 σ Post) : lf_Mv l yX0_become (lf_ws yX0_become cX0_become 4 none) rm_X0_become D (tyC_ cy) (wC_ ha cy) sz σ [.ref (ha (22 + k)), .ref (ha (22 + k1)), .long x2] Post := by
  refine lf_ofv (by decide +kernel) (Nat.le_of_ble_eq_true rfl) ?_
  intro p e s m args below meth c A ls F hh hl
  have hx := F.1.1
  have hb := F.1.2.1
  have hl : lv_has ls 4 [(0, .ref (ha (22 + k))), (1, .ref (ha (22 + k1))), (2, .long x2)] := hl
  obtain ⟨H, hHe⟩ : ∃ H, H = s.heap := ⟨_, rfl⟩
  rw [← hHe] at hh ⊢
  unfold wp_X0_become at hw
  refine lv_aload_n hx hb dX0_become_0 rfl (lv_at hl 0 rfl) ?_
  refine lv_iconst (v := 1) hx hb dX0_become_1 (by decide) ?_
  refine fp_X0_23 F hh k hk rfl dX0_become_2 (fun H locs hh => ?_)
  refine lv_aload_n hx hb dX0_become_5 rfl (lv_at hl 0 rfl) ?_
  refine lv_aload_n hx hb dX0_become_6 rfl (lv_at hl 1 rfl) ?_
  obtain ⟨σ1, eσ1⟩ : ∃ z : lf_St, z = (lf_si σ (20 + k) 1) := ⟨_, rfl⟩
  rw [← eσ1] at hh
  have hw := hw σ1 eσ1
  refine fg_X0_30 F hh k1 hk1 dX0_become_7 ?_
  refine fp_X0_30 F hh k hk dX0_become_10 (fun H locs hh => ?_)
  refine lv_aload_n hx hb dX0_become_13 rfl (lv_at hl 0 rfl) ?_
  refine lv_aload_n hx hb dX0_become_14 rfl (lv_at hl 1 rfl) ?_
  obtain ⟨σ2, eσ2⟩ : ∃ z : lf_St, z = (lf_si σ1 (30 + k) (lf_gi σ1 (30 + k1))) := ⟨_, rfl⟩
  rw [← eσ2] at hh
  have hw := hw σ2 eσ2
  refine fg_X0_19 F hh k1 hk1 dX0_become_15 ?_
  refine fp_X0_19 F hh k hk dX0_become_18 (fun H locs hh => ?_)
  refine lv_aload_n hx hb dX0_become_21 rfl (lv_at hl 0 rfl) ?_
  refine lv_aload_n hx hb dX0_become_22 rfl (lv_at hl 1 rfl) ?_
  obtain ⟨σ3, eσ3⟩ : ∃ z : lf_St, z = (lf_si σ2 (40 + k) (lf_gi σ2 (40 + k1))) := ⟨_, rfl⟩
  rw [← eσ3] at hh
  have hw := hw σ3 eσ3
  refine fg_X0_33 F hh k1 hk1 dX0_become_23 ?_
  refine fp_X0_33 F hh k hk dX0_become_26 (fun H locs hh => ?_)
  refine lv_aload_n hx hb dX0_become_29 rfl (lv_at hl 0 rfl) ?_
  refine lv_lload_n hx hb dX0_become_30 rfl (lv_at hl 2 rfl) ?_
  refine fp_X0_27 F hh k hk dX0_become_31 (fun H locs hh => ?_)
  refine lv_aload_n hx hb dX0_become_34 rfl (lv_at hl 0 rfl) ?_
  refine lv_aload_n hx hb dX0_become_35 rfl (lv_at hl 1 rfl) ?_
  obtain ⟨σ4, eσ4⟩ : ∃ z : lf_St, z = (lf_sl (lf_si σ3 (50 + k) (lf_gi σ3 (50 + k1))) (10 + k) x2) := ⟨_, rfl⟩
  rw [← eσ4] at hh
  have hw := hw σ4 eσ4
  refine fg_X0_9 F hh k1 hk1 dX0_become_36 ?_
  refine fp_X0_9 F hh k hk dX0_become_39 (fun H locs hh => ?_)
  refine lv_aload_n hx hb dX0_become_42 rfl (lv_at hl 1 rfl) ?_
  refine fg_X0_15 F hh k1 hk1 dX0_become_43 ?_
  refine lv_iconst (v := 0) hx hb dX0_become_46 (by decide) ?_
  refine lv_aload_n hx hb dX0_become_47 rfl (lv_at hl 0 rfl) ?_
  refine fg_X0_15 F hh k hk dX0_become_48 ?_
  refine lv_iconst (v := 0) hx hb dX0_become_51 (by decide) ?_
  refine lv_bipush (v := 10) hx hb dX0_become_52 (by decide) ?_
  refine ms_X0_36 (rest := []) F hh hl.1 k hk k1 hk1 (Nat.le_of_ble_eq_true rfl) (Nat.le_of_ble_eq_true rfl) dX0_become_54 (fun H locs hh => ?_)
  exact lf_retv F hh hw dX0_become_57
def L_X1_clearTable_12 (K_2 : Int32 → lf_St → Prop) (Post : lf_St → Prop) : Nat → Int32 → Int32 → lf_St → Prop
  | 0, _, _, _ => False
  | n + 1, x1, x2, σ => (((2 * (lf_gi σ 7)) ≤ x2) → (∀ v2 : Int32, v2 = x1 + 1 → (K_2 v2 σ))) ∧ ((¬ ((2 * (lf_gi σ 7)) ≤ x2)) → (vp_in x1 6 ∧ (((¬ x2 = ((lf_gi σ 7) + x1)) → (vp_in x2 12 ∧ (∀ v6 : Int32, v6 = x2 + 1 → (L_X1_clearTable_12 K_2 Post n x1 v6 (lf_sb σ (32 + x1.toNatClampNeg) x2.toNatClampNeg 0))))) ∧ ((x2 = ((lf_gi σ 7) + x1)) → (vp_in x2 12 ∧ (∀ v8 : Int32, v8 = x2 + 1 → (L_X1_clearTable_12 K_2 Post n x1 v8 (lf_sb σ (32 + x1.toNatClampNeg) x2.toNatClampNeg 1))))))))
def L_X1_clearTable_2 (Post : lf_St → Prop) : Nat → Int32 → lf_St → Prop
  | 0, _, _ => False
  | n + 1, x1, σ => (((lf_gi σ 7) ≤ x1) → (Post σ)) ∧ ((¬ ((lf_gi σ 7) ≤ x1)) → (∃ fu : Nat, L_X1_clearTable_12 (L_X1_clearTable_2 Post n) Post fu x1 0 σ))
def wp_X1_clearTable (σ : lf_St) (Post : lf_St → Prop) : Prop := ∃ fu : Nat, L_X1_clearTable_2 Post fu 0 σ
def rm_X1_clearTable : Room := ({ frames := 0, cells := 0, slots := 0, locals := 0 } : Room)
set_option maxHeartbeats 4000000 in
set_option maxRecDepth 100000 in
theorem w_X1_clearTable_12 {p : Program} {l : Launch} {e : Env} {s : State} {m : MethodId} {args : Array Value} {below : List Frame} {meth : Method} {c : Code} {D : va_G} {A : Nat → Prop} {ha : Nat → Nat} {cy : Nat → ClassId} (K_2 : Int32 → lf_St → Prop) (Post : lf_St → Prop) (F : lf_C p s m args meth c RX1 cX1_clearTable 3 none D (tyC_ cy) A) (hK_2 : ∀ (x1 : Int32) (σ : lf_St) (H : Heap) (locs : List Loc) (ls : Array Slot), lf_H D (wC_ ha cy) A s σ H locs → lv_has ls 3 [(0, .ref (ha 16)), (1, .int x1)] → K_2 x1 σ → W p l e rm_X1_clearTable s m args below meth c H locs 0 0 (lf_Qv below args s D (tyC_ cy) A (wC_ ha cy) Post) (F0 m 2 ls [])) : ∀ (n : Nat) (x1 : Int32) (x2 : Int32) (σ : lf_St) (H : Heap) (locs : List Loc) (ls : Array Slot), lf_H D (wC_ ha cy) A s σ H locs → lv_has ls 3 [(0, .ref (ha 16)), (1, .int x1), (2, .int x2)] → L_X1_clearTable_12 K_2 Post n x1 x2 σ → W p l e rm_X1_clearTable s m args below meth c H locs 0 0 (lf_Qv below args s D (tyC_ cy) A (wC_ ha cy) Post) (F0 m 12 ls []) := by
  have hx := F.1.1
  have hb := F.1.2.1
  intro n
  induction n with
  | zero =>
    intro x1 x2 σ H locs ls hh hl hw
    exact False.elim hw
  | succ n ih =>
    intro x1 x2 σ H locs ls hh hl hw
    unfold L_X1_clearTable_12 at hw
    refine lv_iload_n hx hb dX1_clearTable_12 rfl (lv_at hl 2 rfl) ?_
    refine lv_iconst (v := 2) hx hb dX1_clearTable_13 (by decide) ?_
    refine lv_aload_n hx hb dX1_clearTable_14 rfl (lv_at hl 0 rfl) ?_
    refine fg_X1_34 F hh dX1_clearTable_15 ?_
    refine lv_imul hx hb dX1_clearTable_18 ?_
    refine lv_icmp_ge (tgt := 51) hx hb dX1_clearTable_19 (by decide) (fun c1 => ?_) (fun c1 => ?_)
    · have hw := hw.1 c1
      obtain ⟨v2, ev2⟩ : ∃ y : Int32, y = x1 + 1 := ⟨_, rfl⟩
      have hw := hw v2 ev2
      refine lv_iinc (v := v2) (lv' := [(1, .int v2), (0, .ref (ha 16)), (2, .int x2)]) hx hb dX1_clearTable_51 hl (k := 1) rfl (by rw [ev2]; rfl) (by decide) rfl (fun ls hl => ?_)
      refine lv_goto (tgt := 2) hx hb dX1_clearTable_54 (by decide) ?_
      exact hK_2 v2 σ _ _ _ hh (lv_sub hl [1, 0] rfl) hw
    · have hw := hw.2 c1
      refine lv_aload_n hx hb dX1_clearTable_22 rfl (lv_at hl 0 rfl) ?_
      refine fg_X1_11 F hh dX1_clearTable_23 ?_
      refine lv_iload_n hx hb dX1_clearTable_26 rfl (lv_at hl 1 rfl) ?_
      obtain ⟨q3, hw⟩ := hw
      refine ra_C_table F hh q3 dX1_clearTable_27 ?_
      refine lv_iload_n hx hb dX1_clearTable_28 rfl (lv_at hl 2 rfl) ?_
      refine lv_iload_n hx hb dX1_clearTable_29 rfl (lv_at hl 2 rfl) ?_
      refine lv_aload_n hx hb dX1_clearTable_30 rfl (lv_at hl 0 rfl) ?_
      refine fg_X1_34 F hh dX1_clearTable_31 ?_
      refine lv_iload_n hx hb dX1_clearTable_34 rfl (lv_at hl 1 rfl) ?_
      refine lv_iadd hx hb dX1_clearTable_35 ?_
      refine lv_icmp_ne (tgt := 43) hx hb dX1_clearTable_36 (by decide) (fun c4 => ?_) (fun c4 => ?_)
      · have hw := hw.1 c4
        refine lv_lconst (v := 0) hx hb dX1_clearTable_43 (by decide) ?_
        obtain ⟨q5, hw⟩ := hw
        refine wa_C_row F hh (x1.toNatClampNeg) (lf_in6 q3) q5 dX1_clearTable_44 (fun H locs hh => ?_)
        obtain ⟨v6, ev6⟩ : ∃ y : Int32, y = x2 + 1 := ⟨_, rfl⟩
        have hw := hw v6 ev6
        refine lv_iinc (v := v6) (lv' := [(2, .int v6), (0, .ref (ha 16)), (1, .int x1)]) hx hb dX1_clearTable_45 hl (k := 2) rfl (by rw [ev6]; rfl) (by decide) rfl (fun ls hl => ?_)
        refine lv_goto (tgt := 12) hx hb dX1_clearTable_48 (by decide) ?_
        exact ih x1 v6 (lf_sb σ (32 + x1.toNatClampNeg) x2.toNatClampNeg 0) _ _ _ hh (lv_sub hl [1, 2, 0] rfl) hw
      · have hw := hw.2 c4
        refine lv_lconst (v := 1) hx hb dX1_clearTable_39 (by decide) ?_
        refine lv_goto (tgt := 44) hx hb dX1_clearTable_40 (by decide) ?_
        obtain ⟨q7, hw⟩ := hw
        refine wa_C_row F hh (x1.toNatClampNeg) (lf_in6 q3) q7 dX1_clearTable_44 (fun H locs hh => ?_)
        obtain ⟨v8, ev8⟩ : ∃ y : Int32, y = x2 + 1 := ⟨_, rfl⟩
        have hw := hw v8 ev8
        refine lv_iinc (v := v8) (lv' := [(2, .int v8), (0, .ref (ha 16)), (1, .int x1)]) hx hb dX1_clearTable_45 hl (k := 2) rfl (by rw [ev8]; rfl) (by decide) rfl (fun ls hl => ?_)
        refine lv_goto (tgt := 12) hx hb dX1_clearTable_48 (by decide) ?_
        exact ih x1 v8 (lf_sb σ (32 + x1.toNatClampNeg) x2.toNatClampNeg 1) _ _ _ hh (lv_sub hl [1, 2, 0] rfl) hw
set_option maxHeartbeats 4000000 in
set_option maxRecDepth 100000 in
theorem w_X1_clearTable_2 {p : Program} {l : Launch} {e : Env} {s : State} {m : MethodId} {args : Array Value} {below : List Frame} {meth : Method} {c : Code} {D : va_G} {A : Nat → Prop} {ha : Nat → Nat} {cy : Nat → ClassId} (Post : lf_St → Prop) (F : lf_C p s m args meth c RX1 cX1_clearTable 3 none D (tyC_ cy) A) : ∀ (n : Nat) (x1 : Int32) (σ : lf_St) (H : Heap) (locs : List Loc) (ls : Array Slot), lf_H D (wC_ ha cy) A s σ H locs → lv_has ls 3 [(0, .ref (ha 16)), (1, .int x1)] → L_X1_clearTable_2 Post n x1 σ → W p l e rm_X1_clearTable s m args below meth c H locs 0 0 (lf_Qv below args s D (tyC_ cy) A (wC_ ha cy) Post) (F0 m 2 ls []) := by
  have hx := F.1.1
  have hb := F.1.2.1
  intro n
  induction n with
  | zero =>
    intro x1 σ H locs ls hh hl hw
    exact False.elim hw
  | succ n ih =>
    intro x1 σ H locs ls hh hl hw
    unfold L_X1_clearTable_2 at hw
    refine lv_iload_n hx hb dX1_clearTable_2 rfl (lv_at hl 1 rfl) ?_
    refine lv_aload_n hx hb dX1_clearTable_3 rfl (lv_at hl 0 rfl) ?_
    refine fg_X1_34 F hh dX1_clearTable_4 ?_
    refine lv_icmp_ge (tgt := 57) hx hb dX1_clearTable_7 (by decide) (fun c1 => ?_) (fun c1 => ?_)
    · have hw := hw.1 c1
      exact lf_retv F hh hw dX1_clearTable_57
    · have hw := hw.2 c1
      refine lv_iconst (v := 0) hx hb dX1_clearTable_10 (by decide) ?_
      refine lv_istore_n (lv' := [(2, .int 0), (0, .ref (ha 16)), (1, .int x1)]) hx hb dX1_clearTable_11 rfl hl (by decide) rfl (fun ls hl => ?_)
      obtain ⟨n12, hw⟩ := hw
      exact w_X1_clearTable_12 _ Post F ih n12 x1 0 σ _ _ _ hh (lv_sub hl [1, 2, 0] rfl) hw
set_option maxHeartbeats 4000000 in
set_option maxRecDepth 100000 in
theorem c_X1_clearTable (l : Launch) (D : va_G) (ha : Nat → Nat) (cy : Nat → ClassId) (sz : Nat) (σ : lf_St) (Post : lf_St → Prop) (hw : wp_X1_clearTable σ Post) : lf_Mv l yX1_clearTable (lf_ws yX1_clearTable cX1_clearTable 3 none) rm_X1_clearTable D (tyC_ cy) (wC_ ha cy) sz σ [.ref (ha 16)] Post := by
  refine lf_ofv (by decide +kernel) (Nat.le_of_ble_eq_true rfl) ?_
  intro p e s m args below meth c A ls F hh hl
  have hx := F.1.1
  have hb := F.1.2.1
  have hl : lv_has ls 3 [(0, .ref (ha 16))] := hl
  obtain ⟨H, hHe⟩ : ∃ H, H = s.heap := ⟨_, rfl⟩
  rw [← hHe] at hh ⊢
  unfold wp_X1_clearTable at hw
  refine lv_iconst (v := 0) hx hb dX1_clearTable_0 (by decide) ?_
  refine lv_istore_n (lv' := [(1, .int 0), (0, .ref (ha 16))]) hx hb dX1_clearTable_1 rfl hl (by decide) rfl (fun ls hl => ?_)
  obtain ⟨n2, hw⟩ := hw
  exact w_X1_clearTable_2 Post F  n2 0 σ _ _ _ hh (lv_sub hl [1, 0] rfl) hw
def J_X1_fillColumn_68 (Post : lf_St → Prop) (x1 : Int32) (x2 : Int32) (σ : lf_St) : Prop := vp_in x2 10 ∧ (vp_in (lf_ai σ 7 x2.toNatClampNeg) 6 ∧ (∀ v3 : Int32, v3 = (lf_ai σ 4 ((lf_ai σ 7 x2.toNatClampNeg) : Int32).toNatClampNeg) → (((v3 = (-1)) → (Post σ)) ∧ ((¬ (v3 = (-1))) → (vp_in v3 6 ∧ (vp_in x2 10 ∧ (vp_in x1 12 ∧ (vp_in (v3 + 1) 6 ∧ (∀ σ9 : lf_St, σ9 = (lf_sb σ (32 + v3.toNatClampNeg) x1.toNatClampNeg (((-(lf_ai σ 8 x2.toNatClampNeg)) : Int32).toInt64)) → vp_in x2 10 ∧ (vp_in x1 12 ∧ (Post (lf_sb σ9 (32 + ((v3 + 1) : Int32).toNatClampNeg) x1.toNatClampNeg (((-(lf_ai σ9 9 x2.toNatClampNeg)) : Int32).toInt64)))))))))))))
def wp_X1_fillColumn (x1 : Int32) (σ : lf_St) (Post : lf_St → Prop) : Prop := vp_in x1 6 ∧ (∀ v2 : Int32, v2 = (lf_ai σ 17 x1.toNatClampNeg) → (vp_in v2 10 ∧ (vp_in (lf_ai σ 6 v2.toNatClampNeg) 6 ∧ (∀ v5 : Int32, v5 = (lf_ai σ 4 ((lf_ai σ 6 v2.toNatClampNeg) : Int32).toNatClampNeg) → (((v5 = (-1)) → (J_X1_fillColumn_68 Post x1 v2 σ)) ∧ ((¬ (v5 = (-1))) → (vp_in v5 6 ∧ (vp_in v2 10 ∧ (vp_in x1 12 ∧ (vp_in (v5 + 1) 6 ∧ (∀ σ11 : lf_St, σ11 = (lf_sb σ (32 + v5.toNatClampNeg) x1.toNatClampNeg (((lf_ai σ 8 v2.toNatClampNeg) : Int32).toInt64)) → vp_in v2 10 ∧ (vp_in x1 12 ∧ (J_X1_fillColumn_68 Post x1 v2 (lf_sb σ11 (32 + ((v5 + 1) : Int32).toNatClampNeg) x1.toNatClampNeg (((lf_ai σ11 9 v2.toNatClampNeg) : Int32).toInt64)))))))))))))))
def rm_X1_fillColumn : Room := ({ frames := 0, cells := 0, slots := 0, locals := 0 } : Room)
set_option maxHeartbeats 4000000 in
set_option maxRecDepth 100000 in
theorem w_X1_fillColumn_68 {p : Program} {l : Launch} {e : Env} {s : State} {m : MethodId} {args : Array Value} {below : List Frame} {meth : Method} {c : Code} {D : va_G} {A : Nat → Prop} {ha : Nat → Nat} {cy : Nat → ClassId} (Post : lf_St → Prop) (F : lf_C p s m args meth c RX1 cX1_fillColumn 5 none D (tyC_ cy) A) (x1 : Int32) (x2 : Int32) (σ : lf_St) (H : Heap) (locs : List Loc) (ls : Array Slot) (hh : lf_H D (wC_ ha cy) A s σ H locs) (hl : lv_has ls 5 [(0, .ref (ha 16)), (1, .int x1), (2, .int x2)]) (hw : J_X1_fillColumn_68 Post x1 x2 σ) : W p l e rm_X1_fillColumn s m args below meth c H locs 0 0 (lf_Qv below args s D (tyC_ cy) A (wC_ ha cy) Post) (F0 m 68 ls []) := by
  have hx := F.1.1
  have hb := F.1.2.1
  unfold J_X1_fillColumn_68 at hw
  refine lv_aload_n hx hb dX1_fillColumn_68 rfl (lv_at hl 0 rfl) ?_
  refine fg_X1_24 F hh dX1_fillColumn_69 ?_
  refine fg_X1_50 F hh dX1_fillColumn_72 ?_
  refine lv_aload_n hx hb dX1_fillColumn_75 rfl (lv_at hl 0 rfl) ?_
  refine fg_X1_24 F hh dX1_fillColumn_76 ?_
  refine fg_X1_62 F hh dX1_fillColumn_79 ?_
  refine lv_iload_n hx hb dX1_fillColumn_82 rfl (lv_at hl 2 rfl) ?_
  obtain ⟨q1, hw⟩ := hw
  refine ra_C_7 F hh q1 dX1_fillColumn_83 ?_
  obtain ⟨q2, hw⟩ := hw
  refine ra_C_4 F hh q2 dX1_fillColumn_84 ?_
  refine lv_topi (fun v3 ev3 => ?_)
  have hw := hw v3 ev3
  refine lv_istore (lv' := [(4, .int v3), (0, .ref (ha 16)), (1, .int x1), (2, .int x2)]) hx hb dX1_fillColumn_85 hl (by decide) rfl (fun ls hl => ?_)
  refine lv_iload hx hb dX1_fillColumn_87 (lv_at hl 0 rfl) ?_
  refine lv_iconst (v := (-1)) hx hb dX1_fillColumn_89 (by decide) ?_
  refine lv_icmp_eq (tgt := 135) hx hb dX1_fillColumn_90 (by decide) (fun c4 => ?_) (fun c4 => ?_)
  · have hw := hw.1 c4
    exact lf_retv F hh hw dX1_fillColumn_135
  · have hw := hw.2 c4
    refine lv_aload_n hx hb dX1_fillColumn_93 rfl (lv_at hl 1 rfl) ?_
    refine fg_X1_11 F hh dX1_fillColumn_94 ?_
    refine lv_iload hx hb dX1_fillColumn_97 (lv_at hl 0 rfl) ?_
    obtain ⟨q5, hw⟩ := hw
    refine ra_C_table F hh q5 dX1_fillColumn_99 ?_
    refine lv_iload_n hx hb dX1_fillColumn_100 rfl (lv_at hl 2 rfl) ?_
    refine lv_aload_n hx hb dX1_fillColumn_101 rfl (lv_at hl 1 rfl) ?_
    refine fg_X1_24 F hh dX1_fillColumn_102 ?_
    refine fg_X1_56 F hh dX1_fillColumn_105 ?_
    refine lv_iload_n hx hb dX1_fillColumn_108 rfl (lv_at hl 3 rfl) ?_
    obtain ⟨q6, hw⟩ := hw
    refine ra_C_8 F hh q6 dX1_fillColumn_109 ?_
    refine lv_ineg hx hb dX1_fillColumn_110 ?_
    refine lv_i2l hx hb dX1_fillColumn_111 rfl ?_
    obtain ⟨q7, hw⟩ := hw
    refine wa_C_row F hh (v3.toNatClampNeg) (lf_in6 q5) q7 dX1_fillColumn_112 (fun H locs hh => ?_)
    refine lv_aload_n hx hb dX1_fillColumn_113 rfl (lv_at hl 1 rfl) ?_
    refine fg_X1_11 F hh dX1_fillColumn_114 ?_
    refine lv_iload hx hb dX1_fillColumn_117 (lv_at hl 0 rfl) ?_
    refine lv_iconst (v := 1) hx hb dX1_fillColumn_119 (by decide) ?_
    refine lv_iadd hx hb dX1_fillColumn_120 ?_
    obtain ⟨q8, hw⟩ := hw
    refine ra_C_table F hh q8 dX1_fillColumn_121 ?_
    refine lv_iload_n hx hb dX1_fillColumn_122 rfl (lv_at hl 2 rfl) ?_
    refine lv_aload_n hx hb dX1_fillColumn_123 rfl (lv_at hl 1 rfl) ?_
    refine fg_X1_24 F hh dX1_fillColumn_124 ?_
    refine fg_X1_59 F hh dX1_fillColumn_127 ?_
    refine lv_iload_n hx hb dX1_fillColumn_130 rfl (lv_at hl 3 rfl) ?_
    obtain ⟨σ9, eσ9⟩ : ∃ z : lf_St, z = (lf_sb σ (32 + v3.toNatClampNeg) x1.toNatClampNeg (((-(lf_ai σ 8 x2.toNatClampNeg)) : Int32).toInt64)) := ⟨_, rfl⟩
    rw [← eσ9] at hh
    have hw := hw σ9 eσ9
    obtain ⟨q10, hw⟩ := hw
    refine ra_C_9 F hh q10 dX1_fillColumn_131 ?_
    refine lv_ineg hx hb dX1_fillColumn_132 ?_
    refine lv_i2l hx hb dX1_fillColumn_133 rfl ?_
    obtain ⟨q11, hw⟩ := hw
    refine wa_C_row F hh (((v3 + 1) : Int32).toNatClampNeg) (lf_in6 q8) q11 dX1_fillColumn_134 (fun H locs hh => ?_)
    exact lf_retv F hh hw dX1_fillColumn_135
set_option maxHeartbeats 4000000 in
set_option maxRecDepth 100000 in
theorem c_X1_fillColumn (l : Launch) (D : va_G) (ha : Nat → Nat) (cy : Nat → ClassId) (sz : Nat) (σ : lf_St) (x1 : Int32) (Post : lf_St → Prop) (hw : wp_X1_fillColumn x1 σ Post) : lf_Mv l yX1_fillColumn (lf_ws yX1_fillColumn cX1_fillColumn 5 none) rm_X1_fillColumn D (tyC_ cy) (wC_ ha cy) sz σ [.ref (ha 16), .int x1] Post := by
  refine lf_ofv (by decide +kernel) (Nat.le_of_ble_eq_true rfl) ?_
  intro p e s m args below meth c A ls F hh hl
  have hx := F.1.1
  have hb := F.1.2.1
  have hl : lv_has ls 5 [(0, .ref (ha 16)), (1, .int x1)] := hl
  obtain ⟨H, hHe⟩ : ∃ H, H = s.heap := ⟨_, rfl⟩
  rw [← hHe] at hh ⊢
  unfold wp_X1_fillColumn at hw
  refine lv_aload_n hx hb dX1_fillColumn_0 rfl (lv_at hl 0 rfl) ?_
  refine fg_X1_16 F hh dX1_fillColumn_1 ?_
  refine lv_iload_n hx hb dX1_fillColumn_4 rfl (lv_at hl 1 rfl) ?_
  obtain ⟨q1, hw⟩ := hw
  refine ra_C_17 F hh q1 dX1_fillColumn_5 ?_
  refine lv_topi (fun v2 ev2 => ?_)
  have hw := hw v2 ev2
  refine lv_istore_n (lv' := [(2, .int v2), (0, .ref (ha 16)), (1, .int x1)]) hx hb dX1_fillColumn_6 rfl hl (by decide) rfl (fun ls hl => ?_)
  refine lv_aload_n hx hb dX1_fillColumn_7 rfl (lv_at hl 1 rfl) ?_
  refine fg_X1_24 F hh dX1_fillColumn_8 ?_
  refine fg_X1_50 F hh dX1_fillColumn_11 ?_
  refine lv_aload_n hx hb dX1_fillColumn_14 rfl (lv_at hl 1 rfl) ?_
  refine fg_X1_24 F hh dX1_fillColumn_15 ?_
  refine fg_X1_53 F hh dX1_fillColumn_18 ?_
  refine lv_iload_n hx hb dX1_fillColumn_21 rfl (lv_at hl 0 rfl) ?_
  obtain ⟨q3, hw⟩ := hw
  refine ra_C_6 F hh q3 dX1_fillColumn_22 ?_
  obtain ⟨q4, hw⟩ := hw
  refine ra_C_4 F hh q4 dX1_fillColumn_23 ?_
  refine lv_topi (fun v5 ev5 => ?_)
  have hw := hw v5 ev5
  refine lv_istore_n (lv' := [(3, .int v5), (2, .int v2), (0, .ref (ha 16)), (1, .int x1)]) hx hb dX1_fillColumn_24 rfl hl (by decide) rfl (fun ls hl => ?_)
  refine lv_iload_n hx hb dX1_fillColumn_25 rfl (lv_at hl 0 rfl) ?_
  refine lv_iconst (v := (-1)) hx hb dX1_fillColumn_26 (by decide) ?_
  refine lv_icmp_eq (tgt := 68) hx hb dX1_fillColumn_27 (by decide) (fun c6 => ?_) (fun c6 => ?_)
  · have hw := hw.1 c6
    exact w_X1_fillColumn_68 Post F  x1 v2 σ _ _ _ hh (lv_sub hl [2, 3, 1] rfl) hw
  · have hw := hw.2 c6
    refine lv_aload_n hx hb dX1_fillColumn_30 rfl (lv_at hl 2 rfl) ?_
    refine fg_X1_11 F hh dX1_fillColumn_31 ?_
    refine lv_iload_n hx hb dX1_fillColumn_34 rfl (lv_at hl 0 rfl) ?_
    obtain ⟨q7, hw⟩ := hw
    refine ra_C_table F hh q7 dX1_fillColumn_35 ?_
    refine lv_iload_n hx hb dX1_fillColumn_36 rfl (lv_at hl 3 rfl) ?_
    refine lv_aload_n hx hb dX1_fillColumn_37 rfl (lv_at hl 2 rfl) ?_
    refine fg_X1_24 F hh dX1_fillColumn_38 ?_
    refine fg_X1_56 F hh dX1_fillColumn_41 ?_
    refine lv_iload_n hx hb dX1_fillColumn_44 rfl (lv_at hl 1 rfl) ?_
    obtain ⟨q8, hw⟩ := hw
    refine ra_C_8 F hh q8 dX1_fillColumn_45 ?_
    refine lv_i2l hx hb dX1_fillColumn_46 rfl ?_
    obtain ⟨q9, hw⟩ := hw
    refine wa_C_row F hh (v5.toNatClampNeg) (lf_in6 q7) q9 dX1_fillColumn_47 (fun H locs hh => ?_)
    refine lv_aload_n hx hb dX1_fillColumn_48 rfl (lv_at hl 2 rfl) ?_
    refine fg_X1_11 F hh dX1_fillColumn_49 ?_
    refine lv_iload_n hx hb dX1_fillColumn_52 rfl (lv_at hl 0 rfl) ?_
    refine lv_iconst (v := 1) hx hb dX1_fillColumn_53 (by decide) ?_
    refine lv_iadd hx hb dX1_fillColumn_54 ?_
    obtain ⟨q10, hw⟩ := hw
    refine ra_C_table F hh q10 dX1_fillColumn_55 ?_
    refine lv_iload_n hx hb dX1_fillColumn_56 rfl (lv_at hl 3 rfl) ?_
    refine lv_aload_n hx hb dX1_fillColumn_57 rfl (lv_at hl 2 rfl) ?_
    refine fg_X1_24 F hh dX1_fillColumn_58 ?_
    refine fg_X1_59 F hh dX1_fillColumn_61 ?_
    refine lv_iload_n hx hb dX1_fillColumn_64 rfl (lv_at hl 1 rfl) ?_
    obtain ⟨σ11, eσ11⟩ : ∃ z : lf_St, z = (lf_sb σ (32 + v5.toNatClampNeg) x1.toNatClampNeg (((lf_ai σ 8 v2.toNatClampNeg) : Int32).toInt64)) := ⟨_, rfl⟩
    rw [← eσ11] at hh
    have hw := hw σ11 eσ11
    obtain ⟨q12, hw⟩ := hw
    refine ra_C_9 F hh q12 dX1_fillColumn_65 ?_
    refine lv_i2l hx hb dX1_fillColumn_66 rfl ?_
    obtain ⟨q13, hw⟩ := hw
    refine wa_C_row F hh (((v5 + 1) : Int32).toNatClampNeg) (lf_in6 q10) q13 dX1_fillColumn_67 (fun H locs hh => ?_)
    exact w_X1_fillColumn_68 Post F  x1 v2 (lf_sb σ11 (32 + ((v5 + 1) : Int32).toNatClampNeg) x1.toNatClampNeg (((lf_ai σ11 9 v2.toNatClampNeg) : Int32).toInt64)) _ _ _ hh (lv_sub hl [2, 3, 1] rfl) hw
def L_X1_listBars_4 (Post : lf_St → Prop) : Nat → Int32 → Int32 → Int32 → lf_St → Prop
  | 0, _, _, _, _ => False
  | n + 1, x1, x2, x3, σ => (((lf_gi σ 2) ≤ x3) → (Post σ)) ∧ ((¬ ((lf_gi σ 2) ≤ x3)) → ((((lf_gi σ 7) ≤ x2) → (Post σ)) ∧ ((¬ ((lf_gi σ 7) ≤ x2)) → (((¬ ((x1 >>> (x3 &&& 31)) &&& 1) = 1) → (∀ v4 : Int32, v4 = x3 + 1 → (L_X1_listBars_4 Post n x1 x2 v4 σ))) ∧ ((((x1 >>> (x3 &&& 31)) &&& 1) = 1) → (vp_in x2 6 ∧ (∀ v6 : Int32, v6 = x2 + 1 → (∀ v7 : Int32, v7 = x3 + 1 → (L_X1_listBars_4 Post n x1 v6 v7 (lf_sa σ 17 x2.toNatClampNeg x3))))))))))
def wp_X1_listBars (x1 : Int32) (σ : lf_St) (Post : lf_St → Prop) : Prop := ∃ fu : Nat, L_X1_listBars_4 Post fu x1 0 0 σ
def rm_X1_listBars : Room := ({ frames := 0, cells := 0, slots := 0, locals := 0 } : Room)
set_option maxHeartbeats 4000000 in
set_option maxRecDepth 100000 in
theorem w_X1_listBars_4 {p : Program} {l : Launch} {e : Env} {s : State} {m : MethodId} {args : Array Value} {below : List Frame} {meth : Method} {c : Code} {D : va_G} {A : Nat → Prop} {ha : Nat → Nat} {cy : Nat → ClassId} (Post : lf_St → Prop) (F : lf_C p s m args meth c RX1 cX1_listBars 4 none D (tyC_ cy) A) : ∀ (n : Nat) (x1 : Int32) (x2 : Int32) (x3 : Int32) (σ : lf_St) (H : Heap) (locs : List Loc) (ls : Array Slot), lf_H D (wC_ ha cy) A s σ H locs → lv_has ls 4 [(0, .ref (ha 16)), (1, .int x1), (2, .int x2), (3, .int x3)] → L_X1_listBars_4 Post n x1 x2 x3 σ → W p l e rm_X1_listBars s m args below meth c H locs 0 0 (lf_Qv below args s D (tyC_ cy) A (wC_ ha cy) Post) (F0 m 4 ls []) := by
  have hx := F.1.1
  have hb := F.1.2.1
  intro n
  induction n with
  | zero =>
    intro x1 x2 x3 σ H locs ls hh hl hw
    exact False.elim hw
  | succ n ih =>
    intro x1 x2 x3 σ H locs ls hh hl hw
    unfold L_X1_listBars_4 at hw
    refine lv_iload_n hx hb dX1_listBars_4 rfl (lv_at hl 3 rfl) ?_
    refine lv_aload_n hx hb dX1_listBars_5 rfl (lv_at hl 0 rfl) ?_
    refine fg_X1_24 F hh dX1_listBars_6 ?_
    refine fg_X1_48 F hh dX1_listBars_9 ?_
    refine lv_icmp_ge (tgt := 48) hx hb dX1_listBars_12 (by decide) (fun c1 => ?_) (fun c1 => ?_)
    · have hw := hw.1 c1
      exact lf_retv F hh hw dX1_listBars_48
    · have hw := hw.2 c1
      refine lv_iload_n hx hb dX1_listBars_15 rfl (lv_at hl 2 rfl) ?_
      refine lv_aload_n hx hb dX1_listBars_16 rfl (lv_at hl 0 rfl) ?_
      refine fg_X1_34 F hh dX1_listBars_17 ?_
      refine lv_icmp_ge (tgt := 48) hx hb dX1_listBars_20 (by decide) (fun c2 => ?_) (fun c2 => ?_)
      · have hw := hw.1 c2
        exact lf_retv F hh hw dX1_listBars_48
      · have hw := hw.2 c2
        refine lv_iload_n hx hb dX1_listBars_23 rfl (lv_at hl 1 rfl) ?_
        refine lv_iload_n hx hb dX1_listBars_24 rfl (lv_at hl 3 rfl) ?_
        refine lv_ishr hx hb dX1_listBars_25 ?_
        refine lv_iconst (v := 1) hx hb dX1_listBars_26 (by decide) ?_
        refine lv_iand hx hb dX1_listBars_27 ?_
        refine lv_iconst (v := 1) hx hb dX1_listBars_28 (by decide) ?_
        refine lv_icmp_ne (tgt := 42) hx hb dX1_listBars_29 (by decide) (fun c3 => ?_) (fun c3 => ?_)
        · have hw := hw.1 c3
          obtain ⟨v4, ev4⟩ : ∃ y : Int32, y = x3 + 1 := ⟨_, rfl⟩
          have hw := hw v4 ev4
          refine lv_iinc (v := v4) (lv' := [(3, .int v4), (0, .ref (ha 16)), (1, .int x1), (2, .int x2)]) hx hb dX1_listBars_42 hl (k := 3) rfl (by rw [ev4]; rfl) (by decide) rfl (fun ls hl => ?_)
          refine lv_goto (tgt := 4) hx hb dX1_listBars_45 (by decide) ?_
          exact ih x1 x2 v4 σ _ _ _ hh (lv_sub hl [1, 2, 3, 0] rfl) hw
        · have hw := hw.2 c3
          refine lv_aload_n hx hb dX1_listBars_32 rfl (lv_at hl 0 rfl) ?_
          refine fg_X1_16 F hh dX1_listBars_33 ?_
          refine lv_iload_n hx hb dX1_listBars_36 rfl (lv_at hl 2 rfl) ?_
          refine lv_iload_n hx hb dX1_listBars_37 rfl (lv_at hl 3 rfl) ?_
          obtain ⟨q5, hw⟩ := hw
          refine wa_C_17 F hh q5 dX1_listBars_38 (fun H locs hh => ?_)
          obtain ⟨v6, ev6⟩ : ∃ y : Int32, y = x2 + 1 := ⟨_, rfl⟩
          have hw := hw v6 ev6
          refine lv_iinc (v := v6) (lv' := [(2, .int v6), (0, .ref (ha 16)), (1, .int x1), (3, .int x3)]) hx hb dX1_listBars_39 hl (k := 2) rfl (by rw [ev6]; rfl) (by decide) rfl (fun ls hl => ?_)
          obtain ⟨v7, ev7⟩ : ∃ y : Int32, y = x3 + 1 := ⟨_, rfl⟩
          have hw := hw v7 ev7
          refine lv_iinc (v := v7) (lv' := [(3, .int v7), (2, .int v6), (0, .ref (ha 16)), (1, .int x1)]) hx hb dX1_listBars_42 hl (k := 3) rfl (by rw [ev7]; rfl) (by decide) rfl (fun ls hl => ?_)
          refine lv_goto (tgt := 4) hx hb dX1_listBars_45 (by decide) ?_
          exact ih x1 v6 v7 (lf_sa σ 17 x2.toNatClampNeg x3) _ _ _ hh (lv_sub hl [2, 3, 1, 0] rfl) hw
set_option maxHeartbeats 4000000 in
set_option maxRecDepth 100000 in
theorem c_X1_listBars (l : Launch) (D : va_G) (ha : Nat → Nat) (cy : Nat → ClassId) (sz : Nat) (σ : lf_St) (x1 : Int32) (Post : lf_St → Prop) (hw : wp_X1_listBars x1 σ Post) : lf_Mv l yX1_listBars (lf_ws yX1_listBars cX1_listBars 4 none) rm_X1_listBars D (tyC_ cy) (wC_ ha cy) sz σ [.ref (ha 16), .int x1] Post := by
  refine lf_ofv (by decide +kernel) (Nat.le_of_ble_eq_true rfl) ?_
  intro p e s m args below meth c A ls F hh hl
  have hx := F.1.1
  have hb := F.1.2.1
  have hl : lv_has ls 4 [(0, .ref (ha 16)), (1, .int x1)] := hl
  obtain ⟨H, hHe⟩ : ∃ H, H = s.heap := ⟨_, rfl⟩
  rw [← hHe] at hh ⊢
  unfold wp_X1_listBars at hw
  refine lv_iconst (v := 0) hx hb dX1_listBars_0 (by decide) ?_
  refine lv_istore_n (lv' := [(2, .int 0), (0, .ref (ha 16)), (1, .int x1)]) hx hb dX1_listBars_1 rfl hl (by decide) rfl (fun ls hl => ?_)
  refine lv_iconst (v := 0) hx hb dX1_listBars_2 (by decide) ?_
  refine lv_istore_n (lv' := [(3, .int 0), (2, .int 0), (0, .ref (ha 16)), (1, .int x1)]) hx hb dX1_listBars_3 rfl hl (by decide) rfl (fun ls hl => ?_)
  obtain ⟨n4, hw⟩ := hw
  exact w_X1_listBars_4 Post F  n4 x1 0 0 σ _ _ _ hh (lv_sub hl [2, 3, 1, 0] rfl) hw
def wp_X2_rows (σ : lf_St) (Post : Int32 → lf_St → Prop) : Prop := Post (2 * (lf_gi σ 1)) σ
def rm_X2_rows : Room := ({ frames := 0, cells := 0, slots := 0, locals := 0 } : Room)
set_option maxHeartbeats 4000000 in
set_option maxRecDepth 100000 in
theorem c_X2_rows (l : Launch) (D : va_G) (ha : Nat → Nat) (cy : Nat → ClassId) (sz : Nat) (σ : lf_St) (Post : Int32 → lf_St → Prop) (hw : wp_X2_rows σ Post) : lf_Mi l yX2_rows (lf_ws yX2_rows cX2_rows 1 (some .int)) rm_X2_rows D (tyC_ cy) (wC_ ha cy) sz σ [.ref (ha 1)] Post := by
  refine lf_ofi (by decide +kernel) (Nat.le_of_ble_eq_true rfl) ?_
  intro p e s m args below meth c A ls F hh hl
  have hx := F.1.1
  have hb := F.1.2.1
  have hl : lv_has ls 1 [(0, .ref (ha 1))] := hl
  obtain ⟨H, hHe⟩ : ∃ H, H = s.heap := ⟨_, rfl⟩
  rw [← hHe] at hh ⊢
  unfold wp_X2_rows at hw
  refine lv_iconst (v := 2) hx hb dX2_rows_0 (by decide) ?_
  refine lv_aload_n hx hb dX2_rows_1 rfl (lv_at hl 0 rfl) ?_
  refine fg_X2_52 F hh dX2_rows_2 ?_
  refine lv_imul hx hb dX2_rows_5 ?_
  exact lf_reti F hh hw dX2_rows_6
theorem cw_X1_28 {R : Room} {s : State} {args : Array Value} (ht : ∀ w ∈ wsL_law, w.before args s = true) (hR : rm_X2_rows.frames + 1 ≤ R.frames ∧ 8 + (1 + 11) + rm_X2_rows.locals ≤ R.locals) : lf_cV R s args RX1 RX2 28 yX2_rows cX2_rows 1 (some .int) rm_X2_rows 0 :=
  lf_cV_of 0 ht (lr_6 _ (List.mem_of_getElem? (i := 6) rfl)) (lr_15 _ (List.mem_of_getElem? (i := 15) rfl)) (lr_6 _ (List.mem_of_getElem? (i := 4) rfl)) (lr_6 _ (List.mem_of_getElem? (i := 5) rfl)) (lr_1 _ (List.mem_of_getElem? (i := 14) rfl)) rfl rfl (by decide +kernel) hR
theorem cw_X1_38 {R : Room} {s : State} {args : Array Value} (ht : ∀ w ∈ wsL_law, w.before args s = true) (hR : rm_X1_listBars.frames + 1 ≤ R.frames ∧ 8 + (4 + 11) + rm_X1_listBars.locals ≤ R.locals) : lf_cV R s args RX1 RX1 38 yX1_listBars cX1_listBars 4 none rm_X1_listBars 1 :=
  lf_cV_of 1 ht (lr_15 _ (List.mem_of_getElem? (i := 19) rfl)) (lr_15 _ (List.mem_of_getElem? (i := 16) rfl)) (lr_15 _ (List.mem_of_getElem? (i := 17) rfl)) (lr_15 _ (List.mem_of_getElem? (i := 18) rfl)) (lr_3 _ (List.mem_of_getElem? (i := 4) rfl)) rfl rfl (by decide +kernel) hR
theorem cw_X1_42 {R : Room} {s : State} {args : Array Value} (ht : ∀ w ∈ wsL_law, w.before args s = true) (hR : rm_X1_clearTable.frames + 1 ≤ R.frames ∧ 8 + (3 + 11) + rm_X1_clearTable.locals ≤ R.locals) : lf_cV R s args RX1 RX1 42 yX1_clearTable cX1_clearTable 3 none rm_X1_clearTable 0 :=
  lf_cV_of 0 ht (lr_16 _ (List.mem_of_getElem? (i := 0) rfl)) (lr_15 _ (List.mem_of_getElem? (i := 21) rfl)) (lr_15 _ (List.mem_of_getElem? (i := 22) rfl)) (lr_15 _ (List.mem_of_getElem? (i := 23) rfl)) (lr_3 _ (List.mem_of_getElem? (i := 4) rfl)) rfl rfl (by decide +kernel) hR
theorem cw_X1_45 {R : Room} {s : State} {args : Array Value} (ht : ∀ w ∈ wsL_law, w.before args s = true) (hR : rm_X1_fillColumn.frames + 1 ≤ R.frames ∧ 8 + (5 + 11) + rm_X1_fillColumn.locals ≤ R.locals) : lf_cV R s args RX1 RX1 45 yX1_fillColumn cX1_fillColumn 5 none rm_X1_fillColumn 1 :=
  lf_cV_of 1 ht (lr_16 _ (List.mem_of_getElem? (i := 4) rfl)) (lr_16 _ (List.mem_of_getElem? (i := 1) rfl)) (lr_16 _ (List.mem_of_getElem? (i := 2) rfl)) (lr_16 _ (List.mem_of_getElem? (i := 3) rfl)) (lr_3 _ (List.mem_of_getElem? (i := 4) rfl)) rfl rfl (by decide +kernel) hR
def L_X1_take_22 (Post : lf_St → Prop) : Nat → Int32 → lf_St → Prop
  | 0, _, _ => False
  | n + 1, x2, σ => (((lf_gi σ 7) ≤ x2) → (Post σ)) ∧ ((¬ ((lf_gi σ 7) ≤ x2)) → (wp_X1_fillColumn x2 σ (fun σ2 => ∀ v3 : Int32, v3 = x2 + 1 → (L_X1_take_22 Post n v3 σ2))))
def wp_X1_take (x1 : Int32) (σ : lf_St) (Post : lf_St → Prop) : Prop := wp_X2_rows σ (fun r1 σ1 => ∀ σ2 : lf_St, σ2 = (lf_si σ1 7 r1) → wp_X1_listBars x1 σ2 (fun σ3 => wp_X1_clearTable σ3 (fun σ4 => ∃ fu : Nat, L_X1_take_22 Post fu 0 σ4)))
def rm_X1_take : Room := ({ frames := 1, cells := 0, slots := 0, locals := 24 } : Room)
set_option maxHeartbeats 4000000 in
set_option maxRecDepth 100000 in
theorem w_X1_take_22 {p : Program} {l : Launch} {e : Env} {s : State} {m : MethodId} {args : Array Value} {below : List Frame} {meth : Method} {c : Code} {D : va_G} {A : Nat → Prop} {ha : Nat → Nat} {cy : Nat → ClassId} (Post : lf_St → Prop) (F : lf_C p s m args meth c RX1 cX1_take 3 none D (tyC_ cy) A) : ∀ (n : Nat) (x2 : Int32) (σ : lf_St) (H : Heap) (locs : List Loc) (ls : Array Slot), lf_H D (wC_ ha cy) A s σ H locs → lv_has ls 3 [(0, .ref (ha 16)), (2, .int x2)] → L_X1_take_22 Post n x2 σ → W p l e rm_X1_take s m args below meth c H locs 0 0 (lf_Qv below args s D (tyC_ cy) A (wC_ ha cy) Post) (F0 m 22 ls []) := by
  have hx := F.1.1
  have hb := F.1.2.1
  intro n
  induction n with
  | zero =>
    intro x2 σ H locs ls hh hl hw
    exact False.elim hw
  | succ n ih =>
    intro x2 σ H locs ls hh hl hw
    unfold L_X1_take_22 at hw
    refine lv_iload_n hx hb dX1_take_22 rfl (lv_at hl 1 rfl) ?_
    refine lv_aload_n hx hb dX1_take_23 rfl (lv_at hl 0 rfl) ?_
    refine fg_X1_34 F hh dX1_take_24 ?_
    refine lv_icmp_ge (tgt := 41) hx hb dX1_take_27 (by decide) (fun c1 => ?_) (fun c1 => ?_)
    · have hw := hw.1 c1
      exact lf_retv F hh hw dX1_take_41
    · have hw := hw.2 c1
      refine lv_aload_n hx hb dX1_take_30 rfl (lv_at hl 0 rfl) ?_
      refine lv_iload_n hx hb dX1_take_31 rfl (lv_at hl 1 rfl) ?_
      refine lf_callVv (rest := []) F hh (cw_X1_45 F.1.2.2.2.2 ⟨Nat.le_of_ble_eq_true rfl, Nat.le_of_ble_eq_true rfl⟩) (c_X1_fillColumn l D ha cy H.size σ x2 _ hw) 16 1 rfl rfl rfl rfl hl.1 (Nat.le_of_ble_eq_true rfl) dX1_take_32 rfl (fun σ2 H locs hw hh => ?_)
      obtain ⟨v3, ev3⟩ : ∃ y : Int32, y = x2 + 1 := ⟨_, rfl⟩
      have hw := hw v3 ev3
      refine lv_iinc (v := v3) (lv' := [(2, .int v3), (0, .ref (ha 16))]) hx hb dX1_take_35 hl (k := 1) rfl (by rw [ev3]; rfl) (by decide) rfl (fun ls hl => ?_)
      refine lv_goto (tgt := 22) hx hb dX1_take_38 (by decide) ?_
      exact ih v3 σ2 _ _ _ hh (lv_sub hl [1, 0] rfl) hw
set_option maxHeartbeats 4000000 in
set_option maxRecDepth 100000 in
theorem c_X1_take (l : Launch) (D : va_G) (ha : Nat → Nat) (cy : Nat → ClassId) (sz : Nat) (σ : lf_St) (x1 : Int32) (Post : lf_St → Prop) (hw : wp_X1_take x1 σ Post) : lf_Mv l yX1_take (lf_ws yX1_take cX1_take 3 none) rm_X1_take D (tyC_ cy) (wC_ ha cy) sz σ [.ref (ha 16), .int x1] Post := by
  refine lf_ofv (by decide +kernel) (Nat.le_of_ble_eq_true rfl) ?_
  intro p e s m args below meth c A ls F hh hl
  have hx := F.1.1
  have hb := F.1.2.1
  have hl : lv_has ls 3 [(0, .ref (ha 16)), (1, .int x1)] := hl
  obtain ⟨H, hHe⟩ : ∃ H, H = s.heap := ⟨_, rfl⟩
  rw [← hHe] at hh ⊢
  unfold wp_X1_take at hw
  refine lv_aload_n hx hb dX1_take_0 rfl (lv_at hl 0 rfl) ?_
  refine lv_aload_n hx hb dX1_take_1 rfl (lv_at hl 0 rfl) ?_
  refine fg_X1_24 F hh dX1_take_2 ?_
  refine lf_callVi (rest := [.ref (ha 16)]) F hh (cw_X1_28 F.1.2.2.2.2 ⟨Nat.le_of_ble_eq_true rfl, Nat.le_of_ble_eq_true rfl⟩) (c_X2_rows l D ha cy H.size σ  _ hw) 1 2 rfl rfl rfl rfl hl.1 (Nat.le_of_ble_eq_true rfl) dX1_take_5 rfl (fun r1 σ1 H locs hw hh => ?_)
  refine fp_X1_34 F hh dX1_take_8 (fun H locs hh => ?_)
  refine lv_aload_n hx hb dX1_take_11 rfl (lv_at hl 0 rfl) ?_
  refine lv_iload_n hx hb dX1_take_12 rfl (lv_at hl 1 rfl) ?_
  obtain ⟨σ2, eσ2⟩ : ∃ z : lf_St, z = (lf_si σ1 7 r1) := ⟨_, rfl⟩
  rw [← eσ2] at hh
  have hw := hw σ2 eσ2
  refine lf_callVv (rest := []) F hh (cw_X1_38 F.1.2.2.2.2 ⟨Nat.le_of_ble_eq_true rfl, Nat.le_of_ble_eq_true rfl⟩) (c_X1_listBars l D ha cy H.size σ2 x1 _ hw) 16 1 rfl rfl rfl rfl hl.1 (Nat.le_of_ble_eq_true rfl) dX1_take_13 rfl (fun σ3 H locs hw hh => ?_)
  refine lv_aload_n hx hb dX1_take_16 rfl (lv_at hl 0 rfl) ?_
  refine lf_callVv (rest := []) F hh (cw_X1_42 F.1.2.2.2.2 ⟨Nat.le_of_ble_eq_true rfl, Nat.le_of_ble_eq_true rfl⟩) (c_X1_clearTable l D ha cy H.size σ3  _ hw) 16 1 rfl rfl rfl rfl hl.1 (Nat.le_of_ble_eq_true rfl) dX1_take_17 rfl (fun σ4 H locs hw hh => ?_)
  refine lv_iconst (v := 0) hx hb dX1_take_20 (by decide) ?_
  refine lv_istore_n (lv' := [(2, .int 0), (0, .ref (ha 16)), (1, .int x1)]) hx hb dX1_take_21 rfl hl (by decide) rfl (fun ls hl => ?_)
  obtain ⟨n22, hw⟩ := hw
  exact w_X1_take_22 Post F  n22 0 σ4 _ _ _ hh (lv_sub hl [1, 0] rfl) hw
def wp_X1_at (x1 : Int32) (x2 : Int32) (σ : lf_St) (Post : Int64 → lf_St → Prop) : Prop := vp_in x1 6 ∧ (vp_in ((lf_gi σ 7) + x2) 12 ∧ (Post (lf_al σ (32 + x1.toNatClampNeg) (((lf_gi σ 7) + x2) : Int32).toNatClampNeg) σ))
def rm_X1_at : Room := ({ frames := 0, cells := 0, slots := 0, locals := 0 } : Room)
set_option maxHeartbeats 4000000 in
set_option maxRecDepth 100000 in
theorem c_X1_at (l : Launch) (D : va_G) (ha : Nat → Nat) (cy : Nat → ClassId) (sz : Nat) (σ : lf_St) (x1 : Int32) (x2 : Int32) (Post : Int64 → lf_St → Prop) (hw : wp_X1_at x1 x2 σ Post) : lf_Ml l yX1_at (lf_ws yX1_at cX1_at 3 (some .long)) rm_X1_at D (tyC_ cy) (wC_ ha cy) sz σ [.ref (ha 16), .int x1, .int x2] Post := by
  refine lf_ofl (by decide +kernel) (Nat.le_of_ble_eq_true rfl) ?_
  intro p e s m args below meth c A ls F hh hl
  have hx := F.1.1
  have hb := F.1.2.1
  have hl : lv_has ls 3 [(0, .ref (ha 16)), (1, .int x1), (2, .int x2)] := hl
  obtain ⟨H, hHe⟩ : ∃ H, H = s.heap := ⟨_, rfl⟩
  rw [← hHe] at hh ⊢
  unfold wp_X1_at at hw
  refine lv_aload_n hx hb dX1_at_0 rfl (lv_at hl 0 rfl) ?_
  refine fg_X1_11 F hh dX1_at_1 ?_
  refine lv_iload_n hx hb dX1_at_4 rfl (lv_at hl 1 rfl) ?_
  obtain ⟨q1, hw⟩ := hw
  refine ra_C_table F hh q1 dX1_at_5 ?_
  refine lv_aload_n hx hb dX1_at_6 rfl (lv_at hl 0 rfl) ?_
  refine fg_X1_34 F hh dX1_at_7 ?_
  refine lv_iload_n hx hb dX1_at_10 rfl (lv_at hl 2 rfl) ?_
  refine lv_iadd hx hb dX1_at_11 ?_
  obtain ⟨q2, hw⟩ := hw
  refine ra_C_row F hh (x1.toNatClampNeg) (lf_in6 q1) q2 dX1_at_12 ?_
  exact lf_retl F hh hw dX1_at_13
def L_X1_clearColumn_43 (K_20 : Int32 → Int64 → Int64 → Int32 → lf_St → Prop) (Post : lf_St → Prop) : Nat → Int32 → Int64 → Int64 → Int32 → Int64 → Int32 → lf_St → Prop
  | 0, _, _, _, _, _, _, _ => False
  | n + 1, x1, x2, x4, x6, x7, x9, σ => (((2 * (lf_gi σ 7)) ≤ x9) → (∀ v2 : Int32, v2 = x6 + 1 → (K_20 x1 x2 x4 v2 σ))) ∧ ((¬ ((2 * (lf_gi σ 7)) ≤ x9)) → (((x6 = x1) → (∀ v4 : Int32, v4 = x6 + 1 → (K_20 x1 x2 x4 v4 σ))) ∧ ((¬ (x6 = x1)) → (vp_in x6 6 ∧ (vp_in x6 6 ∧ (vp_in x9 12 ∧ (vp_in x1 6 ∧ (vp_in x9 12 ∧ ((¬ x2 = 0) ∧ (vp_in x9 12 ∧ (∀ v12 : Int32, v12 = x9 + 1 → (L_X1_clearColumn_43 K_20 Post n x1 x2 x4 x6 x7 v12 (lf_sb σ (32 + x6.toNatClampNeg) x9.toNatClampNeg (((x4 * (lf_al σ (32 + x6.toNatClampNeg) x9.toNatClampNeg)) - (x7 * (lf_al σ (32 + x1.toNatClampNeg) x9.toNatClampNeg))) / x2))))))))))))))
def L_X1_clearColumn_20 (Post : lf_St → Prop) : Nat → Int32 → Int64 → Int64 → Int32 → lf_St → Prop
  | 0, _, _, _, _, _ => False
  | n + 1, x1, x2, x4, x6, σ => (((lf_gi σ 7) ≤ x6) → (Post σ)) ∧ ((¬ ((lf_gi σ 7) ≤ x6)) → (vp_in x6 6 ∧ (vp_in x1 12 ∧ (∀ v4 : Int64, v4 = (lf_al σ (32 + x6.toNatClampNeg) x1.toNatClampNeg) → (∃ fu : Nat, L_X1_clearColumn_43 (L_X1_clearColumn_20 Post n) Post fu x1 x2 x4 x6 v4 0 σ)))))
def wp_X1_clearColumn (x1 : Int32) (x2 : Int64) (σ : lf_St) (Post : lf_St → Prop) : Prop := ((¬ x2 = 0) → (vp_in x1 6 ∧ (vp_in x1 12 ∧ (∀ v4 : Int64, v4 = (lf_al σ (32 + x1.toNatClampNeg) x1.toNatClampNeg) → (∃ fu : Nat, L_X1_clearColumn_20 Post fu x1 x2 v4 0 σ))))) ∧ ((x2 = 0) → (Post σ))
def rm_X1_clearColumn : Room := ({ frames := 0, cells := 0, slots := 0, locals := 0 } : Room)
set_option maxHeartbeats 4000000 in
set_option maxRecDepth 100000 in
theorem w_X1_clearColumn_43 {p : Program} {l : Launch} {e : Env} {s : State} {m : MethodId} {args : Array Value} {below : List Frame} {meth : Method} {c : Code} {D : va_G} {A : Nat → Prop} {ha : Nat → Nat} {cy : Nat → ClassId} (K_20 : Int32 → Int64 → Int64 → Int32 → lf_St → Prop) (Post : lf_St → Prop) (F : lf_C p s m args meth c RX1 cX1_clearColumn 10 none D (tyC_ cy) A) (hK_20 : ∀ (x1 : Int32) (x2 : Int64) (x4 : Int64) (x6 : Int32) (σ : lf_St) (H : Heap) (locs : List Loc) (ls : Array Slot), lf_H D (wC_ ha cy) A s σ H locs → lv_has ls 10 [(0, .ref (ha 16)), (1, .int x1), (2, .long x2), (4, .long x4), (6, .int x6)] → K_20 x1 x2 x4 x6 σ → W p l e rm_X1_clearColumn s m args below meth c H locs 0 0 (lf_Qv below args s D (tyC_ cy) A (wC_ ha cy) Post) (F0 m 20 ls [])) : ∀ (n : Nat) (x1 : Int32) (x2 : Int64) (x4 : Int64) (x6 : Int32) (x7 : Int64) (x9 : Int32) (σ : lf_St) (H : Heap) (locs : List Loc) (ls : Array Slot), lf_H D (wC_ ha cy) A s σ H locs → lv_has ls 10 [(0, .ref (ha 16)), (1, .int x1), (2, .long x2), (4, .long x4), (6, .int x6), (7, .long x7), (9, .int x9)] → L_X1_clearColumn_43 K_20 Post n x1 x2 x4 x6 x7 x9 σ → W p l e rm_X1_clearColumn s m args below meth c H locs 0 0 (lf_Qv below args s D (tyC_ cy) A (wC_ ha cy) Post) (F0 m 43 ls []) := by
  have hx := F.1.1
  have hb := F.1.2.1
  intro n
  induction n with
  | zero =>
    intro x1 x2 x4 x6 x7 x9 σ H locs ls hh hl hw
    exact False.elim hw
  | succ n ih =>
    intro x1 x2 x4 x6 x7 x9 σ H locs ls hh hl hw
    unfold L_X1_clearColumn_43 at hw
    refine lv_iload hx hb dX1_clearColumn_43 (lv_at hl 6 rfl) ?_
    refine lv_iconst (v := 2) hx hb dX1_clearColumn_45 (by decide) ?_
    refine lv_aload_n hx hb dX1_clearColumn_46 rfl (lv_at hl 0 rfl) ?_
    refine fg_X1_34 F hh dX1_clearColumn_47 ?_
    refine lv_imul hx hb dX1_clearColumn_50 ?_
    refine lv_icmp_ge (tgt := 104) hx hb dX1_clearColumn_51 (by decide) (fun c1 => ?_) (fun c1 => ?_)
    · have hw := hw.1 c1
      obtain ⟨v2, ev2⟩ : ∃ y : Int32, y = x6 + 1 := ⟨_, rfl⟩
      have hw := hw v2 ev2
      refine lv_iinc (v := v2) (lv' := [(6, .int v2), (0, .ref (ha 16)), (1, .int x1), (2, .long x2), (4, .long x4), (7, .long x7), (9, .int x9)]) hx hb dX1_clearColumn_104 hl (k := 4) rfl (by rw [ev2]; rfl) (by decide) rfl (fun ls hl => ?_)
      refine lv_goto (tgt := 20) hx hb dX1_clearColumn_107 (by decide) ?_
      exact hK_20 x1 x2 x4 v2 σ _ _ _ hh (lv_sub hl [1, 2, 3, 4, 0] rfl) hw
    · have hw := hw.2 c1
      refine lv_iload hx hb dX1_clearColumn_54 (lv_at hl 4 rfl) ?_
      refine lv_iload_n hx hb dX1_clearColumn_56 rfl (lv_at hl 1 rfl) ?_
      refine lv_icmp_eq (tgt := 104) hx hb dX1_clearColumn_57 (by decide) (fun c3 => ?_) (fun c3 => ?_)
      · have hw := hw.1 c3
        obtain ⟨v4, ev4⟩ : ∃ y : Int32, y = x6 + 1 := ⟨_, rfl⟩
        have hw := hw v4 ev4
        refine lv_iinc (v := v4) (lv' := [(6, .int v4), (0, .ref (ha 16)), (1, .int x1), (2, .long x2), (4, .long x4), (7, .long x7), (9, .int x9)]) hx hb dX1_clearColumn_104 hl (k := 4) rfl (by rw [ev4]; rfl) (by decide) rfl (fun ls hl => ?_)
        refine lv_goto (tgt := 20) hx hb dX1_clearColumn_107 (by decide) ?_
        exact hK_20 x1 x2 x4 v4 σ _ _ _ hh (lv_sub hl [1, 2, 3, 4, 0] rfl) hw
      · have hw := hw.2 c3
        refine lv_aload_n hx hb dX1_clearColumn_60 rfl (lv_at hl 0 rfl) ?_
        refine fg_X1_11 F hh dX1_clearColumn_61 ?_
        refine lv_iload hx hb dX1_clearColumn_64 (lv_at hl 4 rfl) ?_
        obtain ⟨q5, hw⟩ := hw
        refine ra_C_table F hh q5 dX1_clearColumn_66 ?_
        refine lv_iload hx hb dX1_clearColumn_67 (lv_at hl 6 rfl) ?_
        refine lv_lload hx hb dX1_clearColumn_69 (lv_at hl 3 rfl) ?_
        refine lv_aload_n hx hb dX1_clearColumn_71 rfl (lv_at hl 0 rfl) ?_
        refine fg_X1_11 F hh dX1_clearColumn_72 ?_
        refine lv_iload hx hb dX1_clearColumn_75 (lv_at hl 4 rfl) ?_
        obtain ⟨q6, hw⟩ := hw
        refine ra_C_table F hh q6 dX1_clearColumn_77 ?_
        refine lv_iload hx hb dX1_clearColumn_78 (lv_at hl 6 rfl) ?_
        obtain ⟨q7, hw⟩ := hw
        refine ra_C_row F hh (x6.toNatClampNeg) (lf_in6 q6) q7 dX1_clearColumn_80 ?_
        refine lv_lmul hx hb dX1_clearColumn_81 ?_
        refine lv_lload hx hb dX1_clearColumn_82 (lv_at hl 5 rfl) ?_
        refine lv_aload_n hx hb dX1_clearColumn_84 rfl (lv_at hl 0 rfl) ?_
        refine fg_X1_11 F hh dX1_clearColumn_85 ?_
        refine lv_iload_n hx hb dX1_clearColumn_88 rfl (lv_at hl 1 rfl) ?_
        obtain ⟨q8, hw⟩ := hw
        refine ra_C_table F hh q8 dX1_clearColumn_89 ?_
        refine lv_iload hx hb dX1_clearColumn_90 (lv_at hl 6 rfl) ?_
        obtain ⟨q9, hw⟩ := hw
        refine ra_C_row F hh (x1.toNatClampNeg) (lf_in6 q8) q9 dX1_clearColumn_92 ?_
        refine lv_lmul hx hb dX1_clearColumn_93 ?_
        refine lv_lsub hx hb dX1_clearColumn_94 ?_
        refine lv_lload_n hx hb dX1_clearColumn_95 rfl (lv_at hl 2 rfl) ?_
        obtain ⟨q10, hw⟩ := hw
        refine lv_ldiv hx hb dX1_clearColumn_96 q10 ?_
        obtain ⟨q11, hw⟩ := hw
        refine wa_C_row F hh (x6.toNatClampNeg) (lf_in6 q5) q11 dX1_clearColumn_97 (fun H locs hh => ?_)
        obtain ⟨v12, ev12⟩ : ∃ y : Int32, y = x9 + 1 := ⟨_, rfl⟩
        have hw := hw v12 ev12
        refine lv_iinc (v := v12) (lv' := [(9, .int v12), (0, .ref (ha 16)), (1, .int x1), (2, .long x2), (4, .long x4), (6, .int x6), (7, .long x7)]) hx hb dX1_clearColumn_98 hl (k := 6) rfl (by rw [ev12]; rfl) (by decide) rfl (fun ls hl => ?_)
        refine lv_goto (tgt := 43) hx hb dX1_clearColumn_101 (by decide) ?_
        exact ih x1 x2 x4 x6 x7 v12 (lf_sb σ (32 + x6.toNatClampNeg) x9.toNatClampNeg (((x4 * (lf_al σ (32 + x6.toNatClampNeg) x9.toNatClampNeg)) - (x7 * (lf_al σ (32 + x1.toNatClampNeg) x9.toNatClampNeg))) / x2)) _ _ _ hh (lv_sub hl [1, 2, 3, 4, 5, 6, 0] rfl) hw
set_option maxHeartbeats 4000000 in
set_option maxRecDepth 100000 in
theorem w_X1_clearColumn_20 {p : Program} {l : Launch} {e : Env} {s : State} {m : MethodId} {args : Array Value} {below : List Frame} {meth : Method} {c : Code} {D : va_G} {A : Nat → Prop} {ha : Nat → Nat} {cy : Nat → ClassId} (Post : lf_St → Prop) (F : lf_C p s m args meth c RX1 cX1_clearColumn 10 none D (tyC_ cy) A) : ∀ (n : Nat) (x1 : Int32) (x2 : Int64) (x4 : Int64) (x6 : Int32) (σ : lf_St) (H : Heap) (locs : List Loc) (ls : Array Slot), lf_H D (wC_ ha cy) A s σ H locs → lv_has ls 10 [(0, .ref (ha 16)), (1, .int x1), (2, .long x2), (4, .long x4), (6, .int x6)] → L_X1_clearColumn_20 Post n x1 x2 x4 x6 σ → W p l e rm_X1_clearColumn s m args below meth c H locs 0 0 (lf_Qv below args s D (tyC_ cy) A (wC_ ha cy) Post) (F0 m 20 ls []) := by
  have hx := F.1.1
  have hb := F.1.2.1
  intro n
  induction n with
  | zero =>
    intro x1 x2 x4 x6 σ H locs ls hh hl hw
    exact False.elim hw
  | succ n ih =>
    intro x1 x2 x4 x6 σ H locs ls hh hl hw
    unfold L_X1_clearColumn_20 at hw
    refine lv_iload hx hb dX1_clearColumn_20 (lv_at hl 4 rfl) ?_
    refine lv_aload_n hx hb dX1_clearColumn_22 rfl (lv_at hl 0 rfl) ?_
    refine fg_X1_34 F hh dX1_clearColumn_23 ?_
    refine lv_icmp_ge (tgt := 110) hx hb dX1_clearColumn_26 (by decide) (fun c1 => ?_) (fun c1 => ?_)
    · have hw := hw.1 c1
      exact lf_retv F hh hw dX1_clearColumn_110
    · have hw := hw.2 c1
      refine lv_aload_n hx hb dX1_clearColumn_29 rfl (lv_at hl 0 rfl) ?_
      refine fg_X1_11 F hh dX1_clearColumn_30 ?_
      refine lv_iload hx hb dX1_clearColumn_33 (lv_at hl 4 rfl) ?_
      obtain ⟨q2, hw⟩ := hw
      refine ra_C_table F hh q2 dX1_clearColumn_35 ?_
      refine lv_iload_n hx hb dX1_clearColumn_36 rfl (lv_at hl 1 rfl) ?_
      obtain ⟨q3, hw⟩ := hw
      refine ra_C_row F hh (x6.toNatClampNeg) (lf_in6 q2) q3 dX1_clearColumn_37 ?_
      refine lv_topl (fun v4 ev4 => ?_)
      have hw := hw v4 ev4
      refine lv_lstore (lv' := [(7, .long v4), (0, .ref (ha 16)), (1, .int x1), (2, .long x2), (4, .long x4), (6, .int x6)]) hx hb dX1_clearColumn_38 hl (by decide) rfl (fun ls hl => ?_)
      refine lv_iconst (v := 0) hx hb dX1_clearColumn_40 (by decide) ?_
      refine lv_istore (lv' := [(9, .int 0), (7, .long v4), (0, .ref (ha 16)), (1, .int x1), (2, .long x2), (4, .long x4), (6, .int x6)]) hx hb dX1_clearColumn_41 hl (by decide) rfl (fun ls hl => ?_)
      obtain ⟨n43, hw⟩ := hw
      exact w_X1_clearColumn_43 _ Post F ih n43 x1 x2 x4 x6 v4 0 σ _ _ _ hh (lv_sub hl [2, 3, 4, 5, 6, 1, 0] rfl) hw
set_option maxHeartbeats 4000000 in
set_option maxRecDepth 100000 in
theorem c_X1_clearColumn (l : Launch) (D : va_G) (ha : Nat → Nat) (cy : Nat → ClassId) (sz : Nat) (σ : lf_St) (x1 : Int32) (x2 : Int64) (Post : lf_St → Prop) (hw : wp_X1_clearColumn x1 x2 σ Post) : lf_Mv l yX1_clearColumn (lf_ws yX1_clearColumn cX1_clearColumn 10 none) rm_X1_clearColumn D (tyC_ cy) (wC_ ha cy) sz σ [.ref (ha 16), .int x1, .long x2] Post := by
  refine lf_ofv (by decide +kernel) (Nat.le_of_ble_eq_true rfl) ?_
  intro p e s m args below meth c A ls F hh hl
  have hx := F.1.1
  have hb := F.1.2.1
  have hl : lv_has ls 10 [(0, .ref (ha 16)), (1, .int x1), (2, .long x2)] := hl
  obtain ⟨H, hHe⟩ : ∃ H, H = s.heap := ⟨_, rfl⟩
  rw [← hHe] at hh ⊢
  unfold wp_X1_clearColumn at hw
  refine lv_lload_n hx hb dX1_clearColumn_0 rfl (lv_at hl 2 rfl) ?_
  refine lv_lconst (v := 0) hx hb dX1_clearColumn_1 (by decide) ?_
  refine lf_lcmp_ne (tgt := 7) hx hb dX1_clearColumn_2 dX1_clearColumn_3 (by decide) (fun c1 => ?_) (fun c1 => ?_)
  · have hw := hw.1 c1
    refine lv_aload_n hx hb dX1_clearColumn_7 rfl (lv_at hl 0 rfl) ?_
    refine fg_X1_11 F hh dX1_clearColumn_8 ?_
    refine lv_iload_n hx hb dX1_clearColumn_11 rfl (lv_at hl 1 rfl) ?_
    obtain ⟨q2, hw⟩ := hw
    refine ra_C_table F hh q2 dX1_clearColumn_12 ?_
    refine lv_iload_n hx hb dX1_clearColumn_13 rfl (lv_at hl 1 rfl) ?_
    obtain ⟨q3, hw⟩ := hw
    refine ra_C_row F hh (x1.toNatClampNeg) (lf_in6 q2) q3 dX1_clearColumn_14 ?_
    refine lv_topl (fun v4 ev4 => ?_)
    have hw := hw v4 ev4
    refine lv_lstore (lv' := [(4, .long v4), (0, .ref (ha 16)), (1, .int x1), (2, .long x2)]) hx hb dX1_clearColumn_15 hl (by decide) rfl (fun ls hl => ?_)
    refine lv_iconst (v := 0) hx hb dX1_clearColumn_17 (by decide) ?_
    refine lv_istore (lv' := [(6, .int 0), (4, .long v4), (0, .ref (ha 16)), (1, .int x1), (2, .long x2)]) hx hb dX1_clearColumn_18 hl (by decide) rfl (fun ls hl => ?_)
    obtain ⟨n20, hw⟩ := hw
    exact w_X1_clearColumn_20 Post F  n20 x1 x2 v4 0 σ _ _ _ hh (lv_sub hl [2, 3, 4, 1, 0] rfl) hw
  · have hw := hw.2 c1
    exact lf_retv F hh hw dX1_clearColumn_6
def L_X1_rowWithPivot_2 (Post : Int32 → lf_St → Prop) : Nat → Int32 → Int32 → lf_St → Prop
  | 0, _, _, _ => False
  | n + 1, x1, x2, σ => (((lf_gi σ 7) ≤ x2) → (Post (-1) σ)) ∧ ((¬ ((lf_gi σ 7) ≤ x2)) → (vp_in x2 6 ∧ (vp_in x1 12 ∧ ((((lf_al σ (32 + x2.toNatClampNeg) x1.toNatClampNeg) = 0) → (∀ v5 : Int32, v5 = x2 + 1 → (L_X1_rowWithPivot_2 Post n x1 v5 σ))) ∧ ((¬ ((lf_al σ (32 + x2.toNatClampNeg) x1.toNatClampNeg) = 0)) → (Post x2 σ))))))
def wp_X1_rowWithPivot (x1 : Int32) (σ : lf_St) (Post : Int32 → lf_St → Prop) : Prop := ∃ fu : Nat, L_X1_rowWithPivot_2 Post fu x1 x1 σ
def rm_X1_rowWithPivot : Room := ({ frames := 0, cells := 0, slots := 0, locals := 0 } : Room)
set_option maxHeartbeats 4000000 in
set_option maxRecDepth 100000 in
theorem w_X1_rowWithPivot_2 {p : Program} {l : Launch} {e : Env} {s : State} {m : MethodId} {args : Array Value} {below : List Frame} {meth : Method} {c : Code} {D : va_G} {A : Nat → Prop} {ha : Nat → Nat} {cy : Nat → ClassId} (Post : Int32 → lf_St → Prop) (F : lf_C p s m args meth c RX1 cX1_rowWithPivot 3 (some .int) D (tyC_ cy) A) : ∀ (n : Nat) (x1 : Int32) (x2 : Int32) (σ : lf_St) (H : Heap) (locs : List Loc) (ls : Array Slot), lf_H D (wC_ ha cy) A s σ H locs → lv_has ls 3 [(0, .ref (ha 16)), (1, .int x1), (2, .int x2)] → L_X1_rowWithPivot_2 Post n x1 x2 σ → W p l e rm_X1_rowWithPivot s m args below meth c H locs 0 0 (lf_Qi below args s D (tyC_ cy) A (wC_ ha cy) Post) (F0 m 2 ls []) := by
  have hx := F.1.1
  have hb := F.1.2.1
  intro n
  induction n with
  | zero =>
    intro x1 x2 σ H locs ls hh hl hw
    exact False.elim hw
  | succ n ih =>
    intro x1 x2 σ H locs ls hh hl hw
    unfold L_X1_rowWithPivot_2 at hw
    refine lv_iload_n hx hb dX1_rowWithPivot_2 rfl (lv_at hl 2 rfl) ?_
    refine lv_aload_n hx hb dX1_rowWithPivot_3 rfl (lv_at hl 0 rfl) ?_
    refine fg_X1_34 F hh dX1_rowWithPivot_4 ?_
    refine lv_icmp_ge (tgt := 31) hx hb dX1_rowWithPivot_7 (by decide) (fun c1 => ?_) (fun c1 => ?_)
    · have hw := hw.1 c1
      refine lv_iconst (v := (-1)) hx hb dX1_rowWithPivot_31 (by decide) ?_
      exact lf_reti F hh hw dX1_rowWithPivot_32
    · have hw := hw.2 c1
      refine lv_aload_n hx hb dX1_rowWithPivot_10 rfl (lv_at hl 0 rfl) ?_
      refine fg_X1_11 F hh dX1_rowWithPivot_11 ?_
      refine lv_iload_n hx hb dX1_rowWithPivot_14 rfl (lv_at hl 2 rfl) ?_
      obtain ⟨q2, hw⟩ := hw
      refine ra_C_table F hh q2 dX1_rowWithPivot_15 ?_
      refine lv_iload_n hx hb dX1_rowWithPivot_16 rfl (lv_at hl 1 rfl) ?_
      obtain ⟨q3, hw⟩ := hw
      refine ra_C_row F hh (x2.toNatClampNeg) (lf_in6 q2) q3 dX1_rowWithPivot_17 ?_
      refine lv_lconst (v := 0) hx hb dX1_rowWithPivot_18 (by decide) ?_
      refine lf_lcmp_eq (tgt := 25) hx hb dX1_rowWithPivot_19 dX1_rowWithPivot_20 (by decide) (fun c4 => ?_) (fun c4 => ?_)
      · have hw := hw.1 c4
        obtain ⟨v5, ev5⟩ : ∃ y : Int32, y = x2 + 1 := ⟨_, rfl⟩
        have hw := hw v5 ev5
        refine lv_iinc (v := v5) (lv' := [(2, .int v5), (0, .ref (ha 16)), (1, .int x1)]) hx hb dX1_rowWithPivot_25 hl (k := 2) rfl (by rw [ev5]; rfl) (by decide) rfl (fun ls hl => ?_)
        refine lv_goto (tgt := 2) hx hb dX1_rowWithPivot_28 (by decide) ?_
        exact ih x1 v5 σ _ _ _ hh (lv_sub hl [1, 2, 0] rfl) hw
      · have hw := hw.2 c4
        refine lv_iload_n hx hb dX1_rowWithPivot_23 rfl (lv_at hl 2 rfl) ?_
        exact lf_reti F hh hw dX1_rowWithPivot_24
set_option maxHeartbeats 4000000 in
set_option maxRecDepth 100000 in
theorem c_X1_rowWithPivot (l : Launch) (D : va_G) (ha : Nat → Nat) (cy : Nat → ClassId) (sz : Nat) (σ : lf_St) (x1 : Int32) (Post : Int32 → lf_St → Prop) (hw : wp_X1_rowWithPivot x1 σ Post) : lf_Mi l yX1_rowWithPivot (lf_ws yX1_rowWithPivot cX1_rowWithPivot 3 (some .int)) rm_X1_rowWithPivot D (tyC_ cy) (wC_ ha cy) sz σ [.ref (ha 16), .int x1] Post := by
  refine lf_ofi (by decide +kernel) (Nat.le_of_ble_eq_true rfl) ?_
  intro p e s m args below meth c A ls F hh hl
  have hx := F.1.1
  have hb := F.1.2.1
  have hl : lv_has ls 3 [(0, .ref (ha 16)), (1, .int x1)] := hl
  obtain ⟨H, hHe⟩ : ∃ H, H = s.heap := ⟨_, rfl⟩
  rw [← hHe] at hh ⊢
  unfold wp_X1_rowWithPivot at hw
  refine lv_iload_n hx hb dX1_rowWithPivot_0 rfl (lv_at hl 1 rfl) ?_
  refine lv_istore_n (lv' := [(2, .int x1), (0, .ref (ha 16)), (1, .int x1)]) hx hb dX1_rowWithPivot_1 rfl hl (by decide) rfl (fun ls hl => ?_)
  obtain ⟨n2, hw⟩ := hw
  exact w_X1_rowWithPivot_2 Post F  n2 x1 x1 σ _ _ _ hh (lv_sub hl [1, 2, 0] rfl) hw
def L_X1_swapRows_2 (Post : lf_St → Prop) : Nat → Int32 → Int32 → Int32 → lf_St → Prop
  | 0, _, _, _, _ => False
  | n + 1, x1, x2, x3, σ => (((2 * (lf_gi σ 7)) ≤ x3) → (Post σ)) ∧ ((¬ ((2 * (lf_gi σ 7)) ≤ x3)) → (vp_in x1 6 ∧ (vp_in x3 12 ∧ (∀ v4 : Int64, v4 = (lf_al σ (32 + x1.toNatClampNeg) x3.toNatClampNeg) → (vp_in x1 6 ∧ (vp_in x2 6 ∧ (vp_in x3 12 ∧ (vp_in x3 12 ∧ (vp_in x2 6 ∧ (vp_in x3 12 ∧ (∀ v11 : Int32, v11 = x3 + 1 → (L_X1_swapRows_2 Post n x1 x2 v11 (lf_sb (lf_sb σ (32 + x1.toNatClampNeg) x3.toNatClampNeg (lf_al σ (32 + x2.toNatClampNeg) x3.toNatClampNeg)) (32 + x2.toNatClampNeg) x3.toNatClampNeg v4)))))))))))))
def wp_X1_swapRows (x1 : Int32) (x2 : Int32) (σ : lf_St) (Post : lf_St → Prop) : Prop := ∃ fu : Nat, L_X1_swapRows_2 Post fu x1 x2 0 σ
def rm_X1_swapRows : Room := ({ frames := 0, cells := 0, slots := 0, locals := 0 } : Room)
set_option maxHeartbeats 4000000 in
set_option maxRecDepth 100000 in
theorem w_X1_swapRows_2 {p : Program} {l : Launch} {e : Env} {s : State} {m : MethodId} {args : Array Value} {below : List Frame} {meth : Method} {c : Code} {D : va_G} {A : Nat → Prop} {ha : Nat → Nat} {cy : Nat → ClassId} (Post : lf_St → Prop) (F : lf_C p s m args meth c RX1 cX1_swapRows 6 none D (tyC_ cy) A) : ∀ (n : Nat) (x1 : Int32) (x2 : Int32) (x3 : Int32) (σ : lf_St) (H : Heap) (locs : List Loc) (ls : Array Slot), lf_H D (wC_ ha cy) A s σ H locs → lv_has ls 6 [(0, .ref (ha 16)), (1, .int x1), (2, .int x2), (3, .int x3)] → L_X1_swapRows_2 Post n x1 x2 x3 σ → W p l e rm_X1_swapRows s m args below meth c H locs 0 0 (lf_Qv below args s D (tyC_ cy) A (wC_ ha cy) Post) (F0 m 2 ls []) := by
  have hx := F.1.1
  have hb := F.1.2.1
  intro n
  induction n with
  | zero =>
    intro x1 x2 x3 σ H locs ls hh hl hw
    exact False.elim hw
  | succ n ih =>
    intro x1 x2 x3 σ H locs ls hh hl hw
    unfold L_X1_swapRows_2 at hw
    refine lv_iload_n hx hb dX1_swapRows_2 rfl (lv_at hl 3 rfl) ?_
    refine lv_iconst (v := 2) hx hb dX1_swapRows_3 (by decide) ?_
    refine lv_aload_n hx hb dX1_swapRows_4 rfl (lv_at hl 0 rfl) ?_
    refine fg_X1_34 F hh dX1_swapRows_5 ?_
    refine lv_imul hx hb dX1_swapRows_8 ?_
    refine lv_icmp_ge (tgt := 54) hx hb dX1_swapRows_9 (by decide) (fun c1 => ?_) (fun c1 => ?_)
    · have hw := hw.1 c1
      exact lf_retv F hh hw dX1_swapRows_54
    · have hw := hw.2 c1
      refine lv_aload_n hx hb dX1_swapRows_12 rfl (lv_at hl 0 rfl) ?_
      refine fg_X1_11 F hh dX1_swapRows_13 ?_
      refine lv_iload_n hx hb dX1_swapRows_16 rfl (lv_at hl 1 rfl) ?_
      obtain ⟨q2, hw⟩ := hw
      refine ra_C_table F hh q2 dX1_swapRows_17 ?_
      refine lv_iload_n hx hb dX1_swapRows_18 rfl (lv_at hl 3 rfl) ?_
      obtain ⟨q3, hw⟩ := hw
      refine ra_C_row F hh (x1.toNatClampNeg) (lf_in6 q2) q3 dX1_swapRows_19 ?_
      refine lv_topl (fun v4 ev4 => ?_)
      have hw := hw v4 ev4
      refine lv_lstore (lv' := [(4, .long v4), (0, .ref (ha 16)), (1, .int x1), (2, .int x2), (3, .int x3)]) hx hb dX1_swapRows_20 hl (by decide) rfl (fun ls hl => ?_)
      refine lv_aload_n hx hb dX1_swapRows_22 rfl (lv_at hl 1 rfl) ?_
      refine fg_X1_11 F hh dX1_swapRows_23 ?_
      refine lv_iload_n hx hb dX1_swapRows_26 rfl (lv_at hl 2 rfl) ?_
      obtain ⟨q5, hw⟩ := hw
      refine ra_C_table F hh q5 dX1_swapRows_27 ?_
      refine lv_iload_n hx hb dX1_swapRows_28 rfl (lv_at hl 4 rfl) ?_
      refine lv_aload_n hx hb dX1_swapRows_29 rfl (lv_at hl 1 rfl) ?_
      refine fg_X1_11 F hh dX1_swapRows_30 ?_
      refine lv_iload_n hx hb dX1_swapRows_33 rfl (lv_at hl 3 rfl) ?_
      obtain ⟨q6, hw⟩ := hw
      refine ra_C_table F hh q6 dX1_swapRows_34 ?_
      refine lv_iload_n hx hb dX1_swapRows_35 rfl (lv_at hl 4 rfl) ?_
      obtain ⟨q7, hw⟩ := hw
      refine ra_C_row F hh (x2.toNatClampNeg) (lf_in6 q6) q7 dX1_swapRows_36 ?_
      obtain ⟨q8, hw⟩ := hw
      refine wa_C_row F hh (x1.toNatClampNeg) (lf_in6 q5) q8 dX1_swapRows_37 (fun H locs hh => ?_)
      refine lv_aload_n hx hb dX1_swapRows_38 rfl (lv_at hl 1 rfl) ?_
      refine fg_X1_11 F hh dX1_swapRows_39 ?_
      refine lv_iload_n hx hb dX1_swapRows_42 rfl (lv_at hl 3 rfl) ?_
      obtain ⟨q9, hw⟩ := hw
      refine ra_C_table F hh q9 dX1_swapRows_43 ?_
      refine lv_iload_n hx hb dX1_swapRows_44 rfl (lv_at hl 4 rfl) ?_
      refine lv_lload hx hb dX1_swapRows_45 (lv_at hl 0 rfl) ?_
      obtain ⟨q10, hw⟩ := hw
      refine wa_C_row F hh (x2.toNatClampNeg) (lf_in6 q9) q10 dX1_swapRows_47 (fun H locs hh => ?_)
      obtain ⟨v11, ev11⟩ : ∃ y : Int32, y = x3 + 1 := ⟨_, rfl⟩
      have hw := hw v11 ev11
      refine lv_iinc (v := v11) (lv' := [(3, .int v11), (4, .long v4), (0, .ref (ha 16)), (1, .int x1), (2, .int x2)]) hx hb dX1_swapRows_48 hl (k := 4) rfl (by rw [ev11]; rfl) (by decide) rfl (fun ls hl => ?_)
      refine lv_goto (tgt := 2) hx hb dX1_swapRows_51 (by decide) ?_
      exact ih x1 x2 v11 (lf_sb (lf_sb σ (32 + x1.toNatClampNeg) x3.toNatClampNeg (lf_al σ (32 + x2.toNatClampNeg) x3.toNatClampNeg)) (32 + x2.toNatClampNeg) x3.toNatClampNeg v4) _ _ _ hh (lv_sub hl [2, 3, 4, 0] rfl) hw
set_option maxHeartbeats 4000000 in
set_option maxRecDepth 100000 in
theorem c_X1_swapRows (l : Launch) (D : va_G) (ha : Nat → Nat) (cy : Nat → ClassId) (sz : Nat) (σ : lf_St) (x1 : Int32) (x2 : Int32) (Post : lf_St → Prop) (hw : wp_X1_swapRows x1 x2 σ Post) : lf_Mv l yX1_swapRows (lf_ws yX1_swapRows cX1_swapRows 6 none) rm_X1_swapRows D (tyC_ cy) (wC_ ha cy) sz σ [.ref (ha 16), .int x1, .int x2] Post := by
  refine lf_ofv (by decide +kernel) (Nat.le_of_ble_eq_true rfl) ?_
  intro p e s m args below meth c A ls F hh hl
  have hx := F.1.1
  have hb := F.1.2.1
  have hl : lv_has ls 6 [(0, .ref (ha 16)), (1, .int x1), (2, .int x2)] := hl
  obtain ⟨H, hHe⟩ : ∃ H, H = s.heap := ⟨_, rfl⟩
  rw [← hHe] at hh ⊢
  unfold wp_X1_swapRows at hw
  refine lv_iconst (v := 0) hx hb dX1_swapRows_0 (by decide) ?_
  refine lv_istore_n (lv' := [(3, .int 0), (0, .ref (ha 16)), (1, .int x1), (2, .int x2)]) hx hb dX1_swapRows_1 rfl hl (by decide) rfl (fun ls hl => ?_)
  obtain ⟨n2, hw⟩ := hw
  exact w_X1_swapRows_2 Post F  n2 x1 x2 0 σ _ _ _ hh (lv_sub hl [1, 2, 3, 0] rfl) hw
def L_X1_turnSigns_24 (K_11 : Int32 → lf_St → Prop) (Post : lf_St → Prop) : Nat → Int32 → Int32 → lf_St → Prop
  | 0, _, _, _ => False
  | n + 1, x1, x2, σ => (((2 * (lf_gi σ 7)) ≤ x2) → (∀ v2 : Int32, v2 = x1 + 1 → (K_11 v2 σ))) ∧ ((¬ ((2 * (lf_gi σ 7)) ≤ x2)) → (vp_in x1 6 ∧ (vp_in x1 6 ∧ (vp_in x2 12 ∧ (vp_in x2 12 ∧ (∀ v7 : Int32, v7 = x2 + 1 → (L_X1_turnSigns_24 K_11 Post n x1 v7 (lf_sb σ (32 + x1.toNatClampNeg) x2.toNatClampNeg (-(lf_al σ (32 + x1.toNatClampNeg) x2.toNatClampNeg))))))))))
def L_X1_turnSigns_11 (Post : lf_St → Prop) : Nat → Int32 → lf_St → Prop
  | 0, _, _ => False
  | n + 1, x1, σ => (((lf_gi σ 7) ≤ x1) → (Post σ)) ∧ ((¬ ((lf_gi σ 7) ≤ x1)) → (∀ v2 : Int32, v2 = (lf_gi σ 7) → (∃ fu : Nat, L_X1_turnSigns_24 (L_X1_turnSigns_11 Post n) Post fu x1 v2 σ)))
def wp_X1_turnSigns (σ : lf_St) (Post : lf_St → Prop) : Prop := ∃ fu : Nat, L_X1_turnSigns_11 Post fu 0 (lf_sl σ 0 (-(lf_gl σ 0)))
def rm_X1_turnSigns : Room := ({ frames := 0, cells := 0, slots := 0, locals := 0 } : Room)
set_option maxHeartbeats 4000000 in
set_option maxRecDepth 100000 in
theorem w_X1_turnSigns_24 {p : Program} {l : Launch} {e : Env} {s : State} {m : MethodId} {args : Array Value} {below : List Frame} {meth : Method} {c : Code} {D : va_G} {A : Nat → Prop} {ha : Nat → Nat} {cy : Nat → ClassId} (K_11 : Int32 → lf_St → Prop) (Post : lf_St → Prop) (F : lf_C p s m args meth c RX1 cX1_turnSigns 3 none D (tyC_ cy) A) (hK_11 : ∀ (x1 : Int32) (σ : lf_St) (H : Heap) (locs : List Loc) (ls : Array Slot), lf_H D (wC_ ha cy) A s σ H locs → lv_has ls 3 [(0, .ref (ha 16)), (1, .int x1)] → K_11 x1 σ → W p l e rm_X1_turnSigns s m args below meth c H locs 0 0 (lf_Qv below args s D (tyC_ cy) A (wC_ ha cy) Post) (F0 m 11 ls [])) : ∀ (n : Nat) (x1 : Int32) (x2 : Int32) (σ : lf_St) (H : Heap) (locs : List Loc) (ls : Array Slot), lf_H D (wC_ ha cy) A s σ H locs → lv_has ls 3 [(0, .ref (ha 16)), (1, .int x1), (2, .int x2)] → L_X1_turnSigns_24 K_11 Post n x1 x2 σ → W p l e rm_X1_turnSigns s m args below meth c H locs 0 0 (lf_Qv below args s D (tyC_ cy) A (wC_ ha cy) Post) (F0 m 24 ls []) := by
  have hx := F.1.1
  have hb := F.1.2.1
  intro n
  induction n with
  | zero =>
    intro x1 x2 σ H locs ls hh hl hw
    exact False.elim hw
  | succ n ih =>
    intro x1 x2 σ H locs ls hh hl hw
    unfold L_X1_turnSigns_24 at hw
    refine lv_iload_n hx hb dX1_turnSigns_24 rfl (lv_at hl 2 rfl) ?_
    refine lv_iconst (v := 2) hx hb dX1_turnSigns_25 (by decide) ?_
    refine lv_aload_n hx hb dX1_turnSigns_26 rfl (lv_at hl 0 rfl) ?_
    refine fg_X1_34 F hh dX1_turnSigns_27 ?_
    refine lv_imul hx hb dX1_turnSigns_30 ?_
    refine lv_icmp_ge (tgt := 57) hx hb dX1_turnSigns_31 (by decide) (fun c1 => ?_) (fun c1 => ?_)
    · have hw := hw.1 c1
      obtain ⟨v2, ev2⟩ : ∃ y : Int32, y = x1 + 1 := ⟨_, rfl⟩
      have hw := hw v2 ev2
      refine lv_iinc (v := v2) (lv' := [(1, .int v2), (0, .ref (ha 16)), (2, .int x2)]) hx hb dX1_turnSigns_57 hl (k := 1) rfl (by rw [ev2]; rfl) (by decide) rfl (fun ls hl => ?_)
      refine lv_goto (tgt := 11) hx hb dX1_turnSigns_60 (by decide) ?_
      exact hK_11 v2 σ _ _ _ hh (lv_sub hl [1, 0] rfl) hw
    · have hw := hw.2 c1
      refine lv_aload_n hx hb dX1_turnSigns_34 rfl (lv_at hl 0 rfl) ?_
      refine fg_X1_11 F hh dX1_turnSigns_35 ?_
      refine lv_iload_n hx hb dX1_turnSigns_38 rfl (lv_at hl 1 rfl) ?_
      obtain ⟨q3, hw⟩ := hw
      refine ra_C_table F hh q3 dX1_turnSigns_39 ?_
      refine lv_iload_n hx hb dX1_turnSigns_40 rfl (lv_at hl 2 rfl) ?_
      refine lv_aload_n hx hb dX1_turnSigns_41 rfl (lv_at hl 0 rfl) ?_
      refine fg_X1_11 F hh dX1_turnSigns_42 ?_
      refine lv_iload_n hx hb dX1_turnSigns_45 rfl (lv_at hl 1 rfl) ?_
      obtain ⟨q4, hw⟩ := hw
      refine ra_C_table F hh q4 dX1_turnSigns_46 ?_
      refine lv_iload_n hx hb dX1_turnSigns_47 rfl (lv_at hl 2 rfl) ?_
      obtain ⟨q5, hw⟩ := hw
      refine ra_C_row F hh (x1.toNatClampNeg) (lf_in6 q4) q5 dX1_turnSigns_48 ?_
      refine lv_lneg hx hb dX1_turnSigns_49 ?_
      obtain ⟨q6, hw⟩ := hw
      refine wa_C_row F hh (x1.toNatClampNeg) (lf_in6 q3) q6 dX1_turnSigns_50 (fun H locs hh => ?_)
      obtain ⟨v7, ev7⟩ : ∃ y : Int32, y = x2 + 1 := ⟨_, rfl⟩
      have hw := hw v7 ev7
      refine lv_iinc (v := v7) (lv' := [(2, .int v7), (0, .ref (ha 16)), (1, .int x1)]) hx hb dX1_turnSigns_51 hl (k := 2) rfl (by rw [ev7]; rfl) (by decide) rfl (fun ls hl => ?_)
      refine lv_goto (tgt := 24) hx hb dX1_turnSigns_54 (by decide) ?_
      exact ih x1 v7 (lf_sb σ (32 + x1.toNatClampNeg) x2.toNatClampNeg (-(lf_al σ (32 + x1.toNatClampNeg) x2.toNatClampNeg))) _ _ _ hh (lv_sub hl [1, 2, 0] rfl) hw
set_option maxHeartbeats 4000000 in
set_option maxRecDepth 100000 in
theorem w_X1_turnSigns_11 {p : Program} {l : Launch} {e : Env} {s : State} {m : MethodId} {args : Array Value} {below : List Frame} {meth : Method} {c : Code} {D : va_G} {A : Nat → Prop} {ha : Nat → Nat} {cy : Nat → ClassId} (Post : lf_St → Prop) (F : lf_C p s m args meth c RX1 cX1_turnSigns 3 none D (tyC_ cy) A) : ∀ (n : Nat) (x1 : Int32) (σ : lf_St) (H : Heap) (locs : List Loc) (ls : Array Slot), lf_H D (wC_ ha cy) A s σ H locs → lv_has ls 3 [(0, .ref (ha 16)), (1, .int x1)] → L_X1_turnSigns_11 Post n x1 σ → W p l e rm_X1_turnSigns s m args below meth c H locs 0 0 (lf_Qv below args s D (tyC_ cy) A (wC_ ha cy) Post) (F0 m 11 ls []) := by
  have hx := F.1.1
  have hb := F.1.2.1
  intro n
  induction n with
  | zero =>
    intro x1 σ H locs ls hh hl hw
    exact False.elim hw
  | succ n ih =>
    intro x1 σ H locs ls hh hl hw
    unfold L_X1_turnSigns_11 at hw
    refine lv_iload_n hx hb dX1_turnSigns_11 rfl (lv_at hl 1 rfl) ?_
    refine lv_aload_n hx hb dX1_turnSigns_12 rfl (lv_at hl 0 rfl) ?_
    refine fg_X1_34 F hh dX1_turnSigns_13 ?_
    refine lv_icmp_ge (tgt := 63) hx hb dX1_turnSigns_16 (by decide) (fun c1 => ?_) (fun c1 => ?_)
    · have hw := hw.1 c1
      exact lf_retv F hh hw dX1_turnSigns_63
    · have hw := hw.2 c1
      refine lv_aload_n hx hb dX1_turnSigns_19 rfl (lv_at hl 0 rfl) ?_
      refine fg_X1_34 F hh dX1_turnSigns_20 ?_
      refine lv_topi (fun v2 ev2 => ?_)
      have hw := hw v2 ev2
      refine lv_istore_n (lv' := [(2, .int v2), (0, .ref (ha 16)), (1, .int x1)]) hx hb dX1_turnSigns_23 rfl hl (by decide) rfl (fun ls hl => ?_)
      obtain ⟨n24, hw⟩ := hw
      exact w_X1_turnSigns_24 _ Post F ih n24 x1 v2 σ _ _ _ hh (lv_sub hl [1, 2, 0] rfl) hw
set_option maxHeartbeats 4000000 in
set_option maxRecDepth 100000 in
theorem c_X1_turnSigns (l : Launch) (D : va_G) (ha : Nat → Nat) (cy : Nat → ClassId) (sz : Nat) (σ : lf_St) (Post : lf_St → Prop) (hw : wp_X1_turnSigns σ Post) : lf_Mv l yX1_turnSigns (lf_ws yX1_turnSigns cX1_turnSigns 3 none) rm_X1_turnSigns D (tyC_ cy) (wC_ ha cy) sz σ [.ref (ha 16)] Post := by
  refine lf_ofv (by decide +kernel) (Nat.le_of_ble_eq_true rfl) ?_
  intro p e s m args below meth c A ls F hh hl
  have hx := F.1.1
  have hb := F.1.2.1
  have hl : lv_has ls 3 [(0, .ref (ha 16))] := hl
  obtain ⟨H, hHe⟩ : ∃ H, H = s.heap := ⟨_, rfl⟩
  rw [← hHe] at hh ⊢
  unfold wp_X1_turnSigns at hw
  refine lv_aload_n hx hb dX1_turnSigns_0 rfl (lv_at hl 0 rfl) ?_
  refine lv_aload_n hx hb dX1_turnSigns_1 rfl (lv_at hl 0 rfl) ?_
  refine fg_X1_20 F hh dX1_turnSigns_2 ?_
  refine lv_lneg hx hb dX1_turnSigns_5 ?_
  refine fp_X1_20 F hh dX1_turnSigns_6 (fun H locs hh => ?_)
  refine lv_iconst (v := 0) hx hb dX1_turnSigns_9 (by decide) ?_
  refine lv_istore_n (lv' := [(1, .int 0), (0, .ref (ha 16))]) hx hb dX1_turnSigns_10 rfl hl (by decide) rfl (fun ls hl => ?_)
  obtain ⟨n11, hw⟩ := hw
  exact w_X1_turnSigns_11 Post F  n11 0 (lf_sl σ 0 (-(lf_gl σ 0))) _ _ _ hh (lv_sub hl [1, 0] rfl) hw
