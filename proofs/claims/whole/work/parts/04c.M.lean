def L_X6_determinant_240 (K_225 : Int64 → Int64 → Int32 → Int32 → lf_St → Prop) (Post : Int64 → lf_St → Prop) : Nat → Int64 → Int64 → Int32 → Int32 → Int32 → lf_St → Prop
  | 0, _, _, _, _, _, _ => False
  | n + 1, x2, x4, x6, x8, x9, σ => (((lf_gi σ 14) ≤ x9) → (∀ v2 : Int32, v2 = x8 + 1 → (K_225 x2 x4 x6 v2 σ))) ∧ ((¬ ((lf_gi σ 14) ≤ x9)) → (vp_in ((6 * x8) + x9) 36 ∧ (vp_in ((6 * x6) + x6) 36 ∧ (vp_in ((6 * x8) + x6) 36 ∧ (vp_in ((6 * x6) + x9) 36 ∧ ((¬ x2 = 0) ∧ (vp_in ((6 * x8) + x9) 36 ∧ (∀ v9 : Int32, v9 = x9 + 1 → (L_X6_determinant_240 K_225 Post n x2 x4 x6 x8 v9 (lf_sb σ 16 (((6 * x8) + x9) : Int32).toNatClampNeg ((((lf_al σ 16 (((6 * x8) + x9) : Int32).toNatClampNeg) * (lf_al σ 16 (((6 * x6) + x6) : Int32).toNatClampNeg)) - ((lf_al σ 16 (((6 * x8) + x6) : Int32).toNatClampNeg) * (lf_al σ 16 (((6 * x6) + x9) : Int32).toNatClampNeg))) / x2)))))))))))
def L_X6_determinant_225 (K_76 : Int64 → Int64 → Int32 → lf_St → Prop) (Post : Int64 → lf_St → Prop) : Nat → Int64 → Int64 → Int32 → Int32 → lf_St → Prop
  | 0, _, _, _, _, _ => False
  | n + 1, x2, x4, x6, x8, σ => (((lf_gi σ 14) ≤ x8) → (vp_in ((6 * x6) + x6) 36 ∧ (∀ v3 : Int64, v3 = (lf_al σ 16 (((6 * x6) + x6) : Int32).toNatClampNeg) → (∀ v4 : Int32, v4 = x6 + 1 → (K_76 v3 x4 v4 σ))))) ∧ ((¬ ((lf_gi σ 14) ≤ x8)) → (∀ v5 : Int32, v5 = (x6 + 1) → (∃ fu : Nat, L_X6_determinant_240 (L_X6_determinant_225 K_76 Post n) Post fu x2 x4 x6 x8 v5 σ)))
def L_X6_determinant_143 (K_76 : Int64 → Int64 → Int32 → lf_St → Prop) (Post : Int64 → lf_St → Prop) : Nat → Int64 → Int64 → Int32 → Int32 → Int32 → lf_St → Prop
  | 0, _, _, _, _, _, _ => False
  | n + 1, x2, x4, x6, x7, x8, σ => (((lf_gi σ 14) ≤ x8) → (∀ v2 : Int64, v2 = (-x4) → (∀ v3 : Int32, v3 = (x6 + 1) → (∃ fu : Nat, L_X6_determinant_225 K_76 Post fu x2 v2 x6 v3 σ)))) ∧ ((¬ ((lf_gi σ 14) ≤ x8)) → (vp_in ((6 * x7) + x8) 36 ∧ (∀ v5 : Int64, v5 = (lf_al σ 16 (((6 * x7) + x8) : Int32).toNatClampNeg) → (vp_in ((6 * x6) + x8) 36 ∧ (vp_in ((6 * x7) + x8) 36 ∧ (vp_in ((6 * x6) + x8) 36 ∧ (∀ v9 : Int32, v9 = x8 + 1 → (L_X6_determinant_143 K_76 Post n x2 x4 x6 x7 v9 (lf_sb (lf_sb σ 16 (((6 * x7) + x8) : Int32).toNatClampNeg (lf_al σ 16 (((6 * x6) + x8) : Int32).toNatClampNeg)) 16 (((6 * x6) + x8) : Int32).toNatClampNeg v5)))))))))
def J_X6_determinant_122 (K_76 : Int64 → Int64 → Int32 → lf_St → Prop) (Post : Int64 → lf_St → Prop) (x2 : Int64) (x4 : Int64) (x6 : Int32) (x7 : Int32) (σ : lf_St) : Prop := ((¬ x7 = (lf_gi σ 14)) → (((x7 = x6) → (∀ v3 : Int32, v3 = (x6 + 1) → (∃ fu : Nat, L_X6_determinant_225 K_76 Post fu x2 x4 x6 v3 σ))) ∧ ((¬ (x7 = x6)) → (∃ fu : Nat, L_X6_determinant_143 K_76 Post fu x2 x4 x6 x7 0 σ)))) ∧ ((x7 = (lf_gi σ 14)) → (Post 0 σ))
def L_X6_determinant_89 (K_76 : Int64 → Int64 → Int32 → lf_St → Prop) (Post : Int64 → lf_St → Prop) : Nat → Int64 → Int64 → Int32 → Int32 → lf_St → Prop
  | 0, _, _, _, _, _ => False
  | n + 1, x2, x4, x6, x7, σ => (((lf_gi σ 14) ≤ x7) → (J_X6_determinant_122 K_76 Post x2 x4 x6 x7 σ)) ∧ ((¬ ((lf_gi σ 14) ≤ x7)) → (vp_in ((6 * x7) + x6) 36 ∧ (((¬ (lf_al σ 16 (((6 * x7) + x6) : Int32).toNatClampNeg) = 0) → (J_X6_determinant_122 K_76 Post x2 x4 x6 x7 σ)) ∧ (((lf_al σ 16 (((6 * x7) + x6) : Int32).toNatClampNeg) = 0) → (∀ v4 : Int32, v4 = x7 + 1 → (L_X6_determinant_89 K_76 Post n x2 x4 x6 v4 σ))))))
def L_X6_determinant_76 (Post : Int64 → lf_St → Prop) : Nat → Int64 → Int64 → Int32 → lf_St → Prop
  | 0, _, _, _, _ => False
  | n + 1, x2, x4, x6, σ => (((lf_gi σ 14) ≤ x6) → (Post (x4 * x2) σ)) ∧ ((¬ ((lf_gi σ 14) ≤ x6)) → (∃ fu : Nat, L_X6_determinant_89 (L_X6_determinant_76 Post n) Post fu x2 x4 x6 x6 σ))
def L_X6_determinant_12 (K_2 : Int32 → Int32 → lf_St → Prop) (Post : Int64 → lf_St → Prop) : Nat → Int32 → Int32 → Int32 → lf_St → Prop
  | 0, _, _, _, _ => False
  | n + 1, x1, x2, x3, σ => (((lf_gi σ 14) ≤ x3) → (∀ v2 : Int32, v2 = x2 + 1 → (K_2 x1 v2 σ))) ∧ ((¬ ((lf_gi σ 14) ≤ x3)) → (((¬ x3 = x1) → (vp_in ((6 * x2) + x3) 36 ∧ (vp_in ((6 * x2) + x3) 36 ∧ (∀ v6 : Int32, v6 = x3 + 1 → (L_X6_determinant_12 K_2 Post n x1 x2 v6 (lf_sb σ 16 (((6 * x2) + x3) : Int32).toNatClampNeg (lf_al σ 15 (((6 * x2) + x3) : Int32).toNatClampNeg))))))) ∧ ((x3 = x1) → (vp_in x2 6 ∧ (vp_in ((6 * x2) + x3) 36 ∧ (∀ v9 : Int32, v9 = x3 + 1 → (L_X6_determinant_12 K_2 Post n x1 x2 v9 (lf_sb σ 16 (((6 * x2) + x3) : Int32).toNatClampNeg (lf_al σ 17 x2.toNatClampNeg)))))))))
def L_X6_determinant_2 (Post : Int64 → lf_St → Prop) : Nat → Int32 → Int32 → lf_St → Prop
  | 0, _, _, _ => False
  | n + 1, x1, x2, σ => (((lf_gi σ 14) ≤ x2) → (∃ fu : Nat, L_X6_determinant_76 Post fu 1 1 0 σ)) ∧ ((¬ ((lf_gi σ 14) ≤ x2)) → (∃ fu : Nat, L_X6_determinant_12 (L_X6_determinant_2 Post n) Post fu x1 x2 0 σ))
def wp_X6_determinant (x1 : Int32) (σ : lf_St) (Post : Int64 → lf_St → Prop) : Prop := ∃ fu : Nat, L_X6_determinant_2 Post fu x1 0 σ
def rm_X6_determinant : Room := ({ frames := 0, cells := 0, slots := 0, locals := 0 } : Room)
set_option maxHeartbeats 4000000 in
set_option maxRecDepth 100000 in
theorem w_X6_determinant_240 {p : Program} {l : Launch} {e : Env} {s : State} {m : MethodId} {args : Array Value} {below : List Frame} {meth : Method} {c : Code} {D : va_G} {A : Nat → Prop} {ha : Nat → Nat} {cy : Nat → ClassId} (K_225 : Int64 → Int64 → Int32 → Int32 → lf_St → Prop) (Post : Int64 → lf_St → Prop) (F : lf_C p s m args meth c RX6 cX6_determinant 11 (some .long) D (tyM_ cy) A) (hK_225 : ∀ (x2 : Int64) (x4 : Int64) (x6 : Int32) (x8 : Int32) (σ : lf_St) (H : Heap) (locs : List Loc) (ls : Array Slot), lf_H D (wM_ ha cy) A s σ H locs → lv_has ls 11 [(0, .ref (ha 0)), (2, .long x2), (4, .long x4), (6, .int x6), (8, .int x8)] → K_225 x2 x4 x6 x8 σ → W p l e rm_X6_determinant s m args below meth c H locs 0 0 (lf_Ql below args s D (tyM_ cy) A (wM_ ha cy) Post) (F0 m 225 ls [])) : ∀ (n : Nat) (x2 : Int64) (x4 : Int64) (x6 : Int32) (x8 : Int32) (x9 : Int32) (σ : lf_St) (H : Heap) (locs : List Loc) (ls : Array Slot), lf_H D (wM_ ha cy) A s σ H locs → lv_has ls 11 [(0, .ref (ha 0)), (2, .long x2), (4, .long x4), (6, .int x6), (8, .int x8), (9, .int x9)] → L_X6_determinant_240 K_225 Post n x2 x4 x6 x8 x9 σ → W p l e rm_X6_determinant s m args below meth c H locs 0 0 (lf_Ql below args s D (tyM_ cy) A (wM_ ha cy) Post) (F0 m 240 ls []) := by
  have hx := F.1.1
  have hb := F.1.2.1
  intro n
  induction n with
  | zero =>
    intro x2 x4 x6 x8 x9 σ H locs ls hh hl hw
    exact False.elim hw
  | succ n ih =>
    intro x2 x4 x6 x8 x9 σ H locs ls hh hl hw
    unfold L_X6_determinant_240 at hw
    refine lv_iload hx hb dX6_determinant_240 (lv_at hl 5 rfl) ?_
    refine lv_aload_n hx hb dX6_determinant_242 rfl (lv_at hl 0 rfl) ?_
    refine fg_X6_119 F hh dX6_determinant_243 ?_
    refine lv_icmp_ge (tgt := 325) hx hb dX6_determinant_246 (by decide) (fun c1 => ?_) (fun c1 => ?_)
    · have hw := hw.1 c1
      obtain ⟨v2, ev2⟩ : ∃ y : Int32, y = x8 + 1 := ⟨_, rfl⟩
      have hw := hw v2 ev2
      refine lv_iinc (v := v2) (lv' := [(8, .int v2), (0, .ref (ha 0)), (2, .long x2), (4, .long x4), (6, .int x6), (9, .int x9)]) hx hb dX6_determinant_325 hl (k := 4) rfl (by rw [ev2]; rfl) (by decide) rfl (fun ls hl => ?_)
      refine lv_goto (tgt := 225) hx hb dX6_determinant_328 (by decide) ?_
      exact hK_225 x2 x4 x6 v2 σ _ _ _ hh (lv_sub hl [1, 2, 3, 4, 0] rfl) hw
    · have hw := hw.2 c1
      refine lv_aload_n hx hb dX6_determinant_249 rfl (lv_at hl 0 rfl) ?_
      refine fg_X6_42 F hh dX6_determinant_250 ?_
      refine lv_bipush (v := 6) hx hb dX6_determinant_253 (by decide) ?_
      refine lv_iload hx hb dX6_determinant_255 (lv_at hl 4 rfl) ?_
      refine lv_imul hx hb dX6_determinant_257 ?_
      refine lv_iload hx hb dX6_determinant_258 (lv_at hl 5 rfl) ?_
      refine lv_iadd hx hb dX6_determinant_260 ?_
      refine lv_aload_n hx hb dX6_determinant_261 rfl (lv_at hl 0 rfl) ?_
      refine fg_X6_42 F hh dX6_determinant_262 ?_
      refine lv_bipush (v := 6) hx hb dX6_determinant_265 (by decide) ?_
      refine lv_iload hx hb dX6_determinant_267 (lv_at hl 4 rfl) ?_
      refine lv_imul hx hb dX6_determinant_269 ?_
      refine lv_iload hx hb dX6_determinant_270 (lv_at hl 5 rfl) ?_
      refine lv_iadd hx hb dX6_determinant_272 ?_
      obtain ⟨q3, hw⟩ := hw
      refine ra_M_16 F hh q3 dX6_determinant_273 ?_
      refine lv_aload_n hx hb dX6_determinant_274 rfl (lv_at hl 0 rfl) ?_
      refine fg_X6_42 F hh dX6_determinant_275 ?_
      refine lv_bipush (v := 6) hx hb dX6_determinant_278 (by decide) ?_
      refine lv_iload hx hb dX6_determinant_280 (lv_at hl 3 rfl) ?_
      refine lv_imul hx hb dX6_determinant_282 ?_
      refine lv_iload hx hb dX6_determinant_283 (lv_at hl 3 rfl) ?_
      refine lv_iadd hx hb dX6_determinant_285 ?_
      obtain ⟨q4, hw⟩ := hw
      refine ra_M_16 F hh q4 dX6_determinant_286 ?_
      refine lv_lmul hx hb dX6_determinant_287 ?_
      refine lv_aload_n hx hb dX6_determinant_288 rfl (lv_at hl 0 rfl) ?_
      refine fg_X6_42 F hh dX6_determinant_289 ?_
      refine lv_bipush (v := 6) hx hb dX6_determinant_292 (by decide) ?_
      refine lv_iload hx hb dX6_determinant_294 (lv_at hl 4 rfl) ?_
      refine lv_imul hx hb dX6_determinant_296 ?_
      refine lv_iload hx hb dX6_determinant_297 (lv_at hl 3 rfl) ?_
      refine lv_iadd hx hb dX6_determinant_299 ?_
      obtain ⟨q5, hw⟩ := hw
      refine ra_M_16 F hh q5 dX6_determinant_300 ?_
      refine lv_aload_n hx hb dX6_determinant_301 rfl (lv_at hl 0 rfl) ?_
      refine fg_X6_42 F hh dX6_determinant_302 ?_
      refine lv_bipush (v := 6) hx hb dX6_determinant_305 (by decide) ?_
      refine lv_iload hx hb dX6_determinant_307 (lv_at hl 3 rfl) ?_
      refine lv_imul hx hb dX6_determinant_309 ?_
      refine lv_iload hx hb dX6_determinant_310 (lv_at hl 5 rfl) ?_
      refine lv_iadd hx hb dX6_determinant_312 ?_
      obtain ⟨q6, hw⟩ := hw
      refine ra_M_16 F hh q6 dX6_determinant_313 ?_
      refine lv_lmul hx hb dX6_determinant_314 ?_
      refine lv_lsub hx hb dX6_determinant_315 ?_
      refine lv_lload_n hx hb dX6_determinant_316 rfl (lv_at hl 1 rfl) ?_
      obtain ⟨q7, hw⟩ := hw
      refine lv_ldiv hx hb dX6_determinant_317 q7 ?_
      obtain ⟨q8, hw⟩ := hw
      refine wa_M_16 F hh q8 dX6_determinant_318 (fun H locs hh => ?_)
      obtain ⟨v9, ev9⟩ : ∃ y : Int32, y = x9 + 1 := ⟨_, rfl⟩
      have hw := hw v9 ev9
      refine lv_iinc (v := v9) (lv' := [(9, .int v9), (0, .ref (ha 0)), (2, .long x2), (4, .long x4), (6, .int x6), (8, .int x8)]) hx hb dX6_determinant_319 hl (k := 5) rfl (by rw [ev9]; rfl) (by decide) rfl (fun ls hl => ?_)
      refine lv_goto (tgt := 240) hx hb dX6_determinant_322 (by decide) ?_
      exact ih x2 x4 x6 x8 v9 (lf_sb σ 16 (((6 * x8) + x9) : Int32).toNatClampNeg ((((lf_al σ 16 (((6 * x8) + x9) : Int32).toNatClampNeg) * (lf_al σ 16 (((6 * x6) + x6) : Int32).toNatClampNeg)) - ((lf_al σ 16 (((6 * x8) + x6) : Int32).toNatClampNeg) * (lf_al σ 16 (((6 * x6) + x9) : Int32).toNatClampNeg))) / x2)) _ _ _ hh (lv_sub hl [1, 2, 3, 4, 5, 0] rfl) hw
set_option maxHeartbeats 4000000 in
set_option maxRecDepth 100000 in
theorem w_X6_determinant_225 {p : Program} {l : Launch} {e : Env} {s : State} {m : MethodId} {args : Array Value} {below : List Frame} {meth : Method} {c : Code} {D : va_G} {A : Nat → Prop} {ha : Nat → Nat} {cy : Nat → ClassId} (K_76 : Int64 → Int64 → Int32 → lf_St → Prop) (Post : Int64 → lf_St → Prop) (F : lf_C p s m args meth c RX6 cX6_determinant 11 (some .long) D (tyM_ cy) A) (hK_76 : ∀ (x2 : Int64) (x4 : Int64) (x6 : Int32) (σ : lf_St) (H : Heap) (locs : List Loc) (ls : Array Slot), lf_H D (wM_ ha cy) A s σ H locs → lv_has ls 11 [(0, .ref (ha 0)), (2, .long x2), (4, .long x4), (6, .int x6)] → K_76 x2 x4 x6 σ → W p l e rm_X6_determinant s m args below meth c H locs 0 0 (lf_Ql below args s D (tyM_ cy) A (wM_ ha cy) Post) (F0 m 76 ls [])) : ∀ (n : Nat) (x2 : Int64) (x4 : Int64) (x6 : Int32) (x8 : Int32) (σ : lf_St) (H : Heap) (locs : List Loc) (ls : Array Slot), lf_H D (wM_ ha cy) A s σ H locs → lv_has ls 11 [(0, .ref (ha 0)), (2, .long x2), (4, .long x4), (6, .int x6), (8, .int x8)] → L_X6_determinant_225 K_76 Post n x2 x4 x6 x8 σ → W p l e rm_X6_determinant s m args below meth c H locs 0 0 (lf_Ql below args s D (tyM_ cy) A (wM_ ha cy) Post) (F0 m 225 ls []) := by
  have hx := F.1.1
  have hb := F.1.2.1
  intro n
  induction n with
  | zero =>
    intro x2 x4 x6 x8 σ H locs ls hh hl hw
    exact False.elim hw
  | succ n ih =>
    intro x2 x4 x6 x8 σ H locs ls hh hl hw
    unfold L_X6_determinant_225 at hw
    refine lv_iload hx hb dX6_determinant_225 (lv_at hl 4 rfl) ?_
    refine lv_aload_n hx hb dX6_determinant_227 rfl (lv_at hl 0 rfl) ?_
    refine fg_X6_119 F hh dX6_determinant_228 ?_
    refine lv_icmp_ge (tgt := 331) hx hb dX6_determinant_231 (by decide) (fun c1 => ?_) (fun c1 => ?_)
    · have hw := hw.1 c1
      refine lv_aload_n hx hb dX6_determinant_331 rfl (lv_at hl 0 rfl) ?_
      refine fg_X6_42 F hh dX6_determinant_332 ?_
      refine lv_bipush (v := 6) hx hb dX6_determinant_335 (by decide) ?_
      refine lv_iload hx hb dX6_determinant_337 (lv_at hl 3 rfl) ?_
      refine lv_imul hx hb dX6_determinant_339 ?_
      refine lv_iload hx hb dX6_determinant_340 (lv_at hl 3 rfl) ?_
      refine lv_iadd hx hb dX6_determinant_342 ?_
      obtain ⟨q2, hw⟩ := hw
      refine ra_M_16 F hh q2 dX6_determinant_343 ?_
      refine lv_topl (fun v3 ev3 => ?_)
      have hw := hw v3 ev3
      refine lv_lstore_n (lv' := [(2, .long v3), (0, .ref (ha 0)), (4, .long x4), (6, .int x6), (8, .int x8)]) hx hb dX6_determinant_344 rfl hl (by decide) rfl (fun ls hl => ?_)
      obtain ⟨v4, ev4⟩ : ∃ y : Int32, y = x6 + 1 := ⟨_, rfl⟩
      have hw := hw v4 ev4
      refine lv_iinc (v := v4) (lv' := [(6, .int v4), (2, .long v3), (0, .ref (ha 0)), (4, .long x4), (8, .int x8)]) hx hb dX6_determinant_345 hl (k := 3) rfl (by rw [ev4]; rfl) (by decide) rfl (fun ls hl => ?_)
      refine lv_goto (tgt := 76) hx hb dX6_determinant_348 (by decide) ?_
      exact hK_76 v3 x4 v4 σ _ _ _ hh (lv_sub hl [2, 1, 3, 0] rfl) hw
    · have hw := hw.2 c1
      refine lv_iload hx hb dX6_determinant_234 (lv_at hl 3 rfl) ?_
      refine lv_iconst (v := 1) hx hb dX6_determinant_236 (by decide) ?_
      refine lv_iadd hx hb dX6_determinant_237 ?_
      refine lv_topi (fun v5 ev5 => ?_)
      have hw := hw v5 ev5
      refine lv_istore (lv' := [(9, .int v5), (0, .ref (ha 0)), (2, .long x2), (4, .long x4), (6, .int x6), (8, .int x8)]) hx hb dX6_determinant_238 hl (by decide) rfl (fun ls hl => ?_)
      obtain ⟨n240, hw⟩ := hw
      exact w_X6_determinant_240 _ Post F ih n240 x2 x4 x6 x8 v5 σ _ _ _ hh (lv_sub hl [1, 2, 3, 4, 5, 0] rfl) hw
set_option maxHeartbeats 4000000 in
set_option maxRecDepth 100000 in
theorem w_X6_determinant_143 {p : Program} {l : Launch} {e : Env} {s : State} {m : MethodId} {args : Array Value} {below : List Frame} {meth : Method} {c : Code} {D : va_G} {A : Nat → Prop} {ha : Nat → Nat} {cy : Nat → ClassId} (K_76 : Int64 → Int64 → Int32 → lf_St → Prop) (Post : Int64 → lf_St → Prop) (F : lf_C p s m args meth c RX6 cX6_determinant 11 (some .long) D (tyM_ cy) A) (hK_76 : ∀ (x2 : Int64) (x4 : Int64) (x6 : Int32) (σ : lf_St) (H : Heap) (locs : List Loc) (ls : Array Slot), lf_H D (wM_ ha cy) A s σ H locs → lv_has ls 11 [(0, .ref (ha 0)), (2, .long x2), (4, .long x4), (6, .int x6)] → K_76 x2 x4 x6 σ → W p l e rm_X6_determinant s m args below meth c H locs 0 0 (lf_Ql below args s D (tyM_ cy) A (wM_ ha cy) Post) (F0 m 76 ls [])) : ∀ (n : Nat) (x2 : Int64) (x4 : Int64) (x6 : Int32) (x7 : Int32) (x8 : Int32) (σ : lf_St) (H : Heap) (locs : List Loc) (ls : Array Slot), lf_H D (wM_ ha cy) A s σ H locs → lv_has ls 11 [(0, .ref (ha 0)), (2, .long x2), (4, .long x4), (6, .int x6), (7, .int x7), (8, .int x8)] → L_X6_determinant_143 K_76 Post n x2 x4 x6 x7 x8 σ → W p l e rm_X6_determinant s m args below meth c H locs 0 0 (lf_Ql below args s D (tyM_ cy) A (wM_ ha cy) Post) (F0 m 143 ls []) := by
  have hx := F.1.1
  have hb := F.1.2.1
  intro n
  induction n with
  | zero =>
    intro x2 x4 x6 x7 x8 σ H locs ls hh hl hw
    exact False.elim hw
  | succ n ih =>
    intro x2 x4 x6 x7 x8 σ H locs ls hh hl hw
    unfold L_X6_determinant_143 at hw
    refine lv_iload hx hb dX6_determinant_143 (lv_at hl 5 rfl) ?_
    refine lv_aload_n hx hb dX6_determinant_145 rfl (lv_at hl 0 rfl) ?_
    refine fg_X6_119 F hh dX6_determinant_146 ?_
    refine lv_icmp_ge (tgt := 214) hx hb dX6_determinant_149 (by decide) (fun c1 => ?_) (fun c1 => ?_)
    · have hw := hw.1 c1
      refine lv_lload hx hb dX6_determinant_214 (lv_at hl 2 rfl) ?_
      refine lv_lneg hx hb dX6_determinant_216 ?_
      refine lv_topl (fun v2 ev2 => ?_)
      have hw := hw v2 ev2
      refine lv_lstore (lv' := [(4, .long v2), (0, .ref (ha 0)), (2, .long x2), (6, .int x6), (7, .int x7), (8, .int x8)]) hx hb dX6_determinant_217 hl (by decide) rfl (fun ls hl => ?_)
      refine lv_iload hx hb dX6_determinant_219 (lv_at hl 3 rfl) ?_
      refine lv_iconst (v := 1) hx hb dX6_determinant_221 (by decide) ?_
      refine lv_iadd hx hb dX6_determinant_222 ?_
      refine lv_topi (fun v3 ev3 => ?_)
      have hw := hw v3 ev3
      refine lv_istore (lv' := [(8, .int v3), (4, .long v2), (0, .ref (ha 0)), (2, .long x2), (6, .int x6), (7, .int x7)]) hx hb dX6_determinant_223 hl (by decide) rfl (fun ls hl => ?_)
      obtain ⟨n225, hw⟩ := hw
      exact w_X6_determinant_225 _ Post F hK_76 n225 x2 v2 x6 v3 σ _ _ _ hh (lv_sub hl [2, 3, 1, 4, 0] rfl) hw
    · have hw := hw.2 c1
      refine lv_aload_n hx hb dX6_determinant_152 rfl (lv_at hl 0 rfl) ?_
      refine fg_X6_42 F hh dX6_determinant_153 ?_
      refine lv_bipush (v := 6) hx hb dX6_determinant_156 (by decide) ?_
      refine lv_iload hx hb dX6_determinant_158 (lv_at hl 4 rfl) ?_
      refine lv_imul hx hb dX6_determinant_160 ?_
      refine lv_iload hx hb dX6_determinant_161 (lv_at hl 5 rfl) ?_
      refine lv_iadd hx hb dX6_determinant_163 ?_
      obtain ⟨q4, hw⟩ := hw
      refine ra_M_16 F hh q4 dX6_determinant_164 ?_
      refine lv_topl (fun v5 ev5 => ?_)
      have hw := hw v5 ev5
      refine lv_lstore (lv' := [(9, .long v5), (0, .ref (ha 0)), (2, .long x2), (4, .long x4), (6, .int x6), (7, .int x7), (8, .int x8)]) hx hb dX6_determinant_165 hl (by decide) rfl (fun ls hl => ?_)
      refine lv_aload_n hx hb dX6_determinant_167 rfl (lv_at hl 1 rfl) ?_
      refine fg_X6_42 F hh dX6_determinant_168 ?_
      refine lv_bipush (v := 6) hx hb dX6_determinant_171 (by decide) ?_
      refine lv_iload hx hb dX6_determinant_173 (lv_at hl 5 rfl) ?_
      refine lv_imul hx hb dX6_determinant_175 ?_
      refine lv_iload hx hb dX6_determinant_176 (lv_at hl 6 rfl) ?_
      refine lv_iadd hx hb dX6_determinant_178 ?_
      refine lv_aload_n hx hb dX6_determinant_179 rfl (lv_at hl 1 rfl) ?_
      refine fg_X6_42 F hh dX6_determinant_180 ?_
      refine lv_bipush (v := 6) hx hb dX6_determinant_183 (by decide) ?_
      refine lv_iload hx hb dX6_determinant_185 (lv_at hl 4 rfl) ?_
      refine lv_imul hx hb dX6_determinant_187 ?_
      refine lv_iload hx hb dX6_determinant_188 (lv_at hl 6 rfl) ?_
      refine lv_iadd hx hb dX6_determinant_190 ?_
      obtain ⟨q6, hw⟩ := hw
      refine ra_M_16 F hh q6 dX6_determinant_191 ?_
      obtain ⟨q7, hw⟩ := hw
      refine wa_M_16 F hh q7 dX6_determinant_192 (fun H locs hh => ?_)
      refine lv_aload_n hx hb dX6_determinant_193 rfl (lv_at hl 1 rfl) ?_
      refine fg_X6_42 F hh dX6_determinant_194 ?_
      refine lv_bipush (v := 6) hx hb dX6_determinant_197 (by decide) ?_
      refine lv_iload hx hb dX6_determinant_199 (lv_at hl 4 rfl) ?_
      refine lv_imul hx hb dX6_determinant_201 ?_
      refine lv_iload hx hb dX6_determinant_202 (lv_at hl 6 rfl) ?_
      refine lv_iadd hx hb dX6_determinant_204 ?_
      refine lv_lload hx hb dX6_determinant_205 (lv_at hl 0 rfl) ?_
      obtain ⟨q8, hw⟩ := hw
      refine wa_M_16 F hh q8 dX6_determinant_207 (fun H locs hh => ?_)
      obtain ⟨v9, ev9⟩ : ∃ y : Int32, y = x8 + 1 := ⟨_, rfl⟩
      have hw := hw v9 ev9
      refine lv_iinc (v := v9) (lv' := [(8, .int v9), (9, .long v5), (0, .ref (ha 0)), (2, .long x2), (4, .long x4), (6, .int x6), (7, .int x7)]) hx hb dX6_determinant_208 hl (k := 6) rfl (by rw [ev9]; rfl) (by decide) rfl (fun ls hl => ?_)
      refine lv_goto (tgt := 143) hx hb dX6_determinant_211 (by decide) ?_
      exact ih x2 x4 x6 x7 v9 (lf_sb (lf_sb σ 16 (((6 * x7) + x8) : Int32).toNatClampNeg (lf_al σ 16 (((6 * x6) + x8) : Int32).toNatClampNeg)) 16 (((6 * x6) + x8) : Int32).toNatClampNeg v5) _ _ _ hh (lv_sub hl [2, 3, 4, 5, 6, 0] rfl) hw
set_option maxHeartbeats 4000000 in
set_option maxRecDepth 100000 in
theorem w_X6_determinant_122 {p : Program} {l : Launch} {e : Env} {s : State} {m : MethodId} {args : Array Value} {below : List Frame} {meth : Method} {c : Code} {D : va_G} {A : Nat → Prop} {ha : Nat → Nat} {cy : Nat → ClassId} (K_76 : Int64 → Int64 → Int32 → lf_St → Prop) (Post : Int64 → lf_St → Prop) (F : lf_C p s m args meth c RX6 cX6_determinant 11 (some .long) D (tyM_ cy) A) (hK_76 : ∀ (x2 : Int64) (x4 : Int64) (x6 : Int32) (σ : lf_St) (H : Heap) (locs : List Loc) (ls : Array Slot), lf_H D (wM_ ha cy) A s σ H locs → lv_has ls 11 [(0, .ref (ha 0)), (2, .long x2), (4, .long x4), (6, .int x6)] → K_76 x2 x4 x6 σ → W p l e rm_X6_determinant s m args below meth c H locs 0 0 (lf_Ql below args s D (tyM_ cy) A (wM_ ha cy) Post) (F0 m 76 ls [])) (x2 : Int64) (x4 : Int64) (x6 : Int32) (x7 : Int32) (σ : lf_St) (H : Heap) (locs : List Loc) (ls : Array Slot) (hh : lf_H D (wM_ ha cy) A s σ H locs) (hl : lv_has ls 11 [(0, .ref (ha 0)), (2, .long x2), (4, .long x4), (6, .int x6), (7, .int x7)]) (hw : J_X6_determinant_122 K_76 Post x2 x4 x6 x7 σ) : W p l e rm_X6_determinant s m args below meth c H locs 0 0 (lf_Ql below args s D (tyM_ cy) A (wM_ ha cy) Post) (F0 m 122 ls []) := by
  have hx := F.1.1
  have hb := F.1.2.1
  unfold J_X6_determinant_122 at hw
  refine lv_iload hx hb dX6_determinant_122 (lv_at hl 4 rfl) ?_
  refine lv_aload_n hx hb dX6_determinant_124 rfl (lv_at hl 0 rfl) ?_
  refine fg_X6_119 F hh dX6_determinant_125 ?_
  refine lv_icmp_ne (tgt := 133) hx hb dX6_determinant_128 (by decide) (fun c1 => ?_) (fun c1 => ?_)
  · have hw := hw.1 c1
    refine lv_iload hx hb dX6_determinant_133 (lv_at hl 4 rfl) ?_
    refine lv_iload hx hb dX6_determinant_135 (lv_at hl 3 rfl) ?_
    refine lv_icmp_eq (tgt := 219) hx hb dX6_determinant_137 (by decide) (fun c2 => ?_) (fun c2 => ?_)
    · have hw := hw.1 c2
      refine lv_iload hx hb dX6_determinant_219 (lv_at hl 3 rfl) ?_
      refine lv_iconst (v := 1) hx hb dX6_determinant_221 (by decide) ?_
      refine lv_iadd hx hb dX6_determinant_222 ?_
      refine lv_topi (fun v3 ev3 => ?_)
      have hw := hw v3 ev3
      refine lv_istore (lv' := [(8, .int v3), (0, .ref (ha 0)), (2, .long x2), (4, .long x4), (6, .int x6), (7, .int x7)]) hx hb dX6_determinant_223 hl (by decide) rfl (fun ls hl => ?_)
      obtain ⟨n225, hw⟩ := hw
      exact w_X6_determinant_225 _ Post F hK_76 n225 x2 x4 x6 v3 σ _ _ _ hh (lv_sub hl [1, 2, 3, 4, 0] rfl) hw
    · have hw := hw.2 c2
      refine lv_iconst (v := 0) hx hb dX6_determinant_140 (by decide) ?_
      refine lv_istore (lv' := [(8, .int 0), (0, .ref (ha 0)), (2, .long x2), (4, .long x4), (6, .int x6), (7, .int x7)]) hx hb dX6_determinant_141 hl (by decide) rfl (fun ls hl => ?_)
      obtain ⟨n143, hw⟩ := hw
      exact w_X6_determinant_143 _ Post F hK_76 n143 x2 x4 x6 x7 0 σ _ _ _ hh (lv_sub hl [1, 2, 3, 4, 5, 0] rfl) hw
  · have hw := hw.2 c1
    refine lv_lconst (v := 0) hx hb dX6_determinant_131 (by decide) ?_
    exact lf_retl F hh hw dX6_determinant_132
set_option maxHeartbeats 4000000 in
set_option maxRecDepth 100000 in
theorem w_X6_determinant_89 {p : Program} {l : Launch} {e : Env} {s : State} {m : MethodId} {args : Array Value} {below : List Frame} {meth : Method} {c : Code} {D : va_G} {A : Nat → Prop} {ha : Nat → Nat} {cy : Nat → ClassId} (K_76 : Int64 → Int64 → Int32 → lf_St → Prop) (Post : Int64 → lf_St → Prop) (F : lf_C p s m args meth c RX6 cX6_determinant 11 (some .long) D (tyM_ cy) A) (hK_76 : ∀ (x2 : Int64) (x4 : Int64) (x6 : Int32) (σ : lf_St) (H : Heap) (locs : List Loc) (ls : Array Slot), lf_H D (wM_ ha cy) A s σ H locs → lv_has ls 11 [(0, .ref (ha 0)), (2, .long x2), (4, .long x4), (6, .int x6)] → K_76 x2 x4 x6 σ → W p l e rm_X6_determinant s m args below meth c H locs 0 0 (lf_Ql below args s D (tyM_ cy) A (wM_ ha cy) Post) (F0 m 76 ls [])) : ∀ (n : Nat) (x2 : Int64) (x4 : Int64) (x6 : Int32) (x7 : Int32) (σ : lf_St) (H : Heap) (locs : List Loc) (ls : Array Slot), lf_H D (wM_ ha cy) A s σ H locs → lv_has ls 11 [(0, .ref (ha 0)), (2, .long x2), (4, .long x4), (6, .int x6), (7, .int x7)] → L_X6_determinant_89 K_76 Post n x2 x4 x6 x7 σ → W p l e rm_X6_determinant s m args below meth c H locs 0 0 (lf_Ql below args s D (tyM_ cy) A (wM_ ha cy) Post) (F0 m 89 ls []) := by
  have hx := F.1.1
  have hb := F.1.2.1
  intro n
  induction n with
  | zero =>
    intro x2 x4 x6 x7 σ H locs ls hh hl hw
    exact False.elim hw
  | succ n ih =>
    intro x2 x4 x6 x7 σ H locs ls hh hl hw
    unfold L_X6_determinant_89 at hw
    refine lv_iload hx hb dX6_determinant_89 (lv_at hl 4 rfl) ?_
    refine lv_aload_n hx hb dX6_determinant_91 rfl (lv_at hl 0 rfl) ?_
    refine fg_X6_119 F hh dX6_determinant_92 ?_
    refine lv_icmp_ge (tgt := 122) hx hb dX6_determinant_95 (by decide) (fun c1 => ?_) (fun c1 => ?_)
    · have hw := hw.1 c1
      exact w_X6_determinant_122 _ Post F hK_76 x2 x4 x6 x7 σ _ _ _ hh (lv_sub hl [0, 1, 2, 3, 4] rfl) hw
    · have hw := hw.2 c1
      refine lv_aload_n hx hb dX6_determinant_98 rfl (lv_at hl 0 rfl) ?_
      refine fg_X6_42 F hh dX6_determinant_99 ?_
      refine lv_bipush (v := 6) hx hb dX6_determinant_102 (by decide) ?_
      refine lv_iload hx hb dX6_determinant_104 (lv_at hl 4 rfl) ?_
      refine lv_imul hx hb dX6_determinant_106 ?_
      refine lv_iload hx hb dX6_determinant_107 (lv_at hl 3 rfl) ?_
      refine lv_iadd hx hb dX6_determinant_109 ?_
      obtain ⟨q2, hw⟩ := hw
      refine ra_M_16 F hh q2 dX6_determinant_110 ?_
      refine lv_lconst (v := 0) hx hb dX6_determinant_111 (by decide) ?_
      refine lf_lcmp_ne (tgt := 122) hx hb dX6_determinant_112 dX6_determinant_113 (by decide) (fun c3 => ?_) (fun c3 => ?_)
      · have hw := hw.1 c3
        exact w_X6_determinant_122 _ Post F hK_76 x2 x4 x6 x7 σ _ _ _ hh (lv_sub hl [0, 1, 2, 3, 4] rfl) hw
      · have hw := hw.2 c3
        obtain ⟨v4, ev4⟩ : ∃ y : Int32, y = x7 + 1 := ⟨_, rfl⟩
        have hw := hw v4 ev4
        refine lv_iinc (v := v4) (lv' := [(7, .int v4), (0, .ref (ha 0)), (2, .long x2), (4, .long x4), (6, .int x6)]) hx hb dX6_determinant_116 hl (k := 4) rfl (by rw [ev4]; rfl) (by decide) rfl (fun ls hl => ?_)
        refine lv_goto (tgt := 89) hx hb dX6_determinant_119 (by decide) ?_
        exact ih x2 x4 x6 v4 σ _ _ _ hh (lv_sub hl [1, 2, 3, 4, 0] rfl) hw
set_option maxHeartbeats 4000000 in
set_option maxRecDepth 100000 in
theorem w_X6_determinant_76 {p : Program} {l : Launch} {e : Env} {s : State} {m : MethodId} {args : Array Value} {below : List Frame} {meth : Method} {c : Code} {D : va_G} {A : Nat → Prop} {ha : Nat → Nat} {cy : Nat → ClassId} (Post : Int64 → lf_St → Prop) (F : lf_C p s m args meth c RX6 cX6_determinant 11 (some .long) D (tyM_ cy) A) : ∀ (n : Nat) (x2 : Int64) (x4 : Int64) (x6 : Int32) (σ : lf_St) (H : Heap) (locs : List Loc) (ls : Array Slot), lf_H D (wM_ ha cy) A s σ H locs → lv_has ls 11 [(0, .ref (ha 0)), (2, .long x2), (4, .long x4), (6, .int x6)] → L_X6_determinant_76 Post n x2 x4 x6 σ → W p l e rm_X6_determinant s m args below meth c H locs 0 0 (lf_Ql below args s D (tyM_ cy) A (wM_ ha cy) Post) (F0 m 76 ls []) := by
  have hx := F.1.1
  have hb := F.1.2.1
  intro n
  induction n with
  | zero =>
    intro x2 x4 x6 σ H locs ls hh hl hw
    exact False.elim hw
  | succ n ih =>
    intro x2 x4 x6 σ H locs ls hh hl hw
    unfold L_X6_determinant_76 at hw
    refine lv_iload hx hb dX6_determinant_76 (lv_at hl 3 rfl) ?_
    refine lv_aload_n hx hb dX6_determinant_78 rfl (lv_at hl 0 rfl) ?_
    refine fg_X6_119 F hh dX6_determinant_79 ?_
    refine lv_icmp_ge (tgt := 351) hx hb dX6_determinant_82 (by decide) (fun c1 => ?_) (fun c1 => ?_)
    · have hw := hw.1 c1
      refine lv_lload hx hb dX6_determinant_351 (lv_at hl 2 rfl) ?_
      refine lv_lload_n hx hb dX6_determinant_353 rfl (lv_at hl 1 rfl) ?_
      refine lv_lmul hx hb dX6_determinant_354 ?_
      exact lf_retl F hh hw dX6_determinant_355
    · have hw := hw.2 c1
      refine lv_iload hx hb dX6_determinant_85 (lv_at hl 3 rfl) ?_
      refine lv_istore (lv' := [(7, .int x6), (0, .ref (ha 0)), (2, .long x2), (4, .long x4), (6, .int x6)]) hx hb dX6_determinant_87 hl (by decide) rfl (fun ls hl => ?_)
      obtain ⟨n89, hw⟩ := hw
      exact w_X6_determinant_89 _ Post F ih n89 x2 x4 x6 x6 σ _ _ _ hh (lv_sub hl [1, 2, 3, 4, 0] rfl) hw
set_option maxHeartbeats 4000000 in
set_option maxRecDepth 100000 in
theorem w_X6_determinant_12 {p : Program} {l : Launch} {e : Env} {s : State} {m : MethodId} {args : Array Value} {below : List Frame} {meth : Method} {c : Code} {D : va_G} {A : Nat → Prop} {ha : Nat → Nat} {cy : Nat → ClassId} (K_2 : Int32 → Int32 → lf_St → Prop) (Post : Int64 → lf_St → Prop) (F : lf_C p s m args meth c RX6 cX6_determinant 11 (some .long) D (tyM_ cy) A) (hK_2 : ∀ (x1 : Int32) (x2 : Int32) (σ : lf_St) (H : Heap) (locs : List Loc) (ls : Array Slot), lf_H D (wM_ ha cy) A s σ H locs → lv_has ls 11 [(0, .ref (ha 0)), (1, .int x1), (2, .int x2)] → K_2 x1 x2 σ → W p l e rm_X6_determinant s m args below meth c H locs 0 0 (lf_Ql below args s D (tyM_ cy) A (wM_ ha cy) Post) (F0 m 2 ls [])) : ∀ (n : Nat) (x1 : Int32) (x2 : Int32) (x3 : Int32) (σ : lf_St) (H : Heap) (locs : List Loc) (ls : Array Slot), lf_H D (wM_ ha cy) A s σ H locs → lv_has ls 11 [(0, .ref (ha 0)), (1, .int x1), (2, .int x2), (3, .int x3)] → L_X6_determinant_12 K_2 Post n x1 x2 x3 σ → W p l e rm_X6_determinant s m args below meth c H locs 0 0 (lf_Ql below args s D (tyM_ cy) A (wM_ ha cy) Post) (F0 m 12 ls []) := by
  have hx := F.1.1
  have hb := F.1.2.1
  intro n
  induction n with
  | zero =>
    intro x1 x2 x3 σ H locs ls hh hl hw
    exact False.elim hw
  | succ n ih =>
    intro x1 x2 x3 σ H locs ls hh hl hw
    unfold L_X6_determinant_12 at hw
    refine lv_iload_n hx hb dX6_determinant_12 rfl (lv_at hl 3 rfl) ?_
    refine lv_aload_n hx hb dX6_determinant_13 rfl (lv_at hl 0 rfl) ?_
    refine fg_X6_119 F hh dX6_determinant_14 ?_
    refine lv_icmp_ge (tgt := 62) hx hb dX6_determinant_17 (by decide) (fun c1 => ?_) (fun c1 => ?_)
    · have hw := hw.1 c1
      obtain ⟨v2, ev2⟩ : ∃ y : Int32, y = x2 + 1 := ⟨_, rfl⟩
      have hw := hw v2 ev2
      refine lv_iinc (v := v2) (lv' := [(2, .int v2), (0, .ref (ha 0)), (1, .int x1), (3, .int x3)]) hx hb dX6_determinant_62 hl (k := 2) rfl (by rw [ev2]; rfl) (by decide) rfl (fun ls hl => ?_)
      refine lv_goto (tgt := 2) hx hb dX6_determinant_65 (by decide) ?_
      exact hK_2 x1 v2 σ _ _ _ hh (lv_sub hl [1, 2, 0] rfl) hw
    · have hw := hw.2 c1
      refine lv_aload_n hx hb dX6_determinant_20 rfl (lv_at hl 0 rfl) ?_
      refine fg_X6_42 F hh dX6_determinant_21 ?_
      refine lv_bipush (v := 6) hx hb dX6_determinant_24 (by decide) ?_
      refine lv_iload_n hx hb dX6_determinant_26 rfl (lv_at hl 2 rfl) ?_
      refine lv_imul hx hb dX6_determinant_27 ?_
      refine lv_iload_n hx hb dX6_determinant_28 rfl (lv_at hl 3 rfl) ?_
      refine lv_iadd hx hb dX6_determinant_29 ?_
      refine lv_iload_n hx hb dX6_determinant_30 rfl (lv_at hl 3 rfl) ?_
      refine lv_iload_n hx hb dX6_determinant_31 rfl (lv_at hl 1 rfl) ?_
      refine lv_icmp_ne (tgt := 44) hx hb dX6_determinant_32 (by decide) (fun c3 => ?_) (fun c3 => ?_)
      · have hw := hw.1 c3
        refine lv_aload_n hx hb dX6_determinant_44 rfl (lv_at hl 0 rfl) ?_
        refine fg_X6_38 F hh dX6_determinant_45 ?_
        refine lv_bipush (v := 6) hx hb dX6_determinant_48 (by decide) ?_
        refine lv_iload_n hx hb dX6_determinant_50 rfl (lv_at hl 2 rfl) ?_
        refine lv_imul hx hb dX6_determinant_51 ?_
        refine lv_iload_n hx hb dX6_determinant_52 rfl (lv_at hl 3 rfl) ?_
        refine lv_iadd hx hb dX6_determinant_53 ?_
        obtain ⟨q4, hw⟩ := hw
        refine ra_M_15 F hh q4 dX6_determinant_54 ?_
        obtain ⟨q5, hw⟩ := hw
        refine wa_M_16 F hh q5 dX6_determinant_55 (fun H locs hh => ?_)
        obtain ⟨v6, ev6⟩ : ∃ y : Int32, y = x3 + 1 := ⟨_, rfl⟩
        have hw := hw v6 ev6
        refine lv_iinc (v := v6) (lv' := [(3, .int v6), (0, .ref (ha 0)), (1, .int x1), (2, .int x2)]) hx hb dX6_determinant_56 hl (k := 3) rfl (by rw [ev6]; rfl) (by decide) rfl (fun ls hl => ?_)
        refine lv_goto (tgt := 12) hx hb dX6_determinant_59 (by decide) ?_
        exact ih x1 x2 v6 (lf_sb σ 16 (((6 * x2) + x3) : Int32).toNatClampNeg (lf_al σ 15 (((6 * x2) + x3) : Int32).toNatClampNeg)) _ _ _ hh (lv_sub hl [1, 2, 3, 0] rfl) hw
      · have hw := hw.2 c3
        refine lv_aload_n hx hb dX6_determinant_35 rfl (lv_at hl 0 rfl) ?_
        refine fg_X6_45 F hh dX6_determinant_36 ?_
        refine lv_iload_n hx hb dX6_determinant_39 rfl (lv_at hl 2 rfl) ?_
        obtain ⟨q7, hw⟩ := hw
        refine ra_M_17 F hh q7 dX6_determinant_40 ?_
        refine lv_goto (tgt := 55) hx hb dX6_determinant_41 (by decide) ?_
        obtain ⟨q8, hw⟩ := hw
        refine wa_M_16 F hh q8 dX6_determinant_55 (fun H locs hh => ?_)
        obtain ⟨v9, ev9⟩ : ∃ y : Int32, y = x3 + 1 := ⟨_, rfl⟩
        have hw := hw v9 ev9
        refine lv_iinc (v := v9) (lv' := [(3, .int v9), (0, .ref (ha 0)), (1, .int x1), (2, .int x2)]) hx hb dX6_determinant_56 hl (k := 3) rfl (by rw [ev9]; rfl) (by decide) rfl (fun ls hl => ?_)
        refine lv_goto (tgt := 12) hx hb dX6_determinant_59 (by decide) ?_
        exact ih x1 x2 v9 (lf_sb σ 16 (((6 * x2) + x3) : Int32).toNatClampNeg (lf_al σ 17 x2.toNatClampNeg)) _ _ _ hh (lv_sub hl [1, 2, 3, 0] rfl) hw
set_option maxHeartbeats 4000000 in
set_option maxRecDepth 100000 in
theorem w_X6_determinant_2 {p : Program} {l : Launch} {e : Env} {s : State} {m : MethodId} {args : Array Value} {below : List Frame} {meth : Method} {c : Code} {D : va_G} {A : Nat → Prop} {ha : Nat → Nat} {cy : Nat → ClassId} (Post : Int64 → lf_St → Prop) (F : lf_C p s m args meth c RX6 cX6_determinant 11 (some .long) D (tyM_ cy) A) : ∀ (n : Nat) (x1 : Int32) (x2 : Int32) (σ : lf_St) (H : Heap) (locs : List Loc) (ls : Array Slot), lf_H D (wM_ ha cy) A s σ H locs → lv_has ls 11 [(0, .ref (ha 0)), (1, .int x1), (2, .int x2)] → L_X6_determinant_2 Post n x1 x2 σ → W p l e rm_X6_determinant s m args below meth c H locs 0 0 (lf_Ql below args s D (tyM_ cy) A (wM_ ha cy) Post) (F0 m 2 ls []) := by
  have hx := F.1.1
  have hb := F.1.2.1
  intro n
  induction n with
  | zero =>
    intro x1 x2 σ H locs ls hh hl hw
    exact False.elim hw
  | succ n ih =>
    intro x1 x2 σ H locs ls hh hl hw
    unfold L_X6_determinant_2 at hw
    refine lv_iload_n hx hb dX6_determinant_2 rfl (lv_at hl 2 rfl) ?_
    refine lv_aload_n hx hb dX6_determinant_3 rfl (lv_at hl 0 rfl) ?_
    refine fg_X6_119 F hh dX6_determinant_4 ?_
    refine lv_icmp_ge (tgt := 68) hx hb dX6_determinant_7 (by decide) (fun c1 => ?_) (fun c1 => ?_)
    · have hw := hw.1 c1
      refine lv_lconst (v := 1) hx hb dX6_determinant_68 (by decide) ?_
      refine lv_lstore_n (lv' := [(2, .long 1), (0, .ref (ha 0)), (1, .int x1)]) hx hb dX6_determinant_69 rfl hl (by decide) rfl (fun ls hl => ?_)
      refine lv_lconst (v := 1) hx hb dX6_determinant_70 (by decide) ?_
      refine lv_lstore (lv' := [(4, .long 1), (2, .long 1), (0, .ref (ha 0)), (1, .int x1)]) hx hb dX6_determinant_71 hl (by decide) rfl (fun ls hl => ?_)
      refine lv_iconst (v := 0) hx hb dX6_determinant_73 (by decide) ?_
      refine lv_istore (lv' := [(6, .int 0), (4, .long 1), (2, .long 1), (0, .ref (ha 0)), (1, .int x1)]) hx hb dX6_determinant_74 hl (by decide) rfl (fun ls hl => ?_)
      obtain ⟨n76, hw⟩ := hw
      exact w_X6_determinant_76 Post F  n76 1 1 0 σ _ _ _ hh (lv_sub hl [3, 2, 1, 0] rfl) hw
    · have hw := hw.2 c1
      refine lv_iconst (v := 0) hx hb dX6_determinant_10 (by decide) ?_
      refine lv_istore_n (lv' := [(3, .int 0), (0, .ref (ha 0)), (1, .int x1), (2, .int x2)]) hx hb dX6_determinant_11 rfl hl (by decide) rfl (fun ls hl => ?_)
      obtain ⟨n12, hw⟩ := hw
      exact w_X6_determinant_12 _ Post F ih n12 x1 x2 0 σ _ _ _ hh (lv_sub hl [1, 2, 3, 0] rfl) hw
set_option maxHeartbeats 4000000 in
set_option maxRecDepth 100000 in
theorem c_X6_determinant (l : Launch) (D : va_G) (ha : Nat → Nat) (cy : Nat → ClassId) (sz : Nat) (σ : lf_St) (x1 : Int32) (Post : Int64 → lf_St → Prop) (hw : wp_X6_determinant x1 σ Post) : lf_Ml l yX6_determinant (lf_ws yX6_determinant cX6_determinant 11 (some .long)) rm_X6_determinant D (tyM_ cy) (wM_ ha cy) sz σ [.ref (ha 0), .int x1] Post := by
  refine lf_ofl (by decide +kernel) (Nat.le_of_ble_eq_true rfl) ?_
  intro p e s m args below meth c A ls F hh hl
  have hx := F.1.1
  have hb := F.1.2.1
  have hl : lv_has ls 11 [(0, .ref (ha 0)), (1, .int x1)] := hl
  obtain ⟨H, hHe⟩ : ∃ H, H = s.heap := ⟨_, rfl⟩
  rw [← hHe] at hh ⊢
  unfold wp_X6_determinant at hw
  refine lv_iconst (v := 0) hx hb dX6_determinant_0 (by decide) ?_
  refine lv_istore_n (lv' := [(2, .int 0), (0, .ref (ha 0)), (1, .int x1)]) hx hb dX6_determinant_1 rfl hl (by decide) rfl (fun ls hl => ?_)
  obtain ⟨n2, hw⟩ := hw
  exact w_X6_determinant_2 Post F  n2 x1 0 σ _ _ _ hh (lv_sub hl [1, 2, 0] rfl) hw
def J_X6_layRows_38 (K_7 : Int32 → lf_St → Prop) (Post : lf_St → Prop) (x1 : Int32) (t0 : Int32) (t1 : Int32) (σ : lf_St) : Prop := vp_in t1 6 ∧ (∀ σ2 : lf_St, σ2 = (lf_sa σ 13 t1.toNatClampNeg t0) → (vp_in x1 6 ∧ ((((lf_ai σ2 3 x1.toNatClampNeg) = 0) → (∀ v5 : Int32, v5 = x1 + 1 → (K_7 v5 (lf_si σ2 14 ((lf_gi σ2 14) + 2))))) ∧ ((¬ ((lf_ai σ2 3 x1.toNatClampNeg) = 0)) → (∀ v6 : Int32, v6 = x1 + 1 → (K_7 v6 (lf_si σ2 14 ((lf_gi σ2 14) + 0))))))))
def L_X6_layRows_7 (Post : lf_St → Prop) : Nat → Int32 → lf_St → Prop
  | 0, _, _ => False
  | n + 1, x1, σ => (((lf_gi σ 0) ≤ x1) → (Post σ)) ∧ ((¬ ((lf_gi σ 0) ≤ x1)) → (vp_in x1 6 ∧ ((((lf_ai σ 3 x1.toNatClampNeg) = 0) → (J_X6_layRows_38 (L_X6_layRows_7 Post n) Post x1 (lf_gi σ 14) x1 σ)) ∧ ((¬ ((lf_ai σ 3 x1.toNatClampNeg) = 0)) → (J_X6_layRows_38 (L_X6_layRows_7 Post n) Post x1 (-6) x1 σ)))))
def wp_X6_layRows (σ : lf_St) (Post : lf_St → Prop) : Prop := ∃ fu : Nat, L_X6_layRows_7 Post fu 0 (lf_si σ 14 0)
def rm_X6_layRows : Room := ({ frames := 0, cells := 0, slots := 0, locals := 0 } : Room)
set_option maxHeartbeats 4000000 in
set_option maxRecDepth 100000 in
theorem w_X6_layRows_38 {p : Program} {l : Launch} {e : Env} {s : State} {m : MethodId} {args : Array Value} {below : List Frame} {meth : Method} {c : Code} {D : va_G} {A : Nat → Prop} {ha : Nat → Nat} {cy : Nat → ClassId} (K_7 : Int32 → lf_St → Prop) (Post : lf_St → Prop) (F : lf_C p s m args meth c RX6 cX6_layRows 2 none D (tyM_ cy) A) (hK_7 : ∀ (x1 : Int32) (σ : lf_St) (H : Heap) (locs : List Loc) (ls : Array Slot), lf_H D (wM_ ha cy) A s σ H locs → lv_has ls 2 [(0, .ref (ha 0)), (1, .int x1)] → K_7 x1 σ → W p l e rm_X6_layRows s m args below meth c H locs 0 0 (lf_Qv below args s D (tyM_ cy) A (wM_ ha cy) Post) (F0 m 7 ls [])) (x1 : Int32) (t0 : Int32) (t1 : Int32) (σ : lf_St) (H : Heap) (locs : List Loc) (ls : Array Slot) (hh : lf_H D (wM_ ha cy) A s σ H locs) (hl : lv_has ls 2 [(0, .ref (ha 0)), (1, .int x1)]) (hw : J_X6_layRows_38 K_7 Post x1 t0 t1 σ) : W p l e rm_X6_layRows s m args below meth c H locs 0 0 (lf_Qv below args s D (tyM_ cy) A (wM_ ha cy) Post) (F0 m 38 ls [.int t0, .int t1, .ref (ha 13)]) := by
  have hx := F.1.1
  have hb := F.1.2.1
  unfold J_X6_layRows_38 at hw
  obtain ⟨q1, hw⟩ := hw
  refine wa_M_13 F hh q1 dX6_layRows_38 (fun H locs hh => ?_)
  refine lv_aload_n hx hb dX6_layRows_39 rfl (lv_at hl 0 rfl) ?_
  refine lv_dup hx hb dX6_layRows_40 rfl ?_
  obtain ⟨σ2, eσ2⟩ : ∃ z : lf_St, z = (lf_sa σ 13 t1.toNatClampNeg t0) := ⟨_, rfl⟩
  rw [← eσ2] at hh
  have hw := hw σ2 eσ2
  refine fg_X6_119 F hh dX6_layRows_41 ?_
  refine lv_aload_n hx hb dX6_layRows_44 rfl (lv_at hl 0 rfl) ?_
  refine fg_X6_16 F hh dX6_layRows_45 ?_
  refine lv_iload_n hx hb dX6_layRows_48 rfl (lv_at hl 1 rfl) ?_
  obtain ⟨q3, hw⟩ := hw
  refine ra_M_3 F hh q3 dX6_layRows_49 ?_
  refine lv_if_eq (tgt := 57) hx hb dX6_layRows_50 (by decide) (fun c4 => ?_) (fun c4 => ?_)
  · have hw := hw.1 c4
    refine lv_iconst (v := 2) hx hb dX6_layRows_57 (by decide) ?_
    refine lv_iadd hx hb dX6_layRows_58 ?_
    refine fp_X6_119 F hh dX6_layRows_59 (fun H locs hh => ?_)
    obtain ⟨v5, ev5⟩ : ∃ y : Int32, y = x1 + 1 := ⟨_, rfl⟩
    have hw := hw v5 ev5
    refine lv_iinc (v := v5) (lv' := [(1, .int v5), (0, .ref (ha 0))]) hx hb dX6_layRows_62 hl (k := 1) rfl (by rw [ev5]; rfl) (by decide) rfl (fun ls hl => ?_)
    refine lv_goto (tgt := 7) hx hb dX6_layRows_65 (by decide) ?_
    exact hK_7 v5 (lf_si σ2 14 ((lf_gi σ2 14) + 2)) _ _ _ hh (lv_sub hl [1, 0] rfl) hw
  · have hw := hw.2 c4
    refine lv_iconst (v := 0) hx hb dX6_layRows_53 (by decide) ?_
    refine lv_goto (tgt := 58) hx hb dX6_layRows_54 (by decide) ?_
    refine lv_iadd hx hb dX6_layRows_58 ?_
    refine fp_X6_119 F hh dX6_layRows_59 (fun H locs hh => ?_)
    obtain ⟨v6, ev6⟩ : ∃ y : Int32, y = x1 + 1 := ⟨_, rfl⟩
    have hw := hw v6 ev6
    refine lv_iinc (v := v6) (lv' := [(1, .int v6), (0, .ref (ha 0))]) hx hb dX6_layRows_62 hl (k := 1) rfl (by rw [ev6]; rfl) (by decide) rfl (fun ls hl => ?_)
    refine lv_goto (tgt := 7) hx hb dX6_layRows_65 (by decide) ?_
    exact hK_7 v6 (lf_si σ2 14 ((lf_gi σ2 14) + 0)) _ _ _ hh (lv_sub hl [1, 0] rfl) hw
set_option maxHeartbeats 4000000 in
set_option maxRecDepth 100000 in
theorem w_X6_layRows_7 {p : Program} {l : Launch} {e : Env} {s : State} {m : MethodId} {args : Array Value} {below : List Frame} {meth : Method} {c : Code} {D : va_G} {A : Nat → Prop} {ha : Nat → Nat} {cy : Nat → ClassId} (Post : lf_St → Prop) (F : lf_C p s m args meth c RX6 cX6_layRows 2 none D (tyM_ cy) A) : ∀ (n : Nat) (x1 : Int32) (σ : lf_St) (H : Heap) (locs : List Loc) (ls : Array Slot), lf_H D (wM_ ha cy) A s σ H locs → lv_has ls 2 [(0, .ref (ha 0)), (1, .int x1)] → L_X6_layRows_7 Post n x1 σ → W p l e rm_X6_layRows s m args below meth c H locs 0 0 (lf_Qv below args s D (tyM_ cy) A (wM_ ha cy) Post) (F0 m 7 ls []) := by
  have hx := F.1.1
  have hb := F.1.2.1
  intro n
  induction n with
  | zero =>
    intro x1 σ H locs ls hh hl hw
    exact False.elim hw
  | succ n ih =>
    intro x1 σ H locs ls hh hl hw
    unfold L_X6_layRows_7 at hw
    refine lv_iload_n hx hb dX6_layRows_7 rfl (lv_at hl 1 rfl) ?_
    refine lv_aload_n hx hb dX6_layRows_8 rfl (lv_at hl 0 rfl) ?_
    refine fg_X6_57 F hh dX6_layRows_9 ?_
    refine lv_icmp_ge (tgt := 68) hx hb dX6_layRows_12 (by decide) (fun c1 => ?_) (fun c1 => ?_)
    · have hw := hw.1 c1
      exact lf_retv F hh hw dX6_layRows_68
    · have hw := hw.2 c1
      refine lv_aload_n hx hb dX6_layRows_15 rfl (lv_at hl 0 rfl) ?_
      refine fg_X6_35 F hh dX6_layRows_16 ?_
      refine lv_iload_n hx hb dX6_layRows_19 rfl (lv_at hl 1 rfl) ?_
      refine lv_aload_n hx hb dX6_layRows_20 rfl (lv_at hl 0 rfl) ?_
      refine fg_X6_16 F hh dX6_layRows_21 ?_
      refine lv_iload_n hx hb dX6_layRows_24 rfl (lv_at hl 1 rfl) ?_
      obtain ⟨q2, hw⟩ := hw
      refine ra_M_3 F hh q2 dX6_layRows_25 ?_
      refine lv_if_eq (tgt := 34) hx hb dX6_layRows_26 (by decide) (fun c3 => ?_) (fun c3 => ?_)
      · have hw := hw.1 c3
        refine lv_aload_n hx hb dX6_layRows_34 rfl (lv_at hl 0 rfl) ?_
        refine fg_X6_119 F hh dX6_layRows_35 ?_
        exact w_X6_layRows_38 _ Post F ih x1 (lf_gi σ 14) x1 σ _ _ _ hh (lv_sub hl [0, 1] rfl) hw
      · have hw := hw.2 c3
        refine lv_bipush (v := (-6)) hx hb dX6_layRows_29 (by decide) ?_
        refine lv_goto (tgt := 38) hx hb dX6_layRows_31 (by decide) ?_
        exact w_X6_layRows_38 _ Post F ih x1 (-6) x1 σ _ _ _ hh (lv_sub hl [0, 1] rfl) hw
set_option maxHeartbeats 4000000 in
set_option maxRecDepth 100000 in
theorem c_X6_layRows (l : Launch) (D : va_G) (ha : Nat → Nat) (cy : Nat → ClassId) (sz : Nat) (σ : lf_St) (Post : lf_St → Prop) (hw : wp_X6_layRows σ Post) : lf_Mv l yX6_layRows (lf_ws yX6_layRows cX6_layRows 2 none) rm_X6_layRows D (tyM_ cy) (wM_ ha cy) sz σ [.ref (ha 0)] Post := by
  refine lf_ofv (by decide +kernel) (Nat.le_of_ble_eq_true rfl) ?_
  intro p e s m args below meth c A ls F hh hl
  have hx := F.1.1
  have hb := F.1.2.1
  have hl : lv_has ls 2 [(0, .ref (ha 0))] := hl
  obtain ⟨H, hHe⟩ : ∃ H, H = s.heap := ⟨_, rfl⟩
  rw [← hHe] at hh ⊢
  unfold wp_X6_layRows at hw
  refine lv_aload_n hx hb dX6_layRows_0 rfl (lv_at hl 0 rfl) ?_
  refine lv_iconst (v := 0) hx hb dX6_layRows_1 (by decide) ?_
  refine fp_X6_119 F hh dX6_layRows_2 (fun H locs hh => ?_)
  refine lv_iconst (v := 0) hx hb dX6_layRows_5 (by decide) ?_
  refine lv_istore_n (lv' := [(1, .int 0), (0, .ref (ha 0))]) hx hb dX6_layRows_6 rfl hl (by decide) rfl (fun ls hl => ?_)
  obtain ⟨n7, hw⟩ := hw
  exact w_X6_layRows_7 Post F  n7 0 (lf_si σ 14 0) _ _ _ hh (lv_sub hl [1, 0] rfl) hw
def wp_X6_put (x1 : Int32) (x2 : Int32) (x3 : Int64) (σ : lf_St) (Post : lf_St → Prop) : Prop := vp_in ((6 * x1) + x2) 36 ∧ (Post (lf_sb σ 15 (((6 * x1) + x2) : Int32).toNatClampNeg x3))
def rm_X6_put : Room := ({ frames := 0, cells := 0, slots := 0, locals := 0 } : Room)
set_option maxHeartbeats 4000000 in
set_option maxRecDepth 100000 in
theorem c_X6_put (l : Launch) (D : va_G) (ha : Nat → Nat) (cy : Nat → ClassId) (sz : Nat) (σ : lf_St) (x1 : Int32) (x2 : Int32) (x3 : Int64) (Post : lf_St → Prop) (hw : wp_X6_put x1 x2 x3 σ Post) : lf_Mv l yX6_put (lf_ws yX6_put cX6_put 5 none) rm_X6_put D (tyM_ cy) (wM_ ha cy) sz σ [.ref (ha 0), .int x1, .int x2, .long x3] Post := by
  refine lf_ofv (by decide +kernel) (Nat.le_of_ble_eq_true rfl) ?_
  intro p e s m args below meth c A ls F hh hl
  have hx := F.1.1
  have hb := F.1.2.1
  have hl : lv_has ls 5 [(0, .ref (ha 0)), (1, .int x1), (2, .int x2), (3, .long x3)] := hl
  obtain ⟨H, hHe⟩ : ∃ H, H = s.heap := ⟨_, rfl⟩
  rw [← hHe] at hh ⊢
  unfold wp_X6_put at hw
  refine lv_aload_n hx hb dX6_put_0 rfl (lv_at hl 0 rfl) ?_
  refine fg_X6_38 F hh dX6_put_1 ?_
  refine lv_bipush (v := 6) hx hb dX6_put_4 (by decide) ?_
  refine lv_iload_n hx hb dX6_put_6 rfl (lv_at hl 1 rfl) ?_
  refine lv_imul hx hb dX6_put_7 ?_
  refine lv_iload_n hx hb dX6_put_8 rfl (lv_at hl 2 rfl) ?_
  refine lv_iadd hx hb dX6_put_9 ?_
  refine lv_lload_n hx hb dX6_put_10 rfl (lv_at hl 3 rfl) ?_
  obtain ⟨q1, hw⟩ := hw
  refine wa_M_15 F hh q1 dX6_put_11 (fun H locs hh => ?_)
  exact lf_retv F hh hw dX6_put_12
theorem cw_X6_122 {R : Room} {s : State} {args : Array Value} (ht : ∀ w ∈ wsL_law, w.before args s = true) (hR : rm_X6_put.frames + 1 ≤ R.frames ∧ 8 + (5 + 11) + rm_X6_put.locals ≤ R.locals) : lf_cV R s args RX6 RX6 122 yX6_put cX6_put 5 none rm_X6_put 3 :=
  lf_cV_of 3 ht (lr_21 _ (List.mem_of_getElem? (i := 5) rfl)) (lr_21 _ (List.mem_of_getElem? (i := 2) rfl)) (lr_21 _ (List.mem_of_getElem? (i := 3) rfl)) (lr_21 _ (List.mem_of_getElem? (i := 4) rfl)) (lr_1 _ (List.mem_of_getElem? (i := 5) rfl)) rfl rfl (by decide +kernel) hR
def L_X6_layCells_185 (Post : lf_St → Prop) : Nat → Int32 → lf_St → Prop
  | 0, _, _ => False
  | n + 1, x1, σ => (((lf_gi σ 0) ≤ x1) → (Post σ)) ∧ ((¬ ((lf_gi σ 0) ≤ x1)) → (vp_in x1 6 ∧ ((((lf_ai σ 13 x1.toNatClampNeg) < 0) → (∀ v4 : Int32, v4 = x1 + 1 → (L_X6_layCells_185 Post n v4 σ))) ∧ ((¬ ((lf_ai σ 13 x1.toNatClampNeg) < 0)) → (vp_in x1 6 ∧ (vp_in x1 6 ∧ (vp_in (lf_ai σ 13 x1.toNatClampNeg) 6 ∧ (∀ σ8 : lf_St, σ8 = (lf_sb σ 17 ((lf_ai σ 13 x1.toNatClampNeg) : Int32).toNatClampNeg (((-(lf_ai σ 4 x1.toNatClampNeg)) : Int32).toInt64)) → vp_in x1 6 ∧ (vp_in x1 6 ∧ (vp_in ((lf_ai σ8 13 x1.toNatClampNeg) + 1) 6 ∧ (∀ v12 : Int32, v12 = x1 + 1 → (L_X6_layCells_185 Post n v12 (lf_sb σ8 17 (((lf_ai σ8 13 x1.toNatClampNeg) + 1) : Int32).toNatClampNeg (((-(lf_ai σ8 5 x1.toNatClampNeg)) : Int32).toInt64))))))))))))))
def J_X6_layCells_116 (K_23 : Int32 → lf_St → Prop) (Post : lf_St → Prop) (x1 : Int32) (x2 : Int32) (x3 : Int32) (σ : lf_St) : Prop := vp_in x3 6 ∧ ((((lf_ai σ 13 x3.toNatClampNeg) < 0) → (∀ v3 : Int32, v3 = x1 + 1 → (K_23 v3 σ))) ∧ ((¬ ((lf_ai σ 13 x3.toNatClampNeg) < 0)) → (vp_in x3 6 ∧ (vp_in x2 6 ∧ (vp_in x3 6 ∧ (wp_X6_put (lf_ai σ 13 x3.toNatClampNeg) x1 ((((lf_ai σ 1 x2.toNatClampNeg) - (lf_ai σ 1 x3.toNatClampNeg)) : Int32).toInt64) σ (fun σ7 => vp_in x3 6 ∧ (vp_in x2 6 ∧ (vp_in x3 6 ∧ (wp_X6_put ((lf_ai σ7 13 x3.toNatClampNeg) + 1) x1 ((((lf_ai σ7 2 x2.toNatClampNeg) - (lf_ai σ7 2 x3.toNatClampNeg)) : Int32).toInt64) σ7 (fun σ11 => ∀ v12 : Int32, v12 = x1 + 1 → (K_23 v12 σ11))))))))))))
def L_X6_layCells_23 (Post : lf_St → Prop) : Nat → Int32 → lf_St → Prop
  | 0, _, _ => False
  | n + 1, x1, σ => (((lf_gi σ 14) ≤ x1) → (∃ fu : Nat, L_X6_layCells_185 Post fu 0 σ)) ∧ ((¬ ((lf_gi σ 14) ≤ x1)) → (vp_in x1 6 ∧ (vp_in (lf_ai σ 19 x1.toNatClampNeg) 10 ∧ (∀ v4 : Int32, v4 = (lf_ai σ 7 ((lf_ai σ 19 x1.toNatClampNeg) : Int32).toNatClampNeg) → (vp_in x1 6 ∧ (vp_in (lf_ai σ 19 x1.toNatClampNeg) 10 ∧ (∀ v7 : Int32, v7 = (lf_ai σ 8 ((lf_ai σ 19 x1.toNatClampNeg) : Int32).toNatClampNeg) → (vp_in v4 6 ∧ ((((lf_ai σ 13 v4.toNatClampNeg) < 0) → (J_X6_layCells_116 (L_X6_layCells_23 Post n) Post x1 v4 v7 σ)) ∧ ((¬ ((lf_ai σ 13 v4.toNatClampNeg) < 0)) → (vp_in v4 6 ∧ (vp_in v7 6 ∧ (vp_in v4 6 ∧ (wp_X6_put (lf_ai σ 13 v4.toNatClampNeg) x1 ((((lf_ai σ 1 v7.toNatClampNeg) - (lf_ai σ 1 v4.toNatClampNeg)) : Int32).toInt64) σ (fun σ13 => vp_in v4 6 ∧ (vp_in v7 6 ∧ (vp_in v4 6 ∧ (wp_X6_put ((lf_ai σ13 13 v4.toNatClampNeg) + 1) x1 ((((lf_ai σ13 2 v7.toNatClampNeg) - (lf_ai σ13 2 v4.toNatClampNeg)) : Int32).toInt64) σ13 (fun σ17 => J_X6_layCells_116 (L_X6_layCells_23 Post n) Post x1 v4 v7 σ17)))))))))))))))))))
def L_X6_layCells_2 (Post : lf_St → Prop) : Nat → Int32 → lf_St → Prop
  | 0, _, _ => False
  | n + 1, x1, σ => ((36 ≤ x1) → (∃ fu : Nat, L_X6_layCells_23 Post fu 0 σ)) ∧ ((¬ (36 ≤ x1)) → (vp_in x1 36 ∧ (∀ v3 : Int32, v3 = x1 + 1 → (L_X6_layCells_2 Post n v3 (lf_sb σ 15 x1.toNatClampNeg 0)))))
def wp_X6_layCells (σ : lf_St) (Post : lf_St → Prop) : Prop := ∃ fu : Nat, L_X6_layCells_2 Post fu 0 σ
def rm_X6_layCells : Room := ({ frames := 1, cells := 0, slots := 0, locals := 24 } : Room)
set_option maxHeartbeats 4000000 in
set_option maxRecDepth 100000 in
theorem w_X6_layCells_185 {p : Program} {l : Launch} {e : Env} {s : State} {m : MethodId} {args : Array Value} {below : List Frame} {meth : Method} {c : Code} {D : va_G} {A : Nat → Prop} {ha : Nat → Nat} {cy : Nat → ClassId} (Post : lf_St → Prop) (F : lf_C p s m args meth c RX6 cX6_layCells 4 none D (tyM_ cy) A) : ∀ (n : Nat) (x1 : Int32) (σ : lf_St) (H : Heap) (locs : List Loc) (ls : Array Slot), lf_H D (wM_ ha cy) A s σ H locs → lv_has ls 4 [(0, .ref (ha 0)), (1, .int x1)] → L_X6_layCells_185 Post n x1 σ → W p l e rm_X6_layCells s m args below meth c H locs 0 0 (lf_Qv below args s D (tyM_ cy) A (wM_ ha cy) Post) (F0 m 185 ls []) := by
  have hx := F.1.1
  have hb := F.1.2.1
  intro n
  induction n with
  | zero =>
    intro x1 σ H locs ls hh hl hw
    exact False.elim hw
  | succ n ih =>
    intro x1 σ H locs ls hh hl hw
    unfold L_X6_layCells_185 at hw
    refine lv_iload_n hx hb dX6_layCells_185 rfl (lv_at hl 1 rfl) ?_
    refine lv_aload_n hx hb dX6_layCells_186 rfl (lv_at hl 0 rfl) ?_
    refine fg_X6_57 F hh dX6_layCells_187 ?_
    refine lv_icmp_ge (tgt := 248) hx hb dX6_layCells_190 (by decide) (fun c1 => ?_) (fun c1 => ?_)
    · have hw := hw.1 c1
      exact lf_retv F hh hw dX6_layCells_248
    · have hw := hw.2 c1
      refine lv_aload_n hx hb dX6_layCells_193 rfl (lv_at hl 0 rfl) ?_
      refine fg_X6_35 F hh dX6_layCells_194 ?_
      refine lv_iload_n hx hb dX6_layCells_197 rfl (lv_at hl 1 rfl) ?_
      obtain ⟨q2, hw⟩ := hw
      refine ra_M_13 F hh q2 dX6_layCells_198 ?_
      refine lv_if_lt (tgt := 242) hx hb dX6_layCells_199 (by decide) (fun c3 => ?_) (fun c3 => ?_)
      · have hw := hw.1 c3
        obtain ⟨v4, ev4⟩ : ∃ y : Int32, y = x1 + 1 := ⟨_, rfl⟩
        have hw := hw v4 ev4
        refine lv_iinc (v := v4) (lv' := [(1, .int v4), (0, .ref (ha 0))]) hx hb dX6_layCells_242 hl (k := 1) rfl (by rw [ev4]; rfl) (by decide) rfl (fun ls hl => ?_)
        refine lv_goto (tgt := 185) hx hb dX6_layCells_245 (by decide) ?_
        exact ih v4 σ _ _ _ hh (lv_sub hl [1, 0] rfl) hw
      · have hw := hw.2 c3
        refine lv_aload_n hx hb dX6_layCells_202 rfl (lv_at hl 0 rfl) ?_
        refine fg_X6_45 F hh dX6_layCells_203 ?_
        refine lv_aload_n hx hb dX6_layCells_206 rfl (lv_at hl 0 rfl) ?_
        refine fg_X6_35 F hh dX6_layCells_207 ?_
        refine lv_iload_n hx hb dX6_layCells_210 rfl (lv_at hl 1 rfl) ?_
        obtain ⟨q5, hw⟩ := hw
        refine ra_M_13 F hh q5 dX6_layCells_211 ?_
        refine lv_aload_n hx hb dX6_layCells_212 rfl (lv_at hl 0 rfl) ?_
        refine fg_X6_20 F hh dX6_layCells_213 ?_
        refine lv_iload_n hx hb dX6_layCells_216 rfl (lv_at hl 1 rfl) ?_
        obtain ⟨q6, hw⟩ := hw
        refine ra_M_4 F hh q6 dX6_layCells_217 ?_
        refine lv_ineg hx hb dX6_layCells_218 ?_
        refine lv_i2l hx hb dX6_layCells_219 rfl ?_
        obtain ⟨q7, hw⟩ := hw
        refine wa_M_17 F hh q7 dX6_layCells_220 (fun H locs hh => ?_)
        refine lv_aload_n hx hb dX6_layCells_221 rfl (lv_at hl 0 rfl) ?_
        refine fg_X6_45 F hh dX6_layCells_222 ?_
        refine lv_aload_n hx hb dX6_layCells_225 rfl (lv_at hl 0 rfl) ?_
        refine fg_X6_35 F hh dX6_layCells_226 ?_
        refine lv_iload_n hx hb dX6_layCells_229 rfl (lv_at hl 1 rfl) ?_
        obtain ⟨σ8, eσ8⟩ : ∃ z : lf_St, z = (lf_sb σ 17 ((lf_ai σ 13 x1.toNatClampNeg) : Int32).toNatClampNeg (((-(lf_ai σ 4 x1.toNatClampNeg)) : Int32).toInt64)) := ⟨_, rfl⟩
        rw [← eσ8] at hh
        have hw := hw σ8 eσ8
        obtain ⟨q9, hw⟩ := hw
        refine ra_M_13 F hh q9 dX6_layCells_230 ?_
        refine lv_iconst (v := 1) hx hb dX6_layCells_231 (by decide) ?_
        refine lv_iadd hx hb dX6_layCells_232 ?_
        refine lv_aload_n hx hb dX6_layCells_233 rfl (lv_at hl 0 rfl) ?_
        refine fg_X6_23 F hh dX6_layCells_234 ?_
        refine lv_iload_n hx hb dX6_layCells_237 rfl (lv_at hl 1 rfl) ?_
        obtain ⟨q10, hw⟩ := hw
        refine ra_M_5 F hh q10 dX6_layCells_238 ?_
        refine lv_ineg hx hb dX6_layCells_239 ?_
        refine lv_i2l hx hb dX6_layCells_240 rfl ?_
        obtain ⟨q11, hw⟩ := hw
        refine wa_M_17 F hh q11 dX6_layCells_241 (fun H locs hh => ?_)
        obtain ⟨v12, ev12⟩ : ∃ y : Int32, y = x1 + 1 := ⟨_, rfl⟩
        have hw := hw v12 ev12
        refine lv_iinc (v := v12) (lv' := [(1, .int v12), (0, .ref (ha 0))]) hx hb dX6_layCells_242 hl (k := 1) rfl (by rw [ev12]; rfl) (by decide) rfl (fun ls hl => ?_)
        refine lv_goto (tgt := 185) hx hb dX6_layCells_245 (by decide) ?_
        exact ih v12 (lf_sb σ8 17 (((lf_ai σ8 13 x1.toNatClampNeg) + 1) : Int32).toNatClampNeg (((-(lf_ai σ8 5 x1.toNatClampNeg)) : Int32).toInt64)) _ _ _ hh (lv_sub hl [1, 0] rfl) hw
set_option maxHeartbeats 4000000 in
set_option maxRecDepth 100000 in
theorem w_X6_layCells_116 {p : Program} {l : Launch} {e : Env} {s : State} {m : MethodId} {args : Array Value} {below : List Frame} {meth : Method} {c : Code} {D : va_G} {A : Nat → Prop} {ha : Nat → Nat} {cy : Nat → ClassId} (K_23 : Int32 → lf_St → Prop) (Post : lf_St → Prop) (F : lf_C p s m args meth c RX6 cX6_layCells 4 none D (tyM_ cy) A) (hK_23 : ∀ (x1 : Int32) (σ : lf_St) (H : Heap) (locs : List Loc) (ls : Array Slot), lf_H D (wM_ ha cy) A s σ H locs → lv_has ls 4 [(0, .ref (ha 0)), (1, .int x1)] → K_23 x1 σ → W p l e rm_X6_layCells s m args below meth c H locs 0 0 (lf_Qv below args s D (tyM_ cy) A (wM_ ha cy) Post) (F0 m 23 ls [])) (x1 : Int32) (x2 : Int32) (x3 : Int32) (σ : lf_St) (H : Heap) (locs : List Loc) (ls : Array Slot) (hh : lf_H D (wM_ ha cy) A s σ H locs) (hl : lv_has ls 4 [(0, .ref (ha 0)), (1, .int x1), (2, .int x2), (3, .int x3)]) (hw : J_X6_layCells_116 K_23 Post x1 x2 x3 σ) : W p l e rm_X6_layCells s m args below meth c H locs 0 0 (lf_Qv below args s D (tyM_ cy) A (wM_ ha cy) Post) (F0 m 116 ls []) := by
  have hx := F.1.1
  have hb := F.1.2.1
  unfold J_X6_layCells_116 at hw
  refine lv_aload_n hx hb dX6_layCells_116 rfl (lv_at hl 0 rfl) ?_
  refine fg_X6_35 F hh dX6_layCells_117 ?_
  refine lv_iload_n hx hb dX6_layCells_120 rfl (lv_at hl 3 rfl) ?_
  obtain ⟨q1, hw⟩ := hw
  refine ra_M_13 F hh q1 dX6_layCells_121 ?_
  refine lv_if_lt (tgt := 177) hx hb dX6_layCells_122 (by decide) (fun c2 => ?_) (fun c2 => ?_)
  · have hw := hw.1 c2
    obtain ⟨v3, ev3⟩ : ∃ y : Int32, y = x1 + 1 := ⟨_, rfl⟩
    have hw := hw v3 ev3
    refine lv_iinc (v := v3) (lv' := [(1, .int v3), (0, .ref (ha 0)), (2, .int x2), (3, .int x3)]) hx hb dX6_layCells_177 hl (k := 1) rfl (by rw [ev3]; rfl) (by decide) rfl (fun ls hl => ?_)
    refine lv_goto (tgt := 23) hx hb dX6_layCells_180 (by decide) ?_
    exact hK_23 v3 σ _ _ _ hh (lv_sub hl [1, 0] rfl) hw
  · have hw := hw.2 c2
    refine lv_aload_n hx hb dX6_layCells_125 rfl (lv_at hl 0 rfl) ?_
    refine lv_aload_n hx hb dX6_layCells_126 rfl (lv_at hl 0 rfl) ?_
    refine fg_X6_35 F hh dX6_layCells_127 ?_
    refine lv_iload_n hx hb dX6_layCells_130 rfl (lv_at hl 3 rfl) ?_
    obtain ⟨q4, hw⟩ := hw
    refine ra_M_13 F hh q4 dX6_layCells_131 ?_
    refine lv_iload_n hx hb dX6_layCells_132 rfl (lv_at hl 1 rfl) ?_
    refine lv_aload_n hx hb dX6_layCells_133 rfl (lv_at hl 0 rfl) ?_
    refine fg_X6_7 F hh dX6_layCells_134 ?_
    refine lv_iload_n hx hb dX6_layCells_137 rfl (lv_at hl 2 rfl) ?_
    obtain ⟨q5, hw⟩ := hw
    refine ra_M_1 F hh q5 dX6_layCells_138 ?_
    refine lv_aload_n hx hb dX6_layCells_139 rfl (lv_at hl 0 rfl) ?_
    refine fg_X6_7 F hh dX6_layCells_140 ?_
    refine lv_iload_n hx hb dX6_layCells_143 rfl (lv_at hl 3 rfl) ?_
    obtain ⟨q6, hw⟩ := hw
    refine ra_M_1 F hh q6 dX6_layCells_144 ?_
    refine lv_isub hx hb dX6_layCells_145 ?_
    refine lv_i2l hx hb dX6_layCells_146 rfl ?_
    refine lf_callVv (rest := []) F hh (cw_X6_122 F.1.2.2.2.2 ⟨Nat.le_of_ble_eq_true rfl, Nat.le_of_ble_eq_true rfl⟩) (c_X6_put l D ha cy H.size σ (lf_ai σ 13 x3.toNatClampNeg) x1 ((((lf_ai σ 1 x2.toNatClampNeg) - (lf_ai σ 1 x3.toNatClampNeg)) : Int32).toInt64) _ hw) 0 6 rfl rfl rfl rfl hl.1 (Nat.le_of_ble_eq_true rfl) dX6_layCells_147 rfl (fun σ7 H locs hw hh => ?_)
    refine lv_aload_n hx hb dX6_layCells_150 rfl (lv_at hl 0 rfl) ?_
    refine lv_aload_n hx hb dX6_layCells_151 rfl (lv_at hl 0 rfl) ?_
    refine fg_X6_35 F hh dX6_layCells_152 ?_
    refine lv_iload_n hx hb dX6_layCells_155 rfl (lv_at hl 3 rfl) ?_
    obtain ⟨q8, hw⟩ := hw
    refine ra_M_13 F hh q8 dX6_layCells_156 ?_
    refine lv_iconst (v := 1) hx hb dX6_layCells_157 (by decide) ?_
    refine lv_iadd hx hb dX6_layCells_158 ?_
    refine lv_iload_n hx hb dX6_layCells_159 rfl (lv_at hl 1 rfl) ?_
    refine lv_aload_n hx hb dX6_layCells_160 rfl (lv_at hl 0 rfl) ?_
    refine fg_X6_13 F hh dX6_layCells_161 ?_
    refine lv_iload_n hx hb dX6_layCells_164 rfl (lv_at hl 2 rfl) ?_
    obtain ⟨q9, hw⟩ := hw
    refine ra_M_2 F hh q9 dX6_layCells_165 ?_
    refine lv_aload_n hx hb dX6_layCells_166 rfl (lv_at hl 0 rfl) ?_
    refine fg_X6_13 F hh dX6_layCells_167 ?_
    refine lv_iload_n hx hb dX6_layCells_170 rfl (lv_at hl 3 rfl) ?_
    obtain ⟨q10, hw⟩ := hw
    refine ra_M_2 F hh q10 dX6_layCells_171 ?_
    refine lv_isub hx hb dX6_layCells_172 ?_
    refine lv_i2l hx hb dX6_layCells_173 rfl ?_
    refine lf_callVv (rest := []) F hh (cw_X6_122 F.1.2.2.2.2 ⟨Nat.le_of_ble_eq_true rfl, Nat.le_of_ble_eq_true rfl⟩) (c_X6_put l D ha cy H.size σ7 ((lf_ai σ7 13 x3.toNatClampNeg) + 1) x1 ((((lf_ai σ7 2 x2.toNatClampNeg) - (lf_ai σ7 2 x3.toNatClampNeg)) : Int32).toInt64) _ hw) 0 6 rfl rfl rfl rfl hl.1 (Nat.le_of_ble_eq_true rfl) dX6_layCells_174 rfl (fun σ11 H locs hw hh => ?_)
    obtain ⟨v12, ev12⟩ : ∃ y : Int32, y = x1 + 1 := ⟨_, rfl⟩
    have hw := hw v12 ev12
    refine lv_iinc (v := v12) (lv' := [(1, .int v12), (0, .ref (ha 0)), (2, .int x2), (3, .int x3)]) hx hb dX6_layCells_177 hl (k := 1) rfl (by rw [ev12]; rfl) (by decide) rfl (fun ls hl => ?_)
    refine lv_goto (tgt := 23) hx hb dX6_layCells_180 (by decide) ?_
    exact hK_23 v12 σ11 _ _ _ hh (lv_sub hl [1, 0] rfl) hw
set_option maxHeartbeats 4000000 in
set_option maxRecDepth 100000 in
theorem w_X6_layCells_23 {p : Program} {l : Launch} {e : Env} {s : State} {m : MethodId} {args : Array Value} {below : List Frame} {meth : Method} {c : Code} {D : va_G} {A : Nat → Prop} {ha : Nat → Nat} {cy : Nat → ClassId} (Post : lf_St → Prop) (F : lf_C p s m args meth c RX6 cX6_layCells 4 none D (tyM_ cy) A) : ∀ (n : Nat) (x1 : Int32) (σ : lf_St) (H : Heap) (locs : List Loc) (ls : Array Slot), lf_H D (wM_ ha cy) A s σ H locs → lv_has ls 4 [(0, .ref (ha 0)), (1, .int x1)] → L_X6_layCells_23 Post n x1 σ → W p l e rm_X6_layCells s m args below meth c H locs 0 0 (lf_Qv below args s D (tyM_ cy) A (wM_ ha cy) Post) (F0 m 23 ls []) := by
  have hx := F.1.1
  have hb := F.1.2.1
  intro n
  induction n with
  | zero =>
    intro x1 σ H locs ls hh hl hw
    exact False.elim hw
  | succ n ih =>
    intro x1 σ H locs ls hh hl hw
    unfold L_X6_layCells_23 at hw
    refine lv_iload_n hx hb dX6_layCells_23 rfl (lv_at hl 1 rfl) ?_
    refine lv_aload_n hx hb dX6_layCells_24 rfl (lv_at hl 0 rfl) ?_
    refine fg_X6_119 F hh dX6_layCells_25 ?_
    refine lv_icmp_ge (tgt := 183) hx hb dX6_layCells_28 (by decide) (fun c1 => ?_) (fun c1 => ?_)
    · have hw := hw.1 c1
      refine lv_iconst (v := 0) hx hb dX6_layCells_183 (by decide) ?_
      refine lv_istore_n (lv' := [(1, .int 0), (0, .ref (ha 0))]) hx hb dX6_layCells_184 rfl hl (by decide) rfl (fun ls hl => ?_)
      obtain ⟨n185, hw⟩ := hw
      exact w_X6_layCells_185 Post F  n185 0 σ _ _ _ hh (lv_sub hl [1, 0] rfl) hw
    · have hw := hw.2 c1
      refine lv_aload_n hx hb dX6_layCells_31 rfl (lv_at hl 0 rfl) ?_
      refine fg_X6_26 F hh dX6_layCells_32 ?_
      refine lv_aload_n hx hb dX6_layCells_35 rfl (lv_at hl 0 rfl) ?_
      refine fg_X6_48 F hh dX6_layCells_36 ?_
      refine lv_iload_n hx hb dX6_layCells_39 rfl (lv_at hl 1 rfl) ?_
      obtain ⟨q2, hw⟩ := hw
      refine ra_M_19 F hh q2 dX6_layCells_40 ?_
      obtain ⟨q3, hw⟩ := hw
      refine ra_M_7 F hh q3 dX6_layCells_41 ?_
      refine lv_topi (fun v4 ev4 => ?_)
      have hw := hw v4 ev4
      refine lv_istore_n (lv' := [(2, .int v4), (0, .ref (ha 0)), (1, .int x1)]) hx hb dX6_layCells_42 rfl hl (by decide) rfl (fun ls hl => ?_)
      refine lv_aload_n hx hb dX6_layCells_43 rfl (lv_at hl 1 rfl) ?_
      refine fg_X6_29 F hh dX6_layCells_44 ?_
      refine lv_aload_n hx hb dX6_layCells_47 rfl (lv_at hl 1 rfl) ?_
      refine fg_X6_48 F hh dX6_layCells_48 ?_
      refine lv_iload_n hx hb dX6_layCells_51 rfl (lv_at hl 2 rfl) ?_
      obtain ⟨q5, hw⟩ := hw
      refine ra_M_19 F hh q5 dX6_layCells_52 ?_
      obtain ⟨q6, hw⟩ := hw
      refine ra_M_8 F hh q6 dX6_layCells_53 ?_
      refine lv_topi (fun v7 ev7 => ?_)
      have hw := hw v7 ev7
      refine lv_istore_n (lv' := [(3, .int v7), (2, .int v4), (0, .ref (ha 0)), (1, .int x1)]) hx hb dX6_layCells_54 rfl hl (by decide) rfl (fun ls hl => ?_)
      refine lv_aload_n hx hb dX6_layCells_55 rfl (lv_at hl 2 rfl) ?_
      refine fg_X6_35 F hh dX6_layCells_56 ?_
      refine lv_iload_n hx hb dX6_layCells_59 rfl (lv_at hl 1 rfl) ?_
      obtain ⟨q8, hw⟩ := hw
      refine ra_M_13 F hh q8 dX6_layCells_60 ?_
      refine lv_if_lt (tgt := 116) hx hb dX6_layCells_61 (by decide) (fun c9 => ?_) (fun c9 => ?_)
      · have hw := hw.1 c9
        exact w_X6_layCells_116 _ Post F ih x1 v4 v7 σ _ _ _ hh (lv_sub hl [2, 3, 1, 0] rfl) hw
      · have hw := hw.2 c9
        refine lv_aload_n hx hb dX6_layCells_64 rfl (lv_at hl 2 rfl) ?_
        refine lv_aload_n hx hb dX6_layCells_65 rfl (lv_at hl 2 rfl) ?_
        refine fg_X6_35 F hh dX6_layCells_66 ?_
        refine lv_iload_n hx hb dX6_layCells_69 rfl (lv_at hl 1 rfl) ?_
        obtain ⟨q10, hw⟩ := hw
        refine ra_M_13 F hh q10 dX6_layCells_70 ?_
        refine lv_iload_n hx hb dX6_layCells_71 rfl (lv_at hl 3 rfl) ?_
        refine lv_aload_n hx hb dX6_layCells_72 rfl (lv_at hl 2 rfl) ?_
        refine fg_X6_7 F hh dX6_layCells_73 ?_
        refine lv_iload_n hx hb dX6_layCells_76 rfl (lv_at hl 0 rfl) ?_
        obtain ⟨q11, hw⟩ := hw
        refine ra_M_1 F hh q11 dX6_layCells_77 ?_
        refine lv_aload_n hx hb dX6_layCells_78 rfl (lv_at hl 2 rfl) ?_
        refine fg_X6_7 F hh dX6_layCells_79 ?_
        refine lv_iload_n hx hb dX6_layCells_82 rfl (lv_at hl 1 rfl) ?_
        obtain ⟨q12, hw⟩ := hw
        refine ra_M_1 F hh q12 dX6_layCells_83 ?_
        refine lv_isub hx hb dX6_layCells_84 ?_
        refine lv_i2l hx hb dX6_layCells_85 rfl ?_
        refine lf_callVv (rest := []) F hh (cw_X6_122 F.1.2.2.2.2 ⟨Nat.le_of_ble_eq_true rfl, Nat.le_of_ble_eq_true rfl⟩) (c_X6_put l D ha cy H.size σ (lf_ai σ 13 v4.toNatClampNeg) x1 ((((lf_ai σ 1 v7.toNatClampNeg) - (lf_ai σ 1 v4.toNatClampNeg)) : Int32).toInt64) _ hw) 0 6 rfl rfl rfl rfl hl.1 (Nat.le_of_ble_eq_true rfl) dX6_layCells_86 rfl (fun σ13 H locs hw hh => ?_)
        refine lv_aload_n hx hb dX6_layCells_89 rfl (lv_at hl 2 rfl) ?_
        refine lv_aload_n hx hb dX6_layCells_90 rfl (lv_at hl 2 rfl) ?_
        refine fg_X6_35 F hh dX6_layCells_91 ?_
        refine lv_iload_n hx hb dX6_layCells_94 rfl (lv_at hl 1 rfl) ?_
        obtain ⟨q14, hw⟩ := hw
        refine ra_M_13 F hh q14 dX6_layCells_95 ?_
        refine lv_iconst (v := 1) hx hb dX6_layCells_96 (by decide) ?_
        refine lv_iadd hx hb dX6_layCells_97 ?_
        refine lv_iload_n hx hb dX6_layCells_98 rfl (lv_at hl 3 rfl) ?_
        refine lv_aload_n hx hb dX6_layCells_99 rfl (lv_at hl 2 rfl) ?_
        refine fg_X6_13 F hh dX6_layCells_100 ?_
        refine lv_iload_n hx hb dX6_layCells_103 rfl (lv_at hl 0 rfl) ?_
        obtain ⟨q15, hw⟩ := hw
        refine ra_M_2 F hh q15 dX6_layCells_104 ?_
        refine lv_aload_n hx hb dX6_layCells_105 rfl (lv_at hl 2 rfl) ?_
        refine fg_X6_13 F hh dX6_layCells_106 ?_
        refine lv_iload_n hx hb dX6_layCells_109 rfl (lv_at hl 1 rfl) ?_
        obtain ⟨q16, hw⟩ := hw
        refine ra_M_2 F hh q16 dX6_layCells_110 ?_
        refine lv_isub hx hb dX6_layCells_111 ?_
        refine lv_i2l hx hb dX6_layCells_112 rfl ?_
        refine lf_callVv (rest := []) F hh (cw_X6_122 F.1.2.2.2.2 ⟨Nat.le_of_ble_eq_true rfl, Nat.le_of_ble_eq_true rfl⟩) (c_X6_put l D ha cy H.size σ13 ((lf_ai σ13 13 v4.toNatClampNeg) + 1) x1 ((((lf_ai σ13 2 v7.toNatClampNeg) - (lf_ai σ13 2 v4.toNatClampNeg)) : Int32).toInt64) _ hw) 0 6 rfl rfl rfl rfl hl.1 (Nat.le_of_ble_eq_true rfl) dX6_layCells_113 rfl (fun σ17 H locs hw hh => ?_)
        exact w_X6_layCells_116 _ Post F ih x1 v4 v7 σ17 _ _ _ hh (lv_sub hl [2, 3, 1, 0] rfl) hw
set_option maxHeartbeats 4000000 in
set_option maxRecDepth 100000 in
theorem w_X6_layCells_2 {p : Program} {l : Launch} {e : Env} {s : State} {m : MethodId} {args : Array Value} {below : List Frame} {meth : Method} {c : Code} {D : va_G} {A : Nat → Prop} {ha : Nat → Nat} {cy : Nat → ClassId} (Post : lf_St → Prop) (F : lf_C p s m args meth c RX6 cX6_layCells 4 none D (tyM_ cy) A) : ∀ (n : Nat) (x1 : Int32) (σ : lf_St) (H : Heap) (locs : List Loc) (ls : Array Slot), lf_H D (wM_ ha cy) A s σ H locs → lv_has ls 4 [(0, .ref (ha 0)), (1, .int x1)] → L_X6_layCells_2 Post n x1 σ → W p l e rm_X6_layCells s m args below meth c H locs 0 0 (lf_Qv below args s D (tyM_ cy) A (wM_ ha cy) Post) (F0 m 2 ls []) := by
  have hx := F.1.1
  have hb := F.1.2.1
  intro n
  induction n with
  | zero =>
    intro x1 σ H locs ls hh hl hw
    exact False.elim hw
  | succ n ih =>
    intro x1 σ H locs ls hh hl hw
    unfold L_X6_layCells_2 at hw
    refine lv_iload_n hx hb dX6_layCells_2 rfl (lv_at hl 1 rfl) ?_
    refine lv_bipush (v := 36) hx hb dX6_layCells_3 (by decide) ?_
    refine lv_icmp_ge (tgt := 21) hx hb dX6_layCells_5 (by decide) (fun c1 => ?_) (fun c1 => ?_)
    · have hw := hw.1 c1
      refine lv_iconst (v := 0) hx hb dX6_layCells_21 (by decide) ?_
      refine lv_istore_n (lv' := [(1, .int 0), (0, .ref (ha 0))]) hx hb dX6_layCells_22 rfl hl (by decide) rfl (fun ls hl => ?_)
      obtain ⟨n23, hw⟩ := hw
      exact w_X6_layCells_23 Post F  n23 0 σ _ _ _ hh (lv_sub hl [1, 0] rfl) hw
    · have hw := hw.2 c1
      refine lv_aload_n hx hb dX6_layCells_8 rfl (lv_at hl 0 rfl) ?_
      refine fg_X6_38 F hh dX6_layCells_9 ?_
      refine lv_iload_n hx hb dX6_layCells_12 rfl (lv_at hl 1 rfl) ?_
      refine lv_lconst (v := 0) hx hb dX6_layCells_13 (by decide) ?_
      obtain ⟨q2, hw⟩ := hw
      refine wa_M_15 F hh q2 dX6_layCells_14 (fun H locs hh => ?_)
      obtain ⟨v3, ev3⟩ : ∃ y : Int32, y = x1 + 1 := ⟨_, rfl⟩
      have hw := hw v3 ev3
      refine lv_iinc (v := v3) (lv' := [(1, .int v3), (0, .ref (ha 0))]) hx hb dX6_layCells_15 hl (k := 1) rfl (by rw [ev3]; rfl) (by decide) rfl (fun ls hl => ?_)
      refine lv_goto (tgt := 2) hx hb dX6_layCells_18 (by decide) ?_
      exact ih v3 (lf_sb σ 15 x1.toNatClampNeg 0) _ _ _ hh (lv_sub hl [1, 0] rfl) hw
set_option maxHeartbeats 4000000 in
set_option maxRecDepth 100000 in
theorem c_X6_layCells (l : Launch) (D : va_G) (ha : Nat → Nat) (cy : Nat → ClassId) (sz : Nat) (σ : lf_St) (Post : lf_St → Prop) (hw : wp_X6_layCells σ Post) : lf_Mv l yX6_layCells (lf_ws yX6_layCells cX6_layCells 4 none) rm_X6_layCells D (tyM_ cy) (wM_ ha cy) sz σ [.ref (ha 0)] Post := by
  refine lf_ofv (by decide +kernel) (Nat.le_of_ble_eq_true rfl) ?_
  intro p e s m args below meth c A ls F hh hl
  have hx := F.1.1
  have hb := F.1.2.1
  have hl : lv_has ls 4 [(0, .ref (ha 0))] := hl
  obtain ⟨H, hHe⟩ : ∃ H, H = s.heap := ⟨_, rfl⟩
  rw [← hHe] at hh ⊢
  unfold wp_X6_layCells at hw
  refine lv_iconst (v := 0) hx hb dX6_layCells_0 (by decide) ?_
  refine lv_istore_n (lv' := [(1, .int 0), (0, .ref (ha 0))]) hx hb dX6_layCells_1 rfl hl (by decide) rfl (fun ls hl => ?_)
  obtain ⟨n2, hw⟩ := hw
  exact w_X6_layCells_2 Post F  n2 0 σ _ _ _ hh (lv_sub hl [1, 0] rfl) hw
