/-- two worlds side by side -/
def lw_H (D : va_G) (w1 w2 : va_W) (A : Nat → Prop) (s : State) (H : Heap) (locs : List Loc) : Prop :=
  va_P D vwCl w1 H ∧ va_P D vwCl w2 H ∧ va_D A w1 ∧ va_D A w2 ∧ (∀ (i j : Nat) (p q : Nat × va_E), w1[i]? = some p → w2[j]? = some q → p.1 ≠ q.1) ∧ va_S A s.heap H locs
theorem lw_H.sym {D : va_G} {w1 w2 : va_W} {A : Nat → Prop} {s : State} {H : Heap} {locs : List Loc} (h : lw_H D w1 w2 A s H locs) : lw_H D w2 w1 A s H locs :=
  ⟨h.2.1, h.1, h.2.2.2.1, h.2.2.1, fun i j p q h1 h2 e => h.2.2.2.2.1 j i q p h2 h1 e.symm, h.2.2.2.2.2⟩
theorem lw_fr {D : va_G} {w1 w2 : va_W} {A : Nat → Prop} {s : State} {H : Heap} {locs : List Loc} (hA : ∀ q, s.heap.size ≤ q → A q) (h : lw_H D w1 w2 A s H locs) : ∀ q, va_A w1 H.size q → A q := by
  intro q hq
  rcases hq with ⟨k, e, hq⟩ | hq
  · exact h.2.2.1.2 k (q, e) hq
  · exact hA q (Nat.le_trans h.2.2.2.2.2.1 hq)
theorem lw_apart {D : va_G} {w1 w2 : va_W} {A : Nat → Prop} {s : State} {H : Heap} {locs : List Loc} (h : lw_H D w1 w2 A s H locs) {k : Nat} {q : Nat × va_E} (hk : w2[k]? = some q) : q.1 < H.size ∧ ¬ va_A w1 H.size q.1 := by
  have hl := (h.2.1 k q hk).lt
  refine ⟨hl, fun hz => ?_⟩
  rcases hz with ⟨i, e, hz⟩ | hz
  · exact h.2.2.2.2.1 i k _ q hz hk rfl
  · exact absurd hl (Nat.not_lt.mpr hz)
theorem lw_join {D : va_G} {w1 w2 w1' : va_W} {A : Nat → Prop} {s : State} {H H1 : Heap} {locs locs1 : List Loc} (hA : ∀ q, s.heap.size ≤ q → A q) (h : lw_H D w1 w2 A s H locs) (hk : ∀ q : Nat, q < H.size → ¬ va_A w1 H.size q → H1[q]? = H[q]?) (hP : va_P D vwCl w1' H1) (hD : va_D (va_A w1 H.size) w1') (hS : va_S A s.heap H1 locs1) : lw_H D w1' w2 A s H1 locs1 := by
  refine ⟨hP, h.2.1.kept (fun k q hq => hk _ (lw_apart h hq).1 (lw_apart h hq).2), ⟨hD.1, fun k q hq => lw_fr hA h _ (hD.2 k q hq)⟩, h.2.2.2.1, fun i j p q h1 h2 e => ?_, hS⟩
  have z := hD.2 i p h1
  rw [e] at z
  exact (lw_apart h h2).2 z
section LWC
variable {p : Program} {l : Launch} {e : Env} {R : Room} {s : State} {m : MethodId} {args : Array Value} {below : List Frame} {meth : Method} {c : Code} {H : Heap} {locs : List Loc} {Q : State → Prop} {cells slots : Nat}
variable {cc : ByteArray} {pc : Nat} {ls : Array Slot} {rest : List Value} {D : va_G} {A : Nat → Prop} {tys : List (ClassId × FieldType)} {wf : lf_St → va_W} {w2 : va_W} {own : String} {nL : Nat} {σ : lf_St}
variable {y : MethodName} {bytes : ByteArray} {maxL index n : Nat} {rt : Option FieldType} {rm : Room} {C : String} {b : Addr} {As : List Value}
theorem lw_calli {Post : Int32 → lf_St → Prop} (F : CallFix p m c cc nL s args wsL_law own) (hK : va_K D vwCl tys s) (hA : ∀ q, s.heap.size ≤ q → A q) (hh : lw_H D (wf σ) w2 A s H locs) (hcs : cells ≤ R.cells ∧ slots ≤ R.slots) (cw : lf_cV R s args own C index y bytes maxL rt rm n) (hM : lf_Mi l y (lf_ws y bytes maxL rt) rm D tys wf H.size σ (.ref b :: As) Post)
    (q0 ci : Nat) {q : vw_C} {fs : List Value} (hc : vwCl[ci]? = some q) (hC : q.1 = C) (he : (wf σ)[q0]? = some (b, .inr (ci, fs))) (hn : As.length = n) (hl : ls.size = nL) (hW : (rest.map fun v => v.category).sum ≤ 8) (hdg : decode cc pc = .ok (.invokevirtual index, 3)) {st0 : List Value} (hst : st0 = As.reverse ++ .ref b :: rest)
    (kk : ∀ (r : Int32) (σ' : lf_St) (H1 : Heap) (locs1 : List Loc), Post r σ' → lw_H D (wf σ') w2 A s H1 locs1 → W p l e R s m args below meth c H1 locs1 cells slots Q (F0 m (pc + 3) ls (.int r :: rest))) : W p l e R s m args below meth c H locs cells slots Q (F0 m pc ls st0) := by
  subst hst; subst hC
  exact va_calli (va_runV (As := As) (rest := rest) F hM cw ⟨lf_P_blind _ _ _ _ _ _, va_recv hK hh.1 hc he, fun U hU hW => ⟨rfl, by rw [hU], by rw [hU]; exact hh.1, va_K.moved hW.alike hK, hh.2.2.1.weaken (fun _ _ _ _ => trivial)⟩⟩ rfl hn hl rfl (lv_room hW) hdg ⟨hcs.1, hcs.2⟩) hh.2.2.2.2.2 (fun q _ h => lw_fr hA hh q h) (lw_fr hA hh) (fun r u t H1 locs1 ht _ hw hB _ hk hS => kk r u H1 locs1 hw (lw_join hA hh hk (by rw [← ht]; exact hB.1) hB.2.2 hS))
theorem lw_calll {Post : Int64 → lf_St → Prop} (F : CallFix p m c cc nL s args wsL_law own) (hK : va_K D vwCl tys s) (hA : ∀ q, s.heap.size ≤ q → A q) (hh : lw_H D (wf σ) w2 A s H locs) (hcs : cells ≤ R.cells ∧ slots ≤ R.slots) (cw : lf_cV R s args own C index y bytes maxL rt rm n) (hM : lf_Ml l y (lf_ws y bytes maxL rt) rm D tys wf H.size σ (.ref b :: As) Post)
    (q0 ci : Nat) {q : vw_C} {fs : List Value} (hc : vwCl[ci]? = some q) (hC : q.1 = C) (he : (wf σ)[q0]? = some (b, .inr (ci, fs))) (hn : As.length = n) (hl : ls.size = nL) (hW : (rest.map fun v => v.category).sum ≤ 8) (hdg : decode cc pc = .ok (.invokevirtual index, 3)) {st0 : List Value} (hst : st0 = As.reverse ++ .ref b :: rest)
    (kk : ∀ (r : Int64) (σ' : lf_St) (H1 : Heap) (locs1 : List Loc), Post r σ' → lw_H D (wf σ') w2 A s H1 locs1 → W p l e R s m args below meth c H1 locs1 cells slots Q (F0 m (pc + 3) ls (.long r :: rest))) : W p l e R s m args below meth c H locs cells slots Q (F0 m pc ls st0) := by
  subst hst; subst hC
  exact va_calll (va_runV (As := As) (rest := rest) F hM cw ⟨lf_P_blind _ _ _ _ _ _, va_recv hK hh.1 hc he, fun U hU hW => ⟨rfl, by rw [hU], by rw [hU]; exact hh.1, va_K.moved hW.alike hK, hh.2.2.1.weaken (fun _ _ _ _ => trivial)⟩⟩ rfl hn hl rfl (lv_room hW) hdg ⟨hcs.1, hcs.2⟩) hh.2.2.2.2.2 (fun q _ h => lw_fr hA hh q h) (lw_fr hA hh) (fun r u t H1 locs1 ht _ hw hB _ hk hS => kk r u H1 locs1 hw (lw_join hA hh hk (by rw [← ht]; exact hB.1) hB.2.2 hS))
end LWC
/-- the states that the constructors leave -/
def lf_M0 : lf_St := (fun _ => 0, fun _ => 0, fun _ _ => 0, fun _ _ => 0)
def lf_C0 : lf_St := (fun _ => 0, fun k => if k < 2 then 1 else if 20 ≤ k ∧ k < 25 then 1 else 0, fun _ _ => 0, fun _ _ => 0)
def lw_pc : List Nat := [0, 1, 2, 3, 4, 5, 6, 7, 8, 9, 10, 11, 12, 13, 17, 16, 18, 26, 19, 35, 36, 37, 27, 29, 31, 33, 14, 28, 30, 32, 34, 15, 20, 21, 22, 23, 24, 25]
def lw_pm : List Nat := [0, 1, 2, 3, 4, 5, 0, 6, 7, 0, 8, 0, 0, 9, 0, 10, 11, 12, 0, 13, 0, 14, 0, 0, 15, 0]
set_option maxRecDepth 100000 in
set_option maxHeartbeats 4000000 in
theorem lw_iC {D : va_G} {f : Nat → Nat} {g : Nat → ClassId} {A : Nat → Prop} {s : State} {H : Heap} (hP : va_P D vwCl (wI_X5 f g) H) (hD : va_D A (wI_X5 f g)) (hK : va_K D vwCl (tI_X5 g) s) : ∃ (ha : Nat → Nat) (cy : Nat → ClassId), ha 0 = f 0 ∧ va_P D vwCl (wC_ ha cy lf_C0) H ∧ va_D A (wC_ ha cy lf_C0) ∧ va_K D vwCl (tyC_ cy) s := by
  obtain ⟨ha, hha⟩ : ∃ ha : Nat → Nat, ha = fun p => f (lw_pc.getD p 0) := ⟨_, rfl⟩
  obtain ⟨cy, hcy⟩ : ∃ cy : Nat → ClassId, cy = fun p => g (lw_pc.getD p 0) := ⟨_, rfl⟩
  have e1 : (fun j => if j < 4 then some (ha (22 + j)) else none) = va_up (va_up (va_up (va_up (fun _ => none) (0 : Int32).toNatClampNeg (some (f 27))) (1 : Int32).toNatClampNeg (some (f 29))) (2 : Int32).toNatClampNeg (some (f 31))) (3 : Int32).toNatClampNeg (some (f 33)) := by
    subst hha
    funext j
    match j with
    | 0 => rfl
    | 1 => rfl
    | 2 => rfl
    | 3 => rfl
    | j + 4 =>
      have h0 : ¬ j + 4 < 4 := by omega
      have q0 : j + 4 ≠ (0 : Int32).toNatClampNeg := by show j + 4 ≠ 0; omega
      have q1 : j + 4 ≠ (1 : Int32).toNatClampNeg := by show j + 4 ≠ 1; omega
      have q2 : j + 4 ≠ (2 : Int32).toNatClampNeg := by show j + 4 ≠ 2; omega
      have q3 : j + 4 ≠ (3 : Int32).toNatClampNeg := by show j + 4 ≠ 3; omega
      rw [if_neg h0, va_up_ne _ _ q3, va_up_ne _ _ q2, va_up_ne _ _ q1, va_up_ne _ _ q0]
  have e2 : (fun j => if j < 6 then some (ha (32 + j)) else none) = (fun i => if i < 6 then some (f (20 + i)) else none) := by
    subst hha
    funext j
    match j with
    | 0 => rfl
    | 1 => rfl
    | 2 => rfl
    | 3 => rfl
    | 4 => rfl
    | 5 => rfl
    | j + 6 => rw [if_neg (by omega), if_neg (by omega)]
  have e : wC_ ha cy lf_C0 = (lw_pc.filterMap (fun i => (wI_X5 f g)[i]?)) := by
    unfold wC_
    rw [e1, e2]
    subst hha
    subst hcy
    rfl
  refine ⟨ha, cy, by subst hha; rfl, by rw [e]; exact hP.sub lw_pc rfl, ?_, ?_⟩
  · rw [e]
    exact hD.sub lw_pc (by decide) rfl
  · subst hcy
    exact hK.sub [0, 1, 2, 3, 4, 5, 6, 7, 8, 9, 10, 13, 12, 21, 14, 26, 27, 22, 23, 24, 25, 11, 15, 16, 17, 18, 19, 20] rfl
set_option maxRecDepth 100000 in
set_option maxHeartbeats 4000000 in
theorem lw_iM {D : va_G} {f : Nat → Nat} {g : Nat → ClassId} {A : Nat → Prop} {s : State} {H : Heap} (hP : va_P D vwCl (wI_X6 f g) H) (hD : va_D A (wI_X6 f g)) (hK : va_K D vwCl (tI_X6 g) s) : ∃ (ha : Nat → Nat) (cy : Nat → ClassId), ha 0 = f 0 ∧ va_P D vwCl (wM_ ha cy lf_M0) H ∧ va_D A (wM_ ha cy lf_M0) ∧ va_K D vwCl (tyM_ cy) s :=
  ⟨fun p => f (lw_pm.getD p 0), fun p => g (lw_pm.getD p 0), rfl, hP, hD, hK⟩
def lo_joint (Inv : lf_St → lf_St → Prop) : Prop := ∀ (σ τ : lf_St), Inv σ τ → ∀ (a b c : Int32), (c = 0 ∨ c = 1) → wp_X5_joint a b c σ (fun r σ' => wp_X6_joint a b c τ (fun r' τ' => r = r' ∧ Inv σ' τ'))
def lo_bar (Inv : lf_St → lf_St → Prop) : Prop := ∀ (σ τ : lf_St), Inv σ τ → ∀ (a b : Int32), wp_X5_bar a b σ (fun r σ' => wp_X6_bar a b τ (fun r' τ' => r = r' ∧ Inv σ' τ'))
def lo_load (Inv : lf_St → lf_St → Prop) : Prop := ∀ (σ τ : lf_St), Inv σ τ → ∀ (a b c : Int32), wp_X5_load a b c σ (fun r σ' => wp_X6_load a b c τ (fun r' τ' => r = r' ∧ Inv σ' τ'))
def lo_about (Inv : lf_St → lf_St → Prop) : Prop := ∀ (σ τ : lf_St), Inv σ τ → ∀ (a b : Int32), wp_X5_about a b σ (fun r σ' => wp_X6_about a b τ (fun r' τ' => r = r' ∧ Inv σ' τ'))
def lo_ofBar (Inv : lf_St → lf_St → Prop) : Prop := ∀ (σ τ : lf_St), Inv σ τ → ∀ (a b : Int32), wp_X5_ofBar a b σ (fun r σ' => wp_X6_ofBar a b τ (fun r' τ' => r = r' ∧ Inv σ' τ'))
def lo_size (Inv : lf_St → lf_St → Prop) : Prop := ∀ (σ τ : lf_St), Inv σ τ → ∀ (a : Int32), wp_X5_size a σ (fun r σ' => wp_X6_size a τ (fun r' τ' => r = r' ∧ Inv σ' τ'))
def lo_price (Inv : lf_St → lf_St → Prop) : Prop := ∀ (σ τ : lf_St), Inv σ τ → ∀ (a : Int32), wp_X5_price a σ (fun r σ' => wp_X6_price a τ (fun r' τ' => r = r' ∧ Inv σ' τ'))
def lo_drop (Inv : lf_St → lf_St → Prop) : Prop := ∀ (σ τ : lf_St), Inv σ τ → wp_X5_drop  σ (fun r σ' => wp_X6_drop  τ (fun r' τ' => r = r' ∧ Inv σ' τ'))
def lo_cross (Inv : lf_St → lf_St → Prop) : Prop := ∀ (σ τ : lf_St), Inv σ τ → ∀ (a b : Int32), wp_X5_cross a b σ (fun r σ' => wp_X6_cross a b τ (fun r' τ' => r = r' ∧ Inv σ' τ'))
def lo_stiff (Inv : lf_St → lf_St → Prop) : Prop := ∀ (σ τ : lf_St), Inv σ τ → ∀ (a : Int32), wp_X5_stiff a σ (fun r σ' => wp_X6_stiff a τ (fun r' τ' => r = r' ∧ Inv σ' τ'))
def lo_choices (Inv : lf_St → lf_St → Prop) : Prop := ∀ (σ τ : lf_St), Inv σ τ → wp_X5_choices  σ (fun r σ' => wp_X6_choices  τ (fun r' τ' => r = r' ∧ Inv σ' τ'))
def lo_frame (Inv : lf_St → lf_St → Prop) : Prop := ∀ (σ τ : lf_St), Inv σ τ → ∀ (a : Int32), wp_X5_frame a σ (fun r σ' => wp_X6_frame a τ (fun r' τ' => r = r' ∧ Inv σ' τ'))
def lo_cost (Inv : lf_St → lf_St → Prop) : Prop := ∀ (σ τ : lf_St), Inv σ τ → ∀ (a b : Int32), wp_X5_cost a b σ (fun r σ' => wp_X6_cost a b τ (fun r' τ' => r = r' ∧ Inv σ' τ'))
def lo_pull (Inv : lf_St → lf_St → Prop) : Prop := ∀ (σ τ : lf_St), Inv σ τ → ∀ (a b c : Int32), wp_X5_pull a b c σ (fun r σ' => wp_X6_pull a b c τ (fun r' τ' => r = r' ∧ Inv σ' τ'))
def lo_used (Inv : lf_St → lf_St → Prop) : Prop := ∀ (σ τ : lf_St), Inv σ τ → ∀ (a b : Int32), wp_X5_used a b σ (fun r σ' => wp_X6_used a b τ (fun r' τ' => r = r' ∧ Inv σ' τ'))
def lo_sized (Inv : lf_St → lf_St → Prop) : Prop := ∀ (σ τ : lf_St), Inv σ τ → ∀ (a : Int32), wp_X5_sized a σ (fun r σ' => wp_X6_sized a τ (fun r' τ' => r = r' ∧ Inv σ' τ'))
def lo_prove (Inv : lf_St → lf_St → Prop) : Prop := ∀ (σ τ : lf_St), Inv σ τ → wp_X5_prove  σ (fun r σ' => wp_X6_prove  τ (fun r' τ' => r = r' ∧ Inv σ' τ'))
def lo_field (Inv : lf_St → lf_St → Prop) : Prop := ∀ (σ τ : lf_St), Inv σ τ → ∀ (a b c : Int32), wp_X5_field a b c σ (fun r σ' => wp_X6_field a b c τ (fun r' τ' => r = r' ∧ Inv σ' τ'))
def lo_slack (Inv : lf_St → lf_St → Prop) : Prop := ∀ (σ τ : lf_St), Inv σ τ → ∀ (a b : Int32), wp_X5_slack a b σ (fun r σ' => wp_X6_slack a b τ (fun r' τ' => r = r' ∧ Inv σ' τ'))
def lo_told (Inv : lf_St → lf_St → Prop) : Prop := ∀ (σ τ : lf_St), Inv σ τ → ∀ (a : Int32), wp_X5_told a σ (fun r σ' => wp_X6_told a τ (fun r' τ' => r = r' ∧ Inv σ' τ'))
/-! THE CLAIM OUT OF ONE WALK OF THE LAW'S BODY. Your part is whole_start (and what it stands on); all else here is the same for every law, but numbers. -/
def R_law : String := "LightFrameLaw"
def lw_P (b : Addr) (xs : List Int32) (args : Array Value) (s : State) : Prop := args = #[.ref b] ∧ s.IntsAt b xs ∧ xs.length ≤ 2048 ∧ (Jvm.Cond.and given_1 narrow_1).before args s = true
def lw_Q (_ : Array Value) (s : State) (o : Outcome) (t : State) : Prop := o = .returned (some (.int 1)) ∧ Framed s o t [] 600000 7302249
def lw_Z (below : List Frame) (a : Array Value) (s : State) : State → Prop := fun t => ∃ o, t.status = .running ∧ Ended t below o ∧ lw_Q a s o t
/-- the law's own end, with 1 on the stack, nothing written that was there before, its room as the claim has it -/
theorem lw_ret {p : Program} {l : Launch} {e : Env} {s : State} {m : MethodId} {below : List Frame} {meth : Method} {c : Code} {b : Nat} (hx : p.tables.exec = Jvm.exec) (hb : c.code = code) (hr : meth.sig.returnType = ret) (hlocks : meth.locks = false) {pc : Nat} {H : Heap} {ls : Array Slot} (hdg : decode code pc = .ok (.ireturn, 1)) : W p l e room_1 s m #[Value.ref b] below meth c H [] 600000 7302249 (lw_Z below #[Value.ref b] s) (F0 m pc ls [.int 1]) := by
  intro T hT X
  obtain ⟨fs, hret, hrun, hended, hW, hframe⟩ := X.leave (v := some (.int 1)) (hlocks := hlocks) (fun h => by rw [hr] at h; cases h)
  have hmeth' : T.vm.method? m = some meth := X.method'
  refine ⟨T.setFrames fs, ?_, .returned (some (.int 1)), hrun, hended, rfl, ⟨_, rfl⟩, hW, hframe⟩
  jvm_step X.here [X.here.top, hx, hb, hdg, hmeth', hr, ret, narrow_b1]
  (try refine ⟨rfl, ?_⟩); (try refine ⟨rfl, ?_⟩)
  first | (intro acts; rw [hret _ acts rfl rfl rfl]) | rw [hret _ _ rfl rfl rfl]
  exact Steps.refl _
/-- what holds at the law's entry: the machine, the code, the tables' words (any of lw_tbl by 'hts w (by decide +kernel)'), the script of L ints xs at the cell b, what the Statement gives of the start (any of its parts by flat_of_before) -/
def lw_At (p : Program) (s : State) (m : MethodId) (meth : Method) (c : Code) (b L : Nat) (xs : Nat → Int32) : Prop :=
  p.tables.exec = Jvm.exec ∧ c.code = code ∧ meth.sig.returnType = ret ∧ c.maxLocals = 4 ∧ s.vm.findClass R_law = some m.cls ∧ (∀ w ∈ lw_tbl, w.before #[Value.ref b] s = true) ∧ va_X b L xs s s.heap ∧ b < s.heap.size ∧ meth.locks = false ∧ (Jvm.Cond.and given_1 narrow_1).before #[Value.ref b] s = true
theorem cw_L_13 {R : Room} {s : State} {args : Array Value} (ht : ∀ w ∈ wsL_law, w.before args s = true) (hR : rm_X5_joint.frames + 1 ≤ R.frames ∧ 8 + (4 + 11) + rm_X5_joint.locals ≤ R.locals) : lf_cV R s args RL RX5 13 yX5_joint cX5_joint 4 (some .int) rm_X5_joint 3 :=
  lf_cV_of 3 ht (lr_5 _ (List.mem_of_getElem? (i := 5) rfl)) (lr_5 _ (List.mem_of_getElem? (i := 2) rfl)) (lr_5 _ (List.mem_of_getElem? (i := 3) rfl)) (lr_5 _ (List.mem_of_getElem? (i := 4) rfl)) (lr_1 _ (List.mem_of_getElem? (i := 2) rfl)) rfl rfl (by decide +kernel) hR
theorem cw_L_17 {R : Room} {s : State} {args : Array Value} (ht : ∀ w ∈ wsL_law, w.before args s = true) (hR : rm_X6_joint.frames + 1 ≤ R.frames ∧ 8 + (5 + 11) + rm_X6_joint.locals ≤ R.locals) : lf_cV R s args RL RX6 17 yX6_joint cX6_joint 5 (some .int) rm_X6_joint 3 :=
  lf_cV_of 3 ht (lr_6 _ (List.mem_of_getElem? (i := 10) rfl)) (lr_6 _ (List.mem_of_getElem? (i := 7) rfl)) (lr_6 _ (List.mem_of_getElem? (i := 8) rfl)) (lr_6 _ (List.mem_of_getElem? (i := 9) rfl)) (lr_1 _ (List.mem_of_getElem? (i := 5) rfl)) rfl rfl (by decide +kernel) hR
theorem cw_L_18 {R : Room} {s : State} {args : Array Value} (ht : ∀ w ∈ wsL_law, w.before args s = true) (hR : rm_X5_bar.frames + 1 ≤ R.frames ∧ 8 + (3 + 11) + rm_X5_bar.locals ≤ R.locals) : lf_cV R s args RL RX5 18 yX5_bar cX5_bar 3 (some .int) rm_X5_bar 2 :=
  lf_cV_of 2 ht (lr_7 _ (List.mem_of_getElem? (i := 0) rfl)) (lr_6 _ (List.mem_of_getElem? (i := 21) rfl)) (lr_6 _ (List.mem_of_getElem? (i := 22) rfl)) (lr_6 _ (List.mem_of_getElem? (i := 23) rfl)) (lr_1 _ (List.mem_of_getElem? (i := 2) rfl)) rfl rfl (by decide +kernel) hR
theorem cw_L_22 {R : Room} {s : State} {args : Array Value} (ht : ∀ w ∈ wsL_law, w.before args s = true) (hR : rm_X6_bar.frames + 1 ≤ R.frames ∧ 8 + (4 + 11) + rm_X6_bar.locals ≤ R.locals) : lf_cV R s args RL RX6 22 yX6_bar cX6_bar 4 (some .int) rm_X6_bar 2 :=
  lf_cV_of 2 ht (lr_8 _ (List.mem_of_getElem? (i := 21) rfl)) (lr_8 _ (List.mem_of_getElem? (i := 18) rfl)) (lr_8 _ (List.mem_of_getElem? (i := 19) rfl)) (lr_8 _ (List.mem_of_getElem? (i := 20) rfl)) (lr_1 _ (List.mem_of_getElem? (i := 5) rfl)) rfl rfl (by decide +kernel) hR
theorem cw_L_23 {R : Room} {s : State} {args : Array Value} (ht : ∀ w ∈ wsL_law, w.before args s = true) (hR : rm_X5_load.frames + 1 ≤ R.frames ∧ 8 + (5 + 11) + rm_X5_load.locals ≤ R.locals) : lf_cV R s args RL RX5 23 yX5_load cX5_load 5 (some .int) rm_X5_load 3 :=
  lf_cV_of 3 ht (lr_9 _ (List.mem_of_getElem? (i := 6) rfl)) (lr_9 _ (List.mem_of_getElem? (i := 3) rfl)) (lr_9 _ (List.mem_of_getElem? (i := 4) rfl)) (lr_9 _ (List.mem_of_getElem? (i := 5) rfl)) (lr_1 _ (List.mem_of_getElem? (i := 2) rfl)) rfl rfl (by decide +kernel) hR
theorem cw_L_27 {R : Room} {s : State} {args : Array Value} (ht : ∀ w ∈ wsL_law, w.before args s = true) (hR : rm_X6_load.frames + 1 ≤ R.frames ∧ 8 + (4 + 11) + rm_X6_load.locals ≤ R.locals) : lf_cV R s args RL RX6 27 yX6_load cX6_load 4 (some .int) rm_X6_load 3 :=
  lf_cV_of 3 ht (lr_9 _ (List.mem_of_getElem? (i := 15) rfl)) (lr_9 _ (List.mem_of_getElem? (i := 12) rfl)) (lr_9 _ (List.mem_of_getElem? (i := 13) rfl)) (lr_9 _ (List.mem_of_getElem? (i := 14) rfl)) (lr_1 _ (List.mem_of_getElem? (i := 5) rfl)) rfl rfl (by decide +kernel) hR
theorem cw_L_28 {R : Room} {s : State} {args : Array Value} (ht : ∀ w ∈ wsL_law, w.before args s = true) (hR : rm_X5_about.frames + 1 ≤ R.frames ∧ 8 + (4 + 11) + rm_X5_about.locals ≤ R.locals) : lf_cV R s args RL RX5 28 yX5_about cX5_about 4 (some .int) rm_X5_about 2 :=
  lf_cV_of 2 ht (lr_9 _ (List.mem_of_getElem? (i := 21) rfl)) (lr_9 _ (List.mem_of_getElem? (i := 18) rfl)) (lr_9 _ (List.mem_of_getElem? (i := 19) rfl)) (lr_9 _ (List.mem_of_getElem? (i := 20) rfl)) (lr_1 _ (List.mem_of_getElem? (i := 2) rfl)) rfl rfl (by decide +kernel) hR
theorem cw_L_31 {R : Room} {s : State} {args : Array Value} (ht : ∀ w ∈ wsL_law, w.before args s = true) (hR : rm_X6_about.frames + 1 ≤ R.frames ∧ 8 + (3 + 11) + rm_X6_about.locals ≤ R.locals) : lf_cV R s args RL RX6 31 yX6_about cX6_about 3 (some .int) rm_X6_about 2 :=
  lf_cV_of 2 ht (lr_10 _ (List.mem_of_getElem? (i := 3) rfl)) (lr_10 _ (List.mem_of_getElem? (i := 0) rfl)) (lr_10 _ (List.mem_of_getElem? (i := 1) rfl)) (lr_10 _ (List.mem_of_getElem? (i := 2) rfl)) (lr_1 _ (List.mem_of_getElem? (i := 5) rfl)) rfl rfl (by decide +kernel) hR
theorem cw_L_32 {R : Room} {s : State} {args : Array Value} (ht : ∀ w ∈ wsL_law, w.before args s = true) (hR : rm_X5_ofBar.frames + 1 ≤ R.frames ∧ 8 + (3 + 11) + rm_X5_ofBar.locals ≤ R.locals) : lf_cV R s args RL RX5 32 yX5_ofBar cX5_ofBar 3 (some .int) rm_X5_ofBar 2 :=
  lf_cV_of 2 ht (lr_10 _ (List.mem_of_getElem? (i := 7) rfl)) (lr_10 _ (List.mem_of_getElem? (i := 4) rfl)) (lr_10 _ (List.mem_of_getElem? (i := 5) rfl)) (lr_10 _ (List.mem_of_getElem? (i := 6) rfl)) (lr_1 _ (List.mem_of_getElem? (i := 2) rfl)) rfl rfl (by decide +kernel) hR
theorem cw_L_35 {R : Room} {s : State} {args : Array Value} (ht : ∀ w ∈ wsL_law, w.before args s = true) (hR : rm_X6_ofBar.frames + 1 ≤ R.frames ∧ 8 + (3 + 11) + rm_X6_ofBar.locals ≤ R.locals) : lf_cV R s args RL RX6 35 yX6_ofBar cX6_ofBar 3 (some .int) rm_X6_ofBar 2 :=
  lf_cV_of 2 ht (lr_10 _ (List.mem_of_getElem? (i := 18) rfl)) (lr_10 _ (List.mem_of_getElem? (i := 15) rfl)) (lr_10 _ (List.mem_of_getElem? (i := 16) rfl)) (lr_10 _ (List.mem_of_getElem? (i := 17) rfl)) (lr_1 _ (List.mem_of_getElem? (i := 5) rfl)) rfl rfl (by decide +kernel) hR
theorem cw_L_36 {R : Room} {s : State} {args : Array Value} (ht : ∀ w ∈ wsL_law, w.before args s = true) (hR : rm_X5_size.frames + 1 ≤ R.frames ∧ 8 + (2 + 11) + rm_X5_size.locals ≤ R.locals) : lf_cV R s args RL RX5 36 yX5_size cX5_size 2 (some .int) rm_X5_size 1 :=
  lf_cV_of 1 ht (lr_11 _ (List.mem_of_getElem? (i := 6) rfl)) (lr_11 _ (List.mem_of_getElem? (i := 3) rfl)) (lr_11 _ (List.mem_of_getElem? (i := 4) rfl)) (lr_11 _ (List.mem_of_getElem? (i := 5) rfl)) (lr_1 _ (List.mem_of_getElem? (i := 2) rfl)) rfl rfl (by decide +kernel) hR
theorem cw_L_40 {R : Room} {s : State} {args : Array Value} (ht : ∀ w ∈ wsL_law, w.before args s = true) (hR : rm_X6_size.frames + 1 ≤ R.frames ∧ 8 + (3 + 11) + rm_X6_size.locals ≤ R.locals) : lf_cV R s args RL RX6 40 yX6_size cX6_size 3 (some .int) rm_X6_size 1 :=
  lf_cV_of 1 ht (lr_11 _ (List.mem_of_getElem? (i := 20) rfl)) (lr_11 _ (List.mem_of_getElem? (i := 17) rfl)) (lr_11 _ (List.mem_of_getElem? (i := 18) rfl)) (lr_11 _ (List.mem_of_getElem? (i := 19) rfl)) (lr_1 _ (List.mem_of_getElem? (i := 5) rfl)) rfl rfl (by decide +kernel) hR
theorem cw_L_41 {R : Room} {s : State} {args : Array Value} (ht : ∀ w ∈ wsL_law, w.before args s = true) (hR : rm_X5_price.frames + 1 ≤ R.frames ∧ 8 + (3 + 11) + rm_X5_price.locals ≤ R.locals) : lf_cV R s args RL RX5 41 yX5_price cX5_price 3 (some .int) rm_X5_price 1 :=
  lf_cV_of 1 ht (lr_12 _ (List.mem_of_getElem? (i := 2) rfl)) (lr_11 _ (List.mem_of_getElem? (i := 23) rfl)) (lr_12 _ (List.mem_of_getElem? (i := 0) rfl)) (lr_12 _ (List.mem_of_getElem? (i := 1) rfl)) (lr_1 _ (List.mem_of_getElem? (i := 2) rfl)) rfl rfl (by decide +kernel) hR
theorem cw_L_44 {R : Room} {s : State} {args : Array Value} (ht : ∀ w ∈ wsL_law, w.before args s = true) (hR : rm_X6_price.frames + 1 ≤ R.frames ∧ 8 + (3 + 11) + rm_X6_price.locals ≤ R.locals) : lf_cV R s args RL RX6 44 yX6_price cX6_price 3 (some .int) rm_X6_price 1 :=
  lf_cV_of 1 ht (lr_12 _ (List.mem_of_getElem? (i := 7) rfl)) (lr_12 _ (List.mem_of_getElem? (i := 4) rfl)) (lr_12 _ (List.mem_of_getElem? (i := 5) rfl)) (lr_12 _ (List.mem_of_getElem? (i := 6) rfl)) (lr_1 _ (List.mem_of_getElem? (i := 5) rfl)) rfl rfl (by decide +kernel) hR
theorem cw_L_45 {R : Room} {s : State} {args : Array Value} (ht : ∀ w ∈ wsL_law, w.before args s = true) (hR : rm_X5_drop.frames + 1 ≤ R.frames ∧ 8 + (1 + 11) + rm_X5_drop.locals ≤ R.locals) : lf_cV R s args RL RX5 45 yX5_drop cX5_drop 1 (some .int) rm_X5_drop 0 :=
  lf_cV_of 0 ht (lr_12 _ (List.mem_of_getElem? (i := 13) rfl)) (lr_12 _ (List.mem_of_getElem? (i := 10) rfl)) (lr_12 _ (List.mem_of_getElem? (i := 11) rfl)) (lr_12 _ (List.mem_of_getElem? (i := 12) rfl)) (lr_1 _ (List.mem_of_getElem? (i := 2) rfl)) rfl rfl (by decide +kernel) hR
theorem cw_L_49 {R : Room} {s : State} {args : Array Value} (ht : ∀ w ∈ wsL_law, w.before args s = true) (hR : rm_X6_drop.frames + 1 ≤ R.frames ∧ 8 + (1 + 11) + rm_X6_drop.locals ≤ R.locals) : lf_cV R s args RL RX6 49 yX6_drop cX6_drop 1 (some .int) rm_X6_drop 0 :=
  lf_cV_of 0 ht (lr_12 _ (List.mem_of_getElem? (i := 17) rfl)) (lr_12 _ (List.mem_of_getElem? (i := 14) rfl)) (lr_12 _ (List.mem_of_getElem? (i := 15) rfl)) (lr_12 _ (List.mem_of_getElem? (i := 16) rfl)) (lr_1 _ (List.mem_of_getElem? (i := 5) rfl)) rfl rfl (by decide +kernel) hR
theorem cw_L_50 {R : Room} {s : State} {args : Array Value} (ht : ∀ w ∈ wsL_law, w.before args s = true) (hR : rm_X5_cross.frames + 1 ≤ R.frames ∧ 8 + (3 + 11) + rm_X5_cross.locals ≤ R.locals) : lf_cV R s args RL RX5 50 yX5_cross cX5_cross 3 (some .int) rm_X5_cross 2 :=
  lf_cV_of 2 ht (lr_12 _ (List.mem_of_getElem? (i := 21) rfl)) (lr_12 _ (List.mem_of_getElem? (i := 18) rfl)) (lr_12 _ (List.mem_of_getElem? (i := 19) rfl)) (lr_12 _ (List.mem_of_getElem? (i := 20) rfl)) (lr_1 _ (List.mem_of_getElem? (i := 2) rfl)) rfl rfl (by decide +kernel) hR
theorem cw_L_53 {R : Room} {s : State} {args : Array Value} (ht : ∀ w ∈ wsL_law, w.before args s = true) (hR : rm_X6_cross.frames + 1 ≤ R.frames ∧ 8 + (3 + 11) + rm_X6_cross.locals ≤ R.locals) : lf_cV R s args RL RX6 53 yX6_cross cX6_cross 3 (some .int) rm_X6_cross 2 :=
  lf_cV_of 2 ht (lr_13 _ (List.mem_of_getElem? (i := 5) rfl)) (lr_13 _ (List.mem_of_getElem? (i := 2) rfl)) (lr_13 _ (List.mem_of_getElem? (i := 3) rfl)) (lr_13 _ (List.mem_of_getElem? (i := 4) rfl)) (lr_1 _ (List.mem_of_getElem? (i := 5) rfl)) rfl rfl (by decide +kernel) hR
theorem cw_L_54 {R : Room} {s : State} {args : Array Value} (ht : ∀ w ∈ wsL_law, w.before args s = true) (hR : rm_X5_stiff.frames + 1 ≤ R.frames ∧ 8 + (2 + 11) + rm_X5_stiff.locals ≤ R.locals) : lf_cV R s args RL RX5 54 yX5_stiff cX5_stiff 2 (some .int) rm_X5_stiff 1 :=
  lf_cV_of 1 ht (lr_13 _ (List.mem_of_getElem? (i := 21) rfl)) (lr_13 _ (List.mem_of_getElem? (i := 18) rfl)) (lr_13 _ (List.mem_of_getElem? (i := 19) rfl)) (lr_13 _ (List.mem_of_getElem? (i := 20) rfl)) (lr_1 _ (List.mem_of_getElem? (i := 2) rfl)) rfl rfl (by decide +kernel) hR
theorem cw_L_57 {R : Room} {s : State} {args : Array Value} (ht : ∀ w ∈ wsL_law, w.before args s = true) (hR : rm_X6_stiff.frames + 1 ≤ R.frames ∧ 8 + (3 + 11) + rm_X6_stiff.locals ≤ R.locals) : lf_cV R s args RL RX6 57 yX6_stiff cX6_stiff 3 (some .int) rm_X6_stiff 1 :=
  lf_cV_of 1 ht (lr_20 _ (List.mem_of_getElem? (i := 10) rfl)) (lr_20 _ (List.mem_of_getElem? (i := 7) rfl)) (lr_20 _ (List.mem_of_getElem? (i := 8) rfl)) (lr_20 _ (List.mem_of_getElem? (i := 9) rfl)) (lr_1 _ (List.mem_of_getElem? (i := 5) rfl)) rfl rfl (by decide +kernel) hR
theorem cw_L_58 {R : Room} {s : State} {args : Array Value} (ht : ∀ w ∈ wsL_law, w.before args s = true) (hR : rm_X5_choices.frames + 1 ≤ R.frames ∧ 8 + (1 + 11) + rm_X5_choices.locals ≤ R.locals) : lf_cV R s args RL RX5 58 yX5_choices cX5_choices 1 (some .int) rm_X5_choices 0 :=
  lf_cV_of 0 ht (lr_21 _ (List.mem_of_getElem? (i := 16) rfl)) (lr_21 _ (List.mem_of_getElem? (i := 13) rfl)) (lr_21 _ (List.mem_of_getElem? (i := 14) rfl)) (lr_21 _ (List.mem_of_getElem? (i := 15) rfl)) (lr_1 _ (List.mem_of_getElem? (i := 2) rfl)) rfl rfl (by decide +kernel) hR
theorem cw_L_61 {R : Room} {s : State} {args : Array Value} (ht : ∀ w ∈ wsL_law, w.before args s = true) (hR : rm_X6_choices.frames + 1 ≤ R.frames ∧ 8 + (3 + 11) + rm_X6_choices.locals ≤ R.locals) : lf_cV R s args RL RX6 61 yX6_choices cX6_choices 3 (some .int) rm_X6_choices 0 :=
  lf_cV_of 0 ht (lr_21 _ (List.mem_of_getElem? (i := 21) rfl)) (lr_21 _ (List.mem_of_getElem? (i := 18) rfl)) (lr_21 _ (List.mem_of_getElem? (i := 19) rfl)) (lr_21 _ (List.mem_of_getElem? (i := 20) rfl)) (lr_1 _ (List.mem_of_getElem? (i := 5) rfl)) rfl rfl (by decide +kernel) hR
theorem cw_L_62 {R : Room} {s : State} {args : Array Value} (ht : ∀ w ∈ wsL_law, w.before args s = true) (hR : rm_X5_frame.frames + 1 ≤ R.frames ∧ 8 + (3 + 11) + rm_X5_frame.locals ≤ R.locals) : lf_cV R s args RL RX5 62 yX5_frame cX5_frame 3 (some .int) rm_X5_frame 1 :=
  lf_cV_of 1 ht (lr_22 _ (List.mem_of_getElem? (i := 1) rfl)) (lr_21 _ (List.mem_of_getElem? (i := 22) rfl)) (lr_21 _ (List.mem_of_getElem? (i := 23) rfl)) (lr_22 _ (List.mem_of_getElem? (i := 0) rfl)) (lr_1 _ (List.mem_of_getElem? (i := 2) rfl)) rfl rfl (by decide +kernel) hR
theorem cw_L_65 {R : Room} {s : State} {args : Array Value} (ht : ∀ w ∈ wsL_law, w.before args s = true) (hR : rm_X6_frame.frames + 1 ≤ R.frames ∧ 8 + (2 + 11) + rm_X6_frame.locals ≤ R.locals) : lf_cV R s args RL RX6 65 yX6_frame cX6_frame 2 (some .int) rm_X6_frame 1 :=
  lf_cV_of 1 ht (lr_22 _ (List.mem_of_getElem? (i := 15) rfl)) (lr_22 _ (List.mem_of_getElem? (i := 12) rfl)) (lr_22 _ (List.mem_of_getElem? (i := 13) rfl)) (lr_22 _ (List.mem_of_getElem? (i := 14) rfl)) (lr_1 _ (List.mem_of_getElem? (i := 5) rfl)) rfl rfl (by decide +kernel) hR
theorem cw_L_66 {R : Room} {s : State} {args : Array Value} (ht : ∀ w ∈ wsL_law, w.before args s = true) (hR : rm_X5_cost.frames + 1 ≤ R.frames ∧ 8 + (4 + 11) + rm_X5_cost.locals ≤ R.locals) : lf_cV R s args RL RX5 66 yX5_cost cX5_cost 4 (some .long) rm_X5_cost 2 :=
  lf_cV_of 2 ht (lr_24 _ (List.mem_of_getElem? (i := 0) rfl)) (lr_23 _ (List.mem_of_getElem? (i := 21) rfl)) (lr_23 _ (List.mem_of_getElem? (i := 22) rfl)) (lr_23 _ (List.mem_of_getElem? (i := 23) rfl)) (lr_1 _ (List.mem_of_getElem? (i := 2) rfl)) rfl rfl (by decide +kernel) hR
theorem cw_L_70 {R : Room} {s : State} {args : Array Value} (ht : ∀ w ∈ wsL_law, w.before args s = true) (hR : rm_X6_cost.frames + 1 ≤ R.frames ∧ 8 + (3 + 11) + rm_X6_cost.locals ≤ R.locals) : lf_cV R s args RL RX6 70 yX6_cost cX6_cost 3 (some .long) rm_X6_cost 2 :=
  lf_cV_of 2 ht (lr_24 _ (List.mem_of_getElem? (i := 18) rfl)) (lr_24 _ (List.mem_of_getElem? (i := 15) rfl)) (lr_24 _ (List.mem_of_getElem? (i := 16) rfl)) (lr_24 _ (List.mem_of_getElem? (i := 17) rfl)) (lr_1 _ (List.mem_of_getElem? (i := 5) rfl)) rfl rfl (by decide +kernel) hR
theorem cw_L_71 {R : Room} {s : State} {args : Array Value} (ht : ∀ w ∈ wsL_law, w.before args s = true) (hR : rm_X5_pull.frames + 1 ≤ R.frames ∧ 8 + (5 + 11) + rm_X5_pull.locals ≤ R.locals) : lf_cV R s args RL RX5 71 yX5_pull cX5_pull 5 (some .long) rm_X5_pull 3 :=
  lf_cV_of 3 ht (lr_25 _ (List.mem_of_getElem? (i := 9) rfl)) (lr_25 _ (List.mem_of_getElem? (i := 6) rfl)) (lr_25 _ (List.mem_of_getElem? (i := 7) rfl)) (lr_25 _ (List.mem_of_getElem? (i := 8) rfl)) (lr_1 _ (List.mem_of_getElem? (i := 2) rfl)) rfl rfl (by decide +kernel) hR
theorem cw_L_75 {R : Room} {s : State} {args : Array Value} (ht : ∀ w ∈ wsL_law, w.before args s = true) (hR : rm_X6_pull.frames + 1 ≤ R.frames ∧ 8 + (6 + 11) + rm_X6_pull.locals ≤ R.locals) : lf_cV R s args RL RX6 75 yX6_pull cX6_pull 6 (some .long) rm_X6_pull 3 :=
  lf_cV_of 3 ht (lr_25 _ (List.mem_of_getElem? (i := 15) rfl)) (lr_25 _ (List.mem_of_getElem? (i := 12) rfl)) (lr_25 _ (List.mem_of_getElem? (i := 13) rfl)) (lr_25 _ (List.mem_of_getElem? (i := 14) rfl)) (lr_1 _ (List.mem_of_getElem? (i := 5) rfl)) rfl rfl (by decide +kernel) hR
theorem cw_L_76 {R : Room} {s : State} {args : Array Value} (ht : ∀ w ∈ wsL_law, w.before args s = true) (hR : rm_X5_used.frames + 1 ≤ R.frames ∧ 8 + (4 + 11) + rm_X5_used.locals ≤ R.locals) : lf_cV R s args RL RX5 76 yX5_used cX5_used 4 (some .int) rm_X5_used 2 :=
  lf_cV_of 2 ht (lr_26 _ (List.mem_of_getElem? (i := 0) rfl)) (lr_25 _ (List.mem_of_getElem? (i := 21) rfl)) (lr_25 _ (List.mem_of_getElem? (i := 22) rfl)) (lr_25 _ (List.mem_of_getElem? (i := 23) rfl)) (lr_1 _ (List.mem_of_getElem? (i := 2) rfl)) rfl rfl (by decide +kernel) hR
theorem cw_L_79 {R : Room} {s : State} {args : Array Value} (ht : ∀ w ∈ wsL_law, w.before args s = true) (hR : rm_X6_used.frames + 1 ≤ R.frames ∧ 8 + (4 + 11) + rm_X6_used.locals ≤ R.locals) : lf_cV R s args RL RX6 79 yX6_used cX6_used 4 (some .int) rm_X6_used 2 :=
  lf_cV_of 2 ht (lr_26 _ (List.mem_of_getElem? (i := 6) rfl)) (lr_26 _ (List.mem_of_getElem? (i := 3) rfl)) (lr_26 _ (List.mem_of_getElem? (i := 4) rfl)) (lr_26 _ (List.mem_of_getElem? (i := 5) rfl)) (lr_1 _ (List.mem_of_getElem? (i := 5) rfl)) rfl rfl (by decide +kernel) hR
theorem cw_L_80 {R : Room} {s : State} {args : Array Value} (ht : ∀ w ∈ wsL_law, w.before args s = true) (hR : rm_X5_sized.frames + 1 ≤ R.frames ∧ 8 + (3 + 11) + rm_X5_sized.locals ≤ R.locals) : lf_cV R s args RL RX5 80 yX5_sized cX5_sized 3 (some .int) rm_X5_sized 1 :=
  lf_cV_of 1 ht (lr_26 _ (List.mem_of_getElem? (i := 14) rfl)) (lr_26 _ (List.mem_of_getElem? (i := 11) rfl)) (lr_26 _ (List.mem_of_getElem? (i := 12) rfl)) (lr_26 _ (List.mem_of_getElem? (i := 13) rfl)) (lr_1 _ (List.mem_of_getElem? (i := 2) rfl)) rfl rfl (by decide +kernel) hR
theorem cw_L_83 {R : Room} {s : State} {args : Array Value} (ht : ∀ w ∈ wsL_law, w.before args s = true) (hR : rm_X6_sized.frames + 1 ≤ R.frames ∧ 8 + (4 + 11) + rm_X6_sized.locals ≤ R.locals) : lf_cV R s args RL RX6 83 yX6_sized cX6_sized 4 (some .int) rm_X6_sized 1 :=
  lf_cV_of 1 ht (lr_26 _ (List.mem_of_getElem? (i := 20) rfl)) (lr_26 _ (List.mem_of_getElem? (i := 17) rfl)) (lr_26 _ (List.mem_of_getElem? (i := 18) rfl)) (lr_26 _ (List.mem_of_getElem? (i := 19) rfl)) (lr_1 _ (List.mem_of_getElem? (i := 5) rfl)) rfl rfl (by decide +kernel) hR
theorem cw_L_84 {R : Room} {s : State} {args : Array Value} (ht : ∀ w ∈ wsL_law, w.before args s = true) (hR : rm_X5_prove.frames + 1 ≤ R.frames ∧ 8 + (2 + 11) + rm_X5_prove.locals ≤ R.locals) : lf_cV R s args RL RX5 84 yX5_prove cX5_prove 2 (some .int) rm_X5_prove 0 :=
  lf_cV_of 0 ht (lr_27 _ (List.mem_of_getElem? (i := 0) rfl)) (lr_26 _ (List.mem_of_getElem? (i := 21) rfl)) (lr_26 _ (List.mem_of_getElem? (i := 22) rfl)) (lr_26 _ (List.mem_of_getElem? (i := 23) rfl)) (lr_1 _ (List.mem_of_getElem? (i := 2) rfl)) rfl rfl (by decide +kernel) hR
theorem cw_L_87 {R : Room} {s : State} {args : Array Value} (ht : ∀ w ∈ wsL_law, w.before args s = true) (hR : rm_X6_prove.frames + 1 ≤ R.frames ∧ 8 + (4 + 11) + rm_X6_prove.locals ≤ R.locals) : lf_cV R s args RL RX6 87 yX6_prove cX6_prove 4 (some .int) rm_X6_prove 0 :=
  lf_cV_of 0 ht (lr_29 _ (List.mem_of_getElem? (i := 15) rfl)) (lr_29 _ (List.mem_of_getElem? (i := 12) rfl)) (lr_29 _ (List.mem_of_getElem? (i := 13) rfl)) (lr_29 _ (List.mem_of_getElem? (i := 14) rfl)) (lr_1 _ (List.mem_of_getElem? (i := 5) rfl)) rfl rfl (by decide +kernel) hR
theorem cw_L_88 {R : Room} {s : State} {args : Array Value} (ht : ∀ w ∈ wsL_law, w.before args s = true) (hR : rm_X5_field.frames + 1 ≤ R.frames ∧ 8 + (4 + 11) + rm_X5_field.locals ≤ R.locals) : lf_cV R s args RL RX5 88 yX5_field cX5_field 4 (some .long) rm_X5_field 3 :=
  lf_cV_of 3 ht (lr_30 _ (List.mem_of_getElem? (i := 12) rfl)) (lr_30 _ (List.mem_of_getElem? (i := 9) rfl)) (lr_30 _ (List.mem_of_getElem? (i := 10) rfl)) (lr_30 _ (List.mem_of_getElem? (i := 11) rfl)) (lr_1 _ (List.mem_of_getElem? (i := 2) rfl)) rfl rfl (by decide +kernel) hR
theorem cw_L_91 {R : Room} {s : State} {args : Array Value} (ht : ∀ w ∈ wsL_law, w.before args s = true) (hR : rm_X6_field.frames + 1 ≤ R.frames ∧ 8 + (4 + 11) + rm_X6_field.locals ≤ R.locals) : lf_cV R s args RL RX6 91 yX6_field cX6_field 4 (some .long) rm_X6_field 3 :=
  lf_cV_of 3 ht (lr_30 _ (List.mem_of_getElem? (i := 19) rfl)) (lr_30 _ (List.mem_of_getElem? (i := 16) rfl)) (lr_30 _ (List.mem_of_getElem? (i := 17) rfl)) (lr_30 _ (List.mem_of_getElem? (i := 18) rfl)) (lr_1 _ (List.mem_of_getElem? (i := 5) rfl)) rfl rfl (by decide +kernel) hR
theorem cw_L_92 {R : Room} {s : State} {args : Array Value} (ht : ∀ w ∈ wsL_law, w.before args s = true) (hR : rm_X5_slack.frames + 1 ≤ R.frames ∧ 8 + (3 + 11) + rm_X5_slack.locals ≤ R.locals) : lf_cV R s args RL RX5 92 yX5_slack cX5_slack 3 (some .long) rm_X5_slack 2 :=
  lf_cV_of 2 ht (lr_31 _ (List.mem_of_getElem? (i := 0) rfl)) (lr_30 _ (List.mem_of_getElem? (i := 21) rfl)) (lr_30 _ (List.mem_of_getElem? (i := 22) rfl)) (lr_30 _ (List.mem_of_getElem? (i := 23) rfl)) (lr_1 _ (List.mem_of_getElem? (i := 2) rfl)) rfl rfl (by decide +kernel) hR
theorem cw_L_95 {R : Room} {s : State} {args : Array Value} (ht : ∀ w ∈ wsL_law, w.before args s = true) (hR : rm_X6_slack.frames + 1 ≤ R.frames ∧ 8 + (3 + 11) + rm_X6_slack.locals ≤ R.locals) : lf_cV R s args RL RX6 95 yX6_slack cX6_slack 3 (some .long) rm_X6_slack 2 :=
  lf_cV_of 2 ht (lr_31 _ (List.mem_of_getElem? (i := 5) rfl)) (lr_31 _ (List.mem_of_getElem? (i := 2) rfl)) (lr_31 _ (List.mem_of_getElem? (i := 3) rfl)) (lr_31 _ (List.mem_of_getElem? (i := 4) rfl)) (lr_1 _ (List.mem_of_getElem? (i := 5) rfl)) rfl rfl (by decide +kernel) hR
theorem cw_L_96 {R : Room} {s : State} {args : Array Value} (ht : ∀ w ∈ wsL_law, w.before args s = true) (hR : rm_X5_told.frames + 1 ≤ R.frames ∧ 8 + (2 + 11) + rm_X5_told.locals ≤ R.locals) : lf_cV R s args RL RX5 96 yX5_told cX5_told 2 (some .int) rm_X5_told 1 :=
  lf_cV_of 1 ht (lr_31 _ (List.mem_of_getElem? (i := 9) rfl)) (lr_31 _ (List.mem_of_getElem? (i := 6) rfl)) (lr_31 _ (List.mem_of_getElem? (i := 7) rfl)) (lr_31 _ (List.mem_of_getElem? (i := 8) rfl)) (lr_1 _ (List.mem_of_getElem? (i := 2) rfl)) rfl rfl (by decide +kernel) hR
theorem cw_L_99 {R : Room} {s : State} {args : Array Value} (ht : ∀ w ∈ wsL_law, w.before args s = true) (hR : rm_X6_told.frames + 1 ≤ R.frames ∧ 8 + (2 + 11) + rm_X6_told.locals ≤ R.locals) : lf_cV R s args RL RX6 99 yX6_told cX6_told 2 (some .int) rm_X6_told 1 :=
  lf_cV_of 1 ht (lr_31 _ (List.mem_of_getElem? (i := 13) rfl)) (lr_31 _ (List.mem_of_getElem? (i := 10) rfl)) (lr_31 _ (List.mem_of_getElem? (i := 11) rfl)) (lr_31 _ (List.mem_of_getElem? (i := 12) rfl)) (lr_1 _ (List.mem_of_getElem? (i := 5) rfl)) rfl rfl (by decide +kernel) hR
theorem lw_ad2 (i : Nat) : nI i + 2 = nI (i + 2) := nI_add i 2
theorem lw_ad3 (i : Nat) : nI i + 3 = nI (i + 3) := nI_add i 3
theorem lw_ad4 (i : Nat) : nI i + 4 = nI (i + 4) := nI_add i 4
theorem lw_more {L i : Nat} {x : Int32} (hL : L ≤ 2048) (hi : i ≤ 4000) (hx : x = nI i) (h : ¬ Int32.ofNat L - 4 < x) : i + 4 ≤ L := by
  have e : (Int32.ofNat L - 4).toInt = (L : Int) - 4 := pk_sub_toInt (a := L) (b := 4) (by omega) (by decide)
  have e2 : x.toInt = (i : Int) := by rw [hx]; exact nI_toInt (by omega)
  have h2 : ¬ (Int32.ofNat L - 4).toInt < x.toInt := fun q => h (Int32.lt_iff_toInt_lt.mpr q)
  omega
set_option maxHeartbeats 8000000 in
set_option maxRecDepth 100000 in
theorem law_loop {p : Program} {l : Launch} {e : Env} {s : State} {m : MethodId} {below : List Frame} {meth : Method} {c : Code} {D : va_G} {b L : Nat} {xs : Nat → Int32} {ha hb2 : Nat → Nat} {cy cz : Nat → ClassId} (Inv : lf_St → lf_St → Prop) (h_joint : lo_joint Inv) (h_bar : lo_bar Inv) (h_load : lo_load Inv) (h_about : lo_about Inv) (h_ofBar : lo_ofBar Inv) (h_size : lo_size Inv) (h_price : lo_price Inv) (h_drop : lo_drop Inv) (h_cross : lo_cross Inv) (h_stiff : lo_stiff Inv) (h_choices : lo_choices Inv) (h_frame : lo_frame Inv) (h_cost : lo_cost Inv) (h_pull : lo_pull Inv) (h_used : lo_used Inv) (h_sized : lo_sized Inv) (h_prove : lo_prove Inv) (h_field : lo_field Inv) (h_slack : lo_slack Inv) (h_told : lo_told Inv) (hL : L ≤ 2048) (C0 : lw_At p s m meth c b L xs) (hKC : va_K D vwCl (tyC_ cy) s) (hKM : va_K D vwCl (tyM_ cz) s) :
    ∀ (n i : Nat) (x3 : Int32), i ≤ L + 4 → L + 1 ≤ i + n → x3 = nI i → ∀ (σ τ : lf_St), Inv σ τ → ∀ (H : Heap) (locs : List Loc), lw_H D (wC_ ha cy σ) (wM_ hb2 cz τ) (fun q : Nat => s.heap.size ≤ q) s H locs → ∀ (ls : Array Slot), lv_has ls 4 [(0, .ref b), (1, .ref (ha 0)), (2, .ref (hb2 0)), (3, .int x3)] → W p l e room_1 s m #[Value.ref b] below meth c H locs 54 705 (lw_Z below #[Value.ref b] s) (F0 m 18 ls []) := by
  obtain ⟨hx, hb, hr, hml, hown, hts0, hX, hbl, hlocks, hgv⟩ := C0
  have hb : c.code = cL_law := hb
  have hts : ∀ w ∈ wsL_law, w.before #[Value.ref b] s = true := fun w h => hts0 w (wsL_law_in w h)
  have hA : ∀ q : Nat, s.heap.size ≤ q → (fun q : Nat => s.heap.size ≤ q) q := fun _ h => h
  have hbA : ¬ (fun q : Nat => s.heap.size ≤ q) b := Nat.not_le.mpr hbl
  have F : CallFix p m c cL_law 4 s #[Value.ref b] wsL_law RL := ⟨hx, hb, hml, hown, hts⟩
  intro n
  induction n with
  | zero =>
    intro i x3 h1 h2 h3 σ τ hI H locs hh ls hl
    refine lv_iload_n hx hb dL_law_18 rfl (lv_at hl 3 rfl) ?_
    refine lv_aload_n hx hb dL_law_19 rfl (lv_at hl 0 rfl) ?_
    refine va_slen hx hb hX hbl hbA hh.2.2.2.2.2 dL_law_20 ?_
    refine lv_iconst (v := 4) hx hb dL_law_21 (by decide) ?_
    refine lv_isub hx hb dL_law_22 ?_
    refine lv_icmp_gt (tgt := 734) hx hb dL_law_23 (by decide) (fun _ => ?_) (fun c1 => ?_)
    · refine lv_iconst (v := 1) hx hb dL_law_734 (by decide) ?_
      refine va_forget (fun q hq => hh.2.2.2.2.2.2.2 q hq) ?_
      refine W.widen (k := 600000) (n := 7302249) (Nat.le_of_ble_eq_true rfl) (Nat.le_of_ble_eq_true rfl) ?_
      exact lw_ret hx hb hr hlocks dL_law_735
    · exact absurd (lw_more (by omega) (by omega) h3 c1) (by omega)
  | succ n ih =>
    intro i x3 hi hin h3 σ τ hI H locs hh ls hl
    refine lv_iload_n hx hb dL_law_18 rfl (lv_at hl 3 rfl) ?_
    refine lv_aload_n hx hb dL_law_19 rfl (lv_at hl 0 rfl) ?_
    refine va_slen hx hb hX hbl hbA hh.2.2.2.2.2 dL_law_20 ?_
    refine lv_iconst (v := 4) hx hb dL_law_21 (by decide) ?_
    refine lv_isub hx hb dL_law_22 ?_
    refine lv_icmp_gt (tgt := 734) hx hb dL_law_23 (by decide) (fun _ => ?_) (fun c1 => ?_)
    · refine lv_iconst (v := 1) hx hb dL_law_734 (by decide) ?_
      refine va_forget (fun q hq => hh.2.2.2.2.2.2.2 q hq) ?_
      refine W.widen (k := 600000) (n := 7302249) (Nat.le_of_ble_eq_true rfl) (Nat.le_of_ble_eq_true rfl) ?_
      exact lw_ret hx hb hr hlocks dL_law_735
    have hlt : i + 4 ≤ L := lw_more (by omega) (by omega) h3 c1
    have i0 : vp_in x3 L := by rw [h3]; exact vp_in_nI (by omega) (by omega)
    have i1 : vp_in (x3 + 1) L := by rw [h3, nI_1]; exact vp_in_nI (by omega) (by omega)
    have i2 : vp_in (x3 + 2) L := by rw [h3, lw_ad2]; exact vp_in_nI (by omega) (by omega)
    have i3 : vp_in (x3 + 3) L := by rw [h3, lw_ad3]; exact vp_in_nI (by omega) (by omega)
    have go : ∀ (σ τ : lf_St), Inv σ τ → ∀ (H : Heap) (locs : List Loc), lw_H D (wC_ ha cy σ) (wM_ hb2 cz τ) (fun q : Nat => s.heap.size ≤ q) s H locs → W p l e room_1 s m #[Value.ref b] below meth c H locs 54 705 (lw_Z below #[Value.ref b] s) (F0 m 728 ls []) := by
      intro σ τ hI H locs hh
      obtain ⟨x4, ex4⟩ : ∃ y : Int32, y = x3 + 4 := ⟨_, rfl⟩
      refine lv_iinc (v := x4) (lv' := [(3, .int x4), (0, .ref b), (1, .ref (ha 0)), (2, .ref (hb2 0))]) hx hb dL_law_728 hl (k := 3) rfl (by rw [ex4]; rfl) (by decide) rfl (fun ls hl => ?_)
      refine lv_goto (tgt := 18) hx hb dL_law_731 (by decide) ?_
      exact ih (i + 4) x4 (by omega) (by omega) (by rw [ex4, h3, lw_ad4]) σ τ hI H locs hh ls (lv_sub hl [1, 2, 3, 0] rfl)
    refine lv_aload_n hx hb dL_law_26 rfl (lv_at hl 0 rfl) ?_
    refine lv_iload_n hx hb dL_law_27 rfl (lv_at hl 3 rfl) ?_
    refine va_sld hx hb hX hbl hbA hh.2.2.2.2.2 i0 dL_law_28 ?_
    refine lv_bipush (v := 31) hx hb dL_law_29 (by decide) ?_
    refine lv_iand hx hb dL_law_31 ?_
    refine lv_topi (fun w ew => ?_)
    by_cases k0 : w = 0
    · refine lv_tableIn (tgt := 128) hx hb dL_law_32 (by rw [k0]; decide) (by rw [k0]; decide) (by rw [k0]; rfl) (by decide) ?_
      by_cases hz : xs (x3 + 3).toNatClampNeg = 0
      · skip
        refine lv_aload_n hx hb dL_law_128 rfl (lv_at hl 1 rfl) ?_
        refine lv_aload_n hx hb dL_law_129 rfl (lv_at hl 0 rfl) ?_
        refine lv_iload_n hx hb dL_law_130 rfl (lv_at hl 3 rfl) ?_
        refine lv_iconst (v := 1) hx hb dL_law_131 (by decide) ?_
        refine lv_iadd hx hb dL_law_132 ?_
        refine va_sld hx hb hX hbl hbA hh.2.2.2.2.2 i1 dL_law_133 ?_
        refine lv_aload_n hx hb dL_law_134 rfl (lv_at hl 0 rfl) ?_
        refine lv_iload_n hx hb dL_law_135 rfl (lv_at hl 3 rfl) ?_
        refine lv_iconst (v := 2) hx hb dL_law_136 (by decide) ?_
        refine lv_iadd hx hb dL_law_137 ?_
        refine va_sld hx hb hX hbl hbA hh.2.2.2.2.2 i2 dL_law_138 ?_
        refine lv_aload_n hx hb dL_law_139 rfl (lv_at hl 0 rfl) ?_
        refine lv_iload_n hx hb dL_law_140 rfl (lv_at hl 3 rfl) ?_
        refine lv_iconst (v := 3) hx hb dL_law_141 (by decide) ?_
        refine lv_iadd hx hb dL_law_142 ?_
        refine va_sld hx hb hX hbl hbA hh.2.2.2.2.2 i3 dL_law_143 ?_
        refine lv_if_eq (tgt := 151) hx hb dL_law_144 (by decide) (fun _ => ?_) (fun c2 => absurd hz c2)
        refine lv_iconst (v := 0) hx hb dL_law_151 (by decide) ?_
        refine lw_calli (rest := []) F hKC hA hh ⟨Nat.le_of_ble_eq_true rfl, Nat.le_of_ble_eq_true rfl⟩ (cw_L_13 hts ⟨Nat.le_of_ble_eq_true rfl, Nat.le_of_ble_eq_true rfl⟩) (c_X5_joint l D ha cy H.size σ (xs (x3 + 1).toNatClampNeg) (xs (x3 + 2).toNatClampNeg) 0 _ (h_joint σ τ hI (xs (x3 + 1).toNatClampNeg) (xs (x3 + 2).toNatClampNeg) 0 (Or.inl rfl))) 0 5 rfl rfl rfl rfl hl.1 (Nat.le_of_ble_eq_true rfl) dL_law_152 rfl (fun r1 σ1 H locs hw hh => ?_)
        refine lv_aload_n hx hb dL_law_155 rfl (lv_at hl 2 rfl) ?_
        refine lv_aload_n hx hb dL_law_156 rfl (lv_at hl 0 rfl) ?_
        refine lv_iload_n hx hb dL_law_157 rfl (lv_at hl 3 rfl) ?_
        refine lv_iconst (v := 1) hx hb dL_law_158 (by decide) ?_
        refine lv_iadd hx hb dL_law_159 ?_
        refine va_sld hx hb hX hbl hbA hh.2.2.2.2.2 i1 dL_law_160 ?_
        refine lv_aload_n hx hb dL_law_161 rfl (lv_at hl 0 rfl) ?_
        refine lv_iload_n hx hb dL_law_162 rfl (lv_at hl 3 rfl) ?_
        refine lv_iconst (v := 2) hx hb dL_law_163 (by decide) ?_
        refine lv_iadd hx hb dL_law_164 ?_
        refine va_sld hx hb hX hbl hbA hh.2.2.2.2.2 i2 dL_law_165 ?_
        refine lv_aload_n hx hb dL_law_166 rfl (lv_at hl 0 rfl) ?_
        refine lv_iload_n hx hb dL_law_167 rfl (lv_at hl 3 rfl) ?_
        refine lv_iconst (v := 3) hx hb dL_law_168 (by decide) ?_
        refine lv_iadd hx hb dL_law_169 ?_
        refine va_sld hx hb hX hbl hbA hh.2.2.2.2.2 i3 dL_law_170 ?_
        refine lv_if_eq (tgt := 178) hx hb dL_law_171 (by decide) (fun _ => ?_) (fun c2 => absurd hz c2)
        refine lv_iconst (v := 0) hx hb dL_law_178 (by decide) ?_
        refine lw_calli (rest := [.int r1]) F hKM hA hh.sym ⟨Nat.le_of_ble_eq_true rfl, Nat.le_of_ble_eq_true rfl⟩ (cw_L_17 hts ⟨Nat.le_of_ble_eq_true rfl, Nat.le_of_ble_eq_true rfl⟩) (c_X6_joint l D hb2 cz H.size τ (xs (x3 + 1).toNatClampNeg) (xs (x3 + 2).toNatClampNeg) 0 _ hw) 0 6 rfl rfl rfl rfl hl.1 (Nat.le_of_ble_eq_true rfl) dL_law_179 rfl (fun r2 τ1 H locs hw hh => ?_)
        have hh := hh.sym
        refine lv_icmp_eq (tgt := 728) hx hb dL_law_182 (by decide) (fun _ => go σ1 τ1 hw.2 _ _ hh) (fun c3 => absurd hw.1 c3)
      · skip
        refine lv_aload_n hx hb dL_law_128 rfl (lv_at hl 1 rfl) ?_
        refine lv_aload_n hx hb dL_law_129 rfl (lv_at hl 0 rfl) ?_
        refine lv_iload_n hx hb dL_law_130 rfl (lv_at hl 3 rfl) ?_
        refine lv_iconst (v := 1) hx hb dL_law_131 (by decide) ?_
        refine lv_iadd hx hb dL_law_132 ?_
        refine va_sld hx hb hX hbl hbA hh.2.2.2.2.2 i1 dL_law_133 ?_
        refine lv_aload_n hx hb dL_law_134 rfl (lv_at hl 0 rfl) ?_
        refine lv_iload_n hx hb dL_law_135 rfl (lv_at hl 3 rfl) ?_
        refine lv_iconst (v := 2) hx hb dL_law_136 (by decide) ?_
        refine lv_iadd hx hb dL_law_137 ?_
        refine va_sld hx hb hX hbl hbA hh.2.2.2.2.2 i2 dL_law_138 ?_
        refine lv_aload_n hx hb dL_law_139 rfl (lv_at hl 0 rfl) ?_
        refine lv_iload_n hx hb dL_law_140 rfl (lv_at hl 3 rfl) ?_
        refine lv_iconst (v := 3) hx hb dL_law_141 (by decide) ?_
        refine lv_iadd hx hb dL_law_142 ?_
        refine va_sld hx hb hX hbl hbA hh.2.2.2.2.2 i3 dL_law_143 ?_
        refine lv_if_eq (tgt := 151) hx hb dL_law_144 (by decide) (fun c2 => absurd c2 hz) (fun _ => ?_)
        refine lv_iconst (v := 1) hx hb dL_law_147 (by decide) ?_
        refine lv_goto (tgt := 152) hx hb dL_law_148 (by decide) ?_
        refine lw_calli (rest := []) F hKC hA hh ⟨Nat.le_of_ble_eq_true rfl, Nat.le_of_ble_eq_true rfl⟩ (cw_L_13 hts ⟨Nat.le_of_ble_eq_true rfl, Nat.le_of_ble_eq_true rfl⟩) (c_X5_joint l D ha cy H.size σ (xs (x3 + 1).toNatClampNeg) (xs (x3 + 2).toNatClampNeg) 1 _ (h_joint σ τ hI (xs (x3 + 1).toNatClampNeg) (xs (x3 + 2).toNatClampNeg) 1 (Or.inr rfl))) 0 5 rfl rfl rfl rfl hl.1 (Nat.le_of_ble_eq_true rfl) dL_law_152 rfl (fun r1 σ1 H locs hw hh => ?_)
        refine lv_aload_n hx hb dL_law_155 rfl (lv_at hl 2 rfl) ?_
        refine lv_aload_n hx hb dL_law_156 rfl (lv_at hl 0 rfl) ?_
        refine lv_iload_n hx hb dL_law_157 rfl (lv_at hl 3 rfl) ?_
        refine lv_iconst (v := 1) hx hb dL_law_158 (by decide) ?_
        refine lv_iadd hx hb dL_law_159 ?_
        refine va_sld hx hb hX hbl hbA hh.2.2.2.2.2 i1 dL_law_160 ?_
        refine lv_aload_n hx hb dL_law_161 rfl (lv_at hl 0 rfl) ?_
        refine lv_iload_n hx hb dL_law_162 rfl (lv_at hl 3 rfl) ?_
        refine lv_iconst (v := 2) hx hb dL_law_163 (by decide) ?_
        refine lv_iadd hx hb dL_law_164 ?_
        refine va_sld hx hb hX hbl hbA hh.2.2.2.2.2 i2 dL_law_165 ?_
        refine lv_aload_n hx hb dL_law_166 rfl (lv_at hl 0 rfl) ?_
        refine lv_iload_n hx hb dL_law_167 rfl (lv_at hl 3 rfl) ?_
        refine lv_iconst (v := 3) hx hb dL_law_168 (by decide) ?_
        refine lv_iadd hx hb dL_law_169 ?_
        refine va_sld hx hb hX hbl hbA hh.2.2.2.2.2 i3 dL_law_170 ?_
        refine lv_if_eq (tgt := 178) hx hb dL_law_171 (by decide) (fun c2 => absurd c2 hz) (fun _ => ?_)
        refine lv_iconst (v := 1) hx hb dL_law_174 (by decide) ?_
        refine lv_goto (tgt := 179) hx hb dL_law_175 (by decide) ?_
        refine lw_calli (rest := [.int r1]) F hKM hA hh.sym ⟨Nat.le_of_ble_eq_true rfl, Nat.le_of_ble_eq_true rfl⟩ (cw_L_17 hts ⟨Nat.le_of_ble_eq_true rfl, Nat.le_of_ble_eq_true rfl⟩) (c_X6_joint l D hb2 cz H.size τ (xs (x3 + 1).toNatClampNeg) (xs (x3 + 2).toNatClampNeg) 1 _ hw) 0 6 rfl rfl rfl rfl hl.1 (Nat.le_of_ble_eq_true rfl) dL_law_179 rfl (fun r2 τ1 H locs hw hh => ?_)
        have hh := hh.sym
        refine lv_icmp_eq (tgt := 728) hx hb dL_law_182 (by decide) (fun _ => go σ1 τ1 hw.2 _ _ hh) (fun c3 => absurd hw.1 c3)
    by_cases k1 : w = 1
    · refine lv_tableIn (tgt := 187) hx hb dL_law_32 (by rw [k1]; decide) (by rw [k1]; decide) (by rw [k1]; rfl) (by decide) ?_
      refine lv_aload_n hx hb dL_law_187 rfl (lv_at hl 1 rfl) ?_
      refine lv_aload_n hx hb dL_law_188 rfl (lv_at hl 0 rfl) ?_
      refine lv_iload_n hx hb dL_law_189 rfl (lv_at hl 3 rfl) ?_
      refine lv_iconst (v := 1) hx hb dL_law_190 (by decide) ?_
      refine lv_iadd hx hb dL_law_191 ?_
      refine va_sld hx hb hX hbl hbA hh.2.2.2.2.2 i1 dL_law_192 ?_
      refine lv_aload_n hx hb dL_law_193 rfl (lv_at hl 0 rfl) ?_
      refine lv_iload_n hx hb dL_law_194 rfl (lv_at hl 3 rfl) ?_
      refine lv_iconst (v := 2) hx hb dL_law_195 (by decide) ?_
      refine lv_iadd hx hb dL_law_196 ?_
      refine va_sld hx hb hX hbl hbA hh.2.2.2.2.2 i2 dL_law_197 ?_
      refine lw_calli (rest := []) F hKC hA hh ⟨Nat.le_of_ble_eq_true rfl, Nat.le_of_ble_eq_true rfl⟩ (cw_L_18 hts ⟨Nat.le_of_ble_eq_true rfl, Nat.le_of_ble_eq_true rfl⟩) (c_X5_bar l D ha cy H.size σ (xs (x3 + 1).toNatClampNeg) (xs (x3 + 2).toNatClampNeg) _ (h_bar σ τ hI (xs (x3 + 1).toNatClampNeg) (xs (x3 + 2).toNatClampNeg))) 0 5 rfl rfl rfl rfl hl.1 (Nat.le_of_ble_eq_true rfl) dL_law_198 rfl (fun r1 σ1 H locs hw hh => ?_)
      refine lv_aload_n hx hb dL_law_201 rfl (lv_at hl 2 rfl) ?_
      refine lv_aload_n hx hb dL_law_202 rfl (lv_at hl 0 rfl) ?_
      refine lv_iload_n hx hb dL_law_203 rfl (lv_at hl 3 rfl) ?_
      refine lv_iconst (v := 1) hx hb dL_law_204 (by decide) ?_
      refine lv_iadd hx hb dL_law_205 ?_
      refine va_sld hx hb hX hbl hbA hh.2.2.2.2.2 i1 dL_law_206 ?_
      refine lv_aload_n hx hb dL_law_207 rfl (lv_at hl 0 rfl) ?_
      refine lv_iload_n hx hb dL_law_208 rfl (lv_at hl 3 rfl) ?_
      refine lv_iconst (v := 2) hx hb dL_law_209 (by decide) ?_
      refine lv_iadd hx hb dL_law_210 ?_
      refine va_sld hx hb hX hbl hbA hh.2.2.2.2.2 i2 dL_law_211 ?_
      refine lw_calli (rest := [.int r1]) F hKM hA hh.sym ⟨Nat.le_of_ble_eq_true rfl, Nat.le_of_ble_eq_true rfl⟩ (cw_L_22 hts ⟨Nat.le_of_ble_eq_true rfl, Nat.le_of_ble_eq_true rfl⟩) (c_X6_bar l D hb2 cz H.size τ (xs (x3 + 1).toNatClampNeg) (xs (x3 + 2).toNatClampNeg) _ hw) 0 6 rfl rfl rfl rfl hl.1 (Nat.le_of_ble_eq_true rfl) dL_law_212 rfl (fun r2 τ1 H locs hw hh => ?_)
      have hh := hh.sym
      refine lv_icmp_eq (tgt := 728) hx hb dL_law_215 (by decide) (fun _ => go σ1 τ1 hw.2 _ _ hh) (fun c3 => absurd hw.1 c3)
    by_cases k2 : w = 2
    · refine lv_tableIn (tgt := 220) hx hb dL_law_32 (by rw [k2]; decide) (by rw [k2]; decide) (by rw [k2]; rfl) (by decide) ?_
      refine lv_aload_n hx hb dL_law_220 rfl (lv_at hl 1 rfl) ?_
      refine lv_aload_n hx hb dL_law_221 rfl (lv_at hl 0 rfl) ?_
      refine lv_iload_n hx hb dL_law_222 rfl (lv_at hl 3 rfl) ?_
      refine lv_iconst (v := 1) hx hb dL_law_223 (by decide) ?_
      refine lv_iadd hx hb dL_law_224 ?_
      refine va_sld hx hb hX hbl hbA hh.2.2.2.2.2 i1 dL_law_225 ?_
      refine lv_aload_n hx hb dL_law_226 rfl (lv_at hl 0 rfl) ?_
      refine lv_iload_n hx hb dL_law_227 rfl (lv_at hl 3 rfl) ?_
      refine lv_iconst (v := 2) hx hb dL_law_228 (by decide) ?_
      refine lv_iadd hx hb dL_law_229 ?_
      refine va_sld hx hb hX hbl hbA hh.2.2.2.2.2 i2 dL_law_230 ?_
      refine lv_aload_n hx hb dL_law_231 rfl (lv_at hl 0 rfl) ?_
      refine lv_iload_n hx hb dL_law_232 rfl (lv_at hl 3 rfl) ?_
      refine lv_iconst (v := 3) hx hb dL_law_233 (by decide) ?_
      refine lv_iadd hx hb dL_law_234 ?_
      refine va_sld hx hb hX hbl hbA hh.2.2.2.2.2 i3 dL_law_235 ?_
      refine lw_calli (rest := []) F hKC hA hh ⟨Nat.le_of_ble_eq_true rfl, Nat.le_of_ble_eq_true rfl⟩ (cw_L_23 hts ⟨Nat.le_of_ble_eq_true rfl, Nat.le_of_ble_eq_true rfl⟩) (c_X5_load l D ha cy H.size σ (xs (x3 + 1).toNatClampNeg) (xs (x3 + 2).toNatClampNeg) (xs (x3 + 3).toNatClampNeg) _ (h_load σ τ hI (xs (x3 + 1).toNatClampNeg) (xs (x3 + 2).toNatClampNeg) (xs (x3 + 3).toNatClampNeg))) 0 5 rfl rfl rfl rfl hl.1 (Nat.le_of_ble_eq_true rfl) dL_law_236 rfl (fun r1 σ1 H locs hw hh => ?_)
      refine lv_aload_n hx hb dL_law_239 rfl (lv_at hl 2 rfl) ?_
      refine lv_aload_n hx hb dL_law_240 rfl (lv_at hl 0 rfl) ?_
      refine lv_iload_n hx hb dL_law_241 rfl (lv_at hl 3 rfl) ?_
      refine lv_iconst (v := 1) hx hb dL_law_242 (by decide) ?_
      refine lv_iadd hx hb dL_law_243 ?_
      refine va_sld hx hb hX hbl hbA hh.2.2.2.2.2 i1 dL_law_244 ?_
      refine lv_aload_n hx hb dL_law_245 rfl (lv_at hl 0 rfl) ?_
      refine lv_iload_n hx hb dL_law_246 rfl (lv_at hl 3 rfl) ?_
      refine lv_iconst (v := 2) hx hb dL_law_247 (by decide) ?_
      refine lv_iadd hx hb dL_law_248 ?_
      refine va_sld hx hb hX hbl hbA hh.2.2.2.2.2 i2 dL_law_249 ?_
      refine lv_aload_n hx hb dL_law_250 rfl (lv_at hl 0 rfl) ?_
      refine lv_iload_n hx hb dL_law_251 rfl (lv_at hl 3 rfl) ?_
      refine lv_iconst (v := 3) hx hb dL_law_252 (by decide) ?_
      refine lv_iadd hx hb dL_law_253 ?_
      refine va_sld hx hb hX hbl hbA hh.2.2.2.2.2 i3 dL_law_254 ?_
      refine lw_calli (rest := [.int r1]) F hKM hA hh.sym ⟨Nat.le_of_ble_eq_true rfl, Nat.le_of_ble_eq_true rfl⟩ (cw_L_27 hts ⟨Nat.le_of_ble_eq_true rfl, Nat.le_of_ble_eq_true rfl⟩) (c_X6_load l D hb2 cz H.size τ (xs (x3 + 1).toNatClampNeg) (xs (x3 + 2).toNatClampNeg) (xs (x3 + 3).toNatClampNeg) _ hw) 0 6 rfl rfl rfl rfl hl.1 (Nat.le_of_ble_eq_true rfl) dL_law_255 rfl (fun r2 τ1 H locs hw hh => ?_)
      have hh := hh.sym
      refine lv_icmp_eq (tgt := 728) hx hb dL_law_258 (by decide) (fun _ => go σ1 τ1 hw.2 _ _ hh) (fun c3 => absurd hw.1 c3)
    by_cases k3 : w = 3
    · refine lv_tableIn (tgt := 263) hx hb dL_law_32 (by rw [k3]; decide) (by rw [k3]; decide) (by rw [k3]; rfl) (by decide) ?_
      refine lv_aload_n hx hb dL_law_263 rfl (lv_at hl 1 rfl) ?_
      refine lv_aload_n hx hb dL_law_264 rfl (lv_at hl 0 rfl) ?_
      refine lv_iload_n hx hb dL_law_265 rfl (lv_at hl 3 rfl) ?_
      refine lv_iconst (v := 1) hx hb dL_law_266 (by decide) ?_
      refine lv_iadd hx hb dL_law_267 ?_
      refine va_sld hx hb hX hbl hbA hh.2.2.2.2.2 i1 dL_law_268 ?_
      refine lv_aload_n hx hb dL_law_269 rfl (lv_at hl 0 rfl) ?_
      refine lv_iload_n hx hb dL_law_270 rfl (lv_at hl 3 rfl) ?_
      refine lv_iconst (v := 2) hx hb dL_law_271 (by decide) ?_
      refine lv_iadd hx hb dL_law_272 ?_
      refine va_sld hx hb hX hbl hbA hh.2.2.2.2.2 i2 dL_law_273 ?_
      refine lw_calli (rest := []) F hKC hA hh ⟨Nat.le_of_ble_eq_true rfl, Nat.le_of_ble_eq_true rfl⟩ (cw_L_28 hts ⟨Nat.le_of_ble_eq_true rfl, Nat.le_of_ble_eq_true rfl⟩) (c_X5_about l D ha cy H.size σ (xs (x3 + 1).toNatClampNeg) (xs (x3 + 2).toNatClampNeg) _ (h_about σ τ hI (xs (x3 + 1).toNatClampNeg) (xs (x3 + 2).toNatClampNeg))) 0 5 rfl rfl rfl rfl hl.1 (Nat.le_of_ble_eq_true rfl) dL_law_274 rfl (fun r1 σ1 H locs hw hh => ?_)
      refine lv_aload_n hx hb dL_law_277 rfl (lv_at hl 2 rfl) ?_
      refine lv_aload_n hx hb dL_law_278 rfl (lv_at hl 0 rfl) ?_
      refine lv_iload_n hx hb dL_law_279 rfl (lv_at hl 3 rfl) ?_
      refine lv_iconst (v := 1) hx hb dL_law_280 (by decide) ?_
      refine lv_iadd hx hb dL_law_281 ?_
      refine va_sld hx hb hX hbl hbA hh.2.2.2.2.2 i1 dL_law_282 ?_
      refine lv_aload_n hx hb dL_law_283 rfl (lv_at hl 0 rfl) ?_
      refine lv_iload_n hx hb dL_law_284 rfl (lv_at hl 3 rfl) ?_
      refine lv_iconst (v := 2) hx hb dL_law_285 (by decide) ?_
      refine lv_iadd hx hb dL_law_286 ?_
      refine va_sld hx hb hX hbl hbA hh.2.2.2.2.2 i2 dL_law_287 ?_
      refine lw_calli (rest := [.int r1]) F hKM hA hh.sym ⟨Nat.le_of_ble_eq_true rfl, Nat.le_of_ble_eq_true rfl⟩ (cw_L_31 hts ⟨Nat.le_of_ble_eq_true rfl, Nat.le_of_ble_eq_true rfl⟩) (c_X6_about l D hb2 cz H.size τ (xs (x3 + 1).toNatClampNeg) (xs (x3 + 2).toNatClampNeg) _ hw) 0 6 rfl rfl rfl rfl hl.1 (Nat.le_of_ble_eq_true rfl) dL_law_288 rfl (fun r2 τ1 H locs hw hh => ?_)
      have hh := hh.sym
      refine lv_icmp_eq (tgt := 728) hx hb dL_law_291 (by decide) (fun _ => go σ1 τ1 hw.2 _ _ hh) (fun c3 => absurd hw.1 c3)
    by_cases k4 : w = 4
    · refine lv_tableIn (tgt := 296) hx hb dL_law_32 (by rw [k4]; decide) (by rw [k4]; decide) (by rw [k4]; rfl) (by decide) ?_
      refine lv_aload_n hx hb dL_law_296 rfl (lv_at hl 1 rfl) ?_
      refine lv_aload_n hx hb dL_law_297 rfl (lv_at hl 0 rfl) ?_
      refine lv_iload_n hx hb dL_law_298 rfl (lv_at hl 3 rfl) ?_
      refine lv_iconst (v := 1) hx hb dL_law_299 (by decide) ?_
      refine lv_iadd hx hb dL_law_300 ?_
      refine va_sld hx hb hX hbl hbA hh.2.2.2.2.2 i1 dL_law_301 ?_
      refine lv_aload_n hx hb dL_law_302 rfl (lv_at hl 0 rfl) ?_
      refine lv_iload_n hx hb dL_law_303 rfl (lv_at hl 3 rfl) ?_
      refine lv_iconst (v := 2) hx hb dL_law_304 (by decide) ?_
      refine lv_iadd hx hb dL_law_305 ?_
      refine va_sld hx hb hX hbl hbA hh.2.2.2.2.2 i2 dL_law_306 ?_
      refine lw_calli (rest := []) F hKC hA hh ⟨Nat.le_of_ble_eq_true rfl, Nat.le_of_ble_eq_true rfl⟩ (cw_L_32 hts ⟨Nat.le_of_ble_eq_true rfl, Nat.le_of_ble_eq_true rfl⟩) (c_X5_ofBar l D ha cy H.size σ (xs (x3 + 1).toNatClampNeg) (xs (x3 + 2).toNatClampNeg) _ (h_ofBar σ τ hI (xs (x3 + 1).toNatClampNeg) (xs (x3 + 2).toNatClampNeg))) 0 5 rfl rfl rfl rfl hl.1 (Nat.le_of_ble_eq_true rfl) dL_law_307 rfl (fun r1 σ1 H locs hw hh => ?_)
      refine lv_aload_n hx hb dL_law_310 rfl (lv_at hl 2 rfl) ?_
      refine lv_aload_n hx hb dL_law_311 rfl (lv_at hl 0 rfl) ?_
      refine lv_iload_n hx hb dL_law_312 rfl (lv_at hl 3 rfl) ?_
      refine lv_iconst (v := 1) hx hb dL_law_313 (by decide) ?_
      refine lv_iadd hx hb dL_law_314 ?_
      refine va_sld hx hb hX hbl hbA hh.2.2.2.2.2 i1 dL_law_315 ?_
      refine lv_aload_n hx hb dL_law_316 rfl (lv_at hl 0 rfl) ?_
      refine lv_iload_n hx hb dL_law_317 rfl (lv_at hl 3 rfl) ?_
      refine lv_iconst (v := 2) hx hb dL_law_318 (by decide) ?_
      refine lv_iadd hx hb dL_law_319 ?_
      refine va_sld hx hb hX hbl hbA hh.2.2.2.2.2 i2 dL_law_320 ?_
      refine lw_calli (rest := [.int r1]) F hKM hA hh.sym ⟨Nat.le_of_ble_eq_true rfl, Nat.le_of_ble_eq_true rfl⟩ (cw_L_35 hts ⟨Nat.le_of_ble_eq_true rfl, Nat.le_of_ble_eq_true rfl⟩) (c_X6_ofBar l D hb2 cz H.size τ (xs (x3 + 1).toNatClampNeg) (xs (x3 + 2).toNatClampNeg) _ hw) 0 6 rfl rfl rfl rfl hl.1 (Nat.le_of_ble_eq_true rfl) dL_law_321 rfl (fun r2 τ1 H locs hw hh => ?_)
      have hh := hh.sym
      refine lv_icmp_eq (tgt := 728) hx hb dL_law_324 (by decide) (fun _ => go σ1 τ1 hw.2 _ _ hh) (fun c3 => absurd hw.1 c3)
    by_cases k5 : w = 5
    · refine lv_tableIn (tgt := 329) hx hb dL_law_32 (by rw [k5]; decide) (by rw [k5]; decide) (by rw [k5]; rfl) (by decide) ?_
      refine lv_aload_n hx hb dL_law_329 rfl (lv_at hl 1 rfl) ?_
      refine lv_aload_n hx hb dL_law_330 rfl (lv_at hl 0 rfl) ?_
      refine lv_iload_n hx hb dL_law_331 rfl (lv_at hl 3 rfl) ?_
      refine lv_iconst (v := 1) hx hb dL_law_332 (by decide) ?_
      refine lv_iadd hx hb dL_law_333 ?_
      refine va_sld hx hb hX hbl hbA hh.2.2.2.2.2 i1 dL_law_334 ?_
      refine lw_calli (rest := []) F hKC hA hh ⟨Nat.le_of_ble_eq_true rfl, Nat.le_of_ble_eq_true rfl⟩ (cw_L_36 hts ⟨Nat.le_of_ble_eq_true rfl, Nat.le_of_ble_eq_true rfl⟩) (c_X5_size l D ha cy H.size σ (xs (x3 + 1).toNatClampNeg) _ (h_size σ τ hI (xs (x3 + 1).toNatClampNeg))) 0 5 rfl rfl rfl rfl hl.1 (Nat.le_of_ble_eq_true rfl) dL_law_335 rfl (fun r1 σ1 H locs hw hh => ?_)
      refine lv_aload_n hx hb dL_law_338 rfl (lv_at hl 2 rfl) ?_
      refine lv_aload_n hx hb dL_law_339 rfl (lv_at hl 0 rfl) ?_
      refine lv_iload_n hx hb dL_law_340 rfl (lv_at hl 3 rfl) ?_
      refine lv_iconst (v := 1) hx hb dL_law_341 (by decide) ?_
      refine lv_iadd hx hb dL_law_342 ?_
      refine va_sld hx hb hX hbl hbA hh.2.2.2.2.2 i1 dL_law_343 ?_
      refine lw_calli (rest := [.int r1]) F hKM hA hh.sym ⟨Nat.le_of_ble_eq_true rfl, Nat.le_of_ble_eq_true rfl⟩ (cw_L_40 hts ⟨Nat.le_of_ble_eq_true rfl, Nat.le_of_ble_eq_true rfl⟩) (c_X6_size l D hb2 cz H.size τ (xs (x3 + 1).toNatClampNeg) _ hw) 0 6 rfl rfl rfl rfl hl.1 (Nat.le_of_ble_eq_true rfl) dL_law_344 rfl (fun r2 τ1 H locs hw hh => ?_)
      have hh := hh.sym
      refine lv_icmp_eq (tgt := 728) hx hb dL_law_347 (by decide) (fun _ => go σ1 τ1 hw.2 _ _ hh) (fun c3 => absurd hw.1 c3)
    by_cases k6 : w = 6
    · refine lv_tableIn (tgt := 352) hx hb dL_law_32 (by rw [k6]; decide) (by rw [k6]; decide) (by rw [k6]; rfl) (by decide) ?_
      refine lv_aload_n hx hb dL_law_352 rfl (lv_at hl 1 rfl) ?_
      refine lv_aload_n hx hb dL_law_353 rfl (lv_at hl 0 rfl) ?_
      refine lv_iload_n hx hb dL_law_354 rfl (lv_at hl 3 rfl) ?_
      refine lv_iconst (v := 1) hx hb dL_law_355 (by decide) ?_
      refine lv_iadd hx hb dL_law_356 ?_
      refine va_sld hx hb hX hbl hbA hh.2.2.2.2.2 i1 dL_law_357 ?_
      refine lw_calli (rest := []) F hKC hA hh ⟨Nat.le_of_ble_eq_true rfl, Nat.le_of_ble_eq_true rfl⟩ (cw_L_41 hts ⟨Nat.le_of_ble_eq_true rfl, Nat.le_of_ble_eq_true rfl⟩) (c_X5_price l D ha cy H.size σ (xs (x3 + 1).toNatClampNeg) _ (h_price σ τ hI (xs (x3 + 1).toNatClampNeg))) 0 5 rfl rfl rfl rfl hl.1 (Nat.le_of_ble_eq_true rfl) dL_law_358 rfl (fun r1 σ1 H locs hw hh => ?_)
      refine lv_aload_n hx hb dL_law_361 rfl (lv_at hl 2 rfl) ?_
      refine lv_aload_n hx hb dL_law_362 rfl (lv_at hl 0 rfl) ?_
      refine lv_iload_n hx hb dL_law_363 rfl (lv_at hl 3 rfl) ?_
      refine lv_iconst (v := 1) hx hb dL_law_364 (by decide) ?_
      refine lv_iadd hx hb dL_law_365 ?_
      refine va_sld hx hb hX hbl hbA hh.2.2.2.2.2 i1 dL_law_366 ?_
      refine lw_calli (rest := [.int r1]) F hKM hA hh.sym ⟨Nat.le_of_ble_eq_true rfl, Nat.le_of_ble_eq_true rfl⟩ (cw_L_44 hts ⟨Nat.le_of_ble_eq_true rfl, Nat.le_of_ble_eq_true rfl⟩) (c_X6_price l D hb2 cz H.size τ (xs (x3 + 1).toNatClampNeg) _ hw) 0 6 rfl rfl rfl rfl hl.1 (Nat.le_of_ble_eq_true rfl) dL_law_367 rfl (fun r2 τ1 H locs hw hh => ?_)
      have hh := hh.sym
      refine lv_icmp_eq (tgt := 728) hx hb dL_law_370 (by decide) (fun _ => go σ1 τ1 hw.2 _ _ hh) (fun c3 => absurd hw.1 c3)
    by_cases k7 : w = 7
    · refine lv_tableIn (tgt := 375) hx hb dL_law_32 (by rw [k7]; decide) (by rw [k7]; decide) (by rw [k7]; rfl) (by decide) ?_
      refine lv_aload_n hx hb dL_law_375 rfl (lv_at hl 1 rfl) ?_
      refine lw_calli (rest := []) F hKC hA hh ⟨Nat.le_of_ble_eq_true rfl, Nat.le_of_ble_eq_true rfl⟩ (cw_L_45 hts ⟨Nat.le_of_ble_eq_true rfl, Nat.le_of_ble_eq_true rfl⟩) (c_X5_drop l D ha cy H.size σ _ (h_drop σ τ hI)) 0 5 rfl rfl rfl rfl hl.1 (Nat.le_of_ble_eq_true rfl) dL_law_376 rfl (fun r1 σ1 H locs hw hh => ?_)
      refine lv_aload_n hx hb dL_law_379 rfl (lv_at hl 2 rfl) ?_
      refine lw_calli (rest := [.int r1]) F hKM hA hh.sym ⟨Nat.le_of_ble_eq_true rfl, Nat.le_of_ble_eq_true rfl⟩ (cw_L_49 hts ⟨Nat.le_of_ble_eq_true rfl, Nat.le_of_ble_eq_true rfl⟩) (c_X6_drop l D hb2 cz H.size τ _ hw) 0 6 rfl rfl rfl rfl hl.1 (Nat.le_of_ble_eq_true rfl) dL_law_380 rfl (fun r2 τ1 H locs hw hh => ?_)
      have hh := hh.sym
      refine lv_icmp_eq (tgt := 728) hx hb dL_law_383 (by decide) (fun _ => go σ1 τ1 hw.2 _ _ hh) (fun c3 => absurd hw.1 c3)
    by_cases k8 : w = 8
    · refine lv_tableIn (tgt := 388) hx hb dL_law_32 (by rw [k8]; decide) (by rw [k8]; decide) (by rw [k8]; rfl) (by decide) ?_
      refine lv_aload_n hx hb dL_law_388 rfl (lv_at hl 1 rfl) ?_
      refine lv_aload_n hx hb dL_law_389 rfl (lv_at hl 0 rfl) ?_
      refine lv_iload_n hx hb dL_law_390 rfl (lv_at hl 3 rfl) ?_
      refine lv_iconst (v := 1) hx hb dL_law_391 (by decide) ?_
      refine lv_iadd hx hb dL_law_392 ?_
      refine va_sld hx hb hX hbl hbA hh.2.2.2.2.2 i1 dL_law_393 ?_
      refine lv_aload_n hx hb dL_law_394 rfl (lv_at hl 0 rfl) ?_
      refine lv_iload_n hx hb dL_law_395 rfl (lv_at hl 3 rfl) ?_
      refine lv_iconst (v := 2) hx hb dL_law_396 (by decide) ?_
      refine lv_iadd hx hb dL_law_397 ?_
      refine va_sld hx hb hX hbl hbA hh.2.2.2.2.2 i2 dL_law_398 ?_
      refine lw_calli (rest := []) F hKC hA hh ⟨Nat.le_of_ble_eq_true rfl, Nat.le_of_ble_eq_true rfl⟩ (cw_L_50 hts ⟨Nat.le_of_ble_eq_true rfl, Nat.le_of_ble_eq_true rfl⟩) (c_X5_cross l D ha cy H.size σ (xs (x3 + 1).toNatClampNeg) (xs (x3 + 2).toNatClampNeg) _ (h_cross σ τ hI (xs (x3 + 1).toNatClampNeg) (xs (x3 + 2).toNatClampNeg))) 0 5 rfl rfl rfl rfl hl.1 (Nat.le_of_ble_eq_true rfl) dL_law_399 rfl (fun r1 σ1 H locs hw hh => ?_)
      refine lv_aload_n hx hb dL_law_402 rfl (lv_at hl 2 rfl) ?_
      refine lv_aload_n hx hb dL_law_403 rfl (lv_at hl 0 rfl) ?_
      refine lv_iload_n hx hb dL_law_404 rfl (lv_at hl 3 rfl) ?_
      refine lv_iconst (v := 1) hx hb dL_law_405 (by decide) ?_
      refine lv_iadd hx hb dL_law_406 ?_
      refine va_sld hx hb hX hbl hbA hh.2.2.2.2.2 i1 dL_law_407 ?_
      refine lv_aload_n hx hb dL_law_408 rfl (lv_at hl 0 rfl) ?_
      refine lv_iload_n hx hb dL_law_409 rfl (lv_at hl 3 rfl) ?_
      refine lv_iconst (v := 2) hx hb dL_law_410 (by decide) ?_
      refine lv_iadd hx hb dL_law_411 ?_
      refine va_sld hx hb hX hbl hbA hh.2.2.2.2.2 i2 dL_law_412 ?_
      refine lw_calli (rest := [.int r1]) F hKM hA hh.sym ⟨Nat.le_of_ble_eq_true rfl, Nat.le_of_ble_eq_true rfl⟩ (cw_L_53 hts ⟨Nat.le_of_ble_eq_true rfl, Nat.le_of_ble_eq_true rfl⟩) (c_X6_cross l D hb2 cz H.size τ (xs (x3 + 1).toNatClampNeg) (xs (x3 + 2).toNatClampNeg) _ hw) 0 6 rfl rfl rfl rfl hl.1 (Nat.le_of_ble_eq_true rfl) dL_law_413 rfl (fun r2 τ1 H locs hw hh => ?_)
      have hh := hh.sym
      refine lv_icmp_eq (tgt := 728) hx hb dL_law_416 (by decide) (fun _ => go σ1 τ1 hw.2 _ _ hh) (fun c3 => absurd hw.1 c3)
    by_cases k9 : w = 9
    · refine lv_tableIn (tgt := 421) hx hb dL_law_32 (by rw [k9]; decide) (by rw [k9]; decide) (by rw [k9]; rfl) (by decide) ?_
      refine lv_aload_n hx hb dL_law_421 rfl (lv_at hl 1 rfl) ?_
      refine lv_aload_n hx hb dL_law_422 rfl (lv_at hl 0 rfl) ?_
      refine lv_iload_n hx hb dL_law_423 rfl (lv_at hl 3 rfl) ?_
      refine lv_iconst (v := 1) hx hb dL_law_424 (by decide) ?_
      refine lv_iadd hx hb dL_law_425 ?_
      refine va_sld hx hb hX hbl hbA hh.2.2.2.2.2 i1 dL_law_426 ?_
      refine lw_calli (rest := []) F hKC hA hh ⟨Nat.le_of_ble_eq_true rfl, Nat.le_of_ble_eq_true rfl⟩ (cw_L_54 hts ⟨Nat.le_of_ble_eq_true rfl, Nat.le_of_ble_eq_true rfl⟩) (c_X5_stiff l D ha cy H.size σ (xs (x3 + 1).toNatClampNeg) _ (h_stiff σ τ hI (xs (x3 + 1).toNatClampNeg))) 0 5 rfl rfl rfl rfl hl.1 (Nat.le_of_ble_eq_true rfl) dL_law_427 rfl (fun r1 σ1 H locs hw hh => ?_)
      refine lv_aload_n hx hb dL_law_430 rfl (lv_at hl 2 rfl) ?_
      refine lv_aload_n hx hb dL_law_431 rfl (lv_at hl 0 rfl) ?_
      refine lv_iload_n hx hb dL_law_432 rfl (lv_at hl 3 rfl) ?_
      refine lv_iconst (v := 1) hx hb dL_law_433 (by decide) ?_
      refine lv_iadd hx hb dL_law_434 ?_
      refine va_sld hx hb hX hbl hbA hh.2.2.2.2.2 i1 dL_law_435 ?_
      refine lw_calli (rest := [.int r1]) F hKM hA hh.sym ⟨Nat.le_of_ble_eq_true rfl, Nat.le_of_ble_eq_true rfl⟩ (cw_L_57 hts ⟨Nat.le_of_ble_eq_true rfl, Nat.le_of_ble_eq_true rfl⟩) (c_X6_stiff l D hb2 cz H.size τ (xs (x3 + 1).toNatClampNeg) _ hw) 0 6 rfl rfl rfl rfl hl.1 (Nat.le_of_ble_eq_true rfl) dL_law_436 rfl (fun r2 τ1 H locs hw hh => ?_)
      have hh := hh.sym
      refine lv_icmp_eq (tgt := 728) hx hb dL_law_439 (by decide) (fun _ => go σ1 τ1 hw.2 _ _ hh) (fun c3 => absurd hw.1 c3)
    by_cases k10 : w = 10
    · refine lv_tableIn (tgt := 444) hx hb dL_law_32 (by rw [k10]; decide) (by rw [k10]; decide) (by rw [k10]; rfl) (by decide) ?_
      refine lv_aload_n hx hb dL_law_444 rfl (lv_at hl 1 rfl) ?_
      refine lw_calli (rest := []) F hKC hA hh ⟨Nat.le_of_ble_eq_true rfl, Nat.le_of_ble_eq_true rfl⟩ (cw_L_58 hts ⟨Nat.le_of_ble_eq_true rfl, Nat.le_of_ble_eq_true rfl⟩) (c_X5_choices l D ha cy H.size σ _ (h_choices σ τ hI)) 0 5 rfl rfl rfl rfl hl.1 (Nat.le_of_ble_eq_true rfl) dL_law_445 rfl (fun r1 σ1 H locs hw hh => ?_)
      refine lv_aload_n hx hb dL_law_448 rfl (lv_at hl 2 rfl) ?_
      refine lw_calli (rest := [.int r1]) F hKM hA hh.sym ⟨Nat.le_of_ble_eq_true rfl, Nat.le_of_ble_eq_true rfl⟩ (cw_L_61 hts ⟨Nat.le_of_ble_eq_true rfl, Nat.le_of_ble_eq_true rfl⟩) (c_X6_choices l D hb2 cz H.size τ _ hw) 0 6 rfl rfl rfl rfl hl.1 (Nat.le_of_ble_eq_true rfl) dL_law_449 rfl (fun r2 τ1 H locs hw hh => ?_)
      have hh := hh.sym
      refine lv_icmp_eq (tgt := 728) hx hb dL_law_452 (by decide) (fun _ => go σ1 τ1 hw.2 _ _ hh) (fun c3 => absurd hw.1 c3)
    by_cases k11 : w = 11
    · refine lv_tableIn (tgt := 457) hx hb dL_law_32 (by rw [k11]; decide) (by rw [k11]; decide) (by rw [k11]; rfl) (by decide) ?_
      refine lv_aload_n hx hb dL_law_457 rfl (lv_at hl 1 rfl) ?_
      refine lv_aload_n hx hb dL_law_458 rfl (lv_at hl 0 rfl) ?_
      refine lv_iload_n hx hb dL_law_459 rfl (lv_at hl 3 rfl) ?_
      refine lv_iconst (v := 1) hx hb dL_law_460 (by decide) ?_
      refine lv_iadd hx hb dL_law_461 ?_
      refine va_sld hx hb hX hbl hbA hh.2.2.2.2.2 i1 dL_law_462 ?_
      refine lw_calli (rest := []) F hKC hA hh ⟨Nat.le_of_ble_eq_true rfl, Nat.le_of_ble_eq_true rfl⟩ (cw_L_62 hts ⟨Nat.le_of_ble_eq_true rfl, Nat.le_of_ble_eq_true rfl⟩) (c_X5_frame l D ha cy H.size σ (xs (x3 + 1).toNatClampNeg) _ (h_frame σ τ hI (xs (x3 + 1).toNatClampNeg))) 0 5 rfl rfl rfl rfl hl.1 (Nat.le_of_ble_eq_true rfl) dL_law_463 rfl (fun r1 σ1 H locs hw hh => ?_)
      refine lv_aload_n hx hb dL_law_466 rfl (lv_at hl 2 rfl) ?_
      refine lv_aload_n hx hb dL_law_467 rfl (lv_at hl 0 rfl) ?_
      refine lv_iload_n hx hb dL_law_468 rfl (lv_at hl 3 rfl) ?_
      refine lv_iconst (v := 1) hx hb dL_law_469 (by decide) ?_
      refine lv_iadd hx hb dL_law_470 ?_
      refine va_sld hx hb hX hbl hbA hh.2.2.2.2.2 i1 dL_law_471 ?_
      refine lw_calli (rest := [.int r1]) F hKM hA hh.sym ⟨Nat.le_of_ble_eq_true rfl, Nat.le_of_ble_eq_true rfl⟩ (cw_L_65 hts ⟨Nat.le_of_ble_eq_true rfl, Nat.le_of_ble_eq_true rfl⟩) (c_X6_frame l D hb2 cz H.size τ (xs (x3 + 1).toNatClampNeg) _ hw) 0 6 rfl rfl rfl rfl hl.1 (Nat.le_of_ble_eq_true rfl) dL_law_472 rfl (fun r2 τ1 H locs hw hh => ?_)
      have hh := hh.sym
      refine lv_icmp_eq (tgt := 728) hx hb dL_law_475 (by decide) (fun _ => go σ1 τ1 hw.2 _ _ hh) (fun c3 => absurd hw.1 c3)
    by_cases k12 : w = 12
    · refine lv_tableIn (tgt := 480) hx hb dL_law_32 (by rw [k12]; decide) (by rw [k12]; decide) (by rw [k12]; rfl) (by decide) ?_
      refine lv_aload_n hx hb dL_law_480 rfl (lv_at hl 1 rfl) ?_
      refine lv_aload_n hx hb dL_law_481 rfl (lv_at hl 0 rfl) ?_
      refine lv_iload_n hx hb dL_law_482 rfl (lv_at hl 3 rfl) ?_
      refine lv_iconst (v := 1) hx hb dL_law_483 (by decide) ?_
      refine lv_iadd hx hb dL_law_484 ?_
      refine va_sld hx hb hX hbl hbA hh.2.2.2.2.2 i1 dL_law_485 ?_
      refine lv_aload_n hx hb dL_law_486 rfl (lv_at hl 0 rfl) ?_
      refine lv_iload_n hx hb dL_law_487 rfl (lv_at hl 3 rfl) ?_
      refine lv_iconst (v := 2) hx hb dL_law_488 (by decide) ?_
      refine lv_iadd hx hb dL_law_489 ?_
      refine va_sld hx hb hX hbl hbA hh.2.2.2.2.2 i2 dL_law_490 ?_
      refine lw_calll (rest := []) F hKC hA hh ⟨Nat.le_of_ble_eq_true rfl, Nat.le_of_ble_eq_true rfl⟩ (cw_L_66 hts ⟨Nat.le_of_ble_eq_true rfl, Nat.le_of_ble_eq_true rfl⟩) (c_X5_cost l D ha cy H.size σ (xs (x3 + 1).toNatClampNeg) (xs (x3 + 2).toNatClampNeg) _ (h_cost σ τ hI (xs (x3 + 1).toNatClampNeg) (xs (x3 + 2).toNatClampNeg))) 0 5 rfl rfl rfl rfl hl.1 (Nat.le_of_ble_eq_true rfl) dL_law_491 rfl (fun r1 σ1 H locs hw hh => ?_)
      refine lv_aload_n hx hb dL_law_494 rfl (lv_at hl 2 rfl) ?_
      refine lv_aload_n hx hb dL_law_495 rfl (lv_at hl 0 rfl) ?_
      refine lv_iload_n hx hb dL_law_496 rfl (lv_at hl 3 rfl) ?_
      refine lv_iconst (v := 1) hx hb dL_law_497 (by decide) ?_
      refine lv_iadd hx hb dL_law_498 ?_
      refine va_sld hx hb hX hbl hbA hh.2.2.2.2.2 i1 dL_law_499 ?_
      refine lv_aload_n hx hb dL_law_500 rfl (lv_at hl 0 rfl) ?_
      refine lv_iload_n hx hb dL_law_501 rfl (lv_at hl 3 rfl) ?_
      refine lv_iconst (v := 2) hx hb dL_law_502 (by decide) ?_
      refine lv_iadd hx hb dL_law_503 ?_
      refine va_sld hx hb hX hbl hbA hh.2.2.2.2.2 i2 dL_law_504 ?_
      refine lw_calll (rest := [.long r1]) F hKM hA hh.sym ⟨Nat.le_of_ble_eq_true rfl, Nat.le_of_ble_eq_true rfl⟩ (cw_L_70 hts ⟨Nat.le_of_ble_eq_true rfl, Nat.le_of_ble_eq_true rfl⟩) (c_X6_cost l D hb2 cz H.size τ (xs (x3 + 1).toNatClampNeg) (xs (x3 + 2).toNatClampNeg) _ hw) 0 6 rfl rfl rfl rfl hl.1 (Nat.le_of_ble_eq_true rfl) dL_law_505 rfl (fun r2 τ1 H locs hw hh => ?_)
      have hh := hh.sym
      refine W.lcmp hx hb dL_law_508 ?_
      refine lv_if_eq (tgt := 728) hx hb dL_law_509 (by decide) (fun _ => go σ1 τ1 hw.2 _ _ hh) (fun c3 => absurd ((lg_cmp_eq r1 r2).mpr hw.1) c3)
    by_cases k13 : w = 13
    · refine lv_tableIn (tgt := 514) hx hb dL_law_32 (by rw [k13]; decide) (by rw [k13]; decide) (by rw [k13]; rfl) (by decide) ?_
      refine lv_aload_n hx hb dL_law_514 rfl (lv_at hl 1 rfl) ?_
      refine lv_aload_n hx hb dL_law_515 rfl (lv_at hl 0 rfl) ?_
      refine lv_iload_n hx hb dL_law_516 rfl (lv_at hl 3 rfl) ?_
      refine lv_iconst (v := 1) hx hb dL_law_517 (by decide) ?_
      refine lv_iadd hx hb dL_law_518 ?_
      refine va_sld hx hb hX hbl hbA hh.2.2.2.2.2 i1 dL_law_519 ?_
      refine lv_aload_n hx hb dL_law_520 rfl (lv_at hl 0 rfl) ?_
      refine lv_iload_n hx hb dL_law_521 rfl (lv_at hl 3 rfl) ?_
      refine lv_iconst (v := 2) hx hb dL_law_522 (by decide) ?_
      refine lv_iadd hx hb dL_law_523 ?_
      refine va_sld hx hb hX hbl hbA hh.2.2.2.2.2 i2 dL_law_524 ?_
      refine lv_aload_n hx hb dL_law_525 rfl (lv_at hl 0 rfl) ?_
      refine lv_iload_n hx hb dL_law_526 rfl (lv_at hl 3 rfl) ?_
      refine lv_iconst (v := 3) hx hb dL_law_527 (by decide) ?_
      refine lv_iadd hx hb dL_law_528 ?_
      refine va_sld hx hb hX hbl hbA hh.2.2.2.2.2 i3 dL_law_529 ?_
      refine lw_calll (rest := []) F hKC hA hh ⟨Nat.le_of_ble_eq_true rfl, Nat.le_of_ble_eq_true rfl⟩ (cw_L_71 hts ⟨Nat.le_of_ble_eq_true rfl, Nat.le_of_ble_eq_true rfl⟩) (c_X5_pull l D ha cy H.size σ (xs (x3 + 1).toNatClampNeg) (xs (x3 + 2).toNatClampNeg) (xs (x3 + 3).toNatClampNeg) _ (h_pull σ τ hI (xs (x3 + 1).toNatClampNeg) (xs (x3 + 2).toNatClampNeg) (xs (x3 + 3).toNatClampNeg))) 0 5 rfl rfl rfl rfl hl.1 (Nat.le_of_ble_eq_true rfl) dL_law_530 rfl (fun r1 σ1 H locs hw hh => ?_)
      refine lv_aload_n hx hb dL_law_533 rfl (lv_at hl 2 rfl) ?_
      refine lv_aload_n hx hb dL_law_534 rfl (lv_at hl 0 rfl) ?_
      refine lv_iload_n hx hb dL_law_535 rfl (lv_at hl 3 rfl) ?_
      refine lv_iconst (v := 1) hx hb dL_law_536 (by decide) ?_
      refine lv_iadd hx hb dL_law_537 ?_
      refine va_sld hx hb hX hbl hbA hh.2.2.2.2.2 i1 dL_law_538 ?_
      refine lv_aload_n hx hb dL_law_539 rfl (lv_at hl 0 rfl) ?_
      refine lv_iload_n hx hb dL_law_540 rfl (lv_at hl 3 rfl) ?_
      refine lv_iconst (v := 2) hx hb dL_law_541 (by decide) ?_
      refine lv_iadd hx hb dL_law_542 ?_
      refine va_sld hx hb hX hbl hbA hh.2.2.2.2.2 i2 dL_law_543 ?_
      refine lv_aload_n hx hb dL_law_544 rfl (lv_at hl 0 rfl) ?_
      refine lv_iload_n hx hb dL_law_545 rfl (lv_at hl 3 rfl) ?_
      refine lv_iconst (v := 3) hx hb dL_law_546 (by decide) ?_
      refine lv_iadd hx hb dL_law_547 ?_
      refine va_sld hx hb hX hbl hbA hh.2.2.2.2.2 i3 dL_law_548 ?_
      refine lw_calll (rest := [.long r1]) F hKM hA hh.sym ⟨Nat.le_of_ble_eq_true rfl, Nat.le_of_ble_eq_true rfl⟩ (cw_L_75 hts ⟨Nat.le_of_ble_eq_true rfl, Nat.le_of_ble_eq_true rfl⟩) (c_X6_pull l D hb2 cz H.size τ (xs (x3 + 1).toNatClampNeg) (xs (x3 + 2).toNatClampNeg) (xs (x3 + 3).toNatClampNeg) _ hw) 0 6 rfl rfl rfl rfl hl.1 (Nat.le_of_ble_eq_true rfl) dL_law_549 rfl (fun r2 τ1 H locs hw hh => ?_)
      have hh := hh.sym
      refine W.lcmp hx hb dL_law_552 ?_
      refine lv_if_eq (tgt := 728) hx hb dL_law_553 (by decide) (fun _ => go σ1 τ1 hw.2 _ _ hh) (fun c3 => absurd ((lg_cmp_eq r1 r2).mpr hw.1) c3)
    by_cases k14 : w = 14
    · refine lv_tableIn (tgt := 558) hx hb dL_law_32 (by rw [k14]; decide) (by rw [k14]; decide) (by rw [k14]; rfl) (by decide) ?_
      refine lv_aload_n hx hb dL_law_558 rfl (lv_at hl 1 rfl) ?_
      refine lv_aload_n hx hb dL_law_559 rfl (lv_at hl 0 rfl) ?_
      refine lv_iload_n hx hb dL_law_560 rfl (lv_at hl 3 rfl) ?_
      refine lv_iconst (v := 1) hx hb dL_law_561 (by decide) ?_
      refine lv_iadd hx hb dL_law_562 ?_
      refine va_sld hx hb hX hbl hbA hh.2.2.2.2.2 i1 dL_law_563 ?_
      refine lv_aload_n hx hb dL_law_564 rfl (lv_at hl 0 rfl) ?_
      refine lv_iload_n hx hb dL_law_565 rfl (lv_at hl 3 rfl) ?_
      refine lv_iconst (v := 2) hx hb dL_law_566 (by decide) ?_
      refine lv_iadd hx hb dL_law_567 ?_
      refine va_sld hx hb hX hbl hbA hh.2.2.2.2.2 i2 dL_law_568 ?_
      refine lw_calli (rest := []) F hKC hA hh ⟨Nat.le_of_ble_eq_true rfl, Nat.le_of_ble_eq_true rfl⟩ (cw_L_76 hts ⟨Nat.le_of_ble_eq_true rfl, Nat.le_of_ble_eq_true rfl⟩) (c_X5_used l D ha cy H.size σ (xs (x3 + 1).toNatClampNeg) (xs (x3 + 2).toNatClampNeg) _ (h_used σ τ hI (xs (x3 + 1).toNatClampNeg) (xs (x3 + 2).toNatClampNeg))) 0 5 rfl rfl rfl rfl hl.1 (Nat.le_of_ble_eq_true rfl) dL_law_569 rfl (fun r1 σ1 H locs hw hh => ?_)
      refine lv_aload_n hx hb dL_law_572 rfl (lv_at hl 2 rfl) ?_
      refine lv_aload_n hx hb dL_law_573 rfl (lv_at hl 0 rfl) ?_
      refine lv_iload_n hx hb dL_law_574 rfl (lv_at hl 3 rfl) ?_
      refine lv_iconst (v := 1) hx hb dL_law_575 (by decide) ?_
      refine lv_iadd hx hb dL_law_576 ?_
      refine va_sld hx hb hX hbl hbA hh.2.2.2.2.2 i1 dL_law_577 ?_
      refine lv_aload_n hx hb dL_law_578 rfl (lv_at hl 0 rfl) ?_
      refine lv_iload_n hx hb dL_law_579 rfl (lv_at hl 3 rfl) ?_
      refine lv_iconst (v := 2) hx hb dL_law_580 (by decide) ?_
      refine lv_iadd hx hb dL_law_581 ?_
      refine va_sld hx hb hX hbl hbA hh.2.2.2.2.2 i2 dL_law_582 ?_
      refine lw_calli (rest := [.int r1]) F hKM hA hh.sym ⟨Nat.le_of_ble_eq_true rfl, Nat.le_of_ble_eq_true rfl⟩ (cw_L_79 hts ⟨Nat.le_of_ble_eq_true rfl, Nat.le_of_ble_eq_true rfl⟩) (c_X6_used l D hb2 cz H.size τ (xs (x3 + 1).toNatClampNeg) (xs (x3 + 2).toNatClampNeg) _ hw) 0 6 rfl rfl rfl rfl hl.1 (Nat.le_of_ble_eq_true rfl) dL_law_583 rfl (fun r2 τ1 H locs hw hh => ?_)
      have hh := hh.sym
      refine lv_icmp_eq (tgt := 728) hx hb dL_law_586 (by decide) (fun _ => go σ1 τ1 hw.2 _ _ hh) (fun c3 => absurd hw.1 c3)
    by_cases k15 : w = 15
    · refine lv_tableIn (tgt := 591) hx hb dL_law_32 (by rw [k15]; decide) (by rw [k15]; decide) (by rw [k15]; rfl) (by decide) ?_
      refine lv_aload_n hx hb dL_law_591 rfl (lv_at hl 1 rfl) ?_
      refine lv_aload_n hx hb dL_law_592 rfl (lv_at hl 0 rfl) ?_
      refine lv_iload_n hx hb dL_law_593 rfl (lv_at hl 3 rfl) ?_
      refine lv_iconst (v := 1) hx hb dL_law_594 (by decide) ?_
      refine lv_iadd hx hb dL_law_595 ?_
      refine va_sld hx hb hX hbl hbA hh.2.2.2.2.2 i1 dL_law_596 ?_
      refine lw_calli (rest := []) F hKC hA hh ⟨Nat.le_of_ble_eq_true rfl, Nat.le_of_ble_eq_true rfl⟩ (cw_L_80 hts ⟨Nat.le_of_ble_eq_true rfl, Nat.le_of_ble_eq_true rfl⟩) (c_X5_sized l D ha cy H.size σ (xs (x3 + 1).toNatClampNeg) _ (h_sized σ τ hI (xs (x3 + 1).toNatClampNeg))) 0 5 rfl rfl rfl rfl hl.1 (Nat.le_of_ble_eq_true rfl) dL_law_597 rfl (fun r1 σ1 H locs hw hh => ?_)
      refine lv_aload_n hx hb dL_law_600 rfl (lv_at hl 2 rfl) ?_
      refine lv_aload_n hx hb dL_law_601 rfl (lv_at hl 0 rfl) ?_
      refine lv_iload_n hx hb dL_law_602 rfl (lv_at hl 3 rfl) ?_
      refine lv_iconst (v := 1) hx hb dL_law_603 (by decide) ?_
      refine lv_iadd hx hb dL_law_604 ?_
      refine va_sld hx hb hX hbl hbA hh.2.2.2.2.2 i1 dL_law_605 ?_
      refine lw_calli (rest := [.int r1]) F hKM hA hh.sym ⟨Nat.le_of_ble_eq_true rfl, Nat.le_of_ble_eq_true rfl⟩ (cw_L_83 hts ⟨Nat.le_of_ble_eq_true rfl, Nat.le_of_ble_eq_true rfl⟩) (c_X6_sized l D hb2 cz H.size τ (xs (x3 + 1).toNatClampNeg) _ hw) 0 6 rfl rfl rfl rfl hl.1 (Nat.le_of_ble_eq_true rfl) dL_law_606 rfl (fun r2 τ1 H locs hw hh => ?_)
      have hh := hh.sym
      refine lv_icmp_eq (tgt := 728) hx hb dL_law_609 (by decide) (fun _ => go σ1 τ1 hw.2 _ _ hh) (fun c3 => absurd hw.1 c3)
    by_cases k16 : w = 16
    · refine lv_tableIn (tgt := 614) hx hb dL_law_32 (by rw [k16]; decide) (by rw [k16]; decide) (by rw [k16]; rfl) (by decide) ?_
      refine lv_aload_n hx hb dL_law_614 rfl (lv_at hl 1 rfl) ?_
      refine lw_calli (rest := []) F hKC hA hh ⟨Nat.le_of_ble_eq_true rfl, Nat.le_of_ble_eq_true rfl⟩ (cw_L_84 hts ⟨Nat.le_of_ble_eq_true rfl, Nat.le_of_ble_eq_true rfl⟩) (c_X5_prove l D ha cy H.size σ _ (h_prove σ τ hI)) 0 5 rfl rfl rfl rfl hl.1 (Nat.le_of_ble_eq_true rfl) dL_law_615 rfl (fun r1 σ1 H locs hw hh => ?_)
      refine lv_aload_n hx hb dL_law_618 rfl (lv_at hl 2 rfl) ?_
      refine lw_calli (rest := [.int r1]) F hKM hA hh.sym ⟨Nat.le_of_ble_eq_true rfl, Nat.le_of_ble_eq_true rfl⟩ (cw_L_87 hts ⟨Nat.le_of_ble_eq_true rfl, Nat.le_of_ble_eq_true rfl⟩) (c_X6_prove l D hb2 cz H.size τ _ hw) 0 6 rfl rfl rfl rfl hl.1 (Nat.le_of_ble_eq_true rfl) dL_law_619 rfl (fun r2 τ1 H locs hw hh => ?_)
      have hh := hh.sym
      refine lv_icmp_eq (tgt := 728) hx hb dL_law_622 (by decide) (fun _ => go σ1 τ1 hw.2 _ _ hh) (fun c3 => absurd hw.1 c3)
    by_cases k17 : w = 17
    · refine lv_tableIn (tgt := 627) hx hb dL_law_32 (by rw [k17]; decide) (by rw [k17]; decide) (by rw [k17]; rfl) (by decide) ?_
      refine lv_aload_n hx hb dL_law_627 rfl (lv_at hl 1 rfl) ?_
      refine lv_aload_n hx hb dL_law_628 rfl (lv_at hl 0 rfl) ?_
      refine lv_iload_n hx hb dL_law_629 rfl (lv_at hl 3 rfl) ?_
      refine lv_iconst (v := 1) hx hb dL_law_630 (by decide) ?_
      refine lv_iadd hx hb dL_law_631 ?_
      refine va_sld hx hb hX hbl hbA hh.2.2.2.2.2 i1 dL_law_632 ?_
      refine lv_aload_n hx hb dL_law_633 rfl (lv_at hl 0 rfl) ?_
      refine lv_iload_n hx hb dL_law_634 rfl (lv_at hl 3 rfl) ?_
      refine lv_iconst (v := 2) hx hb dL_law_635 (by decide) ?_
      refine lv_iadd hx hb dL_law_636 ?_
      refine va_sld hx hb hX hbl hbA hh.2.2.2.2.2 i2 dL_law_637 ?_
      refine lv_aload_n hx hb dL_law_638 rfl (lv_at hl 0 rfl) ?_
      refine lv_iload_n hx hb dL_law_639 rfl (lv_at hl 3 rfl) ?_
      refine lv_iconst (v := 3) hx hb dL_law_640 (by decide) ?_
      refine lv_iadd hx hb dL_law_641 ?_
      refine va_sld hx hb hX hbl hbA hh.2.2.2.2.2 i3 dL_law_642 ?_
      refine lw_calll (rest := []) F hKC hA hh ⟨Nat.le_of_ble_eq_true rfl, Nat.le_of_ble_eq_true rfl⟩ (cw_L_88 hts ⟨Nat.le_of_ble_eq_true rfl, Nat.le_of_ble_eq_true rfl⟩) (c_X5_field l D ha cy H.size σ (xs (x3 + 1).toNatClampNeg) (xs (x3 + 2).toNatClampNeg) (xs (x3 + 3).toNatClampNeg) _ (h_field σ τ hI (xs (x3 + 1).toNatClampNeg) (xs (x3 + 2).toNatClampNeg) (xs (x3 + 3).toNatClampNeg))) 0 5 rfl rfl rfl rfl hl.1 (Nat.le_of_ble_eq_true rfl) dL_law_643 rfl (fun r1 σ1 H locs hw hh => ?_)
      refine lv_aload_n hx hb dL_law_646 rfl (lv_at hl 2 rfl) ?_
      refine lv_aload_n hx hb dL_law_647 rfl (lv_at hl 0 rfl) ?_
      refine lv_iload_n hx hb dL_law_648 rfl (lv_at hl 3 rfl) ?_
      refine lv_iconst (v := 1) hx hb dL_law_649 (by decide) ?_
      refine lv_iadd hx hb dL_law_650 ?_
      refine va_sld hx hb hX hbl hbA hh.2.2.2.2.2 i1 dL_law_651 ?_
      refine lv_aload_n hx hb dL_law_652 rfl (lv_at hl 0 rfl) ?_
      refine lv_iload_n hx hb dL_law_653 rfl (lv_at hl 3 rfl) ?_
      refine lv_iconst (v := 2) hx hb dL_law_654 (by decide) ?_
      refine lv_iadd hx hb dL_law_655 ?_
      refine va_sld hx hb hX hbl hbA hh.2.2.2.2.2 i2 dL_law_656 ?_
      refine lv_aload_n hx hb dL_law_657 rfl (lv_at hl 0 rfl) ?_
      refine lv_iload_n hx hb dL_law_658 rfl (lv_at hl 3 rfl) ?_
      refine lv_iconst (v := 3) hx hb dL_law_659 (by decide) ?_
      refine lv_iadd hx hb dL_law_660 ?_
      refine va_sld hx hb hX hbl hbA hh.2.2.2.2.2 i3 dL_law_661 ?_
      refine lw_calll (rest := [.long r1]) F hKM hA hh.sym ⟨Nat.le_of_ble_eq_true rfl, Nat.le_of_ble_eq_true rfl⟩ (cw_L_91 hts ⟨Nat.le_of_ble_eq_true rfl, Nat.le_of_ble_eq_true rfl⟩) (c_X6_field l D hb2 cz H.size τ (xs (x3 + 1).toNatClampNeg) (xs (x3 + 2).toNatClampNeg) (xs (x3 + 3).toNatClampNeg) _ hw) 0 6 rfl rfl rfl rfl hl.1 (Nat.le_of_ble_eq_true rfl) dL_law_662 rfl (fun r2 τ1 H locs hw hh => ?_)
      have hh := hh.sym
      refine W.lcmp hx hb dL_law_665 ?_
      refine lv_if_eq (tgt := 728) hx hb dL_law_666 (by decide) (fun _ => go σ1 τ1 hw.2 _ _ hh) (fun c3 => absurd ((lg_cmp_eq r1 r2).mpr hw.1) c3)
    by_cases k18 : w = 18
    · refine lv_tableIn (tgt := 671) hx hb dL_law_32 (by rw [k18]; decide) (by rw [k18]; decide) (by rw [k18]; rfl) (by decide) ?_
      refine lv_aload_n hx hb dL_law_671 rfl (lv_at hl 1 rfl) ?_
      refine lv_aload_n hx hb dL_law_672 rfl (lv_at hl 0 rfl) ?_
      refine lv_iload_n hx hb dL_law_673 rfl (lv_at hl 3 rfl) ?_
      refine lv_iconst (v := 1) hx hb dL_law_674 (by decide) ?_
      refine lv_iadd hx hb dL_law_675 ?_
      refine va_sld hx hb hX hbl hbA hh.2.2.2.2.2 i1 dL_law_676 ?_
      refine lv_aload_n hx hb dL_law_677 rfl (lv_at hl 0 rfl) ?_
      refine lv_iload_n hx hb dL_law_678 rfl (lv_at hl 3 rfl) ?_
      refine lv_iconst (v := 2) hx hb dL_law_679 (by decide) ?_
      refine lv_iadd hx hb dL_law_680 ?_
      refine va_sld hx hb hX hbl hbA hh.2.2.2.2.2 i2 dL_law_681 ?_
      refine lw_calll (rest := []) F hKC hA hh ⟨Nat.le_of_ble_eq_true rfl, Nat.le_of_ble_eq_true rfl⟩ (cw_L_92 hts ⟨Nat.le_of_ble_eq_true rfl, Nat.le_of_ble_eq_true rfl⟩) (c_X5_slack l D ha cy H.size σ (xs (x3 + 1).toNatClampNeg) (xs (x3 + 2).toNatClampNeg) _ (h_slack σ τ hI (xs (x3 + 1).toNatClampNeg) (xs (x3 + 2).toNatClampNeg))) 0 5 rfl rfl rfl rfl hl.1 (Nat.le_of_ble_eq_true rfl) dL_law_682 rfl (fun r1 σ1 H locs hw hh => ?_)
      refine lv_aload_n hx hb dL_law_685 rfl (lv_at hl 2 rfl) ?_
      refine lv_aload_n hx hb dL_law_686 rfl (lv_at hl 0 rfl) ?_
      refine lv_iload_n hx hb dL_law_687 rfl (lv_at hl 3 rfl) ?_
      refine lv_iconst (v := 1) hx hb dL_law_688 (by decide) ?_
      refine lv_iadd hx hb dL_law_689 ?_
      refine va_sld hx hb hX hbl hbA hh.2.2.2.2.2 i1 dL_law_690 ?_
      refine lv_aload_n hx hb dL_law_691 rfl (lv_at hl 0 rfl) ?_
      refine lv_iload_n hx hb dL_law_692 rfl (lv_at hl 3 rfl) ?_
      refine lv_iconst (v := 2) hx hb dL_law_693 (by decide) ?_
      refine lv_iadd hx hb dL_law_694 ?_
      refine va_sld hx hb hX hbl hbA hh.2.2.2.2.2 i2 dL_law_695 ?_
      refine lw_calll (rest := [.long r1]) F hKM hA hh.sym ⟨Nat.le_of_ble_eq_true rfl, Nat.le_of_ble_eq_true rfl⟩ (cw_L_95 hts ⟨Nat.le_of_ble_eq_true rfl, Nat.le_of_ble_eq_true rfl⟩) (c_X6_slack l D hb2 cz H.size τ (xs (x3 + 1).toNatClampNeg) (xs (x3 + 2).toNatClampNeg) _ hw) 0 6 rfl rfl rfl rfl hl.1 (Nat.le_of_ble_eq_true rfl) dL_law_696 rfl (fun r2 τ1 H locs hw hh => ?_)
      have hh := hh.sym
      refine W.lcmp hx hb dL_law_699 ?_
      refine lv_if_eq (tgt := 728) hx hb dL_law_700 (by decide) (fun _ => go σ1 τ1 hw.2 _ _ hh) (fun c3 => absurd ((lg_cmp_eq r1 r2).mpr hw.1) c3)
    by_cases k19 : w = 19
    · refine lv_tableIn (tgt := 705) hx hb dL_law_32 (by rw [k19]; decide) (by rw [k19]; decide) (by rw [k19]; rfl) (by decide) ?_
      refine lv_aload_n hx hb dL_law_705 rfl (lv_at hl 1 rfl) ?_
      refine lv_aload_n hx hb dL_law_706 rfl (lv_at hl 0 rfl) ?_
      refine lv_iload_n hx hb dL_law_707 rfl (lv_at hl 3 rfl) ?_
      refine lv_iconst (v := 1) hx hb dL_law_708 (by decide) ?_
      refine lv_iadd hx hb dL_law_709 ?_
      refine va_sld hx hb hX hbl hbA hh.2.2.2.2.2 i1 dL_law_710 ?_
      refine lw_calli (rest := []) F hKC hA hh ⟨Nat.le_of_ble_eq_true rfl, Nat.le_of_ble_eq_true rfl⟩ (cw_L_96 hts ⟨Nat.le_of_ble_eq_true rfl, Nat.le_of_ble_eq_true rfl⟩) (c_X5_told l D ha cy H.size σ (xs (x3 + 1).toNatClampNeg) _ (h_told σ τ hI (xs (x3 + 1).toNatClampNeg))) 0 5 rfl rfl rfl rfl hl.1 (Nat.le_of_ble_eq_true rfl) dL_law_711 rfl (fun r1 σ1 H locs hw hh => ?_)
      refine lv_aload_n hx hb dL_law_714 rfl (lv_at hl 2 rfl) ?_
      refine lv_aload_n hx hb dL_law_715 rfl (lv_at hl 0 rfl) ?_
      refine lv_iload_n hx hb dL_law_716 rfl (lv_at hl 3 rfl) ?_
      refine lv_iconst (v := 1) hx hb dL_law_717 (by decide) ?_
      refine lv_iadd hx hb dL_law_718 ?_
      refine va_sld hx hb hX hbl hbA hh.2.2.2.2.2 i1 dL_law_719 ?_
      refine lw_calli (rest := [.int r1]) F hKM hA hh.sym ⟨Nat.le_of_ble_eq_true rfl, Nat.le_of_ble_eq_true rfl⟩ (cw_L_99 hts ⟨Nat.le_of_ble_eq_true rfl, Nat.le_of_ble_eq_true rfl⟩) (c_X6_told l D hb2 cz H.size τ (xs (x3 + 1).toNatClampNeg) _ hw) 0 6 rfl rfl rfl rfl hl.1 (Nat.le_of_ble_eq_true rfl) dL_law_720 rfl (fun r2 τ1 H locs hw hh => ?_)
      have hh := hh.sym
      refine lv_icmp_eq (tgt := 728) hx hb dL_law_723 (by decide) (fun _ => go σ1 τ1 hw.2 _ _ hh) (fun c3 => absurd hw.1 c3)
    refine lv_tableOut (tgt := 728) hx hb dL_law_32 (lf_sw_0_19 k0 k1 k2 k3 k4 k5 k6 k7 k8 k9 k10 k11 k12 k13 k14 k15 k16 k17 k18 k19) (by decide) ?_
    exact go σ τ hI H locs hh
set_option maxHeartbeats 8000000 in
set_option maxRecDepth 100000 in
theorem law_start {p : Program} {e : Env} {s : State} {m : MethodId} {below : List Frame} {meth : Method} {c : Code} (l : Launch) {b L : Nat} {xs : Nat → Int32} (Inv : lf_St → lf_St → Prop) (hI0 : Inv lf_C0 lf_M0) (h_joint : lo_joint Inv) (h_bar : lo_bar Inv) (h_load : lo_load Inv) (h_about : lo_about Inv) (h_ofBar : lo_ofBar Inv) (h_size : lo_size Inv) (h_price : lo_price Inv) (h_drop : lo_drop Inv) (h_cross : lo_cross Inv) (h_stiff : lo_stiff Inv) (h_choices : lo_choices Inv) (h_frame : lo_frame Inv) (h_cost : lo_cost Inv) (h_pull : lo_pull Inv) (h_used : lo_used Inv) (h_sized : lo_sized Inv) (h_prove : lo_prove Inv) (h_field : lo_field Inv) (h_slack : lo_slack Inv) (h_told : lo_told Inv) (hL : L ≤ 2048) (C0 : lw_At p s m meth c b L xs) : W p l e room_1 s m #[Value.ref b] below meth c s.heap [] 0 0 (lw_Z below #[Value.ref b] s) (entryFrame m ([Value.ref b] : List Value).toArray 4) := by
  obtain ⟨hx, hb, hr, hml, hown, hts0, hX, hbl, hlocks, hgv⟩ := id C0
  have hb : c.code = cL_law := hb
  have hts : ∀ w ∈ wsL_law, w.before #[Value.ref b] s = true := fun w h => hts0 w (wsL_law_in w h)
  have hA : ∀ q : Nat, s.heap.size ≤ q → (fun q : Nat => s.heap.size ≤ q) q := fun _ h => h
  have hbA : ¬ (fun q : Nat => s.heap.size ≤ q) b := Nat.not_le.mpr hbl
  have hE : lf_E s := ⟨va_AO.of (hts0 (.arrayOver (.object "LightFrame$Frame")) (by decide +kernel)), lf_aov (hts0 (.arrayOver (.array .long)) (by decide +kernel)), va_Nw.of rfl (hts0 (.methodLinkNest RX5 11 yX2_init "LightFrame") (by decide +kernel)), va_Nw.of rfl (hts0 (.methodLinkNest RX4 11 yX0_init "LightFrame") (by decide +kernel))⟩
  obtain ⟨c0, iS0, hKn0⟩ := u_known (C := RX0) (T := TX0) (N := 7) (n := 7) hts inlX0 (hts _ (lr_2 _ (List.mem_of_getElem? (i := 20) rfl)))
  obtain ⟨c1, iS1, hKn1⟩ := u_known (C := RX1) (T := TX1) (N := 5) (n := 5) hts inlX1 (hts _ (lr_3 _ (List.mem_of_getElem? (i := 3) rfl)))
  obtain ⟨c2, iS2, hKn2⟩ := u_known (C := RX2) (T := TX2) (N := 16) (n := 16) hts inlX2 (hts _ (lr_1 _ (List.mem_of_getElem? (i := 13) rfl)))
  obtain ⟨c3, iS3, hKn3⟩ := u_known (C := RX3) (T := TX3) (N := 7) (n := 7) hts inlX3 (hts _ (lr_1 _ (List.mem_of_getElem? (i := 21) rfl)))
  obtain ⟨c4, iS4, hKn4⟩ := u_known (C := RX4) (T := TX4) (N := 7) (n := 7) hts inlX4 (hts _ (lr_1 _ (List.mem_of_getElem? (i := 17) rfl)))
  obtain ⟨c5, iS5, hKn5⟩ := u_known (C := RX5) (T := TX5) (N := 3) (n := 3) hts inlX5 (hts _ (lr_1 _ (List.mem_of_getElem? (i := 1) rfl)))
  obtain ⟨c6, iS6, hKn6⟩ := u_known (C := RX6) (T := TX6) (N := 26) (n := 26) hts inlX6 (hts _ (lr_1 _ (List.mem_of_getElem? (i := 4) rfl)))
  obtain ⟨dC, dI, hKc⟩ : ∃ (dC : Nat → ClassId) (dI : Nat → Nat → Nat), ∀ (k : Nat) (q : vw_C), vwCl[k]? = some q → u_Kn s q.1 q.2.1 q.2.2 (dC k) (dI k) := by
    refine ⟨fun k => if k = 0 then c0 else if k = 1 then c1 else if k = 2 then c2 else if k = 3 then c3 else if k = 4 then c4 else if k = 5 then c5 else c6, fun k => if k = 0 then iS0 else if k = 1 then iS1 else if k = 2 then iS2 else if k = 3 then iS3 else if k = 4 then iS4 else if k = 5 then iS5 else iS6, ?_⟩
    intro k q hq
    match k, hq with
    | 0, hq => cases hq; exact hKn0
    | 1, hq => cases hq; exact hKn1
    | 2, hq => cases hq; exact hKn2
    | 3, hq => cases hq; exact hKn3
    | 4, hq => cases hq; exact hKn4
    | 5, hq => cases hq; exact hKn5
    | 6, hq => cases hq; exact hKn6
    | k + 7, hq => simp [vwCl] at hq
  obtain ⟨D, hDe⟩ : ∃ D : va_G, D = (dC, dI) := ⟨_, rfl⟩
  have hS : va_S (fun q : Nat => s.heap.size ≤ q) s.heap s.heap [] := va_S.rf
  have hK : va_K D vwCl [] s := by subst hDe; exact ⟨hKc, fun k q h => by simp at h⟩
  have hP : va_P D vwCl [] s.heap := fun k q h => by simp at h
  have hD : va_D (fun q : Nat => s.heap.size ≤ q) [] := ⟨fun i j p q h => by simp at h, fun k q h => by simp at h⟩
  have hl := lv_entry ([.ref b]) (n := 4) (Nat.le_of_ble_eq_true rfl)
  rw [lg_entry_eq]
  generalize (lg_sl ([.ref b]) ++ List.replicate (4 - (lg_sl ([.ref b])).length) Slot.unset).toArray = ls at hl ⊢
  have hl : lv_has ls 4 [(0, .ref b)] := hl
  refine va_new (ci := 5) (fs := [.null, .null, .null]) (C := RX5) (T := TX5) (N := 3) hx hb hts inlX5 tyX5 tyX5_ok hown (hts _ (lr_1 _ (List.mem_of_getElem? (i := 0) rfl))) (hts _ (lr_1 _ (List.mem_of_getElem? (i := 1) rfl))) (hts _ (lr_1 _ (List.mem_of_getElem? (i := 2) rfl))) hK hP hD hS hA rfl (fun j hj => by rcases (show j = 0 ∨ j = 1 ∨ j = 2 by omega) with rfl | rfl | rfl <;> rfl) (Nat.le_of_ble_eq_true rfl) (Nat.le_of_ble_eq_true rfl) dL_law_0 (fun q5 H hP hD hS => ?_)
  have hPc : va_P D vwCl [(q5, .inr (5, [.null, .null, .null]))] H := hP
  have hDc : va_D (fun q : Nat => s.heap.size ≤ q) [(q5, .inr (5, [.null, .null, .null]))] := hD
  have hFc := va_free (wc := [(q5, .inr (5, [.null, .null, .null]))]) hDc hS hA [0] rfl
  refine W.widen (k := 1) (n := 3) (Nat.le_of_ble_eq_true rfl) (Nat.le_of_ble_eq_true rfl) ?_
  refine lv_dup hx hb dL_law_3 rfl ?_
  refine va_callv (va_runI (As := []) (rest := [.ref q5]) ⟨hx, hb, hml, hown, hts⟩ (k_X5 l D q5 H.size) ⟨callB_of 0 hts (lf_goodIn (lr_1 _ (List.mem_of_getElem? (i := 8) rfl))) rfl rfl rfl (hts _ (lr_1 _ (List.mem_of_getElem? (i := 2) rfl))) (hts _ (lr_1 _ (List.mem_of_getElem? (i := 6) rfl))) (by decide +kernel) ⟨Nat.le_of_ble_eq_true rfl, Nat.le_of_ble_eq_true rfl⟩, rfl, (hts _ (lr_1 _ (List.mem_of_getElem? (i := 7) rfl)))⟩ ⟨lf_iblind, fun U hU hW => ⟨rfl, by rw [hU], by rw [hU]; exact hPc, ⟨va_K.moved hW.alike hK, lf_E_moved hW hE⟩, hDc.weaken (fun _ _ _ _ => trivial)⟩⟩ rfl rfl hl.1 rfl (lv_room (Nat.le_of_ble_eq_true rfl)) dL_law_4 ⟨Nat.le_of_ble_eq_true rfl, Nat.le_of_ble_eq_true rfl⟩) hS (fun q _ h => hFc q h) hFc (fun u t H1 locs ht hvm hw hB hz1 hk1 hS => ?_)
  obtain ⟨f5, g5⟩ := u
  obtain ⟨hP1, hK1, hD1⟩ := hB
  rw [ht] at hP1
  have hK1 := va_K.moved hvm.symm hK1
  obtain ⟨ha, cy, hha, hPC, hDC, hKC⟩ := lw_iC hP1 hD1 hK1
  have hq5 : ha 0 = q5 := hha.trans hw
  rw [← hq5]
  have hDC : va_D (fun q : Nat => s.heap.size ≤ q) (wC_ ha cy lf_C0) := hDC.weaken (fun _ _ _ h => hFc _ h)
  clear hPc hDc hFc hk1 hP hD
  generalize H1 = H at hPC hS ⊢
  refine lv_astore_n (lv' := [(1, .ref (ha 0)), (0, .ref b)]) hx hb dL_law_7 rfl hl (by decide) rfl (fun ls hl => ?_)
  have hP := hPC
  have hD := hDC
  refine va_new (ci := 6) (fs := [.int 0, .null, .null, .null, .null, .null, .int 0, .null, .null, .int 0, .null, .int 0, .int 0, .null, .int 0, .null, .null, .null, .int 0, .null, .long 0, .null, .long 0, .long 0, .null, .long 0]) (C := RX6) (T := TX6) (N := 26) hx hb hts inlX6 tyX6 tyX6_ok hown (hts _ (lr_1 _ (List.mem_of_getElem? (i := 3) rfl))) (hts _ (lr_1 _ (List.mem_of_getElem? (i := 4) rfl))) (hts _ (lr_1 _ (List.mem_of_getElem? (i := 5) rfl))) hK hP hD hS hA rfl (fun j hj => by rcases (show j = 0 ∨ j = 1 ∨ j = 2 ∨ j = 3 ∨ j = 4 ∨ j = 5 ∨ j = 6 ∨ j = 7 ∨ j = 8 ∨ j = 9 ∨ j = 10 ∨ j = 11 ∨ j = 12 ∨ j = 13 ∨ j = 14 ∨ j = 15 ∨ j = 16 ∨ j = 17 ∨ j = 18 ∨ j = 19 ∨ j = 20 ∨ j = 21 ∨ j = 22 ∨ j = 23 ∨ j = 24 ∨ j = 25 by omega) with rfl | rfl | rfl | rfl | rfl | rfl | rfl | rfl | rfl | rfl | rfl | rfl | rfl | rfl | rfl | rfl | rfl | rfl | rfl | rfl | rfl | rfl | rfl | rfl | rfl | rfl <;> rfl) (Nat.le_of_ble_eq_true rfl) (Nat.le_of_ble_eq_true rfl) dL_law_8 (fun q6 H hP hD hS => ?_)
  have hPc : va_P D vwCl [(q6, .inr (6, [.int 0, .null, .null, .null, .null, .null, .int 0, .null, .null, .int 0, .null, .int 0, .int 0, .null, .int 0, .null, .null, .null, .int 0, .null, .long 0, .null, .long 0, .long 0, .null, .long 0]))] H := hP.sub [38] rfl
  have hDc : va_D (fun q : Nat => s.heap.size ≤ q) [(q6, .inr (6, [.int 0, .null, .null, .null, .null, .null, .int 0, .null, .null, .int 0, .null, .int 0, .int 0, .null, .int 0, .null, .null, .null, .int 0, .null, .long 0, .null, .long 0, .long 0, .null, .long 0]))] := hD.sub [38] (by decide) rfl
  have hPr : va_P D vwCl (wC_ ha cy lf_C0) H := hP.sub (List.range 38) rfl
  have hDr : va_D (fun q : Nat => s.heap.size ≤ q) (wC_ ha cy lf_C0) := hD.sub (List.range 38) (by decide) rfl
  have hap : ∀ (i j : Nat) (p q : Nat × va_E), [(q6, .inr (6, [.int 0, .null, .null, .null, .null, .null, .int 0, .null, .null, .int 0, .null, .int 0, .int 0, .null, .int 0, .null, .null, .null, .int 0, .null, .long 0, .null, .long 0, .long 0, .null, .long 0]))][i]? = some p → (wC_ ha cy lf_C0)[j]? = some q → p.1 ≠ q.1 := by
    intro i j p q h1 h2 h3
    have hi : i < 1 := (List.getElem?_eq_some_iff.mp h1).1
    have hj : j < 38 := (List.getElem?_eq_some_iff.mp h2).1
    rw [show i = 0 by omega] at h1
    have g1 : (wC_ ha cy lf_C0 ++ [(q6, .inr (6, [.int 0, .null, .null, .null, .null, .null, .int 0, .null, .null, .int 0, .null, .int 0, .int 0, .null, .int 0, .null, .null, .null, .int 0, .null, .long 0, .null, .long 0, .long 0, .null, .long 0]))])[38]? = some p := h1
    have g2 : (wC_ ha cy lf_C0 ++ [(q6, .inr (6, [.int 0, .null, .null, .null, .null, .null, .int 0, .null, .null, .int 0, .null, .int 0, .int 0, .null, .int 0, .null, .null, .null, .int 0, .null, .long 0, .null, .long 0, .long 0, .null, .long 0]))])[j]? = some q := by rw [List.getElem?_append_left hj]; exact h2
    have := hD.1 38 j p q g1 g2 h3
    omega
  have hFc := va_free (wc := [(q6, .inr (6, [.int 0, .null, .null, .null, .null, .null, .int 0, .null, .null, .int 0, .null, .int 0, .int 0, .null, .int 0, .null, .null, .null, .int 0, .null, .long 0, .null, .long 0, .long 0, .null, .long 0]))]) hDc hS hA [0] rfl
  have hh : lw_H D [(q6, .inr (6, [.int 0, .null, .null, .null, .null, .null, .int 0, .null, .null, .int 0, .null, .int 0, .int 0, .null, .int 0, .null, .null, .null, .int 0, .null, .long 0, .null, .long 0, .long 0, .null, .long 0]))] (wC_ ha cy lf_C0) (fun q : Nat => s.heap.size ≤ q) s H _ := ⟨hPc, hPr, hDc, hDr, hap, hS⟩
  refine W.widen (k := 39) (n := 548) (Nat.le_of_ble_eq_true rfl) (Nat.le_of_ble_eq_true rfl) ?_
  refine lv_dup hx hb dL_law_11 rfl ?_
  refine va_callv (va_runI (As := []) (rest := [.ref q6]) ⟨hx, hb, hml, hown, hts⟩ (k_X6 l D q6 H.size) ⟨callB_of 0 hts (lf_goodIn (lr_4 _ (List.mem_of_getElem? (i := 8) rfl))) rfl rfl rfl (hts _ (lr_1 _ (List.mem_of_getElem? (i := 5) rfl))) (hts _ (lr_4 _ (List.mem_of_getElem? (i := 6) rfl))) (by decide +kernel) ⟨Nat.le_of_ble_eq_true rfl, Nat.le_of_ble_eq_true rfl⟩, rfl, (hts _ (lr_4 _ (List.mem_of_getElem? (i := 7) rfl)))⟩ ⟨lf_iblind, fun U hU hW => ⟨rfl, by rw [hU], by rw [hU]; exact hPc, ⟨va_K.moved hW.alike hK, lf_E_moved hW hE⟩, hDc.weaken (fun _ _ _ _ => trivial)⟩⟩ rfl rfl hl.1 rfl (lv_room (Nat.le_of_ble_eq_true rfl)) dL_law_12 ⟨Nat.le_of_ble_eq_true rfl, Nat.le_of_ble_eq_true rfl⟩) hS (fun q _ h => hFc q h) hFc (fun u t H1 locs ht hvm hw hB hz1 hk1 hS => ?_)
  obtain ⟨f6, g6⟩ := u
  obtain ⟨hP1, hK1, hD1⟩ := hB
  rw [ht] at hP1
  have hK1 := va_K.moved hvm.symm hK1
  obtain ⟨hb2, cz, hhb, hPM, hDM, hKM⟩ := lw_iM hP1 hD1 hK1
  have hq6 : hb2 0 = q6 := hhb.trans hw
  have hh := (lw_join hA hh hk1 hPM hDM hS).sym
  rw [← hq6]
  generalize H1 = H at hh ⊢
  refine W.widen (k := 54) (n := 705) (Nat.le_of_ble_eq_true rfl) (Nat.le_of_ble_eq_true rfl) ?_
  refine lv_astore_n (lv' := [(2, .ref (hb2 0)), (1, .ref (ha 0)), (0, .ref b)]) hx hb dL_law_15 rfl hl (by decide) rfl (fun ls hl => ?_)
  refine lv_iconst (v := 0) hx hb dL_law_16 (by decide) ?_
  refine lv_istore_n (lv' := [(3, .int 0), (2, .ref (hb2 0)), (1, .ref (ha 0)), (0, .ref b)]) hx hb dL_law_17 rfl hl (by decide) rfl (fun ls hl => ?_)
  exact law_loop Inv h_joint h_bar h_load h_about h_ofBar h_size h_price h_drop h_cross h_stiff h_choices h_frame h_cost h_pull h_used h_sized h_prove h_field h_slack h_told hL C0 hKC hKM (L + 1) 0 0 (by omega) (by omega) nI_0.symm lf_C0 lf_M0 hI0 _ _ hh ls (lv_sub hl [3, 2, 1, 0] rfl)
