/-! STATE: int fields, long fields, int arrays, long arrays, by numbers -/
abbrev lf_St : Type := (Nat → Int32) × (Nat → Int64) × (Nat → Nat → Int32) × (Nat → Nat → Int64)
def lf_gi (σ : lf_St) (k : Nat) : Int32 := σ.1 k
def lf_gl (σ : lf_St) (k : Nat) : Int64 := σ.2.1 k
def lf_ai (σ : lf_St) (k : Nat) : Nat → Int32 := σ.2.2.1 k
def lf_al (σ : lf_St) (k : Nat) : Nat → Int64 := σ.2.2.2 k
def lf_si (σ : lf_St) (k : Nat) (v : Int32) : lf_St := (va_up σ.1 k v, σ.2)
def lf_sl (σ : lf_St) (k : Nat) (v : Int64) : lf_St := (σ.1, va_up σ.2.1 k v, σ.2.2)
def lf_sa (σ : lf_St) (k j : Nat) (v : Int32) : lf_St := (σ.1, σ.2.1, va_up σ.2.2.1 k (upd (σ.2.2.1 k) j v), σ.2.2.2)
def lf_sb (σ : lf_St) (k j : Nat) (v : Int64) : lf_St := (σ.1, σ.2.1, σ.2.2.1, va_up σ.2.2.2 k (vp_updL (σ.2.2.2 k) j v))
def lf_sB (σ : lf_St) (k : Nat) (f : Nat → Int64) : lf_St := (σ.1, σ.2.1, σ.2.2.1, va_up σ.2.2.2 k f)
/-- a method's frame stands: the machine, its code, the law's words, its classes -/
def lf_C (p : Program) (s : State) (m : MethodId) (args : Array Value) (meth : Method) (c : Code) (own : String) (cc : ByteArray) (nL : Nat) (ret : Option FieldType) (D : va_G) (tys : List (ClassId × FieldType)) (A : Nat → Prop) : Prop :=
  CallFix p m c cc nL s args wsL_law own ∧ meth.sig.returnType = ret ∧ meth.locks = false ∧ (∀ q, s.heap.size ≤ q → A q) ∧ va_K D vwCl tys s
/-- the heap holds the state σ -/
def lf_H (D : va_G) (wf : lf_St → va_W) (A : Nat → Prop) (s : State) (σ : lf_St) (H : Heap) (locs : List Loc) : Prop :=
  va_P D vwCl (wf σ) H ∧ va_D A (wf σ) ∧ va_S A s.heap H locs
def lf_B (D : va_G) (tys : List (ClassId × FieldType)) (A : Nat → Prop) (wf : lf_St → va_W) (u : lf_St) (t : State) : Prop :=
  va_P D vwCl (wf u) t.heap ∧ va_K D vwCl tys t ∧ va_D A (wf u)
def lf_P (D : va_G) (tys : List (ClassId × FieldType)) (wf : lf_St → va_W) (sz : Nat) (σ : lf_St) (avs : List Value) : Array Value → State → Prop :=
  va_Pc avs (fun U => U.heap.size = sz ∧ va_P D vwCl (wf σ) U.heap ∧ va_K D vwCl tys U ∧ va_D (fun _ => True) (wf σ))
theorem lf_P_blind (D : va_G) (tys : List (ClassId × FieldType)) (wf : lf_St → va_W) (sz : Nat) (σ : lf_St) (avs : List Value) : FrameBlind (lf_P D tys wf sz σ avs) := fun a U g mk q => by
  obtain ⟨q0, q1, qP, qK, qD⟩ := q
  exact ⟨q0, q1, qP, va_K.moved (u := U) (U := U.calling g mk a) (Vm.Alike.refl U.vm) qK, qD⟩
/-- contracts: an int, a long, nothing comes back -/
def lf_Mi (l : Launch) (y : MethodName) (ws : List Cond) (rm : Room) (D : va_G) (tys : List (ClassId × FieldType)) (wf : lf_St → va_W) (sz : Nat) (σ : lf_St) (avs : List Value) (Post : Int32 → lf_St → Prop) : Prop :=
  Met l y ws rm (lf_P D tys wf sz σ avs) (va_Qi Post (lf_B D tys (va_A (wf σ) sz) wf) (va_A (wf σ) sz)) 0 0 (va_A (wf σ) sz)
def lf_Ml (l : Launch) (y : MethodName) (ws : List Cond) (rm : Room) (D : va_G) (tys : List (ClassId × FieldType)) (wf : lf_St → va_W) (sz : Nat) (σ : lf_St) (avs : List Value) (Post : Int64 → lf_St → Prop) : Prop :=
  Met l y ws rm (lf_P D tys wf sz σ avs) (va_Ql Post (lf_B D tys (va_A (wf σ) sz) wf) (va_A (wf σ) sz)) 0 0 (va_A (wf σ) sz)
def lf_Mv (l : Launch) (y : MethodName) (ws : List Cond) (rm : Room) (D : va_G) (tys : List (ClassId × FieldType)) (wf : lf_St → va_W) (sz : Nat) (σ : lf_St) (avs : List Value) (Post : lf_St → Prop) : Prop :=
  Met l y ws rm (lf_P D tys wf sz σ avs) (va_Qv Post (lf_B D tys (va_A (wf σ) sz) wf) (va_A (wf σ) sz)) 0 0 (va_A (wf σ) sz)
/-- a reference comes back: the address that the state tells -/
def lf_Mr (l : Launch) (y : MethodName) (ws : List Cond) (rm : Room) (D : va_G) (tys : List (ClassId × FieldType)) (wf : lf_St → va_W) (sz : Nat) (σ : lf_St) (avs : List Value) (ra : Nat) (Post : lf_St → Prop) : Prop :=
  Met l y ws rm (lf_P D tys wf sz σ avs) (va_Qr Post (fun u a t => a = ra ∧ lf_B D tys (va_A (wf σ) sz) wf u t) (va_A (wf σ) sz)) 0 0 (va_A (wf σ) sz)
abbrev lf_Qi (below : List Frame) (args : Array Value) (s : State) (D : va_G) (tys : List (ClassId × FieldType)) (A : Nat → Prop) (wf : lf_St → va_W) (Post : Int32 → lf_St → Prop) : State → Prop := MQ below (va_Qi Post (lf_B D tys A wf) A) args s 0 0 A
abbrev lf_Ql (below : List Frame) (args : Array Value) (s : State) (D : va_G) (tys : List (ClassId × FieldType)) (A : Nat → Prop) (wf : lf_St → va_W) (Post : Int64 → lf_St → Prop) : State → Prop := MQ below (va_Ql Post (lf_B D tys A wf) A) args s 0 0 A
abbrev lf_Qv (below : List Frame) (args : Array Value) (s : State) (D : va_G) (tys : List (ClassId × FieldType)) (A : Nat → Prop) (wf : lf_St → va_W) (Post : lf_St → Prop) : State → Prop := MQ below (va_Qv Post (lf_B D tys A wf) A) args s 0 0 A
abbrev lf_Qr (below : List Frame) (args : Array Value) (s : State) (D : va_G) (tys : List (ClassId × FieldType)) (A : Nat → Prop) (wf : lf_St → va_W) (ra : Nat) (Post : lf_St → Prop) : State → Prop := MQ below (va_Qr Post (fun u a t => a = ra ∧ lf_B D tys A wf u t) A) args s 0 0 A
section LFB
variable {p : Program} {l : Launch} {e : Env} {R : Room} {s : State} {m : MethodId} {args : Array Value} {below : List Frame} {meth : Method} {c : Code} {H : Heap} {locs : List Loc} {Q : State → Prop}
variable {cc : ByteArray} {pc : Nat} {ls : Array Slot} {rest : List Value} {D : va_G} {A : Nat → Prop} {tys : List (ClassId × FieldType)} {wf : lf_St → va_W} {own : String} {nL : Nat} {ret : Option FieldType} {σ : lf_St}
theorem lf_B_of (F : lf_C p s m args meth c own cc nL ret D tys A) (hh : lf_H D wf A s σ H locs) {t : State} (ht : t.heap = H) (hW : s.WarmedH t.vm) : lf_B D tys A wf σ t :=
  ⟨by rw [ht]; exact hh.1, va_K.moved hW.alike F.2.2.2.2, hh.2.1⟩
theorem lf_reti {Post : Int32 → lf_St → Prop} {v : Int32} (F : lf_C p s m args meth c own cc nL (some .int) D tys A) (hh : lf_H D wf A s σ H locs) (hw : Post v σ) (hdg : decode cc pc = .ok (.ireturn, 1)) : W p l e R s m args below meth c H locs 0 0 (lf_Qi below args s D tys A wf Post) (F0 m pc ls [.int v]) :=
  W.iret F.1.1 F.1.2.1 F.2.1 (fun _ ht hW => ⟨⟨v, σ, rfl, hw, lf_B_of F hh ht hW⟩, hh.2.2.F ht⟩) hh.2.2.2.2 hdg (hlocks := F.2.2.1)
theorem lf_retz {Post : Int32 → lf_St → Prop} {v : Int32} (F : lf_C p s m args meth c own cc nL (some .boolean) D tys A) (hh : lf_H D wf A s σ H locs) (hn : narrow .boolean (.int v) = .int v) (hw : Post v σ) (hdg : decode cc pc = .ok (.ireturn, 1)) : W p l e R s m args below meth c H locs 0 0 (lf_Qi below args s D tys A wf Post) (F0 m pc ls [.int v]) :=
  W.zret F.1.1 F.1.2.1 F.2.1 hn (fun _ ht hW => ⟨⟨v, σ, rfl, hw, lf_B_of F hh ht hW⟩, hh.2.2.F ht⟩) hh.2.2.2.2 hdg (hlocks := F.2.2.1)
theorem lf_retl {Post : Int64 → lf_St → Prop} {v : Int64} (F : lf_C p s m args meth c own cc nL (some .long) D tys A) (hh : lf_H D wf A s σ H locs) (hw : Post v σ) (hdg : decode cc pc = .ok (.lreturn, 1)) : W p l e R s m args below meth c H locs 0 0 (lf_Ql below args s D tys A wf Post) (F0 m pc ls [.long v]) :=
  W.lret F.1.1 F.1.2.1 F.2.1 (fun _ ht hW => ⟨⟨v, σ, rfl, hw, lf_B_of F hh ht hW⟩, hh.2.2.F ht⟩) hh.2.2.2.2 hdg (hlocks := F.2.2.1)
theorem lf_retv {Post : lf_St → Prop} (F : lf_C p s m args meth c own cc nL none D tys A) (hh : lf_H D wf A s σ H locs) (hw : Post σ) (hdg : decode cc pc = .ok (.return_, 1)) : W p l e R s m args below meth c H locs 0 0 (lf_Qv below args s D tys A wf Post) (F0 m pc ls []) :=
  W.vret F.1.1 F.1.2.1 F.2.1 (fun _ ht hW => ⟨⟨σ, rfl, hw, lf_B_of F hh ht hW⟩, hh.2.2.F ht⟩) hh.2.2.2.2 hdg (hlocks := F.2.2.1)
theorem lf_retr {Post : lf_St → Prop} {ra : Nat} {C : String} (F : lf_C p s m args meth c own cc nL (some (.object C)) D tys A) (hh : lf_H D wf A s σ H locs) (hw : Post σ) (hdg : decode cc pc = .ok (.areturn, 1)) : W p l e R s m args below meth c H locs 0 0 (lf_Qr below args s D tys A wf ra Post) (F0 m pc ls [.ref ra]) :=
  W.aret F.1.1 F.1.2.1 F.2.1 (Or.inl ⟨C, rfl⟩) (Or.inr ⟨ra, rfl⟩) (fun _ ht hW => ⟨⟨σ, ra, rfl, hw, rfl, lf_B_of F hh ht hW⟩, hh.2.2.F ht⟩) hh.2.2.2.2 hdg (hlocks := F.2.2.1)
/-! compares of longs -/
theorem lf_lcmp_lt {x y : Int64} {off : Int} {tgt : Nat} (hx : p.tables.exec = Jvm.exec) (hb : c.code = cc) (hd : decode cc pc = .ok (.lcmp, 1)) (hd2 : decode cc (pc + 1) = .ok (.ifCond .lt off, 3)) (ht : ((pc + 1 : Nat) : Int) + off = (tgt : Int)) (kt : x < y → W p l e R s m args below meth c H locs 0 0 Q (F0 m tgt ls rest)) (kf : ¬ x < y → W p l e R s m args below meth c H locs 0 0 Q (F0 m (pc + 4) ls rest)) : W p l e R s m args below meth c H locs 0 0 Q (F0 m pc ls (.long y :: .long x :: rest)) :=
  W.lcmp hx hb hd (lv_if_lt (tgt := tgt) hx hb hd2 ht (fun q => kt ((lg_cmp_lt x y).mp q)) (fun q => kf (fun z => q ((lg_cmp_lt x y).mpr z))))
theorem lf_lcmp_ge {x y : Int64} {off : Int} {tgt : Nat} (hx : p.tables.exec = Jvm.exec) (hb : c.code = cc) (hd : decode cc pc = .ok (.lcmp, 1)) (hd2 : decode cc (pc + 1) = .ok (.ifCond .ge off, 3)) (ht : ((pc + 1 : Nat) : Int) + off = (tgt : Int)) (kt : y ≤ x → W p l e R s m args below meth c H locs 0 0 Q (F0 m tgt ls rest)) (kf : ¬ y ≤ x → W p l e R s m args below meth c H locs 0 0 Q (F0 m (pc + 4) ls rest)) : W p l e R s m args below meth c H locs 0 0 Q (F0 m pc ls (.long y :: .long x :: rest)) :=
  W.lcmp hx hb hd (lv_if_ge (tgt := tgt) hx hb hd2 ht (fun q => kt ((lg_cmp_ge x y).mp q)) (fun q => kf (fun z => q ((lg_cmp_ge x y).mpr z))))
theorem lf_lcmp_gt {x y : Int64} {off : Int} {tgt : Nat} (hx : p.tables.exec = Jvm.exec) (hb : c.code = cc) (hd : decode cc pc = .ok (.lcmp, 1)) (hd2 : decode cc (pc + 1) = .ok (.ifCond .gt off, 3)) (ht : ((pc + 1 : Nat) : Int) + off = (tgt : Int)) (kt : y < x → W p l e R s m args below meth c H locs 0 0 Q (F0 m tgt ls rest)) (kf : ¬ y < x → W p l e R s m args below meth c H locs 0 0 Q (F0 m (pc + 4) ls rest)) : W p l e R s m args below meth c H locs 0 0 Q (F0 m pc ls (.long y :: .long x :: rest)) :=
  W.lcmp hx hb hd (lv_if_gt (tgt := tgt) hx hb hd2 ht (fun q => kt ((lg_cmp_gt x y).mp q)) (fun q => kf (fun z => q ((lg_cmp_gt x y).mpr z))))
theorem lf_lcmp_le {x y : Int64} {off : Int} {tgt : Nat} (hx : p.tables.exec = Jvm.exec) (hb : c.code = cc) (hd : decode cc pc = .ok (.lcmp, 1)) (hd2 : decode cc (pc + 1) = .ok (.ifCond .le off, 3)) (ht : ((pc + 1 : Nat) : Int) + off = (tgt : Int)) (kt : x ≤ y → W p l e R s m args below meth c H locs 0 0 Q (F0 m tgt ls rest)) (kf : ¬ x ≤ y → W p l e R s m args below meth c H locs 0 0 Q (F0 m (pc + 4) ls rest)) : W p l e R s m args below meth c H locs 0 0 Q (F0 m pc ls (.long y :: .long x :: rest)) :=
  W.lcmp hx hb hd (lv_if_le (tgt := tgt) hx hb hd2 ht (fun q => kt ((lg_cmp_le x y).mp q)) (fun q => kf (fun z => q ((lg_cmp_le x y).mpr z))))
theorem lf_lcmp_eq {x y : Int64} {off : Int} {tgt : Nat} (hx : p.tables.exec = Jvm.exec) (hb : c.code = cc) (hd : decode cc pc = .ok (.lcmp, 1)) (hd2 : decode cc (pc + 1) = .ok (.ifCond .eq off, 3)) (ht : ((pc + 1 : Nat) : Int) + off = (tgt : Int)) (kt : x = y → W p l e R s m args below meth c H locs 0 0 Q (F0 m tgt ls rest)) (kf : ¬ x = y → W p l e R s m args below meth c H locs 0 0 Q (F0 m (pc + 4) ls rest)) : W p l e R s m args below meth c H locs 0 0 Q (F0 m pc ls (.long y :: .long x :: rest)) :=
  W.lcmp hx hb hd (lv_if_eq (tgt := tgt) hx hb hd2 ht (fun q => kt ((lg_cmp_eq x y).mp q)) (fun q => kf (fun z => q ((lg_cmp_eq x y).mpr z))))
theorem lf_lcmp_ne {x y : Int64} {off : Int} {tgt : Nat} (hx : p.tables.exec = Jvm.exec) (hb : c.code = cc) (hd : decode cc pc = .ok (.lcmp, 1)) (hd2 : decode cc (pc + 1) = .ok (.ifCond .ne off, 3)) (ht : ((pc + 1 : Nat) : Int) + off = (tgt : Int)) (kt : ¬ x = y → W p l e R s m args below meth c H locs 0 0 Q (F0 m tgt ls rest)) (kf : x = y → W p l e R s m args below meth c H locs 0 0 Q (F0 m (pc + 4) ls rest)) : W p l e R s m args below meth c H locs 0 0 Q (F0 m pc ls (.long y :: .long x :: rest)) :=
  W.lcmp hx hb hd (lv_if_ne (tgt := tgt) hx hb hd2 ht (fun q => kt (fun z => q ((lg_cmp_eq x y).mpr z))) (fun q => kf ((lg_cmp_eq x y).mp q)))
/-! calls -/
variable {y : MethodName} {bytes : ByteArray} {maxL index n : Nat} {rt : Option FieldType} {rm : Room} {C : String} {b : Addr} {As : List Value}
theorem lf_free (F : lf_C p s m args meth c own cc nL ret D tys A) (hh : lf_H D wf A s σ H locs) : ∀ q, va_A (wf σ) H.size q → A q := by
  intro q h
  rcases h with ⟨k, e, h⟩ | h
  · exact hh.2.1.2 k (q, e) h
  · exact F.2.2.2.1 q (Nat.le_trans hh.2.2.1 h)
theorem lf_pre (F : lf_C p s m args meth c own cc nL ret D tys A) (hh : lf_H D wf A s σ H locs) {avs : List Value} : ∀ U : State, U.heap = H → s.WarmedH U.vm → lf_P D tys wf H.size σ avs avs.toArray U := fun U hU hW =>
  ⟨rfl, by rw [hU], by rw [hU]; exact hh.1, va_K.moved hW.alike F.2.2.2.2, hh.2.1.weaken (fun _ _ _ _ => trivial)⟩
theorem lf_back (F : lf_C p s m args meth c own cc nL ret D tys A) (hh : lf_H D wf A s σ H locs) {u : lf_St} {t : State} {H1 : Heap} {locs1 : List Loc} (ht : t.heap = H1) (hB : lf_B D tys (va_A (wf σ) H.size) wf u t) (hS : va_S A s.heap H1 locs1) : lf_H D wf A s u H1 locs1 :=
  ⟨by rw [← ht]; exact hB.1, ⟨hB.2.2.1, fun k q h => lf_free F hh _ (hB.2.2.2 k q h)⟩, hS⟩
abbrev lf_ws (y : MethodName) (bytes : ByteArray) (maxL : Nat) (rt : Option FieldType) : List Cond := Cond.code y bytes maxL rt :: wsL_law
abbrev lf_cV (R : Room) (s : State) (args : Array Value) (own C : String) (index : Nat) (y : MethodName) (bytes : ByteArray) (maxL : Nat) (rt : Option FieldType) (rm : Room) (n : Nat) : Prop := CallW R s args own C index y bytes maxL rt (lf_ws y bytes maxL rt) rm 0 0 n
abbrev lf_cS (R : Room) (s : State) (args : Array Value) (own : String) (index : Nat) (y : MethodName) (bytes : ByteArray) (maxL : Nat) (rt : Option FieldType) (rm : Room) (n : Nat) : Prop := CallB R s args own index y bytes maxL rt (lf_ws y bytes maxL rt) rm 0 0 n ∧ (Cond.static y).before args s = true
theorem lf_callVi {Post : Int32 → lf_St → Prop} (F : lf_C p s m args meth c own cc nL ret D tys A) (hh : lf_H D wf A s σ H locs) (cw : lf_cV R s args own C index y bytes maxL rt rm n) (hM : lf_Mi l y (lf_ws y bytes maxL rt) rm D tys wf H.size σ (.ref b :: As) Post)
    (q0 ci : Nat) {q : vw_C} {fs : List Value} (hc : vwCl[ci]? = some q) (hC : q.1 = C) (he : (wf σ)[q0]? = some (b, .inr (ci, fs))) (hn : As.length = n) (hl : ls.size = nL) (hW : (rest.map fun v => v.category).sum ≤ 8) (hdg : decode cc pc = .ok (.invokevirtual index, 3)) {st0 : List Value} (hst : st0 = As.reverse ++ .ref b :: rest)
    (kk : ∀ (r : Int32) (σ' : lf_St) (H1 : Heap) (locs1 : List Loc), Post r σ' → lf_H D wf A s σ' H1 locs1 → W p l e R s m args below meth c H1 locs1 0 0 Q (F0 m (pc + 3) ls (.int r :: rest))) : W p l e R s m args below meth c H locs 0 0 Q (F0 m pc ls st0) := by
  subst hst; subst hC
  exact va_calli (va_runV (As := As) (rest := rest) F.1 hM cw ⟨lf_P_blind _ _ _ _ _ _, va_recv F.2.2.2.2 hh.1 hc he, lf_pre F hh⟩ rfl hn hl rfl (lv_room hW) hdg ⟨Nat.zero_le _, Nat.zero_le _⟩) hh.2.2 (fun q _ h => lf_free F hh q h) (lf_free F hh) (fun r u t H1 locs1 ht _ hw hB _ _ hS => kk r u H1 locs1 hw (lf_back F hh ht hB hS))
theorem lf_callVl {Post : Int64 → lf_St → Prop} (F : lf_C p s m args meth c own cc nL ret D tys A) (hh : lf_H D wf A s σ H locs) (cw : lf_cV R s args own C index y bytes maxL rt rm n) (hM : lf_Ml l y (lf_ws y bytes maxL rt) rm D tys wf H.size σ (.ref b :: As) Post)
    (q0 ci : Nat) {q : vw_C} {fs : List Value} (hc : vwCl[ci]? = some q) (hC : q.1 = C) (he : (wf σ)[q0]? = some (b, .inr (ci, fs))) (hn : As.length = n) (hl : ls.size = nL) (hW : (rest.map fun v => v.category).sum ≤ 8) (hdg : decode cc pc = .ok (.invokevirtual index, 3)) {st0 : List Value} (hst : st0 = As.reverse ++ .ref b :: rest)
    (kk : ∀ (r : Int64) (σ' : lf_St) (H1 : Heap) (locs1 : List Loc), Post r σ' → lf_H D wf A s σ' H1 locs1 → W p l e R s m args below meth c H1 locs1 0 0 Q (F0 m (pc + 3) ls (.long r :: rest))) : W p l e R s m args below meth c H locs 0 0 Q (F0 m pc ls st0) := by
  subst hst; subst hC
  exact va_calll (va_runV (As := As) (rest := rest) F.1 hM cw ⟨lf_P_blind _ _ _ _ _ _, va_recv F.2.2.2.2 hh.1 hc he, lf_pre F hh⟩ rfl hn hl rfl (lv_room hW) hdg ⟨Nat.zero_le _, Nat.zero_le _⟩) hh.2.2 (fun q _ h => lf_free F hh q h) (lf_free F hh) (fun r u t H1 locs1 ht _ hw hB _ _ hS => kk r u H1 locs1 hw (lf_back F hh ht hB hS))
theorem lf_callVv {Post : lf_St → Prop} (F : lf_C p s m args meth c own cc nL ret D tys A) (hh : lf_H D wf A s σ H locs) (cw : lf_cV R s args own C index y bytes maxL rt rm n) (hM : lf_Mv l y (lf_ws y bytes maxL rt) rm D tys wf H.size σ (.ref b :: As) Post)
    (q0 ci : Nat) {q : vw_C} {fs : List Value} (hc : vwCl[ci]? = some q) (hC : q.1 = C) (he : (wf σ)[q0]? = some (b, .inr (ci, fs))) (hn : As.length = n) (hl : ls.size = nL) (hW : (rest.map fun v => v.category).sum ≤ 8) (hdg : decode cc pc = .ok (.invokevirtual index, 3)) {st0 : List Value} (hst : st0 = As.reverse ++ .ref b :: rest)
    (kk : ∀ (σ' : lf_St) (H1 : Heap) (locs1 : List Loc), Post σ' → lf_H D wf A s σ' H1 locs1 → W p l e R s m args below meth c H1 locs1 0 0 Q (F0 m (pc + 3) ls rest)) : W p l e R s m args below meth c H locs 0 0 Q (F0 m pc ls st0) := by
  subst hst; subst hC
  exact va_callv (va_runV (As := As) (rest := rest) F.1 hM cw ⟨lf_P_blind _ _ _ _ _ _, va_recv F.2.2.2.2 hh.1 hc he, lf_pre F hh⟩ rfl hn hl rfl (lv_room hW) hdg ⟨Nat.zero_le _, Nat.zero_le _⟩) hh.2.2 (fun q _ h => lf_free F hh q h) (lf_free F hh) (fun u t H1 locs1 ht _ hw hB _ _ hS => kk u H1 locs1 hw (lf_back F hh ht hB hS))
theorem lf_callVr {Post : lf_St → Prop} {ra : Nat} (F : lf_C p s m args meth c own cc nL ret D tys A) (hh : lf_H D wf A s σ H locs) (cw : lf_cV R s args own C index y bytes maxL rt rm n) (hM : lf_Mr l y (lf_ws y bytes maxL rt) rm D tys wf H.size σ (.ref b :: As) ra Post)
    (q0 ci : Nat) {q : vw_C} {fs : List Value} (hc : vwCl[ci]? = some q) (hC : q.1 = C) (he : (wf σ)[q0]? = some (b, .inr (ci, fs))) (hn : As.length = n) (hl : ls.size = nL) (hW : (rest.map fun v => v.category).sum ≤ 8) (hdg : decode cc pc = .ok (.invokevirtual index, 3)) {st0 : List Value} (hst : st0 = As.reverse ++ .ref b :: rest)
    (kk : ∀ (σ' : lf_St) (H1 : Heap) (locs1 : List Loc), Post σ' → lf_H D wf A s σ' H1 locs1 → W p l e R s m args below meth c H1 locs1 0 0 Q (F0 m (pc + 3) ls (.ref ra :: rest))) : W p l e R s m args below meth c H locs 0 0 Q (F0 m pc ls st0) := by
  subst hst; subst hC
  exact va_callr (va_runV (As := As) (rest := rest) F.1 hM cw ⟨lf_P_blind _ _ _ _ _ _, va_recv F.2.2.2.2 hh.1 hc he, lf_pre F hh⟩ rfl hn hl rfl (lv_room hW) hdg ⟨Nat.zero_le _, Nat.zero_le _⟩) hh.2.2 (fun q _ h => lf_free F hh q h) (lf_free F hh) (fun u a t H1 locs1 ht _ hw hB _ _ hS => by obtain ⟨rfl, hB⟩ := hB; exact kk u H1 locs1 hw (lf_back F hh ht hB hS))
theorem lf_callSi {Post : Int32 → lf_St → Prop} (F : lf_C p s m args meth c own cc nL ret D tys A) (hh : lf_H D wf A s σ H locs) (cw : lf_cS R s args own index y bytes maxL rt rm n) (hM : lf_Mi l y (lf_ws y bytes maxL rt) rm D tys wf H.size σ As Post)
    (hn : As.length = n) (hl : ls.size = nL) (hW : (rest.map fun v => v.category).sum ≤ 8) (hdg : decode cc pc = .ok (.invokestatic index, 3)) {st0 : List Value} (hst : st0 = As.reverse ++ rest)
    (kk : ∀ (r : Int32) (σ' : lf_St) (H1 : Heap) (locs1 : List Loc), Post r σ' → lf_H D wf A s σ' H1 locs1 → W p l e R s m args below meth c H1 locs1 0 0 Q (F0 m (pc + 3) ls (.int r :: rest))) : W p l e R s m args below meth c H locs 0 0 Q (F0 m pc ls st0) := by
  subst hst
  exact va_calli (va_runS (As := As) (rest := rest) F.1 hM cw ⟨lf_P_blind _ _ _ _ _ _, lf_pre F hh⟩ rfl hn hl rfl (lv_room hW) hdg ⟨Nat.zero_le _, Nat.zero_le _⟩) hh.2.2 (fun q _ h => lf_free F hh q h) (lf_free F hh) (fun r u t H1 locs1 ht _ hw hB _ _ hS => kk r u H1 locs1 hw (lf_back F hh ht hB hS))
theorem lf_callSl {Post : Int64 → lf_St → Prop} (F : lf_C p s m args meth c own cc nL ret D tys A) (hh : lf_H D wf A s σ H locs) (cw : lf_cS R s args own index y bytes maxL rt rm n) (hM : lf_Ml l y (lf_ws y bytes maxL rt) rm D tys wf H.size σ As Post)
    (hn : As.length = n) (hl : ls.size = nL) (hW : (rest.map fun v => v.category).sum ≤ 8) (hdg : decode cc pc = .ok (.invokestatic index, 3)) {st0 : List Value} (hst : st0 = As.reverse ++ rest)
    (kk : ∀ (r : Int64) (σ' : lf_St) (H1 : Heap) (locs1 : List Loc), Post r σ' → lf_H D wf A s σ' H1 locs1 → W p l e R s m args below meth c H1 locs1 0 0 Q (F0 m (pc + 3) ls (.long r :: rest))) : W p l e R s m args below meth c H locs 0 0 Q (F0 m pc ls st0) := by
  subst hst
  exact va_calll (va_runS (As := As) (rest := rest) F.1 hM cw ⟨lf_P_blind _ _ _ _ _ _, lf_pre F hh⟩ rfl hn hl rfl (lv_room hW) hdg ⟨Nat.zero_le _, Nat.zero_le _⟩) hh.2.2 (fun q _ h => lf_free F hh q h) (lf_free F hh) (fun r u t H1 locs1 ht _ hw hB _ _ hS => kk r u H1 locs1 hw (lf_back F hh ht hB hS))
theorem lf_callSv {Post : lf_St → Prop} (F : lf_C p s m args meth c own cc nL ret D tys A) (hh : lf_H D wf A s σ H locs) (cw : lf_cS R s args own index y bytes maxL rt rm n) (hM : lf_Mv l y (lf_ws y bytes maxL rt) rm D tys wf H.size σ As Post)
    (hn : As.length = n) (hl : ls.size = nL) (hW : (rest.map fun v => v.category).sum ≤ 8) (hdg : decode cc pc = .ok (.invokestatic index, 3)) {st0 : List Value} (hst : st0 = As.reverse ++ rest)
    (kk : ∀ (σ' : lf_St) (H1 : Heap) (locs1 : List Loc), Post σ' → lf_H D wf A s σ' H1 locs1 → W p l e R s m args below meth c H1 locs1 0 0 Q (F0 m (pc + 3) ls rest)) : W p l e R s m args below meth c H locs 0 0 Q (F0 m pc ls st0) := by
  subst hst
  exact va_callv (va_runS (As := As) (rest := rest) F.1 hM cw ⟨lf_P_blind _ _ _ _ _ _, lf_pre F hh⟩ rfl hn hl rfl (lv_room hW) hdg ⟨Nat.zero_le _, Nat.zero_le _⟩) hh.2.2 (fun q _ h => lf_free F hh q h) (lf_free F hh) (fun u t H1 locs1 ht _ hw hB _ _ hS => kk u H1 locs1 hw (lf_back F hh ht hB hS))
end LFB
set_option maxRecDepth 20000 in
theorem lf_good : wsL_law.all goodWord = true := by decide +kernel
theorem lf_goodIn {y : MethodName} {bytes : ByteArray} {maxL : Nat} {rt : Option FieldType} (h : Cond.code y bytes maxL rt ∈ wsL_law) : GoodIn wsL_law (lf_ws y bytes maxL rt) := fun w hw => by
  rcases List.mem_cons.mp hw with rfl | hw
  · exact ⟨h, good_of_word (List.all_eq_true.mp lf_good _ h)⟩
  · exact ⟨hw, good_of_word (List.all_eq_true.mp lf_good _ hw)⟩
theorem lf_cV_of {R : Room} {s : State} {args : Array Value} {own : String} {index : Nat} {y : MethodName} {bytes : ByteArray} {maxL : Nat} {rt : Option FieldType} {rm : Room} (n : Nat) (ht : ∀ w ∈ wsL_law, w.before args s = true) (h1 : Cond.code y bytes maxL rt ∈ wsL_law) (h2 : Cond.methodLink own index y ∈ wsL_law) (h3 : Cond.instanceMethod y ∈ wsL_law) (h4 : Cond.selects y.cls y y ∈ wsL_law) (h5 : Cond.initialized y.cls ∈ wsL_law) (hrc : rm.cells = 0) (hrs : rm.slots = 0)
    (hd : y.cls ≠ "java/lang/invoke/MethodHandle" ∧ y.cls ≠ "java/lang/invoke/VarHandle" ∧ (parseMethodDescriptor y.desc).map (fun d => d.parameters.length) = some n) (hR : rm.frames + 1 ≤ R.frames ∧ 8 + (maxL + 11) + rm.locals ≤ R.locals) : lf_cV R s args own y.cls index y bytes maxL rt rm n :=
  ⟨callB_of n ht (lf_goodIn h1) rfl hrc hrs (ht _ h5) (ht _ h2) hd hR, ht _ h3, ht _ h4⟩
theorem lf_cS_of {R : Room} {s : State} {args : Array Value} {own : String} {index : Nat} {y : MethodName} {bytes : ByteArray} {maxL : Nat} {rt : Option FieldType} {rm : Room} (n : Nat) (ht : ∀ w ∈ wsL_law, w.before args s = true) (h1 : Cond.code y bytes maxL rt ∈ wsL_law) (h2 : Cond.methodLink own index y ∈ wsL_law) (h3 : Cond.static y ∈ wsL_law) (h5 : Cond.initialized y.cls ∈ wsL_law) (hrc : rm.cells = 0) (hrs : rm.slots = 0)
    (hd : y.cls ≠ "java/lang/invoke/MethodHandle" ∧ y.cls ≠ "java/lang/invoke/VarHandle" ∧ (parseMethodDescriptor y.desc).map (fun d => d.parameters.length) = some n) (hR : rm.frames + 1 ≤ R.frames ∧ 8 + (maxL + 11) + rm.locals ≤ R.locals) : lf_cS R s args own index y bytes maxL rt rm n :=
  ⟨callB_of n ht (lf_goodIn h1) rfl hrc hrs (ht _ h5) (ht _ h2) hd hR, ht _ h3⟩
/-! a contract out of the walk of a body -/
section LFE
variable {l : Launch} {y : MethodName} {rm : Room} {D : va_G} {tys : List (ClassId × FieldType)} {wf : lf_St → va_W} {sz : Nat} {σ : lf_St} {avs : List Value} {cc : ByteArray} {maxL : Nat}
theorem lf_ofi {Post : Int32 → lf_St → Prop} {rt : FieldType} (hy : plainName y.cls = true) (hav : (lg_sl avs).length ≤ maxL)
    (body : ∀ (p : Program) (e : Env) (s : State) (m : MethodId) (args : Array Value) (below : List Frame) (meth : Method) (c : Code) (A : Nat → Prop) (ls : Array Slot), lf_C p s m args meth c y.cls cc maxL (some rt) D tys A → lf_H D wf A s σ s.heap [] → lv_has ls maxL (lv_args 0 avs) → W p l e rm s m args below meth c s.heap [] 0 0 (lf_Qi below args s D tys A wf Post) (F0 m 0 ls [])) : lf_Mi l y (lf_ws y cc maxL (some rt)) rm D tys wf sz σ avs Post := by
  refine Met.ofW (cc := cc) (maxL := maxL) (ret := some rt) hy rfl ?_
  intro p e s m args below meth c s₁ B hml hv
  obtain ⟨rfl, hsz, hP, hK, hD0⟩ := hv
  subst hsz
  have hts := atoms_spec (ws := lf_ws y cc maxL (some rt)) B.pre
  rw [lg_entry_eq]
  exact body p e s m _ below meth c _ _ ⟨⟨B.exec, B.bytes, hml, findClass_of_methodNamed B.named, fun w h => hts w (List.mem_cons_of_mem _ h)⟩, B.returns, B.notSynchronized, fun q h => Or.inr h, hK⟩ ⟨hP, hD0.self, va_S.rf⟩ (lv_entry avs hav)
theorem lf_ofl {Post : Int64 → lf_St → Prop} {rt : FieldType} (hy : plainName y.cls = true) (hav : (lg_sl avs).length ≤ maxL)
    (body : ∀ (p : Program) (e : Env) (s : State) (m : MethodId) (args : Array Value) (below : List Frame) (meth : Method) (c : Code) (A : Nat → Prop) (ls : Array Slot), lf_C p s m args meth c y.cls cc maxL (some rt) D tys A → lf_H D wf A s σ s.heap [] → lv_has ls maxL (lv_args 0 avs) → W p l e rm s m args below meth c s.heap [] 0 0 (lf_Ql below args s D tys A wf Post) (F0 m 0 ls [])) : lf_Ml l y (lf_ws y cc maxL (some rt)) rm D tys wf sz σ avs Post := by
  refine Met.ofW (cc := cc) (maxL := maxL) (ret := some rt) hy rfl ?_
  intro p e s m args below meth c s₁ B hml hv
  obtain ⟨rfl, hsz, hP, hK, hD0⟩ := hv
  subst hsz
  have hts := atoms_spec (ws := lf_ws y cc maxL (some rt)) B.pre
  rw [lg_entry_eq]
  exact body p e s m _ below meth c _ _ ⟨⟨B.exec, B.bytes, hml, findClass_of_methodNamed B.named, fun w h => hts w (List.mem_cons_of_mem _ h)⟩, B.returns, B.notSynchronized, fun q h => Or.inr h, hK⟩ ⟨hP, hD0.self, va_S.rf⟩ (lv_entry avs hav)
theorem lf_ofv {Post : lf_St → Prop} (hy : plainName y.cls = true) (hav : (lg_sl avs).length ≤ maxL)
    (body : ∀ (p : Program) (e : Env) (s : State) (m : MethodId) (args : Array Value) (below : List Frame) (meth : Method) (c : Code) (A : Nat → Prop) (ls : Array Slot), lf_C p s m args meth c y.cls cc maxL none D tys A → lf_H D wf A s σ s.heap [] → lv_has ls maxL (lv_args 0 avs) → W p l e rm s m args below meth c s.heap [] 0 0 (lf_Qv below args s D tys A wf Post) (F0 m 0 ls [])) : lf_Mv l y (lf_ws y cc maxL none) rm D tys wf sz σ avs Post := by
  refine Met.ofW (cc := cc) (maxL := maxL) (ret := none) hy rfl ?_
  intro p e s m args below meth c s₁ B hml hv
  obtain ⟨rfl, hsz, hP, hK, hD0⟩ := hv
  subst hsz
  have hts := atoms_spec (ws := lf_ws y cc maxL none) B.pre
  rw [lg_entry_eq]
  exact body p e s m _ below meth c _ _ ⟨⟨B.exec, B.bytes, hml, findClass_of_methodNamed B.named, fun w h => hts w (List.mem_cons_of_mem _ h)⟩, B.returns, B.notSynchronized, fun q h => Or.inr h, hK⟩ ⟨hP, hD0.self, va_S.rf⟩ (lv_entry avs hav)
theorem lf_ofr {Post : lf_St → Prop} {ra : Nat} {rt : FieldType} (hy : plainName y.cls = true) (hav : (lg_sl avs).length ≤ maxL)
    (body : ∀ (p : Program) (e : Env) (s : State) (m : MethodId) (args : Array Value) (below : List Frame) (meth : Method) (c : Code) (A : Nat → Prop) (ls : Array Slot), lf_C p s m args meth c y.cls cc maxL (some rt) D tys A → lf_H D wf A s σ s.heap [] → lv_has ls maxL (lv_args 0 avs) → W p l e rm s m args below meth c s.heap [] 0 0 (lf_Qr below args s D tys A wf ra Post) (F0 m 0 ls [])) : lf_Mr l y (lf_ws y cc maxL (some rt)) rm D tys wf sz σ avs ra Post := by
  refine Met.ofW (cc := cc) (maxL := maxL) (ret := some rt) hy rfl ?_
  intro p e s m args below meth c s₁ B hml hv
  obtain ⟨rfl, hsz, hP, hK, hD0⟩ := hv
  subst hsz
  have hts := atoms_spec (ws := lf_ws y cc maxL (some rt)) B.pre
  rw [lg_entry_eq]
  exact body p e s m _ below meth c _ _ ⟨⟨B.exec, B.bytes, hml, findClass_of_methodNamed B.named, fun w h => hts w (List.mem_cons_of_mem _ h)⟩, B.returns, B.notSynchronized, fun q h => Or.inr h, hK⟩ ⟨hP, hD0.self, va_S.rf⟩ (lv_entry avs hav)
end LFE
