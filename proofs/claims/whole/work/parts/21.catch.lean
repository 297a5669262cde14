/-! handlers: a row of the table whose word may still be cold -/
section ZC
variable {Q : Handler → Pre} {E : CtlPost} {e : Env} {d : Bool} {acts : List Action} {s : State} {f : JFrame} {a : Addr}
theorem zt_row {x : ExceptionTableEntry} {t : List ExceptionTableEntry} {c : ClassId} {cell : Cell} (hx : covers x f.pc = true) (h0 : x.catchType ≠ 0)
    (hl : s.vm.ClassLinks e.platform f.method.cls x.catchType c) (hcell : s.heap[a]? = some cell) (hobj : ∀ k, cell.vm ≠ .statics k)
    (hk : ∃ k, s.vm.classes[cell.cls]? = some k) (hc : ∃ k, s.vm.classes[c]? = some k) :
    wp (findHandler.go f a (x :: t)) Q E e d acts s ↔ if s.vm.assignable cell.cls c = true then Q (.found x.handlerPc) d acts (s.setVm (s.vm.noted f.method.cls x.catchType (.cls c)))
      else wp (findHandler.go f a t) Q E e d acts (s.setVm (s.vm.noted f.method.cls x.catchType (.cls c))) := by
  obtain ⟨k1, hk1⟩ := hk
  obtain ⟨k2, hk2⟩ := hc
  have al : s.vm.Alike (s.vm.noted f.method.cls x.catchType (.cls c)) := (Vm.Alike.refl s.vm).noted _ _ _
  obtain ⟨j1, hj1, -⟩ := al.2.2 _ _ hk1
  obtain ⟨j2, hj2, -⟩ := al.2.2 _ _ hk2
  have as := al.assignable cell.cls c
  obtain ⟨r1, r2⟩ := (resolveClass_links e.toSetting hl).op (op := VmOp.resolveClass f.method.cls x.catchType) rfl
  simp only [covers] at hx
  cases hfit : s.vm.assignable cell.cls c <;> rw [hfit] at as <;> simp [findHandler.go, hx, h0, r1, r2, hcell, hobj, hj1, hj2, as, VmOp.dirties, VmOp.acts]
end ZC

theorem zt_step {tb : Tables} {e : Env} {s target : State} {g : JFrame} {c : Code} {below : List Frame} {a : Addr} (h : At s g.method c below) {pc : Nat} {vm' : Vm}
    (hfind : ∀ (Q : Handler → Pre) (E : CtlPost) (d : Bool) (acts : List Action), wp (findHandler g a) Q E e d acts ((s.setTop g).pushFrame (.throwing a)) ↔ Q (.found pc) d acts (((s.setTop g).pushFrame (.throwing a)).setVm vm'))
    (hrest : Steps tb e below ((s.setVm vm').setTop { g with pc := pc, stack := [.ref a] }) target) : Steps tb e below ((s.setTop g).pushFrame (.throwing a)) target := by
  obtain ⟨hgo, hw⟩ := h.throwing a
  obtain ⟨g₀, hg⟩ := Option.isSome_iff_exists.mp h.top
  obtain ⟨r, hr⟩ := State.topJava?_eq_some.mp hg
  have key : (stepThrowing e ((s.setTop g).pushFrame (.throwing a)) a (.java g :: s.frames.tail)).1 = (((s.setTop g).pushFrame (.throwing a)).setVm vm').setFrames (.java { g with pc := pc, stack := [.ref a] } :: s.frames.tail) := by
    simp only [stepThrowing, searchFrame, vmDo]
    generalize hres : Sem.go _ e false [] _ = res
    obtain ⟨as, rfl, -⟩ := Sem.eq_ok_of hres (a := Handler.found pc) (s' := ((s.setTop g).pushFrame (.throwing a)).setVm vm') (acts' := []) (by simp [hfind _ _ _ _])
    rfl
  refine Steps.head hgo hw ?_
  rw [stepThread_throwing (frames_entered h.top _), key]
  have e1 : ∀ (u : State) (F G : List Frame), ((u.setFrames F).setVm vm').setFrames G = (u.setVm vm').setFrames G := fun u F G => by
    rw [show (u.setFrames F).setVm vm' = (u.setVm vm').setFrames F from rfl, State.setFrames_setFrames]
  have hr' : (s.setVm vm').frames = .java g₀ :: r := hr
  rw [State.setTop_of_frames _ hr'] at hrest
  rw [hr, List.tail_cons, State.pushFrame, e1, State.setTop_of_frames _ hr, e1]
  exact hrest
/-- what is known of an exception that is on its way: its kind; it is new -/
def zt_ex (X : String) (ax n : Nat) (U : State) (H : Heap) : Prop := n ≤ ax ∧ ∃ ce : Cell, H[ax]? = some ce ∧ U.vm.findClass X = some ce.cls ∧ ce.vm = .none
theorem zt_ex.moved {X : String} {ax n : Nat} {u U : State} {H : Heap} (hvm : u.vm.Alike U.vm) (h : zt_ex X ax n u H) : zt_ex X ax n U H := by
  obtain ⟨h1, ce, h2, h3, h4⟩ := h
  exact ⟨h1, ce, h2, by rw [hvm.findClass]; exact h3, h4⟩
theorem zt_ex.less {X : String} {ax n k : Nat} {U : State} {H : Heap} (h : zt_ex X ax n U H) (hk : k ≤ n) : zt_ex X ax k U H := ⟨Nat.le_trans hk h.1, h.2⟩
/-- no cast from X to Y -/
def zt_no (X Y : String) (U : State) : Prop := ∀ cX cY : ClassId, U.vm.findClass X = some cX → U.vm.findClass Y = some cY → U.vm.assignable cX cY = false
theorem zt_no.moved {X Y : String} {u U : State} (hvm : u.vm.Alike U.vm) (h : zt_no X Y u) : zt_no X Y U := by
  intro cX cY h1 h2
  rw [hvm.findClass] at h1 h2
  rw [hvm.assignable]
  exact h cX cY h1 h2
theorem zt_no.of {X Y : String} {args : Array Value} {s : State} (h : (Cond.not (.castable X Y)).before args s = true) : zt_no X Y s := by
  intro cX cY h1 h2
  have hv := Cond.holds_not_iff.mp h
  simp only [Cond.value, h1, h2] at hv
  exact Option.some.inj hv
section ZH
variable {p : Program} {l : Launch} {e : Env} {R : Room} {s : State} {m : MethodId} {args : Array Value} {below : List Frame} {meth : Method} {c : Code} {H : Heap} {locs : List Loc} {cells slots : Nat} {Q : State → Prop}
/-- caught by the first row of the table -/
theorem zt_catch1 {own X : String} {ax n pc hpc : Nat} {ls : Array Slot} {st : List Value} {x : ExceptionTableEntry} {rest : List ExceptionTableEntry} (hown : s.vm.findClass own = some m.cls)
    (htab : c.exceptionTable.toList = x :: rest) (hx : covers x pc = true) (h0 : x.catchType ≠ 0) (hh : x.handlerPc = hpc) (hlink : (Cond.classLink own x.catchType X).before args s = true) (hcast : (Cond.castable X X).before args s = true)
    (hex : zt_ex X ax n s H) (k : W p l e R s m args below meth c H locs cells slots Q (F0 m hpc ls [.ref ax])) : zt_T p l e R s m args below meth c H locs cells slots Q (F0 m pc ls st) ax := by
  intro T hT S
  obtain ⟨-, ce, hce, hcl, hvm⟩ := hex
  have hpl : e.platform.magicAccessors = ({} : Platform).magicAccessors := by rw [S.admits.platform]
  obtain ⟨cT, hcT, hL⟩ := Cond.classLink_spec hown hlink e.platform hpl
  cases hcT.symm.trans hcl
  obtain ⟨dk, _, _, kt, hd, _, _, _, _, hkt, _, hop⟩ := hL.here
  have hW' : s.WarmedH (T.vm.noted m.cls x.catchType (.cls ce.cls)) := S.warmed.noted hd hop (State.rightAt_cls hL)
  have al := S.warmed.alike
  obtain ⟨kt', hkt', -⟩ := al.2.2 _ _ hkt
  obtain ⟨c1, t1, f1, f2, f3⟩ := Cond.castable_spec hcast
  cases f1.symm.trans hcl
  cases f2.symm.trans hcl
  have fit : T.vm.assignable ce.cls ce.cls = true := by rw [al.assignable]; exact f3
  obtain ⟨t, a1, b1⟩ := k (T.setVm (T.vm.noted m.cls x.catchType (.cls ce.cls))) hT (S.noted hW')
  refine ⟨t, zt_step (g := F0 m pc ls st) (c := c) (pc := x.handlerPc) (vm' := T.vm.noted m.cls x.catchType (.cls ce.cls)) S.here (fun Q E d acts => ?_) (by rw [hh]; exact a1), b1⟩
  rw [W.findHandler_eq (s := (T.setTop (F0 m pc ls st)).pushFrame (.throwing ax)) (f := F0 m pc ls st) (meth := meth) (code := c) S.method' S.code, htab, zt_row (s := (T.setTop (F0 m pc ls st)).pushFrame (.throwing ax)) (f := F0 m pc ls st) (a := ax) (cell := ce) (c := ce.cls) hx h0 (S.warmed.classLinks hL) (by rw [← hT] at hce; exact hce) (fun k z => by rw [hvm] at z; cases z) ⟨kt', hkt'⟩ ⟨kt', hkt'⟩]
  exact iff_of_eq (if_pos fit)
/-- passed by the first row, caught by the second -/
theorem zt_catch2 {own X Y : String} {ax n pc hpc : Nat} {ls : Array Slot} {st : List Value} {x y : ExceptionTableEntry} {rest : List ExceptionTableEntry} (hown : s.vm.findClass own = some m.cls)
    (htab : c.exceptionTable.toList = y :: x :: rest) (hy : covers y pc = true) (hy0 : y.catchType ≠ 0) (hylink : (Cond.classLink own y.catchType Y).before args s = true) (hno : zt_no X Y s)
    (hx : covers x pc = true) (h0 : x.catchType ≠ 0) (hh : x.handlerPc = hpc) (hlink : (Cond.classLink own x.catchType X).before args s = true) (hcast : (Cond.castable X X).before args s = true)
    (hex : zt_ex X ax n s H) (k : W p l e R s m args below meth c H locs cells slots Q (F0 m hpc ls [.ref ax])) : zt_T p l e R s m args below meth c H locs cells slots Q (F0 m pc ls st) ax := by
  intro T hT S
  obtain ⟨-, ce, hce, hcl, hvm⟩ := hex
  have hpl : e.platform.magicAccessors = ({} : Platform).magicAccessors := by rw [S.admits.platform]
  obtain ⟨cT, hcT, hL⟩ := Cond.classLink_spec hown hlink e.platform hpl
  obtain ⟨cY, hcY, hLY⟩ := Cond.classLink_spec hown hylink e.platform hpl
  cases hcT.symm.trans hcl
  obtain ⟨dk, _, _, kt, hd, _, _, _, _, hkt, _, hop⟩ := hL.here
  obtain ⟨dk2, _, _, kt2, hd2, _, _, _, _, hkt2, _, hop2⟩ := hLY.here
  have hW1 : s.WarmedH (T.vm.noted m.cls y.catchType (.cls cY)) := S.warmed.noted hd2 hop2 (State.rightAt_cls hLY)
  have S1 := S.noted hW1
  have hW' : s.WarmedH ((T.vm.noted m.cls y.catchType (.cls cY)).noted m.cls x.catchType (.cls ce.cls)) := hW1.noted hd hop (State.rightAt_cls hL)
  have al := S.warmed.alike
  have al1 := hW1.alike
  obtain ⟨kt', hkt', -⟩ := al.2.2 _ _ hkt
  obtain ⟨kt2', hkt2', -⟩ := al.2.2 _ _ hkt2
  obtain ⟨kt3, hkt3, -⟩ := al1.2.2 _ _ hkt
  obtain ⟨c1, t1, f1, f2, f3⟩ := Cond.castable_spec hcast
  cases f1.symm.trans hcl
  cases f2.symm.trans hcl
  have fit : (T.vm.noted m.cls y.catchType (.cls cY)).assignable ce.cls ce.cls = true := by rw [al1.assignable]; exact f3
  have nofit : T.vm.assignable ce.cls cY = false := by rw [al.assignable]; exact hno _ _ hcl hcY
  obtain ⟨t, a1, b1⟩ := k (T.setVm ((T.vm.noted m.cls y.catchType (.cls cY)).noted m.cls x.catchType (.cls ce.cls))) hT (S.noted hW')
  refine ⟨t, zt_step (g := F0 m pc ls st) (c := c) (pc := x.handlerPc) (vm' := (T.vm.noted m.cls y.catchType (.cls cY)).noted m.cls x.catchType (.cls ce.cls)) S.here (fun Q E d acts => ?_) (by rw [hh]; exact a1), b1⟩
  rw [W.findHandler_eq (s := (T.setTop (F0 m pc ls st)).pushFrame (.throwing ax)) (f := F0 m pc ls st) (meth := meth) (code := c) S.method' S.code, htab, zt_row (s := (T.setTop (F0 m pc ls st)).pushFrame (.throwing ax)) (f := F0 m pc ls st) (a := ax) (cell := ce) (c := cY) hy hy0 (S.warmed.classLinks hLY) (by rw [← hT] at hce; exact hce) (fun k z => by rw [hvm] at z; cases z) ⟨kt', hkt'⟩ ⟨kt2', hkt2'⟩]
  rw [if_neg (show ¬ ((T.setTop (F0 m pc ls st)).pushFrame (.throwing ax)).vm.assignable ce.cls cY = true from fun z => by
    have nf : ((T.setTop (F0 m pc ls st)).pushFrame (.throwing ax)).vm.assignable ce.cls cY = false := nofit
    rw [nf] at z; cases z)]
  refine (zt_row (s := ((T.setTop (F0 m pc ls st)).pushFrame (.throwing ax)).setVm (T.vm.noted m.cls y.catchType (.cls cY))) (f := F0 m pc ls st) (a := ax) (cell := ce) (c := ce.cls) hx h0 (hW1.classLinks hL) (by rw [← hT] at hce; exact hce) (fun k z => by rw [hvm] at z; cases z) ⟨kt3, hkt3⟩ ⟨kt3, hkt3⟩).trans ?_
  exact iff_of_eq (if_pos fit)
end ZH

/-! the call rule, and the row that makes and throws -/
def zt_Q {S : Type} (Rr : Option Value → S → Prop) (E : String → S → Prop) (B : S → State → Prop) (A : Nat → Prop) : Array Value → State → Outcome → State → Prop := fun _ st oc t =>
  ((∃ (v : Option Value) (u : S), oc = .returned v ∧ Rr v u ∧ B u t) ∨ (∃ (ax : Addr) (X : String) (u : S), oc = .threw ax ∧ E X u ∧ B u t ∧ zt_ex X ax st.heap.size t t.heap)) ∧ va_F A st t
section ZK
variable {p : Program} {l : Launch} {e : Env} {R : Room} {s : State} {m : MethodId} {args : Array Value} {below : List Frame} {meth : Method} {c : Code} {H : Heap} {locs : List Loc} {cells slots : Nat} {Q : State → Prop}
variable {pc : Nat} {ls : Array Slot} {rest st0 : List Value} {a : Array Value} {A0 A1 : Nat → Prop} {H0 : Heap} {mc ms : Nat} {free : Addr → Prop}
theorem zt_call {S : Type} {Rr : Option Value → S → Prop} {E : String → S → Prop} {B : S → State → Prop} (hr : zt_Run p l e R s m args below meth c H locs cells slots mc ms (F0 m pc ls st0) rest (zt_Q Rr E B A1 a) free) (hS : va_S A0 H0 H locs) (hA : ∀ q, q < H.size → A1 q → A0 q) (hf : ∀ q, free q → A0 q)
    (kk : ∀ (v : Option Value) (u : S) (t : State) (H1 : Heap) (locs1 : List Loc), t.heap = H1 → s.vm.Alike t.vm → Rr v u → B u t → H.size ≤ H1.size → (∀ q : Nat, q < H.size → ¬ A1 q → H1[q]? = H[q]?) → va_S A0 H0 H1 locs1 → W p l e R s m args below meth c H1 locs1 (cells + mc) (slots + ms) Q (F0 m (pc + 3) ls (v.toList ++ rest)))
    (kt : ∀ (ax : Addr) (X : String) (u : S) (t : State) (H1 : Heap) (locs1 : List Loc), t.heap = H1 → s.vm.Alike t.vm → E X u → B u t → H.size ≤ H1.size → (∀ q : Nat, q < H.size → ¬ A1 q → H1[q]? = H[q]?) → va_S A0 H0 H1 locs1 → zt_ex X ax H.size s H1 → zt_T p l e R s m args below meth c H1 locs1 (cells + mc) (slots + ms) Q (F0 m pc ls rest) ax) :
    W p l e R s m args below meth c H locs cells slots Q (F0 m pc ls st0) := by
  intro T hT X
  have fin : ∀ (H1 : Heap) (L : List Loc), H.size ≤ H1.size → (∀ q : Nat, q < H.size → ¬ A1 q → H1[q]? = H[q]?) → (∀ q ∈ L, free q.base) → va_S A0 H0 H1 (locs ++ L) := fun H1 L hz hk hL =>
    ⟨Nat.le_trans hS.1 hz, fun q h1 h2 => by rw [hk q (Nat.lt_of_lt_of_le h1 hS.1) (fun z => h2 (hA q (Nat.lt_of_lt_of_le h1 hS.1) z))]; exact hS.2.1 q h1 h2, fun q hq => by
      rcases List.mem_append.mp hq with h | h
      · exact hS.2.2 q h
      · exact hf _ (hL q h)⟩
  rcases hr T hT X with ⟨v, st₀, t, T', L, h0, _, X', hL, e1, e2, ⟨hor, hz, hk⟩, st⟩ | ⟨ax, st₀, t, T', L, h0, _, X', hL, e1, e2, ⟨hor, hz, hk⟩, st⟩
  · rcases hor with ⟨w, u, hv, hp, hb⟩ | ⟨ay, Y, u, hv, -⟩
    · cases hv
      rw [h0, ← e1] at hz hk
      obtain ⟨t2, a1, b1⟩ := kk v u t T'.heap (locs ++ L) e1.symm (by rw [← e2]; exact X'.warmed.alike) hp hb hz hk (fin _ L hz hk hL) T' rfl X'
      exact ⟨t2, st t2 a1, b1⟩
    · cases hv
  · rcases hor with ⟨w, u, hv, -⟩ | ⟨ay, Y, u, hv, hp, hb, hex⟩
    · cases hv
    · cases hv
      have al : s.vm.Alike t.vm := by rw [← e2]; exact X'.warmed.alike
      have hex' := hex.moved (U := s) al.symm
      rw [h0, ← e1] at hex'
      rw [h0, ← e1] at hz hk
      obtain ⟨t2, a1, b1⟩ := kt ax Y u t T'.heap (locs ++ L) e1.symm al hp hb hz hk (fin _ L hz hk hL) hex' T' rfl X'
      exact ⟨t2, st t2 a1, b1⟩
/-- ldc_w of a text -/
theorem zt_ldcw {cc : ByteArray} (hexec : p.tables.exec = Jvm.exec) (hb : c.code = cc) {own tx : String} {index : Nat} (hown : s.vm.findClass own = some m.cls) (hword : (Cond.stringRef own index tx).before args s = true) (hdg : decode cc pc = .ok (.ldc_w index, 3))
    (k : ∀ q : Nat, W p l e R s m args below meth c H locs cells slots Q (F0 m (pc + 3) ls (.ref q :: rest))) : W p l e R s m args below meth c H locs cells slots Q (F0 m pc ls rest) := by
  intro T hT X
  obtain ⟨kF, cf, i, q, hk, hcf, hcp, -, hr, -⟩ := Cond.stringRef_spec hown hword
  obtain ⟨t, a1, b1⟩ := k q T hT X
  obtain ⟨kT, hkT, he⟩ := X.warmed.alike.2.2 _ _ hk
  have hres : kT.resolved[index]? = some (some (.string q)) := by
    rcases X.warmed.entry hk hkT index with h | ⟨h, -⟩
    · rw [h]; exact hr
    · rw [hr] at h; cases h
  refine ⟨t, ?_, b1⟩
  jvm_step X.here [hexec, hb, hdg, ldc_w.wp_string (e := e) (s := T) (f := F0 m pc ls rest) X.here.top hkT (by rw [he]; exact hcf) hcp hres]
  exact a1
/-- ldc of a text -/
theorem zt_ldc {cc : ByteArray} (hexec : p.tables.exec = Jvm.exec) (hb : c.code = cc) {own tx : String} {index : Nat} (hown : s.vm.findClass own = some m.cls) (hword : (Cond.stringRef own index tx).before args s = true) (hdg : decode cc pc = .ok (.ldc index, 2))
    (k : ∀ q : Nat, W p l e R s m args below meth c H locs cells slots Q (F0 m (pc + 2) ls (.ref q :: rest))) : W p l e R s m args below meth c H locs cells slots Q (F0 m pc ls rest) := by
  intro T hT X
  obtain ⟨kF, cf, i, q, hk, hcf, hcp, -, hr, hev⟩ := Cond.stringRef_spec hown hword
  obtain ⟨t, a1, b1⟩ := k q T hT X
  exact ⟨t, X.ldcString hexec hown hword hev (g := F0 m pc ls rest) rfl (by rw [hb]; exact hdg) t a1, b1⟩
/-- the two statics of Throwable that its constructor reads: each holds a reference or null, and lies outside A -/
def zt_st (A : Nat → Prop) (U : State) (H : Heap) : Prop := va_Zq "java/lang/Throwable" "UNASSIGNED_STACK" "[Ljava/lang/StackTraceElement;" A U H ∧ va_Zq "java/lang/Throwable" "SUPPRESSED_SENTINEL" "Ljava/util/List;" A U H
/-- new X; dup; ldc; then the constructor and athrow in one: the method ends by throwing -/
theorem zt_ctor {cc : ByteArray} {Qc : Array Value → State → Outcome → State → Prop} {free : Addr → Prop} (hexec : p.tables.exec = Jvm.exec) (hb : c.code = cc) (htr : l.stackTraces = false) {own X : String} {names : List String} {ic q : Nat} (hown : s.vm.findClass own = some m.cls)
    (hfit : Bundle.fit X = true) (hnames : ∀ n ∈ names, Bundle.fit n = true) (hat : ∀ w ∈ Bundle.ownAtoms own ic X names, w.before args s = true) (hlocs : locs = []) {ax : Nat} {cX : ClassId} {kX : Class} (hfX : s.vm.findClass X = some cX) (hkX : s.vm.classes[cX]? = some kX)
    (hcell : H[ax]? = some { cls := cX, slots := kX.instanceTypes.map defaultValue, vm := .none }) (hnew : s.heap.size ≤ ax) (hsize : ls.size = c.maxLocals) (hlocks : meth.locks = false) (hemp : c.exceptionTable.isEmpty = true)
    (hd1 : decode cc pc = .ok (.invokespecial ic, 3)) (hd2 : decode cc (pc + 3) = .ok (.athrow, 1)) (hRf : names.length + 3 < R.frames) (hRl : 1 + (13 * (names.length + 1) + 42) ≤ R.locals)
    (hq : ∀ t : State, s.WarmedH t.vm → s.sameButNew ({ t with vm := s.vm } : State) [] cells slots → (∃ ce : Cell, t.heap[ax]? = some ce ∧ s.vm.findClass X = some ce.cls ∧ ce.vm = .none) → Qc args s (.threw ax) t) :
    W p l e R s m args below meth c H locs cells slots (zt_MQ below Qc args s cells slots free) (F0 m pc ls [.ref q, .ref ax, .ref ax]) := by
  intro T hT S
  subst hlocs
  have htr' : e.platform.stackTraces = false := by rw [S.admits.platform]; exact htr
  obtain ⟨U, hsteps, hrun, hend, hW, hsame, ce, hce, K⟩ := S.ctorThrowS hexec htr' (own := own) (cls := X) (names := names) (ic := ic) hown hfit hnames hat (fun y hy => by cases hy) hfX hkX (a := ax) (by rw [hT]; exact hcell) hnew (msg := .ref q) rfl
    (g := F0 m pc ls [.ref q, .ref ax, .ref ax]) rfl hsize rfl rfl (rest := []) rfl (by rw [hb]; exact hd1) (by rw [hb]; exact hd2) (covers_of_empty hemp _) hRf (by simpa [JFrame.monitorRoom, Value.category] using hRl) hlocks
  exact ⟨U, hsteps, .threw ax, hrun, hend, hq U hW hsame ⟨ce, hce, K.cls, K.vm⟩, [], ⟨hW, hsame⟩, fun q h => by cases h⟩
end ZK
