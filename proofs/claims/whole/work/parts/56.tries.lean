/-! methods with handlers that return: their calls; the call of one that may throw -/
theorem zl_kind (y : MethodName) (b : ByteArray) (n : Nat) (r : Option FieldType) (h : List (Nat × Nat × Nat × Nat)) : tb_kind (Cond.codeWith y b n r h) = true := rfl
section ZLR
variable {p : Program} {l : Launch} {e : Env} {R : Room} {s : State} {m : MethodId} {args : Array Value} {below : List Frame} {meth : Method} {c : Code} {H : Heap} {locs : List Loc} {cells slots : Nat} {Q : State → Prop}
variable {y : MethodName} {bytes cc : ByteArray} {maxL nL mc ms n index : Nat} {ret : Option FieldType} {hh : List (Nat × Nat × Nat × Nat)} {rm : Room} {Pc : Array Value → State → Prop} {Qc : Array Value → State → Outcome → State → Prop} {free : Addr → Prop} {Ts : List Cond} {own C : String} {b : Addr} {As rest : List Value} {g : JFrame}
theorem zl_runS (S : CallFix p m c cc nL s args Ts own) (hM : Met l y [Cond.codeWith y bytes maxL ret hh] rm Pc Qc mc ms free) (hok : tb_ok s) (hcw : Cond.codeWith y bytes maxL ret hh ∈ lw_tbl) (hini : Cond.initialized y.cls ∈ lw_tbl) (hl : Cond.methodLink own index y ∈ lw_tbl) (hstt : Cond.static y ∈ lw_tbl)
    (hrc : rm.cells = mc) (hrs : rm.slots = ms) (hd : y.cls ≠ "java/lang/invoke/MethodHandle" ∧ y.cls ≠ "java/lang/invoke/VarHandle" ∧ (parseMethodDescriptor y.desc).map (fun d => d.parameters.length) = some n) (hR : rm.frames + 1 ≤ R.frames ∧ 8 + (maxL + 11) + rm.locals ≤ R.locals) (hp : PreS s H Pc As)
    (hg : g.method = m) (hn : As.length = n) (hsize : g.locals.size = nL) (hstack : g.stack = As.reverse ++ rest) (hW : 2 * g.monitorRoom + (rest.map fun v => v.category).sum ≤ 8) (hdg : decode cc g.pc = .ok (.invokestatic index, 3)) (hf : cells + mc ≤ R.cells ∧ slots + ms ≤ R.slots) :
    va_Run p l e R s m args below meth c H locs cells slots mc ms g rest (Qc As.toArray) free := by
  have hws : ∀ w ∈ [Cond.codeWith y bytes maxL ret hh], ∀ (a' : Array Value) (U : State), s.WarmedH U.vm → w.before a' U = true := by
    intro w hw a' U hWU
    rw [List.mem_singleton] at hw
    subst hw
    exact hok.warm hWU _ hcw rfl a'
  have hK : Back l R p e below s args y 3 8 (PreOf R mc ms Pc) (PostOf Qc mc ms free) := va_backW (hh := hh) (bytes := bytes) (maxL := maxL) (ret := ret) hM hp.1 hrc hrs hR.1 hR.2 hws List.mem_cons_self (fun a' U hWU => hok.warm hWU _ hini rfl a')
  obtain ⟨hx, hb, hml, ho, -⟩ := S
  have hcode := hok _ hcw rfl args
  intro T hT X
  obtain ⟨mk, methM, cM, hnamed, hmethM, -, -, -, -, -, -, hsigM⟩ := Cond.codeWith_spec hcode
  have hstatic : methM.isStatic = true := Cond.static_spec hnamed hmethM (hok _ hstt rfl args)
  obtain ⟨kP, hkP, -⟩ := className_of_methodNamed hnamed
  have hinitP : kP.init = .initialized := Cond.initialized_spec (findClass_of_methodNamed hnamed) hkP (hok _ hini rfl args)
  have hlen : n = methM.sig.parameters.length := by
    have h2 := hd.2.2
    rw [hsigM] at h2
    exact (Option.some.inj h2).symm
  obtain ⟨vm₁, X₁, hstep₁⟩ := X.invokestatic hx ho (hok _ hl rfl args) hnamed hmethM hstatic hkP hinitP ⟨hd.1, hd.2.1⟩ (g := g) hg (argsL := As) (rest := rest) (hn.trans hlen) hstack (by rw [hb]; exact hdg)
  obtain ⟨v, ⟨U', l2, c2, s2⟩, X', ⟨g', mk', t, L, e1, e2, hq, h1, hL, h2, h3⟩, hsteps⟩ := hK m meth c ⟨T.setVm vm₁, locs, cells, slots⟩ { g with stack := rest } (.invokestatic index) mk As.toArray X₁ hg (hsize.trans hml.symm) (by rw [hb]; exact hdg) hW (X₁.named hnamed) ⟨hf.1, hf.2, hp.2 (T.setVm vm₁) hT X₁.warmed⟩
  dsimp only [Pt.U, Pt.locs, Pt.cells, Pt.slots] at X' e1 e2 h1 h2 h3 hsteps
  subst h1; subst h2; subst h3
  exact ⟨v, (T.setVm vm₁).calling g' mk' As.toArray, t, U', L, hT, X', hL, e1, e2, hq, fun target h => hstep₁ _ fun acts => by rw [doInvoke_state]; exact hsteps.trans h⟩
end ZLR
section ZPL
variable {p : Program} {l : Launch} {e : Env} {R : Room} {s : State} {m : MethodId} {args : Array Value} {below : List Frame} {meth : Method} {c : Code} {H : Heap} {locs : List Loc} {cells slots : Nat} {Q : State → Prop}
variable {pc : Nat} {ls : Array Slot} {rest st0 : List Value} {a : Array Value} {A0 : Nat → Prop} {H0 : Heap} {D : va_G} {mc ms : Nat}
theorem zp_call {v : Option Value} {ok : Prop} {E : String → Prop} {ws wc wc1 wr ws1 : va_W} (hr : zt_Run p l e R s m args below meth c H locs cells slots mc ms (F0 m pc ls st0) rest (zp_Q v ok E D wc wc1 H.size a) (va_A wc H.size)) (hS : va_S A0 H0 H locs) (hP : va_P D cls ws H) (hD : va_D A0 ws) (hA : ∀ q, H0.size ≤ q → A0 q)
    (isC isR perm perm0 : List Nat) (hC : isC.map (fun i => ws[i]?) = wc.map some) (hR : isR.map (fun i => ws[i]?) = wr.map some) (hnR : va_nd isR = true) (hdis : ∀ i ∈ isR, i ∉ isC) (hp : perm.filterMap (fun i => (wr ++ wc1)[i]?) = ws1) (hp2 : perm.map (fun i => (wr ++ wc1)[i]?) = ws1.map some) (hnp : va_nd perm = true)
    (hq : perm0.filterMap (fun i => (wr ++ wc)[i]?) = ws) (hq2 : perm0.map (fun i => (wr ++ wc)[i]?) = ws.map some) (hnq : va_nd perm0 = true)
    (kk : ok → ∀ (H1 : Heap) (locs1 : List Loc), va_P D cls ws1 H1 → va_D A0 ws1 → va_S A0 H0 H1 locs1 → W p l e R s m args below meth c H1 locs1 (cells + mc) (slots + ms) Q (F0 m (pc + 3) ls (v.toList ++ rest)))
    (kt : ∀ (ax : Addr) (X : String) (H1 : Heap) (locs1 : List Loc), E X → zt_ex X ax H.size s H1 → va_P D cls ws H1 → va_D A0 ws → va_S A0 H0 H1 locs1 → zt_T p l e R s m args below meth c H1 locs1 (cells + mc) (slots + ms) Q (F0 m pc ls rest) ax) :
    W p l e R s m args below meth c H locs cells slots Q (F0 m pc ls st0) := by
  intro T hT X
  have hF := va_free (wc := wc) hD hS hA isC hC
  have fin : ∀ (H1 : Heap) (L : List Loc), H.size ≤ H1.size → (∀ q : Nat, q < H.size → ¬ va_A wc H.size q → H1[q]? = H[q]?) → (∀ q ∈ L, va_A wc H.size q.base) → va_S A0 H0 H1 (locs ++ L) := fun H1 L hz hk hL =>
    ⟨Nat.le_trans hS.1 hz, fun q h1 h2 => by rw [hk q (Nat.lt_of_lt_of_le h1 hS.1) (fun z => h2 (hF q z))]; exact hS.2.1 q h1 h2, fun q hq => by
      rcases List.mem_append.mp hq with h | h
      · exact hS.2.2 q h
      · exact hF _ (hL q h)⟩
  rcases hr T hT X with ⟨w, st₀, t, T', L, h0, _, X', hL, e1, e2, ⟨hor, hz, hk⟩, st⟩ | ⟨ax, st₀, t, T', L, h0, _, X', hL, e1, e2, ⟨hor, hz, hk⟩, st⟩
  · rcases hor with ⟨hv, hok, hP1, hD1⟩ | ⟨ay, Y, hv, -⟩
    · cases hv
      rw [h0, ← e1] at hz hk
      rw [← e1] at hP1
      obtain ⟨j1, j2⟩ := va_join (wr := wr) (w1 := wc1) hP hD isC isR hC hR hnR hdis hk hF hP1 hD1
      obtain ⟨t2, a1, b1⟩ := kk hok T'.heap (locs ++ L) (j1.sub perm hp) (j2.sub perm hnp hp2) (fin _ L hz hk hL) T' rfl X'
      exact ⟨t2, st t2 a1, b1⟩
    · cases hv
  · rcases hor with ⟨hv, -⟩ | ⟨ay, Y, hv, hE, hex, hP1, hD1⟩
    · cases hv
    · cases hv
      have al : s.vm.Alike t.vm := by rw [← e2]; exact X'.warmed.alike
      have hex' := hex.moved (U := s) al.symm
      rw [← e1] at hex' hP1
      rw [h0, ← e1] at hz hk
      obtain ⟨j1, j2⟩ := va_join (wr := wr) (w1 := wc) hP hD isC isR hC hR hnR hdis hk hF hP1 hD1
      obtain ⟨t2, a1, b1⟩ := kt ax Y T'.heap (locs ++ L) hE hex' (j1.sub perm0 hq) (j2.sub perm0 hnq hq2) (fin _ L hz hk hL) T' rfl X'
      exact ⟨t2, st t2 a1, b1⟩
end ZPL
/-- the end of a helper of the law: 0 and the answer laid down, or 1 or 2 and all as it was -/
def zl_Q (ok : Prop) (E : String → Prop) (D : va_G) (wc wc1 : va_W) (sz : Nat) : Array Value → State → Outcome → State → Prop := fun _ st oc t =>
  ((oc = .returned (some (.int 0)) ∧ ok ∧ va_P D cls wc1 t.heap ∧ va_D (va_A wc sz) wc1) ∨ (∃ X : String, oc = .returned (some (.int (if X = zx_iae then 1 else 2))) ∧ E X ∧ va_P D cls wc t.heap ∧ va_D (va_A wc sz) wc)) ∧ va_F (va_A wc sz) st t
/-- none of the three is one of the others -/
def zl_no (U : State) : Prop := zt_no zx_ise zx_iae U ∧ zt_no zx_nse zx_iae U
theorem zl_no.moved {u U : State} (hvm : u.vm.Alike U.vm) (h : zl_no u) : zl_no U := ⟨h.1.moved hvm, h.2.moved hvm⟩
theorem zl_tab {y : MethodName} {b : ByteArray} {n : Nat} {r : Option FieldType} {hh : List (Nat × Nat × Nat × Nat)} {args : Array Value} {s : State} {m : MethodId} {meth : Method} {c : Code} (h : (Cond.codeWith y b n r hh).before args s = true) (hn : s.methodNamed? y = some m) (hm : s.vm.method? m = some meth) (hc : meth.code = some c) :
    c.exceptionTable.toList.map (fun h => (h.startPc, h.endPc, h.handlerPc, h.catchType)) = hh := by
  obtain ⟨m9, meth9, c9, e1, e2, e3, -, -, e4, -⟩ := Cond.codeWith_spec h
  cases hn.symm.trans e1
  cases hm.symm.trans e2
  cases hc.symm.trans e3
  exact e4
theorem zl_one {L : List ExceptionTableEntry} {a b k t : Nat} (h : L.map (fun h => (h.startPc, h.endPc, h.handlerPc, h.catchType)) = [(a, b, k, t)]) : ∃ x, L = [x] ∧ x.startPc = a ∧ x.endPc = b ∧ x.handlerPc = k ∧ x.catchType = t := by
  match L, h with
  | [x], h => simp only [List.map_cons, List.map_nil, List.cons.injEq, Prod.mk.injEq, and_true] at h; exact ⟨x, rfl, h.1, h.2.1, h.2.2.1, h.2.2.2⟩
theorem zl_two {L : List ExceptionTableEntry} {a b k t a2 b2 k2 t2 : Nat} (h : L.map (fun h => (h.startPc, h.endPc, h.handlerPc, h.catchType)) = [(a, b, k, t), (a2, b2, k2, t2)]) :
    ∃ x y, L = [x, y] ∧ (x.startPc = a ∧ x.endPc = b ∧ x.handlerPc = k ∧ x.catchType = t) ∧ y.startPc = a2 ∧ y.endPc = b2 ∧ y.handlerPc = k2 ∧ y.catchType = t2 := by
  match L, h with
  | [x, y], h => simp only [List.map_cons, List.map_nil, List.cons.injEq, Prod.mk.injEq, and_true] at h; exact ⟨x, y, rfl, h.1, h.2.1, h.2.2.1, h.2.2.2.1, h.2.2.2.2⟩
theorem zl_cov {x : ExceptionTableEntry} {pc a b : Nat} (h1 : x.startPc = a) (h2 : x.endPc = b) (ha : a ≤ pc) (hb : pc < b) : covers x pc = true := by
  unfold covers
  rw [h1, h2]
  simp [ha, hb]
