/-! the third exception: its constructor hands on at another link -/
def zn_rx : ByteArray := prog_20_method_4_code
theorem zn_0 : decode zn_rx 0 = .ok (.aload_n 0, 1) := by decide +kernel
theorem zn_1 : decode zn_rx 1 = .ok (.aload_n 1, 1) := by decide +kernel
theorem zn_2 : decode zn_rx 2 = .ok (.invokespecial 13, 3) := by decide +kernel
theorem zn_5 : decode zn_rx 5 = .ok (.return_, 1) := by decide +kernel
def zn_L : List Cond := Bundle.throwableAtoms ++ Bundle.throwableSAtoms ++ Bundle.passSAtoms zx_nse "java/lang/RuntimeException" 13 zn_rx ++ Bundle.chainSAtoms "java/lang/RuntimeException" ["java/lang/Exception"] ++
  [.instantiable zx_nse 6, .methodLink "StudyAudit" 256 (Bundle.initS zx_nse), .selects zx_nse Bundle.tFill0 Bundle.tFill0, .selects zx_nse Bundle.tFill Bundle.tFill, .isRef (.static Bundle.tN "UNASSIGNED_STACK" Bundle.steD), .isRef (.static Bundle.tN "SUPPRESSED_SENTINEL" Bundle.listD), .fieldLink Bundle.tN 198 Bundle.tN "backtrace" "Ljava/lang/Object;", .lays Bundle.tN Bundle.tN "backtrace" "Ljava/lang/Object;",
   .lays zx_nse Bundle.tN "cause" "Ljava/lang/Throwable;", .lays zx_nse Bundle.tN "stackTrace" Bundle.steD, .lays zx_nse Bundle.tN "suppressedExceptions" Bundle.listD, .lays zx_nse Bundle.tN "detailMessage" "Ljava/lang/String;", .lays zx_nse Bundle.tN "backtrace" "Ljava/lang/Object;"]
set_option maxRecDepth 100000 in
theorem zn_l : zn_L.all (fun w => (decide (w ∈ lw_tbl) && tb_kind w) || decide (w ∈ zx_four)) = true := by decide +kernel
theorem zn_mem {w : Cond} (h : w ∈ Bundle.throwableAtoms ∨ w ∈ Bundle.throwableSAtoms ∨ w ∈ Bundle.passSAtoms zx_nse "java/lang/RuntimeException" 13 zn_rx ∨ w ∈ Bundle.chainSAtoms "java/lang/RuntimeException" ["java/lang/Exception"]) : w ∈ zn_L := by
  unfold zn_L
  simp only [List.mem_append]
  rcases h with h | h | h | h
  · exact Or.inl (Or.inl (Or.inl (Or.inl h)))
  · exact Or.inl (Or.inl (Or.inl (Or.inr h)))
  · exact Or.inl (Or.inl (Or.inr h))
  · exact Or.inl (Or.inr h)
section ZNS
variable {p : Program} {l : Launch} {e : Env} {R : Room} {s : State} {m : MethodId} {args : Array Value} {below : List Frame} {meth : Method} {c : Code} {H : Heap} {cells slots : Nat}
variable {pc : Nat} {ls : Array Slot}
set_option maxHeartbeats 4000000 in
theorem zn_ctor {cc : ByteArray} {Qc : Array Value → State → Outcome → State → Prop} {free : Addr → Prop} (hexec : p.tables.exec = Jvm.exec) (hb : c.code = cc) (htr : l.stackTraces = false) {q : Nat} (hown : s.vm.findClass "StudyAudit" = some m.cls)
    (hat : ∀ w ∈ zn_L, w.before args s = true) {ax : Nat} {cX : ClassId} {kX : Class} (hfX : s.vm.findClass zx_nse = some cX) (hkX : s.vm.classes[cX]? = some kX)
    (hcell : H[ax]? = some { cls := cX, slots := kX.instanceTypes.map defaultValue, vm := .none }) (hnew : s.heap.size ≤ ax) (hsize : ls.size = c.maxLocals) (hlocks : meth.locks = false) (hemp : c.exceptionTable.isEmpty = true)
    (hd1 : decode cc pc = .ok (.invokespecial 256, 3)) (hd2 : decode cc (pc + 3) = .ok (.athrow, 1)) (hRf : 5 < R.frames) (hRl : 82 ≤ R.locals)
    (hq : ∀ t : State, s.WarmedH t.vm → s.sameButNew ({ t with vm := s.vm } : State) [] cells slots → (∃ ce : Cell, t.heap[ax]? = some ce ∧ s.vm.findClass zx_nse = some ce.cls ∧ ce.vm = .none) → Qc args s (.threw ax) t) :
    W p l e R s m args below meth c H [] cells slots (zt_MQ below Qc args s cells slots free) (F0 m pc ls [.ref q, .ref ax, .ref ax]) := by
  intro T0 hT S
  have htr' : e.platform.stackTraces = false := by rw [S.admits.platform]; exact htr
  have howns : e.platform.frameOwnsMonitors = true := by rw [S.admits.platform]
  have hfin : e.platform.finalization = false := by rw [S.admits.platform]
  have hpl : e.platform.magicAccessors = ({} : Platform).magicAccessors := by rw [S.admits.platform]
  have has : ∀ w, w ∈ zn_L → w.holds args s none s [] = true := fun w hw => hat w hw
  obtain ⟨T, Z0, L, -, Y⟩ := ThrowableC.of_atoms (args := args) howns hfin hpl (fun w hw => hat w (zn_mem (Or.inl hw)))
  obtain ⟨Z, M, LZ, LM, hnZ⟩ := Init0T.ofS_atoms (args := args) hpl L Y (fun w hw => hat w (zn_mem (Or.inr (Or.inl hw))))
  obtain ⟨P, LP, hPm, hps⟩ := PassC.ofS_atoms (args := args) (s := s) hpl (X := zx_nse) (Y := "java/lang/RuntimeException") (Bundle.fit_spec (n := zx_nse) (by decide +kernel)).1 (Bundle.fit_spec (n := "java/lang/RuntimeException") (by decide +kernel)).2 zn_0 zn_1 zn_2 zn_5 (fun w hw => hat w (zn_mem (Or.inr (Or.inr (Or.inl hw)))))
  obtain ⟨P', Ps, hlen, LP', hLP, hPm', hsup, hl2⟩ := Bundle.chainS (args := args) hpl hnZ ["java/lang/Exception"] "java/lang/RuntimeException" (by decide +kernel) (by decide +kernel) (fun w hw => hat w (zn_mem (Or.inr (Or.inr (Or.inr hw)))))
  have hl1 : P.sup = P'.m := Option.some.inj (hps.symm.trans hPm')
  have hfP : s.vm.findClass zx_nse = some P.m.cls := findClass_of_methodNamed hPm
  cases Option.some.inj (hfX.symm.trans hfP)
  obtain ⟨c1, kX', hc1, hk, hord, -, -, hn6⟩ := Cond.instantiable_spec (has (.instantiable zx_nse 6) (by decide +kernel))
  cases Option.some.inj (hc1.symm.trans hfP)
  cases Option.some.inj (hkX.symm.trans hk)
  have sel : ∀ (y : MethodName) (k : MethodId), s.methodNamed? y = some k → y.name ≠ "<init>" → y.name ≠ "<clinit>" → (Cond.selects zx_nse y y).holds args s none s [] = true → s.methodFound? y.cls y.name y.desc = some k → selectMethod e.platform s.vm P.m.cls k = .method k := by
    intro y k hy _ _ hsel hfd
    obtain ⟨c2, r2, m2, q1, q2, q3, q4, -⟩ := Cond.selects_spec hsel
    cases Option.some.inj (q1.symm.trans hfP)
    cases Option.some.inj (q2.symm.trans hfd)
    cases Option.some.inj (q3.symm.trans hy)
    rw [Launch.admits_selectMethod S.admits]; exact q4
  have hs0 := sel _ _ Y.fill0 (by decide) (by decide) (has (.selects zx_nse Bundle.tFill0 Bundle.tFill0) (by decide +kernel)) (State.methodFound?_of_named Y.fill0 (by decide))
  have hsF := sel _ _ Y.fill (by decide) (by decide) (has (.selects zx_nse Bundle.tFill Bundle.tFill) (by decide +kernel)) (State.methodFound?_of_named Y.fill (by decide))
  obtain ⟨cS0, hcS0, hiss⟩ := Y.statics
  obtain ⟨u0, hu0⟩ := Cond.staticRefV Y.unassigned L.unassignedStatic L.statics hcS0 hiss (has (.isRef (.static Bundle.tN "UNASSIGNED_STACK" Bundle.steD)) (by decide +kernel))
  obtain ⟨sen, hsen⟩ := Cond.staticRefV Y.sentinel L.sentinelStatic L.statics hcS0 hiss (has (.isRef (.static Bundle.tN "SUPPRESSED_SENTINEL" Bundle.listD)) (by decide +kernel))
  obtain ⟨ci198, i198, fB, hk198, hg198, ha198, hsB, -, hnB, htB, hffB⟩ := Cond.ownField (t := .object "java/lang/Object") Y.found L.cls (by decide +kernel) (has (.fieldLink Bundle.tN 198 Bundle.tN "backtrace" "Ljava/lang/Object;") (by decide +kernel)) (has (.lays Bundle.tN Bundle.tN "backtrace" "Ljava/lang/Object;") (by decide +kernel)) e.platform hpl
  obtain ⟨cS, hcS', heS, -, hkeep⟩ := S.same.2.2.2.2.2 T.aS cS0 hcS0
  have hcS : T0.heap[T.aS]? = some cS := hcS'
  have hcell' : T0.heap[ax]? = some (freshCell P.m.cls kX) := by rw [hT]; exact hcell
  have hkn : cS.vm ≠ .unknown := by
    rw [heS]
    intro hu
    rw [show cS0.vm = .unknown from hu] at hiss
    cases hiss
  have hne : T.aS ≠ ax := Nat.ne_of_lt (Nat.lt_of_lt_of_le (Array.getElem?_eq_some_iff.mp hcS0).1 hnew)
  obtain ⟨iM, hffM⟩ := Y.msg
  obtain ⟨tyC, dC, hdC, hdnC⟩ := Cond.laysAt hfP hk Y.cause (has (.lays zx_nse Bundle.tN "cause" "Ljava/lang/Throwable;") (by decide +kernel))
  obtain ⟨tyS, dS, hdS, hdnS⟩ := Cond.laysAt hfP hk Y.stack (has (.lays zx_nse Bundle.tN "stackTrace" Bundle.steD) (by decide +kernel))
  obtain ⟨tyP, dP, hdP, hdnP⟩ := Cond.laysAt hfP hk Y.supp (has (.lays zx_nse Bundle.tN "suppressedExceptions" Bundle.listD) (by decide +kernel))
  obtain ⟨tyM, dM, hdM, hdnM⟩ := Cond.laysAt hfP hk hffM (has (.lays zx_nse Bundle.tN "detailMessage" "Ljava/lang/String;") (by decide +kernel))
  obtain ⟨tyB, dB, hdB, hdnB⟩ := Cond.laysAt hfP hk hffB (has (.lays zx_nse Bundle.tN "backtrace" "Ljava/lang/Object;") (by decide +kernel))
  have bC := Cond.laysApart hdB hdC hdnB hdnC (by rw [hnB, Y.causeName]; decide)
  have bS := Cond.laysApart hdB hdS hdnB hdnS (by rw [hnB, Y.stackName]; decide)
  have bP := Cond.laysApart hdB hdP hdnB hdnP (by rw [hnB, Y.suppName]; decide)
  have hskip : SkipFacts T e.platform s (fun u => u) u0 ((preparedCellV T.toThrowableT (freshCell P.m.cls kX) ax u0 sen).withEntry T0.cur) := by
    refine ⟨{ ci198 := ci198, i198 := i198, fBack := fB }, ⟨hk198, hg198, ha198, hsB⟩, ?_, fun _ _ => rfl⟩
    have h9 := fresh_default (c := P.m.cls) tyB
    rw [htB] at h9
    simpa [preparedCellV, Cell.setSlot, Cell.withEntry, Array.getElem?_setIfInBounds, bC, bS, bP, bC.symm, bS.symm, bP.symm, defaultValue] using h9
  obtain ⟨tm, mC, cdC, kC, vm1, hnC, -, -, -, -, -, -, -, hW1, st1⟩ := Steps.initColdS (tb := p.tables) (e := e) (below := below) (s := s) (U := T0) S.here hexec S.warmed hpl hown (t := Bundle.initS zx_nse) rfl rfl (by decide +kernel)
    (has (.methodLink "StudyAudit" 256 (Bundle.initS zx_nse)) (by decide +kernel)) (hat (.instanceMethod (Bundle.initS zx_nse)) (by decide +kernel)) (bytes := zn_rx) (maxL := 2) (hat (.code (Bundle.initS zx_nse) zn_rx 2 none) (by decide +kernel))
    (f := F0 m pc ls [.ref q, .ref ax, .ref ax]) rfl (a := ax) (msg := .ref q) (rest := [.ref ax]) rfl (by rw [hb]; exact hd1)
  cases Option.some.inj (hnC.symm.trans hPm)
  have S1 := S.noted hW1
  obtain ⟨vm2, S2, st2⟩ := S1.ctorMessageOffV hexec (g := F0 m pc ls [.ref ax]) rfl hsize T L Z LZ M LM (P :: P' :: Ps)
    (fun Q9 hQ9 => by
      rcases List.mem_cons.mp hQ9 with rfl | hQ9
      · exact LP
      · rcases List.mem_cons.mp hQ9 with rfl | hQ9
        · exact LP'
        · exact hLP Q9 hQ9) ⟨hl1, hsup, hl2⟩ (u0 := u0) (sen := sen) (self := ax) (msg := .ref q) rfl (cell := freshCell P.m.cls kX) (cellS := cS)
    hcell' (fun _ => by simp) (by simp) rfl rfl hs0 hsF hcS hne hkn (by rw [hkeep _ (fun z => by cases z)]; exact hu0) (by rw [hkeep _ (fun z => by cases z)]; exact hsen)
    (Takes.of_laid hk hord tyC (by rw [Y.causeType]; rfl)) (Takes.of_laid hk hord tyS (by rw [Y.stackType]; exact fits_refV_array _ u0)) (Takes.of_laid hk hord tyP (by rw [Y.suppType]; exact fits_refV_object _ sen))
    (Takes.of_laid hk hord tyM (by rw [Y.msgType]; exact fits_refV_object _ ⟨.ref q, rfl⟩)) Y.objLocals hskip htr' [] (by rw [hb]; exact hd1)
    (by simp only [List.length_cons, hlen]; simpa using hRf) (by simp only [List.length_cons, hlen]; simpa [JFrame.monitorRoom, Value.category] using hRl)
  obtain ⟨hwalk, hrun, hended, hWU, hsame⟩ := S2.athrowLeaves hexec (g := F0 m (pc + 3) ls [.ref ax]) rfl rfl rfl (covers_of_empty hemp _) (a := ax) (rest := []) rfl (by rw [hb]; exact hd2)
  have hlt : ax < ((T0.setVm vm1).setVm vm2).heap.size := (Array.getElem?_eq_some_iff.mp hcell').1
  have hU := heapAt_setCell_self (s := (T0.setVm vm1).setVm vm2) (plainBareV T.toThrowableT (freshCell P.m.cls kX) ax u0 sen (.ref q)) hlt
  have hsm := hsame.weaken (l' := []) (fun y hy hlt' => by
    exfalso
    have hb9 : y.base = ax := by
      simp only [List.nil_append, List.mem_cons, List.not_mem_nil, or_false] at hy
      rcases hy with rfl | rfl | rfl | rfl | rfl <;> rfl
    rw [hb9] at hlt'
    exact Nat.not_lt.mpr hnew hlt') (Nat.le_refl _) (Nat.le_refl _)
  refine ⟨_, st1 _ (fun acts => ?_), .threw ax, hrun, hended, hq _ hWU hsm ⟨_, hU, hfP, rfl⟩, [], ⟨hWU, hsm⟩, fun q h => by cases h⟩
  rw [doInvoke_state]
  exact st2 _ hwalk
/-- new NoSuchElementException; dup; ldc; the constructor; athrow -/
theorem zn_throw {cc : ByteArray} {ok : Prop} {E : String → Prop} {tx : String} {ia ib : Nat} (hexec : p.tables.exec = Jvm.exec) (hb : c.code = cc) (htr : l.stackTraces = false) (hown : s.vm.findClass "StudyAudit" = some m.cls) (hok : tb_ok s) (hs : zs_ok s s.heap)
    (hcl : Cond.classLink "StudyAudit" ia zx_nse ∈ lw_tbl) (hins : Cond.instantiable zx_nse 6 ∈ lw_tbl) (hini : Cond.initialized zx_nse ∈ lw_tbl) (htx : Cond.stringRef "StudyAudit" ib tx ∈ lw_tbl) (hsize : ls.size = c.maxLocals) (hlocks : meth.locks = false) (hemp : c.exceptionTable.isEmpty = true)
    (d0 : decode cc pc = .ok (.new ia, 3)) (d1 : decode cc (pc + 3) = .ok (.dup, 1)) (d2 : decode cc (pc + 4) = .ok (.ldc ib, 2)) (d3 : decode cc (pc + 6) = .ok (.invokespecial 256, 3)) (d4 : decode cc (pc + 9) = .ok (.athrow, 1))
    (hRf : 5 < R.frames) (hRl : 82 ≤ R.locals) (hRc : cells + 1 ≤ R.cells) (hRs : slots + 6 ≤ R.slots) (hE : E zx_nse) :
    W p l e R s m args below meth c s.heap [] cells slots (zt_MQ below (zk_Q ok E s.heap) args s (cells + 1) (slots + 6) (zk_new s.heap.size)) (F0 m pc ls []) := by
  refine W.newc hexec hb hown (hok _ hcl rfl _) (hok _ hins rfl _) (hok _ hini rfl _) (g := F0 m pc ls []) rfl d0 hRc hRs (fun cX kX hfX hkX _ _ => ?_)
  refine W.eq (g2 := F0 m (pc + 3) ls [.ref s.heap.size]) rfl ?_
  refine lv_dup hexec hb d1 rfl ?_
  refine zt_ldc hexec hb hown (hok _ htx rfl _) d2 (fun q => ?_)
  refine zn_ctor hexec hb htr hown (zx_use hok hs zn_l) hfX hkX (by simp) (Nat.le_refl _) hsize hlocks hemp d3 d4 hRf hRl (fun t hW hsm ⟨ce, g1, g2, g3⟩ => ?_)
  obtain ⟨k1, k2⟩ := zk_same hsm
  exact Or.inr ⟨_, zx_nse, rfl, hE, ⟨Nat.le_refl _, ce, g1, by rw [hW.alike.findClass]; exact g2, g3⟩, k1, k2⟩
end ZNS
