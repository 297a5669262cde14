/-! the statics of Throwable that its constructor reads -/
def zt_S1 (O f d : String) (U : State) (H : Heap) (a : Nat) : Prop := ∃ (c : ClassId) (k : Class) (i : Nat) (fd : Field) (cell : Cell) (v : Value), U.vm.findClass O = some c ∧ U.fieldFound? O f d = some (c, k, i, fd) ∧ fd.isStatic = true ∧ k.statics = some a ∧ H[a]? = some cell ∧ cell.vm.isStatics = true ∧ cell.cls = c ∧
  fd.slot < cell.slots.size ∧ k.staticTypes[fd.slot]? = some fd.type ∧ cell.slots[fd.slot]? = some v ∧ (v = .null ∨ ∃ x, v = .ref x)
theorem zt_S1.of {O f d : String} {args : Array Value} {s : State} (h1 : (Cond.laysStatic O f d).before args s = true) (h2 : (Cond.isRef (.static O f d)).before args s = true) : ∃ a, zt_S1 O f d s s.heap a := by
  obtain ⟨c, k, i, fd, a, cell, hc, hf, hst, hsta, hcell, hiss, hcls, hlt, hty⟩ := Cond.laysStatic_spec h1
  have hv : cell.slots[fd.slot]? = some cell.slots[fd.slot] := Array.getElem?_eq_getElem hlt
  have he : (Term.static O f d).eval args s none [] s = some cell.slots[fd.slot] := by
    simp [Term.eval, State.fieldNamed?, hf, hst, hsta, hcell, hiss, hv]
  refine ⟨a, c, k, i, fd, cell, _, hc, hf, hst, hsta, hcell, hiss, hcls, hlt, hty, hv, ?_⟩
  simp only [Cond.before, Cond.holds, Cond.value, he] at h2
  cases hx : cell.slots[fd.slot] <;> simp [hx] at h2 ⊢
theorem zt_S1.lays {O f d : String} {args : Array Value} {s : State} {a : Nat} (h : zt_S1 O f d s s.heap a) : (Cond.laysStatic O f d).before args s = true := by
  obtain ⟨c, k, i, fd, cell, v, hc, hf, hst, hsta, hcell, hiss, hcls, hlt, hty, hv, hr⟩ := h
  simp [Cond.before, Cond.holds, Cond.value, hc, hf, hst, hsta, hcell, hiss, hcls, hlt, hty]
theorem zt_S1.isRef {O f d : String} {args : Array Value} {s : State} {a : Nat} (h : zt_S1 O f d s s.heap a) : (Cond.isRef (.static O f d)).before args s = true := by
  obtain ⟨c, k, i, fd, cell, v, hc, hf, hst, hsta, hcell, hiss, hcls, hlt, hty, hv, hr⟩ := h
  have he : (Term.static O f d).eval args s none [] s = some v := by
    simp [Term.eval, State.fieldNamed?, hf, hst, hsta, hcell, hiss, hv]
  simp only [Cond.before, Cond.holds, Cond.value, he]
  rcases hr with e | ⟨x, e⟩ <;> simp [e]
theorem zt_S1.moved {O f d : String} {u U : State} {H : Heap} {a : Nat} (hvm : u.vm.Alike U.vm) (h : zt_S1 O f d u H a) : zt_S1 O f d U H a := by
  obtain ⟨c, k, i, fd, cell, v, hc, hf, hst, hsta, hcell, hiss, hcls, hlt, hty, hv, hr⟩ := h
  obtain ⟨k', hi', he⟩ := State.fieldFound?_setVm hvm hf
  refine ⟨c, k', i, fd, cell, v, by rw [hvm.findClass]; exact hc, hi', hst, ?_, hcell, hiss, hcls, hlt, ?_, hv, hr⟩
  · rw [he]; exact hsta
  · rw [he]; exact hty
theorem zt_S1.kept {O f d : String} {U : State} {H H1 : Heap} {a : Nat} (h : zt_S1 O f d U H a) (hq : H1[a]? = H[a]?) : zt_S1 O f d U H1 a := by
  obtain ⟨c, k, i, fd, cell, v, hc, hf, hst, hsta, hcell, hr⟩ := h
  exact ⟨c, k, i, fd, cell, v, hc, hf, hst, hsta, by rw [hq]; exact hcell, hr⟩
/-- both of them, and that no cell of a world is theirs -/
def zs_ok (U : State) (H : Heap) : Prop := ∃ a b, zt_S1 "java/lang/Throwable" "UNASSIGNED_STACK" "[Ljava/lang/StackTraceElement;" U H a ∧ zt_S1 "java/lang/Throwable" "SUPPRESSED_SENTINEL" "Ljava/util/List;" U H b
theorem zs_ok.moved {u U : State} {H : Heap} (hvm : u.vm.Alike U.vm) (h : zs_ok u H) : zs_ok U H := by
  obtain ⟨a, b, h1, h2⟩ := h
  exact ⟨a, b, h1.moved hvm, h2.moved hvm⟩
theorem zt_S1.off {O f d : String} {U : State} {H : Heap} {a : Nat} {D : va_G} {cl : List vw_C} {ws : va_W} (h : zt_S1 O f d U H a) (hP : va_P D cl ws H) : ¬ va_A ws H.size a := by
  obtain ⟨c, k, i, fd, cell, v, hc, hf, hst, hsta, hcell, hiss, hr⟩ := h
  intro hA
  rcases hA with ⟨j, e, hj⟩ | hA
  · have hat := hP j _ hj
    unfold va_at at hat
    cases e with
    | inl x =>
      dsimp only at hat
      have := Option.some.inj (hcell.symm.trans hat)
      subst this
      obtain ⟨cA, n, q⟩ := x
      rcases q with q | q | q | q | q <;> (simp [vp_cell, arrV, VmData.isStatics] at hiss)
    | inr x =>
      dsimp only at hat
      obtain ⟨r, -, cell', q1, q2, q3, q4⟩ := hat
      have := Option.some.inj (hcell.symm.trans q1)
      subst this
      rw [q3] at hiss
      cases hiss
  · have hlt : a < H.size := (Array.getElem?_eq_some_iff.mp hcell).1
    omega
theorem zs_ok.kept {s U : State} {H : Heap} {D : va_G} {cl : List vw_C} {ws : va_W} {locs : List Loc} (h : zs_ok s s.heap) (hP : va_P D cl ws s.heap) (hS : va_S (va_A ws s.heap.size) s.heap H locs) (hvm : s.vm.Alike U.vm) : zs_ok U H := by
  obtain ⟨a, b, h1, h2⟩ := h
  have lt : ∀ {O f d : String} {x : Nat}, zt_S1 O f d s s.heap x → x < s.heap.size := fun h => by
    obtain ⟨c, k, i, fd, cell, v, hc, hf, hst, hsta, hcell, hr⟩ := h
    exact (Array.getElem?_eq_some_iff.mp hcell).1
  exact ⟨a, b, (h1.kept (hS.2.1 a (lt h1) (h1.off hP))).moved hvm, (h2.kept (hS.2.1 b (lt h2) (h2.off hP))).moved hvm⟩
