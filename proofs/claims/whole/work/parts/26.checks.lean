/-! checks: they answer nothing, or throw -/
theorem zk_same {s T : State} {k n : Nat} (h : s.sameButNew T [] k n) : s.heap.size ≤ T.heap.size ∧ ∀ q : Nat, q < s.heap.size → T.heap[q]? = s.heap[q]? := by
  obtain ⟨-, h1, -, -, -, h2⟩ := h
  refine ⟨h1, fun q hq => ?_⟩
  have hc : s.heap[q]? = some s.heap[q] := Array.getElem?_eq_getElem hq
  obtain ⟨c', e1, e2, e3, e4⟩ := h2 q _ hc
  rw [e1, hc, e2]
  congr 1
  have : c'.slots = s.heap[q].slots := by
    apply Array.ext_getElem?
    intro i
    exact e4 i (fun z => by cases z)
  rw [this]
def zk_Q (ok : Prop) (E : String → Prop) (H0 : Heap) : Array Value → State → Outcome → State → Prop := fun _ st oc t =>
  (oc = .returned none ∧ ok ∧ t.heap = H0) ∨ (∃ (ax : Addr) (X : String), oc = .threw ax ∧ E X ∧ zt_ex X ax H0.size t t.heap ∧ H0.size ≤ t.heap.size ∧ ∀ q : Nat, q < H0.size → t.heap[q]? = H0[q]?)
def zk_new (n : Nat) : Addr → Prop := fun q => n ≤ q
section ZKC
variable {p : Program} {l : Launch} {e : Env} {R : Room} {s : State} {m : MethodId} {args : Array Value} {below : List Frame} {meth : Method} {c : Code} {H : Heap} {locs : List Loc} {cells slots : Nat} {Q : State → Prop}
variable {pc : Nat} {ls : Array Slot} {rest st0 : List Value} {a : Array Value} {mc ms : Nat}
theorem zk_call {ok : Prop} {E : String → Prop} (hr : zt_Run p l e R s m args below meth c H locs cells slots mc ms (F0 m pc ls st0) rest (zk_Q ok E H a) (zk_new H.size)) (hz : s.heap.size ≤ H.size)
    (kk : ok → W p l e R s m args below meth c H locs (cells + mc) (slots + ms) Q (F0 m (pc + 3) ls rest))
    (kt : ∀ (ax : Addr) (X : String) (H1 : Heap), E X → zt_ex X ax H.size s H1 → H.size ≤ H1.size → (∀ q : Nat, q < H.size → H1[q]? = H[q]?) → zt_T p l e R s m args below meth c H1 locs (cells + mc) (slots + ms) Q (F0 m pc ls rest) ax) :
    W p l e R s m args below meth c H locs cells slots Q (F0 m pc ls st0) := by
  intro T hT X
  rcases hr T hT X with ⟨v, st₀, t, T', L, h0, _, X', hL, e1, e2, hor, st⟩ | ⟨ax, st₀, t, T', L, h0, _, X', hL, e1, e2, hor, st⟩
  · rcases hor with ⟨hv, hk, hh⟩ | ⟨ay, Y, hv, -⟩
    · cases hv
      obtain ⟨t2, a1, b1⟩ := kk hk T' (by rw [e1, hh]) (Stand.forget X' (fun q h => Nat.le_trans hz (hL q h)))
      exact ⟨t2, st t2 a1, b1⟩
    · cases hv
  · rcases hor with ⟨hv, -⟩ | ⟨ay, Y, hv, hE, hex, h1, h2⟩
    · cases hv
    · cases hv
      have al : s.vm.Alike t.vm := by rw [← e2]; exact X'.warmed.alike
      have hex' := hex.moved (U := s) al.symm
      rw [← e1] at hex' h1 h2
      obtain ⟨t2, a1, b1⟩ := kt ax Y T'.heap hE hex' h1 h2 T' rfl (Stand.forget X' (fun q h => Nat.le_trans hz (hL q h)))
      exact ⟨t2, st t2 a1, b1⟩
/-- what is thrown below goes on upwards -/
theorem zk_on {ok : Prop} {E : String → Prop} {ax : Addr} {X : String} {H1 : Heap} {st : List Value} (hlocks : meth.locks = false) (hemp : c.exceptionTable.isEmpty = true) (hlocs : locs = []) (hE : E X) (hex : zt_ex X ax s.heap.size s H1)
    (h1 : s.heap.size ≤ H1.size) (h2 : ∀ q : Nat, q < s.heap.size → H1[q]? = s.heap[q]?) : zt_T p l e R s m args below meth c H1 locs cells slots (zt_MQ below (zk_Q ok E s.heap) args s cells slots (zk_new s.heap.size)) (F0 m pc ls st) ax := by
  subst hlocs
  refine zt_leave hlocks (covers_of_empty hemp _) (fun t ht hW => Or.inr ⟨ax, X, rfl, hE, ?_, ?_, ?_⟩) (fun q h => by cases h)
  · rw [ht]; exact hex.moved hW.alike
  · rw [ht]; exact h1
  · rw [ht]; exact h2
/-- new X; dup; ldc_w; the constructor; athrow -/
theorem zk_throwW {cc : ByteArray} {ok : Prop} {E : String → Prop} {own X tx : String} {ia ib ic : Nat} (hexec : p.tables.exec = Jvm.exec) (hb : c.code = cc) (htr : l.stackTraces = false) (hown : s.vm.findClass own = some m.cls) (hok : tb_ok s) (hfit : Bundle.fit X = true)
    (hat : ∀ w ∈ Bundle.ownAtoms own ic X zx_up, w.before args s = true) (hcl : Cond.classLink own ia X ∈ lw_tbl) (hins : Cond.instantiable X 6 ∈ lw_tbl) (hini : Cond.initialized X ∈ lw_tbl) (htx : Cond.stringRef own ib tx ∈ lw_tbl) (hsize : ls.size = c.maxLocals) (hlocks : meth.locks = false) (hemp : c.exceptionTable.isEmpty = true)
    (d0 : decode cc pc = .ok (.new ia, 3)) (d1 : decode cc (pc + 3) = .ok (.dup, 1)) (d2 : decode cc (pc + 4) = .ok (.ldc_w ib, 3)) (d3 : decode cc (pc + 7) = .ok (.invokespecial ic, 3)) (d4 : decode cc (pc + 10) = .ok (.athrow, 1))
    (hRf : 5 < R.frames) (hRl : 82 ≤ R.locals) (hRc : cells + 1 ≤ R.cells) (hRs : slots + 6 ≤ R.slots) (hE : E X) :
    W p l e R s m args below meth c s.heap [] cells slots (zt_MQ below (zk_Q ok E s.heap) args s (cells + 1) (slots + 6) (zk_new s.heap.size)) (F0 m pc ls []) := by
  refine W.newc hexec hb hown (hok _ hcl rfl _) (hok _ hins rfl _) (hok _ hini rfl _) (g := F0 m pc ls []) rfl d0 hRc hRs (fun cX kX hfX hkX _ _ => ?_)
  refine W.eq (g2 := F0 m (pc + 3) ls [.ref s.heap.size]) rfl ?_
  refine lv_dup hexec hb d1 rfl ?_
  refine zt_ldcw hexec hb hown (hok _ htx rfl _) d2 (fun q => ?_)
  refine zt_ctor hexec hb htr hown hfit (by decide +kernel) hat rfl hfX hkX (by simp) (Nat.le_refl _) hsize hlocks hemp d3 d4 (by simpa [zx_up] using hRf) (by simpa [zx_up] using hRl) (fun t hW hsm ⟨ce, g1, g2, g3⟩ => ?_)
  obtain ⟨k1, k2⟩ := zk_same hsm
  exact Or.inr ⟨_, X, rfl, hE, ⟨Nat.le_refl _, ce, g1, by rw [hW.alike.findClass]; exact g2, g3⟩, k1, k2⟩
theorem zk_throwL {cc : ByteArray} {ok : Prop} {E : String → Prop} {own X tx : String} {ia ib ic : Nat} (hexec : p.tables.exec = Jvm.exec) (hb : c.code = cc) (htr : l.stackTraces = false) (hown : s.vm.findClass own = some m.cls) (hok : tb_ok s) (hfit : Bundle.fit X = true)
    (hat : ∀ w ∈ Bundle.ownAtoms own ic X zx_up, w.before args s = true) (hcl : Cond.classLink own ia X ∈ lw_tbl) (hins : Cond.instantiable X 6 ∈ lw_tbl) (hini : Cond.initialized X ∈ lw_tbl) (htx : Cond.stringRef own ib tx ∈ lw_tbl) (hsize : ls.size = c.maxLocals) (hlocks : meth.locks = false) (hemp : c.exceptionTable.isEmpty = true)
    (d0 : decode cc pc = .ok (.new ia, 3)) (d1 : decode cc (pc + 3) = .ok (.dup, 1)) (d2 : decode cc (pc + 4) = .ok (.ldc ib, 2)) (d3 : decode cc (pc + 6) = .ok (.invokespecial ic, 3)) (d4 : decode cc (pc + 9) = .ok (.athrow, 1))
    (hRf : 5 < R.frames) (hRl : 82 ≤ R.locals) (hRc : cells + 1 ≤ R.cells) (hRs : slots + 6 ≤ R.slots) (hE : E X) :
    W p l e R s m args below meth c s.heap [] cells slots (zt_MQ below (zk_Q ok E s.heap) args s (cells + 1) (slots + 6) (zk_new s.heap.size)) (F0 m pc ls []) := by
  refine W.newc hexec hb hown (hok _ hcl rfl _) (hok _ hins rfl _) (hok _ hini rfl _) (g := F0 m pc ls []) rfl d0 hRc hRs (fun cX kX hfX hkX _ _ => ?_)
  refine W.eq (g2 := F0 m (pc + 3) ls [.ref s.heap.size]) rfl ?_
  refine lv_dup hexec hb d1 rfl ?_
  refine zt_ldc hexec hb hown (hok _ htx rfl _) d2 (fun q => ?_)
  refine zt_ctor hexec hb htr hown hfit (by decide +kernel) hat rfl hfX hkX (by simp) (Nat.le_refl _) hsize hlocks hemp d3 d4 (by simpa [zx_up] using hRf) (by simpa [zx_up] using hRl) (fun t hW hsm ⟨ce, g1, g2, g3⟩ => ?_)
  obtain ⟨k1, k2⟩ := zk_same hsm
  exact Or.inr ⟨_, X, rfl, hE, ⟨Nat.le_refl _, ce, g1, by rw [hW.alike.findClass]; exact g2, g3⟩, k1, k2⟩
end ZKC
