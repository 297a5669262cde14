/-! the words at hand, wherever the walk is -/
def tb_kind (w : Cond) : Bool := goodWord w || (match w with
  | .methodLinkNest .. => true
  | .declares _ => true
  | .castable .. => true
  | .stringRef .. => true
  | _ => false)
def tb_ok (U : State) : Prop := ∀ w ∈ lw_tbl, tb_kind w = true → ∀ A : Array Value, w.before A U = true
theorem tb_ref {own tx : String} {k : Nat} {s U : State} {A : Array Value} (hW : s.WarmedH U.vm) (h : (Cond.stringRef own k tx).before A s = true) : (Cond.stringRef own k tx).before A U = true := by
  have h1 := Cond.stringRef_warmed (args := A) hW h
  have hv : (s.setVm U.vm).vm = U.vm := rfl
  first
    | exact va_tabs rfl hv h1
    | (simp only [Cond.before, Cond.holds, Cond.value, State.names, State.poolOf?, State.resolvedAt?, hv] at h1 ⊢; exact h1)
theorem tb_ok.warm {s U : State} (hW : s.WarmedH U.vm) (h : tb_ok s) : tb_ok U := by
  intro w hw hk A
  have h1 := h w hw hk A
  cases w <;> first
    | exact va_Nw.use rfl (va_Nw.warmM hW (va_Nw.of rfl h1))
    | exact va_Nw.use rfl (va_Nw.warmD hW (va_Nw.of rfl h1))
    | exact va_Nw.use rfl (va_Nw.warmC hW (va_Nw.of rfl h1))
    | exact tb_ref hW h1
    | exact word_at hW (good_of_word (by simpa [tb_kind] using hk)) h1
theorem tb_ok.call {U : State} (h : tb_ok U) (g : JFrame) (mk : MethodId) (a : Array Value) : tb_ok (U.calling g mk a) := tb_ok.warm (s := U) (State.WarmedH.refl U) h
theorem tb_in {C : String} {T : u_T} {N : Nat} {s : State} {args : Array Value} (h : tb_ok s) (hin : ∀ w ∈ u_ws C T N, w ∈ lw_tbl ∧ goodWord w = true) : ∀ w ∈ u_ws C T N, w.before args s = true :=
  fun w hw => h w (hin w hw).1 (by unfold tb_kind; rw [(hin w hw).2]; rfl) args
/-! the calls -/
section ZW
variable {p : Program} {l : Launch} {e : Env} {R : Room} {s : State} {m : MethodId} {args : Array Value} {below : List Frame} {meth : Method} {c : Code} {H : Heap} {locs : List Loc} {cells slots : Nat} {Q : State → Prop}
theorem zc_good {y : MethodName} {bytes : ByteArray} {maxL : Nat} {ret : Option FieldType} (hok : tb_ok s) (hcw : Cond.code y bytes maxL ret ∈ lw_tbl) : ∀ w ∈ [Cond.code y bytes maxL ret], ∀ (a' : Array Value) (U : State), s.WarmedH U.vm → w.before a' U = true := by
  intro w hw a' U hW
  rw [List.mem_singleton] at hw
  subst hw
  exact hok.warm hW _ hcw rfl a'
theorem zc_B {own : String} {index maxL mc ms : Nat} {y : MethodName} {bytes : ByteArray} {ret : Option FieldType} {rm : Room} (n : Nat) (hok : tb_ok s) (hcw : Cond.code y bytes maxL ret ∈ lw_tbl) (hini : Cond.initialized y.cls ∈ lw_tbl) (hl : Cond.methodLink own index y ∈ lw_tbl)
    (hrc : rm.cells = mc) (hrs : rm.slots = ms) (hd : y.cls ≠ "java/lang/invoke/MethodHandle" ∧ y.cls ≠ "java/lang/invoke/VarHandle" ∧ (parseMethodDescriptor y.desc).map (fun d => d.parameters.length) = some n) (hR : rm.frames + 1 ≤ R.frames ∧ 8 + (maxL + 11) + rm.locals ≤ R.locals) :
    CallB R s args own index y bytes maxL ret [Cond.code y bytes maxL ret] rm mc ms n := by
  refine ⟨hrc, hrs, hR.1, hR.2, zc_good hok hcw, List.mem_cons_self, hok _ hcw rfl _, hok _ hini rfl _, ⟨hd.1, hd.2.1⟩, fun sig h => ?_, hok _ hl rfl _⟩
  have h2 := hd.2.2
  rw [h] at h2
  exact (Option.some.inj h2).symm
theorem zc_CN {own host : String} {index maxL mc ms : Nat} {y : MethodName} {bytes : ByteArray} {ret : Option FieldType} {rm : Room} (n : Nat) (hok : tb_ok s) (hcw : Cond.code y bytes maxL ret ∈ lw_tbl) (hini : Cond.initialized y.cls ∈ lw_tbl) (hl : Cond.methodLinkNest own index y host ∈ lw_tbl)
    (hrc : rm.cells = mc) (hrs : rm.slots = ms) (hd : y.cls ≠ "java/lang/invoke/MethodHandle" ∧ y.cls ≠ "java/lang/invoke/VarHandle" ∧ (parseMethodDescriptor y.desc).map (fun d => d.parameters.length) = some n) (hR : rm.frames + 1 ≤ R.frames ∧ 8 + (maxL + 11) + rm.locals ≤ R.locals) :
    va_CN R s args own index y host bytes maxL ret [Cond.code y bytes maxL ret] rm mc ms n := by
  refine ⟨⟨hrc, hrs, hR.1, hR.2, zc_good hok hcw, List.mem_cons_self⟩, hok _ hcw rfl _, hok _ hini rfl _, ⟨hd.1, hd.2.1⟩, fun sig h => ?_, hok _ hl rfl _⟩
  have h2 := hd.2.2
  rw [h] at h2
  exact (Option.some.inj h2).symm
/-- a method that changes nothing: its answer -/
def zq (v : Option Value) : Array Value → State → Outcome → State → Prop := fun _ st o t => o = .returned v ∧ t.heap = st.heap
theorem zc_read {v : Option Value} {pc : Nat} {ls : Array Slot} {rest st0 : List Value} {a : Array Value} (hr : va_Run p l e R s m args below meth c H locs cells slots 0 0 (F0 m pc ls st0) rest (zq v a) (fun _ => False))
    (kk : W p l e R s m args below meth c H locs cells slots Q (F0 m (pc + 3) ls (v.toList ++ rest))) : W p l e R s m args below meth c H locs cells slots Q (F0 m pc ls st0) := by
  intro T hT X
  obtain ⟨v', st₀, t, T', L, h0, X', hL, e1, e2, ⟨hv, hh⟩, st⟩ := hr T hT X
  cases hv
  obtain ⟨t2, a1, b1⟩ := kk T' (by rw [e1, hh, h0]) (Stand.forget X' (fun q h => (hL q h).elim))
  exact ⟨t2, st t2 a1, b1⟩
end ZW
abbrev rm_0 : Room := { frames := 0, cells := 0, slots := 0, locals := 0 }
