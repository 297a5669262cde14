/-! making: arrays of the classes that are known, constructors' ends -/
def zo (D : va_G) (F : (Nat → Nat) → va_W) (A : Nat → Prop) : Array Value → State → Outcome → State → Prop := fun _ st oc t => (oc = .returned none ∧ ∃ a : Nat → Nat, va_P D cls (F a) t.heap ∧ va_D A (F a)) ∧ va_F A st t
section ZMK
variable {p : Program} {l : Launch} {e : Env} {R : Room} {s : State} {m : MethodId} {args : Array Value} {below : List Frame} {meth : Method} {c : Code} {H : Heap} {locs : List Loc} {cells slots : Nat} {Q : State → Prop}
variable {pc : Nat} {ls : Array Slot} {rest st0 : List Value} {a : Array Value} {A0 : Nat → Prop} {H0 : Heap} {D : va_G} {cc : ByteArray}
theorem zn_one {cA cB : ClassId} {ty : FieldType} {tys : List (ClassId × FieldType)} {cl : List vw_C} (hK : va_K D cl tys s) (t0 : Nat) (ht : tys[t0]? = some (cB, ty)) (hK1 : va_K D cl (tys ++ [(cA, ty)]) s) : cA = cB := by
  have h1 := (hK.2 t0 _ ht).2
  have h2 := (hK1.2 tys.length (cA, ty) (by simp)).2
  have nm : ∀ {c : ClassId}, va_RA s c ty → s.vm.findClass ("[" ++ ty.toString) = some c := by
    intro c h
    cases ty with
    | object C => obtain ⟨-, -, -, -, -, h4⟩ := h; exact h4
    | _ => exact h
  exact Option.some.inj ((nm h2).symm.trans (nm h1))
theorem zn_arr {atype : ArrayType} {ty : FieldType} {tys : List (ClassId × FieldType)} {ws : va_W} {cB : ClassId} (hexec : p.tables.exec = Jvm.exec) (hb : c.code = cc) (harr : (Cond.arrayClass (newarray.typeOf atype)).before args s = true) (hty : newarray.typeOf atype = ty) (hK : va_K D cls tys s) (t0 : Nat) (ht : tys[t0]? = some (cB, ty)) (hP : va_P D cls ws H) (hD : va_D A0 ws) (hS : va_S A0 H0 H locs) (hA : ∀ q, H0.size ≤ q → A0 q)
    {n : Int32} {N' : Nat} {a0 : vp_A} (ha : ∀ cA : ClassId, vp_cell cA a0 = arrV cA N' (fun _ => defaultValue ty)) (hn : ¬ n < 0) (hN : n.toNatClampNeg = N') (hbytes : N' * componentBytes ty ≤ 536870912) (hcells : cells + 1 ≤ R.cells) (hslots : slots + N' ≤ R.slots) (hdg : decode cc pc = .ok (.newarray atype, 2))
    (kk : ∀ (q : Nat) (H1 : Heap), va_P D cls (ws ++ [(q, .inl (cB, a0))]) H1 → va_D A0 (ws ++ [(q, .inl (cB, a0))]) → va_S A0 H0 H1 locs →
      W p l e R s m args below meth c H1 locs (cells + 1) (slots + N') Q (F0 m (pc + 2) ls (.ref q :: rest))) : W p l e R s m args below meth c H locs cells slots Q (F0 m pc ls (.int n :: rest)) := by
  refine va_newa hexec hb harr hty hK hP hD hS hA ha hn hN hbytes hcells hslots hdg (fun q cA H1 hK1 hP1 hD1 hS1 => ?_)
  cases zn_one hK t0 ht hK1
  exact kk q H1 hP1 hD1 hS1
theorem zn_obj {own C : String} {index : Nat} {tys : List (ClassId × FieldType)} {ws : va_W} {cB : ClassId} (hexec : p.tables.exec = Jvm.exec) (hb : c.code = cc) (hown : s.vm.findClass own = some m.cls) (hclink : (Cond.classLink own index C).before args s = true) (hover : va_AO C s) (hK : va_K D cls tys s) (t0 : Nat) (ht : tys[t0]? = some (cB, .object C)) (hP : va_P D cls ws H) (hD : va_D A0 ws) (hS : va_S A0 H0 H locs) (hA : ∀ q, H0.size ≤ q → A0 q)
    {n : Int32} {N' : Nat} (hn : ¬ n < 0) (hN : n.toNatClampNeg = N') (hbytes : N' * 4 ≤ 536870912) (hcells : cells + 1 ≤ R.cells) (hslots : slots + N' ≤ R.slots) (hdg : decode cc pc = .ok (.anewarray index, 3))
    (kk : ∀ (q : Nat) (H1 : Heap), va_P D cls (ws ++ [(q, .inl (cB, N', .inr (.inr (.inr (.inr (fun _ => none))))))]) H1 → va_D A0 (ws ++ [(q, .inl (cB, N', .inr (.inr (.inr (.inr (fun _ => none))))))]) → va_S A0 H0 H1 locs →
      W p l e R s m args below meth c H1 locs (cells + 1) (slots + N') Q (F0 m (pc + 3) ls (.ref q :: rest))) : W p l e R s m args below meth c H locs cells slots Q (F0 m pc ls (.int n :: rest)) := by
  refine va_newq hexec hb hown hclink hover hK hP hD hS hA hn hN hbytes hcells hslots hdg (fun q cA H1 hK1 hP1 hD1 hS1 => ?_)
  cases zn_one hK t0 ht hK1
  exact kk q H1 hP1 hD1 hS1
theorem zc_make {F : (Nat → Nat) → va_W} {mc ms : Nat} {ws wc wr : va_W} (hr : va_Run p l e R s m args below meth c H locs cells slots mc ms (F0 m pc ls st0) rest (zo D F (va_A wc H.size) a) (va_A wc H.size)) (hS : va_S A0 H0 H locs) (hP : va_P D cls ws H) (hD : va_D A0 ws) (hA : ∀ q, H0.size ≤ q → A0 q)
    (isC isR : List Nat) (hC : isC.map (fun i => ws[i]?) = wc.map some) (hR : isR.map (fun i => ws[i]?) = wr.map some) (hnR : va_nd isR = true) (hdis : ∀ i ∈ isR, i ∉ isC)
    (kk : ∀ (b : Nat → Nat) (H1 : Heap) (locs1 : List Loc), va_P D cls (wr ++ F b) H1 → va_D A0 (wr ++ F b) → va_S A0 H0 H1 locs1 → W p l e R s m args below meth c H1 locs1 (cells + mc) (slots + ms) Q (F0 m (pc + 3) ls rest)) : W p l e R s m args below meth c H locs cells slots Q (F0 m pc ls st0) := by
  intro T hT X
  obtain ⟨v', st₀, t, T', L, h0, X', hL, e1, e2, ⟨⟨hv, b, hP1, hD1⟩, hz, hk⟩, st⟩ := hr T hT X
  cases hv
  have hF := va_free (wc := wc) hD hS hA isC hC
  rw [h0, ← e1] at hz hk
  rw [← e1] at hP1
  obtain ⟨j1, j2⟩ := va_join (wr := wr) (w1 := F b) hP hD isC isR hC hR hnR hdis hk hF hP1 hD1
  obtain ⟨t2, a1, b1⟩ := kk b T'.heap (locs ++ L) j1 j2 ⟨Nat.le_trans hS.1 hz, fun q h1 h2 => by rw [hk q (Nat.lt_of_lt_of_le h1 hS.1) (fun z => h2 (hF q z))]; exact hS.2.1 q h1 h2, fun q hq => by
    rcases List.mem_append.mp hq with h | h
    · exact hS.2.2 q h
    · exact hF _ (hL q h)⟩ T' rfl X'
  exact ⟨t2, st t2 a1, b1⟩
end ZMK
abbrev zz : Nat → Int32 := fun _ => 0
abbrev zzL : Nat → Int64 := fun _ => 0
theorem z_nar (cA : ClassId) (n : Nat) : vp_cell cA (n, .inl zz) = arrV cA n (fun _ => defaultValue .int) := rfl
theorem z_narZ (cA : ClassId) (n : Nat) : vp_cell cA (n, .inl zz) = arrV cA n (fun _ => defaultValue .boolean) := rfl
theorem z_narL (cA : ClassId) (n : Nat) : vp_cell cA (n, .inr (.inl zzL)) = arrV cA n (fun _ => defaultValue .long) := rfl
theorem z_obi : object_method_1_code = ⟨#[0xb1]⟩ := rfl
theorem z_b4 {n : Nat} (h : n ≤ 1000) : n * componentBytes .int ≤ 536870912 := by have e : componentBytes .int = 4 := rfl; rw [e]; omega
theorem z_b8 {n : Nat} (h : n ≤ 1000) : n * componentBytes .long ≤ 536870912 := by have e : componentBytes .long = 8 := rfl; rw [e]; omega
theorem z_b1 {n : Nat} (h : n ≤ 1000) : n * componentBytes .boolean ≤ 536870912 := by have e : componentBytes .boolean = 1 := rfl; rw [e]; omega
theorem z_bq {n : Nat} (h : n ≤ 1000) : n * 4 ≤ 536870912 := by omega
