/-! more readers (rows by program) -/
def zu (x y : Int32) : Int32 := (x.toUInt32 >>> (y.toUInt32 &&& Int32.toUInt32 31)).toInt32
def zbc1 (x : Int32) : Int32 := x - (zu x 1 &&& 1431655765)
def zbc2 (x : Int32) : Int32 := (x &&& 858993459) + (zu x 2 &&& 858993459)
def zbc3 (x : Int32) : Int32 := (x + zu x 4) &&& 252645135
def zbc4 (x : Int32) : Int32 := x + zu x 8
def zbc5 (x : Int32) : Int32 := x + zu x 16
def zbc (x : Int32) : Int32 := zbc5 (zbc4 (zbc3 (zbc2 (zbc1 x)))) &&& 63
abbrev ro_IN_bitCount : Room := { frames := 0, cells := 0, slots := 0, locals := 0 }
set_option maxHeartbeats 4000000 in
set_option maxRecDepth 100000 in
theorem m_IN_bitCount (l : Launch) (x : Int32) : Met l y_IN_bitCount [Cond.code y_IN_bitCount b_IN_bitCount 1 (some .int)] ro_IN_bitCount (va_Pc [.int x] (fun U => tb_ok U)) (zq (some (.int (zbc x)))) 0 0 (fun _ => False) := by
  refine va_MetF (cc := b_IN_bitCount) (maxL := 1) (ret := (some .int)) (by decide +kernel) rfl ?_
  intro p e s m args below meth c s₁ B hml hv
  obtain ⟨rfl, hok⟩ := hv
  have hx := B.exec
  have hb := B.bytes
  have hr := B.returns
  have hown : s.vm.findClass "java/lang/Integer" = some m.cls := findClass_of_methodNamed B.named
  have hlocks := B.notSynchronized
  have hl := lv_entry ([.int x]) (n := 1) (Nat.le_of_ble_eq_true rfl)
  rw [lg_entry_eq]
  generalize (lg_sl ([.int x]) ++ List.replicate (1 - (lg_sl ([.int x])).length) Slot.unset).toArray = ls at hl ⊢
  have hl : lv_has ls 1 [(0, .int x)] := hl
  refine lv_iload_n hx hb d_IN_bitCount_0 rfl (lv_at hl 0 rfl) ?_
  refine lv_iload_n hx hb d_IN_bitCount_1 rfl (lv_at hl 0 rfl) ?_
  refine lv_iconst (v := 1) hx hb d_IN_bitCount_2 (by decide) ?_
  refine lv_iushr (v := (x.toUInt32 >>> ((1 : Int32).toUInt32 &&& Int32.toUInt32 31)).toInt32) hx hb d_IN_bitCount_3 rfl ?_
  refine lv_ldcw (v := 1431655765) hx hb hown (hok _ t_615 rfl _) d_IN_bitCount_4 ?_
  refine lv_iand hx hb d_IN_bitCount_7 ?_
  refine lv_isub hx hb d_IN_bitCount_8 ?_
  refine lv_istore_n hx hb d_IN_bitCount_9 rfl hl (by decide) rfl (fun ls hl => ?_)
  have hl : lv_has ls 1 [(0, .int (x - (((x.toUInt32 >>> ((1 : Int32).toUInt32 &&& Int32.toUInt32 31)).toInt32) &&& (1431655765 : Int32))))] := hl
  refine lv_iload_n hx hb d_IN_bitCount_10 rfl (lv_at hl 0 rfl) ?_
  refine lv_ldcw (v := 858993459) hx hb hown (hok _ t_616 rfl _) d_IN_bitCount_11 ?_
  refine lv_iand hx hb d_IN_bitCount_14 ?_
  refine lv_iload_n hx hb d_IN_bitCount_15 rfl (lv_at hl 0 rfl) ?_
  refine lv_iconst (v := 2) hx hb d_IN_bitCount_16 (by decide) ?_
  refine lv_iushr (v := ((x - (((x.toUInt32 >>> ((1 : Int32).toUInt32 &&& Int32.toUInt32 31)).toInt32) &&& (1431655765 : Int32))).toUInt32 >>> ((2 : Int32).toUInt32 &&& Int32.toUInt32 31)).toInt32) hx hb d_IN_bitCount_17 rfl ?_
  refine lv_ldcw (v := 858993459) hx hb hown (hok _ t_616 rfl _) d_IN_bitCount_18 ?_
  refine lv_iand hx hb d_IN_bitCount_21 ?_
  refine lv_iadd hx hb d_IN_bitCount_22 ?_
  refine lv_istore_n hx hb d_IN_bitCount_23 rfl hl (by decide) rfl (fun ls hl => ?_)
  have hl : lv_has ls 1 [(0, .int (((x - (((x.toUInt32 >>> ((1 : Int32).toUInt32 &&& Int32.toUInt32 31)).toInt32) &&& (1431655765 : Int32))) &&& (858993459 : Int32)) + ((((x - (((x.toUInt32 >>> ((1 : Int32).toUInt32 &&& Int32.toUInt32 31)).toInt32) &&& (1431655765 : Int32))).toUInt32 >>> ((2 : Int32).toUInt32 &&& Int32.toUInt32 31)).toInt32) &&& (858993459 : Int32))))] := hl
  refine lv_iload_n hx hb d_IN_bitCount_24 rfl (lv_at hl 0 rfl) ?_
  refine lv_iload_n hx hb d_IN_bitCount_25 rfl (lv_at hl 0 rfl) ?_
  refine lv_iconst (v := 4) hx hb d_IN_bitCount_26 (by decide) ?_
  refine lv_iushr (v := ((((x - (((x.toUInt32 >>> ((1 : Int32).toUInt32 &&& Int32.toUInt32 31)).toInt32) &&& (1431655765 : Int32))) &&& (858993459 : Int32)) + ((((x - (((x.toUInt32 >>> ((1 : Int32).toUInt32 &&& Int32.toUInt32 31)).toInt32) &&& (1431655765 : Int32))).toUInt32 >>> ((2 : Int32).toUInt32 &&& Int32.toUInt32 31)).toInt32) &&& (858993459 : Int32))).toUInt32 >>> ((4 : Int32).toUInt32 &&& Int32.toUInt32 31)).toInt32) hx hb d_IN_bitCount_27 rfl ?_
  refine lv_iadd hx hb d_IN_bitCount_28 ?_
  refine lv_ldcw (v := 252645135) hx hb hown (hok _ t_617 rfl _) d_IN_bitCount_29 ?_
  refine lv_iand hx hb d_IN_bitCount_32 ?_
  refine lv_istore_n hx hb d_IN_bitCount_33 rfl hl (by decide) rfl (fun ls hl => ?_)
  have hl : lv_has ls 1 [(0, .int (((((x - (((x.toUInt32 >>> ((1 : Int32).toUInt32 &&& Int32.toUInt32 31)).toInt32) &&& (1431655765 : Int32))) &&& (858993459 : Int32)) + ((((x - (((x.toUInt32 >>> ((1 : Int32).toUInt32 &&& Int32.toUInt32 31)).toInt32) &&& (1431655765 : Int32))).toUInt32 >>> ((2 : Int32).toUInt32 &&& Int32.toUInt32 31)).toInt32) &&& (858993459 : Int32))) + (((((x - (((x.toUInt32 >>> ((1 : Int32).toUInt32 &&& Int32.toUInt32 31)).toInt32) &&& (1431655765 : Int32))) &&& (858993459 : Int32)) + ((((x - (((x.toUInt32 >>> ((1 : Int32).toUInt32 &&& Int32.toUInt32 31)).toInt32) &&& (1431655765 : Int32))).toUInt32 >>> ((2 : Int32).toUInt32 &&& Int32.toUInt32 31)).toInt32) &&& (858993459 : Int32))).toUInt32 >>> ((4 : Int32).toUInt32 &&& Int32.toUInt32 31)).toInt32)) &&& (252645135 : Int32)))] := hl
  refine lv_iload_n hx hb d_IN_bitCount_34 rfl (lv_at hl 0 rfl) ?_
  refine lv_iload_n hx hb d_IN_bitCount_35 rfl (lv_at hl 0 rfl) ?_
  refine lv_bipush (v := 8) hx hb d_IN_bitCount_36 (by decide) ?_
  refine lv_iushr (v := ((((((x - (((x.toUInt32 >>> ((1 : Int32).toUInt32 &&& Int32.toUInt32 31)).toInt32) &&& (1431655765 : Int32))) &&& (858993459 : Int32)) + ((((x - (((x.toUInt32 >>> ((1 : Int32).toUInt32 &&& Int32.toUInt32 31)).toInt32) &&& (1431655765 : Int32))).toUInt32 >>> ((2 : Int32).toUInt32 &&& Int32.toUInt32 31)).toInt32) &&& (858993459 : Int32))) + (((((x - (((x.toUInt32 >>> ((1 : Int32).toUInt32 &&& Int32.toUInt32 31)).toInt32) &&& (1431655765 : Int32))) &&& (858993459 : Int32)) + ((((x - (((x.toUInt32 >>> ((1 : Int32).toUInt32 &&& Int32.toUInt32 31)).toInt32) &&& (1431655765 : Int32))).toUInt32 >>> ((2 : Int32).toUInt32 &&& Int32.toUInt32 31)).toInt32) &&& (858993459 : Int32))).toUInt32 >>> ((4 : Int32).toUInt32 &&& Int32.toUInt32 31)).toInt32)) &&& (252645135 : Int32)).toUInt32 >>> ((8 : Int32).toUInt32 &&& Int32.toUInt32 31)).toInt32) hx hb d_IN_bitCount_38 rfl ?_
  refine lv_iadd hx hb d_IN_bitCount_39 ?_
  refine lv_istore_n hx hb d_IN_bitCount_40 rfl hl (by decide) rfl (fun ls hl => ?_)
  have hl : lv_has ls 1 [(0, .int ((((((x - (((x.toUInt32 >>> ((1 : Int32).toUInt32 &&& Int32.toUInt32 31)).toInt32) &&& (1431655765 : Int32))) &&& (858993459 : Int32)) + ((((x - (((x.toUInt32 >>> ((1 : Int32).toUInt32 &&& Int32.toUInt32 31)).toInt32) &&& (1431655765 : Int32))).toUInt32 >>> ((2 : Int32).toUInt32 &&& Int32.toUInt32 31)).toInt32) &&& (858993459 : Int32))) + (((((x - (((x.toUInt32 >>> ((1 : Int32).toUInt32 &&& Int32.toUInt32 31)).toInt32) &&& (1431655765 : Int32))) &&& (858993459 : Int32)) + ((((x - (((x.toUInt32 >>> ((1 : Int32).toUInt32 &&& Int32.toUInt32 31)).toInt32) &&& (1431655765 : Int32))).toUInt32 >>> ((2 : Int32).toUInt32 &&& Int32.toUInt32 31)).toInt32) &&& (858993459 : Int32))).toUInt32 >>> ((4 : Int32).toUInt32 &&& Int32.toUInt32 31)).toInt32)) &&& (252645135 : Int32)) + (((((((x - (((x.toUInt32 >>> ((1 : Int32).toUInt32 &&& Int32.toUInt32 31)).toInt32) &&& (1431655765 : Int32))) &&& (858993459 : Int32)) + ((((x - (((x.toUInt32 >>> ((1 : Int32).toUInt32 &&& Int32.toUInt32 31)).toInt32) &&& (1431655765 : Int32))).toUInt32 >>> ((2 : Int32).toUInt32 &&& Int32.toUInt32 31)).toInt32) &&& (858993459 : Int32))) + (((((x - (((x.toUInt32 >>> ((1 : Int32).toUInt32 &&& Int32.toUInt32 31)).toInt32) &&& (1431655765 : Int32))) &&& (858993459 : Int32)) + ((((x - (((x.toUInt32 >>> ((1 : Int32).toUInt32 &&& Int32.toUInt32 31)).toInt32) &&& (1431655765 : Int32))).toUInt32 >>> ((2 : Int32).toUInt32 &&& Int32.toUInt32 31)).toInt32) &&& (858993459 : Int32))).toUInt32 >>> ((4 : Int32).toUInt32 &&& Int32.toUInt32 31)).toInt32)) &&& (252645135 : Int32)).toUInt32 >>> ((8 : Int32).toUInt32 &&& Int32.toUInt32 31)).toInt32)))] := hl
  refine lv_iload_n hx hb d_IN_bitCount_41 rfl (lv_at hl 0 rfl) ?_
  refine lv_iload_n hx hb d_IN_bitCount_42 rfl (lv_at hl 0 rfl) ?_
  refine lv_bipush (v := 16) hx hb d_IN_bitCount_43 (by decide) ?_
  refine lv_iushr (v := (((((((x - (((x.toUInt32 >>> ((1 : Int32).toUInt32 &&& Int32.toUInt32 31)).toInt32) &&& (1431655765 : Int32))) &&& (858993459 : Int32)) + ((((x - (((x.toUInt32 >>> ((1 : Int32).toUInt32 &&& Int32.toUInt32 31)).toInt32) &&& (1431655765 : Int32))).toUInt32 >>> ((2 : Int32).toUInt32 &&& Int32.toUInt32 31)).toInt32) &&& (858993459 : Int32))) + (((((x - (((x.toUInt32 >>> ((1 : Int32).toUInt32 &&& Int32.toUInt32 31)).toInt32) &&& (1431655765 : Int32))) &&& (858993459 : Int32)) + ((((x - (((x.toUInt32 >>> ((1 : Int32).toUInt32 &&& Int32.toUInt32 31)).toInt32) &&& (1431655765 : Int32))).toUInt32 >>> ((2 : Int32).toUInt32 &&& Int32.toUInt32 31)).toInt32) &&& (858993459 : Int32))).toUInt32 >>> ((4 : Int32).toUInt32 &&& Int32.toUInt32 31)).toInt32)) &&& (252645135 : Int32)) + (((((((x - (((x.toUInt32 >>> ((1 : Int32).toUInt32 &&& Int32.toUInt32 31)).toInt32) &&& (1431655765 : Int32))) &&& (858993459 : Int32)) + ((((x - (((x.toUInt32 >>> ((1 : Int32).toUInt32 &&& Int32.toUInt32 31)).toInt32) &&& (1431655765 : Int32))).toUInt32 >>> ((2 : Int32).toUInt32 &&& Int32.toUInt32 31)).toInt32) &&& (858993459 : Int32))) + (((((x - (((x.toUInt32 >>> ((1 : Int32).toUInt32 &&& Int32.toUInt32 31)).toInt32) &&& (1431655765 : Int32))) &&& (858993459 : Int32)) + ((((x - (((x.toUInt32 >>> ((1 : Int32).toUInt32 &&& Int32.toUInt32 31)).toInt32) &&& (1431655765 : Int32))).toUInt32 >>> ((2 : Int32).toUInt32 &&& Int32.toUInt32 31)).toInt32) &&& (858993459 : Int32))).toUInt32 >>> ((4 : Int32).toUInt32 &&& Int32.toUInt32 31)).toInt32)) &&& (252645135 : Int32)).toUInt32 >>> ((8 : Int32).toUInt32 &&& Int32.toUInt32 31)).toInt32)).toUInt32 >>> ((16 : Int32).toUInt32 &&& Int32.toUInt32 31)).toInt32) hx hb d_IN_bitCount_45 rfl ?_
  refine lv_iadd hx hb d_IN_bitCount_46 ?_
  refine lv_istore_n hx hb d_IN_bitCount_47 rfl hl (by decide) rfl (fun ls hl => ?_)
  have hl : lv_has ls 1 [(0, .int (((((((x - (((x.toUInt32 >>> ((1 : Int32).toUInt32 &&& Int32.toUInt32 31)).toInt32) &&& (1431655765 : Int32))) &&& (858993459 : Int32)) + ((((x - (((x.toUInt32 >>> ((1 : Int32).toUInt32 &&& Int32.toUInt32 31)).toInt32) &&& (1431655765 : Int32))).toUInt32 >>> ((2 : Int32).toUInt32 &&& Int32.toUInt32 31)).toInt32) &&& (858993459 : Int32))) + (((((x - (((x.toUInt32 >>> ((1 : Int32).toUInt32 &&& Int32.toUInt32 31)).toInt32) &&& (1431655765 : Int32))) &&& (858993459 : Int32)) + ((((x - (((x.toUInt32 >>> ((1 : Int32).toUInt32 &&& Int32.toUInt32 31)).toInt32) &&& (1431655765 : Int32))).toUInt32 >>> ((2 : Int32).toUInt32 &&& Int32.toUInt32 31)).toInt32) &&& (858993459 : Int32))).toUInt32 >>> ((4 : Int32).toUInt32 &&& Int32.toUInt32 31)).toInt32)) &&& (252645135 : Int32)) + (((((((x - (((x.toUInt32 >>> ((1 : Int32).toUInt32 &&& Int32.toUInt32 31)).toInt32) &&& (1431655765 : Int32))) &&& (858993459 : Int32)) + ((((x - (((x.toUInt32 >>> ((1 : Int32).toUInt32 &&& Int32.toUInt32 31)).toInt32) &&& (1431655765 : Int32))).toUInt32 >>> ((2 : Int32).toUInt32 &&& Int32.toUInt32 31)).toInt32) &&& (858993459 : Int32))) + (((((x - (((x.toUInt32 >>> ((1 : Int32).toUInt32 &&& Int32.toUInt32 31)).toInt32) &&& (1431655765 : Int32))) &&& (858993459 : Int32)) + ((((x - (((x.toUInt32 >>> ((1 : Int32).toUInt32 &&& Int32.toUInt32 31)).toInt32) &&& (1431655765 : Int32))).toUInt32 >>> ((2 : Int32).toUInt32 &&& Int32.toUInt32 31)).toInt32) &&& (858993459 : Int32))).toUInt32 >>> ((4 : Int32).toUInt32 &&& Int32.toUInt32 31)).toInt32)) &&& (252645135 : Int32)).toUInt32 >>> ((8 : Int32).toUInt32 &&& Int32.toUInt32 31)).toInt32)) + ((((((((x - (((x.toUInt32 >>> ((1 : Int32).toUInt32 &&& Int32.toUInt32 31)).toInt32) &&& (1431655765 : Int32))) &&& (858993459 : Int32)) + ((((x - (((x.toUInt32 >>> ((1 : Int32).toUInt32 &&& Int32.toUInt32 31)).toInt32) &&& (1431655765 : Int32))).toUInt32 >>> ((2 : Int32).toUInt32 &&& Int32.toUInt32 31)).toInt32) &&& (858993459 : Int32))) + (((((x - (((x.toUInt32 >>> ((1 : Int32).toUInt32 &&& Int32.toUInt32 31)).toInt32) &&& (1431655765 : Int32))) &&& (858993459 : Int32)) + ((((x - (((x.toUInt32 >>> ((1 : Int32).toUInt32 &&& Int32.toUInt32 31)).toInt32) &&& (1431655765 : Int32))).toUInt32 >>> ((2 : Int32).toUInt32 &&& Int32.toUInt32 31)).toInt32) &&& (858993459 : Int32))).toUInt32 >>> ((4 : Int32).toUInt32 &&& Int32.toUInt32 31)).toInt32)) &&& (252645135 : Int32)) + (((((((x - (((x.toUInt32 >>> ((1 : Int32).toUInt32 &&& Int32.toUInt32 31)).toInt32) &&& (1431655765 : Int32))) &&& (858993459 : Int32)) + ((((x - (((x.toUInt32 >>> ((1 : Int32).toUInt32 &&& Int32.toUInt32 31)).toInt32) &&& (1431655765 : Int32))).toUInt32 >>> ((2 : Int32).toUInt32 &&& Int32.toUInt32 31)).toInt32) &&& (858993459 : Int32))) + (((((x - (((x.toUInt32 >>> ((1 : Int32).toUInt32 &&& Int32.toUInt32 31)).toInt32) &&& (1431655765 : Int32))) &&& (858993459 : Int32)) + ((((x - (((x.toUInt32 >>> ((1 : Int32).toUInt32 &&& Int32.toUInt32 31)).toInt32) &&& (1431655765 : Int32))).toUInt32 >>> ((2 : Int32).toUInt32 &&& Int32.toUInt32 31)).toInt32) &&& (858993459 : Int32))).toUInt32 >>> ((4 : Int32).toUInt32 &&& Int32.toUInt32 31)).toInt32)) &&& (252645135 : Int32)).toUInt32 >>> ((8 : Int32).toUInt32 &&& Int32.toUInt32 31)).toInt32)).toUInt32 >>> ((16 : Int32).toUInt32 &&& Int32.toUInt32 31)).toInt32)))] := hl
  refine lv_iload_n hx hb d_IN_bitCount_48 rfl (lv_at hl 0 rfl) ?_
  refine lv_bipush (v := 63) hx hb d_IN_bitCount_49 (by decide) ?_
  refine lv_iand hx hb d_IN_bitCount_51 ?_
  exact W.iret hx hb hr (fun t ht _ => ⟨rfl, ht⟩) (fun q h => by cases h) d_IN_bitCount_52
def zgc (ro : Nat → Int32) : Nat → Int32
  | 0 => 0
  | i + 1 => if ro i = 0 then zgc ro i else zw (zgc ro i) i
abbrev ro_RE_givenCourses : Room := { frames := 1, cells := 0, slots := 0, locals := 21 }
set_option maxHeartbeats 4000000 in
set_option maxRecDepth 100000 in
theorem lo_givenCourses {l : Launch} {p : Program} {e : Env} {s : State} {m : MethodId} {args : Array Value} {below : List Frame} {meth : Method} {c : Code} {H : Heap} {Ls : List Loc} {Q : State → Prop} (D : va_G) (cI cJ cZ cP cS : ClassId) (h aro : Nat) (it rs rt rn rg ru run rus : Int32) (ro : Nat → Int32) (hx : p.tables.exec = Jvm.exec) (hb : c.code = b_RE_givenCourses) (hml : c.maxLocals = 3) (hown : s.vm.findClass "StudyAudit$Receipt" = some m.cls) (hok : tb_ok s) (hP : va_P D cls [(h, .inr (6, [.int it, .int rs, .int rt, .int rn, .int rg, .ref aro, .int ru, .int run, .int rus])), (aro, .inl (cI, 12, .inl ro))] H) (hK : va_K D cls (tyl cI cJ cZ cP cS) s)
    (kk : ∀ ls : Array Slot, lv_has ls 3 [(0, .ref h), (1, .int (zgc ro 12)), (2, .int (nI 12))] → W p l e ro_RE_givenCourses s m args below meth c H Ls 0 0 Q (F0 m 31 ls [])) :
    ∀ (k i : Nat) (ls : Array Slot), 0 ≤ i → i + k = 12 → lv_has ls 3 [(0, .ref h), (1, .int (zgc ro i)), (2, .int (nI i))] → W p l e ro_RE_givenCourses s m args below meth c H Ls 0 0 Q (F0 m 4 ls []) := by
  intro k
  induction k with
  | zero =>
    intro i ls hi0 hik hl
    have hik : 12 = i := by omega
    subst hik
    refine lv_iload_n hx hb d_RE_givenCourses_4 rfl (lv_at hl 2 rfl) ?_
    refine lv_bipush (v := 12) hx hb d_RE_givenCourses_5 (by decide) ?_
    refine lv_icmp_ge (tgt := 31) hx hb d_RE_givenCourses_7 (by decide) (fun h7 => ?_) (fun h7 => absurd (show nI 12 ≤ nI 12 from Int32.le_refl _) h7)
    exact kk ls (lv_sub hl [0, 1, 2] rfl)
  | succ k ih =>
    intro i ls hi0 hik hl
    refine lv_iload_n hx hb d_RE_givenCourses_4 rfl (lv_at hl 2 rfl) ?_
    refine lv_bipush (v := 12) hx hb d_RE_givenCourses_5 (by decide) ?_
    refine lv_icmp_ge (tgt := 31) hx hb d_RE_givenCourses_7 (by decide) (fun h7 => absurd h7 (show ¬ nI 12 ≤ nI i from nI_ge (by omega) (by omega))) (fun h7 => ?_)
    refine lv_aload_n hx hb d_RE_givenCourses_10 rfl (lv_at hl 0 rfl) ?_
    refine va_get (D := D) (ci := 6) (v := .ref aro) (C := R_RE) (T := F_RE) (N := 9) hx hb (tb_in hok in_RE) (fun w h => h) hown hK hP 0 rfl rfl 5 (by decide) (hok _ t_202 rfl _) (fun _ h9 => h9) rfl d_RE_givenCourses_11 ?_
    refine lv_iload_n hx hb d_RE_givenCourses_14 rfl (lv_at hl 2 rfl) ?_
    refine va_iald hx hb hK hP 1 0 rfl rfl (vp_in_nI (by omega) (by omega)) d_RE_givenCourses_15 ?_
    rw [nI_clamp (show i < 2 ^ 31 from by omega)]
    refine lv_if_eq (tgt := 25) hx hb d_RE_givenCourses_16 (by decide) (fun h16 => ?_) (fun h16 => ?_)
    · refine lv_iinc (v := (nI (i + 1))) hx hb d_RE_givenCourses_25 hl (k := 2) rfl (by rw [nI_succ]; rfl) (by decide) rfl (fun ls hl => ?_)
      have hl : lv_has ls 3 [(2, .int (nI (i + 1))), (0, .ref h), (1, .int (zgc ro i))] := hl
      refine lv_goto (tgt := 4) hx hb d_RE_givenCourses_28 (by decide) ?_
      have e9 : zgc ro (i + 1) = (zgc ro i) := by show (if _ then _ else _) = _; rw [if_pos h16]
      rw [← e9] at hl
      exact ih (i + 1) ls (by omega) (by omega) (lv_sub hl [1, 2, 0] rfl)
    · refine lv_iload_n hx hb d_RE_givenCourses_19 rfl (lv_at hl 1 rfl) ?_
      refine lv_iload_n hx hb d_RE_givenCourses_20 rfl (lv_at hl 2 rfl) ?_
      refine zc_read (va_runSN (Ts := []) (As := [.int (zgc ro i), .int (nI i)]) (rest := []) ⟨hx, hb, hml, hown, fun _ h => absurd h List.not_mem_nil⟩ (m_SA_with l (zgc ro i) (nI i)) ⟨zc_CN 2 hok c_SA_with_w t_1 t_663 rfl rfl (by decide +kernel) ⟨Nat.le_of_ble_eq_true rfl, Nat.le_of_ble_eq_true rfl⟩, hok _ t_369 rfl _, trivial⟩ ⟨fun a U g mk q => by obtain ⟨q0, q1⟩ := q; exact ⟨q0, q1⟩, fun U hU hW => ⟨rfl, trivial⟩⟩ rfl rfl hl.1 rfl (lv_room (Nat.le_of_ble_eq_true rfl)) d_RE_givenCourses_21 ⟨Nat.le_of_ble_eq_true rfl, Nat.le_of_ble_eq_true rfl⟩) ?_
      refine W.eq (g2 := F0 m 24 ls [.int ((zgc ro i) ||| (1 <<< ((nI i) &&& 31)))]) rfl ?_
      refine lv_istore_n hx hb d_RE_givenCourses_24 rfl hl (by decide) rfl (fun ls hl => ?_)
      have hl : lv_has ls 3 [(1, .int ((zgc ro i) ||| (1 <<< ((nI i) &&& 31)))), (0, .ref h), (2, .int (nI i))] := hl
      refine lv_iinc (v := (nI (i + 1))) hx hb d_RE_givenCourses_25 hl (k := 2) rfl (by rw [nI_succ]; rfl) (by decide) rfl (fun ls hl => ?_)
      have hl : lv_has ls 3 [(2, .int (nI (i + 1))), (1, .int ((zgc ro i) ||| (1 <<< ((nI i) &&& 31)))), (0, .ref h)] := hl
      refine lv_goto (tgt := 4) hx hb d_RE_givenCourses_28 (by decide) ?_
      have e9 : zgc ro (i + 1) = ((zgc ro i) ||| (1 <<< ((nI i) &&& 31))) := by show (if _ then _ else _) = _; rw [if_neg h16]; rfl
      rw [← e9] at hl
      exact ih (i + 1) ls (by omega) (by omega) (lv_sub hl [2, 1, 0] rfl)
set_option maxHeartbeats 4000000 in
set_option maxRecDepth 100000 in
theorem m_RE_givenCourses (l : Launch) (D : va_G) (cI cJ cZ cP cS : ClassId) (h aro : Nat) (it rs rt rn rg ru run rus : Int32) (ro : Nat → Int32) : Met l y_RE_givenCourses [Cond.code y_RE_givenCourses b_RE_givenCourses 3 (some .int)] ro_RE_givenCourses (va_Pc [.ref h] (fun U => tb_ok U ∧ va_P D cls [(h, .inr (6, [.int it, .int rs, .int rt, .int rn, .int rg, .ref aro, .int ru, .int run, .int rus])), (aro, .inl (cI, 12, .inl ro))] U.heap ∧ va_K D cls (tyl cI cJ cZ cP cS) U)) (zq (some (.int (zgc ro 12)))) 0 0 (fun _ => False) := by
  refine Met.ofW (cc := b_RE_givenCourses) (maxL := 3) (ret := (some .int)) (by decide +kernel) rfl ?_
  intro p e s m args below meth c s₁ B hml hv
  obtain ⟨rfl, hok, hP, hK⟩ := hv
  have hx := B.exec
  have hb := B.bytes
  have hr := B.returns
  have hown : s.vm.findClass "StudyAudit$Receipt" = some m.cls := findClass_of_methodNamed B.named
  have hlocks := B.notSynchronized
  have hl := lv_entry ([.ref h]) (n := 3) (Nat.le_of_ble_eq_true rfl)
  rw [lg_entry_eq]
  generalize (lg_sl ([.ref h]) ++ List.replicate (3 - (lg_sl ([.ref h])).length) Slot.unset).toArray = ls at hl ⊢
  have hl : lv_has ls 3 [(0, .ref h)] := hl
  refine lv_iconst (v := 0) hx hb d_RE_givenCourses_0 (by decide) ?_
  refine lv_istore_n hx hb d_RE_givenCourses_1 rfl hl (by decide) rfl (fun ls hl => ?_)
  have hl : lv_has ls 3 [(1, .int 0), (0, .ref h)] := hl
  refine lv_iconst (v := 0) hx hb d_RE_givenCourses_2 (by decide) ?_
  refine lv_istore_n hx hb d_RE_givenCourses_3 rfl hl (by decide) rfl (fun ls hl => ?_)
  have hl : lv_has ls 3 [(2, .int 0), (1, .int 0), (0, .ref h)] := hl
  refine lo_givenCourses D cI cJ cZ cP cS h aro it rs rt rn rg ru run rus ro hx hb hml hown hok hP hK (fun ls hl => ?_) (12 - 0) 0 ls (by omega) (by omega) (lv_sub hl [2, 1, 0] rfl)
  refine lv_iload_n hx hb d_RE_givenCourses_31 rfl (lv_at hl 1 rfl) ?_
  exact W.iret hx hb hr (fun t ht _ => ⟨rfl, ht⟩) (fun q h => by cases h) d_RE_givenCourses_32
def zmu (run rus ru set ex : Int32) : Bool := decide (run - rus < ex ∨ (ex = run - rus ∧ zbc set < zbc ru))
abbrev ro_RE_isMoreUnmet : Room := { frames := 1, cells := 0, slots := 0, locals := 20 }
set_option maxHeartbeats 4000000 in
set_option maxRecDepth 100000 in
theorem m_RE_isMoreUnmet (l : Launch) (D : va_G) (cI cJ cZ cP cS : ClassId) (h aro : Nat) (it rs rt rn rg ru run rus : Int32) (set ex : Int32) : Met l y_RE_isMoreUnmet [Cond.code y_RE_isMoreUnmet b_RE_isMoreUnmet 4 (some .boolean)] ro_RE_isMoreUnmet (va_Pc [.ref h, .int set, .int ex] (fun U => tb_ok U ∧ va_P D cls [(h, .inr (6, [.int it, .int rs, .int rt, .int rn, .int rg, .ref aro, .int ru, .int run, .int rus]))] U.heap ∧ va_K D cls (tyl cI cJ cZ cP cS) U)) (zq (some (.int (zb (zmu run rus ru set ex))))) 0 0 (fun _ => False) := by
  refine Met.ofW (cc := b_RE_isMoreUnmet) (maxL := 4) (ret := (some .boolean)) (by decide +kernel) rfl ?_
  intro p e s m args below meth c s₁ B hml hv
  obtain ⟨rfl, hok, hP, hK⟩ := hv
  have hx := B.exec
  have hb := B.bytes
  have hr := B.returns
  have hown : s.vm.findClass "StudyAudit$Receipt" = some m.cls := findClass_of_methodNamed B.named
  have hlocks := B.notSynchronized
  have hl := lv_entry ([.ref h, .int set, .int ex]) (n := 4) (Nat.le_of_ble_eq_true rfl)
  rw [lg_entry_eq]
  generalize (lg_sl ([.ref h, .int set, .int ex]) ++ List.replicate (4 - (lg_sl ([.ref h, .int set, .int ex])).length) Slot.unset).toArray = ls at hl ⊢
  have hl : lv_has ls 4 [(0, .ref h), (1, .int set), (2, .int ex)] := hl
  refine lv_aload_n hx hb d_RE_isMoreUnmet_0 rfl (lv_at hl 0 rfl) ?_
  refine va_get (D := D) (ci := 6) (v := .int run) (C := R_RE) (T := F_RE) (N := 9) hx hb (tb_in hok in_RE) (fun w h => h) hown hK hP 0 rfl rfl 7 (by decide) (hok _ t_206 rfl _) (fun _ h9 => h9) rfl d_RE_isMoreUnmet_1 ?_
  refine lv_aload_n hx hb d_RE_isMoreUnmet_4 rfl (lv_at hl 0 rfl) ?_
  refine va_get (D := D) (ci := 6) (v := .int rus) (C := R_RE) (T := F_RE) (N := 9) hx hb (tb_in hok in_RE) (fun w h => h) hown hK hP 0 rfl rfl 8 (by decide) (hok _ t_208 rfl _) (fun _ h9 => h9) rfl d_RE_isMoreUnmet_5 ?_
  refine lv_isub hx hb d_RE_isMoreUnmet_8 ?_
  refine lv_istore_n hx hb d_RE_isMoreUnmet_9 rfl hl (by decide) rfl (fun ls hl => ?_)
  have hl : lv_has ls 4 [(3, .int (run - rus)), (0, .ref h), (1, .int set), (2, .int ex)] := hl
  refine lv_iload_n hx hb d_RE_isMoreUnmet_10 rfl (lv_at hl 3 rfl) ?_
  refine lv_iload_n hx hb d_RE_isMoreUnmet_11 rfl (lv_at hl 0 rfl) ?_
  refine lv_icmp_gt (tgt := 34) hx hb d_RE_isMoreUnmet_12 (by decide) (fun h12 => ?_) (fun h12 => ?_)
  · refine lv_iconst (v := 1) hx hb d_RE_isMoreUnmet_34 (by decide) ?_
    refine lv_goto (tgt := 39) hx hb d_RE_isMoreUnmet_35 (by decide) ?_
    exact W.zret hx hb hr (by decide) (fun t ht _ => ⟨by simp [zb, zmu, h12], ht⟩) (fun q h => by cases h) d_RE_isMoreUnmet_39
  · refine lv_iload_n hx hb d_RE_isMoreUnmet_15 rfl (lv_at hl 3 rfl) ?_
    refine lv_iload_n hx hb d_RE_isMoreUnmet_16 rfl (lv_at hl 0 rfl) ?_
    refine lv_icmp_ne (tgt := 38) hx hb d_RE_isMoreUnmet_17 (by decide) (fun h17 => ?_) (fun h17 => ?_)
    · refine lv_iconst (v := 0) hx hb d_RE_isMoreUnmet_38 (by decide) ?_
      exact W.zret hx hb hr (by decide) (fun t ht _ => ⟨by simp [zb, zmu, h12, h17], ht⟩) (fun q h => by cases h) d_RE_isMoreUnmet_39
    · refine lv_iload_n hx hb d_RE_isMoreUnmet_20 rfl (lv_at hl 2 rfl) ?_
      refine zc_read (va_runS (Ts := []) (As := [.int set]) (rest := []) ⟨hx, hb, hml, hown, fun _ h => absurd h List.not_mem_nil⟩ (m_IN_bitCount l set) ⟨zc_B 1 hok c_IN_bitCount_w t_17 t_623 rfl rfl (by decide +kernel) ⟨Nat.le_of_ble_eq_true rfl, Nat.le_of_ble_eq_true rfl⟩, hok _ t_613 rfl _⟩ ⟨fun a U g mk q => by obtain ⟨q0, q2⟩ := q; exact ⟨q0, q2.call g mk a⟩, fun U hU hW => ⟨rfl, hok.warm hW⟩⟩ rfl rfl hl.1 rfl (lv_room (Nat.le_of_ble_eq_true rfl)) d_RE_isMoreUnmet_21 ⟨Nat.le_of_ble_eq_true rfl, Nat.le_of_ble_eq_true rfl⟩) ?_
      refine W.eq (g2 := F0 m 24 ls [.int (zbc set)]) rfl ?_
      refine lv_aload_n hx hb d_RE_isMoreUnmet_24 rfl (lv_at hl 1 rfl) ?_
      refine va_get (D := D) (ci := 6) (v := .int ru) (C := R_RE) (T := F_RE) (N := 9) hx hb (tb_in hok in_RE) (fun w h => h) hown hK hP 0 rfl rfl 6 (by decide) (hok _ t_204 rfl _) (fun _ h9 => h9) rfl d_RE_isMoreUnmet_25 ?_
      refine zc_read (va_runS (Ts := []) (As := [.int ru]) (rest := [.int (zbc set)]) ⟨hx, hb, hml, hown, fun _ h => absurd h List.not_mem_nil⟩ (m_IN_bitCount l ru) ⟨zc_B 1 hok c_IN_bitCount_w t_17 t_623 rfl rfl (by decide +kernel) ⟨Nat.le_of_ble_eq_true rfl, Nat.le_of_ble_eq_true rfl⟩, hok _ t_613 rfl _⟩ ⟨fun a U g mk q => by obtain ⟨q0, q2⟩ := q; exact ⟨q0, q2.call g mk a⟩, fun U hU hW => ⟨rfl, hok.warm hW⟩⟩ rfl rfl hl.1 rfl (lv_room (Nat.le_of_ble_eq_true rfl)) d_RE_isMoreUnmet_28 ⟨Nat.le_of_ble_eq_true rfl, Nat.le_of_ble_eq_true rfl⟩) ?_
      refine W.eq (g2 := F0 m 31 ls [.int (zbc ru), .int (zbc set)]) rfl ?_
      refine lv_icmp_ge (tgt := 38) hx hb d_RE_isMoreUnmet_31 (by decide) (fun h31 => ?_) (fun h31 => ?_)
      · refine lv_iconst (v := 0) hx hb d_RE_isMoreUnmet_38 (by decide) ?_
        exact W.zret hx hb hr (by decide) (fun t ht _ => ⟨by simp [zb, zmu, h12, h17, h31], ht⟩) (fun q h => by cases h) d_RE_isMoreUnmet_39
      · refine lv_iconst (v := 1) hx hb d_RE_isMoreUnmet_34 (by decide) ?_
        refine lv_goto (tgt := 39) hx hb d_RE_isMoreUnmet_35 (by decide) ?_
        exact W.zret hx hb hr (by decide) (fun t ht _ => ⟨by simp [zb, zmu, h12, h17, h31], ht⟩) (fun q h => by cases h) d_RE_isMoreUnmet_39
def zlv (since life term : Int32) : Bool := decide (¬ since = -1 ∧ ¬ term < since ∧ (life = -1 ∨ ¬ life < term - since))
abbrev ro_ST_hasLiving : Room := { frames := 0, cells := 0, slots := 0, locals := 0 }
set_option maxHeartbeats 4000000 in
set_option maxRecDepth 100000 in
theorem m_ST_hasLiving (l : Launch) (D : va_G) (cI cJ cZ cP cS : ClassId) (h aps asf aex : Nat) (pg np : Int32) (i : Nat) (life term : Int32) (ps : Nat → Int32) (hi : i < 12) : Met l y_ST_hasLiving [Cond.code y_ST_hasLiving b_ST_hasLiving 5 (some .boolean)] ro_ST_hasLiving (va_Pc [.ref h, .int (nI i), .int life, .int term] (fun U => tb_ok U ∧ va_P D cls [(h, .inr (7, [.int pg, .ref aps, .ref asf, .int np, .ref aex])), (aps, .inl (cI, 12, .inl ps))] U.heap ∧ va_K D cls (tyl cI cJ cZ cP cS) U)) (zq (some (.int (zb (zlv (ps i) life term))))) 0 0 (fun _ => False) := by
  refine Met.ofW (cc := b_ST_hasLiving) (maxL := 5) (ret := (some .boolean)) (by decide +kernel) rfl ?_
  intro p e s m args below meth c s₁ B hml hv
  obtain ⟨rfl, hok, hP, hK⟩ := hv
  have hx := B.exec
  have hb := B.bytes
  have hr := B.returns
  have hown : s.vm.findClass "StudyAudit$Student" = some m.cls := findClass_of_methodNamed B.named
  have hlocks := B.notSynchronized
  have hl := lv_entry ([.ref h, .int (nI i), .int life, .int term]) (n := 5) (Nat.le_of_ble_eq_true rfl)
  rw [lg_entry_eq]
  generalize (lg_sl ([.ref h, .int (nI i), .int life, .int term]) ++ List.replicate (5 - (lg_sl ([.ref h, .int (nI i), .int life, .int term])).length) Slot.unset).toArray = ls at hl ⊢
  have hl : lv_has ls 5 [(0, .ref h), (1, .int (nI i)), (2, .int life), (3, .int term)] := hl
  refine lv_aload_n hx hb d_ST_hasLiving_0 rfl (lv_at hl 0 rfl) ?_
  refine va_get (D := D) (ci := 7) (v := .ref aps) (C := R_ST) (T := F_ST) (N := 5) hx hb (tb_in hok in_ST) (fun w h => h) hown hK hP 0 rfl rfl 1 (by decide) (hok _ t_106 rfl _) (fun _ h9 => h9) rfl d_ST_hasLiving_1 ?_
  refine lv_iload_n hx hb d_ST_hasLiving_4 rfl (lv_at hl 1 rfl) ?_
  refine va_iald hx hb hK hP 1 0 rfl rfl (vp_in_nI (by omega) (by omega)) d_ST_hasLiving_5 ?_
  rw [nI_clamp (show i < 2 ^ 31 from by omega)]
  refine lv_istore hx hb d_ST_hasLiving_6 hl (by decide) rfl (fun ls hl => ?_)
  have hl : lv_has ls 5 [(4, .int (ps i)), (0, .ref h), (1, .int (nI i)), (2, .int life), (3, .int term)] := hl
  refine lv_iload hx hb d_ST_hasLiving_8 (lv_at hl 0 rfl) ?_
  refine lv_iconst (v := (-1)) hx hb d_ST_hasLiving_10 (by decide) ?_
  refine lv_icmp_eq (tgt := 37) hx hb d_ST_hasLiving_11 (by decide) (fun h11 => ?_) (fun h11 => ?_)
  · refine lv_iconst (v := 0) hx hb d_ST_hasLiving_37 (by decide) ?_
    exact W.zret hx hb hr (by decide) (fun t ht _ => ⟨by simp [zb, zlv, h11], ht⟩) (fun q h => by cases h) d_ST_hasLiving_38
  · refine lv_iload hx hb d_ST_hasLiving_14 (lv_at hl 0 rfl) ?_
    refine lv_iload_n hx hb d_ST_hasLiving_16 rfl (lv_at hl 4 rfl) ?_
    refine lv_icmp_gt (tgt := 37) hx hb d_ST_hasLiving_17 (by decide) (fun h17 => ?_) (fun h17 => ?_)
    · refine lv_iconst (v := 0) hx hb d_ST_hasLiving_37 (by decide) ?_
      exact W.zret hx hb hr (by decide) (fun t ht _ => ⟨by simp [zb, zlv, h11, h17], ht⟩) (fun q h => by cases h) d_ST_hasLiving_38
    · refine lv_iload_n hx hb d_ST_hasLiving_20 rfl (lv_at hl 3 rfl) ?_
      refine lv_iconst (v := (-1)) hx hb d_ST_hasLiving_21 (by decide) ?_
      refine lv_icmp_eq (tgt := 33) hx hb d_ST_hasLiving_22 (by decide) (fun h22 => ?_) (fun h22 => ?_)
      · refine lv_iconst (v := 1) hx hb d_ST_hasLiving_33 (by decide) ?_
        refine lv_goto (tgt := 38) hx hb d_ST_hasLiving_34 (by decide) ?_
        exact W.zret hx hb hr (by decide) (fun t ht _ => ⟨by simp [zb, zlv, h11, h17, h22], ht⟩) (fun q h => by cases h) d_ST_hasLiving_38
      · refine lv_iload_n hx hb d_ST_hasLiving_25 rfl (lv_at hl 4 rfl) ?_
        refine lv_iload hx hb d_ST_hasLiving_26 (lv_at hl 0 rfl) ?_
        refine lv_isub hx hb d_ST_hasLiving_28 ?_
        refine lv_iload_n hx hb d_ST_hasLiving_29 rfl (lv_at hl 3 rfl) ?_
        refine lv_icmp_gt (tgt := 37) hx hb d_ST_hasLiving_30 (by decide) (fun h30 => ?_) (fun h30 => ?_)
        · refine lv_iconst (v := 0) hx hb d_ST_hasLiving_37 (by decide) ?_
          exact W.zret hx hb hr (by decide) (fun t ht _ => ⟨by simp [zb, zlv, h11, h17, h22, h30], ht⟩) (fun q h => by cases h) d_ST_hasLiving_38
        · refine lv_iconst (v := 1) hx hb d_ST_hasLiving_33 (by decide) ?_
          refine lv_goto (tgt := 38) hx hb d_ST_hasLiving_34 (by decide) ?_
          exact W.zret hx hb hr (by decide) (fun t ht _ => ⟨by simp [zb, zlv, h11, h17, h22, h30], ht⟩) (fun q h => by cases h) d_ST_hasLiving_38
def zlc (ps lf : Nat → Int32) (term : Int32) : Nat → Int32
  | 0 => 0
  | i + 1 => if zlv (ps i) (lf i) term = true then zw (zlc ps lf term i) i else zlc ps lf term i
abbrev ro_ST_livingCourses : Room := { frames := 1, cells := 0, slots := 0, locals := 24 }
set_option maxHeartbeats 4000000 in
set_option maxRecDepth 100000 in
theorem lo_livingCourses {l : Launch} {p : Program} {e : Env} {s : State} {m : MethodId} {args : Array Value} {below : List Frame} {meth : Method} {c : Code} {H : Heap} {Ls : List Loc} {Q : State → Prop} (D : va_G) (cI cJ cZ cP cS : ClassId) (h aps asf aex : Nat) (pg np : Int32) (g ap al ai ag af at0 C : Nat) (ng oc : Int32) (term : Int32) (ps lf : Nat → Int32) (hx : p.tables.exec = Jvm.exec) (hb : c.code = b_ST_livingCourses) (hml : c.maxLocals = 5) (hown : s.vm.findClass "StudyAudit$Student" = some m.cls) (hok : tb_ok s) (hP : va_P D cls [(h, .inr (7, [.int pg, .ref aps, .ref asf, .int np, .ref aex])), (aps, .inl (cI, 12, .inl ps)), (g, .inr (1, [.int ng, .ref ap, .ref al, .ref ai, .int (nI C), .ref ag, .ref af, .int oc, .ref at0])), (af, .inl (cI, 12, .inl lf))] H) (hK : va_K D cls (tyl cI cJ cZ cP cS) s) (hC : C ≤ 12)
    (kk : ∀ ls : Array Slot, lv_has ls 5 [(0, .ref h), (1, .ref g), (2, .int term), (3, .int (zlc ps lf term C)), (4, .int (nI C))] → W p l e ro_ST_livingCourses s m args below meth c H Ls 0 0 Q (F0 m 44 ls [])) :
    ∀ (k i : Nat) (ls : Array Slot), 0 ≤ i → i + k = C → lv_has ls 5 [(0, .ref h), (1, .ref g), (2, .int term), (3, .int (zlc ps lf term i)), (4, .int (nI i))] → W p l e ro_ST_livingCourses s m args below meth c H Ls 0 0 Q (F0 m 5 ls []) := by
  intro k
  induction k with
  | zero =>
    intro i ls hi0 hik hl
    have hik : C = i := by omega
    subst hik
    refine lv_iload hx hb d_ST_livingCourses_5 (lv_at hl 4 rfl) ?_
    refine lv_aload_n hx hb d_ST_livingCourses_7 rfl (lv_at hl 1 rfl) ?_
    refine va_get (D := D) (ci := 1) (v := .int (nI C)) (C := R_CA) (T := F_CA) (N := 9) hx hb (tb_in hok in_CA) (fun w h => h) hown hK hP 2 rfl rfl 4 (by decide) (hok _ t_43 rfl _) (fun _ h9 => h9) rfl d_ST_livingCourses_8 ?_
    refine lv_icmp_ge (tgt := 44) hx hb d_ST_livingCourses_11 (by decide) (fun h11 => ?_) (fun h11 => absurd (show nI C ≤ nI C from Int32.le_refl _) h11)
    exact kk ls (lv_sub hl [0, 1, 2, 3, 4] rfl)
  | succ k ih =>
    intro i ls hi0 hik hl
    refine lv_iload hx hb d_ST_livingCourses_5 (lv_at hl 4 rfl) ?_
    refine lv_aload_n hx hb d_ST_livingCourses_7 rfl (lv_at hl 1 rfl) ?_
    refine va_get (D := D) (ci := 1) (v := .int (nI C)) (C := R_CA) (T := F_CA) (N := 9) hx hb (tb_in hok in_CA) (fun w h => h) hown hK hP 2 rfl rfl 4 (by decide) (hok _ t_43 rfl _) (fun _ h9 => h9) rfl d_ST_livingCourses_8 ?_
    refine lv_icmp_ge (tgt := 44) hx hb d_ST_livingCourses_11 (by decide) (fun h11 => absurd h11 (show ¬ nI C ≤ nI i from nI_ge (by omega) (by omega))) (fun h11 => ?_)
    refine lv_aload_n hx hb d_ST_livingCourses_14 rfl (lv_at hl 0 rfl) ?_
    refine lv_iload hx hb d_ST_livingCourses_15 (lv_at hl 4 rfl) ?_
    refine lv_aload_n hx hb d_ST_livingCourses_17 rfl (lv_at hl 1 rfl) ?_
    refine va_get (D := D) (ci := 1) (v := .ref af) (C := R_CA) (T := F_CA) (N := 9) hx hb (tb_in hok in_CA) (fun w h => h) hown hK hP 2 rfl rfl 6 (by decide) (hok _ t_48 rfl _) (fun _ h9 => h9) rfl d_ST_livingCourses_18 ?_
    refine lv_iload hx hb d_ST_livingCourses_21 (lv_at hl 4 rfl) ?_
    refine va_iald hx hb hK hP 3 0 rfl rfl (vp_in_nI (by omega) (by omega)) d_ST_livingCourses_23 ?_
    rw [nI_clamp (show i < 2 ^ 31 from by omega)]
    refine lv_iload_n hx hb d_ST_livingCourses_24 rfl (lv_at hl 2 rfl) ?_
    refine zc_read (va_runV (Ts := []) (As := [.int (nI i), .int (lf i), .int term]) (rest := []) ⟨hx, hb, hml, hown, fun _ h => absurd h List.not_mem_nil⟩ (m_ST_hasLiving l D cI cJ cZ cP cS h aps asf aex pg np i (lf i) term ps (by omega)) ⟨zc_B 3 hok c_ST_hasLiving_w t_4 t_507 rfl rfl (by decide +kernel) ⟨Nat.le_of_ble_eq_true rfl, Nat.le_of_ble_eq_true rfl⟩, hok _ t_488 rfl _, hok _ t_489 rfl _⟩ ⟨fun a U g mk q => by obtain ⟨q0, q2, qP, qK⟩ := q; exact ⟨q0, q2.call g mk a, qP, va_K.moved (u := U) (U := U.calling g mk a) (Vm.Alike.refl U.vm) qK⟩, va_recv hK hP (ci := 7) (q0 := 0) rfl rfl, fun U hU hW => ⟨rfl, hok.warm hW, by rw [hU]; exact hP.sub [0, 1] rfl, va_K.moved hW.alike hK⟩⟩ rfl rfl hl.1 rfl (lv_room (Nat.le_of_ble_eq_true rfl)) d_ST_livingCourses_25 ⟨Nat.le_of_ble_eq_true rfl, Nat.le_of_ble_eq_true rfl⟩) ?_
    refine W.eq (g2 := F0 m 28 ls [.int (zb (zlv (ps i) (lf i) term))]) rfl ?_
    refine lv_if_eq (tgt := 38) hx hb d_ST_livingCourses_28 (by decide) (fun h28 => ?_) (fun h28 => ?_)
    · refine lv_iinc (v := (nI (i + 1))) hx hb d_ST_livingCourses_38 hl (k := 4) rfl (by rw [nI_succ]; rfl) (by decide) rfl (fun ls hl => ?_)
      have hl : lv_has ls 5 [(4, .int (nI (i + 1))), (0, .ref h), (1, .ref g), (2, .int term), (3, .int (zlc ps lf term i))] := hl
      refine lv_goto (tgt := 5) hx hb d_ST_livingCourses_41 (by decide) ?_
      have e9 : zlc ps lf term (i + 1) = (zlc ps lf term i) := by show (if _ then _ else _) = _; rw [if_neg (fun z => by rw [z] at h28; exact absurd h28 (by decide))]
      rw [← e9] at hl
      exact ih (i + 1) ls (by omega) (by omega) (lv_sub hl [1, 2, 3, 4, 0] rfl)
    · refine lv_iload_n hx hb d_ST_livingCourses_31 rfl (lv_at hl 3 rfl) ?_
      refine lv_iload hx hb d_ST_livingCourses_32 (lv_at hl 4 rfl) ?_
      refine zc_read (va_runSN (Ts := []) (As := [.int (zlc ps lf term i), .int (nI i)]) (rest := []) ⟨hx, hb, hml, hown, fun _ h => absurd h List.not_mem_nil⟩ (m_SA_with l (zlc ps lf term i) (nI i)) ⟨zc_CN 2 hok c_SA_with_w t_1 t_460 rfl rfl (by decide +kernel) ⟨Nat.le_of_ble_eq_true rfl, Nat.le_of_ble_eq_true rfl⟩, hok _ t_369 rfl _, trivial⟩ ⟨fun a U g mk q => by obtain ⟨q0, q1⟩ := q; exact ⟨q0, q1⟩, fun U hU hW => ⟨rfl, trivial⟩⟩ rfl rfl hl.1 rfl (lv_room (Nat.le_of_ble_eq_true rfl)) d_ST_livingCourses_34 ⟨Nat.le_of_ble_eq_true rfl, Nat.le_of_ble_eq_true rfl⟩) ?_
      refine W.eq (g2 := F0 m 37 ls [.int ((zlc ps lf term i) ||| (1 <<< ((nI i) &&& 31)))]) rfl ?_
      refine lv_istore_n hx hb d_ST_livingCourses_37 rfl hl (by decide) rfl (fun ls hl => ?_)
      have hl : lv_has ls 5 [(3, .int ((zlc ps lf term i) ||| (1 <<< ((nI i) &&& 31)))), (0, .ref h), (1, .ref g), (2, .int term), (4, .int (nI i))] := hl
      refine lv_iinc (v := (nI (i + 1))) hx hb d_ST_livingCourses_38 hl (k := 4) rfl (by rw [nI_succ]; rfl) (by decide) rfl (fun ls hl => ?_)
      have hl : lv_has ls 5 [(4, .int (nI (i + 1))), (3, .int ((zlc ps lf term i) ||| (1 <<< ((nI i) &&& 31)))), (0, .ref h), (1, .ref g), (2, .int term)] := hl
      refine lv_goto (tgt := 5) hx hb d_ST_livingCourses_41 (by decide) ?_
      have e9 : zlc ps lf term (i + 1) = ((zlc ps lf term i) ||| (1 <<< ((nI i) &&& 31))) := by show (if _ then _ else _) = _; rw [if_pos (by cases hz : zlv (ps i) (lf i) term with | true => rfl | false => rw [hz] at h28; exact absurd rfl h28)]; rfl
      rw [← e9] at hl
      exact ih (i + 1) ls (by omega) (by omega) (lv_sub hl [2, 3, 4, 1, 0] rfl)
set_option maxHeartbeats 4000000 in
set_option maxRecDepth 100000 in
theorem m_ST_livingCourses (l : Launch) (D : va_G) (cI cJ cZ cP cS : ClassId) (h aps asf aex : Nat) (pg np : Int32) (g ap al ai ag af at0 C : Nat) (ng oc : Int32) (term : Int32) (ps lf : Nat → Int32) (hC : C ≤ 12) : Met l y_ST_livingCourses [Cond.code y_ST_livingCourses b_ST_livingCourses 5 (some .int)] ro_ST_livingCourses (va_Pc [.ref h, .ref g, .int term] (fun U => tb_ok U ∧ va_P D cls [(h, .inr (7, [.int pg, .ref aps, .ref asf, .int np, .ref aex])), (aps, .inl (cI, 12, .inl ps)), (g, .inr (1, [.int ng, .ref ap, .ref al, .ref ai, .int (nI C), .ref ag, .ref af, .int oc, .ref at0])), (af, .inl (cI, 12, .inl lf))] U.heap ∧ va_K D cls (tyl cI cJ cZ cP cS) U)) (zq (some (.int (zlc ps lf term C)))) 0 0 (fun _ => False) := by
  refine Met.ofW (cc := b_ST_livingCourses) (maxL := 5) (ret := (some .int)) (by decide +kernel) rfl ?_
  intro p e s m args below meth c s₁ B hml hv
  obtain ⟨rfl, hok, hP, hK⟩ := hv
  have hx := B.exec
  have hb := B.bytes
  have hr := B.returns
  have hown : s.vm.findClass "StudyAudit$Student" = some m.cls := findClass_of_methodNamed B.named
  have hlocks := B.notSynchronized
  have hl := lv_entry ([.ref h, .ref g, .int term]) (n := 5) (Nat.le_of_ble_eq_true rfl)
  rw [lg_entry_eq]
  generalize (lg_sl ([.ref h, .ref g, .int term]) ++ List.replicate (5 - (lg_sl ([.ref h, .ref g, .int term])).length) Slot.unset).toArray = ls at hl ⊢
  have hl : lv_has ls 5 [(0, .ref h), (1, .ref g), (2, .int term)] := hl
  refine lv_iconst (v := 0) hx hb d_ST_livingCourses_0 (by decide) ?_
  refine lv_istore_n hx hb d_ST_livingCourses_1 rfl hl (by decide) rfl (fun ls hl => ?_)
  have hl : lv_has ls 5 [(3, .int 0), (0, .ref h), (1, .ref g), (2, .int term)] := hl
  refine lv_iconst (v := 0) hx hb d_ST_livingCourses_2 (by decide) ?_
  refine lv_istore hx hb d_ST_livingCourses_3 hl (by decide) rfl (fun ls hl => ?_)
  have hl : lv_has ls 5 [(4, .int 0), (3, .int 0), (0, .ref h), (1, .ref g), (2, .int term)] := hl
  refine lo_livingCourses D cI cJ cZ cP cS h aps asf aex pg np g ap al ai ag af at0 C ng oc term ps lf hx hb hml hown hok hP hK hC (fun ls hl => ?_) (C - 0) 0 ls (by omega) (by omega) (lv_sub hl [2, 3, 4, 1, 0] rfl)
  refine lv_iload_n hx hb d_ST_livingCourses_44 rfl (lv_at hl 3 rfl) ?_
  exact W.iret hx hb hr (fun t ht _ => ⟨rfl, ht⟩) (fun q h => by cases h) d_ST_livingCourses_45
abbrev ro_ST_needOf : Room := { frames := 1, cells := 0, slots := 0, locals := 21 }
set_option maxHeartbeats 4000000 in
set_option maxRecDepth 100000 in
theorem m_ST_needOf (l : Launch) (D : va_G) (cI cJ cZ cP cS : ClassId) (h aps asf aex : Nat) (pg np : Int32) (g ad aa : Nat) (rq : Int32) (r : Nat) (dm ex : Nat → Int32) (hr5 : r ≤ 5) : Met l y_ST_needOf [Cond.code y_ST_needOf b_ST_needOf 3 (some .int)] ro_ST_needOf (va_Pc [.ref h, .ref g, .int (nI r)] (fun U => tb_ok U ∧ va_P D cls [(h, .inr (7, [.int pg, .ref aps, .ref asf, .int np, .ref aex])), (aex, .inl (cI, 6, .inl ex)), (g, .inr (5, [.int rq, .ref ad, .ref aa])), (ad, .inl (cI, 6, .inl dm))] U.heap ∧ va_K D cls (tyl cI cJ cZ cP cS) U)) (zq (some (.int (zmax 0 (dm r - ex r))))) 0 0 (fun _ => False) := by
  refine Met.ofW (cc := b_ST_needOf) (maxL := 3) (ret := (some .int)) (by decide +kernel) rfl ?_
  intro p e s m args below meth c s₁ B hml hv
  obtain ⟨rfl, hok, hP, hK⟩ := hv
  have hx := B.exec
  have hb := B.bytes
  have hr := B.returns
  have hown : s.vm.findClass "StudyAudit$Student" = some m.cls := findClass_of_methodNamed B.named
  have hlocks := B.notSynchronized
  have hl := lv_entry ([.ref h, .ref g, .int (nI r)]) (n := 3) (Nat.le_of_ble_eq_true rfl)
  rw [lg_entry_eq]
  generalize (lg_sl ([.ref h, .ref g, .int (nI r)]) ++ List.replicate (3 - (lg_sl ([.ref h, .ref g, .int (nI r)])).length) Slot.unset).toArray = ls at hl ⊢
  have hl : lv_has ls 3 [(0, .ref h), (1, .ref g), (2, .int (nI r))] := hl
  refine lv_iconst (v := 0) hx hb d_ST_needOf_0 (by decide) ?_
  refine lv_aload_n hx hb d_ST_needOf_1 rfl (lv_at hl 1 rfl) ?_
  refine va_get (D := D) (ci := 5) (v := .ref ad) (C := R_PR) (T := F_PR) (N := 3) hx hb (tb_in hok in_PR) (fun w h => h) hown hK hP 2 rfl rfl 1 (by decide) (hok _ t_83 rfl _) (fun _ h9 => h9) rfl d_ST_needOf_2 ?_
  refine lv_iload_n hx hb d_ST_needOf_5 rfl (lv_at hl 2 rfl) ?_
  refine va_iald hx hb hK hP 3 0 rfl rfl (vp_in_nI (by omega) (by omega)) d_ST_needOf_6 ?_
  rw [nI_clamp (show r < 2 ^ 31 from by omega)]
  refine lv_aload_n hx hb d_ST_needOf_7 rfl (lv_at hl 0 rfl) ?_
  refine va_get (D := D) (ci := 7) (v := .ref aex) (C := R_ST) (T := F_ST) (N := 5) hx hb (tb_in hok in_ST) (fun w h => h) hown hK hP 0 rfl rfl 4 (by decide) (hok _ t_113 rfl _) (fun _ h9 => h9) rfl d_ST_needOf_8 ?_
  refine lv_iload_n hx hb d_ST_needOf_11 rfl (lv_at hl 2 rfl) ?_
  refine va_iald hx hb hK hP 1 0 rfl rfl (vp_in_nI (by omega) (by omega)) d_ST_needOf_12 ?_
  rw [nI_clamp (show r < 2 ^ 31 from by omega)]
  refine lv_isub hx hb d_ST_needOf_13 ?_
  refine zc_read (va_runS (Ts := []) (As := [.int 0, .int ((dm r) - (ex r))]) (rest := []) ⟨hx, hb, hml, hown, fun _ h => absurd h List.not_mem_nil⟩ (m_MA_max l 0 ((dm r) - (ex r))) ⟨zc_B 2 hok c_MA_max_w t_16 t_479 rfl rfl (by decide +kernel) ⟨Nat.le_of_ble_eq_true rfl, Nat.le_of_ble_eq_true rfl⟩, hok _ t_446 rfl _⟩ ⟨fun a U g mk q => by obtain ⟨q0, q1⟩ := q; exact ⟨q0, q1⟩, fun U hU hW => ⟨rfl, trivial⟩⟩ rfl rfl hl.1 rfl (lv_room (Nat.le_of_ble_eq_true rfl)) d_ST_needOf_14 ⟨Nat.le_of_ble_eq_true rfl, Nat.le_of_ble_eq_true rfl⟩) ?_
  refine W.eq (g2 := F0 m 17 ls [.int (zmax 0 ((dm r) - (ex r)))]) rfl ?_
  exact W.iret hx hb hr (fun t ht _ => ⟨rfl, ht⟩) (fun q h => by cases h) d_ST_needOf_17
abbrev ro_CM_all : Room := { frames := 0, cells := 0, slots := 0, locals := 0 }
set_option maxHeartbeats 4000000 in
set_option maxRecDepth 100000 in
theorem m_CM_all (l : Launch) (D : va_G) (cI cJ cZ cP cS : ClassId) (h an ac : Nat) (r0 : Nat) : Met l y_CM_all [Cond.code y_CM_all b_CM_all 1 (some .int)] ro_CM_all (va_Pc [.ref h] (fun U => tb_ok U ∧ va_P D cls [(h, .inr (2, [.int (nI r0), .ref an, .ref ac]))] U.heap ∧ va_K D cls (tyl cI cJ cZ cP cS) U)) (zq (some (.int ((2 <<< (nI r0 &&& 31)) - 2)))) 0 0 (fun _ => False) := by
  refine Met.ofW (cc := b_CM_all) (maxL := 1) (ret := (some .int)) (by decide +kernel) rfl ?_
  intro p e s m args below meth c s₁ B hml hv
  obtain ⟨rfl, hok, hP, hK⟩ := hv
  have hx := B.exec
  have hb := B.bytes
  have hr := B.returns
  have hown : s.vm.findClass "StudyAudit$Claims" = some m.cls := findClass_of_methodNamed B.named
  have hlocks := B.notSynchronized
  have hl := lv_entry ([.ref h]) (n := 1) (Nat.le_of_ble_eq_true rfl)
  rw [lg_entry_eq]
  generalize (lg_sl ([.ref h]) ++ List.replicate (1 - (lg_sl ([.ref h])).length) Slot.unset).toArray = ls at hl ⊢
  have hl : lv_has ls 1 [(0, .ref h)] := hl
  refine lv_iconst (v := 2) hx hb d_CM_all_0 (by decide) ?_
  refine lv_aload_n hx hb d_CM_all_1 rfl (lv_at hl 0 rfl) ?_
  refine va_get (D := D) (ci := 2) (v := .int (nI r0)) (C := R_CM) (T := F_CM) (N := 3) hx hb (tb_in hok in_CM) (fun w h => h) hown hK hP 0 rfl rfl 0 (by decide) (hok _ t_131 rfl _) (fun _ h9 => h9) rfl d_CM_all_2 ?_
  refine lv_ishl hx hb d_CM_all_5 ?_
  refine lv_iconst (v := 2) hx hb d_CM_all_6 (by decide) ?_
  refine lv_isub hx hb d_CM_all_7 ?_
  exact W.iret hx hb hr (fun t ht _ => ⟨rfl, ht⟩) (fun q h => by cases h) d_CM_all_8
def zro (x : Int32) : Int32 := if x = -1 then 12 else x
def zti (lm ci tb : Nat → Int32) (set : Int32) (i : Nat) : Int32 := zmin (zro (lm i)) (tb i + zbc (set &&& ci i))
abbrev ro_CA_room : Room := { frames := 0, cells := 0, slots := 0, locals := 0 }
set_option maxHeartbeats 4000000 in
set_option maxRecDepth 100000 in
theorem m_CA_room (l : Launch) (D : va_G) (cI cJ cZ cP cS : ClassId) (h ap al ai ag af at0 G : Nat) (nc oc : Int32) (i : Nat) (lm : Nat → Int32) (hi : i < 6) : Met l y_CA_room [Cond.code y_CA_room b_CA_room 2 (some .int)] ro_CA_room (va_Pc [.ref h, .int (nI i)] (fun U => tb_ok U ∧ va_P D cls [(h, .inr (1, [.int (nI G), .ref ap, .ref al, .ref ai, .int nc, .ref ag, .ref af, .int oc, .ref at0])), (al, .inl (cI, 6, .inl lm))] U.heap ∧ va_K D cls (tyl cI cJ cZ cP cS) U)) (zq (some (.int (zro (lm i))))) 0 0 (fun _ => False) := by
  refine Met.ofW (cc := b_CA_room) (maxL := 2) (ret := (some .int)) (by decide +kernel) rfl ?_
  intro p e s m args below meth c s₁ B hml hv
  obtain ⟨rfl, hok, hP, hK⟩ := hv
  have hx := B.exec
  have hb := B.bytes
  have hr := B.returns
  have hown : s.vm.findClass "StudyAudit$Catalogue" = some m.cls := findClass_of_methodNamed B.named
  have hlocks := B.notSynchronized
  have hl := lv_entry ([.ref h, .int (nI i)]) (n := 2) (Nat.le_of_ble_eq_true rfl)
  rw [lg_entry_eq]
  generalize (lg_sl ([.ref h, .int (nI i)]) ++ List.replicate (2 - (lg_sl ([.ref h, .int (nI i)])).length) Slot.unset).toArray = ls at hl ⊢
  have hl : lv_has ls 2 [(0, .ref h), (1, .int (nI i))] := hl
  refine lv_aload_n hx hb d_CA_room_0 rfl (lv_at hl 0 rfl) ?_
  refine va_get (D := D) (ci := 1) (v := .ref al) (C := R_CA) (T := F_CA) (N := 9) hx hb (tb_in hok in_CA) (fun w h => h) hown hK hP 0 rfl rfl 2 (by decide) (hok _ t_38 rfl _) (fun _ h9 => h9) rfl d_CA_room_1 ?_
  refine lv_iload_n hx hb d_CA_room_4 rfl (lv_at hl 1 rfl) ?_
  refine va_iald hx hb hK hP 1 0 rfl rfl (vp_in_nI (by omega) (by omega)) d_CA_room_5 ?_
  rw [nI_clamp (show i < 2 ^ 31 from by omega)]
  refine lv_iconst (v := (-1)) hx hb d_CA_room_6 (by decide) ?_
  refine lv_icmp_ne (tgt := 15) hx hb d_CA_room_7 (by decide) (fun h7 => ?_) (fun h7 => ?_)
  · refine lv_aload_n hx hb d_CA_room_15 rfl (lv_at hl 0 rfl) ?_
    refine va_get (D := D) (ci := 1) (v := .ref al) (C := R_CA) (T := F_CA) (N := 9) hx hb (tb_in hok in_CA) (fun w h => h) hown hK hP 0 rfl rfl 2 (by decide) (hok _ t_38 rfl _) (fun _ h9 => h9) rfl d_CA_room_16 ?_
    refine lv_iload_n hx hb d_CA_room_19 rfl (lv_at hl 1 rfl) ?_
    refine va_iald hx hb hK hP 1 0 rfl rfl (vp_in_nI (by omega) (by omega)) d_CA_room_20 ?_
    rw [nI_clamp (show i < 2 ^ 31 from by omega)]
    exact W.iret hx hb hr (fun t ht _ => ⟨by simp [zro, h7], ht⟩) (fun q h => by cases h) d_CA_room_21
  · refine lv_bipush (v := 12) hx hb d_CA_room_10 (by decide) ?_
    refine lv_goto (tgt := 21) hx hb d_CA_room_12 (by decide) ?_
    exact W.iret hx hb hr (fun t ht _ => ⟨by simp [zro, h7], ht⟩) (fun q h => by cases h) d_CA_room_21
abbrev ro_CA_takenIn : Room := { frames := 1, cells := 0, slots := 0, locals := 21 }
set_option maxHeartbeats 4000000 in
set_option maxRecDepth 100000 in
theorem m_CA_takenIn (l : Launch) (D : va_G) (cI cJ cZ cP cS : ClassId) (h ap al ai ag af at0 G : Nat) (nc oc : Int32) (i : Nat) (set : Int32) (lm ci tb : Nat → Int32) (hi : i < 6) : Met l y_CA_takenIn [Cond.code y_CA_takenIn b_CA_takenIn 3 (some .int)] ro_CA_takenIn (va_Pc [.ref h, .int (nI i), .int set] (fun U => tb_ok U ∧ va_P D cls [(h, .inr (1, [.int (nI G), .ref ap, .ref al, .ref ai, .int nc, .ref ag, .ref af, .int oc, .ref at0])), (al, .inl (cI, 6, .inl lm)), (ai, .inl (cI, 6, .inl ci)), (at0, .inl (cI, 6, .inl tb))] U.heap ∧ va_K D cls (tyl cI cJ cZ cP cS) U)) (zq (some (.int (zti lm ci tb set i)))) 0 0 (fun _ => False) := by
  refine Met.ofW (cc := b_CA_takenIn) (maxL := 3) (ret := (some .int)) (by decide +kernel) rfl ?_
  intro p e s m args below meth c s₁ B hml hv
  obtain ⟨rfl, hok, hP, hK⟩ := hv
  have hx := B.exec
  have hb := B.bytes
  have hr := B.returns
  have hown : s.vm.findClass "StudyAudit$Catalogue" = some m.cls := findClass_of_methodNamed B.named
  have hlocks := B.notSynchronized
  have hl := lv_entry ([.ref h, .int (nI i), .int set]) (n := 3) (Nat.le_of_ble_eq_true rfl)
  rw [lg_entry_eq]
  generalize (lg_sl ([.ref h, .int (nI i), .int set]) ++ List.replicate (3 - (lg_sl ([.ref h, .int (nI i), .int set])).length) Slot.unset).toArray = ls at hl ⊢
  have hl : lv_has ls 3 [(0, .ref h), (1, .int (nI i)), (2, .int set)] := hl
  refine lv_aload_n hx hb d_CA_takenIn_0 rfl (lv_at hl 0 rfl) ?_
  refine lv_iload_n hx hb d_CA_takenIn_1 rfl (lv_at hl 1 rfl) ?_
  refine zc_read (va_runV (Ts := []) (As := [.int (nI i)]) (rest := []) ⟨hx, hb, hml, hown, fun _ h => absurd h List.not_mem_nil⟩ (m_CA_room l D cI cJ cZ cP cS h ap al ai ag af at0 G nc oc i lm (by omega)) ⟨zc_B 1 hok c_CA_room_w t_2 t_611 rfl rfl (by decide +kernel) ⟨Nat.le_of_ble_eq_true rfl, Nat.le_of_ble_eq_true rfl⟩, hok _ t_534 rfl _, hok _ t_535 rfl _⟩ ⟨fun a U g mk q => by obtain ⟨q0, q2, qP, qK⟩ := q; exact ⟨q0, q2.call g mk a, qP, va_K.moved (u := U) (U := U.calling g mk a) (Vm.Alike.refl U.vm) qK⟩, va_recv hK hP (ci := 1) (q0 := 0) rfl rfl, fun U hU hW => ⟨rfl, hok.warm hW, by rw [hU]; exact hP.sub [0, 1] rfl, va_K.moved hW.alike hK⟩⟩ rfl rfl hl.1 rfl (lv_room (Nat.le_of_ble_eq_true rfl)) d_CA_takenIn_2 ⟨Nat.le_of_ble_eq_true rfl, Nat.le_of_ble_eq_true rfl⟩) ?_
  refine W.eq (g2 := F0 m 5 ls [.int (zro (lm i))]) rfl ?_
  refine lv_aload_n hx hb d_CA_takenIn_5 rfl (lv_at hl 0 rfl) ?_
  refine va_get (D := D) (ci := 1) (v := .ref at0) (C := R_CA) (T := F_CA) (N := 9) hx hb (tb_in hok in_CA) (fun w h => h) hown hK hP 0 rfl rfl 8 (by decide) (hok _ t_51 rfl _) (fun _ h9 => h9) rfl d_CA_takenIn_6 ?_
  refine lv_iload_n hx hb d_CA_takenIn_9 rfl (lv_at hl 1 rfl) ?_
  refine va_iald hx hb hK hP 3 0 rfl rfl (vp_in_nI (by omega) (by omega)) d_CA_takenIn_10 ?_
  rw [nI_clamp (show i < 2 ^ 31 from by omega)]
  refine lv_iload_n hx hb d_CA_takenIn_11 rfl (lv_at hl 2 rfl) ?_
  refine lv_aload_n hx hb d_CA_takenIn_12 rfl (lv_at hl 0 rfl) ?_
  refine va_get (D := D) (ci := 1) (v := .ref ai) (C := R_CA) (T := F_CA) (N := 9) hx hb (tb_in hok in_CA) (fun w h => h) hown hK hP 0 rfl rfl 3 (by decide) (hok _ t_39 rfl _) (fun _ h9 => h9) rfl d_CA_takenIn_13 ?_
  refine lv_iload_n hx hb d_CA_takenIn_16 rfl (lv_at hl 1 rfl) ?_
  refine va_iald hx hb hK hP 2 0 rfl rfl (vp_in_nI (by omega) (by omega)) d_CA_takenIn_17 ?_
  rw [nI_clamp (show i < 2 ^ 31 from by omega)]
  refine lv_iand hx hb d_CA_takenIn_18 ?_
  refine zc_read (va_runS (Ts := []) (As := [.int (set &&& (ci i))]) (rest := [.int (tb i), .int (zro (lm i))]) ⟨hx, hb, hml, hown, fun _ h => absurd h List.not_mem_nil⟩ (m_IN_bitCount l (set &&& (ci i))) ⟨zc_B 1 hok c_IN_bitCount_w t_17 t_612 rfl rfl (by decide +kernel) ⟨Nat.le_of_ble_eq_true rfl, Nat.le_of_ble_eq_true rfl⟩, hok _ t_613 rfl _⟩ ⟨fun a U g mk q => by obtain ⟨q0, q2⟩ := q; exact ⟨q0, q2.call g mk a⟩, fun U hU hW => ⟨rfl, hok.warm hW⟩⟩ rfl rfl hl.1 rfl (lv_room (Nat.le_of_ble_eq_true rfl)) d_CA_takenIn_19 ⟨Nat.le_of_ble_eq_true rfl, Nat.le_of_ble_eq_true rfl⟩) ?_
  refine W.eq (g2 := F0 m 22 ls [.int (zbc (set &&& (ci i))), .int (tb i), .int (zro (lm i))]) rfl ?_
  refine lv_iadd hx hb d_CA_takenIn_22 ?_
  refine zc_read (va_runS (Ts := []) (As := [.int (zro (lm i)), .int ((tb i) + (zbc (set &&& (ci i))))]) (rest := []) ⟨hx, hb, hml, hown, fun _ h => absurd h List.not_mem_nil⟩ (m_MA_min l (zro (lm i)) ((tb i) + (zbc (set &&& (ci i))))) ⟨zc_B 2 hok c_MA_min_w t_16 t_618 rfl rfl (by decide +kernel) ⟨Nat.le_of_ble_eq_true rfl, Nat.le_of_ble_eq_true rfl⟩, hok _ t_473 rfl _⟩ ⟨fun a U g mk q => by obtain ⟨q0, q1⟩ := q; exact ⟨q0, q1⟩, fun U hU hW => ⟨rfl, trivial⟩⟩ rfl rfl hl.1 rfl (lv_room (Nat.le_of_ble_eq_true rfl)) d_CA_takenIn_23 ⟨Nat.le_of_ble_eq_true rfl, Nat.le_of_ble_eq_true rfl⟩) ?_
  refine W.eq (g2 := F0 m 26 ls [.int (zmin (zro (lm i)) ((tb i) + (zbc (set &&& (ci i)))))]) rfl ?_
  exact W.iret hx hb hr (fun t ht _ => ⟨rfl, ht⟩) (fun q h => by cases h) d_CA_takenIn_26
