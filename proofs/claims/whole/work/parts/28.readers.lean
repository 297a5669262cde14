/-! readers with loops: what counts, what is needed (rows by program) -/
def zw (a : Int32) (i : Nat) : Int32 := a ||| (1 <<< (nI i &&& 31))
def zcf (a : Int32) (sf : Nat → Int32) : Nat → Int32
  | 0 => a
  | i + 1 => if sf i &&& a = 0 then zcf a sf i else zw (zcf a sf i) i
abbrev ro_CM_countingFor : Room := { frames := 1, cells := 0, slots := 0, locals := 21 }
set_option maxHeartbeats 4000000 in
set_option maxRecDepth 100000 in
theorem lo_countingFor {l : Launch} {p : Program} {e : Env} {s : State} {m : MethodId} {args : Array Value} {below : List Frame} {meth : Method} {c : Code} {H : Heap} {Ls : List Loc} {Q : State → Prop} (D : va_G) (cI cJ cZ cP cS : ClassId) (h aps asf aex : Nat) (pg np a : Int32) (sf : Nat → Int32) (hx : p.tables.exec = Jvm.exec) (hb : c.code = b_CM_countingFor) (hml : c.maxLocals = 4) (hown : s.vm.findClass "StudyAudit$Claims" = some m.cls) (hok : tb_ok s) (hP : va_P D cls [(h, .inr (7, [.int pg, .ref aps, .ref asf, .int np, .ref aex])), (asf, .inl (cI, 12, .inl sf))] H) (hK : va_K D cls (tyl cI cJ cZ cP cS) s)
    (kk : ∀ ls : Array Slot, lv_has ls 4 [(0, .int a), (1, .ref h), (2, .int (zcf a sf 12)), (3, .int (nI 12))] → W p l e ro_CM_countingFor s m args below meth c H Ls 0 0 Q (F0 m 33 ls [])) :
    ∀ (k i : Nat) (ls : Array Slot), 0 ≤ i → i + k = 12 → lv_has ls 4 [(0, .int a), (1, .ref h), (2, .int (zcf a sf i)), (3, .int (nI i))] → W p l e ro_CM_countingFor s m args below meth c H Ls 0 0 Q (F0 m 4 ls []) := by
  intro k
  induction k with
  | zero =>
    intro i ls hi0 hik hl
    have hik : 12 = i := by omega
    subst hik
    refine lv_iload_n hx hb d_CM_countingFor_4 rfl (lv_at hl 3 rfl) ?_
    refine lv_bipush (v := 12) hx hb d_CM_countingFor_5 (by decide) ?_
    refine lv_icmp_ge (tgt := 33) hx hb d_CM_countingFor_7 (by decide) (fun h7 => ?_) (fun h7 => absurd (show nI 12 ≤ nI 12 from Int32.le_refl _) h7)
    exact kk ls (lv_sub hl [0, 1, 2, 3] rfl)
  | succ k ih =>
    intro i ls hi0 hik hl
    refine lv_iload_n hx hb d_CM_countingFor_4 rfl (lv_at hl 3 rfl) ?_
    refine lv_bipush (v := 12) hx hb d_CM_countingFor_5 (by decide) ?_
    refine lv_icmp_ge (tgt := 33) hx hb d_CM_countingFor_7 (by decide) (fun h7 => absurd h7 (show ¬ nI 12 ≤ nI i from nI_ge (by omega) (by omega))) (fun h7 => ?_)
    refine lv_aload_n hx hb d_CM_countingFor_10 rfl (lv_at hl 1 rfl) ?_
    refine va_get (D := D) (ci := 7) (v := .ref asf) (C := R_ST) (T := F_ST) (N := 5) hx hb (tb_in hok in_ST) (fun w h => h) hown hK hP 0 rfl rfl 2 (by decide) (hok _ t_109 rfl _) (fun _ h9 => h9) rfl d_CM_countingFor_11 ?_
    refine lv_iload_n hx hb d_CM_countingFor_14 rfl (lv_at hl 3 rfl) ?_
    refine va_iald hx hb hK hP 1 0 rfl rfl (vp_in_nI (by omega) (by omega)) d_CM_countingFor_15 ?_
    rw [nI_clamp (show i < 2 ^ 31 from by omega)]
    refine lv_iload_n hx hb d_CM_countingFor_16 rfl (lv_at hl 0 rfl) ?_
    refine lv_iand hx hb d_CM_countingFor_17 ?_
    refine lv_if_eq (tgt := 27) hx hb d_CM_countingFor_18 (by decide) (fun h18 => ?_) (fun h18 => ?_)
    · refine lv_iinc (v := (nI (i + 1))) hx hb d_CM_countingFor_27 hl (k := 3) rfl (by rw [nI_succ]; rfl) (by decide) rfl (fun ls hl => ?_)
      have hl : lv_has ls 4 [(3, .int (nI (i + 1))), (0, .int a), (1, .ref h), (2, .int (zcf a sf i))] := hl
      refine lv_goto (tgt := 4) hx hb d_CM_countingFor_30 (by decide) ?_
      have e9 : zcf a sf (i + 1) = (zcf a sf i) := by show (if _ then _ else _) = _; rw [if_pos h18]
      rw [← e9] at hl
      exact ih (i + 1) ls (by omega) (by omega) (lv_sub hl [1, 2, 3, 0] rfl)
    · refine lv_iload_n hx hb d_CM_countingFor_21 rfl (lv_at hl 2 rfl) ?_
      refine lv_iload_n hx hb d_CM_countingFor_22 rfl (lv_at hl 3 rfl) ?_
      refine zc_read (va_runSN (Ts := []) (As := [.int (zcf a sf i), .int (nI i)]) (rest := []) ⟨hx, hb, hml, hown, fun _ h => absurd h List.not_mem_nil⟩ (m_SA_with l (zcf a sf i) (nI i)) ⟨zc_CN 2 hok c_SA_with_w t_1 t_520 rfl rfl (by decide +kernel) ⟨Nat.le_of_ble_eq_true rfl, Nat.le_of_ble_eq_true rfl⟩, hok _ t_369 rfl _, trivial⟩ ⟨fun a U g mk q => by obtain ⟨q0, q1⟩ := q; exact ⟨q0, q1⟩, fun U hU hW => ⟨rfl, trivial⟩⟩ rfl rfl hl.1 rfl (lv_room (Nat.le_of_ble_eq_true rfl)) d_CM_countingFor_23 ⟨Nat.le_of_ble_eq_true rfl, Nat.le_of_ble_eq_true rfl⟩) ?_
      refine W.eq (g2 := F0 m 26 ls [.int ((zcf a sf i) ||| (1 <<< ((nI i) &&& 31)))]) rfl ?_
      refine lv_istore_n hx hb d_CM_countingFor_26 rfl hl (by decide) rfl (fun ls hl => ?_)
      have hl : lv_has ls 4 [(2, .int ((zcf a sf i) ||| (1 <<< ((nI i) &&& 31)))), (0, .int a), (1, .ref h), (3, .int (nI i))] := hl
      refine lv_iinc (v := (nI (i + 1))) hx hb d_CM_countingFor_27 hl (k := 3) rfl (by rw [nI_succ]; rfl) (by decide) rfl (fun ls hl => ?_)
      have hl : lv_has ls 4 [(3, .int (nI (i + 1))), (2, .int ((zcf a sf i) ||| (1 <<< ((nI i) &&& 31)))), (0, .int a), (1, .ref h)] := hl
      refine lv_goto (tgt := 4) hx hb d_CM_countingFor_30 (by decide) ?_
      have e9 : zcf a sf (i + 1) = ((zcf a sf i) ||| (1 <<< ((nI i) &&& 31))) := by show (if _ then _ else _) = _; rw [if_neg h18]; rfl
      rw [← e9] at hl
      exact ih (i + 1) ls (by omega) (by omega) (lv_sub hl [2, 3, 1, 0] rfl)
set_option maxHeartbeats 4000000 in
set_option maxRecDepth 100000 in
theorem m_CM_countingFor (l : Launch) (D : va_G) (cI cJ cZ cP cS : ClassId) (h aps asf aex : Nat) (pg np a : Int32) (sf : Nat → Int32) : Met l y_CM_countingFor [Cond.code y_CM_countingFor b_CM_countingFor 4 (some .int)] ro_CM_countingFor (va_Pc [.int a, .ref h] (fun U => tb_ok U ∧ va_P D cls [(h, .inr (7, [.int pg, .ref aps, .ref asf, .int np, .ref aex])), (asf, .inl (cI, 12, .inl sf))] U.heap ∧ va_K D cls (tyl cI cJ cZ cP cS) U)) (zq (some (.int (zcf a sf 12)))) 0 0 (fun _ => False) := by
  refine Met.ofW (cc := b_CM_countingFor) (maxL := 4) (ret := (some .int)) (by decide +kernel) rfl ?_
  intro p e s m args below meth c s₁ B hml hv
  obtain ⟨rfl, hok, hP, hK⟩ := hv
  have hx := B.exec
  have hb := B.bytes
  have hr := B.returns
  have hown : s.vm.findClass "StudyAudit$Claims" = some m.cls := findClass_of_methodNamed B.named
  have hlocks := B.notSynchronized
  have hl := lv_entry ([.int a, .ref h]) (n := 4) (Nat.le_of_ble_eq_true rfl)
  rw [lg_entry_eq]
  generalize (lg_sl ([.int a, .ref h]) ++ List.replicate (4 - (lg_sl ([.int a, .ref h])).length) Slot.unset).toArray = ls at hl ⊢
  have hl : lv_has ls 4 [(0, .int a), (1, .ref h)] := hl
  refine lv_iload_n hx hb d_CM_countingFor_0 rfl (lv_at hl 0 rfl) ?_
  refine lv_istore_n hx hb d_CM_countingFor_1 rfl hl (by decide) rfl (fun ls hl => ?_)
  have hl : lv_has ls 4 [(2, .int a), (0, .int a), (1, .ref h)] := hl
  refine lv_iconst (v := 0) hx hb d_CM_countingFor_2 (by decide) ?_
  refine lv_istore_n hx hb d_CM_countingFor_3 rfl hl (by decide) rfl (fun ls hl => ?_)
  have hl : lv_has ls 4 [(3, .int 0), (2, .int a), (0, .int a), (1, .ref h)] := hl
  refine lo_countingFor D cI cJ cZ cP cS h aps asf aex pg np a sf hx hb hml hown hok hP hK (fun ls hl => ?_) (12 - 0) 0 ls (by omega) (by omega) (lv_sub hl [2, 3, 1, 0] rfl)
  refine lv_iload_n hx hb d_CM_countingFor_33 rfl (lv_at hl 2 rfl) ?_
  exact W.iret hx hb hr (fun t ht _ => ⟨rfl, ht⟩) (fun q h => by cases h) d_CM_countingFor_34
def zns (set : Int32) (f : Nat → Int32) : Nat → Int32
  | 0 => 0
  | 1 => 0
  | i + 2 => if zh set (nI (i + 1)) = true then zns set f (i + 1) + f (i + 1) else zns set f (i + 1)
abbrev ro_CM_needOfSet : Room := { frames := 1, cells := 0, slots := 0, locals := 21 }
set_option maxHeartbeats 4000000 in
set_option maxRecDepth 100000 in
theorem lo_CM_needOfSet {l : Launch} {p : Program} {e : Env} {s : State} {m : MethodId} {args : Array Value} {below : List Frame} {meth : Method} {c : Code} {H : Heap} {Ls : List Loc} {Q : State → Prop} (D : va_G) (cI cJ cZ cP cS : ClassId) (h an ac : Nat) (r0 : Nat) (set : Int32) (f : Nat → Int32) (hx : p.tables.exec = Jvm.exec) (hb : c.code = b_CM_needOfSet) (hml : c.maxLocals = 4) (hown : s.vm.findClass "StudyAudit$Claims" = some m.cls) (hok : tb_ok s) (hP : va_P D cls [(h, .inr (2, [.int (nI r0), .ref an, .ref ac])), (an, .inl (cI, 6, .inl f))] H) (hK : va_K D cls (tyl cI cJ cZ cP cS) s) (hr0 : r0 ≤ 5)
    (kk : ∀ ls : Array Slot, lv_has ls 4 [(0, .ref h), (1, .int set), (2, .int (zns set f (r0 + 1))), (3, .int (nI (r0 + 1)))] → W p l e ro_CM_needOfSet s m args below meth c H Ls 0 0 Q (F0 m 35 ls [])) :
    ∀ (k i : Nat) (ls : Array Slot), 1 ≤ i → i + k = (r0 + 1) → lv_has ls 4 [(0, .ref h), (1, .int set), (2, .int (zns set f i)), (3, .int (nI i))] → W p l e ro_CM_needOfSet s m args below meth c H Ls 0 0 Q (F0 m 4 ls []) := by
  intro k
  induction k with
  | zero =>
    intro i ls hi0 hik hl
    have hik : (r0 + 1) = i := by omega
    subst hik
    refine lv_iload_n hx hb d_CM_needOfSet_4 rfl (lv_at hl 3 rfl) ?_
    refine lv_aload_n hx hb d_CM_needOfSet_5 rfl (lv_at hl 0 rfl) ?_
    refine va_get (D := D) (ci := 2) (v := .int (nI r0)) (C := R_CM) (T := F_CM) (N := 3) hx hb (tb_in hok in_CM) (fun w h => h) hown hK hP 0 rfl rfl 0 (by decide) (hok _ t_131 rfl _) (fun _ h9 => h9) rfl d_CM_needOfSet_6 ?_
    refine lv_icmp_gt (tgt := 35) hx hb d_CM_needOfSet_9 (by decide) (fun h9 => ?_) (fun h9 => absurd (show nI r0 < nI (r0 + 1) from nI_lt (by omega) (by omega)) h9)
    exact kk ls (lv_sub hl [0, 1, 2, 3] rfl)
  | succ k ih =>
    intro i ls hi0 hik hl
    refine lv_iload_n hx hb d_CM_needOfSet_4 rfl (lv_at hl 3 rfl) ?_
    refine lv_aload_n hx hb d_CM_needOfSet_5 rfl (lv_at hl 0 rfl) ?_
    refine va_get (D := D) (ci := 2) (v := .int (nI r0)) (C := R_CM) (T := F_CM) (N := 3) hx hb (tb_in hok in_CM) (fun w h => h) hown hK hP 0 rfl rfl 0 (by decide) (hok _ t_131 rfl _) (fun _ h9 => h9) rfl d_CM_needOfSet_6 ?_
    refine lv_icmp_gt (tgt := 35) hx hb d_CM_needOfSet_9 (by decide) (fun h9 => absurd h9 (show ¬ nI r0 < nI i from nI_nlt (by omega) (by omega))) (fun h9 => ?_)
    refine lv_iload_n hx hb d_CM_needOfSet_12 rfl (lv_at hl 1 rfl) ?_
    refine lv_iload_n hx hb d_CM_needOfSet_13 rfl (lv_at hl 3 rfl) ?_
    refine zc_read (va_runSN (Ts := []) (As := [.int set, .int (nI i)]) (rest := []) ⟨hx, hb, hml, hown, fun _ h => absurd h List.not_mem_nil⟩ (m_SA_has l set (nI i)) ⟨zc_CN 2 hok c_SA_has_w t_1 t_591 rfl rfl (by decide +kernel) ⟨Nat.le_of_ble_eq_true rfl, Nat.le_of_ble_eq_true rfl⟩, hok _ t_387 rfl _, trivial⟩ ⟨fun a U g mk q => by obtain ⟨q0, q1⟩ := q; exact ⟨q0, q1⟩, fun U hU hW => ⟨rfl, trivial⟩⟩ rfl rfl hl.1 rfl (lv_room (Nat.le_of_ble_eq_true rfl)) d_CM_needOfSet_14 ⟨Nat.le_of_ble_eq_true rfl, Nat.le_of_ble_eq_true rfl⟩) ?_
    refine W.eq (g2 := F0 m 17 ls [.int (zb (zh set (nI i)))]) rfl ?_
    refine lv_if_eq (tgt := 29) hx hb d_CM_needOfSet_17 (by decide) (fun h17 => ?_) (fun h17 => ?_)
    · refine lv_iinc (v := (nI (i + 1))) hx hb d_CM_needOfSet_29 hl (k := 3) rfl (by rw [nI_succ]; rfl) (by decide) rfl (fun ls hl => ?_)
      have hl : lv_has ls 4 [(3, .int (nI (i + 1))), (0, .ref h), (1, .int set), (2, .int (zns set f i))] := hl
      refine lv_goto (tgt := 4) hx hb d_CM_needOfSet_32 (by decide) ?_
      have e9 : zns set f (i + 1) = (zns set f i) := by
        obtain ⟨j, rfl⟩ : ∃ j, i = j + 1 := ⟨i - 1, by omega⟩
        show (if _ then _ else _) = _
        rw [if_neg (fun z => by rw [z] at h17; exact absurd h17 (by decide))]
      rw [← e9] at hl
      exact ih (i + 1) ls (by omega) (by omega) (lv_sub hl [1, 2, 3, 0] rfl)
    · refine lv_iload_n hx hb d_CM_needOfSet_20 rfl (lv_at hl 2 rfl) ?_
      refine lv_aload_n hx hb d_CM_needOfSet_21 rfl (lv_at hl 0 rfl) ?_
      refine va_get (D := D) (ci := 2) (v := .ref an) (C := R_CM) (T := F_CM) (N := 3) hx hb (tb_in hok in_CM) (fun w h => h) hown hK hP 0 rfl rfl 1 (by decide) (hok _ t_133 rfl _) (fun _ h9 => h9) rfl d_CM_needOfSet_22 ?_
      refine lv_iload_n hx hb d_CM_needOfSet_25 rfl (lv_at hl 3 rfl) ?_
      refine va_iald hx hb hK hP 1 0 rfl rfl (vp_in_nI (by omega) (by omega)) d_CM_needOfSet_26 ?_
      rw [nI_clamp (show i < 2 ^ 31 from by omega)]
      refine lv_iadd hx hb d_CM_needOfSet_27 ?_
      refine lv_istore_n hx hb d_CM_needOfSet_28 rfl hl (by decide) rfl (fun ls hl => ?_)
      have hl : lv_has ls 4 [(2, .int ((zns set f i) + (f i))), (0, .ref h), (1, .int set), (3, .int (nI i))] := hl
      refine lv_iinc (v := (nI (i + 1))) hx hb d_CM_needOfSet_29 hl (k := 3) rfl (by rw [nI_succ]; rfl) (by decide) rfl (fun ls hl => ?_)
      have hl : lv_has ls 4 [(3, .int (nI (i + 1))), (2, .int ((zns set f i) + (f i))), (0, .ref h), (1, .int set)] := hl
      refine lv_goto (tgt := 4) hx hb d_CM_needOfSet_32 (by decide) ?_
      have e9 : zns set f (i + 1) = ((zns set f i) + (f i)) := by
        obtain ⟨j, rfl⟩ : ∃ j, i = j + 1 := ⟨i - 1, by omega⟩
        show (if _ then _ else _) = _
        rw [if_pos (by cases hz : zh set (nI (j + 1)) with | true => rfl | false => rw [hz] at h17; exact absurd rfl h17)]
      rw [← e9] at hl
      exact ih (i + 1) ls (by omega) (by omega) (lv_sub hl [2, 3, 1, 0] rfl)
set_option maxHeartbeats 4000000 in
set_option maxRecDepth 100000 in
theorem m_CM_needOfSet (l : Launch) (D : va_G) (cI cJ cZ cP cS : ClassId) (h an ac : Nat) (r0 : Nat) (set : Int32) (f : Nat → Int32) (hr0 : r0 ≤ 5) : Met l y_CM_needOfSet [Cond.code y_CM_needOfSet b_CM_needOfSet 4 (some .int)] ro_CM_needOfSet (va_Pc [.ref h, .int set] (fun U => tb_ok U ∧ va_P D cls [(h, .inr (2, [.int (nI r0), .ref an, .ref ac])), (an, .inl (cI, 6, .inl f))] U.heap ∧ va_K D cls (tyl cI cJ cZ cP cS) U)) (zq (some (.int (zns set f (r0 + 1))))) 0 0 (fun _ => False) := by
  refine Met.ofW (cc := b_CM_needOfSet) (maxL := 4) (ret := (some .int)) (by decide +kernel) rfl ?_
  intro p e s m args below meth c s₁ B hml hv
  obtain ⟨rfl, hok, hP, hK⟩ := hv
  have hx := B.exec
  have hb := B.bytes
  have hr := B.returns
  have hown : s.vm.findClass "StudyAudit$Claims" = some m.cls := findClass_of_methodNamed B.named
  have hlocks := B.notSynchronized
  have hl := lv_entry ([.ref h, .int set]) (n := 4) (Nat.le_of_ble_eq_true rfl)
  rw [lg_entry_eq]
  generalize (lg_sl ([.ref h, .int set]) ++ List.replicate (4 - (lg_sl ([.ref h, .int set])).length) Slot.unset).toArray = ls at hl ⊢
  have hl : lv_has ls 4 [(0, .ref h), (1, .int set)] := hl
  refine lv_iconst (v := 0) hx hb d_CM_needOfSet_0 (by decide) ?_
  refine lv_istore_n hx hb d_CM_needOfSet_1 rfl hl (by decide) rfl (fun ls hl => ?_)
  have hl : lv_has ls 4 [(2, .int 0), (0, .ref h), (1, .int set)] := hl
  refine lv_iconst (v := 1) hx hb d_CM_needOfSet_2 (by decide) ?_
  refine lv_istore_n hx hb d_CM_needOfSet_3 rfl hl (by decide) rfl (fun ls hl => ?_)
  have hl : lv_has ls 4 [(3, .int 1), (2, .int 0), (0, .ref h), (1, .int set)] := hl
  refine lo_CM_needOfSet D cI cJ cZ cP cS h an ac r0 set f hx hb hml hown hok hP hK hr0 (fun ls hl => ?_) ((r0 + 1) - 1) 1 ls (by omega) (by omega) (lv_sub hl [2, 3, 1, 0] rfl)
  refine lv_iload_n hx hb d_CM_needOfSet_35 rfl (lv_at hl 2 rfl) ?_
  exact W.iret hx hb hr (fun t ht _ => ⟨rfl, ht⟩) (fun q h => by cases h) d_CM_needOfSet_36
def zcs (set : Int32) (f : Nat → Int32) : Nat → Int32
  | 0 => 0
  | 1 => 0
  | i + 2 => if zh set (nI (i + 1)) = true then zcs set f (i + 1) ||| f (i + 1) else zcs set f (i + 1)
abbrev ro_CM_countingForSet : Room := { frames := 1, cells := 0, slots := 0, locals := 21 }
set_option maxHeartbeats 4000000 in
set_option maxRecDepth 100000 in
theorem lo_CM_countingForSet {l : Launch} {p : Program} {e : Env} {s : State} {m : MethodId} {args : Array Value} {below : List Frame} {meth : Method} {c : Code} {H : Heap} {Ls : List Loc} {Q : State → Prop} (D : va_G) (cI cJ cZ cP cS : ClassId) (h an ac : Nat) (r0 : Nat) (set : Int32) (f : Nat → Int32) (hx : p.tables.exec = Jvm.exec) (hb : c.code = b_CM_countingForSet) (hml : c.maxLocals = 4) (hown : s.vm.findClass "StudyAudit$Claims" = some m.cls) (hok : tb_ok s) (hP : va_P D cls [(h, .inr (2, [.int (nI r0), .ref an, .ref ac])), (ac, .inl (cI, 6, .inl f))] H) (hK : va_K D cls (tyl cI cJ cZ cP cS) s) (hr0 : r0 ≤ 5)
    (kk : ∀ ls : Array Slot, lv_has ls 4 [(0, .ref h), (1, .int set), (2, .int (zcs set f (r0 + 1))), (3, .int (nI (r0 + 1)))] → W p l e ro_CM_countingForSet s m args below meth c H Ls 0 0 Q (F0 m 35 ls [])) :
    ∀ (k i : Nat) (ls : Array Slot), 1 ≤ i → i + k = (r0 + 1) → lv_has ls 4 [(0, .ref h), (1, .int set), (2, .int (zcs set f i)), (3, .int (nI i))] → W p l e ro_CM_countingForSet s m args below meth c H Ls 0 0 Q (F0 m 4 ls []) := by
  intro k
  induction k with
  | zero =>
    intro i ls hi0 hik hl
    have hik : (r0 + 1) = i := by omega
    subst hik
    refine lv_iload_n hx hb d_CM_countingForSet_4 rfl (lv_at hl 3 rfl) ?_
    refine lv_aload_n hx hb d_CM_countingForSet_5 rfl (lv_at hl 0 rfl) ?_
    refine va_get (D := D) (ci := 2) (v := .int (nI r0)) (C := R_CM) (T := F_CM) (N := 3) hx hb (tb_in hok in_CM) (fun w h => h) hown hK hP 0 rfl rfl 0 (by decide) (hok _ t_131 rfl _) (fun _ h9 => h9) rfl d_CM_countingForSet_6 ?_
    refine lv_icmp_gt (tgt := 35) hx hb d_CM_countingForSet_9 (by decide) (fun h9 => ?_) (fun h9 => absurd (show nI r0 < nI (r0 + 1) from nI_lt (by omega) (by omega)) h9)
    exact kk ls (lv_sub hl [0, 1, 2, 3] rfl)
  | succ k ih =>
    intro i ls hi0 hik hl
    refine lv_iload_n hx hb d_CM_countingForSet_4 rfl (lv_at hl 3 rfl) ?_
    refine lv_aload_n hx hb d_CM_countingForSet_5 rfl (lv_at hl 0 rfl) ?_
    refine va_get (D := D) (ci := 2) (v := .int (nI r0)) (C := R_CM) (T := F_CM) (N := 3) hx hb (tb_in hok in_CM) (fun w h => h) hown hK hP 0 rfl rfl 0 (by decide) (hok _ t_131 rfl _) (fun _ h9 => h9) rfl d_CM_countingForSet_6 ?_
    refine lv_icmp_gt (tgt := 35) hx hb d_CM_countingForSet_9 (by decide) (fun h9 => absurd h9 (show ¬ nI r0 < nI i from nI_nlt (by omega) (by omega))) (fun h9 => ?_)
    refine lv_iload_n hx hb d_CM_countingForSet_12 rfl (lv_at hl 1 rfl) ?_
    refine lv_iload_n hx hb d_CM_countingForSet_13 rfl (lv_at hl 3 rfl) ?_
    refine zc_read (va_runSN (Ts := []) (As := [.int set, .int (nI i)]) (rest := []) ⟨hx, hb, hml, hown, fun _ h => absurd h List.not_mem_nil⟩ (m_SA_has l set (nI i)) ⟨zc_CN 2 hok c_SA_has_w t_1 t_591 rfl rfl (by decide +kernel) ⟨Nat.le_of_ble_eq_true rfl, Nat.le_of_ble_eq_true rfl⟩, hok _ t_387 rfl _, trivial⟩ ⟨fun a U g mk q => by obtain ⟨q0, q1⟩ := q; exact ⟨q0, q1⟩, fun U hU hW => ⟨rfl, trivial⟩⟩ rfl rfl hl.1 rfl (lv_room (Nat.le_of_ble_eq_true rfl)) d_CM_countingForSet_14 ⟨Nat.le_of_ble_eq_true rfl, Nat.le_of_ble_eq_true rfl⟩) ?_
    refine W.eq (g2 := F0 m 17 ls [.int (zb (zh set (nI i)))]) rfl ?_
    refine lv_if_eq (tgt := 29) hx hb d_CM_countingForSet_17 (by decide) (fun h17 => ?_) (fun h17 => ?_)
    · refine lv_iinc (v := (nI (i + 1))) hx hb d_CM_countingForSet_29 hl (k := 3) rfl (by rw [nI_succ]; rfl) (by decide) rfl (fun ls hl => ?_)
      have hl : lv_has ls 4 [(3, .int (nI (i + 1))), (0, .ref h), (1, .int set), (2, .int (zcs set f i))] := hl
      refine lv_goto (tgt := 4) hx hb d_CM_countingForSet_32 (by decide) ?_
      have e9 : zcs set f (i + 1) = (zcs set f i) := by
        obtain ⟨j, rfl⟩ : ∃ j, i = j + 1 := ⟨i - 1, by omega⟩
        show (if _ then _ else _) = _
        rw [if_neg (fun z => by rw [z] at h17; exact absurd h17 (by decide))]
      rw [← e9] at hl
      exact ih (i + 1) ls (by omega) (by omega) (lv_sub hl [1, 2, 3, 0] rfl)
    · refine lv_iload_n hx hb d_CM_countingForSet_20 rfl (lv_at hl 2 rfl) ?_
      refine lv_aload_n hx hb d_CM_countingForSet_21 rfl (lv_at hl 0 rfl) ?_
      refine va_get (D := D) (ci := 2) (v := .ref ac) (C := R_CM) (T := F_CM) (N := 3) hx hb (tb_in hok in_CM) (fun w h => h) hown hK hP 0 rfl rfl 2 (by decide) (hok _ t_135 rfl _) (fun _ h9 => h9) rfl d_CM_countingForSet_22 ?_
      refine lv_iload_n hx hb d_CM_countingForSet_25 rfl (lv_at hl 3 rfl) ?_
      refine va_iald hx hb hK hP 1 0 rfl rfl (vp_in_nI (by omega) (by omega)) d_CM_countingForSet_26 ?_
      rw [nI_clamp (show i < 2 ^ 31 from by omega)]
      refine lv_ior hx hb d_CM_countingForSet_27 ?_
      refine lv_istore_n hx hb d_CM_countingForSet_28 rfl hl (by decide) rfl (fun ls hl => ?_)
      have hl : lv_has ls 4 [(2, .int ((zcs set f i) ||| (f i))), (0, .ref h), (1, .int set), (3, .int (nI i))] := hl
      refine lv_iinc (v := (nI (i + 1))) hx hb d_CM_countingForSet_29 hl (k := 3) rfl (by rw [nI_succ]; rfl) (by decide) rfl (fun ls hl => ?_)
      have hl : lv_has ls 4 [(3, .int (nI (i + 1))), (2, .int ((zcs set f i) ||| (f i))), (0, .ref h), (1, .int set)] := hl
      refine lv_goto (tgt := 4) hx hb d_CM_countingForSet_32 (by decide) ?_
      have e9 : zcs set f (i + 1) = ((zcs set f i) ||| (f i)) := by
        obtain ⟨j, rfl⟩ : ∃ j, i = j + 1 := ⟨i - 1, by omega⟩
        show (if _ then _ else _) = _
        rw [if_pos (by cases hz : zh set (nI (j + 1)) with | true => rfl | false => rw [hz] at h17; exact absurd rfl h17)]
      rw [← e9] at hl
      exact ih (i + 1) ls (by omega) (by omega) (lv_sub hl [2, 3, 1, 0] rfl)
set_option maxHeartbeats 4000000 in
set_option maxRecDepth 100000 in
theorem m_CM_countingForSet (l : Launch) (D : va_G) (cI cJ cZ cP cS : ClassId) (h an ac : Nat) (r0 : Nat) (set : Int32) (f : Nat → Int32) (hr0 : r0 ≤ 5) : Met l y_CM_countingForSet [Cond.code y_CM_countingForSet b_CM_countingForSet 4 (some .int)] ro_CM_countingForSet (va_Pc [.ref h, .int set] (fun U => tb_ok U ∧ va_P D cls [(h, .inr (2, [.int (nI r0), .ref an, .ref ac])), (ac, .inl (cI, 6, .inl f))] U.heap ∧ va_K D cls (tyl cI cJ cZ cP cS) U)) (zq (some (.int (zcs set f (r0 + 1))))) 0 0 (fun _ => False) := by
  refine Met.ofW (cc := b_CM_countingForSet) (maxL := 4) (ret := (some .int)) (by decide +kernel) rfl ?_
  intro p e s m args below meth c s₁ B hml hv
  obtain ⟨rfl, hok, hP, hK⟩ := hv
  have hx := B.exec
  have hb := B.bytes
  have hr := B.returns
  have hown : s.vm.findClass "StudyAudit$Claims" = some m.cls := findClass_of_methodNamed B.named
  have hlocks := B.notSynchronized
  have hl := lv_entry ([.ref h, .int set]) (n := 4) (Nat.le_of_ble_eq_true rfl)
  rw [lg_entry_eq]
  generalize (lg_sl ([.ref h, .int set]) ++ List.replicate (4 - (lg_sl ([.ref h, .int set])).length) Slot.unset).toArray = ls at hl ⊢
  have hl : lv_has ls 4 [(0, .ref h), (1, .int set)] := hl
  refine lv_iconst (v := 0) hx hb d_CM_countingForSet_0 (by decide) ?_
  refine lv_istore_n hx hb d_CM_countingForSet_1 rfl hl (by decide) rfl (fun ls hl => ?_)
  have hl : lv_has ls 4 [(2, .int 0), (0, .ref h), (1, .int set)] := hl
  refine lv_iconst (v := 1) hx hb d_CM_countingForSet_2 (by decide) ?_
  refine lv_istore_n hx hb d_CM_countingForSet_3 rfl hl (by decide) rfl (fun ls hl => ?_)
  have hl : lv_has ls 4 [(3, .int 1), (2, .int 0), (0, .ref h), (1, .int set)] := hl
  refine lo_CM_countingForSet D cI cJ cZ cP cS h an ac r0 set f hx hb hml hown hok hP hK hr0 (fun ls hl => ?_) ((r0 + 1) - 1) 1 ls (by omega) (by omega) (lv_sub hl [2, 3, 1, 0] rfl)
  refine lv_iload_n hx hb d_CM_countingForSet_35 rfl (lv_at hl 2 rfl) ?_
  exact W.iret hx hb hr (fun t ht _ => ⟨rfl, ht⟩) (fun q h => by cases h) d_CM_countingForSet_36
