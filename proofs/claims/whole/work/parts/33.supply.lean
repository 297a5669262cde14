/-! the supply, the courses within, the claims, the unmet set (rows by program) -/
def zmw (G : Nat) (pa lm ci tb : Nat → Int32) (set : Int32) : Nat → (Nat → Int32)
  | 0 => tb
  | j + 1 => upd (zmw G pa lm ci tb set j) (pa (G - 1 - j)).toNatClampNeg (zmw G pa lm ci tb set j (pa (G - 1 - j)).toNatClampNeg + zti lm ci (zmw G pa lm ci tb set j) set (G - 1 - j))
def zms (G : Nat) (lm ci tb : Nat → Int32) (set : Int32) : Int32 := if G = 0 then 0 else zti lm ci tb set 0
abbrev ro_CA_mostWithinLimits : Room := { frames := 2, cells := 0, slots := 0, locals := 43 }
set_option maxHeartbeats 4000000 in
set_option maxRecDepth 100000 in
theorem lo_mostWithinLimits {l : Launch} {p : Program} {e : Env} {s : State} {m : MethodId} {args : Array Value} {below : List Frame} {meth : Method} {c : Code} {H0 : Heap} {A : Nat → Prop} {Q : State → Prop} (D : va_G) (cI cJ cZ cP cS : ClassId) (h ap al ai ag af at0 G C : Nat) (oc : Int32) (set : Int32) (pa lm ci tb : Nat → Int32) (hx : p.tables.exec = Jvm.exec) (hb : c.code = b_CA_mostWithinLimits) (hml : c.maxLocals = 3) (hown : s.vm.findClass "StudyAudit$Catalogue" = some m.cls) (hok : tb_ok s) (hK : va_K D cls (tyl cI cJ cZ cP cS) s) (hA : ∀ q : Nat, H0.size ≤ q → A q) (hG : G ≤ 6) (hpa : ∀ j, 0 < j → j < G → vp_in (pa j) 6)
    (kk : ∀ (ls : Array Slot) (H : Heap) (locs : List Loc), lv_has ls 3 [(0, .ref h), (1, .int set), (2, .int (nI 0))] → va_P D cls [(h, .inr (1, [.int (nI G), .ref ap, .ref al, .ref ai, .int (nI C), .ref ag, .ref af, .int oc, .ref at0])), (ap, .inl (cI, 6, .inl pa)), (al, .inl (cI, 6, .inl lm)), (ai, .inl (cI, 6, .inl ci)), (at0, .inl (cI, 6, .inl (zmw G pa lm ci tb set (G - 1 - 0))))] H → va_D A [(h, .inr (1, [.int (nI G), .ref ap, .ref al, .ref ai, .int (nI C), .ref ag, .ref af, .int oc, .ref at0])), (ap, .inl (cI, 6, .inl pa)), (al, .inl (cI, 6, .inl lm)), (ai, .inl (cI, 6, .inl ci)), (at0, .inl (cI, 6, .inl (zmw G pa lm ci tb set (G - 1 - 0))))] → va_S A H0 H locs → W p l e ro_CA_mostWithinLimits s m args below meth c H locs 0 0 Q (F0 m 45 ls [])) :
    ∀ (i : Nat) (ls : Array Slot) (H : Heap) (locs : List Loc), i ≤ (G - 1) → lv_has ls 3 [(0, .ref h), (1, .int set), (2, .int (nI i))] → va_P D cls [(h, .inr (1, [.int (nI G), .ref ap, .ref al, .ref ai, .int (nI C), .ref ag, .ref af, .int oc, .ref at0])), (ap, .inl (cI, 6, .inl pa)), (al, .inl (cI, 6, .inl lm)), (ai, .inl (cI, 6, .inl ci)), (at0, .inl (cI, 6, .inl (zmw G pa lm ci tb set (G - 1 - i))))] H → va_D A [(h, .inr (1, [.int (nI G), .ref ap, .ref al, .ref ai, .int (nI C), .ref ag, .ref af, .int oc, .ref at0])), (ap, .inl (cI, 6, .inl pa)), (al, .inl (cI, 6, .inl lm)), (ai, .inl (cI, 6, .inl ci)), (at0, .inl (cI, 6, .inl (zmw G pa lm ci tb set (G - 1 - i))))] → va_S A H0 H locs → W p l e ro_CA_mostWithinLimits s m args below meth c H locs 0 0 Q (F0 m 15 ls []) := by
  intro i
  induction i with
  | zero =>
    intro ls H locs hik hl hP hD hS
    refine lv_iload_n hx hb d_CA_mostWithinLimits_15 rfl (lv_at hl 2 rfl) ?_
    refine lv_if_le (tgt := 45) hx hb d_CA_mostWithinLimits_16 (by decide) (fun h16 => ?_) (fun h16 => absurd (show nI 0 ≤ 0 from Int32.le_refl _) h16)
    exact kk ls H locs (lv_sub hl [0, 1, 2] rfl) hP hD hS
  | succ i ih =>
    intro ls H locs hik hl hP hD hS
    refine lv_iload_n hx hb d_CA_mostWithinLimits_15 rfl (lv_at hl 2 rfl) ?_
    refine lv_if_le (tgt := 45) hx hb d_CA_mostWithinLimits_16 (by decide) (fun h16 => absurd h16 (nI_nle (by omega) (by omega))) (fun h16 => ?_)
    refine lv_aload_n hx hb d_CA_mostWithinLimits_19 rfl (lv_at hl 0 rfl) ?_
    refine va_get (D := D) (ci := 1) (v := .ref at0) (C := R_CA) (T := F_CA) (N := 9) hx hb (tb_in hok in_CA) (fun w h => h) hown hK hP 0 rfl rfl 8 (by decide) (hok _ t_51 rfl _) (fun _ h9 => h9) rfl d_CA_mostWithinLimits_20 ?_
    refine lv_aload_n hx hb d_CA_mostWithinLimits_23 rfl (lv_at hl 0 rfl) ?_
    refine va_get (D := D) (ci := 1) (v := .ref ap) (C := R_CA) (T := F_CA) (N := 9) hx hb (tb_in hok in_CA) (fun w h => h) hown hK hP 0 rfl rfl 1 (by decide) (hok _ t_36 rfl _) (fun _ h9 => h9) rfl d_CA_mostWithinLimits_24 ?_
    refine lv_iload_n hx hb d_CA_mostWithinLimits_27 rfl (lv_at hl 2 rfl) ?_
    refine va_iald hx hb hK hP 1 0 rfl rfl (vp_in_nI (by omega) (by omega)) d_CA_mostWithinLimits_28 ?_
    rw [nI_clamp (show (i + 1) < 2 ^ 31 from by omega)]
    refine lv_dup2_11 hx hb d_CA_mostWithinLimits_29 rfl rfl ?_
    refine va_iald hx hb hK hP 4 0 rfl rfl (hpa (i + 1) (by omega) (by omega)) d_CA_mostWithinLimits_30 ?_
    refine lv_aload_n hx hb d_CA_mostWithinLimits_31 rfl (lv_at hl 0 rfl) ?_
    refine lv_iload_n hx hb d_CA_mostWithinLimits_32 rfl (lv_at hl 2 rfl) ?_
    refine lv_iload_n hx hb d_CA_mostWithinLimits_33 rfl (lv_at hl 1 rfl) ?_
    refine zc_read (va_runV (Ts := []) (As := [.int (nI (i + 1)), .int set]) (rest := [.int ((zmw G pa lm ci tb set (G - 1 - (i + 1))) (Int32.toNatClampNeg (pa (i + 1)))), .int (pa (i + 1)), .ref at0]) ⟨hx, hb, hml, hown, fun _ h => absurd h List.not_mem_nil⟩ (m_CA_takenIn l D cI cJ cZ cP cS h ap al ai ag af at0 G (nI C) oc (i + 1) set lm ci (zmw G pa lm ci tb set (G - 1 - (i + 1))) (by omega)) ⟨zc_B 2 hok c_CA_takenIn_w t_2 t_607 rfl rfl (by decide +kernel) ⟨Nat.le_of_ble_eq_true rfl, Nat.le_of_ble_eq_true rfl⟩, hok _ t_609 rfl _, hok _ s_16 rfl _⟩ ⟨fun a U g mk q => by obtain ⟨q0, q2, qP, qK⟩ := q; exact ⟨q0, q2.call g mk a, qP, va_K.moved (u := U) (U := U.calling g mk a) (Vm.Alike.refl U.vm) qK⟩, va_recv hK hP (ci := 1) (q0 := 0) rfl rfl, fun U hU hW => ⟨rfl, hok.warm hW, by rw [hU]; exact hP.sub [0, 2, 3, 4] rfl, va_K.moved hW.alike hK⟩⟩ rfl rfl hl.1 rfl (lv_room (Nat.le_of_ble_eq_true rfl)) d_CA_mostWithinLimits_34 ⟨Nat.le_of_ble_eq_true rfl, Nat.le_of_ble_eq_true rfl⟩) ?_
    refine W.eq (g2 := F0 m 37 ls [.int (zti lm ci (zmw G pa lm ci tb set (G - 1 - (i + 1))) set (i + 1)), .int ((zmw G pa lm ci tb set (G - 1 - (i + 1))) (Int32.toNatClampNeg (pa (i + 1)))), .int (pa (i + 1)), .ref at0]) rfl ?_
    refine lv_iadd hx hb d_CA_mostWithinLimits_37 ?_
    refine va_iast hx hb hK hP hD hS 4 0 rfl rfl (hpa (i + 1) (by omega) (by omega)) d_CA_mostWithinLimits_38 (fun H locs hP hD hS => ?_)
    have hP : va_P D cls [(h, .inr (1, [.int (nI G), .ref ap, .ref al, .ref ai, .int (nI C), .ref ag, .ref af, .int oc, .ref at0])), (ap, .inl (cI, 6, .inl pa)), (al, .inl (cI, 6, .inl lm)), (ai, .inl (cI, 6, .inl ci)), (at0, .inl (cI, 6, .inl (upd (zmw G pa lm ci tb set (G - 1 - (i + 1))) (Int32.toNatClampNeg (pa (i + 1))) (((zmw G pa lm ci tb set (G - 1 - (i + 1))) (Int32.toNatClampNeg (pa (i + 1)))) + (zti lm ci (zmw G pa lm ci tb set (G - 1 - (i + 1))) set (i + 1))))))] H := hP
    have hD : va_D A [(h, .inr (1, [.int (nI G), .ref ap, .ref al, .ref ai, .int (nI C), .ref ag, .ref af, .int oc, .ref at0])), (ap, .inl (cI, 6, .inl pa)), (al, .inl (cI, 6, .inl lm)), (ai, .inl (cI, 6, .inl ci)), (at0, .inl (cI, 6, .inl (upd (zmw G pa lm ci tb set (G - 1 - (i + 1))) (Int32.toNatClampNeg (pa (i + 1))) (((zmw G pa lm ci tb set (G - 1 - (i + 1))) (Int32.toNatClampNeg (pa (i + 1)))) + (zti lm ci (zmw G pa lm ci tb set (G - 1 - (i + 1))) set (i + 1))))))] := hD
    refine lv_iinc (v := (nI i)) hx hb d_CA_mostWithinLimits_39 hl (k := 2) rfl (by exact pk_m1 _) (by decide) rfl (fun ls hl => ?_)
    have hl : lv_has ls 3 [(2, .int (nI i)), (0, .ref h), (1, .int set)] := hl
    refine lv_goto (tgt := 15) hx hb d_CA_mostWithinLimits_42 (by decide) ?_
    have e9 : zmw G pa lm ci tb set (G - 1 - i) = upd (zmw G pa lm ci tb set (G - 1 - (i + 1))) (Int32.toNatClampNeg (pa (i + 1))) (((zmw G pa lm ci tb set (G - 1 - (i + 1))) (Int32.toNatClampNeg (pa (i + 1)))) + (zti lm ci (zmw G pa lm ci tb set (G - 1 - (i + 1))) set (i + 1))) := by
      rw [show G - 1 - i = (G - 1 - (i + 1)) + 1 from by omega]
      show upd _ _ _ = _
      rw [show G - 1 - (G - 1 - (i + 1)) = i + 1 from by omega]
    rw [← e9] at hP hD
    exact ih ls H locs (by omega) (lv_sub hl [1, 2, 0] rfl) hP hD hS
set_option maxHeartbeats 4000000 in
set_option maxRecDepth 100000 in
theorem m_CA_mostWithinLimits_s (l : Launch) (D : va_G) (cI cJ cZ cP cS : ClassId) (h ap al ai ag af at0 G C : Nat) (oc : Int32) (set : Int32) (pa lm ci tb : Nat → Int32) (hG : G ≤ 6) (hpa : ∀ j, 0 < j → j < G → vp_in (pa j) 6) (hG1 : 1 ≤ G) (sz : Nat) : Met l y_CA_mostWithinLimits [Cond.code y_CA_mostWithinLimits b_CA_mostWithinLimits 3 (some .int)] ro_CA_mostWithinLimits (va_Pc [.ref h, .int set] (fun U => U.heap.size = sz ∧ tb_ok U ∧ va_P D cls [(h, .inr (1, [.int (nI G), .ref ap, .ref al, .ref ai, .int (nI C), .ref ag, .ref af, .int oc, .ref at0])), (ap, .inl (cI, 6, .inl pa)), (al, .inl (cI, 6, .inl lm)), (ai, .inl (cI, 6, .inl ci)), (at0, .inl (cI, 6, .inl tb))] U.heap ∧ va_K D cls (tyl cI cJ cZ cP cS) U ∧ va_D (fun _ => True) [(h, .inr (1, [.int (nI G), .ref ap, .ref al, .ref ai, .int (nI C), .ref ag, .ref af, .int oc, .ref at0])), (ap, .inl (cI, 6, .inl pa)), (al, .inl (cI, 6, .inl lm)), (ai, .inl (cI, 6, .inl ci)), (at0, .inl (cI, 6, .inl tb))])) (zv (some (.int (zms G lm ci (zmw G pa lm ci (zfl tb 0 6) set (G - 1)) set))) D [(h, .inr (1, [.int (nI G), .ref ap, .ref al, .ref ai, .int (nI C), .ref ag, .ref af, .int oc, .ref at0])), (ap, .inl (cI, 6, .inl pa)), (al, .inl (cI, 6, .inl lm)), (ai, .inl (cI, 6, .inl ci)), (at0, .inl (cI, 6, .inl (zmw G pa lm ci (zfl tb 0 6) set (G - 1))))] (va_A [(h, .inr (1, [.int (nI G), .ref ap, .ref al, .ref ai, .int (nI C), .ref ag, .ref af, .int oc, .ref at0])), (ap, .inl (cI, 6, .inl pa)), (al, .inl (cI, 6, .inl lm)), (ai, .inl (cI, 6, .inl ci)), (at0, .inl (cI, 6, .inl tb))] sz)) 0 0 (va_A [(h, .inr (1, [.int (nI G), .ref ap, .ref al, .ref ai, .int (nI C), .ref ag, .ref af, .int oc, .ref at0])), (ap, .inl (cI, 6, .inl pa)), (al, .inl (cI, 6, .inl lm)), (ai, .inl (cI, 6, .inl ci)), (at0, .inl (cI, 6, .inl tb))] sz) := by
  refine Met.ofW (cc := b_CA_mostWithinLimits) (maxL := 3) (ret := (some .int)) (by decide +kernel) rfl ?_
  intro p e s m args below meth c s₁ B hml hv
  obtain ⟨rfl, hsz, hok, hP, hK, hD0⟩ := hv
  have hx := B.exec
  have hb := B.bytes
  have hr := B.returns
  have hown : s.vm.findClass "StudyAudit$Catalogue" = some m.cls := findClass_of_methodNamed B.named
  have hlocks := B.notSynchronized
  subst hsz
  have hD := hD0.self (sz := s.heap.size)
  generalize hAe : va_A [(h, .inr (1, [.int (nI G), .ref ap, .ref al, .ref ai, .int (nI C), .ref ag, .ref af, .int oc, .ref at0])), (ap, .inl (cI, 6, .inl pa)), (al, .inl (cI, 6, .inl lm)), (ai, .inl (cI, 6, .inl ci)), (at0, .inl (cI, 6, .inl tb))] s.heap.size = A at hD ⊢
  have hA : ∀ q : Nat, s.heap.size ≤ q → A q := fun q h => by rw [← hAe]; exact Or.inr h
  have hS : va_S A s.heap s.heap [] := va_S.rf
  have hl := lv_entry ([.ref h, .int set]) (n := 3) (Nat.le_of_ble_eq_true rfl)
  rw [lg_entry_eq]
  generalize (lg_sl ([.ref h, .int set]) ++ List.replicate (3 - (lg_sl ([.ref h, .int set])).length) Slot.unset).toArray = ls at hl ⊢
  have hl : lv_has ls 3 [(0, .ref h), (1, .int set)] := hl
  refine lv_aload_n hx hb d_CA_mostWithinLimits_0 rfl (lv_at hl 0 rfl) ?_
  refine va_get (D := D) (ci := 1) (v := .ref at0) (C := R_CA) (T := F_CA) (N := 9) hx hb (tb_in hok in_CA) (fun w h => h) hown hK hP 0 rfl rfl 8 (by decide) (hok _ t_51 rfl _) (fun _ h9 => h9) rfl d_CA_mostWithinLimits_1 ?_
  refine lv_iconst (v := 0) hx hb d_CA_mostWithinLimits_4 (by decide) ?_
  refine zc_write (wc := [(at0, .inl (cI, 6, .inl tb))]) (wc1 := [(at0, .inl (cI, 6, .inl (zfl tb 0 6)))]) (wr := [(h, .inr (1, [.int (nI G), .ref ap, .ref al, .ref ai, .int (nI C), .ref ag, .ref af, .int oc, .ref at0])), (ap, .inl (cI, 6, .inl pa)), (al, .inl (cI, 6, .inl lm)), (ai, .inl (cI, 6, .inl ci))]) (ws1 := [(h, .inr (1, [.int (nI G), .ref ap, .ref al, .ref ai, .int (nI C), .ref ag, .ref af, .int oc, .ref at0])), (ap, .inl (cI, 6, .inl pa)), (al, .inl (cI, 6, .inl lm)), (ai, .inl (cI, 6, .inl ci)), (at0, .inl (cI, 6, .inl (zfl tb 0 6)))]) (va_runS (Ts := []) (As := [.ref at0, .int 0]) (rest := []) ⟨hx, hb, hml, hown, fun _ h => absurd h List.not_mem_nil⟩ (m_AR_filli l D cI cJ cZ cP cS at0 6 0 tb (by omega) _) ⟨zc_B 2 hok c_AR_filli_w t_5 t_606 rfl rfl (by decide +kernel) ⟨Nat.le_of_ble_eq_true rfl, Nat.le_of_ble_eq_true rfl⟩, hok _ t_102 rfl _⟩ ⟨fun a U g mk q => by obtain ⟨q0, q1, q2, qP, qK, qD⟩ := q; exact ⟨q0, q1, q2.call g mk a, qP, va_K.moved (u := U) (U := U.calling g mk a) (Vm.Alike.refl U.vm) qK, qD⟩, fun U hU hW => ⟨rfl, by rw [hU], hok.warm hW, by rw [hU]; exact hP.sub [4] rfl, va_K.moved hW.alike hK, (hD.sub [4] (by decide) rfl).weaken (fun _ _ _ _ => trivial)⟩⟩ rfl rfl hl.1 rfl (lv_room (Nat.le_of_ble_eq_true rfl)) d_CA_mostWithinLimits_5 ⟨Nat.le_of_ble_eq_true rfl, Nat.le_of_ble_eq_true rfl⟩) hS hP hD hA [4] [0, 1, 2, 3] [0, 1, 2, 3, 4] rfl rfl (by decide) (by decide) rfl rfl (by decide) (fun H locs hP hD hS => ?_)
  refine W.eq (g2 := F0 m 8 ls []) rfl ?_
  refine lv_aload_n hx hb d_CA_mostWithinLimits_8 rfl (lv_at hl 0 rfl) ?_
  refine va_get (D := D) (ci := 1) (v := .int (nI G)) (C := R_CA) (T := F_CA) (N := 9) hx hb (tb_in hok in_CA) (fun w h => h) hown hK hP 0 rfl rfl 0 (by decide) (hok _ t_33 rfl _) (fun _ h9 => h9) rfl d_CA_mostWithinLimits_9 ?_
  refine lv_iconst (v := 1) hx hb d_CA_mostWithinLimits_12 (by decide) ?_
  refine lv_isub hx hb d_CA_mostWithinLimits_13 ?_
  refine lv_istore_n hx hb d_CA_mostWithinLimits_14 rfl hl (by decide) rfl (fun ls hl => ?_)
  have hl : lv_has ls 3 [(2, .int ((nI G) - (1 : Int32))), (0, .ref h), (1, .int set)] := hl
  have e8 : nI G - 1 = nI (G - 1) := pk_sub (b := 1) hG1
  rw [e8] at hl
  have e7 : zfl tb 0 6 = zmw G pa lm ci (zfl tb 0 6) set (G - 1 - (G - 1)) := by rw [Nat.sub_self]; rfl
  rw [e7] at hP hD
  refine lo_mostWithinLimits D cI cJ cZ cP cS h ap al ai ag af at0 G C oc set pa lm ci (zfl tb 0 6) hx hb hml hown hok hK hA hG hpa (fun ls H locs hl hP hD hS => ?_) (G - 1) ls _ _ (by omega) (lv_sub hl [1, 2, 0] rfl) hP hD hS
  refine lv_aload_n hx hb d_CA_mostWithinLimits_45 rfl (lv_at hl 0 rfl) ?_
  refine va_get (D := D) (ci := 1) (v := .int (nI G)) (C := R_CA) (T := F_CA) (N := 9) hx hb (tb_in hok in_CA) (fun w h => h) hown hK hP 0 rfl rfl 0 (by decide) (hok _ t_33 rfl _) (fun _ h9 => h9) rfl d_CA_mostWithinLimits_46 ?_
  refine lv_if_ne (tgt := 56) hx hb d_CA_mostWithinLimits_49 (by decide) (fun h49 => ?_) (fun h49 => absurd h49 (nI_ne0 (by omega) (by omega)))
  refine lv_aload_n hx hb d_CA_mostWithinLimits_56 rfl (lv_at hl 0 rfl) ?_
  refine lv_iconst (v := 0) hx hb d_CA_mostWithinLimits_57 (by decide) ?_
  refine lv_iload_n hx hb d_CA_mostWithinLimits_58 rfl (lv_at hl 1 rfl) ?_
  refine zc_read (va_runV (Ts := []) (As := [.int 0, .int set]) (rest := []) ⟨hx, hb, hml, hown, fun _ h => absurd h List.not_mem_nil⟩ (m_CA_takenIn l D cI cJ cZ cP cS h ap al ai ag af at0 G (nI C) oc 0 set lm ci (zmw G pa lm ci (zfl tb 0 6) set (G - 1 - 0)) (by omega)) ⟨zc_B 2 hok c_CA_takenIn_w t_2 t_607 rfl rfl (by decide +kernel) ⟨Nat.le_of_ble_eq_true rfl, Nat.le_of_ble_eq_true rfl⟩, hok _ t_609 rfl _, hok _ s_16 rfl _⟩ ⟨fun a U g mk q => by obtain ⟨q0, q2, qP, qK⟩ := q; exact ⟨q0, q2.call g mk a, qP, va_K.moved (u := U) (U := U.calling g mk a) (Vm.Alike.refl U.vm) qK⟩, va_recv hK hP (ci := 1) (q0 := 0) rfl rfl, fun U hU hW => ⟨rfl, hok.warm hW, by rw [hU]; exact hP.sub [0, 2, 3, 4] rfl, va_K.moved hW.alike hK⟩⟩ rfl rfl hl.1 rfl (lv_room (Nat.le_of_ble_eq_true rfl)) d_CA_mostWithinLimits_59 ⟨Nat.le_of_ble_eq_true rfl, Nat.le_of_ble_eq_true rfl⟩) ?_
  refine W.eq (g2 := F0 m 62 ls [.int (zti lm ci (zmw G pa lm ci (zfl tb 0 6) set (G - 1 - 0)) set 0)]) rfl ?_
  rw [show zti lm ci (zmw G pa lm ci (zfl tb 0 6) set (G - 1 - 0)) set 0 = zms G lm ci (zmw G pa lm ci (zfl tb 0 6) set (G - 1)) set from (if_neg (by omega)).symm]
  exact W.iret hx hb hr (fun t ht _ => ⟨⟨rfl, by rw [ht]; exact hP, hD⟩, hS.F ht⟩) hS.2.2 d_CA_mostWithinLimits_62
set_option maxHeartbeats 4000000 in
set_option maxRecDepth 100000 in
theorem m_CA_mostWithinLimits_0 (l : Launch) (D : va_G) (cI cJ cZ cP cS : ClassId) (h ap al ai ag af at0 C : Nat) (oc : Int32) (set : Int32) (pa lm ci tb : Nat → Int32) (sz : Nat) : Met l y_CA_mostWithinLimits [Cond.code y_CA_mostWithinLimits b_CA_mostWithinLimits 3 (some .int)] ro_CA_mostWithinLimits (va_Pc [.ref h, .int set] (fun U => U.heap.size = sz ∧ tb_ok U ∧ va_P D cls [(h, .inr (1, [.int (nI 0), .ref ap, .ref al, .ref ai, .int (nI C), .ref ag, .ref af, .int oc, .ref at0])), (ap, .inl (cI, 6, .inl pa)), (al, .inl (cI, 6, .inl lm)), (ai, .inl (cI, 6, .inl ci)), (at0, .inl (cI, 6, .inl tb))] U.heap ∧ va_K D cls (tyl cI cJ cZ cP cS) U ∧ va_D (fun _ => True) [(h, .inr (1, [.int (nI 0), .ref ap, .ref al, .ref ai, .int (nI C), .ref ag, .ref af, .int oc, .ref at0])), (ap, .inl (cI, 6, .inl pa)), (al, .inl (cI, 6, .inl lm)), (ai, .inl (cI, 6, .inl ci)), (at0, .inl (cI, 6, .inl tb))])) (zv (some (.int 0)) D [(h, .inr (1, [.int (nI 0), .ref ap, .ref al, .ref ai, .int (nI C), .ref ag, .ref af, .int oc, .ref at0])), (ap, .inl (cI, 6, .inl pa)), (al, .inl (cI, 6, .inl lm)), (ai, .inl (cI, 6, .inl ci)), (at0, .inl (cI, 6, .inl (zfl tb 0 6)))] (va_A [(h, .inr (1, [.int (nI 0), .ref ap, .ref al, .ref ai, .int (nI C), .ref ag, .ref af, .int oc, .ref at0])), (ap, .inl (cI, 6, .inl pa)), (al, .inl (cI, 6, .inl lm)), (ai, .inl (cI, 6, .inl ci)), (at0, .inl (cI, 6, .inl tb))] sz)) 0 0 (va_A [(h, .inr (1, [.int (nI 0), .ref ap, .ref al, .ref ai, .int (nI C), .ref ag, .ref af, .int oc, .ref at0])), (ap, .inl (cI, 6, .inl pa)), (al, .inl (cI, 6, .inl lm)), (ai, .inl (cI, 6, .inl ci)), (at0, .inl (cI, 6, .inl tb))] sz) := by
  refine Met.ofW (cc := b_CA_mostWithinLimits) (maxL := 3) (ret := (some .int)) (by decide +kernel) rfl ?_
  intro p e s m args below meth c s₁ B hml hv
  obtain ⟨rfl, hsz, hok, hP, hK, hD0⟩ := hv
  have hx := B.exec
  have hb := B.bytes
  have hr := B.returns
  have hown : s.vm.findClass "StudyAudit$Catalogue" = some m.cls := findClass_of_methodNamed B.named
  have hlocks := B.notSynchronized
  subst hsz
  have hD := hD0.self (sz := s.heap.size)
  generalize hAe : va_A [(h, .inr (1, [.int (nI 0), .ref ap, .ref al, .ref ai, .int (nI C), .ref ag, .ref af, .int oc, .ref at0])), (ap, .inl (cI, 6, .inl pa)), (al, .inl (cI, 6, .inl lm)), (ai, .inl (cI, 6, .inl ci)), (at0, .inl (cI, 6, .inl tb))] s.heap.size = A at hD ⊢
  have hA : ∀ q : Nat, s.heap.size ≤ q → A q := fun q h => by rw [← hAe]; exact Or.inr h
  have hS : va_S A s.heap s.heap [] := va_S.rf
  have hl := lv_entry ([.ref h, .int set]) (n := 3) (Nat.le_of_ble_eq_true rfl)
  rw [lg_entry_eq]
  generalize (lg_sl ([.ref h, .int set]) ++ List.replicate (3 - (lg_sl ([.ref h, .int set])).length) Slot.unset).toArray = ls at hl ⊢
  have hl : lv_has ls 3 [(0, .ref h), (1, .int set)] := hl
  refine lv_aload_n hx hb d_CA_mostWithinLimits_0 rfl (lv_at hl 0 rfl) ?_
  refine va_get (D := D) (ci := 1) (v := .ref at0) (C := R_CA) (T := F_CA) (N := 9) hx hb (tb_in hok in_CA) (fun w h => h) hown hK hP 0 rfl rfl 8 (by decide) (hok _ t_51 rfl _) (fun _ h9 => h9) rfl d_CA_mostWithinLimits_1 ?_
  refine lv_iconst (v := 0) hx hb d_CA_mostWithinLimits_4 (by decide) ?_
  refine zc_write (wc := [(at0, .inl (cI, 6, .inl tb))]) (wc1 := [(at0, .inl (cI, 6, .inl (zfl tb 0 6)))]) (wr := [(h, .inr (1, [.int (nI 0), .ref ap, .ref al, .ref ai, .int (nI C), .ref ag, .ref af, .int oc, .ref at0])), (ap, .inl (cI, 6, .inl pa)), (al, .inl (cI, 6, .inl lm)), (ai, .inl (cI, 6, .inl ci))]) (ws1 := [(h, .inr (1, [.int (nI 0), .ref ap, .ref al, .ref ai, .int (nI C), .ref ag, .ref af, .int oc, .ref at0])), (ap, .inl (cI, 6, .inl pa)), (al, .inl (cI, 6, .inl lm)), (ai, .inl (cI, 6, .inl ci)), (at0, .inl (cI, 6, .inl (zfl tb 0 6)))]) (va_runS (Ts := []) (As := [.ref at0, .int 0]) (rest := []) ⟨hx, hb, hml, hown, fun _ h => absurd h List.not_mem_nil⟩ (m_AR_filli l D cI cJ cZ cP cS at0 6 0 tb (by omega) _) ⟨zc_B 2 hok c_AR_filli_w t_5 t_606 rfl rfl (by decide +kernel) ⟨Nat.le_of_ble_eq_true rfl, Nat.le_of_ble_eq_true rfl⟩, hok _ t_102 rfl _⟩ ⟨fun a U g mk q => by obtain ⟨q0, q1, q2, qP, qK, qD⟩ := q; exact ⟨q0, q1, q2.call g mk a, qP, va_K.moved (u := U) (U := U.calling g mk a) (Vm.Alike.refl U.vm) qK, qD⟩, fun U hU hW => ⟨rfl, by rw [hU], hok.warm hW, by rw [hU]; exact hP.sub [4] rfl, va_K.moved hW.alike hK, (hD.sub [4] (by decide) rfl).weaken (fun _ _ _ _ => trivial)⟩⟩ rfl rfl hl.1 rfl (lv_room (Nat.le_of_ble_eq_true rfl)) d_CA_mostWithinLimits_5 ⟨Nat.le_of_ble_eq_true rfl, Nat.le_of_ble_eq_true rfl⟩) hS hP hD hA [4] [0, 1, 2, 3] [0, 1, 2, 3, 4] rfl rfl (by decide) (by decide) rfl rfl (by decide) (fun H locs hP hD hS => ?_)
  refine W.eq (g2 := F0 m 8 ls []) rfl ?_
  refine lv_aload_n hx hb d_CA_mostWithinLimits_8 rfl (lv_at hl 0 rfl) ?_
  refine va_get (D := D) (ci := 1) (v := .int (nI 0)) (C := R_CA) (T := F_CA) (N := 9) hx hb (tb_in hok in_CA) (fun w h => h) hown hK hP 0 rfl rfl 0 (by decide) (hok _ t_33 rfl _) (fun _ h9 => h9) rfl d_CA_mostWithinLimits_9 ?_
  refine lv_iconst (v := 1) hx hb d_CA_mostWithinLimits_12 (by decide) ?_
  refine lv_isub hx hb d_CA_mostWithinLimits_13 ?_
  refine lv_istore_n hx hb d_CA_mostWithinLimits_14 rfl hl (by decide) rfl (fun ls hl => ?_)
  have hl : lv_has ls 3 [(2, .int ((nI 0) - (1 : Int32))), (0, .ref h), (1, .int set)] := hl
  refine lv_iload_n hx hb d_CA_mostWithinLimits_15 rfl (lv_at hl 0 rfl) ?_
  refine lv_if_le (tgt := 45) hx hb d_CA_mostWithinLimits_16 (by decide) (fun h16 => ?_) (fun h16 => absurd (show nI 0 - 1 ≤ 0 by decide) h16)
  refine lv_aload_n hx hb d_CA_mostWithinLimits_45 rfl (lv_at hl 1 rfl) ?_
  refine va_get (D := D) (ci := 1) (v := .int (nI 0)) (C := R_CA) (T := F_CA) (N := 9) hx hb (tb_in hok in_CA) (fun w h => h) hown hK hP 0 rfl rfl 0 (by decide) (hok _ t_33 rfl _) (fun _ h9 => h9) rfl d_CA_mostWithinLimits_46 ?_
  refine lv_if_ne (tgt := 56) hx hb d_CA_mostWithinLimits_49 (by decide) (fun h49 => absurd (show nI 0 = 0 from rfl) h49) (fun h49 => ?_)
  refine lv_iconst (v := 0) hx hb d_CA_mostWithinLimits_52 (by decide) ?_
  refine lv_goto (tgt := 62) hx hb d_CA_mostWithinLimits_53 (by decide) ?_
  exact W.iret hx hb hr (fun t ht _ => ⟨⟨rfl, by rw [ht]; exact hP, hD⟩, hS.F ht⟩) hS.2.2 d_CA_mostWithinLimits_62
theorem m_CA_mostWithinLimits (l : Launch) (D : va_G) (cI cJ cZ cP cS : ClassId) (h ap al ai ag af at0 G C : Nat) (oc : Int32) (set : Int32) (pa lm ci tb : Nat → Int32) (hG : G ≤ 6) (hpa : ∀ j, 0 < j → j < G → vp_in (pa j) 6) (sz : Nat) : Met l y_CA_mostWithinLimits [Cond.code y_CA_mostWithinLimits b_CA_mostWithinLimits 3 (some .int)] ro_CA_mostWithinLimits (va_Pc [.ref h, .int set] (fun U => U.heap.size = sz ∧ tb_ok U ∧ va_P D cls [(h, .inr (1, [.int (nI G), .ref ap, .ref al, .ref ai, .int (nI C), .ref ag, .ref af, .int oc, .ref at0])), (ap, .inl (cI, 6, .inl pa)), (al, .inl (cI, 6, .inl lm)), (ai, .inl (cI, 6, .inl ci)), (at0, .inl (cI, 6, .inl tb))] U.heap ∧ va_K D cls (tyl cI cJ cZ cP cS) U ∧ va_D (fun _ => True) [(h, .inr (1, [.int (nI G), .ref ap, .ref al, .ref ai, .int (nI C), .ref ag, .ref af, .int oc, .ref at0])), (ap, .inl (cI, 6, .inl pa)), (al, .inl (cI, 6, .inl lm)), (ai, .inl (cI, 6, .inl ci)), (at0, .inl (cI, 6, .inl tb))])) (zv (some (.int (zms G lm ci (zmw G pa lm ci (zfl tb 0 6) set (G - 1)) set))) D [(h, .inr (1, [.int (nI G), .ref ap, .ref al, .ref ai, .int (nI C), .ref ag, .ref af, .int oc, .ref at0])), (ap, .inl (cI, 6, .inl pa)), (al, .inl (cI, 6, .inl lm)), (ai, .inl (cI, 6, .inl ci)), (at0, .inl (cI, 6, .inl (zmw G pa lm ci (zfl tb 0 6) set (G - 1))))] (va_A [(h, .inr (1, [.int (nI G), .ref ap, .ref al, .ref ai, .int (nI C), .ref ag, .ref af, .int oc, .ref at0])), (ap, .inl (cI, 6, .inl pa)), (al, .inl (cI, 6, .inl lm)), (ai, .inl (cI, 6, .inl ci)), (at0, .inl (cI, 6, .inl tb))] sz)) 0 0 (va_A [(h, .inr (1, [.int (nI G), .ref ap, .ref al, .ref ai, .int (nI C), .ref ag, .ref af, .int oc, .ref at0])), (ap, .inl (cI, 6, .inl pa)), (al, .inl (cI, 6, .inl lm)), (ai, .inl (cI, 6, .inl ci)), (at0, .inl (cI, 6, .inl tb))] sz) := by
  by_cases h0 : G = 0
  · subst h0
    exact m_CA_mostWithinLimits_0 l D cI cJ cZ cP cS h ap al ai ag af at0 C oc set pa lm ci tb sz
  · exact m_CA_mostWithinLimits_s l D cI cJ cZ cP cS h ap al ai ag af at0 G C oc set pa lm ci tb hG hpa (by omega) sz
def zcw (pa ci : Nat → Int32) (t : Nat) : Nat → Int32 × Int32
  | 0 => (zw 0 t, ci t)
  | j + 1 => if zh (zcw pa ci t j).1 (pa (t + 1 + j)) = true then (zw (zcw pa ci t j).1 (t + 1 + j), (zcw pa ci t j).2 ||| ci (t + 1 + j)) else zcw pa ci t j
abbrev ro_CA_coursesWithin : Room := { frames := 1, cells := 0, slots := 0, locals := 21 }
set_option maxHeartbeats 4000000 in
set_option maxRecDepth 100000 in
theorem lo_coursesWithin {l : Launch} {p : Program} {e : Env} {s : State} {m : MethodId} {args : Array Value} {below : List Frame} {meth : Method} {c : Code} {H : Heap} {Ls : List Loc} {Q : State → Prop} (D : va_G) (cI cJ cZ cP cS : ClassId) (h ap al ai ag af at0 G C : Nat) (oc : Int32) (t : Nat) (pa ci : Nat → Int32) (hx : p.tables.exec = Jvm.exec) (hb : c.code = b_CA_coursesWithin) (hml : c.maxLocals = 5) (hown : s.vm.findClass "StudyAudit$Catalogue" = some m.cls) (hok : tb_ok s) (hP : va_P D cls [(h, .inr (1, [.int (nI G), .ref ap, .ref al, .ref ai, .int (nI C), .ref ag, .ref af, .int oc, .ref at0])), (ap, .inl (cI, 6, .inl pa)), (ai, .inl (cI, 6, .inl ci))] H) (hK : va_K D cls (tyl cI cJ cZ cP cS) s) (hG : G ≤ 6) (ht : t < G)
    (kk : ∀ ls : Array Slot, lv_has ls 5 [(0, .ref h), (1, .int (nI t)), (2, .int (zcw pa ci t (G - (t + 1))).1), (3, .int (zcw pa ci t (G - (t + 1))).2), (4, .int (nI (t + 1 + (G - (t + 1)))))] → W p l e ro_CA_coursesWithin s m args below meth c H Ls 0 0 Q (F0 m 64 ls [])) :
    ∀ (k i : Nat) (ls : Array Slot), 0 ≤ i → i + k = (G - (t + 1)) → lv_has ls 5 [(0, .ref h), (1, .int (nI t)), (2, .int (zcw pa ci t i).1), (3, .int (zcw pa ci t i).2), (4, .int (nI (t + 1 + i)))] → W p l e ro_CA_coursesWithin s m args below meth c H Ls 0 0 Q (F0 m 18 ls []) := by
  intro k
  induction k with
  | zero =>
    intro i ls hi0 hik hl
    have hik : (G - (t + 1)) = i := by omega
    subst hik
    refine lv_iload hx hb d_CA_coursesWithin_18 (lv_at hl 4 rfl) ?_
    refine lv_aload_n hx hb d_CA_coursesWithin_20 rfl (lv_at hl 0 rfl) ?_
    refine va_get (D := D) (ci := 1) (v := .int (nI G)) (C := R_CA) (T := F_CA) (N := 9) hx hb (tb_in hok in_CA) (fun w h => h) hown hK hP 0 rfl rfl 0 (by decide) (hok _ t_33 rfl _) (fun _ h9 => h9) rfl d_CA_coursesWithin_21 ?_
    refine lv_icmp_ge (tgt := 64) hx hb d_CA_coursesWithin_24 (by decide) (fun h24 => ?_) (fun h24 => absurd (show nI G ≤ nI (t + 1 + (G - (t + 1))) from nI_le (by omega) (by omega)) h24)
    exact kk ls (lv_sub hl [0, 1, 2, 3, 4] rfl)
  | succ k ih =>
    intro i ls hi0 hik hl
    refine lv_iload hx hb d_CA_coursesWithin_18 (lv_at hl 4 rfl) ?_
    refine lv_aload_n hx hb d_CA_coursesWithin_20 rfl (lv_at hl 0 rfl) ?_
    refine va_get (D := D) (ci := 1) (v := .int (nI G)) (C := R_CA) (T := F_CA) (N := 9) hx hb (tb_in hok in_CA) (fun w h => h) hown hK hP 0 rfl rfl 0 (by decide) (hok _ t_33 rfl _) (fun _ h9 => h9) rfl d_CA_coursesWithin_21 ?_
    refine lv_icmp_ge (tgt := 64) hx hb d_CA_coursesWithin_24 (by decide) (fun h24 => absurd h24 (show ¬ nI G ≤ nI (t + 1 + i) from nI_ge (by omega) (by omega))) (fun h24 => ?_)
    refine lv_iload_n hx hb d_CA_coursesWithin_27 rfl (lv_at hl 2 rfl) ?_
    refine lv_aload_n hx hb d_CA_coursesWithin_28 rfl (lv_at hl 0 rfl) ?_
    refine va_get (D := D) (ci := 1) (v := .ref ap) (C := R_CA) (T := F_CA) (N := 9) hx hb (tb_in hok in_CA) (fun w h => h) hown hK hP 0 rfl rfl 1 (by decide) (hok _ t_36 rfl _) (fun _ h9 => h9) rfl d_CA_coursesWithin_29 ?_
    refine lv_iload hx hb d_CA_coursesWithin_32 (lv_at hl 4 rfl) ?_
    refine va_iald hx hb hK hP 1 0 rfl rfl (vp_in_nI (by omega) (by omega)) d_CA_coursesWithin_34 ?_
    rw [nI_clamp (show (t + 1 + i) < 2 ^ 31 from by omega)]
    refine zc_read (va_runSN (Ts := []) (As := [.int (zcw pa ci t i).1, .int (pa (t + 1 + i))]) (rest := []) ⟨hx, hb, hml, hown, fun _ h => absurd h List.not_mem_nil⟩ (m_SA_has l ((zcw pa ci t i).1) (pa (t + 1 + i))) ⟨zc_CN 2 hok c_SA_has_w t_1 t_668 rfl rfl (by decide +kernel) ⟨Nat.le_of_ble_eq_true rfl, Nat.le_of_ble_eq_true rfl⟩, hok _ t_387 rfl _, trivial⟩ ⟨fun a U g mk q => by obtain ⟨q0, q1⟩ := q; exact ⟨q0, q1⟩, fun U hU hW => ⟨rfl, trivial⟩⟩ rfl rfl hl.1 rfl (lv_room (Nat.le_of_ble_eq_true rfl)) d_CA_coursesWithin_35 ⟨Nat.le_of_ble_eq_true rfl, Nat.le_of_ble_eq_true rfl⟩) ?_
    refine W.eq (g2 := F0 m 38 ls [.int (zb (zh ((zcw pa ci t i).1) (pa (t + 1 + i))))]) rfl ?_
    refine lv_if_eq (tgt := 58) hx hb d_CA_coursesWithin_38 (by decide) (fun h38 => ?_) (fun h38 => ?_)
    · refine lv_iinc (v := (nI ((t + 1 + i) + 1))) hx hb d_CA_coursesWithin_58 hl (k := 4) rfl (by rw [nI_succ]; rfl) (by decide) rfl (fun ls hl => ?_)
      have hl : lv_has ls 5 [(4, .int (nI ((t + 1 + i) + 1))), (0, .ref h), (1, .int (nI t)), (2, .int (zcw pa ci t i).1), (3, .int (zcw pa ci t i).2)] := hl
      refine lv_goto (tgt := 18) hx hb d_CA_coursesWithin_61 (by decide) ?_
      have e9 : zcw pa ci t (i + 1) = ((zcw pa ci t i).1, (zcw pa ci t i).2) := by show (if _ then _ else _) = _; rw [if_neg (fun z => by rw [z] at h38; exact absurd h38 (by decide))]
      have e91 := congrArg Prod.fst e9
      have e92 := congrArg Prod.snd e9
      dsimp only at e91 e92
      rw [← e91, ← e92] at hl
      exact ih (i + 1) ls (by omega) (by omega) (lv_sub hl [1, 2, 3, 4, 0] rfl)
    · refine lv_iload_n hx hb d_CA_coursesWithin_41 rfl (lv_at hl 2 rfl) ?_
      refine lv_iload hx hb d_CA_coursesWithin_42 (lv_at hl 4 rfl) ?_
      refine zc_read (va_runSN (Ts := []) (As := [.int (zcw pa ci t i).1, .int (nI (t + 1 + i))]) (rest := []) ⟨hx, hb, hml, hown, fun _ h => absurd h List.not_mem_nil⟩ (m_SA_with l ((zcw pa ci t i).1) (nI (t + 1 + i))) ⟨zc_CN 2 hok c_SA_with_w t_1 t_368 rfl rfl (by decide +kernel) ⟨Nat.le_of_ble_eq_true rfl, Nat.le_of_ble_eq_true rfl⟩, hok _ t_369 rfl _, trivial⟩ ⟨fun a U g mk q => by obtain ⟨q0, q1⟩ := q; exact ⟨q0, q1⟩, fun U hU hW => ⟨rfl, trivial⟩⟩ rfl rfl hl.1 rfl (lv_room (Nat.le_of_ble_eq_true rfl)) d_CA_coursesWithin_44 ⟨Nat.le_of_ble_eq_true rfl, Nat.le_of_ble_eq_true rfl⟩) ?_
      refine W.eq (g2 := F0 m 47 ls [.int (((zcw pa ci t i).1) ||| (1 <<< ((nI (t + 1 + i)) &&& 31)))]) rfl ?_
      refine lv_istore_n hx hb d_CA_coursesWithin_47 rfl hl (by decide) rfl (fun ls hl => ?_)
      have hl : lv_has ls 5 [(2, .int (((zcw pa ci t i).1) ||| (1 <<< ((nI (t + 1 + i)) &&& 31)))), (0, .ref h), (1, .int (nI t)), (3, .int (zcw pa ci t i).2), (4, .int (nI (t + 1 + i)))] := hl
      refine lv_iload_n hx hb d_CA_coursesWithin_48 rfl (lv_at hl 3 rfl) ?_
      refine lv_aload_n hx hb d_CA_coursesWithin_49 rfl (lv_at hl 1 rfl) ?_
      refine va_get (D := D) (ci := 1) (v := .ref ai) (C := R_CA) (T := F_CA) (N := 9) hx hb (tb_in hok in_CA) (fun w h => h) hown hK hP 0 rfl rfl 3 (by decide) (hok _ t_39 rfl _) (fun _ h9 => h9) rfl d_CA_coursesWithin_50 ?_
      refine lv_iload hx hb d_CA_coursesWithin_53 (lv_at hl 4 rfl) ?_
      refine va_iald hx hb hK hP 2 0 rfl rfl (vp_in_nI (by omega) (by omega)) d_CA_coursesWithin_55 ?_
      rw [nI_clamp (show (t + 1 + i) < 2 ^ 31 from by omega)]
      refine lv_ior hx hb d_CA_coursesWithin_56 ?_
      refine lv_istore_n hx hb d_CA_coursesWithin_57 rfl hl (by decide) rfl (fun ls hl => ?_)
      have hl : lv_has ls 5 [(3, .int (((zcw pa ci t i).2) ||| (ci (t + 1 + i)))), (2, .int (((zcw pa ci t i).1) ||| (1 <<< ((nI (t + 1 + i)) &&& 31)))), (0, .ref h), (1, .int (nI t)), (4, .int (nI (t + 1 + i)))] := hl
      refine lv_iinc (v := (nI ((t + 1 + i) + 1))) hx hb d_CA_coursesWithin_58 hl (k := 4) rfl (by rw [nI_succ]; rfl) (by decide) rfl (fun ls hl => ?_)
      have hl : lv_has ls 5 [(4, .int (nI ((t + 1 + i) + 1))), (3, .int (((zcw pa ci t i).2) ||| (ci (t + 1 + i)))), (2, .int (((zcw pa ci t i).1) ||| (1 <<< ((nI (t + 1 + i)) &&& 31)))), (0, .ref h), (1, .int (nI t))] := hl
      refine lv_goto (tgt := 18) hx hb d_CA_coursesWithin_61 (by decide) ?_
      have e9 : zcw pa ci t (i + 1) = ((((zcw pa ci t i).1) ||| (1 <<< ((nI (t + 1 + i)) &&& 31))), (((zcw pa ci t i).2) ||| (ci (t + 1 + i)))) := by show (if _ then _ else _) = _; rw [if_pos (by cases hz : zh (zcw pa ci t i).1 (pa (t + 1 + i)) with | true => rfl | false => rw [hz] at h38; exact absurd rfl h38)]; rfl
      have e91 := congrArg Prod.fst e9
      have e92 := congrArg Prod.snd e9
      dsimp only at e91 e92
      rw [← e91, ← e92] at hl
      exact ih (i + 1) ls (by omega) (by omega) (lv_sub hl [3, 4, 2, 1, 0] rfl)
set_option maxHeartbeats 4000000 in
set_option maxRecDepth 100000 in
theorem m_CA_coursesWithin (l : Launch) (D : va_G) (cI cJ cZ cP cS : ClassId) (h ap al ai ag af at0 G C : Nat) (oc : Int32) (t : Nat) (pa ci : Nat → Int32) (hG : G ≤ 6) (ht : t < G) : Met l y_CA_coursesWithin [Cond.code y_CA_coursesWithin b_CA_coursesWithin 5 (some .int)] ro_CA_coursesWithin (va_Pc [.ref h, .int (nI t)] (fun U => tb_ok U ∧ va_P D cls [(h, .inr (1, [.int (nI G), .ref ap, .ref al, .ref ai, .int (nI C), .ref ag, .ref af, .int oc, .ref at0])), (ap, .inl (cI, 6, .inl pa)), (ai, .inl (cI, 6, .inl ci))] U.heap ∧ va_K D cls (tyl cI cJ cZ cP cS) U)) (zq (some (.int (zcw pa ci t (G - (t + 1))).2))) 0 0 (fun _ => False) := by
  refine Met.ofW (cc := b_CA_coursesWithin) (maxL := 5) (ret := (some .int)) (by decide +kernel) rfl ?_
  intro p e s m args below meth c s₁ B hml hv
  obtain ⟨rfl, hok, hP, hK⟩ := hv
  have hx := B.exec
  have hb := B.bytes
  have hr := B.returns
  have hown : s.vm.findClass "StudyAudit$Catalogue" = some m.cls := findClass_of_methodNamed B.named
  have hlocks := B.notSynchronized
  have hl := lv_entry ([.ref h, .int (nI t)]) (n := 5) (Nat.le_of_ble_eq_true rfl)
  rw [lg_entry_eq]
  generalize (lg_sl ([.ref h, .int (nI t)]) ++ List.replicate (5 - (lg_sl ([.ref h, .int (nI t)])).length) Slot.unset).toArray = ls at hl ⊢
  have hl : lv_has ls 5 [(0, .ref h), (1, .int (nI t))] := hl
  refine lv_iconst (v := 0) hx hb d_CA_coursesWithin_0 (by decide) ?_
  refine lv_iload_n hx hb d_CA_coursesWithin_1 rfl (lv_at hl 1 rfl) ?_
  refine zc_read (va_runSN (Ts := []) (As := [.int 0, .int (nI t)]) (rest := []) ⟨hx, hb, hml, hown, fun _ h => absurd h List.not_mem_nil⟩ (m_SA_with l 0 (nI t)) ⟨zc_CN 2 hok c_SA_with_w t_1 t_368 rfl rfl (by decide +kernel) ⟨Nat.le_of_ble_eq_true rfl, Nat.le_of_ble_eq_true rfl⟩, hok _ t_369 rfl _, trivial⟩ ⟨fun a U g mk q => by obtain ⟨q0, q1⟩ := q; exact ⟨q0, q1⟩, fun U hU hW => ⟨rfl, trivial⟩⟩ rfl rfl hl.1 rfl (lv_room (Nat.le_of_ble_eq_true rfl)) d_CA_coursesWithin_2 ⟨Nat.le_of_ble_eq_true rfl, Nat.le_of_ble_eq_true rfl⟩) ?_
  refine W.eq (g2 := F0 m 5 ls [.int ((0 : Int32) ||| (1 <<< ((nI t) &&& 31)))]) rfl ?_
  refine lv_istore_n hx hb d_CA_coursesWithin_5 rfl hl (by decide) rfl (fun ls hl => ?_)
  have hl : lv_has ls 5 [(2, .int ((0 : Int32) ||| (1 <<< ((nI t) &&& 31)))), (0, .ref h), (1, .int (nI t))] := hl
  refine lv_aload_n hx hb d_CA_coursesWithin_6 rfl (lv_at hl 1 rfl) ?_
  refine va_get (D := D) (ci := 1) (v := .ref ai) (C := R_CA) (T := F_CA) (N := 9) hx hb (tb_in hok in_CA) (fun w h => h) hown hK hP 0 rfl rfl 3 (by decide) (hok _ t_39 rfl _) (fun _ h9 => h9) rfl d_CA_coursesWithin_7 ?_
  refine lv_iload_n hx hb d_CA_coursesWithin_10 rfl (lv_at hl 2 rfl) ?_
  refine va_iald hx hb hK hP 2 0 rfl rfl (vp_in_nI (by omega) (by omega)) d_CA_coursesWithin_11 ?_
  rw [nI_clamp (show t < 2 ^ 31 from by omega)]
  refine lv_istore_n hx hb d_CA_coursesWithin_12 rfl hl (by decide) rfl (fun ls hl => ?_)
  have hl : lv_has ls 5 [(3, .int (ci t)), (2, .int ((0 : Int32) ||| (1 <<< ((nI t) &&& 31)))), (0, .ref h), (1, .int (nI t))] := hl
  refine lv_iload_n hx hb d_CA_coursesWithin_13 rfl (lv_at hl 3 rfl) ?_
  refine lv_iconst (v := 1) hx hb d_CA_coursesWithin_14 (by decide) ?_
  refine lv_iadd hx hb d_CA_coursesWithin_15 ?_
  refine lv_istore hx hb d_CA_coursesWithin_16 hl (by decide) rfl (fun ls hl => ?_)
  have hl : lv_has ls 5 [(4, .int ((nI t) + (1 : Int32))), (3, .int (ci t)), (2, .int ((0 : Int32) ||| (1 <<< ((nI t) &&& 31)))), (0, .ref h), (1, .int (nI t))] := hl
  have e8 : nI t + 1 = nI (t + 1 + 0) := (nI_succ t).symm
  rw [e8] at hl
  refine lo_coursesWithin D cI cJ cZ cP cS h ap al ai ag af at0 G C oc t pa ci hx hb hml hown hok hP hK hG ht (fun ls hl => ?_) ((G - (t + 1)) - 0) 0 ls (by omega) (by omega) (lv_sub hl [3, 4, 2, 1, 0] rfl)
  refine lv_iload_n hx hb d_CA_coursesWithin_64 rfl (lv_at hl 3 rfl) ?_
  exact W.iret hx hb hr (fun t ht _ => ⟨rfl, ht⟩) (fun q h => by cases h) d_CA_coursesWithin_65
def znr (nd dm ex : Nat → Int32) : Nat → (Nat → Int32)
  | 0 => nd
  | 1 => nd
  | i + 2 => upd (znr nd dm ex (i + 1)) (i + 1) (zmax 0 (dm (i + 1) - ex (i + 1)))
def zcr (ct al sf : Nat → Int32) : Nat → (Nat → Int32)
  | 0 => ct
  | 1 => ct
  | i + 2 => upd (zcr ct al sf (i + 1)) (i + 1) (zcf (al (i + 1)) sf 12)
abbrev ro_CM_read : Room := { frames := 2, cells := 0, slots := 0, locals := 44 }
set_option maxHeartbeats 4000000 in
set_option maxRecDepth 100000 in
theorem lo_read {l : Launch} {p : Program} {e : Env} {s : State} {m : MethodId} {args : Array Value} {below : List Frame} {meth : Method} {c : Code} {H0 : Heap} {A : Nat → Prop} {Q : State → Prop} (D : va_G) (cI cJ cZ cP cS : ClassId) (h an ac g ad aa q aps asf aex r0 : Nat) (cr pg np : Int32) (nd ct dm al sf ex : Nat → Int32) (hx : p.tables.exec = Jvm.exec) (hb : c.code = b_CM_read) (hml : c.maxLocals = 4) (hown : s.vm.findClass "StudyAudit$Claims" = some m.cls) (hok : tb_ok s) (hK : va_K D cls (tyl cI cJ cZ cP cS) s) (hA : ∀ q : Nat, H0.size ≤ q → A q) (hr0 : r0 ≤ 5)
    (kk : ∀ (ls : Array Slot) (H : Heap) (locs : List Loc), lv_has ls 4 [(0, .ref h), (1, .ref g), (2, .ref q), (3, .int (nI (r0 + 1)))] → va_P D cls [(h, .inr (2, [.int (nI r0), .ref an, .ref ac])), (an, .inl (cI, 6, .inl (znr nd dm ex (r0 + 1)))), (ac, .inl (cI, 6, .inl (zcr ct al sf (r0 + 1)))), (g, .inr (5, [.int (nI r0), .ref ad, .ref aa])), (ad, .inl (cI, 6, .inl dm)), (aa, .inl (cI, 6, .inl al)), (q, .inr (7, [.int pg, .ref aps, .ref asf, .int np, .ref aex])), (asf, .inl (cI, 12, .inl sf)), (aex, .inl (cI, 6, .inl ex))] H → va_D A [(h, .inr (2, [.int (nI r0), .ref an, .ref ac])), (an, .inl (cI, 6, .inl (znr nd dm ex (r0 + 1)))), (ac, .inl (cI, 6, .inl (zcr ct al sf (r0 + 1)))), (g, .inr (5, [.int (nI r0), .ref ad, .ref aa])), (ad, .inl (cI, 6, .inl dm)), (aa, .inl (cI, 6, .inl al)), (q, .inr (7, [.int pg, .ref aps, .ref asf, .int np, .ref aex])), (asf, .inl (cI, 12, .inl sf)), (aex, .inl (cI, 6, .inl ex))] → va_S A H0 H locs → W p l e ro_CM_read s m args below meth c H locs 0 0 Q (F0 m 52 ls [])) :
    ∀ (k i : Nat) (ls : Array Slot) (H : Heap) (locs : List Loc), 1 ≤ i → i + k = (r0 + 1) → lv_has ls 4 [(0, .ref h), (1, .ref g), (2, .ref q), (3, .int (nI i))] → va_P D cls [(h, .inr (2, [.int (nI r0), .ref an, .ref ac])), (an, .inl (cI, 6, .inl (znr nd dm ex i))), (ac, .inl (cI, 6, .inl (zcr ct al sf i))), (g, .inr (5, [.int (nI r0), .ref ad, .ref aa])), (ad, .inl (cI, 6, .inl dm)), (aa, .inl (cI, 6, .inl al)), (q, .inr (7, [.int pg, .ref aps, .ref asf, .int np, .ref aex])), (asf, .inl (cI, 12, .inl sf)), (aex, .inl (cI, 6, .inl ex))] H → va_D A [(h, .inr (2, [.int (nI r0), .ref an, .ref ac])), (an, .inl (cI, 6, .inl (znr nd dm ex i))), (ac, .inl (cI, 6, .inl (zcr ct al sf i))), (g, .inr (5, [.int (nI r0), .ref ad, .ref aa])), (ad, .inl (cI, 6, .inl dm)), (aa, .inl (cI, 6, .inl al)), (q, .inr (7, [.int pg, .ref aps, .ref asf, .int np, .ref aex])), (asf, .inl (cI, 12, .inl sf)), (aex, .inl (cI, 6, .inl ex))] → va_S A H0 H locs → W p l e ro_CM_read s m args below meth c H locs 0 0 Q (F0 m 10 ls []) := by
  intro k
  induction k with
  | zero =>
    intro i ls H locs hi0 hik hl hP hD hS
    have hik : (r0 + 1) = i := by omega
    subst hik
    refine lv_iload_n hx hb d_CM_read_10 rfl (lv_at hl 3 rfl) ?_
    refine lv_aload_n hx hb d_CM_read_11 rfl (lv_at hl 0 rfl) ?_
    refine va_get (D := D) (ci := 2) (v := .int (nI r0)) (C := R_CM) (T := F_CM) (N := 3) hx hb (tb_in hok in_CM) (fun w h => h) hown hK hP 0 rfl rfl 0 (by decide) (hok _ t_131 rfl _) (fun _ h9 => h9) rfl d_CM_read_12 ?_
    refine lv_icmp_gt (tgt := 52) hx hb d_CM_read_15 (by decide) (fun h15 => ?_) (fun h15 => absurd (show nI r0 < nI (r0 + 1) from nI_lt (by omega) (by omega)) h15)
    exact kk ls H locs (lv_sub hl [0, 1, 2, 3] rfl) hP hD hS
  | succ k ih =>
    intro i ls H locs hi0 hik hl hP hD hS
    refine lv_iload_n hx hb d_CM_read_10 rfl (lv_at hl 3 rfl) ?_
    refine lv_aload_n hx hb d_CM_read_11 rfl (lv_at hl 0 rfl) ?_
    refine va_get (D := D) (ci := 2) (v := .int (nI r0)) (C := R_CM) (T := F_CM) (N := 3) hx hb (tb_in hok in_CM) (fun w h => h) hown hK hP 0 rfl rfl 0 (by decide) (hok _ t_131 rfl _) (fun _ h9 => h9) rfl d_CM_read_12 ?_
    refine lv_icmp_gt (tgt := 52) hx hb d_CM_read_15 (by decide) (fun h15 => absurd h15 (show ¬ nI r0 < nI i from nI_nlt (by omega) (by omega))) (fun h15 => ?_)
    refine lv_aload_n hx hb d_CM_read_18 rfl (lv_at hl 0 rfl) ?_
    refine va_get (D := D) (ci := 2) (v := .ref an) (C := R_CM) (T := F_CM) (N := 3) hx hb (tb_in hok in_CM) (fun w h => h) hown hK hP 0 rfl rfl 1 (by decide) (hok _ t_133 rfl _) (fun _ h9 => h9) rfl d_CM_read_19 ?_
    refine lv_iload_n hx hb d_CM_read_22 rfl (lv_at hl 3 rfl) ?_
    refine lv_aload_n hx hb d_CM_read_23 rfl (lv_at hl 2 rfl) ?_
    refine lv_aload_n hx hb d_CM_read_24 rfl (lv_at hl 1 rfl) ?_
    refine lv_iload_n hx hb d_CM_read_25 rfl (lv_at hl 3 rfl) ?_
    refine zc_read (va_runV (Ts := []) (As := [.ref g, .int (nI i)]) (rest := [.int (nI i), .ref an]) ⟨hx, hb, hml, hown, fun _ h => absurd h List.not_mem_nil⟩ (m_ST_needOf l D cI cJ cZ cP cS q aps asf aex pg np g ad aa (nI r0) i dm ex (by omega)) ⟨zc_B 2 hok c_ST_needOf_w t_4 t_516 rfl rfl (by decide +kernel) ⟨Nat.le_of_ble_eq_true rfl, Nat.le_of_ble_eq_true rfl⟩, hok _ t_476 rfl _, hok _ t_477 rfl _⟩ ⟨fun a U g mk q => by obtain ⟨q0, q2, qP, qK⟩ := q; exact ⟨q0, q2.call g mk a, qP, va_K.moved (u := U) (U := U.calling g mk a) (Vm.Alike.refl U.vm) qK⟩, va_recv hK hP (ci := 7) (q0 := 6) rfl rfl, fun U hU hW => ⟨rfl, hok.warm hW, by rw [hU]; exact hP.sub [6, 8, 3, 4] rfl, va_K.moved hW.alike hK⟩⟩ rfl rfl hl.1 rfl (lv_room (Nat.le_of_ble_eq_true rfl)) d_CM_read_26 ⟨Nat.le_of_ble_eq_true rfl, Nat.le_of_ble_eq_true rfl⟩) ?_
    refine W.eq (g2 := F0 m 29 ls [.int (zmax 0 (dm i - ex i)), .int (nI i), .ref an]) rfl ?_
    refine va_iast hx hb hK hP hD hS 1 0 rfl rfl (vp_in_nI (by omega) (by omega)) d_CM_read_29 (fun H locs hP hD hS => ?_)
    rw [nI_clamp (show i < 2 ^ 31 from by omega)] at hP hD
    have hP : va_P D cls [(h, .inr (2, [.int (nI r0), .ref an, .ref ac])), (an, .inl (cI, 6, .inl (upd (znr nd dm ex i) i (zmax 0 (dm i - ex i))))), (ac, .inl (cI, 6, .inl (zcr ct al sf i))), (g, .inr (5, [.int (nI r0), .ref ad, .ref aa])), (ad, .inl (cI, 6, .inl dm)), (aa, .inl (cI, 6, .inl al)), (q, .inr (7, [.int pg, .ref aps, .ref asf, .int np, .ref aex])), (asf, .inl (cI, 12, .inl sf)), (aex, .inl (cI, 6, .inl ex))] H := hP
    have hD : va_D A [(h, .inr (2, [.int (nI r0), .ref an, .ref ac])), (an, .inl (cI, 6, .inl (upd (znr nd dm ex i) i (zmax 0 (dm i - ex i))))), (ac, .inl (cI, 6, .inl (zcr ct al sf i))), (g, .inr (5, [.int (nI r0), .ref ad, .ref aa])), (ad, .inl (cI, 6, .inl dm)), (aa, .inl (cI, 6, .inl al)), (q, .inr (7, [.int pg, .ref aps, .ref asf, .int np, .ref aex])), (asf, .inl (cI, 12, .inl sf)), (aex, .inl (cI, 6, .inl ex))] := hD
    refine lv_aload_n hx hb d_CM_read_30 rfl (lv_at hl 0 rfl) ?_
    refine va_get (D := D) (ci := 2) (v := .ref ac) (C := R_CM) (T := F_CM) (N := 3) hx hb (tb_in hok in_CM) (fun w h => h) hown hK hP 0 rfl rfl 2 (by decide) (hok _ t_135 rfl _) (fun _ h9 => h9) rfl d_CM_read_31 ?_
    refine lv_iload_n hx hb d_CM_read_34 rfl (lv_at hl 3 rfl) ?_
    refine lv_aload_n hx hb d_CM_read_35 rfl (lv_at hl 1 rfl) ?_
    refine va_get (D := D) (ci := 5) (v := .ref aa) (C := R_PR) (T := F_PR) (N := 3) hx hb (tb_in hok in_PR) (fun w h => h) hown hK hP 3 rfl rfl 2 (by decide) (hok _ t_85 rfl _) (fun _ h9 => h9) rfl d_CM_read_36 ?_
    refine lv_iload_n hx hb d_CM_read_39 rfl (lv_at hl 3 rfl) ?_
    refine va_iald hx hb hK hP 5 0 rfl rfl (vp_in_nI (by omega) (by omega)) d_CM_read_40 ?_
    rw [nI_clamp (show i < 2 ^ 31 from by omega)]
    refine lv_aload_n hx hb d_CM_read_41 rfl (lv_at hl 2 rfl) ?_
    refine zc_read (va_runS (Ts := []) (As := [.int (al i), .ref q]) (rest := [.int (nI i), .ref ac]) ⟨hx, hb, hml, hown, fun _ h => absurd h List.not_mem_nil⟩ (m_CM_countingFor l D cI cJ cZ cP cS q aps asf aex pg np (al i) sf) ⟨zc_B 2 hok c_CM_countingFor_w t_6 t_517 rfl rfl (by decide +kernel) ⟨Nat.le_of_ble_eq_true rfl, Nat.le_of_ble_eq_true rfl⟩, hok _ t_518 rfl _⟩ ⟨fun a U g mk q => by obtain ⟨q0, q2, qP, qK⟩ := q; exact ⟨q0, q2.call g mk a, qP, va_K.moved (u := U) (U := U.calling g mk a) (Vm.Alike.refl U.vm) qK⟩, fun U hU hW => ⟨rfl, hok.warm hW, by rw [hU]; exact hP.sub [6, 7] rfl, va_K.moved hW.alike hK⟩⟩ rfl rfl hl.1 rfl (lv_room (Nat.le_of_ble_eq_true rfl)) d_CM_read_42 ⟨Nat.le_of_ble_eq_true rfl, Nat.le_of_ble_eq_true rfl⟩) ?_
    refine W.eq (g2 := F0 m 45 ls [.int (zcf (al i) sf 12), .int (nI i), .ref ac]) rfl ?_
    refine va_iast hx hb hK hP hD hS 2 0 rfl rfl (vp_in_nI (by omega) (by omega)) d_CM_read_45 (fun H locs hP hD hS => ?_)
    rw [nI_clamp (show i < 2 ^ 31 from by omega)] at hP hD
    have hP : va_P D cls [(h, .inr (2, [.int (nI r0), .ref an, .ref ac])), (an, .inl (cI, 6, .inl (upd (znr nd dm ex i) i (zmax 0 (dm i - ex i))))), (ac, .inl (cI, 6, .inl (upd (zcr ct al sf i) i (zcf (al i) sf 12)))), (g, .inr (5, [.int (nI r0), .ref ad, .ref aa])), (ad, .inl (cI, 6, .inl dm)), (aa, .inl (cI, 6, .inl al)), (q, .inr (7, [.int pg, .ref aps, .ref asf, .int np, .ref aex])), (asf, .inl (cI, 12, .inl sf)), (aex, .inl (cI, 6, .inl ex))] H := hP
    have hD : va_D A [(h, .inr (2, [.int (nI r0), .ref an, .ref ac])), (an, .inl (cI, 6, .inl (upd (znr nd dm ex i) i (zmax 0 (dm i - ex i))))), (ac, .inl (cI, 6, .inl (upd (zcr ct al sf i) i (zcf (al i) sf 12)))), (g, .inr (5, [.int (nI r0), .ref ad, .ref aa])), (ad, .inl (cI, 6, .inl dm)), (aa, .inl (cI, 6, .inl al)), (q, .inr (7, [.int pg, .ref aps, .ref asf, .int np, .ref aex])), (asf, .inl (cI, 12, .inl sf)), (aex, .inl (cI, 6, .inl ex))] := hD
    refine lv_iinc (v := (nI (i + 1))) hx hb d_CM_read_46 hl (k := 3) rfl (by rw [nI_succ]; rfl) (by decide) rfl (fun ls hl => ?_)
    have hl : lv_has ls 4 [(3, .int (nI (i + 1))), (0, .ref h), (1, .ref g), (2, .ref q)] := hl
    refine lv_goto (tgt := 10) hx hb d_CM_read_49 (by decide) ?_
    have e9 : znr nd dm ex (i + 1) = upd (znr nd dm ex i) i (zmax 0 (dm i - ex i)) := by obtain ⟨j, rfl⟩ : ∃ j, i = j + 1 := ⟨i - 1, by omega⟩; rfl
    have e8 : zcr ct al sf (i + 1) = upd (zcr ct al sf i) i (zcf (al i) sf 12) := by obtain ⟨j, rfl⟩ : ∃ j, i = j + 1 := ⟨i - 1, by omega⟩; rfl
    rw [← e9, ← e8] at hP hD
    exact ih (i + 1) ls H locs (by omega) (by omega) (lv_sub hl [1, 2, 3, 0] rfl) hP hD hS
set_option maxHeartbeats 4000000 in
set_option maxRecDepth 100000 in
theorem m_CM_read (l : Launch) (D : va_G) (cI cJ cZ cP cS : ClassId) (h an ac g ad aa q aps asf aex r0 : Nat) (cr pg np : Int32) (nd ct dm al sf ex : Nat → Int32) (hr0 : r0 ≤ 5) (sz : Nat) : Met l y_CM_read [Cond.code y_CM_read b_CM_read 4 none] ro_CM_read (va_Pc [.ref h, .ref g, .ref q] (fun U => U.heap.size = sz ∧ tb_ok U ∧ va_P D cls [(h, .inr (2, [.int cr, .ref an, .ref ac])), (an, .inl (cI, 6, .inl nd)), (ac, .inl (cI, 6, .inl ct)), (g, .inr (5, [.int (nI r0), .ref ad, .ref aa])), (ad, .inl (cI, 6, .inl dm)), (aa, .inl (cI, 6, .inl al)), (q, .inr (7, [.int pg, .ref aps, .ref asf, .int np, .ref aex])), (asf, .inl (cI, 12, .inl sf)), (aex, .inl (cI, 6, .inl ex))] U.heap ∧ va_K D cls (tyl cI cJ cZ cP cS) U ∧ va_D (fun _ => True) [(h, .inr (2, [.int cr, .ref an, .ref ac])), (an, .inl (cI, 6, .inl nd)), (ac, .inl (cI, 6, .inl ct)), (g, .inr (5, [.int (nI r0), .ref ad, .ref aa])), (ad, .inl (cI, 6, .inl dm)), (aa, .inl (cI, 6, .inl al)), (q, .inr (7, [.int pg, .ref aps, .ref asf, .int np, .ref aex])), (asf, .inl (cI, 12, .inl sf)), (aex, .inl (cI, 6, .inl ex))])) (zv none D [(h, .inr (2, [.int (nI r0), .ref an, .ref ac])), (an, .inl (cI, 6, .inl (znr nd dm ex (r0 + 1)))), (ac, .inl (cI, 6, .inl (zcr ct al sf (r0 + 1)))), (g, .inr (5, [.int (nI r0), .ref ad, .ref aa])), (ad, .inl (cI, 6, .inl dm)), (aa, .inl (cI, 6, .inl al)), (q, .inr (7, [.int pg, .ref aps, .ref asf, .int np, .ref aex])), (asf, .inl (cI, 12, .inl sf)), (aex, .inl (cI, 6, .inl ex))] (va_A [(h, .inr (2, [.int cr, .ref an, .ref ac])), (an, .inl (cI, 6, .inl nd)), (ac, .inl (cI, 6, .inl ct)), (g, .inr (5, [.int (nI r0), .ref ad, .ref aa])), (ad, .inl (cI, 6, .inl dm)), (aa, .inl (cI, 6, .inl al)), (q, .inr (7, [.int pg, .ref aps, .ref asf, .int np, .ref aex])), (asf, .inl (cI, 12, .inl sf)), (aex, .inl (cI, 6, .inl ex))] sz)) 0 0 (va_A [(h, .inr (2, [.int cr, .ref an, .ref ac])), (an, .inl (cI, 6, .inl nd)), (ac, .inl (cI, 6, .inl ct)), (g, .inr (5, [.int (nI r0), .ref ad, .ref aa])), (ad, .inl (cI, 6, .inl dm)), (aa, .inl (cI, 6, .inl al)), (q, .inr (7, [.int pg, .ref aps, .ref asf, .int np, .ref aex])), (asf, .inl (cI, 12, .inl sf)), (aex, .inl (cI, 6, .inl ex))] sz) := by
  refine Met.ofW (cc := b_CM_read) (maxL := 4) (ret := none) (by decide +kernel) rfl ?_
  intro p e s m args below meth c s₁ B hml hv
  obtain ⟨rfl, hsz, hok, hP, hK, hD0⟩ := hv
  have hx := B.exec
  have hb := B.bytes
  have hr := B.returns
  have hown : s.vm.findClass "StudyAudit$Claims" = some m.cls := findClass_of_methodNamed B.named
  have hlocks := B.notSynchronized
  subst hsz
  have hD := hD0.self (sz := s.heap.size)
  generalize hAe : va_A [(h, .inr (2, [.int cr, .ref an, .ref ac])), (an, .inl (cI, 6, .inl nd)), (ac, .inl (cI, 6, .inl ct)), (g, .inr (5, [.int (nI r0), .ref ad, .ref aa])), (ad, .inl (cI, 6, .inl dm)), (aa, .inl (cI, 6, .inl al)), (q, .inr (7, [.int pg, .ref aps, .ref asf, .int np, .ref aex])), (asf, .inl (cI, 12, .inl sf)), (aex, .inl (cI, 6, .inl ex))] s.heap.size = A at hD ⊢
  have hA : ∀ q : Nat, s.heap.size ≤ q → A q := fun q h => by rw [← hAe]; exact Or.inr h
  have hS : va_S A s.heap s.heap [] := va_S.rf
  have hl := lv_entry ([.ref h, .ref g, .ref q]) (n := 4) (Nat.le_of_ble_eq_true rfl)
  rw [lg_entry_eq]
  generalize (lg_sl ([.ref h, .ref g, .ref q]) ++ List.replicate (4 - (lg_sl ([.ref h, .ref g, .ref q])).length) Slot.unset).toArray = ls at hl ⊢
  have hl : lv_has ls 4 [(0, .ref h), (1, .ref g), (2, .ref q)] := hl
  refine lv_aload_n hx hb d_CM_read_0 rfl (lv_at hl 0 rfl) ?_
  refine lv_aload_n hx hb d_CM_read_1 rfl (lv_at hl 1 rfl) ?_
  refine va_get (D := D) (ci := 5) (v := .int (nI r0)) (C := R_PR) (T := F_PR) (N := 3) hx hb (tb_in hok in_PR) (fun w h => h) hown hK hP 3 rfl rfl 0 (by decide) (hok _ t_80 rfl _) (fun _ h9 => h9) rfl d_CM_read_2 ?_
  refine va_put (D := D) (ci := 2) (v := .int (nI r0)) (ty := .int) (C := R_CM) (T := F_CM) (N := 3) hx hb (tb_in hok in_CM) (fun w h => h) g_CM g_CM_ok n_CM hown hK hP hD hS 0 rfl rfl 0 (by decide) (hok _ t_131 rfl _) (fun _ h9 => h9) rfl (by decide +kernel) rfl rfl (Nat.le_of_ble_eq_true rfl) d_CM_read_5 (fun H locs hP hD hS => ?_)
  have hP : va_P D cls [(h, .inr (2, [.int (nI r0), .ref an, .ref ac])), (an, .inl (cI, 6, .inl nd)), (ac, .inl (cI, 6, .inl ct)), (g, .inr (5, [.int (nI r0), .ref ad, .ref aa])), (ad, .inl (cI, 6, .inl dm)), (aa, .inl (cI, 6, .inl al)), (q, .inr (7, [.int pg, .ref aps, .ref asf, .int np, .ref aex])), (asf, .inl (cI, 12, .inl sf)), (aex, .inl (cI, 6, .inl ex))] H := hP
  have hD : va_D A [(h, .inr (2, [.int (nI r0), .ref an, .ref ac])), (an, .inl (cI, 6, .inl nd)), (ac, .inl (cI, 6, .inl ct)), (g, .inr (5, [.int (nI r0), .ref ad, .ref aa])), (ad, .inl (cI, 6, .inl dm)), (aa, .inl (cI, 6, .inl al)), (q, .inr (7, [.int pg, .ref aps, .ref asf, .int np, .ref aex])), (asf, .inl (cI, 12, .inl sf)), (aex, .inl (cI, 6, .inl ex))] := hD
  refine lv_iconst (v := 1) hx hb d_CM_read_8 (by decide) ?_
  refine lv_istore_n hx hb d_CM_read_9 rfl hl (by decide) rfl (fun ls hl => ?_)
  have hl : lv_has ls 4 [(3, .int 1), (0, .ref h), (1, .ref g), (2, .ref q)] := hl
  refine lo_read D cI cJ cZ cP cS h an ac g ad aa q aps asf aex r0 cr pg np nd ct dm al sf ex hx hb hml hown hok hK hA hr0 (fun ls H locs hl hP hD hS => ?_) ((r0 + 1) - 1) 1 ls _ _ (by omega) (by omega) (lv_sub hl [1, 2, 3, 0] rfl) hP hD hS
  exact W.vret hx hb hr (fun t ht _ => ⟨⟨rfl, by rw [ht]; exact hP, hD⟩, hS.F ht⟩) hS.2.2 d_CM_read_52
