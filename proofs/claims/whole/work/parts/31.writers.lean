/-! writers (rows by program) -/
abbrev ro_CA_addGroup : Room := { frames := 0, cells := 0, slots := 0, locals := 0 }
set_option maxHeartbeats 4000000 in
set_option maxRecDepth 100000 in
theorem m_CA_addGroup (l : Launch) (D : va_G) (cI cJ cZ cP cS : ClassId) (h ap al ai ag af at0 G C : Nat) (oc : Int32) (x y : Int32) (pa lm : Nat → Int32) (hG : G < 6) (sz : Nat) : Met l y_CA_addGroup [Cond.code y_CA_addGroup b_CA_addGroup 4 (some .int)] ro_CA_addGroup (va_Pc [.ref h, .int x, .int y] (fun U => U.heap.size = sz ∧ tb_ok U ∧ va_P D cls [(h, .inr (1, [.int (nI G), .ref ap, .ref al, .ref ai, .int (nI C), .ref ag, .ref af, .int oc, .ref at0])), (ap, .inl (cI, 6, .inl pa)), (al, .inl (cI, 6, .inl lm))] U.heap ∧ va_K D cls (tyl cI cJ cZ cP cS) U ∧ va_D (fun _ => True) [(h, .inr (1, [.int (nI G), .ref ap, .ref al, .ref ai, .int (nI C), .ref ag, .ref af, .int oc, .ref at0])), (ap, .inl (cI, 6, .inl pa)), (al, .inl (cI, 6, .inl lm))])) (zv (some (.int (nI G))) D [(h, .inr (1, [.int (nI G + 1), .ref ap, .ref al, .ref ai, .int (nI C), .ref ag, .ref af, .int oc, .ref at0])), (ap, .inl (cI, 6, .inl (upd pa G x))), (al, .inl (cI, 6, .inl (upd lm G y)))] (va_A [(h, .inr (1, [.int (nI G), .ref ap, .ref al, .ref ai, .int (nI C), .ref ag, .ref af, .int oc, .ref at0])), (ap, .inl (cI, 6, .inl pa)), (al, .inl (cI, 6, .inl lm))] sz)) 0 0 (va_A [(h, .inr (1, [.int (nI G), .ref ap, .ref al, .ref ai, .int (nI C), .ref ag, .ref af, .int oc, .ref at0])), (ap, .inl (cI, 6, .inl pa)), (al, .inl (cI, 6, .inl lm))] sz) := by
  refine Met.ofW (cc := b_CA_addGroup) (maxL := 4) (ret := (some .int)) (by decide +kernel) rfl ?_
  intro p e s m args below meth c s₁ B hml hv
  obtain ⟨rfl, hsz, hok, hP, hK, hD0⟩ := hv
  have hx := B.exec
  have hb := B.bytes
  have hr := B.returns
  have hown : s.vm.findClass "StudyAudit$Catalogue" = some m.cls := findClass_of_methodNamed B.named
  have hlocks := B.notSynchronized
  subst hsz
  have hD := hD0.self (sz := s.heap.size)
  generalize hAe : va_A [(h, .inr (1, [.int (nI G), .ref ap, .ref al, .ref ai, .int (nI C), .ref ag, .ref af, .int oc, .ref at0])), (ap, .inl (cI, 6, .inl pa)), (al, .inl (cI, 6, .inl lm))] s.heap.size = A at hD ⊢
  have hA : ∀ q : Nat, s.heap.size ≤ q → A q := fun q h => by rw [← hAe]; exact Or.inr h
  have hS : va_S A s.heap s.heap [] := va_S.rf
  have hl := lv_entry ([.ref h, .int x, .int y]) (n := 4) (Nat.le_of_ble_eq_true rfl)
  rw [lg_entry_eq]
  generalize (lg_sl ([.ref h, .int x, .int y]) ++ List.replicate (4 - (lg_sl ([.ref h, .int x, .int y])).length) Slot.unset).toArray = ls at hl ⊢
  have hl : lv_has ls 4 [(0, .ref h), (1, .int x), (2, .int y)] := hl
  refine lv_aload_n hx hb d_CA_addGroup_0 rfl (lv_at hl 0 rfl) ?_
  refine va_get (D := D) (ci := 1) (v := .int (nI G)) (C := R_CA) (T := F_CA) (N := 9) hx hb (tb_in hok in_CA) (fun w h => h) hown hK hP 0 rfl rfl 0 (by decide) (hok _ t_33 rfl _) (fun _ h9 => h9) rfl d_CA_addGroup_1 ?_
  refine lv_istore_n hx hb d_CA_addGroup_4 rfl hl (by decide) rfl (fun ls hl => ?_)
  have hl : lv_has ls 4 [(3, .int (nI G)), (0, .ref h), (1, .int x), (2, .int y)] := hl
  refine lv_aload_n hx hb d_CA_addGroup_5 rfl (lv_at hl 1 rfl) ?_
  refine va_get (D := D) (ci := 1) (v := .ref ap) (C := R_CA) (T := F_CA) (N := 9) hx hb (tb_in hok in_CA) (fun w h => h) hown hK hP 0 rfl rfl 1 (by decide) (hok _ t_36 rfl _) (fun _ h9 => h9) rfl d_CA_addGroup_6 ?_
  refine lv_iload_n hx hb d_CA_addGroup_9 rfl (lv_at hl 0 rfl) ?_
  refine lv_iload_n hx hb d_CA_addGroup_10 rfl (lv_at hl 2 rfl) ?_
  refine va_iast hx hb hK hP hD hS 1 0 rfl rfl (vp_in_nI (by omega) (by omega)) d_CA_addGroup_11 (fun H locs hP hD hS => ?_)
  rw [nI_clamp (show G < 2 ^ 31 from by omega)] at hP hD
  have hP : va_P D cls [(h, .inr (1, [.int (nI G), .ref ap, .ref al, .ref ai, .int (nI C), .ref ag, .ref af, .int oc, .ref at0])), (ap, .inl (cI, 6, .inl (upd pa G x))), (al, .inl (cI, 6, .inl lm))] H := hP
  have hD : va_D A [(h, .inr (1, [.int (nI G), .ref ap, .ref al, .ref ai, .int (nI C), .ref ag, .ref af, .int oc, .ref at0])), (ap, .inl (cI, 6, .inl (upd pa G x))), (al, .inl (cI, 6, .inl lm))] := hD
  refine lv_aload_n hx hb d_CA_addGroup_12 rfl (lv_at hl 1 rfl) ?_
  refine va_get (D := D) (ci := 1) (v := .ref al) (C := R_CA) (T := F_CA) (N := 9) hx hb (tb_in hok in_CA) (fun w h => h) hown hK hP 0 rfl rfl 2 (by decide) (hok _ t_38 rfl _) (fun _ h9 => h9) rfl d_CA_addGroup_13 ?_
  refine lv_iload_n hx hb d_CA_addGroup_16 rfl (lv_at hl 0 rfl) ?_
  refine lv_iload_n hx hb d_CA_addGroup_17 rfl (lv_at hl 3 rfl) ?_
  refine va_iast hx hb hK hP hD hS 2 0 rfl rfl (vp_in_nI (by omega) (by omega)) d_CA_addGroup_18 (fun H locs hP hD hS => ?_)
  rw [nI_clamp (show G < 2 ^ 31 from by omega)] at hP hD
  have hP : va_P D cls [(h, .inr (1, [.int (nI G), .ref ap, .ref al, .ref ai, .int (nI C), .ref ag, .ref af, .int oc, .ref at0])), (ap, .inl (cI, 6, .inl (upd pa G x))), (al, .inl (cI, 6, .inl (upd lm G y)))] H := hP
  have hD : va_D A [(h, .inr (1, [.int (nI G), .ref ap, .ref al, .ref ai, .int (nI C), .ref ag, .ref af, .int oc, .ref at0])), (ap, .inl (cI, 6, .inl (upd pa G x))), (al, .inl (cI, 6, .inl (upd lm G y)))] := hD
  refine lv_aload_n hx hb d_CA_addGroup_19 rfl (lv_at hl 1 rfl) ?_
  refine lv_dup hx hb d_CA_addGroup_20 rfl ?_
  refine va_get (D := D) (ci := 1) (v := .int (nI G)) (C := R_CA) (T := F_CA) (N := 9) hx hb (tb_in hok in_CA) (fun w h => h) hown hK hP 0 rfl rfl 0 (by decide) (hok _ t_33 rfl _) (fun _ h9 => h9) rfl d_CA_addGroup_21 ?_
  refine lv_iconst (v := 1) hx hb d_CA_addGroup_24 (by decide) ?_
  refine lv_iadd hx hb d_CA_addGroup_25 ?_
  refine va_put (D := D) (ci := 1) (v := .int ((nI G) + (1 : Int32))) (ty := .int) (C := R_CA) (T := F_CA) (N := 9) hx hb (tb_in hok in_CA) (fun w h => h) g_CA g_CA_ok n_CA hown hK hP hD hS 0 rfl rfl 0 (by decide) (hok _ t_33 rfl _) (fun _ h9 => h9) rfl (by decide +kernel) rfl rfl (Nat.le_of_ble_eq_true rfl) d_CA_addGroup_26 (fun H locs hP hD hS => ?_)
  have hP : va_P D cls [(h, .inr (1, [.int ((nI G) + (1 : Int32)), .ref ap, .ref al, .ref ai, .int (nI C), .ref ag, .ref af, .int oc, .ref at0])), (ap, .inl (cI, 6, .inl (upd pa G x))), (al, .inl (cI, 6, .inl (upd lm G y)))] H := hP
  have hD : va_D A [(h, .inr (1, [.int ((nI G) + (1 : Int32)), .ref ap, .ref al, .ref ai, .int (nI C), .ref ag, .ref af, .int oc, .ref at0])), (ap, .inl (cI, 6, .inl (upd pa G x))), (al, .inl (cI, 6, .inl (upd lm G y)))] := hD
  refine lv_iload_n hx hb d_CA_addGroup_29 rfl (lv_at hl 0 rfl) ?_
  exact W.iret hx hb hr (fun t ht _ => ⟨⟨rfl, by rw [ht]; exact hP, hD⟩, hS.F ht⟩) hS.2.2 d_CA_addGroup_30
abbrev ro_CA_addCourse : Room := { frames := 1, cells := 0, slots := 0, locals := 21 }
set_option maxHeartbeats 4000000 in
set_option maxRecDepth 100000 in
theorem m_CA_addCourse (l : Launch) (D : va_G) (cI cJ cZ cP cS : ClassId) (h ap al ai ag af at0 G C : Nat) (oc : Int32) (j : Nat) (ci go lf : Nat → Int32) (hC : C < 12) (hj : j < 6) (sz : Nat) : Met l y_CA_addCourse [Cond.code y_CA_addCourse b_CA_addCourse 3 (some .int)] ro_CA_addCourse (va_Pc [.ref h, .int (nI j)] (fun U => U.heap.size = sz ∧ tb_ok U ∧ va_P D cls [(h, .inr (1, [.int (nI G), .ref ap, .ref al, .ref ai, .int (nI C), .ref ag, .ref af, .int oc, .ref at0])), (ai, .inl (cI, 6, .inl ci)), (ag, .inl (cI, 12, .inl go)), (af, .inl (cI, 12, .inl lf))] U.heap ∧ va_K D cls (tyl cI cJ cZ cP cS) U ∧ va_D (fun _ => True) [(h, .inr (1, [.int (nI G), .ref ap, .ref al, .ref ai, .int (nI C), .ref ag, .ref af, .int oc, .ref at0])), (ai, .inl (cI, 6, .inl ci)), (ag, .inl (cI, 12, .inl go)), (af, .inl (cI, 12, .inl lf))])) (zv (some (.int (nI C))) D [(h, .inr (1, [.int (nI G), .ref ap, .ref al, .ref ai, .int (nI C + 1), .ref ag, .ref af, .int (oc ||| (1 <<< (nI C &&& 31))), .ref at0])), (ai, .inl (cI, 6, .inl (upd ci j (ci j ||| (1 <<< (nI C &&& 31)))))), (ag, .inl (cI, 12, .inl (upd go C (nI j)))), (af, .inl (cI, 12, .inl (upd lf C (-1))))] (va_A [(h, .inr (1, [.int (nI G), .ref ap, .ref al, .ref ai, .int (nI C), .ref ag, .ref af, .int oc, .ref at0])), (ai, .inl (cI, 6, .inl ci)), (ag, .inl (cI, 12, .inl go)), (af, .inl (cI, 12, .inl lf))] sz)) 0 0 (va_A [(h, .inr (1, [.int (nI G), .ref ap, .ref al, .ref ai, .int (nI C), .ref ag, .ref af, .int oc, .ref at0])), (ai, .inl (cI, 6, .inl ci)), (ag, .inl (cI, 12, .inl go)), (af, .inl (cI, 12, .inl lf))] sz) := by
  refine Met.ofW (cc := b_CA_addCourse) (maxL := 3) (ret := (some .int)) (by decide +kernel) rfl ?_
  intro p e s m args below meth c s₁ B hml hv
  obtain ⟨rfl, hsz, hok, hP, hK, hD0⟩ := hv
  have hx := B.exec
  have hb := B.bytes
  have hr := B.returns
  have hown : s.vm.findClass "StudyAudit$Catalogue" = some m.cls := findClass_of_methodNamed B.named
  have hlocks := B.notSynchronized
  subst hsz
  have hD := hD0.self (sz := s.heap.size)
  generalize hAe : va_A [(h, .inr (1, [.int (nI G), .ref ap, .ref al, .ref ai, .int (nI C), .ref ag, .ref af, .int oc, .ref at0])), (ai, .inl (cI, 6, .inl ci)), (ag, .inl (cI, 12, .inl go)), (af, .inl (cI, 12, .inl lf))] s.heap.size = A at hD ⊢
  have hA : ∀ q : Nat, s.heap.size ≤ q → A q := fun q h => by rw [← hAe]; exact Or.inr h
  have hS : va_S A s.heap s.heap [] := va_S.rf
  have hl := lv_entry ([.ref h, .int (nI j)]) (n := 3) (Nat.le_of_ble_eq_true rfl)
  rw [lg_entry_eq]
  generalize (lg_sl ([.ref h, .int (nI j)]) ++ List.replicate (3 - (lg_sl ([.ref h, .int (nI j)])).length) Slot.unset).toArray = ls at hl ⊢
  have hl : lv_has ls 3 [(0, .ref h), (1, .int (nI j))] := hl
  refine lv_aload_n hx hb d_CA_addCourse_0 rfl (lv_at hl 0 rfl) ?_
  refine va_get (D := D) (ci := 1) (v := .int (nI C)) (C := R_CA) (T := F_CA) (N := 9) hx hb (tb_in hok in_CA) (fun w h => h) hown hK hP 0 rfl rfl 4 (by decide) (hok _ t_40 rfl _) (fun _ h9 => h9) rfl d_CA_addCourse_1 ?_
  refine lv_istore_n hx hb d_CA_addCourse_4 rfl hl (by decide) rfl (fun ls hl => ?_)
  have hl : lv_has ls 3 [(2, .int (nI C)), (0, .ref h), (1, .int (nI j))] := hl
  refine lv_aload_n hx hb d_CA_addCourse_5 rfl (lv_at hl 1 rfl) ?_
  refine va_get (D := D) (ci := 1) (v := .ref ag) (C := R_CA) (T := F_CA) (N := 9) hx hb (tb_in hok in_CA) (fun w h => h) hown hK hP 0 rfl rfl 5 (by decide) (hok _ t_44 rfl _) (fun _ h9 => h9) rfl d_CA_addCourse_6 ?_
  refine lv_iload_n hx hb d_CA_addCourse_9 rfl (lv_at hl 0 rfl) ?_
  refine lv_iload_n hx hb d_CA_addCourse_10 rfl (lv_at hl 2 rfl) ?_
  refine va_iast hx hb hK hP hD hS 2 0 rfl rfl (vp_in_nI (by omega) (by omega)) d_CA_addCourse_11 (fun H locs hP hD hS => ?_)
  rw [nI_clamp (show C < 2 ^ 31 from by omega)] at hP hD
  have hP : va_P D cls [(h, .inr (1, [.int (nI G), .ref ap, .ref al, .ref ai, .int (nI C), .ref ag, .ref af, .int oc, .ref at0])), (ai, .inl (cI, 6, .inl ci)), (ag, .inl (cI, 12, .inl (upd go C (nI j)))), (af, .inl (cI, 12, .inl lf))] H := hP
  have hD : va_D A [(h, .inr (1, [.int (nI G), .ref ap, .ref al, .ref ai, .int (nI C), .ref ag, .ref af, .int oc, .ref at0])), (ai, .inl (cI, 6, .inl ci)), (ag, .inl (cI, 12, .inl (upd go C (nI j)))), (af, .inl (cI, 12, .inl lf))] := hD
  refine lv_aload_n hx hb d_CA_addCourse_12 rfl (lv_at hl 1 rfl) ?_
  refine va_get (D := D) (ci := 1) (v := .ref ai) (C := R_CA) (T := F_CA) (N := 9) hx hb (tb_in hok in_CA) (fun w h => h) hown hK hP 0 rfl rfl 3 (by decide) (hok _ t_39 rfl _) (fun _ h9 => h9) rfl d_CA_addCourse_13 ?_
  refine lv_iload_n hx hb d_CA_addCourse_16 rfl (lv_at hl 2 rfl) ?_
  refine lv_aload_n hx hb d_CA_addCourse_17 rfl (lv_at hl 1 rfl) ?_
  refine va_get (D := D) (ci := 1) (v := .ref ai) (C := R_CA) (T := F_CA) (N := 9) hx hb (tb_in hok in_CA) (fun w h => h) hown hK hP 0 rfl rfl 3 (by decide) (hok _ t_39 rfl _) (fun _ h9 => h9) rfl d_CA_addCourse_18 ?_
  refine lv_iload_n hx hb d_CA_addCourse_21 rfl (lv_at hl 2 rfl) ?_
  refine va_iald hx hb hK hP 1 0 rfl rfl (vp_in_nI (by omega) (by omega)) d_CA_addCourse_22 ?_
  rw [nI_clamp (show j < 2 ^ 31 from by omega)]
  refine lv_iload_n hx hb d_CA_addCourse_23 rfl (lv_at hl 0 rfl) ?_
  refine zc_read (va_runSN (Ts := []) (As := [.int (ci j), .int (nI C)]) (rest := [.int (nI j), .ref ai]) ⟨hx, hb, hml, hown, fun _ h => absurd h List.not_mem_nil⟩ (m_SA_with l (ci j) (nI C)) ⟨zc_CN 2 hok c_SA_with_w t_1 t_368 rfl rfl (by decide +kernel) ⟨Nat.le_of_ble_eq_true rfl, Nat.le_of_ble_eq_true rfl⟩, hok _ t_369 rfl _, trivial⟩ ⟨fun a U g mk q => by obtain ⟨q0, q1⟩ := q; exact ⟨q0, q1⟩, fun U hU hW => ⟨rfl, trivial⟩⟩ rfl rfl hl.1 rfl (lv_room (Nat.le_of_ble_eq_true rfl)) d_CA_addCourse_24 ⟨Nat.le_of_ble_eq_true rfl, Nat.le_of_ble_eq_true rfl⟩) ?_
  refine W.eq (g2 := F0 m 27 ls [.int ((ci j) ||| (1 <<< ((nI C) &&& 31))), .int (nI j), .ref ai]) rfl ?_
  refine va_iast hx hb hK hP hD hS 1 0 rfl rfl (vp_in_nI (by omega) (by omega)) d_CA_addCourse_27 (fun H locs hP hD hS => ?_)
  rw [nI_clamp (show j < 2 ^ 31 from by omega)] at hP hD
  have hP : va_P D cls [(h, .inr (1, [.int (nI G), .ref ap, .ref al, .ref ai, .int (nI C), .ref ag, .ref af, .int oc, .ref at0])), (ai, .inl (cI, 6, .inl (upd ci j ((ci j) ||| (1 <<< ((nI C) &&& 31)))))), (ag, .inl (cI, 12, .inl (upd go C (nI j)))), (af, .inl (cI, 12, .inl lf))] H := hP
  have hD : va_D A [(h, .inr (1, [.int (nI G), .ref ap, .ref al, .ref ai, .int (nI C), .ref ag, .ref af, .int oc, .ref at0])), (ai, .inl (cI, 6, .inl (upd ci j ((ci j) ||| (1 <<< ((nI C) &&& 31)))))), (ag, .inl (cI, 12, .inl (upd go C (nI j)))), (af, .inl (cI, 12, .inl lf))] := hD
  refine lv_aload_n hx hb d_CA_addCourse_28 rfl (lv_at hl 1 rfl) ?_
  refine va_get (D := D) (ci := 1) (v := .ref af) (C := R_CA) (T := F_CA) (N := 9) hx hb (tb_in hok in_CA) (fun w h => h) hown hK hP 0 rfl rfl 6 (by decide) (hok _ t_46 rfl _) (fun _ h9 => h9) rfl d_CA_addCourse_29 ?_
  refine lv_iload_n hx hb d_CA_addCourse_32 rfl (lv_at hl 0 rfl) ?_
  refine lv_iconst (v := (-1)) hx hb d_CA_addCourse_33 (by decide) ?_
  refine va_iast hx hb hK hP hD hS 3 0 rfl rfl (vp_in_nI (by omega) (by omega)) d_CA_addCourse_34 (fun H locs hP hD hS => ?_)
  rw [nI_clamp (show C < 2 ^ 31 from by omega)] at hP hD
  have hP : va_P D cls [(h, .inr (1, [.int (nI G), .ref ap, .ref al, .ref ai, .int (nI C), .ref ag, .ref af, .int oc, .ref at0])), (ai, .inl (cI, 6, .inl (upd ci j ((ci j) ||| (1 <<< ((nI C) &&& 31)))))), (ag, .inl (cI, 12, .inl (upd go C (nI j)))), (af, .inl (cI, 12, .inl (upd lf C (-1))))] H := hP
  have hD : va_D A [(h, .inr (1, [.int (nI G), .ref ap, .ref al, .ref ai, .int (nI C), .ref ag, .ref af, .int oc, .ref at0])), (ai, .inl (cI, 6, .inl (upd ci j ((ci j) ||| (1 <<< ((nI C) &&& 31)))))), (ag, .inl (cI, 12, .inl (upd go C (nI j)))), (af, .inl (cI, 12, .inl (upd lf C (-1))))] := hD
  refine lv_aload_n hx hb d_CA_addCourse_35 rfl (lv_at hl 1 rfl) ?_
  refine lv_aload_n hx hb d_CA_addCourse_36 rfl (lv_at hl 1 rfl) ?_
  refine va_get (D := D) (ci := 1) (v := .int oc) (C := R_CA) (T := F_CA) (N := 9) hx hb (tb_in hok in_CA) (fun w h => h) hown hK hP 0 rfl rfl 7 (by decide) (hok _ t_49 rfl _) (fun _ h9 => h9) rfl d_CA_addCourse_37 ?_
  refine lv_iload_n hx hb d_CA_addCourse_40 rfl (lv_at hl 0 rfl) ?_
  refine zc_read (va_runSN (Ts := []) (As := [.int oc, .int (nI C)]) (rest := [.ref h]) ⟨hx, hb, hml, hown, fun _ h => absurd h List.not_mem_nil⟩ (m_SA_with l oc (nI C)) ⟨zc_CN 2 hok c_SA_with_w t_1 t_368 rfl rfl (by decide +kernel) ⟨Nat.le_of_ble_eq_true rfl, Nat.le_of_ble_eq_true rfl⟩, hok _ t_369 rfl _, trivial⟩ ⟨fun a U g mk q => by obtain ⟨q0, q1⟩ := q; exact ⟨q0, q1⟩, fun U hU hW => ⟨rfl, trivial⟩⟩ rfl rfl hl.1 rfl (lv_room (Nat.le_of_ble_eq_true rfl)) d_CA_addCourse_41 ⟨Nat.le_of_ble_eq_true rfl, Nat.le_of_ble_eq_true rfl⟩) ?_
  refine W.eq (g2 := F0 m 44 ls [.int (oc ||| (1 <<< ((nI C) &&& 31))), .ref h]) rfl ?_
  refine va_put (D := D) (ci := 1) (v := .int (oc ||| (1 <<< ((nI C) &&& 31)))) (ty := .int) (C := R_CA) (T := F_CA) (N := 9) hx hb (tb_in hok in_CA) (fun w h => h) g_CA g_CA_ok n_CA hown hK hP hD hS 0 rfl rfl 7 (by decide) (hok _ t_49 rfl _) (fun _ h9 => h9) rfl (by decide +kernel) rfl rfl (Nat.le_of_ble_eq_true rfl) d_CA_addCourse_44 (fun H locs hP hD hS => ?_)
  have hP : va_P D cls [(h, .inr (1, [.int (nI G), .ref ap, .ref al, .ref ai, .int (nI C), .ref ag, .ref af, .int (oc ||| (1 <<< ((nI C) &&& 31))), .ref at0])), (ai, .inl (cI, 6, .inl (upd ci j ((ci j) ||| (1 <<< ((nI C) &&& 31)))))), (ag, .inl (cI, 12, .inl (upd go C (nI j)))), (af, .inl (cI, 12, .inl (upd lf C (-1))))] H := hP
  have hD : va_D A [(h, .inr (1, [.int (nI G), .ref ap, .ref al, .ref ai, .int (nI C), .ref ag, .ref af, .int (oc ||| (1 <<< ((nI C) &&& 31))), .ref at0])), (ai, .inl (cI, 6, .inl (upd ci j ((ci j) ||| (1 <<< ((nI C) &&& 31)))))), (ag, .inl (cI, 12, .inl (upd go C (nI j)))), (af, .inl (cI, 12, .inl (upd lf C (-1))))] := hD
  refine lv_aload_n hx hb d_CA_addCourse_47 rfl (lv_at hl 1 rfl) ?_
  refine lv_dup hx hb d_CA_addCourse_48 rfl ?_
  refine va_get (D := D) (ci := 1) (v := .int (nI C)) (C := R_CA) (T := F_CA) (N := 9) hx hb (tb_in hok in_CA) (fun w h => h) hown hK hP 0 rfl rfl 4 (by decide) (hok _ t_40 rfl _) (fun _ h9 => h9) rfl d_CA_addCourse_49 ?_
  refine lv_iconst (v := 1) hx hb d_CA_addCourse_52 (by decide) ?_
  refine lv_iadd hx hb d_CA_addCourse_53 ?_
  refine va_put (D := D) (ci := 1) (v := .int ((nI C) + (1 : Int32))) (ty := .int) (C := R_CA) (T := F_CA) (N := 9) hx hb (tb_in hok in_CA) (fun w h => h) g_CA g_CA_ok n_CA hown hK hP hD hS 0 rfl rfl 4 (by decide) (hok _ t_40 rfl _) (fun _ h9 => h9) rfl (by decide +kernel) rfl rfl (Nat.le_of_ble_eq_true rfl) d_CA_addCourse_54 (fun H locs hP hD hS => ?_)
  have hP : va_P D cls [(h, .inr (1, [.int (nI G), .ref ap, .ref al, .ref ai, .int ((nI C) + (1 : Int32)), .ref ag, .ref af, .int (oc ||| (1 <<< ((nI C) &&& 31))), .ref at0])), (ai, .inl (cI, 6, .inl (upd ci j ((ci j) ||| (1 <<< ((nI C) &&& 31)))))), (ag, .inl (cI, 12, .inl (upd go C (nI j)))), (af, .inl (cI, 12, .inl (upd lf C (-1))))] H := hP
  have hD : va_D A [(h, .inr (1, [.int (nI G), .ref ap, .ref al, .ref ai, .int ((nI C) + (1 : Int32)), .ref ag, .ref af, .int (oc ||| (1 <<< ((nI C) &&& 31))), .ref at0])), (ai, .inl (cI, 6, .inl (upd ci j ((ci j) ||| (1 <<< ((nI C) &&& 31)))))), (ag, .inl (cI, 12, .inl (upd go C (nI j)))), (af, .inl (cI, 12, .inl (upd lf C (-1))))] := hD
  refine lv_iload_n hx hb d_CA_addCourse_57 rfl (lv_at hl 0 rfl) ?_
  exact W.iret hx hb hr (fun t ht _ => ⟨⟨rfl, by rw [ht]; exact hP, hD⟩, hS.F ht⟩) hS.2.2 d_CA_addCourse_58
abbrev ro_PR_addRequirement : Room := { frames := 0, cells := 0, slots := 0, locals := 0 }
set_option maxHeartbeats 4000000 in
set_option maxRecDepth 100000 in
theorem m_PR_addRequirement (l : Launch) (D : va_G) (cI cJ cZ cP cS : ClassId) (h ad aa r0 : Nat) (x : Int32) (dm : Nat → Int32) (hr0 : r0 < 5) (sz : Nat) : Met l y_PR_addRequirement [Cond.code y_PR_addRequirement b_PR_addRequirement 2 (some .int)] ro_PR_addRequirement (va_Pc [.ref h, .int x] (fun U => U.heap.size = sz ∧ tb_ok U ∧ va_P D cls [(h, .inr (5, [.int (nI r0), .ref ad, .ref aa])), (ad, .inl (cI, 6, .inl dm))] U.heap ∧ va_K D cls (tyl cI cJ cZ cP cS) U ∧ va_D (fun _ => True) [(h, .inr (5, [.int (nI r0), .ref ad, .ref aa])), (ad, .inl (cI, 6, .inl dm))])) (zv (some (.int (nI (r0 + 1)))) D [(h, .inr (5, [.int (nI (r0 + 1)), .ref ad, .ref aa])), (ad, .inl (cI, 6, .inl (upd dm (r0 + 1) x)))] (va_A [(h, .inr (5, [.int (nI r0), .ref ad, .ref aa])), (ad, .inl (cI, 6, .inl dm))] sz)) 0 0 (va_A [(h, .inr (5, [.int (nI r0), .ref ad, .ref aa])), (ad, .inl (cI, 6, .inl dm))] sz) := by
  refine Met.ofW (cc := b_PR_addRequirement) (maxL := 2) (ret := (some .int)) (by decide +kernel) rfl ?_
  intro p e s m args below meth c s₁ B hml hv
  obtain ⟨rfl, hsz, hok, hP, hK, hD0⟩ := hv
  have hx := B.exec
  have hb := B.bytes
  have hr := B.returns
  have hown : s.vm.findClass "StudyAudit$Programme" = some m.cls := findClass_of_methodNamed B.named
  have hlocks := B.notSynchronized
  subst hsz
  have hD := hD0.self (sz := s.heap.size)
  generalize hAe : va_A [(h, .inr (5, [.int (nI r0), .ref ad, .ref aa])), (ad, .inl (cI, 6, .inl dm))] s.heap.size = A at hD ⊢
  have hA : ∀ q : Nat, s.heap.size ≤ q → A q := fun q h => by rw [← hAe]; exact Or.inr h
  have hS : va_S A s.heap s.heap [] := va_S.rf
  have hl := lv_entry ([.ref h, .int x]) (n := 2) (Nat.le_of_ble_eq_true rfl)
  rw [lg_entry_eq]
  generalize (lg_sl ([.ref h, .int x]) ++ List.replicate (2 - (lg_sl ([.ref h, .int x])).length) Slot.unset).toArray = ls at hl ⊢
  have hl : lv_has ls 2 [(0, .ref h), (1, .int x)] := hl
  refine lv_aload_n hx hb d_PR_addRequirement_0 rfl (lv_at hl 0 rfl) ?_
  refine lv_dup hx hb d_PR_addRequirement_1 rfl ?_
  refine va_get (D := D) (ci := 5) (v := .int (nI r0)) (C := R_PR) (T := F_PR) (N := 3) hx hb (tb_in hok in_PR) (fun w h => h) hown hK hP 0 rfl rfl 0 (by decide) (hok _ t_79 rfl _) (fun _ h9 => h9) rfl d_PR_addRequirement_2 ?_
  refine lv_iconst (v := 1) hx hb d_PR_addRequirement_5 (by decide) ?_
  refine lv_iadd hx hb d_PR_addRequirement_6 ?_
  rw [← nI_succ r0]
  refine va_put (D := D) (ci := 5) (v := .int (nI (r0 + 1))) (ty := .int) (C := R_PR) (T := F_PR) (N := 3) hx hb (tb_in hok in_PR) (fun w h => h) g_PR g_PR_ok n_PR hown hK hP hD hS 0 rfl rfl 0 (by decide) (hok _ t_79 rfl _) (fun _ h9 => h9) rfl (by decide +kernel) rfl rfl (Nat.le_of_ble_eq_true rfl) d_PR_addRequirement_7 (fun H locs hP hD hS => ?_)
  have hP : va_P D cls [(h, .inr (5, [.int (nI (r0 + 1)), .ref ad, .ref aa])), (ad, .inl (cI, 6, .inl dm))] H := hP
  have hD : va_D A [(h, .inr (5, [.int (nI (r0 + 1)), .ref ad, .ref aa])), (ad, .inl (cI, 6, .inl dm))] := hD
  refine lv_aload_n hx hb d_PR_addRequirement_10 rfl (lv_at hl 0 rfl) ?_
  refine va_get (D := D) (ci := 5) (v := .ref ad) (C := R_PR) (T := F_PR) (N := 3) hx hb (tb_in hok in_PR) (fun w h => h) hown hK hP 0 rfl rfl 1 (by decide) (hok _ t_82 rfl _) (fun _ h9 => h9) rfl d_PR_addRequirement_11 ?_
  refine lv_aload_n hx hb d_PR_addRequirement_14 rfl (lv_at hl 0 rfl) ?_
  refine va_get (D := D) (ci := 5) (v := .int (nI (r0 + 1))) (C := R_PR) (T := F_PR) (N := 3) hx hb (tb_in hok in_PR) (fun w h => h) hown hK hP 0 rfl rfl 0 (by decide) (hok _ t_79 rfl _) (fun _ h9 => h9) rfl d_PR_addRequirement_15 ?_
  refine lv_iload_n hx hb d_PR_addRequirement_18 rfl (lv_at hl 1 rfl) ?_
  refine va_iast hx hb hK hP hD hS 1 0 rfl rfl (vp_in_nI (by omega) (by omega)) d_PR_addRequirement_19 (fun H locs hP hD hS => ?_)
  rw [nI_clamp (show (r0 + 1) < 2 ^ 31 from by omega)] at hP hD
  have hP : va_P D cls [(h, .inr (5, [.int (nI (r0 + 1)), .ref ad, .ref aa])), (ad, .inl (cI, 6, .inl (upd dm (r0 + 1) x)))] H := hP
  have hD : va_D A [(h, .inr (5, [.int (nI (r0 + 1)), .ref ad, .ref aa])), (ad, .inl (cI, 6, .inl (upd dm (r0 + 1) x)))] := hD
  refine lv_aload_n hx hb d_PR_addRequirement_20 rfl (lv_at hl 0 rfl) ?_
  refine va_get (D := D) (ci := 5) (v := .int (nI (r0 + 1))) (C := R_PR) (T := F_PR) (N := 3) hx hb (tb_in hok in_PR) (fun w h => h) hown hK hP 0 rfl rfl 0 (by decide) (hok _ t_79 rfl _) (fun _ h9 => h9) rfl d_PR_addRequirement_21 ?_
  exact W.iret hx hb hr (fun t ht _ => ⟨⟨rfl, by rw [ht]; exact hP, hD⟩, hS.F ht⟩) hS.2.2 d_PR_addRequirement_24
abbrev ro_ST_addPetition : Room := { frames := 1, cells := 0, slots := 0, locals := 21 }
set_option maxHeartbeats 4000000 in
set_option maxRecDepth 100000 in
theorem m_ST_addPetition (l : Launch) (D : va_G) (cI cJ cZ cP cS : ClassId) (h aps asf aex : Nat) (pg np : Int32) (i : Nat) (y : Int32) (sf : Nat → Int32) (hi : i < 12) (sz : Nat) : Met l y_ST_addPetition [Cond.code y_ST_addPetition b_ST_addPetition 3 none] ro_ST_addPetition (va_Pc [.ref h, .int (nI i), .int y] (fun U => U.heap.size = sz ∧ tb_ok U ∧ va_P D cls [(h, .inr (7, [.int pg, .ref aps, .ref asf, .int np, .ref aex])), (asf, .inl (cI, 12, .inl sf))] U.heap ∧ va_K D cls (tyl cI cJ cZ cP cS) U ∧ va_D (fun _ => True) [(h, .inr (7, [.int pg, .ref aps, .ref asf, .int np, .ref aex])), (asf, .inl (cI, 12, .inl sf))])) (zv none D [(h, .inr (7, [.int pg, .ref aps, .ref asf, .int (np + 1), .ref aex])), (asf, .inl (cI, 12, .inl (upd sf i (sf i ||| (1 <<< (y &&& 31))))))] (va_A [(h, .inr (7, [.int pg, .ref aps, .ref asf, .int np, .ref aex])), (asf, .inl (cI, 12, .inl sf))] sz)) 0 0 (va_A [(h, .inr (7, [.int pg, .ref aps, .ref asf, .int np, .ref aex])), (asf, .inl (cI, 12, .inl sf))] sz) := by
  refine Met.ofW (cc := b_ST_addPetition) (maxL := 3) (ret := none) (by decide +kernel) rfl ?_
  intro p e s m args below meth c s₁ B hml hv
  obtain ⟨rfl, hsz, hok, hP, hK, hD0⟩ := hv
  have hx := B.exec
  have hb := B.bytes
  have hr := B.returns
  have hown : s.vm.findClass "StudyAudit$Student" = some m.cls := findClass_of_methodNamed B.named
  have hlocks := B.notSynchronized
  subst hsz
  have hD := hD0.self (sz := s.heap.size)
  generalize hAe : va_A [(h, .inr (7, [.int pg, .ref aps, .ref asf, .int np, .ref aex])), (asf, .inl (cI, 12, .inl sf))] s.heap.size = A at hD ⊢
  have hA : ∀ q : Nat, s.heap.size ≤ q → A q := fun q h => by rw [← hAe]; exact Or.inr h
  have hS : va_S A s.heap s.heap [] := va_S.rf
  have hl := lv_entry ([.ref h, .int (nI i), .int y]) (n := 3) (Nat.le_of_ble_eq_true rfl)
  rw [lg_entry_eq]
  generalize (lg_sl ([.ref h, .int (nI i), .int y]) ++ List.replicate (3 - (lg_sl ([.ref h, .int (nI i), .int y])).length) Slot.unset).toArray = ls at hl ⊢
  have hl : lv_has ls 3 [(0, .ref h), (1, .int (nI i)), (2, .int y)] := hl
  refine lv_aload_n hx hb d_ST_addPetition_0 rfl (lv_at hl 0 rfl) ?_
  refine va_get (D := D) (ci := 7) (v := .ref asf) (C := R_ST) (T := F_ST) (N := 5) hx hb (tb_in hok in_ST) (fun w h => h) hown hK hP 0 rfl rfl 2 (by decide) (hok _ t_108 rfl _) (fun _ h9 => h9) rfl d_ST_addPetition_1 ?_
  refine lv_iload_n hx hb d_ST_addPetition_4 rfl (lv_at hl 1 rfl) ?_
  refine lv_aload_n hx hb d_ST_addPetition_5 rfl (lv_at hl 0 rfl) ?_
  refine va_get (D := D) (ci := 7) (v := .ref asf) (C := R_ST) (T := F_ST) (N := 5) hx hb (tb_in hok in_ST) (fun w h => h) hown hK hP 0 rfl rfl 2 (by decide) (hok _ t_108 rfl _) (fun _ h9 => h9) rfl d_ST_addPetition_6 ?_
  refine lv_iload_n hx hb d_ST_addPetition_9 rfl (lv_at hl 1 rfl) ?_
  refine va_iald hx hb hK hP 1 0 rfl rfl (vp_in_nI (by omega) (by omega)) d_ST_addPetition_10 ?_
  rw [nI_clamp (show i < 2 ^ 31 from by omega)]
  refine lv_iload_n hx hb d_ST_addPetition_11 rfl (lv_at hl 2 rfl) ?_
  refine zc_read (va_runSN (Ts := []) (As := [.int (sf i), .int y]) (rest := [.int (nI i), .ref asf]) ⟨hx, hb, hml, hown, fun _ h => absurd h List.not_mem_nil⟩ (m_SA_with l (sf i) y) ⟨zc_CN 2 hok c_SA_with_w t_1 t_460 rfl rfl (by decide +kernel) ⟨Nat.le_of_ble_eq_true rfl, Nat.le_of_ble_eq_true rfl⟩, hok _ t_369 rfl _, trivial⟩ ⟨fun a U g mk q => by obtain ⟨q0, q1⟩ := q; exact ⟨q0, q1⟩, fun U hU hW => ⟨rfl, trivial⟩⟩ rfl rfl hl.1 rfl (lv_room (Nat.le_of_ble_eq_true rfl)) d_ST_addPetition_12 ⟨Nat.le_of_ble_eq_true rfl, Nat.le_of_ble_eq_true rfl⟩) ?_
  refine W.eq (g2 := F0 m 15 ls [.int ((sf i) ||| (1 <<< (y &&& 31))), .int (nI i), .ref asf]) rfl ?_
  refine va_iast hx hb hK hP hD hS 1 0 rfl rfl (vp_in_nI (by omega) (by omega)) d_ST_addPetition_15 (fun H locs hP hD hS => ?_)
  rw [nI_clamp (show i < 2 ^ 31 from by omega)] at hP hD
  have hP : va_P D cls [(h, .inr (7, [.int pg, .ref aps, .ref asf, .int np, .ref aex])), (asf, .inl (cI, 12, .inl (upd sf i ((sf i) ||| (1 <<< (y &&& 31))))))] H := hP
  have hD : va_D A [(h, .inr (7, [.int pg, .ref aps, .ref asf, .int np, .ref aex])), (asf, .inl (cI, 12, .inl (upd sf i ((sf i) ||| (1 <<< (y &&& 31))))))] := hD
  refine lv_aload_n hx hb d_ST_addPetition_16 rfl (lv_at hl 0 rfl) ?_
  refine lv_dup hx hb d_ST_addPetition_17 rfl ?_
  refine va_get (D := D) (ci := 7) (v := .int np) (C := R_ST) (T := F_ST) (N := 5) hx hb (tb_in hok in_ST) (fun w h => h) hown hK hP 0 rfl rfl 3 (by decide) (hok _ t_111 rfl _) (fun _ h9 => h9) rfl d_ST_addPetition_18 ?_
  refine lv_iconst (v := 1) hx hb d_ST_addPetition_21 (by decide) ?_
  refine lv_iadd hx hb d_ST_addPetition_22 ?_
  refine va_put (D := D) (ci := 7) (v := .int (np + (1 : Int32))) (ty := .int) (C := R_ST) (T := F_ST) (N := 5) hx hb (tb_in hok in_ST) (fun w h => h) g_ST g_ST_ok n_ST hown hK hP hD hS 0 rfl rfl 3 (by decide) (hok _ t_111 rfl _) (fun _ h9 => h9) rfl (by decide +kernel) rfl rfl (Nat.le_of_ble_eq_true rfl) d_ST_addPetition_23 (fun H locs hP hD hS => ?_)
  have hP : va_P D cls [(h, .inr (7, [.int pg, .ref aps, .ref asf, .int (np + (1 : Int32)), .ref aex])), (asf, .inl (cI, 12, .inl (upd sf i ((sf i) ||| (1 <<< (y &&& 31))))))] H := hP
  have hD : va_D A [(h, .inr (7, [.int pg, .ref aps, .ref asf, .int (np + (1 : Int32)), .ref aex])), (asf, .inl (cI, 12, .inl (upd sf i ((sf i) ||| (1 <<< (y &&& 31))))))] := hD
  exact W.vret hx hb hr (fun t ht _ => ⟨⟨rfl, by rw [ht]; exact hP, hD⟩, hS.F ht⟩) hS.2.2 d_ST_addPetition_26
abbrev ro_ST_addExemption : Room := { frames := 1, cells := 0, slots := 0, locals := 21 }
set_option maxHeartbeats 4000000 in
set_option maxRecDepth 100000 in
theorem m_ST_addExemption (l : Launch) (D : va_G) (cI cJ cZ cP cS : ClassId) (h aps asf aex : Nat) (pg np : Int32) (i : Nat) (y : Int32) (ex : Nat → Int32) (hi : i < 6) (sz : Nat) : Met l y_ST_addExemption [Cond.code y_ST_addExemption b_ST_addExemption 3 none] ro_ST_addExemption (va_Pc [.ref h, .int (nI i), .int y] (fun U => U.heap.size = sz ∧ tb_ok U ∧ va_P D cls [(h, .inr (7, [.int pg, .ref aps, .ref asf, .int np, .ref aex])), (aex, .inl (cI, 6, .inl ex))] U.heap ∧ va_K D cls (tyl cI cJ cZ cP cS) U ∧ va_D (fun _ => True) [(h, .inr (7, [.int pg, .ref aps, .ref asf, .int np, .ref aex])), (aex, .inl (cI, 6, .inl ex))])) (zv none D [(h, .inr (7, [.int pg, .ref aps, .ref asf, .int np, .ref aex])), (aex, .inl (cI, 6, .inl (upd ex i (zmin 6 (ex i + y)))))] (va_A [(h, .inr (7, [.int pg, .ref aps, .ref asf, .int np, .ref aex])), (aex, .inl (cI, 6, .inl ex))] sz)) 0 0 (va_A [(h, .inr (7, [.int pg, .ref aps, .ref asf, .int np, .ref aex])), (aex, .inl (cI, 6, .inl ex))] sz) := by
  refine Met.ofW (cc := b_ST_addExemption) (maxL := 3) (ret := none) (by decide +kernel) rfl ?_
  intro p e s m args below meth c s₁ B hml hv
  obtain ⟨rfl, hsz, hok, hP, hK, hD0⟩ := hv
  have hx := B.exec
  have hb := B.bytes
  have hr := B.returns
  have hown : s.vm.findClass "StudyAudit$Student" = some m.cls := findClass_of_methodNamed B.named
  have hlocks := B.notSynchronized
  subst hsz
  have hD := hD0.self (sz := s.heap.size)
  generalize hAe : va_A [(h, .inr (7, [.int pg, .ref aps, .ref asf, .int np, .ref aex])), (aex, .inl (cI, 6, .inl ex))] s.heap.size = A at hD ⊢
  have hA : ∀ q : Nat, s.heap.size ≤ q → A q := fun q h => by rw [← hAe]; exact Or.inr h
  have hS : va_S A s.heap s.heap [] := va_S.rf
  have hl := lv_entry ([.ref h, .int (nI i), .int y]) (n := 3) (Nat.le_of_ble_eq_true rfl)
  rw [lg_entry_eq]
  generalize (lg_sl ([.ref h, .int (nI i), .int y]) ++ List.replicate (3 - (lg_sl ([.ref h, .int (nI i), .int y])).length) Slot.unset).toArray = ls at hl ⊢
  have hl : lv_has ls 3 [(0, .ref h), (1, .int (nI i)), (2, .int y)] := hl
  refine lv_aload_n hx hb d_ST_addExemption_0 rfl (lv_at hl 0 rfl) ?_
  refine va_get (D := D) (ci := 7) (v := .ref aex) (C := R_ST) (T := F_ST) (N := 5) hx hb (tb_in hok in_ST) (fun w h => h) hown hK hP 0 rfl rfl 4 (by decide) (hok _ t_113 rfl _) (fun _ h9 => h9) rfl d_ST_addExemption_1 ?_
  refine lv_iload_n hx hb d_ST_addExemption_4 rfl (lv_at hl 1 rfl) ?_
  refine lv_bipush (v := 6) hx hb d_ST_addExemption_5 (by decide) ?_
  refine lv_aload_n hx hb d_ST_addExemption_7 rfl (lv_at hl 0 rfl) ?_
  refine va_get (D := D) (ci := 7) (v := .ref aex) (C := R_ST) (T := F_ST) (N := 5) hx hb (tb_in hok in_ST) (fun w h => h) hown hK hP 0 rfl rfl 4 (by decide) (hok _ t_113 rfl _) (fun _ h9 => h9) rfl d_ST_addExemption_8 ?_
  refine lv_iload_n hx hb d_ST_addExemption_11 rfl (lv_at hl 1 rfl) ?_
  refine va_iald hx hb hK hP 1 0 rfl rfl (vp_in_nI (by omega) (by omega)) d_ST_addExemption_12 ?_
  rw [nI_clamp (show i < 2 ^ 31 from by omega)]
  refine lv_iload_n hx hb d_ST_addExemption_13 rfl (lv_at hl 2 rfl) ?_
  refine lv_iadd hx hb d_ST_addExemption_14 ?_
  refine zc_read (va_runS (Ts := []) (As := [.int 6, .int ((ex i) + y)]) (rest := [.int (nI i), .ref aex]) ⟨hx, hb, hml, hown, fun _ h => absurd h List.not_mem_nil⟩ (m_MA_min l 6 ((ex i) + y)) ⟨zc_B 2 hok c_MA_min_w t_16 t_472 rfl rfl (by decide +kernel) ⟨Nat.le_of_ble_eq_true rfl, Nat.le_of_ble_eq_true rfl⟩, hok _ t_473 rfl _⟩ ⟨fun a U g mk q => by obtain ⟨q0, q1⟩ := q; exact ⟨q0, q1⟩, fun U hU hW => ⟨rfl, trivial⟩⟩ rfl rfl hl.1 rfl (lv_room (Nat.le_of_ble_eq_true rfl)) d_ST_addExemption_15 ⟨Nat.le_of_ble_eq_true rfl, Nat.le_of_ble_eq_true rfl⟩) ?_
  refine W.eq (g2 := F0 m 18 ls [.int (zmin 6 ((ex i) + y)), .int (nI i), .ref aex]) rfl ?_
  refine va_iast hx hb hK hP hD hS 1 0 rfl rfl (vp_in_nI (by omega) (by omega)) d_ST_addExemption_18 (fun H locs hP hD hS => ?_)
  rw [nI_clamp (show i < 2 ^ 31 from by omega)] at hP hD
  have hP : va_P D cls [(h, .inr (7, [.int pg, .ref aps, .ref asf, .int np, .ref aex])), (aex, .inl (cI, 6, .inl (upd ex i (zmin 6 ((ex i) + y)))))] H := hP
  have hD : va_D A [(h, .inr (7, [.int pg, .ref aps, .ref asf, .int np, .ref aex])), (aex, .inl (cI, 6, .inl (upd ex i (zmin 6 ((ex i) + y)))))] := hD
  exact W.vret hx hb hr (fun t ht _ => ⟨⟨rfl, by rw [ht]; exact hP, hD⟩, hS.F ht⟩) hS.2.2 d_ST_addExemption_19
abbrev ro_NE_clear : Room := { frames := 0, cells := 0, slots := 0, locals := 0 }
set_option maxHeartbeats 4000000 in
set_option maxRecDepth 100000 in
theorem m_NE_clear (l : Launch) (D : va_G) (cI cJ cZ cP cS : ClassId) (h af at0 ar ap ad av : Nat) (na : Int32) (pd : Int64) (sz : Nat) : Met l y_NE_clear [Cond.code y_NE_clear b_NE_clear 1 none] ro_NE_clear (va_Pc [.ref h] (fun U => U.heap.size = sz ∧ tb_ok U ∧ va_P D cls [(h, .inr (3, [.int na, .ref af, .ref at0, .ref ar, .long pd, .ref ap, .ref ad, .ref av]))] U.heap ∧ va_K D cls (tyl cI cJ cZ cP cS) U ∧ va_D (fun _ => True) [(h, .inr (3, [.int na, .ref af, .ref at0, .ref ar, .long pd, .ref ap, .ref ad, .ref av]))])) (zv none D [(h, .inr (3, [.int 0, .ref af, .ref at0, .ref ar, .long 0, .ref ap, .ref ad, .ref av]))] (va_A [(h, .inr (3, [.int na, .ref af, .ref at0, .ref ar, .long pd, .ref ap, .ref ad, .ref av]))] sz)) 0 0 (va_A [(h, .inr (3, [.int na, .ref af, .ref at0, .ref ar, .long pd, .ref ap, .ref ad, .ref av]))] sz) := by
  refine Met.ofW (cc := b_NE_clear) (maxL := 1) (ret := none) (by decide +kernel) rfl ?_
  intro p e s m args below meth c s₁ B hml hv
  obtain ⟨rfl, hsz, hok, hP, hK, hD0⟩ := hv
  have hx := B.exec
  have hb := B.bytes
  have hr := B.returns
  have hown : s.vm.findClass "StudyAudit$Network" = some m.cls := findClass_of_methodNamed B.named
  have hlocks := B.notSynchronized
  subst hsz
  have hD := hD0.self (sz := s.heap.size)
  generalize hAe : va_A [(h, .inr (3, [.int na, .ref af, .ref at0, .ref ar, .long pd, .ref ap, .ref ad, .ref av]))] s.heap.size = A at hD ⊢
  have hA : ∀ q : Nat, s.heap.size ≤ q → A q := fun q h => by rw [← hAe]; exact Or.inr h
  have hS : va_S A s.heap s.heap [] := va_S.rf
  have hl := lv_entry ([.ref h]) (n := 1) (Nat.le_of_ble_eq_true rfl)
  rw [lg_entry_eq]
  generalize (lg_sl ([.ref h]) ++ List.replicate (1 - (lg_sl ([.ref h])).length) Slot.unset).toArray = ls at hl ⊢
  have hl : lv_has ls 1 [(0, .ref h)] := hl
  refine lv_aload_n hx hb d_NE_clear_0 rfl (lv_at hl 0 rfl) ?_
  refine lv_iconst (v := 0) hx hb d_NE_clear_1 (by decide) ?_
  refine va_put (D := D) (ci := 3) (v := .int 0) (ty := .int) (C := R_NE) (T := F_NE) (N := 8) hx hb (tb_in hok in_NE) (fun w h => h) g_NE g_NE_ok n_NE hown hK hP hD hS 0 rfl rfl 0 (by decide) (hok _ t_156 rfl _) (fun _ h9 => h9) rfl (by decide +kernel) rfl rfl (Nat.le_of_ble_eq_true rfl) d_NE_clear_2 (fun H locs hP hD hS => ?_)
  have hP : va_P D cls [(h, .inr (3, [.int 0, .ref af, .ref at0, .ref ar, .long pd, .ref ap, .ref ad, .ref av]))] H := hP
  have hD : va_D A [(h, .inr (3, [.int 0, .ref af, .ref at0, .ref ar, .long pd, .ref ap, .ref ad, .ref av]))] := hD
  refine lv_aload_n hx hb d_NE_clear_5 rfl (lv_at hl 0 rfl) ?_
  refine lv_lconst (v := 0) hx hb d_NE_clear_6 (by decide) ?_
  refine va_put (D := D) (ci := 3) (v := .long 0) (ty := .long) (C := R_NE) (T := F_NE) (N := 8) hx hb (tb_in hok in_NE) (fun w h => h) g_NE g_NE_ok n_NE hown hK hP hD hS 0 rfl rfl 4 (by decide) (hok _ t_164 rfl _) (fun _ h9 => h9) rfl (by decide +kernel) rfl rfl (Nat.le_of_ble_eq_true rfl) d_NE_clear_7 (fun H locs hP hD hS => ?_)
  have hP : va_P D cls [(h, .inr (3, [.int 0, .ref af, .ref at0, .ref ar, .long 0, .ref ap, .ref ad, .ref av]))] H := hP
  have hD : va_D A [(h, .inr (3, [.int 0, .ref af, .ref at0, .ref ar, .long 0, .ref ap, .ref ad, .ref av]))] := hD
  exact W.vret hx hb hr (fun t ht _ => ⟨⟨rfl, by rw [ht]; exact hP, hD⟩, hS.F ht⟩) hS.2.2 d_NE_clear_10
abbrev ro_NE_addArc : Room := { frames := 0, cells := 0, slots := 0, locals := 0 }
set_option maxHeartbeats 4000000 in
set_option maxRecDepth 100000 in
theorem m_NE_addArc (l : Launch) (D : va_G) (cI cJ cZ cP cS : ClassId) (h af at0 ar ap ad av k : Nat) (pd : Int64) (x y z : Int32) (w : Int64) (fr to rm : Nat → Int32) (pr : Nat → Int64) (hk : k < 166) (sz : Nat) : Met l y_NE_addArc [Cond.code y_NE_addArc b_NE_addArc 6 none] ro_NE_addArc (va_Pc [.ref h, .int x, .int y, .int z, .long w] (fun U => U.heap.size = sz ∧ tb_ok U ∧ va_P D cls [(h, .inr (3, [.int (nI k), .ref af, .ref at0, .ref ar, .long pd, .ref ap, .ref ad, .ref av])), (af, .inl (cI, 166, .inl fr)), (at0, .inl (cI, 166, .inl to)), (ar, .inl (cI, 166, .inl rm)), (ap, .inl (cJ, 166, .inr (.inl pr)))] U.heap ∧ va_K D cls (tyl cI cJ cZ cP cS) U ∧ va_D (fun _ => True) [(h, .inr (3, [.int (nI k), .ref af, .ref at0, .ref ar, .long pd, .ref ap, .ref ad, .ref av])), (af, .inl (cI, 166, .inl fr)), (at0, .inl (cI, 166, .inl to)), (ar, .inl (cI, 166, .inl rm)), (ap, .inl (cJ, 166, .inr (.inl pr)))])) (zv none D [(h, .inr (3, [.int (nI k + 1), .ref af, .ref at0, .ref ar, .long pd, .ref ap, .ref ad, .ref av])), (af, .inl (cI, 166, .inl (upd fr k x))), (at0, .inl (cI, 166, .inl (upd to k y))), (ar, .inl (cI, 166, .inl (upd rm k z))), (ap, .inl (cJ, 166, .inr (.inl (vp_updL pr k w))))] (va_A [(h, .inr (3, [.int (nI k), .ref af, .ref at0, .ref ar, .long pd, .ref ap, .ref ad, .ref av])), (af, .inl (cI, 166, .inl fr)), (at0, .inl (cI, 166, .inl to)), (ar, .inl (cI, 166, .inl rm)), (ap, .inl (cJ, 166, .inr (.inl pr)))] sz)) 0 0 (va_A [(h, .inr (3, [.int (nI k), .ref af, .ref at0, .ref ar, .long pd, .ref ap, .ref ad, .ref av])), (af, .inl (cI, 166, .inl fr)), (at0, .inl (cI, 166, .inl to)), (ar, .inl (cI, 166, .inl rm)), (ap, .inl (cJ, 166, .inr (.inl pr)))] sz) := by
  refine Met.ofW (cc := b_NE_addArc) (maxL := 6) (ret := none) (by decide +kernel) rfl ?_
  intro p e s m args below meth c s₁ B hml hv
  obtain ⟨rfl, hsz, hok, hP, hK, hD0⟩ := hv
  have hx := B.exec
  have hb := B.bytes
  have hr := B.returns
  have hown : s.vm.findClass "StudyAudit$Network" = some m.cls := findClass_of_methodNamed B.named
  have hlocks := B.notSynchronized
  subst hsz
  have hD := hD0.self (sz := s.heap.size)
  generalize hAe : va_A [(h, .inr (3, [.int (nI k), .ref af, .ref at0, .ref ar, .long pd, .ref ap, .ref ad, .ref av])), (af, .inl (cI, 166, .inl fr)), (at0, .inl (cI, 166, .inl to)), (ar, .inl (cI, 166, .inl rm)), (ap, .inl (cJ, 166, .inr (.inl pr)))] s.heap.size = A at hD ⊢
  have hA : ∀ q : Nat, s.heap.size ≤ q → A q := fun q h => by rw [← hAe]; exact Or.inr h
  have hS : va_S A s.heap s.heap [] := va_S.rf
  have hl := lv_entry ([.ref h, .int x, .int y, .int z, .long w]) (n := 6) (Nat.le_of_ble_eq_true rfl)
  rw [lg_entry_eq]
  generalize (lg_sl ([.ref h, .int x, .int y, .int z, .long w]) ++ List.replicate (6 - (lg_sl ([.ref h, .int x, .int y, .int z, .long w])).length) Slot.unset).toArray = ls at hl ⊢
  have hl : lv_has ls 6 [(0, .ref h), (1, .int x), (2, .int y), (3, .int z), (4, .long w)] := hl
  refine lv_aload_n hx hb d_NE_addArc_0 rfl (lv_at hl 0 rfl) ?_
  refine va_get (D := D) (ci := 3) (v := .ref af) (C := R_NE) (T := F_NE) (N := 8) hx hb (tb_in hok in_NE) (fun w h => h) hown hK hP 0 rfl rfl 1 (by decide) (hok _ t_158 rfl _) (fun _ h9 => h9) rfl d_NE_addArc_1 ?_
  refine lv_aload_n hx hb d_NE_addArc_4 rfl (lv_at hl 0 rfl) ?_
  refine va_get (D := D) (ci := 3) (v := .int (nI k)) (C := R_NE) (T := F_NE) (N := 8) hx hb (tb_in hok in_NE) (fun w h => h) hown hK hP 0 rfl rfl 0 (by decide) (hok _ t_156 rfl _) (fun _ h9 => h9) rfl d_NE_addArc_5 ?_
  refine lv_iload_n hx hb d_NE_addArc_8 rfl (lv_at hl 1 rfl) ?_
  refine va_iast hx hb hK hP hD hS 1 0 rfl rfl (vp_in_nI (by omega) (by omega)) d_NE_addArc_9 (fun H locs hP hD hS => ?_)
  rw [nI_clamp (show k < 2 ^ 31 from by omega)] at hP hD
  have hP : va_P D cls [(h, .inr (3, [.int (nI k), .ref af, .ref at0, .ref ar, .long pd, .ref ap, .ref ad, .ref av])), (af, .inl (cI, 166, .inl (upd fr k x))), (at0, .inl (cI, 166, .inl to)), (ar, .inl (cI, 166, .inl rm)), (ap, .inl (cJ, 166, .inr (.inl pr)))] H := hP
  have hD : va_D A [(h, .inr (3, [.int (nI k), .ref af, .ref at0, .ref ar, .long pd, .ref ap, .ref ad, .ref av])), (af, .inl (cI, 166, .inl (upd fr k x))), (at0, .inl (cI, 166, .inl to)), (ar, .inl (cI, 166, .inl rm)), (ap, .inl (cJ, 166, .inr (.inl pr)))] := hD
  refine lv_aload_n hx hb d_NE_addArc_10 rfl (lv_at hl 0 rfl) ?_
  refine va_get (D := D) (ci := 3) (v := .ref at0) (C := R_NE) (T := F_NE) (N := 8) hx hb (tb_in hok in_NE) (fun w h => h) hown hK hP 0 rfl rfl 2 (by decide) (hok _ t_160 rfl _) (fun _ h9 => h9) rfl d_NE_addArc_11 ?_
  refine lv_aload_n hx hb d_NE_addArc_14 rfl (lv_at hl 0 rfl) ?_
  refine va_get (D := D) (ci := 3) (v := .int (nI k)) (C := R_NE) (T := F_NE) (N := 8) hx hb (tb_in hok in_NE) (fun w h => h) hown hK hP 0 rfl rfl 0 (by decide) (hok _ t_156 rfl _) (fun _ h9 => h9) rfl d_NE_addArc_15 ?_
  refine lv_iload_n hx hb d_NE_addArc_18 rfl (lv_at hl 2 rfl) ?_
  refine va_iast hx hb hK hP hD hS 2 0 rfl rfl (vp_in_nI (by omega) (by omega)) d_NE_addArc_19 (fun H locs hP hD hS => ?_)
  rw [nI_clamp (show k < 2 ^ 31 from by omega)] at hP hD
  have hP : va_P D cls [(h, .inr (3, [.int (nI k), .ref af, .ref at0, .ref ar, .long pd, .ref ap, .ref ad, .ref av])), (af, .inl (cI, 166, .inl (upd fr k x))), (at0, .inl (cI, 166, .inl (upd to k y))), (ar, .inl (cI, 166, .inl rm)), (ap, .inl (cJ, 166, .inr (.inl pr)))] H := hP
  have hD : va_D A [(h, .inr (3, [.int (nI k), .ref af, .ref at0, .ref ar, .long pd, .ref ap, .ref ad, .ref av])), (af, .inl (cI, 166, .inl (upd fr k x))), (at0, .inl (cI, 166, .inl (upd to k y))), (ar, .inl (cI, 166, .inl rm)), (ap, .inl (cJ, 166, .inr (.inl pr)))] := hD
  refine lv_aload_n hx hb d_NE_addArc_20 rfl (lv_at hl 0 rfl) ?_
  refine va_get (D := D) (ci := 3) (v := .ref ar) (C := R_NE) (T := F_NE) (N := 8) hx hb (tb_in hok in_NE) (fun w h => h) hown hK hP 0 rfl rfl 3 (by decide) (hok _ t_162 rfl _) (fun _ h9 => h9) rfl d_NE_addArc_21 ?_
  refine lv_aload_n hx hb d_NE_addArc_24 rfl (lv_at hl 0 rfl) ?_
  refine va_get (D := D) (ci := 3) (v := .int (nI k)) (C := R_NE) (T := F_NE) (N := 8) hx hb (tb_in hok in_NE) (fun w h => h) hown hK hP 0 rfl rfl 0 (by decide) (hok _ t_156 rfl _) (fun _ h9 => h9) rfl d_NE_addArc_25 ?_
  refine lv_iload_n hx hb d_NE_addArc_28 rfl (lv_at hl 3 rfl) ?_
  refine va_iast hx hb hK hP hD hS 3 0 rfl rfl (vp_in_nI (by omega) (by omega)) d_NE_addArc_29 (fun H locs hP hD hS => ?_)
  rw [nI_clamp (show k < 2 ^ 31 from by omega)] at hP hD
  have hP : va_P D cls [(h, .inr (3, [.int (nI k), .ref af, .ref at0, .ref ar, .long pd, .ref ap, .ref ad, .ref av])), (af, .inl (cI, 166, .inl (upd fr k x))), (at0, .inl (cI, 166, .inl (upd to k y))), (ar, .inl (cI, 166, .inl (upd rm k z))), (ap, .inl (cJ, 166, .inr (.inl pr)))] H := hP
  have hD : va_D A [(h, .inr (3, [.int (nI k), .ref af, .ref at0, .ref ar, .long pd, .ref ap, .ref ad, .ref av])), (af, .inl (cI, 166, .inl (upd fr k x))), (at0, .inl (cI, 166, .inl (upd to k y))), (ar, .inl (cI, 166, .inl (upd rm k z))), (ap, .inl (cJ, 166, .inr (.inl pr)))] := hD
  refine lv_aload_n hx hb d_NE_addArc_30 rfl (lv_at hl 0 rfl) ?_
  refine va_get (D := D) (ci := 3) (v := .ref ap) (C := R_NE) (T := F_NE) (N := 8) hx hb (tb_in hok in_NE) (fun w h => h) hown hK hP 0 rfl rfl 5 (by decide) (hok _ t_166 rfl _) (fun _ h9 => h9) rfl d_NE_addArc_31 ?_
  refine lv_aload_n hx hb d_NE_addArc_34 rfl (lv_at hl 0 rfl) ?_
  refine va_get (D := D) (ci := 3) (v := .int (nI k)) (C := R_NE) (T := F_NE) (N := 8) hx hb (tb_in hok in_NE) (fun w h => h) hown hK hP 0 rfl rfl 0 (by decide) (hok _ t_156 rfl _) (fun _ h9 => h9) rfl d_NE_addArc_35 ?_
  refine lv_lload hx hb d_NE_addArc_38 (lv_at hl 4 rfl) ?_
  refine va_last hx hb hK hP hD hS 4 1 rfl rfl (vp_in_nI (by omega) (by omega)) d_NE_addArc_40 (fun H locs hP hD hS => ?_)
  rw [nI_clamp (show k < 2 ^ 31 from by omega)] at hP hD
  have hP : va_P D cls [(h, .inr (3, [.int (nI k), .ref af, .ref at0, .ref ar, .long pd, .ref ap, .ref ad, .ref av])), (af, .inl (cI, 166, .inl (upd fr k x))), (at0, .inl (cI, 166, .inl (upd to k y))), (ar, .inl (cI, 166, .inl (upd rm k z))), (ap, .inl (cJ, 166, .inr (.inl (vp_updL pr k w))))] H := hP
  have hD : va_D A [(h, .inr (3, [.int (nI k), .ref af, .ref at0, .ref ar, .long pd, .ref ap, .ref ad, .ref av])), (af, .inl (cI, 166, .inl (upd fr k x))), (at0, .inl (cI, 166, .inl (upd to k y))), (ar, .inl (cI, 166, .inl (upd rm k z))), (ap, .inl (cJ, 166, .inr (.inl (vp_updL pr k w))))] := hD
  refine lv_aload_n hx hb d_NE_addArc_41 rfl (lv_at hl 0 rfl) ?_
  refine lv_dup hx hb d_NE_addArc_42 rfl ?_
  refine va_get (D := D) (ci := 3) (v := .int (nI k)) (C := R_NE) (T := F_NE) (N := 8) hx hb (tb_in hok in_NE) (fun w h => h) hown hK hP 0 rfl rfl 0 (by decide) (hok _ t_156 rfl _) (fun _ h9 => h9) rfl d_NE_addArc_43 ?_
  refine lv_iconst (v := 1) hx hb d_NE_addArc_46 (by decide) ?_
  refine lv_iadd hx hb d_NE_addArc_47 ?_
  refine va_put (D := D) (ci := 3) (v := .int ((nI k) + (1 : Int32))) (ty := .int) (C := R_NE) (T := F_NE) (N := 8) hx hb (tb_in hok in_NE) (fun w h => h) g_NE g_NE_ok n_NE hown hK hP hD hS 0 rfl rfl 0 (by decide) (hok _ t_156 rfl _) (fun _ h9 => h9) rfl (by decide +kernel) rfl rfl (Nat.le_of_ble_eq_true rfl) d_NE_addArc_48 (fun H locs hP hD hS => ?_)
  have hP : va_P D cls [(h, .inr (3, [.int ((nI k) + (1 : Int32)), .ref af, .ref at0, .ref ar, .long pd, .ref ap, .ref ad, .ref av])), (af, .inl (cI, 166, .inl (upd fr k x))), (at0, .inl (cI, 166, .inl (upd to k y))), (ar, .inl (cI, 166, .inl (upd rm k z))), (ap, .inl (cJ, 166, .inr (.inl (vp_updL pr k w))))] H := hP
  have hD : va_D A [(h, .inr (3, [.int ((nI k) + (1 : Int32)), .ref af, .ref at0, .ref ar, .long pd, .ref ap, .ref ad, .ref av])), (af, .inl (cI, 166, .inl (upd fr k x))), (at0, .inl (cI, 166, .inl (upd to k y))), (ar, .inl (cI, 166, .inl (upd rm k z))), (ap, .inl (cJ, 166, .inr (.inl (vp_updL pr k w))))] := hD
  exact W.vret hx hb hr (fun t ht _ => ⟨⟨rfl, by rw [ht]; exact hP, hD⟩, hS.F ht⟩) hS.2.2 d_NE_addArc_51
