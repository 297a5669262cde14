/-! the reference: substitute, supply, ways up the tree (rows by program) -/
def ytu (C : Nat) (x a d : Int32) : Int32 := if ¬ zb (yns x) = 0 ∨ ¬ zb (yng C a) = 0 ∨ ¬ zb (yng C d) = 0 then 1 else 0
abbrev ro_MO_substitute : Room := { frames := 1, cells := 0, slots := 0, locals := 21 }
set_option maxHeartbeats 4000000 in
set_option maxRecDepth 100000 in
theorem m_MO_substitute_bad (l : Launch) (D : va_G) (cI cJ cZ cP cS : ClassId) (h : Nat) (b : Nat → Nat) (th : Int32) (G C : Nat) (hs : Bool) (x a d : Int32) (t : Int32) (ht : ytu C x a d = t) (hn : ¬ t = 0) (sz : Nat) : Met l y_MO_substitute [Cond.code y_MO_substitute b_MO_substitute 6 (some .boolean)] ro_MO_substitute (va_Pc [.ref h, .int x, .int a, .int d] (fun U => U.heap.size = sz ∧ tb_ok U ∧ va_P D cls [(h, .inr (8, [.int th, .int (nI G), .ref (b 0), .ref (b 1), .int (nI C), .ref (b 2), .ref (b 3), .ref (b 4), .ref (b 5), .ref (b 6), .ref (b 7), .ref (b 8), .ref (b 9), .ref (b 10), .ref (b 11), .ref (b 12), .ref (b 13), .ref (b 14), .ref (b 15), .ref (b 16), .ref (b 17), .ref (b 18), .int (zb hs), .ref (b 19), .ref (b 20)]))] U.heap ∧ va_K D cls (tyl cI cJ cZ cP cS) U ∧ va_D (fun _ => True) [(h, .inr (8, [.int th, .int (nI G), .ref (b 0), .ref (b 1), .int (nI C), .ref (b 2), .ref (b 3), .ref (b 4), .ref (b 5), .ref (b 6), .ref (b 7), .ref (b 8), .ref (b 9), .ref (b 10), .ref (b 11), .ref (b 12), .ref (b 13), .ref (b 14), .ref (b 15), .ref (b 16), .ref (b 17), .ref (b 18), .int (zb hs), .ref (b 19), .ref (b 20)]))])) (zv (some (.int (zb false))) D [(h, .inr (8, [.int t, .int (nI G), .ref (b 0), .ref (b 1), .int (nI C), .ref (b 2), .ref (b 3), .ref (b 4), .ref (b 5), .ref (b 6), .ref (b 7), .ref (b 8), .ref (b 9), .ref (b 10), .ref (b 11), .ref (b 12), .ref (b 13), .ref (b 14), .ref (b 15), .ref (b 16), .ref (b 17), .ref (b 18), .int (zb hs), .ref (b 19), .ref (b 20)]))] (va_A [(h, .inr (8, [.int th, .int (nI G), .ref (b 0), .ref (b 1), .int (nI C), .ref (b 2), .ref (b 3), .ref (b 4), .ref (b 5), .ref (b 6), .ref (b 7), .ref (b 8), .ref (b 9), .ref (b 10), .ref (b 11), .ref (b 12), .ref (b 13), .ref (b 14), .ref (b 15), .ref (b 16), .ref (b 17), .ref (b 18), .int (zb hs), .ref (b 19), .ref (b 20)]))] sz)) 0 0 (va_A [(h, .inr (8, [.int th, .int (nI G), .ref (b 0), .ref (b 1), .int (nI C), .ref (b 2), .ref (b 3), .ref (b 4), .ref (b 5), .ref (b 6), .ref (b 7), .ref (b 8), .ref (b 9), .ref (b 10), .ref (b 11), .ref (b 12), .ref (b 13), .ref (b 14), .ref (b 15), .ref (b 16), .ref (b 17), .ref (b 18), .int (zb hs), .ref (b 19), .ref (b 20)]))] sz) := by
  refine Met.ofW (cc := b_MO_substitute) (maxL := 6) (ret := (some .boolean)) (by decide +kernel) rfl ?_
  intro p e s m args below meth c s₁ B hml hv
  obtain ⟨rfl, hsz, hok, hP, hK, hD0⟩ := hv
  have hx := B.exec
  have hb := B.bytes
  have hr := B.returns
  have hown : s.vm.findClass "StudyAuditModel" = some m.cls := findClass_of_methodNamed B.named
  have hlocks := B.notSynchronized
  subst hsz
  have hD := hD0.self (sz := s.heap.size)
  generalize hAe : va_A [(h, .inr (8, [.int th, .int (nI G), .ref (b 0), .ref (b 1), .int (nI C), .ref (b 2), .ref (b 3), .ref (b 4), .ref (b 5), .ref (b 6), .ref (b 7), .ref (b 8), .ref (b 9), .ref (b 10), .ref (b 11), .ref (b 12), .ref (b 13), .ref (b 14), .ref (b 15), .ref (b 16), .ref (b 17), .ref (b 18), .int (zb hs), .ref (b 19), .ref (b 20)]))] s.heap.size = A at hD ⊢
  have hA : ∀ q : Nat, s.heap.size ≤ q → A q := fun q h => by rw [← hAe]; exact Or.inr h
  have hS : va_S A s.heap s.heap [] := va_S.rf
  have hl := lv_entry ([.ref h, .int x, .int a, .int d]) (n := 6) (Nat.le_of_ble_eq_true rfl)
  rw [lg_entry_eq]
  generalize (lg_sl ([.ref h, .int x, .int a, .int d]) ++ List.replicate (6 - (lg_sl ([.ref h, .int x, .int a, .int d])).length) Slot.unset).toArray = ls at hl ⊢
  have hl : lv_has ls 6 [(0, .ref h), (1, .int x), (2, .int a), (3, .int d)] := hl
  refine lv_aload_n hx hb d_MO_substitute_0 rfl (lv_at hl 0 rfl) ?_
  refine lv_iload_n hx hb d_MO_substitute_1 rfl (lv_at hl 1 rfl) ?_
  refine zc_read (va_runS (Ts := []) (As := [.int x]) (rest := [.ref h]) ⟨hx, hb, hml, hown, fun _ h => absurd h List.not_mem_nil⟩ (m_MO_noStudent l x) ⟨zc_B 1 hok c_MO_noStudent_w t_10 t_829 rfl rfl (by decide +kernel) ⟨Nat.le_of_ble_eq_true rfl, Nat.le_of_ble_eq_true rfl⟩, hok _ t_830 rfl _⟩ ⟨fun a U g mk q => by obtain ⟨q0, q2⟩ := q; exact ⟨q0, q2.call g mk a⟩, fun U hU hW => ⟨rfl, hok.warm hW⟩⟩ rfl rfl hl.1 rfl (lv_room (Nat.le_of_ble_eq_true rfl)) d_MO_substitute_2 ⟨Nat.le_of_ble_eq_true rfl, Nat.le_of_ble_eq_true rfl⟩) ?_
  refine W.eq (g2 := F0 m 5 ls [.int (zb (yns x)), .ref h]) rfl ?_
  refine lv_if_ne (tgt := 24) hx hb d_MO_substitute_5 (by decide) (fun h5 => ?_) (fun h5 => ?_)
  · refine lv_iconst (v := 1) hx hb d_MO_substitute_24 (by decide) ?_
    refine lv_goto (tgt := 29) hx hb d_MO_substitute_25 (by decide) ?_
    have e9 : ytu C x a d = 1 := by first | (simp [ytu, h5]; done)
    obtain rfl : t = 1 := ht.symm.trans e9
    refine va_put (D := D) (ci := 8) (v := .int 1) (ty := .int) (C := R_MO) (T := F_MO) (N := 25) hx hb (tb_in hok in_MO) (fun w h => h) g_MO g_MO_ok n_MO hown hK hP hD hS 0 rfl rfl 0 (by decide) (hok _ t_705 rfl _) (fun _ h9 => h9) rfl (by decide +kernel) rfl rfl (Nat.le_of_ble_eq_true rfl) d_MO_substitute_29 (fun H locs hP hD hS => ?_)
    have hP : va_P D cls [(h, .inr (8, [.int 1, .int (nI G), .ref (b 0), .ref (b 1), .int (nI C), .ref (b 2), .ref (b 3), .ref (b 4), .ref (b 5), .ref (b 6), .ref (b 7), .ref (b 8), .ref (b 9), .ref (b 10), .ref (b 11), .ref (b 12), .ref (b 13), .ref (b 14), .ref (b 15), .ref (b 16), .ref (b 17), .ref (b 18), .int (zb hs), .ref (b 19), .ref (b 20)]))] H := hP
    have hD : va_D A [(h, .inr (8, [.int 1, .int (nI G), .ref (b 0), .ref (b 1), .int (nI C), .ref (b 2), .ref (b 3), .ref (b 4), .ref (b 5), .ref (b 6), .ref (b 7), .ref (b 8), .ref (b 9), .ref (b 10), .ref (b 11), .ref (b 12), .ref (b 13), .ref (b 14), .ref (b 15), .ref (b 16), .ref (b 17), .ref (b 18), .int (zb hs), .ref (b 19), .ref (b 20)]))] := hD
    refine lv_aload_n hx hb d_MO_substitute_32 rfl (lv_at hl 0 rfl) ?_
    refine va_get (D := D) (ci := 8) (v := .int 1) (C := R_MO) (T := F_MO) (N := 25) hx hb (tb_in hok in_MO) (fun w h => h) hown hK hP 0 rfl rfl 0 (by decide) (hok _ t_705 rfl _) (fun _ h9 => h9) rfl d_MO_substitute_33 ?_
    refine lv_if_gt (tgt := 44) hx hb d_MO_substitute_36 (by decide) (fun h36 => ?_) (fun h36 => absurd (show (0 : Int32) < 1 by decide) h36)
    refine lv_iconst (v := 0) hx hb d_MO_substitute_44 (by decide) ?_
    exact W.zret hx hb hr (by decide) (fun t ht _ => ⟨⟨rfl, by rw [ht]; exact hP, hD⟩, hS.F ht⟩) hS.2.2 d_MO_substitute_45
  · refine lv_aload_n hx hb d_MO_substitute_8 rfl (lv_at hl 0 rfl) ?_
    refine lv_iload_n hx hb d_MO_substitute_9 rfl (lv_at hl 2 rfl) ?_
    refine zc_read (va_runV (Ts := []) (As := [.int a]) (rest := [.ref h]) ⟨hx, hb, hml, hown, fun _ h => absurd h List.not_mem_nil⟩ (m_MO_noCourse l D cI cJ cZ cP cS h b th G C hs a) ⟨zc_B 1 hok c_MO_noCourse_w t_10 t_802 rfl rfl (by decide +kernel) ⟨Nat.le_of_ble_eq_true rfl, Nat.le_of_ble_eq_true rfl⟩, hok _ t_804 rfl _, hok _ s_20 rfl _⟩ ⟨fun a U g mk q => by obtain ⟨q0, q2, qP, qK⟩ := q; exact ⟨q0, q2.call g mk a, qP, va_K.moved (u := U) (U := U.calling g mk a) (Vm.Alike.refl U.vm) qK⟩, va_recv hK hP (ci := 8) (q0 := 0) rfl rfl, fun U hU hW => ⟨rfl, hok.warm hW, by rw [hU]; exact hP.sub [0] rfl, va_K.moved hW.alike hK⟩⟩ rfl rfl hl.1 rfl (lv_room (Nat.le_of_ble_eq_true rfl)) d_MO_substitute_10 ⟨Nat.le_of_ble_eq_true rfl, Nat.le_of_ble_eq_true rfl⟩) ?_
    refine W.eq (g2 := F0 m 13 ls [.int (zb (yng C a)), .ref h]) rfl ?_
    refine lv_if_ne (tgt := 24) hx hb d_MO_substitute_13 (by decide) (fun h13 => ?_) (fun h13 => ?_)
    · refine lv_iconst (v := 1) hx hb d_MO_substitute_24 (by decide) ?_
      refine lv_goto (tgt := 29) hx hb d_MO_substitute_25 (by decide) ?_
      have e9 : ytu C x a d = 1 := by first | (simp [ytu, h5, h13]; done)
      obtain rfl : t = 1 := ht.symm.trans e9
      refine va_put (D := D) (ci := 8) (v := .int 1) (ty := .int) (C := R_MO) (T := F_MO) (N := 25) hx hb (tb_in hok in_MO) (fun w h => h) g_MO g_MO_ok n_MO hown hK hP hD hS 0 rfl rfl 0 (by decide) (hok _ t_705 rfl _) (fun _ h9 => h9) rfl (by decide +kernel) rfl rfl (Nat.le_of_ble_eq_true rfl) d_MO_substitute_29 (fun H locs hP hD hS => ?_)
      have hP : va_P D cls [(h, .inr (8, [.int 1, .int (nI G), .ref (b 0), .ref (b 1), .int (nI C), .ref (b 2), .ref (b 3), .ref (b 4), .ref (b 5), .ref (b 6), .ref (b 7), .ref (b 8), .ref (b 9), .ref (b 10), .ref (b 11), .ref (b 12), .ref (b 13), .ref (b 14), .ref (b 15), .ref (b 16), .ref (b 17), .ref (b 18), .int (zb hs), .ref (b 19), .ref (b 20)]))] H := hP
      have hD : va_D A [(h, .inr (8, [.int 1, .int (nI G), .ref (b 0), .ref (b 1), .int (nI C), .ref (b 2), .ref (b 3), .ref (b 4), .ref (b 5), .ref (b 6), .ref (b 7), .ref (b 8), .ref (b 9), .ref (b 10), .ref (b 11), .ref (b 12), .ref (b 13), .ref (b 14), .ref (b 15), .ref (b 16), .ref (b 17), .ref (b 18), .int (zb hs), .ref (b 19), .ref (b 20)]))] := hD
      refine lv_aload_n hx hb d_MO_substitute_32 rfl (lv_at hl 0 rfl) ?_
      refine va_get (D := D) (ci := 8) (v := .int 1) (C := R_MO) (T := F_MO) (N := 25) hx hb (tb_in hok in_MO) (fun w h => h) hown hK hP 0 rfl rfl 0 (by decide) (hok _ t_705 rfl _) (fun _ h9 => h9) rfl d_MO_substitute_33 ?_
      refine lv_if_gt (tgt := 44) hx hb d_MO_substitute_36 (by decide) (fun h36 => ?_) (fun h36 => absurd (show (0 : Int32) < 1 by decide) h36)
      refine lv_iconst (v := 0) hx hb d_MO_substitute_44 (by decide) ?_
      exact W.zret hx hb hr (by decide) (fun t ht _ => ⟨⟨rfl, by rw [ht]; exact hP, hD⟩, hS.F ht⟩) hS.2.2 d_MO_substitute_45
    · refine lv_aload_n hx hb d_MO_substitute_16 rfl (lv_at hl 0 rfl) ?_
      refine lv_iload_n hx hb d_MO_substitute_17 rfl (lv_at hl 3 rfl) ?_
      refine zc_read (va_runV (Ts := []) (As := [.int d]) (rest := [.ref h]) ⟨hx, hb, hml, hown, fun _ h => absurd h List.not_mem_nil⟩ (m_MO_noCourse l D cI cJ cZ cP cS h b th G C hs d) ⟨zc_B 1 hok c_MO_noCourse_w t_10 t_802 rfl rfl (by decide +kernel) ⟨Nat.le_of_ble_eq_true rfl, Nat.le_of_ble_eq_true rfl⟩, hok _ t_804 rfl _, hok _ s_20 rfl _⟩ ⟨fun a U g mk q => by obtain ⟨q0, q2, qP, qK⟩ := q; exact ⟨q0, q2.call g mk a, qP, va_K.moved (u := U) (U := U.calling g mk a) (Vm.Alike.refl U.vm) qK⟩, va_recv hK hP (ci := 8) (q0 := 0) rfl rfl, fun U hU hW => ⟨rfl, hok.warm hW, by rw [hU]; exact hP.sub [0] rfl, va_K.moved hW.alike hK⟩⟩ rfl rfl hl.1 rfl (lv_room (Nat.le_of_ble_eq_true rfl)) d_MO_substitute_18 ⟨Nat.le_of_ble_eq_true rfl, Nat.le_of_ble_eq_true rfl⟩) ?_
      refine W.eq (g2 := F0 m 21 ls [.int (zb (yng C d)), .ref h]) rfl ?_
      refine lv_if_eq (tgt := 28) hx hb d_MO_substitute_21 (by decide) (fun h21 => ?_) (fun h21 => ?_)
      · refine lv_iconst (v := 0) hx hb d_MO_substitute_28 (by decide) ?_
        have e9 : ytu C x a d = 0 := by first | (simp [ytu, h5, h13, h21]; done)
        exact absurd (ht.symm.trans e9) hn
      · refine lv_iconst (v := 1) hx hb d_MO_substitute_24 (by decide) ?_
        refine lv_goto (tgt := 29) hx hb d_MO_substitute_25 (by decide) ?_
        have e9 : ytu C x a d = 1 := by first | (simp [ytu, h5, h13, h21]; done)
        obtain rfl : t = 1 := ht.symm.trans e9
        refine va_put (D := D) (ci := 8) (v := .int 1) (ty := .int) (C := R_MO) (T := F_MO) (N := 25) hx hb (tb_in hok in_MO) (fun w h => h) g_MO g_MO_ok n_MO hown hK hP hD hS 0 rfl rfl 0 (by decide) (hok _ t_705 rfl _) (fun _ h9 => h9) rfl (by decide +kernel) rfl rfl (Nat.le_of_ble_eq_true rfl) d_MO_substitute_29 (fun H locs hP hD hS => ?_)
        have hP : va_P D cls [(h, .inr (8, [.int 1, .int (nI G), .ref (b 0), .ref (b 1), .int (nI C), .ref (b 2), .ref (b 3), .ref (b 4), .ref (b 5), .ref (b 6), .ref (b 7), .ref (b 8), .ref (b 9), .ref (b 10), .ref (b 11), .ref (b 12), .ref (b 13), .ref (b 14), .ref (b 15), .ref (b 16), .ref (b 17), .ref (b 18), .int (zb hs), .ref (b 19), .ref (b 20)]))] H := hP
        have hD : va_D A [(h, .inr (8, [.int 1, .int (nI G), .ref (b 0), .ref (b 1), .int (nI C), .ref (b 2), .ref (b 3), .ref (b 4), .ref (b 5), .ref (b 6), .ref (b 7), .ref (b 8), .ref (b 9), .ref (b 10), .ref (b 11), .ref (b 12), .ref (b 13), .ref (b 14), .ref (b 15), .ref (b 16), .ref (b 17), .ref (b 18), .int (zb hs), .ref (b 19), .ref (b 20)]))] := hD
        refine lv_aload_n hx hb d_MO_substitute_32 rfl (lv_at hl 0 rfl) ?_
        refine va_get (D := D) (ci := 8) (v := .int 1) (C := R_MO) (T := F_MO) (N := 25) hx hb (tb_in hok in_MO) (fun w h => h) hown hK hP 0 rfl rfl 0 (by decide) (hok _ t_705 rfl _) (fun _ h9 => h9) rfl d_MO_substitute_33 ?_
        refine lv_if_gt (tgt := 44) hx hb d_MO_substitute_36 (by decide) (fun h36 => ?_) (fun h36 => absurd (show (0 : Int32) < 1 by decide) h36)
        refine lv_iconst (v := 0) hx hb d_MO_substitute_44 (by decide) ?_
        exact W.zret hx hb hr (by decide) (fun t ht _ => ⟨⟨rfl, by rw [ht]; exact hP, hD⟩, hS.F ht⟩) hS.2.2 d_MO_substitute_45
set_option maxHeartbeats 4000000 in
set_option maxRecDepth 100000 in
theorem m_MO_substitute_same (l : Launch) (D : va_G) (cI cJ cZ cP cS : ClassId) (h : Nat) (b : Nat → Nat) (th : Int32) (G C : Nat) (hs : Bool) (s0 c0 d0 : Nat) (hcd : c0 = d0) (ht : ytu C (nI s0) (nI c0) (nI d0) = 0) (sz : Nat) : Met l y_MO_substitute [Cond.code y_MO_substitute b_MO_substitute 6 (some .boolean)] ro_MO_substitute (va_Pc [.ref h, .int (nI s0), .int (nI c0), .int (nI d0)] (fun U => U.heap.size = sz ∧ tb_ok U ∧ va_P D cls [(h, .inr (8, [.int th, .int (nI G), .ref (b 0), .ref (b 1), .int (nI C), .ref (b 2), .ref (b 3), .ref (b 4), .ref (b 5), .ref (b 6), .ref (b 7), .ref (b 8), .ref (b 9), .ref (b 10), .ref (b 11), .ref (b 12), .ref (b 13), .ref (b 14), .ref (b 15), .ref (b 16), .ref (b 17), .ref (b 18), .int (zb hs), .ref (b 19), .ref (b 20)]))] U.heap ∧ va_K D cls (tyl cI cJ cZ cP cS) U ∧ va_D (fun _ => True) [(h, .inr (8, [.int th, .int (nI G), .ref (b 0), .ref (b 1), .int (nI C), .ref (b 2), .ref (b 3), .ref (b 4), .ref (b 5), .ref (b 6), .ref (b 7), .ref (b 8), .ref (b 9), .ref (b 10), .ref (b 11), .ref (b 12), .ref (b 13), .ref (b 14), .ref (b 15), .ref (b 16), .ref (b 17), .ref (b 18), .int (zb hs), .ref (b 19), .ref (b 20)]))])) (zv (some (.int (zb false))) D [(h, .inr (8, [.int 0, .int (nI G), .ref (b 0), .ref (b 1), .int (nI C), .ref (b 2), .ref (b 3), .ref (b 4), .ref (b 5), .ref (b 6), .ref (b 7), .ref (b 8), .ref (b 9), .ref (b 10), .ref (b 11), .ref (b 12), .ref (b 13), .ref (b 14), .ref (b 15), .ref (b 16), .ref (b 17), .ref (b 18), .int (zb hs), .ref (b 19), .ref (b 20)]))] (va_A [(h, .inr (8, [.int th, .int (nI G), .ref (b 0), .ref (b 1), .int (nI C), .ref (b 2), .ref (b 3), .ref (b 4), .ref (b 5), .ref (b 6), .ref (b 7), .ref (b 8), .ref (b 9), .ref (b 10), .ref (b 11), .ref (b 12), .ref (b 13), .ref (b 14), .ref (b 15), .ref (b 16), .ref (b 17), .ref (b 18), .int (zb hs), .ref (b 19), .ref (b 20)]))] sz)) 0 0 (va_A [(h, .inr (8, [.int th, .int (nI G), .ref (b 0), .ref (b 1), .int (nI C), .ref (b 2), .ref (b 3), .ref (b 4), .ref (b 5), .ref (b 6), .ref (b 7), .ref (b 8), .ref (b 9), .ref (b 10), .ref (b 11), .ref (b 12), .ref (b 13), .ref (b 14), .ref (b 15), .ref (b 16), .ref (b 17), .ref (b 18), .int (zb hs), .ref (b 19), .ref (b 20)]))] sz) := by
  refine Met.ofW (cc := b_MO_substitute) (maxL := 6) (ret := (some .boolean)) (by decide +kernel) rfl ?_
  intro p e s m args below meth c s₁ B hml hv
  obtain ⟨rfl, hsz, hok, hP, hK, hD0⟩ := hv
  have hx := B.exec
  have hb := B.bytes
  have hr := B.returns
  have hown : s.vm.findClass "StudyAuditModel" = some m.cls := findClass_of_methodNamed B.named
  have hlocks := B.notSynchronized
  subst hsz
  have hD := hD0.self (sz := s.heap.size)
  generalize hAe : va_A [(h, .inr (8, [.int th, .int (nI G), .ref (b 0), .ref (b 1), .int (nI C), .ref (b 2), .ref (b 3), .ref (b 4), .ref (b 5), .ref (b 6), .ref (b 7), .ref (b 8), .ref (b 9), .ref (b 10), .ref (b 11), .ref (b 12), .ref (b 13), .ref (b 14), .ref (b 15), .ref (b 16), .ref (b 17), .ref (b 18), .int (zb hs), .ref (b 19), .ref (b 20)]))] s.heap.size = A at hD ⊢
  have hA : ∀ q : Nat, s.heap.size ≤ q → A q := fun q h => by rw [← hAe]; exact Or.inr h
  have hS : va_S A s.heap s.heap [] := va_S.rf
  have hl := lv_entry ([.ref h, .int (nI s0), .int (nI c0), .int (nI d0)]) (n := 6) (Nat.le_of_ble_eq_true rfl)
  rw [lg_entry_eq]
  generalize (lg_sl ([.ref h, .int (nI s0), .int (nI c0), .int (nI d0)]) ++ List.replicate (6 - (lg_sl ([.ref h, .int (nI s0), .int (nI c0), .int (nI d0)])).length) Slot.unset).toArray = ls at hl ⊢
  have hl : lv_has ls 6 [(0, .ref h), (1, .int (nI s0)), (2, .int (nI c0)), (3, .int (nI d0))] := hl
  refine lv_aload_n hx hb d_MO_substitute_0 rfl (lv_at hl 0 rfl) ?_
  refine lv_iload_n hx hb d_MO_substitute_1 rfl (lv_at hl 1 rfl) ?_
  refine zc_read (va_runS (Ts := []) (As := [.int (nI s0)]) (rest := [.ref h]) ⟨hx, hb, hml, hown, fun _ h => absurd h List.not_mem_nil⟩ (m_MO_noStudent l (nI s0)) ⟨zc_B 1 hok c_MO_noStudent_w t_10 t_829 rfl rfl (by decide +kernel) ⟨Nat.le_of_ble_eq_true rfl, Nat.le_of_ble_eq_true rfl⟩, hok _ t_830 rfl _⟩ ⟨fun a U g mk q => by obtain ⟨q0, q2⟩ := q; exact ⟨q0, q2.call g mk a⟩, fun U hU hW => ⟨rfl, hok.warm hW⟩⟩ rfl rfl hl.1 rfl (lv_room (Nat.le_of_ble_eq_true rfl)) d_MO_substitute_2 ⟨Nat.le_of_ble_eq_true rfl, Nat.le_of_ble_eq_true rfl⟩) ?_
  refine W.eq (g2 := F0 m 5 ls [.int (zb (yns (nI s0))), .ref h]) rfl ?_
  refine lv_if_ne (tgt := 24) hx hb d_MO_substitute_5 (by decide) (fun h5 => ?_) (fun h5 => ?_)
  · refine lv_iconst (v := 1) hx hb d_MO_substitute_24 (by decide) ?_
    refine lv_goto (tgt := 29) hx hb d_MO_substitute_25 (by decide) ?_
    have e9 : ytu C (nI s0) (nI c0) (nI d0) = 1 := by first | (simp [ytu, h5]; done)
    exact absurd (ht.symm.trans e9) (by decide)
  · refine lv_aload_n hx hb d_MO_substitute_8 rfl (lv_at hl 0 rfl) ?_
    refine lv_iload_n hx hb d_MO_substitute_9 rfl (lv_at hl 2 rfl) ?_
    refine zc_read (va_runV (Ts := []) (As := [.int (nI c0)]) (rest := [.ref h]) ⟨hx, hb, hml, hown, fun _ h => absurd h List.not_mem_nil⟩ (m_MO_noCourse l D cI cJ cZ cP cS h b th G C hs (nI c0)) ⟨zc_B 1 hok c_MO_noCourse_w t_10 t_802 rfl rfl (by decide +kernel) ⟨Nat.le_of_ble_eq_true rfl, Nat.le_of_ble_eq_true rfl⟩, hok _ t_804 rfl _, hok _ s_20 rfl _⟩ ⟨fun a U g mk q => by obtain ⟨q0, q2, qP, qK⟩ := q; exact ⟨q0, q2.call g mk a, qP, va_K.moved (u := U) (U := U.calling g mk a) (Vm.Alike.refl U.vm) qK⟩, va_recv hK hP (ci := 8) (q0 := 0) rfl rfl, fun U hU hW => ⟨rfl, hok.warm hW, by rw [hU]; exact hP.sub [0] rfl, va_K.moved hW.alike hK⟩⟩ rfl rfl hl.1 rfl (lv_room (Nat.le_of_ble_eq_true rfl)) d_MO_substitute_10 ⟨Nat.le_of_ble_eq_true rfl, Nat.le_of_ble_eq_true rfl⟩) ?_
    refine W.eq (g2 := F0 m 13 ls [.int (zb (yng C (nI c0))), .ref h]) rfl ?_
    refine lv_if_ne (tgt := 24) hx hb d_MO_substitute_13 (by decide) (fun h13 => ?_) (fun h13 => ?_)
    · refine lv_iconst (v := 1) hx hb d_MO_substitute_24 (by decide) ?_
      refine lv_goto (tgt := 29) hx hb d_MO_substitute_25 (by decide) ?_
      have e9 : ytu C (nI s0) (nI c0) (nI d0) = 1 := by first | (simp [ytu, h5, h13]; done)
      exact absurd (ht.symm.trans e9) (by decide)
    · refine lv_aload_n hx hb d_MO_substitute_16 rfl (lv_at hl 0 rfl) ?_
      refine lv_iload_n hx hb d_MO_substitute_17 rfl (lv_at hl 3 rfl) ?_
      refine zc_read (va_runV (Ts := []) (As := [.int (nI d0)]) (rest := [.ref h]) ⟨hx, hb, hml, hown, fun _ h => absurd h List.not_mem_nil⟩ (m_MO_noCourse l D cI cJ cZ cP cS h b th G C hs (nI d0)) ⟨zc_B 1 hok c_MO_noCourse_w t_10 t_802 rfl rfl (by decide +kernel) ⟨Nat.le_of_ble_eq_true rfl, Nat.le_of_ble_eq_true rfl⟩, hok _ t_804 rfl _, hok _ s_20 rfl _⟩ ⟨fun a U g mk q => by obtain ⟨q0, q2, qP, qK⟩ := q; exact ⟨q0, q2.call g mk a, qP, va_K.moved (u := U) (U := U.calling g mk a) (Vm.Alike.refl U.vm) qK⟩, va_recv hK hP (ci := 8) (q0 := 0) rfl rfl, fun U hU hW => ⟨rfl, hok.warm hW, by rw [hU]; exact hP.sub [0] rfl, va_K.moved hW.alike hK⟩⟩ rfl rfl hl.1 rfl (lv_room (Nat.le_of_ble_eq_true rfl)) d_MO_substitute_18 ⟨Nat.le_of_ble_eq_true rfl, Nat.le_of_ble_eq_true rfl⟩) ?_
      refine W.eq (g2 := F0 m 21 ls [.int (zb (yng C (nI d0))), .ref h]) rfl ?_
      refine lv_if_eq (tgt := 28) hx hb d_MO_substitute_21 (by decide) (fun h21 => ?_) (fun h21 => ?_)
      · refine lv_iconst (v := 0) hx hb d_MO_substitute_28 (by decide) ?_
        have e9 : ytu C (nI s0) (nI c0) (nI d0) = 0 := by first | (simp [ytu, h5, h13, h21]; done)
        refine va_put (D := D) (ci := 8) (v := .int 0) (ty := .int) (C := R_MO) (T := F_MO) (N := 25) hx hb (tb_in hok in_MO) (fun w h => h) g_MO g_MO_ok n_MO hown hK hP hD hS 0 rfl rfl 0 (by decide) (hok _ t_705 rfl _) (fun _ h9 => h9) rfl (by decide +kernel) rfl rfl (Nat.le_of_ble_eq_true rfl) d_MO_substitute_29 (fun H locs hP hD hS => ?_)
        have hP : va_P D cls [(h, .inr (8, [.int 0, .int (nI G), .ref (b 0), .ref (b 1), .int (nI C), .ref (b 2), .ref (b 3), .ref (b 4), .ref (b 5), .ref (b 6), .ref (b 7), .ref (b 8), .ref (b 9), .ref (b 10), .ref (b 11), .ref (b 12), .ref (b 13), .ref (b 14), .ref (b 15), .ref (b 16), .ref (b 17), .ref (b 18), .int (zb hs), .ref (b 19), .ref (b 20)]))] H := hP
        have hD : va_D A [(h, .inr (8, [.int 0, .int (nI G), .ref (b 0), .ref (b 1), .int (nI C), .ref (b 2), .ref (b 3), .ref (b 4), .ref (b 5), .ref (b 6), .ref (b 7), .ref (b 8), .ref (b 9), .ref (b 10), .ref (b 11), .ref (b 12), .ref (b 13), .ref (b 14), .ref (b 15), .ref (b 16), .ref (b 17), .ref (b 18), .int (zb hs), .ref (b 19), .ref (b 20)]))] := hD
        refine lv_aload_n hx hb d_MO_substitute_32 rfl (lv_at hl 0 rfl) ?_
        refine va_get (D := D) (ci := 8) (v := .int 0) (C := R_MO) (T := F_MO) (N := 25) hx hb (tb_in hok in_MO) (fun w h => h) hown hK hP 0 rfl rfl 0 (by decide) (hok _ t_705 rfl _) (fun _ h9 => h9) rfl d_MO_substitute_33 ?_
        refine lv_if_gt (tgt := 44) hx hb d_MO_substitute_36 (by decide) (fun h36 => absurd h36 (show ¬ (0 : Int32) < 0 by decide)) (fun h36 => ?_)
        refine lv_iload_n hx hb d_MO_substitute_39 rfl (lv_at hl 2 rfl) ?_
        refine lv_iload_n hx hb d_MO_substitute_40 rfl (lv_at hl 3 rfl) ?_
        refine lv_icmp_ne (tgt := 46) hx hb d_MO_substitute_41 (by decide) (fun h41 => absurd (congrArg nI hcd) h41) (fun h41 => ?_)
        refine lv_iconst (v := 0) hx hb d_MO_substitute_44 (by decide) ?_
        exact W.zret hx hb hr (by decide) (fun t ht _ => ⟨⟨rfl, by rw [ht]; exact hP, hD⟩, hS.F ht⟩) hS.2.2 d_MO_substitute_45
      · refine lv_iconst (v := 1) hx hb d_MO_substitute_24 (by decide) ?_
        refine lv_goto (tgt := 29) hx hb d_MO_substitute_25 (by decide) ?_
        have e9 : ytu C (nI s0) (nI c0) (nI d0) = 1 := by first | (simp [ytu, h5, h13, h21]; done)
        exact absurd (ht.symm.trans e9) (by decide)
set_option maxHeartbeats 4000000 in
set_option maxRecDepth 100000 in
theorem lo_sub_none {l : Launch} {p : Program} {e : Env} {s : State} {m : MethodId} {args : Array Value} {below : List Frame} {meth : Method} {c : Code} {H : Heap} {Ls : List Loc} {Q : State → Prop} (D : va_G) (cI cJ cZ cP cS : ClassId) (h : Nat) (b : Nat → Nat) (G C : Nat) (hs : Bool) (s0 c0 d0 : Nat) (pf pt : Nat → Int32) (pe : Nat → Nat) (hx : p.tables.exec = Jvm.exec) (hb : c.code = b_MO_substitute) (hml : c.maxLocals = 6) (hown : s.vm.findClass "StudyAuditModel" = some m.cls) (hok : tb_ok s) (hP : va_P D cls [(h, .inr (8, [.int 0, .int (nI G), .ref (b 0), .ref (b 1), .int (nI C), .ref (b 2), .ref (b 3), .ref (b 4), .ref (b 5), .ref (b 6), .ref (b 7), .ref (b 8), .ref (b 9), .ref (b 10), .ref (b 11), .ref (b 12), .ref (b 13), .ref (b 14), .ref (b 15), .ref (b 16), .ref (b 17), .ref (b 18), .int (zb hs), .ref (b 19), .ref (b 20)])), ((b 10), .inl (cI, 4, .inl (fun j => nI (pe j)))), ((b 11), .inl (cI, 32, .inl pf)), ((b 12), .inl (cI, 32, .inl pt))] H) (hK : va_K D cls (tyl cI cJ cZ cP cS) s) (hs0 : s0 < 4) (hpe : pe s0 ≤ 8) (hno : ∀ k, k < pe s0 → ¬ (pf (8 * s0 + k) = nI c0 ∧ pt (8 * s0 + k) = nI d0))
    (kk : ∀ ls : Array Slot, lv_has ls 6 [(0, .ref h), (1, .int (nI s0)), (2, .int (nI c0)), (3, .int (nI d0)), (4, .int (nI (pe s0))), (5, .int (nI (pe s0)))] → W p l e ro_MO_substitute s m args below meth c H Ls 0 0 Q (F0 m 104 ls [])) :
    ∀ (k i : Nat) (ls : Array Slot), 0 ≤ i → i + k = (pe s0) → lv_has ls 6 [(0, .ref h), (1, .int (nI s0)), (2, .int (nI c0)), (3, .int (nI d0)), (4, .int (nI (pe s0))), (5, .int (nI i))] → W p l e ro_MO_substitute s m args below meth c H Ls 0 0 Q (F0 m 57 ls []) := by
  intro k
  induction k with
  | zero =>
    intro i ls hi0 hik hl
    have hik : (pe s0) = i := by omega
    subst hik
    refine lv_iload hx hb d_MO_substitute_57 (lv_at hl 5 rfl) ?_
    refine lv_iload hx hb d_MO_substitute_59 (lv_at hl 4 rfl) ?_
    refine lv_icmp_ge (tgt := 104) hx hb d_MO_substitute_61 (by decide) (fun h61 => ?_) (fun h61 => absurd (show nI (pe s0) ≤ nI (pe s0) from Int32.le_refl _) h61)
    exact kk ls (lv_sub hl [0, 1, 2, 3, 4, 5] rfl)
  | succ k ih =>
    intro i ls hi0 hik hl
    refine lv_iload hx hb d_MO_substitute_57 (lv_at hl 5 rfl) ?_
    refine lv_iload hx hb d_MO_substitute_59 (lv_at hl 4 rfl) ?_
    refine lv_icmp_ge (tgt := 104) hx hb d_MO_substitute_61 (by decide) (fun h61 => absurd h61 (show ¬ nI (pe s0) ≤ nI i from nI_ge (by omega) (by omega))) (fun h61 => ?_)
    refine lv_aload_n hx hb d_MO_substitute_64 rfl (lv_at hl 0 rfl) ?_
    refine va_get (D := D) (ci := 8) (v := .ref (b 11)) (C := R_MO) (T := F_MO) (N := 25) hx hb (tb_in hok in_MO) (fun w h => h) hown hK hP 0 rfl rfl 14 (by decide) (hok _ t_719 rfl _) (fun _ h9 => h9) rfl d_MO_substitute_65 ?_
    refine lv_bipush (v := 8) hx hb d_MO_substitute_68 (by decide) ?_
    refine lv_iload_n hx hb d_MO_substitute_70 rfl (lv_at hl 1 rfl) ?_
    refine lv_imul hx hb d_MO_substitute_71 ?_
    refine lv_iload hx hb d_MO_substitute_72 (lv_at hl 5 rfl) ?_
    refine lv_iadd hx hb d_MO_substitute_74 ?_
    refine W.eq (g2 := F0 m 75 ls [.int (nI (8 * s0 + i)), .ref (b 11)]) (by rw [show ((((8 : Int32) * (nI s0)) + (nI i)) : Int32) = nI (8 * s0 + i) from (by rw [show (8 : Int32) = nI 8 from rfl, pk_mul, nI_add])]) ?_
    refine va_iald hx hb hK hP 2 0 rfl rfl (vp_in_nI (by omega) (by omega)) d_MO_substitute_75 ?_
    rw [nI_clamp (show (8 * s0 + i) < 2 ^ 31 from by omega)]
    refine lv_iload_n hx hb d_MO_substitute_76 rfl (lv_at hl 2 rfl) ?_
    refine lv_icmp_ne (tgt := 98) hx hb d_MO_substitute_77 (by decide) (fun h77 => ?_) (fun h77 => ?_)
    · refine lv_iinc (v := (nI (i + 1))) hx hb d_MO_substitute_98 hl (k := 5) rfl (by rw [nI_succ]; rfl) (by decide) rfl (fun ls hl => ?_)
      have hl : lv_has ls 6 [(5, .int (nI (i + 1))), (0, .ref h), (1, .int (nI s0)), (2, .int (nI c0)), (3, .int (nI d0)), (4, .int (nI (pe s0)))] := hl
      refine lv_goto (tgt := 57) hx hb d_MO_substitute_101 (by decide) ?_
      exact ih (i + 1) ls (by omega) (by omega) (lv_sub hl [1, 2, 3, 4, 5, 0] rfl)
    · refine lv_aload_n hx hb d_MO_substitute_80 rfl (lv_at hl 0 rfl) ?_
      refine va_get (D := D) (ci := 8) (v := .ref (b 12)) (C := R_MO) (T := F_MO) (N := 25) hx hb (tb_in hok in_MO) (fun w h => h) hown hK hP 0 rfl rfl 15 (by decide) (hok _ t_720 rfl _) (fun _ h9 => h9) rfl d_MO_substitute_81 ?_
      refine lv_bipush (v := 8) hx hb d_MO_substitute_84 (by decide) ?_
      refine lv_iload_n hx hb d_MO_substitute_86 rfl (lv_at hl 1 rfl) ?_
      refine lv_imul hx hb d_MO_substitute_87 ?_
      refine lv_iload hx hb d_MO_substitute_88 (lv_at hl 5 rfl) ?_
      refine lv_iadd hx hb d_MO_substitute_90 ?_
      refine W.eq (g2 := F0 m 91 ls [.int (nI (8 * s0 + i)), .ref (b 12)]) (by rw [show ((((8 : Int32) * (nI s0)) + (nI i)) : Int32) = nI (8 * s0 + i) from (by rw [show (8 : Int32) = nI 8 from rfl, pk_mul, nI_add])]) ?_
      refine va_iald hx hb hK hP 3 0 rfl rfl (vp_in_nI (by omega) (by omega)) d_MO_substitute_91 ?_
      rw [nI_clamp (show (8 * s0 + i) < 2 ^ 31 from by omega)]
      refine lv_iload_n hx hb d_MO_substitute_92 rfl (lv_at hl 3 rfl) ?_
      refine lv_icmp_ne (tgt := 98) hx hb d_MO_substitute_93 (by decide) (fun h93 => ?_) (fun h93 => ?_)
      · refine lv_iinc (v := (nI (i + 1))) hx hb d_MO_substitute_98 hl (k := 5) rfl (by rw [nI_succ]; rfl) (by decide) rfl (fun ls hl => ?_)
        have hl : lv_has ls 6 [(5, .int (nI (i + 1))), (0, .ref h), (1, .int (nI s0)), (2, .int (nI c0)), (3, .int (nI d0)), (4, .int (nI (pe s0)))] := hl
        refine lv_goto (tgt := 57) hx hb d_MO_substitute_101 (by decide) ?_
        exact ih (i + 1) ls (by omega) (by omega) (lv_sub hl [1, 2, 3, 4, 5, 0] rfl)
      · exact absurd ⟨h77, h93⟩ (hno i (by omega))
set_option maxHeartbeats 4000000 in
set_option maxRecDepth 100000 in
theorem lo_sub_found {l : Launch} {p : Program} {e : Env} {s : State} {m : MethodId} {args : Array Value} {below : List Frame} {meth : Method} {c : Code} {H : Heap} {Ls : List Loc} {Q : State → Prop} (D : va_G) (cI cJ cZ cP cS : ClassId) (h : Nat) (b : Nat → Nat) (G C : Nat) (hs : Bool) (s0 c0 d0 : Nat) (pf pt : Nat → Int32) (pe : Nat → Nat) (hx : p.tables.exec = Jvm.exec) (hb : c.code = b_MO_substitute) (hml : c.maxLocals = 6) (hown : s.vm.findClass "StudyAuditModel" = some m.cls) (hok : tb_ok s) (hP : va_P D cls [(h, .inr (8, [.int 0, .int (nI G), .ref (b 0), .ref (b 1), .int (nI C), .ref (b 2), .ref (b 3), .ref (b 4), .ref (b 5), .ref (b 6), .ref (b 7), .ref (b 8), .ref (b 9), .ref (b 10), .ref (b 11), .ref (b 12), .ref (b 13), .ref (b 14), .ref (b 15), .ref (b 16), .ref (b 17), .ref (b 18), .int (zb hs), .ref (b 19), .ref (b 20)])), ((b 10), .inl (cI, 4, .inl (fun j => nI (pe j)))), ((b 11), .inl (cI, 32, .inl pf)), ((b 12), .inl (cI, 32, .inl pt))] H) (hK : va_K D cls (tyl cI cJ cZ cP cS) s) (hs0 : s0 < 4) (hpe : pe s0 ≤ 8)
    (kr : ∀ ls : Array Slot, lv_has ls 6 [(0, .ref h)] → W p l e ro_MO_substitute s m args below meth c H Ls 0 0 Q (F0 m 96 ls [])) :
    ∀ (k i : Nat) (ls : Array Slot), i + k = pe s0 → (∃ j, i ≤ j ∧ j < pe s0 ∧ pf (8 * s0 + j) = nI c0 ∧ pt (8 * s0 + j) = nI d0) → lv_has ls 6 [(0, .ref h), (1, .int (nI s0)), (2, .int (nI c0)), (3, .int (nI d0)), (4, .int (nI (pe s0))), (5, .int (nI i))] → W p l e ro_MO_substitute s m args below meth c H Ls 0 0 Q (F0 m 57 ls []) := by
  intro k
  induction k with
  | zero =>
    intro i ls hik hex hl
    obtain ⟨j, h1, h2, -⟩ := hex
    omega
  | succ k ih =>
    intro i ls hik hex hl
    refine lv_iload hx hb d_MO_substitute_57 (lv_at hl 5 rfl) ?_
    refine lv_iload hx hb d_MO_substitute_59 (lv_at hl 4 rfl) ?_
    refine lv_icmp_ge (tgt := 104) hx hb d_MO_substitute_61 (by decide) (fun h61 => absurd h61 (show ¬ nI (pe s0) ≤ nI i from nI_ge (by omega) (by omega))) (fun h61 => ?_)
    refine lv_aload_n hx hb d_MO_substitute_64 rfl (lv_at hl 0 rfl) ?_
    refine va_get (D := D) (ci := 8) (v := .ref (b 11)) (C := R_MO) (T := F_MO) (N := 25) hx hb (tb_in hok in_MO) (fun w h => h) hown hK hP 0 rfl rfl 14 (by decide) (hok _ t_719 rfl _) (fun _ h9 => h9) rfl d_MO_substitute_65 ?_
    refine lv_bipush (v := 8) hx hb d_MO_substitute_68 (by decide) ?_
    refine lv_iload_n hx hb d_MO_substitute_70 rfl (lv_at hl 1 rfl) ?_
    refine lv_imul hx hb d_MO_substitute_71 ?_
    refine lv_iload hx hb d_MO_substitute_72 (lv_at hl 5 rfl) ?_
    refine lv_iadd hx hb d_MO_substitute_74 ?_
    refine W.eq (g2 := F0 m 75 ls [.int (nI (8 * s0 + i)), .ref (b 11)]) (by rw [show ((((8 : Int32) * (nI s0)) + (nI i)) : Int32) = nI (8 * s0 + i) from (by rw [show (8 : Int32) = nI 8 from rfl, pk_mul, nI_add])]) ?_
    refine va_iald hx hb hK hP 2 0 rfl rfl (vp_in_nI (by omega) (by omega)) d_MO_substitute_75 ?_
    rw [nI_clamp (show (8 * s0 + i) < 2 ^ 31 from by omega)]
    refine lv_iload_n hx hb d_MO_substitute_76 rfl (lv_at hl 2 rfl) ?_
    refine lv_icmp_ne (tgt := 98) hx hb d_MO_substitute_77 (by decide) (fun h77 => ?_) (fun h77 => ?_)
    · refine lv_iinc (v := (nI (i + 1))) hx hb d_MO_substitute_98 hl (k := 5) rfl (by rw [nI_succ]; rfl) (by decide) rfl (fun ls hl => ?_)
      have hl : lv_has ls 6 [(5, .int (nI (i + 1))), (0, .ref h), (1, .int (nI s0)), (2, .int (nI c0)), (3, .int (nI d0)), (4, .int (nI (pe s0)))] := hl
      refine lv_goto (tgt := 57) hx hb d_MO_substitute_101 (by decide) ?_
      exact ih (i + 1) ls (by omega) (by obtain ⟨j, g1, g2, g3⟩ := hex; refine ⟨j, ?_, g2, g3⟩; rcases Nat.eq_or_lt_of_le g1 with e | e; (subst e; exact absurd g3 (fun z => h77 z.1)); exact e) (lv_sub hl [1, 2, 3, 4, 5, 0] rfl)
    · refine lv_aload_n hx hb d_MO_substitute_80 rfl (lv_at hl 0 rfl) ?_
      refine va_get (D := D) (ci := 8) (v := .ref (b 12)) (C := R_MO) (T := F_MO) (N := 25) hx hb (tb_in hok in_MO) (fun w h => h) hown hK hP 0 rfl rfl 15 (by decide) (hok _ t_720 rfl _) (fun _ h9 => h9) rfl d_MO_substitute_81 ?_
      refine lv_bipush (v := 8) hx hb d_MO_substitute_84 (by decide) ?_
      refine lv_iload_n hx hb d_MO_substitute_86 rfl (lv_at hl 1 rfl) ?_
      refine lv_imul hx hb d_MO_substitute_87 ?_
      refine lv_iload hx hb d_MO_substitute_88 (lv_at hl 5 rfl) ?_
      refine lv_iadd hx hb d_MO_substitute_90 ?_
      refine W.eq (g2 := F0 m 91 ls [.int (nI (8 * s0 + i)), .ref (b 12)]) (by rw [show ((((8 : Int32) * (nI s0)) + (nI i)) : Int32) = nI (8 * s0 + i) from (by rw [show (8 : Int32) = nI 8 from rfl, pk_mul, nI_add])]) ?_
      refine va_iald hx hb hK hP 3 0 rfl rfl (vp_in_nI (by omega) (by omega)) d_MO_substitute_91 ?_
      rw [nI_clamp (show (8 * s0 + i) < 2 ^ 31 from by omega)]
      refine lv_iload_n hx hb d_MO_substitute_92 rfl (lv_at hl 3 rfl) ?_
      refine lv_icmp_ne (tgt := 98) hx hb d_MO_substitute_93 (by decide) (fun h93 => ?_) (fun h93 => ?_)
      · refine lv_iinc (v := (nI (i + 1))) hx hb d_MO_substitute_98 hl (k := 5) rfl (by rw [nI_succ]; rfl) (by decide) rfl (fun ls hl => ?_)
        have hl : lv_has ls 6 [(5, .int (nI (i + 1))), (0, .ref h), (1, .int (nI s0)), (2, .int (nI c0)), (3, .int (nI d0)), (4, .int (nI (pe s0)))] := hl
        refine lv_goto (tgt := 57) hx hb d_MO_substitute_101 (by decide) ?_
        exact ih (i + 1) ls (by omega) (by obtain ⟨j, g1, g2, g3⟩ := hex; refine ⟨j, ?_, g2, g3⟩; rcases Nat.eq_or_lt_of_le g1 with e | e; (subst e; exact absurd g3 (fun z => h93 z.2)); exact e) (lv_sub hl [1, 2, 3, 4, 5, 0] rfl)
      · exact kr ls (lv_sub hl [0] rfl)
set_option maxHeartbeats 4000000 in
set_option maxRecDepth 100000 in
theorem m_MO_substitute_found (l : Launch) (D : va_G) (cI cJ cZ cP cS : ClassId) (h : Nat) (b : Nat → Nat) (th : Int32) (G C : Nat) (hs : Bool) (s0 c0 d0 : Nat) (pf pt : Nat → Int32) (pe : Nat → Nat) (hs0 : s0 < 4) (hcd : ¬ c0 = d0) (hc9 : c0 < 12) (hd9 : d0 < 12) (hpe : pe s0 ≤ 8) (ht : ytu C (nI s0) (nI c0) (nI d0) = 0) (hex : ∃ j, j < pe s0 ∧ pf (8 * s0 + j) = nI c0 ∧ pt (8 * s0 + j) = nI d0) (sz : Nat) : Met l y_MO_substitute [Cond.code y_MO_substitute b_MO_substitute 6 (some .boolean)] ro_MO_substitute (va_Pc [.ref h, .int (nI s0), .int (nI c0), .int (nI d0)] (fun U => U.heap.size = sz ∧ tb_ok U ∧ va_P D cls [(h, .inr (8, [.int th, .int (nI G), .ref (b 0), .ref (b 1), .int (nI C), .ref (b 2), .ref (b 3), .ref (b 4), .ref (b 5), .ref (b 6), .ref (b 7), .ref (b 8), .ref (b 9), .ref (b 10), .ref (b 11), .ref (b 12), .ref (b 13), .ref (b 14), .ref (b 15), .ref (b 16), .ref (b 17), .ref (b 18), .int (zb hs), .ref (b 19), .ref (b 20)])), ((b 10), .inl (cI, 4, .inl (fun j => nI (pe j)))), ((b 11), .inl (cI, 32, .inl pf)), ((b 12), .inl (cI, 32, .inl pt))] U.heap ∧ va_K D cls (tyl cI cJ cZ cP cS) U ∧ va_D (fun _ => True) [(h, .inr (8, [.int th, .int (nI G), .ref (b 0), .ref (b 1), .int (nI C), .ref (b 2), .ref (b 3), .ref (b 4), .ref (b 5), .ref (b 6), .ref (b 7), .ref (b 8), .ref (b 9), .ref (b 10), .ref (b 11), .ref (b 12), .ref (b 13), .ref (b 14), .ref (b 15), .ref (b 16), .ref (b 17), .ref (b 18), .int (zb hs), .ref (b 19), .ref (b 20)])), ((b 10), .inl (cI, 4, .inl (fun j => nI (pe j)))), ((b 11), .inl (cI, 32, .inl pf)), ((b 12), .inl (cI, 32, .inl pt))])) (zv (some (.int (zb false))) D [(h, .inr (8, [.int 0, .int (nI G), .ref (b 0), .ref (b 1), .int (nI C), .ref (b 2), .ref (b 3), .ref (b 4), .ref (b 5), .ref (b 6), .ref (b 7), .ref (b 8), .ref (b 9), .ref (b 10), .ref (b 11), .ref (b 12), .ref (b 13), .ref (b 14), .ref (b 15), .ref (b 16), .ref (b 17), .ref (b 18), .int (zb hs), .ref (b 19), .ref (b 20)])), ((b 10), .inl (cI, 4, .inl (fun j => nI (pe j)))), ((b 11), .inl (cI, 32, .inl pf)), ((b 12), .inl (cI, 32, .inl pt))] (va_A [(h, .inr (8, [.int th, .int (nI G), .ref (b 0), .ref (b 1), .int (nI C), .ref (b 2), .ref (b 3), .ref (b 4), .ref (b 5), .ref (b 6), .ref (b 7), .ref (b 8), .ref (b 9), .ref (b 10), .ref (b 11), .ref (b 12), .ref (b 13), .ref (b 14), .ref (b 15), .ref (b 16), .ref (b 17), .ref (b 18), .int (zb hs), .ref (b 19), .ref (b 20)])), ((b 10), .inl (cI, 4, .inl (fun j => nI (pe j)))), ((b 11), .inl (cI, 32, .inl pf)), ((b 12), .inl (cI, 32, .inl pt))] sz)) 0 0 (va_A [(h, .inr (8, [.int th, .int (nI G), .ref (b 0), .ref (b 1), .int (nI C), .ref (b 2), .ref (b 3), .ref (b 4), .ref (b 5), .ref (b 6), .ref (b 7), .ref (b 8), .ref (b 9), .ref (b 10), .ref (b 11), .ref (b 12), .ref (b 13), .ref (b 14), .ref (b 15), .ref (b 16), .ref (b 17), .ref (b 18), .int (zb hs), .ref (b 19), .ref (b 20)])), ((b 10), .inl (cI, 4, .inl (fun j => nI (pe j)))), ((b 11), .inl (cI, 32, .inl pf)), ((b 12), .inl (cI, 32, .inl pt))] sz) := by
  refine Met.ofW (cc := b_MO_substitute) (maxL := 6) (ret := (some .boolean)) (by decide +kernel) rfl ?_
  intro p e s m args below meth c s₁ B hml hv
  obtain ⟨rfl, hsz, hok, hP, hK, hD0⟩ := hv
  have hx := B.exec
  have hb := B.bytes
  have hr := B.returns
  have hown : s.vm.findClass "StudyAuditModel" = some m.cls := findClass_of_methodNamed B.named
  have hlocks := B.notSynchronized
  subst hsz
  have hD := hD0.self (sz := s.heap.size)
  generalize hAe : va_A [(h, .inr (8, [.int th, .int (nI G), .ref (b 0), .ref (b 1), .int (nI C), .ref (b 2), .ref (b 3), .ref (b 4), .ref (b 5), .ref (b 6), .ref (b 7), .ref (b 8), .ref (b 9), .ref (b 10), .ref (b 11), .ref (b 12), .ref (b 13), .ref (b 14), .ref (b 15), .ref (b 16), .ref (b 17), .ref (b 18), .int (zb hs), .ref (b 19), .ref (b 20)])), ((b 10), .inl (cI, 4, .inl (fun j => nI (pe j)))), ((b 11), .inl (cI, 32, .inl pf)), ((b 12), .inl (cI, 32, .inl pt))] s.heap.size = A at hD ⊢
  have hA : ∀ q : Nat, s.heap.size ≤ q → A q := fun q h => by rw [← hAe]; exact Or.inr h
  have hS : va_S A s.heap s.heap [] := va_S.rf
  have hl := lv_entry ([.ref h, .int (nI s0), .int (nI c0), .int (nI d0)]) (n := 6) (Nat.le_of_ble_eq_true rfl)
  rw [lg_entry_eq]
  generalize (lg_sl ([.ref h, .int (nI s0), .int (nI c0), .int (nI d0)]) ++ List.replicate (6 - (lg_sl ([.ref h, .int (nI s0), .int (nI c0), .int (nI d0)])).length) Slot.unset).toArray = ls at hl ⊢
  have hl : lv_has ls 6 [(0, .ref h), (1, .int (nI s0)), (2, .int (nI c0)), (3, .int (nI d0))] := hl
  refine lv_aload_n hx hb d_MO_substitute_0 rfl (lv_at hl 0 rfl) ?_
  refine lv_iload_n hx hb d_MO_substitute_1 rfl (lv_at hl 1 rfl) ?_
  refine zc_read (va_runS (Ts := []) (As := [.int (nI s0)]) (rest := [.ref h]) ⟨hx, hb, hml, hown, fun _ h => absurd h List.not_mem_nil⟩ (m_MO_noStudent l (nI s0)) ⟨zc_B 1 hok c_MO_noStudent_w t_10 t_829 rfl rfl (by decide +kernel) ⟨Nat.le_of_ble_eq_true rfl, Nat.le_of_ble_eq_true rfl⟩, hok _ t_830 rfl _⟩ ⟨fun a U g mk q => by obtain ⟨q0, q2⟩ := q; exact ⟨q0, q2.call g mk a⟩, fun U hU hW => ⟨rfl, hok.warm hW⟩⟩ rfl rfl hl.1 rfl (lv_room (Nat.le_of_ble_eq_true rfl)) d_MO_substitute_2 ⟨Nat.le_of_ble_eq_true rfl, Nat.le_of_ble_eq_true rfl⟩) ?_
  refine W.eq (g2 := F0 m 5 ls [.int (zb (yns (nI s0))), .ref h]) rfl ?_
  refine lv_if_ne (tgt := 24) hx hb d_MO_substitute_5 (by decide) (fun h5 => ?_) (fun h5 => ?_)
  · refine lv_iconst (v := 1) hx hb d_MO_substitute_24 (by decide) ?_
    refine lv_goto (tgt := 29) hx hb d_MO_substitute_25 (by decide) ?_
    have e9 : ytu C (nI s0) (nI c0) (nI d0) = 1 := by first | (simp [ytu, h5]; done)
    exact absurd (ht.symm.trans e9) (by decide)
  · refine lv_aload_n hx hb d_MO_substitute_8 rfl (lv_at hl 0 rfl) ?_
    refine lv_iload_n hx hb d_MO_substitute_9 rfl (lv_at hl 2 rfl) ?_
    refine zc_read (va_runV (Ts := []) (As := [.int (nI c0)]) (rest := [.ref h]) ⟨hx, hb, hml, hown, fun _ h => absurd h List.not_mem_nil⟩ (m_MO_noCourse l D cI cJ cZ cP cS h b th G C hs (nI c0)) ⟨zc_B 1 hok c_MO_noCourse_w t_10 t_802 rfl rfl (by decide +kernel) ⟨Nat.le_of_ble_eq_true rfl, Nat.le_of_ble_eq_true rfl⟩, hok _ t_804 rfl _, hok _ s_20 rfl _⟩ ⟨fun a U g mk q => by obtain ⟨q0, q2, qP, qK⟩ := q; exact ⟨q0, q2.call g mk a, qP, va_K.moved (u := U) (U := U.calling g mk a) (Vm.Alike.refl U.vm) qK⟩, va_recv hK hP (ci := 8) (q0 := 0) rfl rfl, fun U hU hW => ⟨rfl, hok.warm hW, by rw [hU]; exact hP.sub [0] rfl, va_K.moved hW.alike hK⟩⟩ rfl rfl hl.1 rfl (lv_room (Nat.le_of_ble_eq_true rfl)) d_MO_substitute_10 ⟨Nat.le_of_ble_eq_true rfl, Nat.le_of_ble_eq_true rfl⟩) ?_
    refine W.eq (g2 := F0 m 13 ls [.int (zb (yng C (nI c0))), .ref h]) rfl ?_
    refine lv_if_ne (tgt := 24) hx hb d_MO_substitute_13 (by decide) (fun h13 => ?_) (fun h13 => ?_)
    · refine lv_iconst (v := 1) hx hb d_MO_substitute_24 (by decide) ?_
      refine lv_goto (tgt := 29) hx hb d_MO_substitute_25 (by decide) ?_
      have e9 : ytu C (nI s0) (nI c0) (nI d0) = 1 := by first | (simp [ytu, h5, h13]; done)
      exact absurd (ht.symm.trans e9) (by decide)
    · refine lv_aload_n hx hb d_MO_substitute_16 rfl (lv_at hl 0 rfl) ?_
      refine lv_iload_n hx hb d_MO_substitute_17 rfl (lv_at hl 3 rfl) ?_
      refine zc_read (va_runV (Ts := []) (As := [.int (nI d0)]) (rest := [.ref h]) ⟨hx, hb, hml, hown, fun _ h => absurd h List.not_mem_nil⟩ (m_MO_noCourse l D cI cJ cZ cP cS h b th G C hs (nI d0)) ⟨zc_B 1 hok c_MO_noCourse_w t_10 t_802 rfl rfl (by decide +kernel) ⟨Nat.le_of_ble_eq_true rfl, Nat.le_of_ble_eq_true rfl⟩, hok _ t_804 rfl _, hok _ s_20 rfl _⟩ ⟨fun a U g mk q => by obtain ⟨q0, q2, qP, qK⟩ := q; exact ⟨q0, q2.call g mk a, qP, va_K.moved (u := U) (U := U.calling g mk a) (Vm.Alike.refl U.vm) qK⟩, va_recv hK hP (ci := 8) (q0 := 0) rfl rfl, fun U hU hW => ⟨rfl, hok.warm hW, by rw [hU]; exact hP.sub [0] rfl, va_K.moved hW.alike hK⟩⟩ rfl rfl hl.1 rfl (lv_room (Nat.le_of_ble_eq_true rfl)) d_MO_substitute_18 ⟨Nat.le_of_ble_eq_true rfl, Nat.le_of_ble_eq_true rfl⟩) ?_
      refine W.eq (g2 := F0 m 21 ls [.int (zb (yng C (nI d0))), .ref h]) rfl ?_
      refine lv_if_eq (tgt := 28) hx hb d_MO_substitute_21 (by decide) (fun h21 => ?_) (fun h21 => ?_)
      · refine lv_iconst (v := 0) hx hb d_MO_substitute_28 (by decide) ?_
        have e9 : ytu C (nI s0) (nI c0) (nI d0) = 0 := by first | (simp [ytu, h5, h13, h21]; done)
        refine va_put (D := D) (ci := 8) (v := .int 0) (ty := .int) (C := R_MO) (T := F_MO) (N := 25) hx hb (tb_in hok in_MO) (fun w h => h) g_MO g_MO_ok n_MO hown hK hP hD hS 0 rfl rfl 0 (by decide) (hok _ t_705 rfl _) (fun _ h9 => h9) rfl (by decide +kernel) rfl rfl (Nat.le_of_ble_eq_true rfl) d_MO_substitute_29 (fun H locs hP hD hS => ?_)
        have hP : va_P D cls [(h, .inr (8, [.int 0, .int (nI G), .ref (b 0), .ref (b 1), .int (nI C), .ref (b 2), .ref (b 3), .ref (b 4), .ref (b 5), .ref (b 6), .ref (b 7), .ref (b 8), .ref (b 9), .ref (b 10), .ref (b 11), .ref (b 12), .ref (b 13), .ref (b 14), .ref (b 15), .ref (b 16), .ref (b 17), .ref (b 18), .int (zb hs), .ref (b 19), .ref (b 20)])), ((b 10), .inl (cI, 4, .inl (fun j => nI (pe j)))), ((b 11), .inl (cI, 32, .inl pf)), ((b 12), .inl (cI, 32, .inl pt))] H := hP
        have hD : va_D A [(h, .inr (8, [.int 0, .int (nI G), .ref (b 0), .ref (b 1), .int (nI C), .ref (b 2), .ref (b 3), .ref (b 4), .ref (b 5), .ref (b 6), .ref (b 7), .ref (b 8), .ref (b 9), .ref (b 10), .ref (b 11), .ref (b 12), .ref (b 13), .ref (b 14), .ref (b 15), .ref (b 16), .ref (b 17), .ref (b 18), .int (zb hs), .ref (b 19), .ref (b 20)])), ((b 10), .inl (cI, 4, .inl (fun j => nI (pe j)))), ((b 11), .inl (cI, 32, .inl pf)), ((b 12), .inl (cI, 32, .inl pt))] := hD
        refine lv_aload_n hx hb d_MO_substitute_32 rfl (lv_at hl 0 rfl) ?_
        refine va_get (D := D) (ci := 8) (v := .int 0) (C := R_MO) (T := F_MO) (N := 25) hx hb (tb_in hok in_MO) (fun w h => h) hown hK hP 0 rfl rfl 0 (by decide) (hok _ t_705 rfl _) (fun _ h9 => h9) rfl d_MO_substitute_33 ?_
        refine lv_if_gt (tgt := 44) hx hb d_MO_substitute_36 (by decide) (fun h36 => absurd h36 (show ¬ (0 : Int32) < 0 by decide)) (fun h36 => ?_)
        refine lv_iload_n hx hb d_MO_substitute_39 rfl (lv_at hl 2 rfl) ?_
        refine lv_iload_n hx hb d_MO_substitute_40 rfl (lv_at hl 3 rfl) ?_
        refine lv_icmp_ne (tgt := 46) hx hb d_MO_substitute_41 (by decide) (fun h41 => ?_) (fun h41 => absurd h41 (fun z => hcd ((nI_eq (by omega) (by omega)).mp z)))
        refine lv_aload_n hx hb d_MO_substitute_46 rfl (lv_at hl 0 rfl) ?_
        refine va_get (D := D) (ci := 8) (v := .ref (b 10)) (C := R_MO) (T := F_MO) (N := 25) hx hb (tb_in hok in_MO) (fun w h => h) hown hK hP 0 rfl rfl 13 (by decide) (hok _ t_718 rfl _) (fun _ h9 => h9) rfl d_MO_substitute_47 ?_
        refine lv_iload_n hx hb d_MO_substitute_50 rfl (lv_at hl 1 rfl) ?_
        refine va_iald hx hb hK hP 1 0 rfl rfl (vp_in_nI (by omega) (by omega)) d_MO_substitute_51 ?_
        rw [nI_clamp (show s0 < 2 ^ 31 from by omega)]
        refine lv_istore hx hb d_MO_substitute_52 hl (by decide) rfl (fun ls hl => ?_)
        have hl : lv_has ls 6 [(4, .int (nI (pe s0))), (0, .ref h), (1, .int (nI s0)), (2, .int (nI c0)), (3, .int (nI d0))] := hl
        refine lv_iconst (v := 0) hx hb d_MO_substitute_54 (by decide) ?_
        refine lv_istore hx hb d_MO_substitute_55 hl (by decide) rfl (fun ls hl => ?_)
        have hl : lv_has ls 6 [(5, .int 0), (4, .int (nI (pe s0))), (0, .ref h), (1, .int (nI s0)), (2, .int (nI c0)), (3, .int (nI d0))] := hl
        refine lo_sub_found D cI cJ cZ cP cS h b G C hs s0 c0 d0 pf pt pe hx hb hml hown hok hP hK hs0 hpe (fun ls hl => ?_) (pe s0) 0 ls (by omega) (by obtain ⟨j, g1, g2⟩ := hex; exact ⟨j, Nat.zero_le _, g1, g2⟩) (lv_sub hl [2, 3, 4, 5, 1, 0] rfl)
        refine lv_iconst (v := 0) hx hb d_MO_substitute_96 (by decide) ?_
        exact W.zret hx hb hr (by decide) (fun t ht _ => ⟨⟨rfl, by rw [ht]; exact hP, hD⟩, hS.F ht⟩) hS.2.2 d_MO_substitute_97
      · refine lv_iconst (v := 1) hx hb d_MO_substitute_24 (by decide) ?_
        refine lv_goto (tgt := 29) hx hb d_MO_substitute_25 (by decide) ?_
        have e9 : ytu C (nI s0) (nI c0) (nI d0) = 1 := by first | (simp [ytu, h5, h13, h21]; done)
        exact absurd (ht.symm.trans e9) (by decide)
set_option maxHeartbeats 4000000 in
set_option maxRecDepth 100000 in
theorem m_MO_substitute_full (l : Launch) (D : va_G) (cI cJ cZ cP cS : ClassId) (h : Nat) (b : Nat → Nat) (th : Int32) (G C : Nat) (hs : Bool) (s0 c0 d0 : Nat) (pf pt : Nat → Int32) (pe : Nat → Nat) (hs0 : s0 < 4) (hcd : ¬ c0 = d0) (hc9 : c0 < 12) (hd9 : d0 < 12) (hpe : pe s0 ≤ 8) (ht : ytu C (nI s0) (nI c0) (nI d0) = 0) (hno : ∀ k, k < pe s0 → ¬ (pf (8 * s0 + k) = nI c0 ∧ pt (8 * s0 + k) = nI d0)) (h8 : pe s0 = 8) (sz : Nat) : Met l y_MO_substitute [Cond.code y_MO_substitute b_MO_substitute 6 (some .boolean)] ro_MO_substitute (va_Pc [.ref h, .int (nI s0), .int (nI c0), .int (nI d0)] (fun U => U.heap.size = sz ∧ tb_ok U ∧ va_P D cls [(h, .inr (8, [.int th, .int (nI G), .ref (b 0), .ref (b 1), .int (nI C), .ref (b 2), .ref (b 3), .ref (b 4), .ref (b 5), .ref (b 6), .ref (b 7), .ref (b 8), .ref (b 9), .ref (b 10), .ref (b 11), .ref (b 12), .ref (b 13), .ref (b 14), .ref (b 15), .ref (b 16), .ref (b 17), .ref (b 18), .int (zb hs), .ref (b 19), .ref (b 20)])), ((b 10), .inl (cI, 4, .inl (fun j => nI (pe j)))), ((b 11), .inl (cI, 32, .inl pf)), ((b 12), .inl (cI, 32, .inl pt))] U.heap ∧ va_K D cls (tyl cI cJ cZ cP cS) U ∧ va_D (fun _ => True) [(h, .inr (8, [.int th, .int (nI G), .ref (b 0), .ref (b 1), .int (nI C), .ref (b 2), .ref (b 3), .ref (b 4), .ref (b 5), .ref (b 6), .ref (b 7), .ref (b 8), .ref (b 9), .ref (b 10), .ref (b 11), .ref (b 12), .ref (b 13), .ref (b 14), .ref (b 15), .ref (b 16), .ref (b 17), .ref (b 18), .int (zb hs), .ref (b 19), .ref (b 20)])), ((b 10), .inl (cI, 4, .inl (fun j => nI (pe j)))), ((b 11), .inl (cI, 32, .inl pf)), ((b 12), .inl (cI, 32, .inl pt))])) (zv (some (.int (zb false))) D [(h, .inr (8, [.int 2, .int (nI G), .ref (b 0), .ref (b 1), .int (nI C), .ref (b 2), .ref (b 3), .ref (b 4), .ref (b 5), .ref (b 6), .ref (b 7), .ref (b 8), .ref (b 9), .ref (b 10), .ref (b 11), .ref (b 12), .ref (b 13), .ref (b 14), .ref (b 15), .ref (b 16), .ref (b 17), .ref (b 18), .int (zb hs), .ref (b 19), .ref (b 20)])), ((b 10), .inl (cI, 4, .inl (fun j => nI (pe j)))), ((b 11), .inl (cI, 32, .inl pf)), ((b 12), .inl (cI, 32, .inl pt))] (va_A [(h, .inr (8, [.int th, .int (nI G), .ref (b 0), .ref (b 1), .int (nI C), .ref (b 2), .ref (b 3), .ref (b 4), .ref (b 5), .ref (b 6), .ref (b 7), .ref (b 8), .ref (b 9), .ref (b 10), .ref (b 11), .ref (b 12), .ref (b 13), .ref (b 14), .ref (b 15), .ref (b 16), .ref (b 17), .ref (b 18), .int (zb hs), .ref (b 19), .ref (b 20)])), ((b 10), .inl (cI, 4, .inl (fun j => nI (pe j)))), ((b 11), .inl (cI, 32, .inl pf)), ((b 12), .inl (cI, 32, .inl pt))] sz)) 0 0 (va_A [(h, .inr (8, [.int th, .int (nI G), .ref (b 0), .ref (b 1), .int (nI C), .ref (b 2), .ref (b 3), .ref (b 4), .ref (b 5), .ref (b 6), .ref (b 7), .ref (b 8), .ref (b 9), .ref (b 10), .ref (b 11), .ref (b 12), .ref (b 13), .ref (b 14), .ref (b 15), .ref (b 16), .ref (b 17), .ref (b 18), .int (zb hs), .ref (b 19), .ref (b 20)])), ((b 10), .inl (cI, 4, .inl (fun j => nI (pe j)))), ((b 11), .inl (cI, 32, .inl pf)), ((b 12), .inl (cI, 32, .inl pt))] sz) := by
  refine Met.ofW (cc := b_MO_substitute) (maxL := 6) (ret := (some .boolean)) (by decide +kernel) rfl ?_
  intro p e s m args below meth c s₁ B hml hv
  obtain ⟨rfl, hsz, hok, hP, hK, hD0⟩ := hv
  have hx := B.exec
  have hb := B.bytes
  have hr := B.returns
  have hown : s.vm.findClass "StudyAuditModel" = some m.cls := findClass_of_methodNamed B.named
  have hlocks := B.notSynchronized
  subst hsz
  have hD := hD0.self (sz := s.heap.size)
  generalize hAe : va_A [(h, .inr (8, [.int th, .int (nI G), .ref (b 0), .ref (b 1), .int (nI C), .ref (b 2), .ref (b 3), .ref (b 4), .ref (b 5), .ref (b 6), .ref (b 7), .ref (b 8), .ref (b 9), .ref (b 10), .ref (b 11), .ref (b 12), .ref (b 13), .ref (b 14), .ref (b 15), .ref (b 16), .ref (b 17), .ref (b 18), .int (zb hs), .ref (b 19), .ref (b 20)])), ((b 10), .inl (cI, 4, .inl (fun j => nI (pe j)))), ((b 11), .inl (cI, 32, .inl pf)), ((b 12), .inl (cI, 32, .inl pt))] s.heap.size = A at hD ⊢
  have hA : ∀ q : Nat, s.heap.size ≤ q → A q := fun q h => by rw [← hAe]; exact Or.inr h
  have hS : va_S A s.heap s.heap [] := va_S.rf
  have hl := lv_entry ([.ref h, .int (nI s0), .int (nI c0), .int (nI d0)]) (n := 6) (Nat.le_of_ble_eq_true rfl)
  rw [lg_entry_eq]
  generalize (lg_sl ([.ref h, .int (nI s0), .int (nI c0), .int (nI d0)]) ++ List.replicate (6 - (lg_sl ([.ref h, .int (nI s0), .int (nI c0), .int (nI d0)])).length) Slot.unset).toArray = ls at hl ⊢
  have hl : lv_has ls 6 [(0, .ref h), (1, .int (nI s0)), (2, .int (nI c0)), (3, .int (nI d0))] := hl
  refine lv_aload_n hx hb d_MO_substitute_0 rfl (lv_at hl 0 rfl) ?_
  refine lv_iload_n hx hb d_MO_substitute_1 rfl (lv_at hl 1 rfl) ?_
  refine zc_read (va_runS (Ts := []) (As := [.int (nI s0)]) (rest := [.ref h]) ⟨hx, hb, hml, hown, fun _ h => absurd h List.not_mem_nil⟩ (m_MO_noStudent l (nI s0)) ⟨zc_B 1 hok c_MO_noStudent_w t_10 t_829 rfl rfl (by decide +kernel) ⟨Nat.le_of_ble_eq_true rfl, Nat.le_of_ble_eq_true rfl⟩, hok _ t_830 rfl _⟩ ⟨fun a U g mk q => by obtain ⟨q0, q2⟩ := q; exact ⟨q0, q2.call g mk a⟩, fun U hU hW => ⟨rfl, hok.warm hW⟩⟩ rfl rfl hl.1 rfl (lv_room (Nat.le_of_ble_eq_true rfl)) d_MO_substitute_2 ⟨Nat.le_of_ble_eq_true rfl, Nat.le_of_ble_eq_true rfl⟩) ?_
  refine W.eq (g2 := F0 m 5 ls [.int (zb (yns (nI s0))), .ref h]) rfl ?_
  refine lv_if_ne (tgt := 24) hx hb d_MO_substitute_5 (by decide) (fun h5 => ?_) (fun h5 => ?_)
  · refine lv_iconst (v := 1) hx hb d_MO_substitute_24 (by decide) ?_
    refine lv_goto (tgt := 29) hx hb d_MO_substitute_25 (by decide) ?_
    have e9 : ytu C (nI s0) (nI c0) (nI d0) = 1 := by first | (simp [ytu, h5]; done)
    exact absurd (ht.symm.trans e9) (by decide)
  · refine lv_aload_n hx hb d_MO_substitute_8 rfl (lv_at hl 0 rfl) ?_
    refine lv_iload_n hx hb d_MO_substitute_9 rfl (lv_at hl 2 rfl) ?_
    refine zc_read (va_runV (Ts := []) (As := [.int (nI c0)]) (rest := [.ref h]) ⟨hx, hb, hml, hown, fun _ h => absurd h List.not_mem_nil⟩ (m_MO_noCourse l D cI cJ cZ cP cS h b th G C hs (nI c0)) ⟨zc_B 1 hok c_MO_noCourse_w t_10 t_802 rfl rfl (by decide +kernel) ⟨Nat.le_of_ble_eq_true rfl, Nat.le_of_ble_eq_true rfl⟩, hok _ t_804 rfl _, hok _ s_20 rfl _⟩ ⟨fun a U g mk q => by obtain ⟨q0, q2, qP, qK⟩ := q; exact ⟨q0, q2.call g mk a, qP, va_K.moved (u := U) (U := U.calling g mk a) (Vm.Alike.refl U.vm) qK⟩, va_recv hK hP (ci := 8) (q0 := 0) rfl rfl, fun U hU hW => ⟨rfl, hok.warm hW, by rw [hU]; exact hP.sub [0] rfl, va_K.moved hW.alike hK⟩⟩ rfl rfl hl.1 rfl (lv_room (Nat.le_of_ble_eq_true rfl)) d_MO_substitute_10 ⟨Nat.le_of_ble_eq_true rfl, Nat.le_of_ble_eq_true rfl⟩) ?_
    refine W.eq (g2 := F0 m 13 ls [.int (zb (yng C (nI c0))), .ref h]) rfl ?_
    refine lv_if_ne (tgt := 24) hx hb d_MO_substitute_13 (by decide) (fun h13 => ?_) (fun h13 => ?_)
    · refine lv_iconst (v := 1) hx hb d_MO_substitute_24 (by decide) ?_
      refine lv_goto (tgt := 29) hx hb d_MO_substitute_25 (by decide) ?_
      have e9 : ytu C (nI s0) (nI c0) (nI d0) = 1 := by first | (simp [ytu, h5, h13]; done)
      exact absurd (ht.symm.trans e9) (by decide)
    · refine lv_aload_n hx hb d_MO_substitute_16 rfl (lv_at hl 0 rfl) ?_
      refine lv_iload_n hx hb d_MO_substitute_17 rfl (lv_at hl 3 rfl) ?_
      refine zc_read (va_runV (Ts := []) (As := [.int (nI d0)]) (rest := [.ref h]) ⟨hx, hb, hml, hown, fun _ h => absurd h List.not_mem_nil⟩ (m_MO_noCourse l D cI cJ cZ cP cS h b th G C hs (nI d0)) ⟨zc_B 1 hok c_MO_noCourse_w t_10 t_802 rfl rfl (by decide +kernel) ⟨Nat.le_of_ble_eq_true rfl, Nat.le_of_ble_eq_true rfl⟩, hok _ t_804 rfl _, hok _ s_20 rfl _⟩ ⟨fun a U g mk q => by obtain ⟨q0, q2, qP, qK⟩ := q; exact ⟨q0, q2.call g mk a, qP, va_K.moved (u := U) (U := U.calling g mk a) (Vm.Alike.refl U.vm) qK⟩, va_recv hK hP (ci := 8) (q0 := 0) rfl rfl, fun U hU hW => ⟨rfl, hok.warm hW, by rw [hU]; exact hP.sub [0] rfl, va_K.moved hW.alike hK⟩⟩ rfl rfl hl.1 rfl (lv_room (Nat.le_of_ble_eq_true rfl)) d_MO_substitute_18 ⟨Nat.le_of_ble_eq_true rfl, Nat.le_of_ble_eq_true rfl⟩) ?_
      refine W.eq (g2 := F0 m 21 ls [.int (zb (yng C (nI d0))), .ref h]) rfl ?_
      refine lv_if_eq (tgt := 28) hx hb d_MO_substitute_21 (by decide) (fun h21 => ?_) (fun h21 => ?_)
      · refine lv_iconst (v := 0) hx hb d_MO_substitute_28 (by decide) ?_
        have e9 : ytu C (nI s0) (nI c0) (nI d0) = 0 := by first | (simp [ytu, h5, h13, h21]; done)
        refine va_put (D := D) (ci := 8) (v := .int 0) (ty := .int) (C := R_MO) (T := F_MO) (N := 25) hx hb (tb_in hok in_MO) (fun w h => h) g_MO g_MO_ok n_MO hown hK hP hD hS 0 rfl rfl 0 (by decide) (hok _ t_705 rfl _) (fun _ h9 => h9) rfl (by decide +kernel) rfl rfl (Nat.le_of_ble_eq_true rfl) d_MO_substitute_29 (fun H locs hP hD hS => ?_)
        have hP : va_P D cls [(h, .inr (8, [.int 0, .int (nI G), .ref (b 0), .ref (b 1), .int (nI C), .ref (b 2), .ref (b 3), .ref (b 4), .ref (b 5), .ref (b 6), .ref (b 7), .ref (b 8), .ref (b 9), .ref (b 10), .ref (b 11), .ref (b 12), .ref (b 13), .ref (b 14), .ref (b 15), .ref (b 16), .ref (b 17), .ref (b 18), .int (zb hs), .ref (b 19), .ref (b 20)])), ((b 10), .inl (cI, 4, .inl (fun j => nI (pe j)))), ((b 11), .inl (cI, 32, .inl pf)), ((b 12), .inl (cI, 32, .inl pt))] H := hP
        have hD : va_D A [(h, .inr (8, [.int 0, .int (nI G), .ref (b 0), .ref (b 1), .int (nI C), .ref (b 2), .ref (b 3), .ref (b 4), .ref (b 5), .ref (b 6), .ref (b 7), .ref (b 8), .ref (b 9), .ref (b 10), .ref (b 11), .ref (b 12), .ref (b 13), .ref (b 14), .ref (b 15), .ref (b 16), .ref (b 17), .ref (b 18), .int (zb hs), .ref (b 19), .ref (b 20)])), ((b 10), .inl (cI, 4, .inl (fun j => nI (pe j)))), ((b 11), .inl (cI, 32, .inl pf)), ((b 12), .inl (cI, 32, .inl pt))] := hD
        refine lv_aload_n hx hb d_MO_substitute_32 rfl (lv_at hl 0 rfl) ?_
        refine va_get (D := D) (ci := 8) (v := .int 0) (C := R_MO) (T := F_MO) (N := 25) hx hb (tb_in hok in_MO) (fun w h => h) hown hK hP 0 rfl rfl 0 (by decide) (hok _ t_705 rfl _) (fun _ h9 => h9) rfl d_MO_substitute_33 ?_
        refine lv_if_gt (tgt := 44) hx hb d_MO_substitute_36 (by decide) (fun h36 => absurd h36 (show ¬ (0 : Int32) < 0 by decide)) (fun h36 => ?_)
        refine lv_iload_n hx hb d_MO_substitute_39 rfl (lv_at hl 2 rfl) ?_
        refine lv_iload_n hx hb d_MO_substitute_40 rfl (lv_at hl 3 rfl) ?_
        refine lv_icmp_ne (tgt := 46) hx hb d_MO_substitute_41 (by decide) (fun h41 => ?_) (fun h41 => absurd h41 (fun z => hcd ((nI_eq (by omega) (by omega)).mp z)))
        refine lv_aload_n hx hb d_MO_substitute_46 rfl (lv_at hl 0 rfl) ?_
        refine va_get (D := D) (ci := 8) (v := .ref (b 10)) (C := R_MO) (T := F_MO) (N := 25) hx hb (tb_in hok in_MO) (fun w h => h) hown hK hP 0 rfl rfl 13 (by decide) (hok _ t_718 rfl _) (fun _ h9 => h9) rfl d_MO_substitute_47 ?_
        refine lv_iload_n hx hb d_MO_substitute_50 rfl (lv_at hl 1 rfl) ?_
        refine va_iald hx hb hK hP 1 0 rfl rfl (vp_in_nI (by omega) (by omega)) d_MO_substitute_51 ?_
        rw [nI_clamp (show s0 < 2 ^ 31 from by omega)]
        refine lv_istore hx hb d_MO_substitute_52 hl (by decide) rfl (fun ls hl => ?_)
        have hl : lv_has ls 6 [(4, .int (nI (pe s0))), (0, .ref h), (1, .int (nI s0)), (2, .int (nI c0)), (3, .int (nI d0))] := hl
        refine lv_iconst (v := 0) hx hb d_MO_substitute_54 (by decide) ?_
        refine lv_istore hx hb d_MO_substitute_55 hl (by decide) rfl (fun ls hl => ?_)
        have hl : lv_has ls 6 [(5, .int 0), (4, .int (nI (pe s0))), (0, .ref h), (1, .int (nI s0)), (2, .int (nI c0)), (3, .int (nI d0))] := hl
        refine lo_sub_none D cI cJ cZ cP cS h b G C hs s0 c0 d0 pf pt pe hx hb hml hown hok hP hK hs0 hpe hno (fun ls hl => ?_) ((pe s0) - 0) 0 ls (by omega) (by omega) (lv_sub hl [2, 3, 4, 5, 1, 0] rfl)
        refine lv_aload_n hx hb d_MO_substitute_104 rfl (lv_at hl 0 rfl) ?_
        refine lv_iload hx hb d_MO_substitute_105 (lv_at hl 4 rfl) ?_
        refine lv_bipush (v := 8) hx hb d_MO_substitute_107 (by decide) ?_
        refine lv_icmp_ne (tgt := 116) hx hb d_MO_substitute_109 (by decide) (fun h109 => absurd (show nI (pe s0) = 8 by rw [h8]; rfl) h109) (fun h109 => ?_)
        refine lv_iconst (v := 2) hx hb d_MO_substitute_112 (by decide) ?_
        refine lv_goto (tgt := 117) hx hb d_MO_substitute_113 (by decide) ?_
        refine va_put (D := D) (ci := 8) (v := .int 2) (ty := .int) (C := R_MO) (T := F_MO) (N := 25) hx hb (tb_in hok in_MO) (fun w h => h) g_MO g_MO_ok n_MO hown hK hP hD hS 0 rfl rfl 0 (by decide) (hok _ t_705 rfl _) (fun _ h9 => h9) rfl (by decide +kernel) rfl rfl (Nat.le_of_ble_eq_true rfl) d_MO_substitute_117 (fun H locs hP hD hS => ?_)
        have hP : va_P D cls [(h, .inr (8, [.int 2, .int (nI G), .ref (b 0), .ref (b 1), .int (nI C), .ref (b 2), .ref (b 3), .ref (b 4), .ref (b 5), .ref (b 6), .ref (b 7), .ref (b 8), .ref (b 9), .ref (b 10), .ref (b 11), .ref (b 12), .ref (b 13), .ref (b 14), .ref (b 15), .ref (b 16), .ref (b 17), .ref (b 18), .int (zb hs), .ref (b 19), .ref (b 20)])), ((b 10), .inl (cI, 4, .inl (fun j => nI (pe j)))), ((b 11), .inl (cI, 32, .inl pf)), ((b 12), .inl (cI, 32, .inl pt))] H := hP
        have hD : va_D A [(h, .inr (8, [.int 2, .int (nI G), .ref (b 0), .ref (b 1), .int (nI C), .ref (b 2), .ref (b 3), .ref (b 4), .ref (b 5), .ref (b 6), .ref (b 7), .ref (b 8), .ref (b 9), .ref (b 10), .ref (b 11), .ref (b 12), .ref (b 13), .ref (b 14), .ref (b 15), .ref (b 16), .ref (b 17), .ref (b 18), .int (zb hs), .ref (b 19), .ref (b 20)])), ((b 10), .inl (cI, 4, .inl (fun j => nI (pe j)))), ((b 11), .inl (cI, 32, .inl pf)), ((b 12), .inl (cI, 32, .inl pt))] := hD
        refine lv_aload_n hx hb d_MO_substitute_120 rfl (lv_at hl 0 rfl) ?_
        refine va_get (D := D) (ci := 8) (v := .int 2) (C := R_MO) (T := F_MO) (N := 25) hx hb (tb_in hok in_MO) (fun w h => h) hown hK hP 0 rfl rfl 0 (by decide) (hok _ t_705 rfl _) (fun _ h9 => h9) rfl d_MO_substitute_121 ?_
        refine lv_if_le (tgt := 129) hx hb d_MO_substitute_124 (by decide) (fun h124 => absurd h124 (show ¬ (2 : Int32) ≤ 0 by decide)) (fun h124 => ?_)
        refine lv_iconst (v := 0) hx hb d_MO_substitute_127 (by decide) ?_
        exact W.zret hx hb hr (by decide) (fun t ht _ => ⟨⟨rfl, by rw [ht]; exact hP, hD⟩, hS.F ht⟩) hS.2.2 d_MO_substitute_128
      · refine lv_iconst (v := 1) hx hb d_MO_substitute_24 (by decide) ?_
        refine lv_goto (tgt := 29) hx hb d_MO_substitute_25 (by decide) ?_
        have e9 : ytu C (nI s0) (nI c0) (nI d0) = 1 := by first | (simp [ytu, h5, h13, h21]; done)
        exact absurd (ht.symm.trans e9) (by decide)
set_option maxHeartbeats 4000000 in
set_option maxRecDepth 100000 in
theorem m_MO_substitute_ok (l : Launch) (D : va_G) (cI cJ cZ cP cS : ClassId) (h : Nat) (b : Nat → Nat) (th : Int32) (G C : Nat) (hs : Bool) (s0 c0 d0 : Nat) (pf pt : Nat → Int32) (pe : Nat → Nat) (hs0 : s0 < 4) (hcd : ¬ c0 = d0) (hc9 : c0 < 12) (hd9 : d0 < 12) (hpe : pe s0 ≤ 8) (ht : ytu C (nI s0) (nI c0) (nI d0) = 0) (hno : ∀ k, k < pe s0 → ¬ (pf (8 * s0 + k) = nI c0 ∧ pt (8 * s0 + k) = nI d0)) (h8 : ¬ pe s0 = 8) (sz : Nat) : Met l y_MO_substitute [Cond.code y_MO_substitute b_MO_substitute 6 (some .boolean)] ro_MO_substitute (va_Pc [.ref h, .int (nI s0), .int (nI c0), .int (nI d0)] (fun U => U.heap.size = sz ∧ tb_ok U ∧ va_P D cls [(h, .inr (8, [.int th, .int (nI G), .ref (b 0), .ref (b 1), .int (nI C), .ref (b 2), .ref (b 3), .ref (b 4), .ref (b 5), .ref (b 6), .ref (b 7), .ref (b 8), .ref (b 9), .ref (b 10), .ref (b 11), .ref (b 12), .ref (b 13), .ref (b 14), .ref (b 15), .ref (b 16), .ref (b 17), .ref (b 18), .int (zb hs), .ref (b 19), .ref (b 20)])), ((b 10), .inl (cI, 4, .inl (fun j => nI (pe j)))), ((b 11), .inl (cI, 32, .inl pf)), ((b 12), .inl (cI, 32, .inl pt))] U.heap ∧ va_K D cls (tyl cI cJ cZ cP cS) U ∧ va_D (fun _ => True) [(h, .inr (8, [.int th, .int (nI G), .ref (b 0), .ref (b 1), .int (nI C), .ref (b 2), .ref (b 3), .ref (b 4), .ref (b 5), .ref (b 6), .ref (b 7), .ref (b 8), .ref (b 9), .ref (b 10), .ref (b 11), .ref (b 12), .ref (b 13), .ref (b 14), .ref (b 15), .ref (b 16), .ref (b 17), .ref (b 18), .int (zb hs), .ref (b 19), .ref (b 20)])), ((b 10), .inl (cI, 4, .inl (fun j => nI (pe j)))), ((b 11), .inl (cI, 32, .inl pf)), ((b 12), .inl (cI, 32, .inl pt))])) (zv (some (.int (zb true))) D [(h, .inr (8, [.int 0, .int (nI G), .ref (b 0), .ref (b 1), .int (nI C), .ref (b 2), .ref (b 3), .ref (b 4), .ref (b 5), .ref (b 6), .ref (b 7), .ref (b 8), .ref (b 9), .ref (b 10), .ref (b 11), .ref (b 12), .ref (b 13), .ref (b 14), .ref (b 15), .ref (b 16), .ref (b 17), .ref (b 18), .int (zb hs), .ref (b 19), .ref (b 20)])), ((b 10), .inl (cI, 4, .inl (fun j => nI ((mf_up pe s0 (pe s0 + 1)) j)))), ((b 11), .inl (cI, 32, .inl (upd pf (8 * s0 + pe s0) (nI c0)))), ((b 12), .inl (cI, 32, .inl (upd pt (8 * s0 + pe s0) (nI d0))))] (va_A [(h, .inr (8, [.int th, .int (nI G), .ref (b 0), .ref (b 1), .int (nI C), .ref (b 2), .ref (b 3), .ref (b 4), .ref (b 5), .ref (b 6), .ref (b 7), .ref (b 8), .ref (b 9), .ref (b 10), .ref (b 11), .ref (b 12), .ref (b 13), .ref (b 14), .ref (b 15), .ref (b 16), .ref (b 17), .ref (b 18), .int (zb hs), .ref (b 19), .ref (b 20)])), ((b 10), .inl (cI, 4, .inl (fun j => nI (pe j)))), ((b 11), .inl (cI, 32, .inl pf)), ((b 12), .inl (cI, 32, .inl pt))] sz)) 0 0 (va_A [(h, .inr (8, [.int th, .int (nI G), .ref (b 0), .ref (b 1), .int (nI C), .ref (b 2), .ref (b 3), .ref (b 4), .ref (b 5), .ref (b 6), .ref (b 7), .ref (b 8), .ref (b 9), .ref (b 10), .ref (b 11), .ref (b 12), .ref (b 13), .ref (b 14), .ref (b 15), .ref (b 16), .ref (b 17), .ref (b 18), .int (zb hs), .ref (b 19), .ref (b 20)])), ((b 10), .inl (cI, 4, .inl (fun j => nI (pe j)))), ((b 11), .inl (cI, 32, .inl pf)), ((b 12), .inl (cI, 32, .inl pt))] sz) := by
  refine Met.ofW (cc := b_MO_substitute) (maxL := 6) (ret := (some .boolean)) (by decide +kernel) rfl ?_
  intro p e s m args below meth c s₁ B hml hv
  obtain ⟨rfl, hsz, hok, hP, hK, hD0⟩ := hv
  have hx := B.exec
  have hb := B.bytes
  have hr := B.returns
  have hown : s.vm.findClass "StudyAuditModel" = some m.cls := findClass_of_methodNamed B.named
  have hlocks := B.notSynchronized
  subst hsz
  have hD := hD0.self (sz := s.heap.size)
  generalize hAe : va_A [(h, .inr (8, [.int th, .int (nI G), .ref (b 0), .ref (b 1), .int (nI C), .ref (b 2), .ref (b 3), .ref (b 4), .ref (b 5), .ref (b 6), .ref (b 7), .ref (b 8), .ref (b 9), .ref (b 10), .ref (b 11), .ref (b 12), .ref (b 13), .ref (b 14), .ref (b 15), .ref (b 16), .ref (b 17), .ref (b 18), .int (zb hs), .ref (b 19), .ref (b 20)])), ((b 10), .inl (cI, 4, .inl (fun j => nI (pe j)))), ((b 11), .inl (cI, 32, .inl pf)), ((b 12), .inl (cI, 32, .inl pt))] s.heap.size = A at hD ⊢
  have hA : ∀ q : Nat, s.heap.size ≤ q → A q := fun q h => by rw [← hAe]; exact Or.inr h
  have hS : va_S A s.heap s.heap [] := va_S.rf
  have hl := lv_entry ([.ref h, .int (nI s0), .int (nI c0), .int (nI d0)]) (n := 6) (Nat.le_of_ble_eq_true rfl)
  rw [lg_entry_eq]
  generalize (lg_sl ([.ref h, .int (nI s0), .int (nI c0), .int (nI d0)]) ++ List.replicate (6 - (lg_sl ([.ref h, .int (nI s0), .int (nI c0), .int (nI d0)])).length) Slot.unset).toArray = ls at hl ⊢
  have hl : lv_has ls 6 [(0, .ref h), (1, .int (nI s0)), (2, .int (nI c0)), (3, .int (nI d0))] := hl
  refine lv_aload_n hx hb d_MO_substitute_0 rfl (lv_at hl 0 rfl) ?_
  refine lv_iload_n hx hb d_MO_substitute_1 rfl (lv_at hl 1 rfl) ?_
  refine zc_read (va_runS (Ts := []) (As := [.int (nI s0)]) (rest := [.ref h]) ⟨hx, hb, hml, hown, fun _ h => absurd h List.not_mem_nil⟩ (m_MO_noStudent l (nI s0)) ⟨zc_B 1 hok c_MO_noStudent_w t_10 t_829 rfl rfl (by decide +kernel) ⟨Nat.le_of_ble_eq_true rfl, Nat.le_of_ble_eq_true rfl⟩, hok _ t_830 rfl _⟩ ⟨fun a U g mk q => by obtain ⟨q0, q2⟩ := q; exact ⟨q0, q2.call g mk a⟩, fun U hU hW => ⟨rfl, hok.warm hW⟩⟩ rfl rfl hl.1 rfl (lv_room (Nat.le_of_ble_eq_true rfl)) d_MO_substitute_2 ⟨Nat.le_of_ble_eq_true rfl, Nat.le_of_ble_eq_true rfl⟩) ?_
  refine W.eq (g2 := F0 m 5 ls [.int (zb (yns (nI s0))), .ref h]) rfl ?_
  refine lv_if_ne (tgt := 24) hx hb d_MO_substitute_5 (by decide) (fun h5 => ?_) (fun h5 => ?_)
  · refine lv_iconst (v := 1) hx hb d_MO_substitute_24 (by decide) ?_
    refine lv_goto (tgt := 29) hx hb d_MO_substitute_25 (by decide) ?_
    have e9 : ytu C (nI s0) (nI c0) (nI d0) = 1 := by first | (simp [ytu, h5]; done)
    exact absurd (ht.symm.trans e9) (by decide)
  · refine lv_aload_n hx hb d_MO_substitute_8 rfl (lv_at hl 0 rfl) ?_
    refine lv_iload_n hx hb d_MO_substitute_9 rfl (lv_at hl 2 rfl) ?_
    refine zc_read (va_runV (Ts := []) (As := [.int (nI c0)]) (rest := [.ref h]) ⟨hx, hb, hml, hown, fun _ h => absurd h List.not_mem_nil⟩ (m_MO_noCourse l D cI cJ cZ cP cS h b th G C hs (nI c0)) ⟨zc_B 1 hok c_MO_noCourse_w t_10 t_802 rfl rfl (by decide +kernel) ⟨Nat.le_of_ble_eq_true rfl, Nat.le_of_ble_eq_true rfl⟩, hok _ t_804 rfl _, hok _ s_20 rfl _⟩ ⟨fun a U g mk q => by obtain ⟨q0, q2, qP, qK⟩ := q; exact ⟨q0, q2.call g mk a, qP, va_K.moved (u := U) (U := U.calling g mk a) (Vm.Alike.refl U.vm) qK⟩, va_recv hK hP (ci := 8) (q0 := 0) rfl rfl, fun U hU hW => ⟨rfl, hok.warm hW, by rw [hU]; exact hP.sub [0] rfl, va_K.moved hW.alike hK⟩⟩ rfl rfl hl.1 rfl (lv_room (Nat.le_of_ble_eq_true rfl)) d_MO_substitute_10 ⟨Nat.le_of_ble_eq_true rfl, Nat.le_of_ble_eq_true rfl⟩) ?_
    refine W.eq (g2 := F0 m 13 ls [.int (zb (yng C (nI c0))), .ref h]) rfl ?_
    refine lv_if_ne (tgt := 24) hx hb d_MO_substitute_13 (by decide) (fun h13 => ?_) (fun h13 => ?_)
    · refine lv_iconst (v := 1) hx hb d_MO_substitute_24 (by decide) ?_
      refine lv_goto (tgt := 29) hx hb d_MO_substitute_25 (by decide) ?_
      have e9 : ytu C (nI s0) (nI c0) (nI d0) = 1 := by first | (simp [ytu, h5, h13]; done)
      exact absurd (ht.symm.trans e9) (by decide)
    · refine lv_aload_n hx hb d_MO_substitute_16 rfl (lv_at hl 0 rfl) ?_
      refine lv_iload_n hx hb d_MO_substitute_17 rfl (lv_at hl 3 rfl) ?_
      refine zc_read (va_runV (Ts := []) (As := [.int (nI d0)]) (rest := [.ref h]) ⟨hx, hb, hml, hown, fun _ h => absurd h List.not_mem_nil⟩ (m_MO_noCourse l D cI cJ cZ cP cS h b th G C hs (nI d0)) ⟨zc_B 1 hok c_MO_noCourse_w t_10 t_802 rfl rfl (by decide +kernel) ⟨Nat.le_of_ble_eq_true rfl, Nat.le_of_ble_eq_true rfl⟩, hok _ t_804 rfl _, hok _ s_20 rfl _⟩ ⟨fun a U g mk q => by obtain ⟨q0, q2, qP, qK⟩ := q; exact ⟨q0, q2.call g mk a, qP, va_K.moved (u := U) (U := U.calling g mk a) (Vm.Alike.refl U.vm) qK⟩, va_recv hK hP (ci := 8) (q0 := 0) rfl rfl, fun U hU hW => ⟨rfl, hok.warm hW, by rw [hU]; exact hP.sub [0] rfl, va_K.moved hW.alike hK⟩⟩ rfl rfl hl.1 rfl (lv_room (Nat.le_of_ble_eq_true rfl)) d_MO_substitute_18 ⟨Nat.le_of_ble_eq_true rfl, Nat.le_of_ble_eq_true rfl⟩) ?_
      refine W.eq (g2 := F0 m 21 ls [.int (zb (yng C (nI d0))), .ref h]) rfl ?_
      refine lv_if_eq (tgt := 28) hx hb d_MO_substitute_21 (by decide) (fun h21 => ?_) (fun h21 => ?_)
      · refine lv_iconst (v := 0) hx hb d_MO_substitute_28 (by decide) ?_
        have e9 : ytu C (nI s0) (nI c0) (nI d0) = 0 := by first | (simp [ytu, h5, h13, h21]; done)
        refine va_put (D := D) (ci := 8) (v := .int 0) (ty := .int) (C := R_MO) (T := F_MO) (N := 25) hx hb (tb_in hok in_MO) (fun w h => h) g_MO g_MO_ok n_MO hown hK hP hD hS 0 rfl rfl 0 (by decide) (hok _ t_705 rfl _) (fun _ h9 => h9) rfl (by decide +kernel) rfl rfl (Nat.le_of_ble_eq_true rfl) d_MO_substitute_29 (fun H locs hP hD hS => ?_)
        have hP : va_P D cls [(h, .inr (8, [.int 0, .int (nI G), .ref (b 0), .ref (b 1), .int (nI C), .ref (b 2), .ref (b 3), .ref (b 4), .ref (b 5), .ref (b 6), .ref (b 7), .ref (b 8), .ref (b 9), .ref (b 10), .ref (b 11), .ref (b 12), .ref (b 13), .ref (b 14), .ref (b 15), .ref (b 16), .ref (b 17), .ref (b 18), .int (zb hs), .ref (b 19), .ref (b 20)])), ((b 10), .inl (cI, 4, .inl (fun j => nI (pe j)))), ((b 11), .inl (cI, 32, .inl pf)), ((b 12), .inl (cI, 32, .inl pt))] H := hP
        have hD : va_D A [(h, .inr (8, [.int 0, .int (nI G), .ref (b 0), .ref (b 1), .int (nI C), .ref (b 2), .ref (b 3), .ref (b 4), .ref (b 5), .ref (b 6), .ref (b 7), .ref (b 8), .ref (b 9), .ref (b 10), .ref (b 11), .ref (b 12), .ref (b 13), .ref (b 14), .ref (b 15), .ref (b 16), .ref (b 17), .ref (b 18), .int (zb hs), .ref (b 19), .ref (b 20)])), ((b 10), .inl (cI, 4, .inl (fun j => nI (pe j)))), ((b 11), .inl (cI, 32, .inl pf)), ((b 12), .inl (cI, 32, .inl pt))] := hD
        refine lv_aload_n hx hb d_MO_substitute_32 rfl (lv_at hl 0 rfl) ?_
        refine va_get (D := D) (ci := 8) (v := .int 0) (C := R_MO) (T := F_MO) (N := 25) hx hb (tb_in hok in_MO) (fun w h => h) hown hK hP 0 rfl rfl 0 (by decide) (hok _ t_705 rfl _) (fun _ h9 => h9) rfl d_MO_substitute_33 ?_
        refine lv_if_gt (tgt := 44) hx hb d_MO_substitute_36 (by decide) (fun h36 => absurd h36 (show ¬ (0 : Int32) < 0 by decide)) (fun h36 => ?_)
        refine lv_iload_n hx hb d_MO_substitute_39 rfl (lv_at hl 2 rfl) ?_
        refine lv_iload_n hx hb d_MO_substitute_40 rfl (lv_at hl 3 rfl) ?_
        refine lv_icmp_ne (tgt := 46) hx hb d_MO_substitute_41 (by decide) (fun h41 => ?_) (fun h41 => absurd h41 (fun z => hcd ((nI_eq (by omega) (by omega)).mp z)))
        refine lv_aload_n hx hb d_MO_substitute_46 rfl (lv_at hl 0 rfl) ?_
        refine va_get (D := D) (ci := 8) (v := .ref (b 10)) (C := R_MO) (T := F_MO) (N := 25) hx hb (tb_in hok in_MO) (fun w h => h) hown hK hP 0 rfl rfl 13 (by decide) (hok _ t_718 rfl _) (fun _ h9 => h9) rfl d_MO_substitute_47 ?_
        refine lv_iload_n hx hb d_MO_substitute_50 rfl (lv_at hl 1 rfl) ?_
        refine va_iald hx hb hK hP 1 0 rfl rfl (vp_in_nI (by omega) (by omega)) d_MO_substitute_51 ?_
        rw [nI_clamp (show s0 < 2 ^ 31 from by omega)]
        refine lv_istore hx hb d_MO_substitute_52 hl (by decide) rfl (fun ls hl => ?_)
        have hl : lv_has ls 6 [(4, .int (nI (pe s0))), (0, .ref h), (1, .int (nI s0)), (2, .int (nI c0)), (3, .int (nI d0))] := hl
        refine lv_iconst (v := 0) hx hb d_MO_substitute_54 (by decide) ?_
        refine lv_istore hx hb d_MO_substitute_55 hl (by decide) rfl (fun ls hl => ?_)
        have hl : lv_has ls 6 [(5, .int 0), (4, .int (nI (pe s0))), (0, .ref h), (1, .int (nI s0)), (2, .int (nI c0)), (3, .int (nI d0))] := hl
        refine lo_sub_none D cI cJ cZ cP cS h b G C hs s0 c0 d0 pf pt pe hx hb hml hown hok hP hK hs0 hpe hno (fun ls hl => ?_) ((pe s0) - 0) 0 ls (by omega) (by omega) (lv_sub hl [2, 3, 4, 5, 1, 0] rfl)
        refine lv_aload_n hx hb d_MO_substitute_104 rfl (lv_at hl 0 rfl) ?_
        refine lv_iload hx hb d_MO_substitute_105 (lv_at hl 4 rfl) ?_
        refine lv_bipush (v := 8) hx hb d_MO_substitute_107 (by decide) ?_
        refine lv_icmp_ne (tgt := 116) hx hb d_MO_substitute_109 (by decide) (fun h109 => ?_) (fun h109 => absurd h109 (fun z => h8 ((nI_eq (b := 8) (by omega) (by omega)).mp z)))
        refine lv_iconst (v := 0) hx hb d_MO_substitute_116 (by decide) ?_
        refine va_put (D := D) (ci := 8) (v := .int 0) (ty := .int) (C := R_MO) (T := F_MO) (N := 25) hx hb (tb_in hok in_MO) (fun w h => h) g_MO g_MO_ok n_MO hown hK hP hD hS 0 rfl rfl 0 (by decide) (hok _ t_705 rfl _) (fun _ h9 => h9) rfl (by decide +kernel) rfl rfl (Nat.le_of_ble_eq_true rfl) d_MO_substitute_117 (fun H locs hP hD hS => ?_)
        have hP : va_P D cls [(h, .inr (8, [.int 0, .int (nI G), .ref (b 0), .ref (b 1), .int (nI C), .ref (b 2), .ref (b 3), .ref (b 4), .ref (b 5), .ref (b 6), .ref (b 7), .ref (b 8), .ref (b 9), .ref (b 10), .ref (b 11), .ref (b 12), .ref (b 13), .ref (b 14), .ref (b 15), .ref (b 16), .ref (b 17), .ref (b 18), .int (zb hs), .ref (b 19), .ref (b 20)])), ((b 10), .inl (cI, 4, .inl (fun j => nI (pe j)))), ((b 11), .inl (cI, 32, .inl pf)), ((b 12), .inl (cI, 32, .inl pt))] H := hP
        have hD : va_D A [(h, .inr (8, [.int 0, .int (nI G), .ref (b 0), .ref (b 1), .int (nI C), .ref (b 2), .ref (b 3), .ref (b 4), .ref (b 5), .ref (b 6), .ref (b 7), .ref (b 8), .ref (b 9), .ref (b 10), .ref (b 11), .ref (b 12), .ref (b 13), .ref (b 14), .ref (b 15), .ref (b 16), .ref (b 17), .ref (b 18), .int (zb hs), .ref (b 19), .ref (b 20)])), ((b 10), .inl (cI, 4, .inl (fun j => nI (pe j)))), ((b 11), .inl (cI, 32, .inl pf)), ((b 12), .inl (cI, 32, .inl pt))] := hD
        refine lv_aload_n hx hb d_MO_substitute_120 rfl (lv_at hl 0 rfl) ?_
        refine va_get (D := D) (ci := 8) (v := .int 0) (C := R_MO) (T := F_MO) (N := 25) hx hb (tb_in hok in_MO) (fun w h => h) hown hK hP 0 rfl rfl 0 (by decide) (hok _ t_705 rfl _) (fun _ h9 => h9) rfl d_MO_substitute_121 ?_
        refine lv_if_le (tgt := 129) hx hb d_MO_substitute_124 (by decide) (fun h124 => ?_) (fun h124 => absurd (show (0 : Int32) ≤ 0 by decide) h124)
        refine lv_aload_n hx hb d_MO_substitute_129 rfl (lv_at hl 0 rfl) ?_
        refine va_get (D := D) (ci := 8) (v := .ref (b 11)) (C := R_MO) (T := F_MO) (N := 25) hx hb (tb_in hok in_MO) (fun w h => h) hown hK hP 0 rfl rfl 14 (by decide) (hok _ t_719 rfl _) (fun _ h9 => h9) rfl d_MO_substitute_130 ?_
        refine lv_bipush (v := 8) hx hb d_MO_substitute_133 (by decide) ?_
        refine lv_iload_n hx hb d_MO_substitute_135 rfl (lv_at hl 1 rfl) ?_
        refine lv_imul hx hb d_MO_substitute_136 ?_
        refine lv_iload hx hb d_MO_substitute_137 (lv_at hl 4 rfl) ?_
        refine lv_iadd hx hb d_MO_substitute_139 ?_
        refine W.eq (g2 := F0 m 140 ls [.int (nI (8 * s0 + (pe s0))), .ref (b 11)]) (by rw [show ((((8 : Int32) * (nI s0)) + (nI (pe s0))) : Int32) = nI (8 * s0 + (pe s0)) from (by rw [show (8 : Int32) = nI 8 from rfl, pk_mul, nI_add])]) ?_
        refine lv_iload_n hx hb d_MO_substitute_140 rfl (lv_at hl 2 rfl) ?_
        refine va_iast hx hb hK hP hD hS 2 0 rfl rfl (vp_in_nI (by omega) (by omega)) d_MO_substitute_141 (fun H locs hP hD hS => ?_)
        rw [nI_clamp (show (8 * s0 + (pe s0)) < 2 ^ 31 from by omega)] at hP hD
        have hP : va_P D cls [(h, .inr (8, [.int 0, .int (nI G), .ref (b 0), .ref (b 1), .int (nI C), .ref (b 2), .ref (b 3), .ref (b 4), .ref (b 5), .ref (b 6), .ref (b 7), .ref (b 8), .ref (b 9), .ref (b 10), .ref (b 11), .ref (b 12), .ref (b 13), .ref (b 14), .ref (b 15), .ref (b 16), .ref (b 17), .ref (b 18), .int (zb hs), .ref (b 19), .ref (b 20)])), ((b 10), .inl (cI, 4, .inl (fun j => nI (pe j)))), ((b 11), .inl (cI, 32, .inl (upd pf (8 * s0 + (pe s0)) (nI c0)))), ((b 12), .inl (cI, 32, .inl pt))] H := hP
        have hD : va_D A [(h, .inr (8, [.int 0, .int (nI G), .ref (b 0), .ref (b 1), .int (nI C), .ref (b 2), .ref (b 3), .ref (b 4), .ref (b 5), .ref (b 6), .ref (b 7), .ref (b 8), .ref (b 9), .ref (b 10), .ref (b 11), .ref (b 12), .ref (b 13), .ref (b 14), .ref (b 15), .ref (b 16), .ref (b 17), .ref (b 18), .int (zb hs), .ref (b 19), .ref (b 20)])), ((b 10), .inl (cI, 4, .inl (fun j => nI (pe j)))), ((b 11), .inl (cI, 32, .inl (upd pf (8 * s0 + (pe s0)) (nI c0)))), ((b 12), .inl (cI, 32, .inl pt))] := hD
        refine lv_aload_n hx hb d_MO_substitute_142 rfl (lv_at hl 0 rfl) ?_
        refine va_get (D := D) (ci := 8) (v := .ref (b 12)) (C := R_MO) (T := F_MO) (N := 25) hx hb (tb_in hok in_MO) (fun w h => h) hown hK hP 0 rfl rfl 15 (by decide) (hok _ t_720 rfl _) (fun _ h9 => h9) rfl d_MO_substitute_143 ?_
        refine lv_bipush (v := 8) hx hb d_MO_substitute_146 (by decide) ?_
        refine lv_iload_n hx hb d_MO_substitute_148 rfl (lv_at hl 1 rfl) ?_
        refine lv_imul hx hb d_MO_substitute_149 ?_
        refine lv_iload hx hb d_MO_substitute_150 (lv_at hl 4 rfl) ?_
        refine lv_iadd hx hb d_MO_substitute_152 ?_
        refine W.eq (g2 := F0 m 153 ls [.int (nI (8 * s0 + (pe s0))), .ref (b 12)]) (by rw [show ((((8 : Int32) * (nI s0)) + (nI (pe s0))) : Int32) = nI (8 * s0 + (pe s0)) from (by rw [show (8 : Int32) = nI 8 from rfl, pk_mul, nI_add])]) ?_
        refine lv_iload_n hx hb d_MO_substitute_153 rfl (lv_at hl 3 rfl) ?_
        refine va_iast hx hb hK hP hD hS 3 0 rfl rfl (vp_in_nI (by omega) (by omega)) d_MO_substitute_154 (fun H locs hP hD hS => ?_)
        rw [nI_clamp (show (8 * s0 + (pe s0)) < 2 ^ 31 from by omega)] at hP hD
        have hP : va_P D cls [(h, .inr (8, [.int 0, .int (nI G), .ref (b 0), .ref (b 1), .int (nI C), .ref (b 2), .ref (b 3), .ref (b 4), .ref (b 5), .ref (b 6), .ref (b 7), .ref (b 8), .ref (b 9), .ref (b 10), .ref (b 11), .ref (b 12), .ref (b 13), .ref (b 14), .ref (b 15), .ref (b 16), .ref (b 17), .ref (b 18), .int (zb hs), .ref (b 19), .ref (b 20)])), ((b 10), .inl (cI, 4, .inl (fun j => nI (pe j)))), ((b 11), .inl (cI, 32, .inl (upd pf (8 * s0 + (pe s0)) (nI c0)))), ((b 12), .inl (cI, 32, .inl (upd pt (8 * s0 + (pe s0)) (nI d0))))] H := hP
        have hD : va_D A [(h, .inr (8, [.int 0, .int (nI G), .ref (b 0), .ref (b 1), .int (nI C), .ref (b 2), .ref (b 3), .ref (b 4), .ref (b 5), .ref (b 6), .ref (b 7), .ref (b 8), .ref (b 9), .ref (b 10), .ref (b 11), .ref (b 12), .ref (b 13), .ref (b 14), .ref (b 15), .ref (b 16), .ref (b 17), .ref (b 18), .int (zb hs), .ref (b 19), .ref (b 20)])), ((b 10), .inl (cI, 4, .inl (fun j => nI (pe j)))), ((b 11), .inl (cI, 32, .inl (upd pf (8 * s0 + (pe s0)) (nI c0)))), ((b 12), .inl (cI, 32, .inl (upd pt (8 * s0 + (pe s0)) (nI d0))))] := hD
        refine lv_aload_n hx hb d_MO_substitute_155 rfl (lv_at hl 0 rfl) ?_
        refine va_get (D := D) (ci := 8) (v := .ref (b 10)) (C := R_MO) (T := F_MO) (N := 25) hx hb (tb_in hok in_MO) (fun w h => h) hown hK hP 0 rfl rfl 13 (by decide) (hok _ t_718 rfl _) (fun _ h9 => h9) rfl d_MO_substitute_156 ?_
        refine lv_iload_n hx hb d_MO_substitute_159 rfl (lv_at hl 1 rfl) ?_
        refine lv_dup2_11 hx hb d_MO_substitute_160 rfl rfl ?_
        refine va_iald hx hb hK hP 1 0 rfl rfl (vp_in_nI (by omega) (by omega)) d_MO_substitute_161 ?_
        rw [nI_clamp (show s0 < 2 ^ 31 from by omega)]
        refine lv_iconst (v := 1) hx hb d_MO_substitute_162 (by decide) ?_
        refine lv_iadd hx hb d_MO_substitute_163 ?_
        refine va_iast hx hb hK hP hD hS 1 0 rfl rfl (vp_in_nI (by omega) (by omega)) d_MO_substitute_164 (fun H locs hP hD hS => ?_)
        rw [nI_clamp (show s0 < 2 ^ 31 from by omega)] at hP hD
        have hP : va_P D cls [(h, .inr (8, [.int 0, .int (nI G), .ref (b 0), .ref (b 1), .int (nI C), .ref (b 2), .ref (b 3), .ref (b 4), .ref (b 5), .ref (b 6), .ref (b 7), .ref (b 8), .ref (b 9), .ref (b 10), .ref (b 11), .ref (b 12), .ref (b 13), .ref (b 14), .ref (b 15), .ref (b 16), .ref (b 17), .ref (b 18), .int (zb hs), .ref (b 19), .ref (b 20)])), ((b 10), .inl (cI, 4, .inl (upd (fun j => nI (pe j)) s0 ((nI (pe s0)) + (1 : Int32))))), ((b 11), .inl (cI, 32, .inl (upd pf (8 * s0 + (pe s0)) (nI c0)))), ((b 12), .inl (cI, 32, .inl (upd pt (8 * s0 + (pe s0)) (nI d0))))] H := hP
        have hD : va_D A [(h, .inr (8, [.int 0, .int (nI G), .ref (b 0), .ref (b 1), .int (nI C), .ref (b 2), .ref (b 3), .ref (b 4), .ref (b 5), .ref (b 6), .ref (b 7), .ref (b 8), .ref (b 9), .ref (b 10), .ref (b 11), .ref (b 12), .ref (b 13), .ref (b 14), .ref (b 15), .ref (b 16), .ref (b 17), .ref (b 18), .int (zb hs), .ref (b 19), .ref (b 20)])), ((b 10), .inl (cI, 4, .inl (upd (fun j => nI (pe j)) s0 ((nI (pe s0)) + (1 : Int32))))), ((b 11), .inl (cI, 32, .inl (upd pf (8 * s0 + (pe s0)) (nI c0)))), ((b 12), .inl (cI, 32, .inl (upd pt (8 * s0 + (pe s0)) (nI d0))))] := hD
        rw [show upd (fun j => nI (pe j)) s0 ((nI (pe s0)) + (1 : Int32)) = fun j => nI ((mf_up pe s0 (pe s0 + 1)) j) from by rw [← nI_succ]; exact z_upn _ _ _] at hP hD
        have hP : va_P D cls [(h, .inr (8, [.int 0, .int (nI G), .ref (b 0), .ref (b 1), .int (nI C), .ref (b 2), .ref (b 3), .ref (b 4), .ref (b 5), .ref (b 6), .ref (b 7), .ref (b 8), .ref (b 9), .ref (b 10), .ref (b 11), .ref (b 12), .ref (b 13), .ref (b 14), .ref (b 15), .ref (b 16), .ref (b 17), .ref (b 18), .int (zb hs), .ref (b 19), .ref (b 20)])), ((b 10), .inl (cI, 4, .inl (fun j => nI ((mf_up pe s0 (pe s0 + 1)) j)))), ((b 11), .inl (cI, 32, .inl (upd pf (8 * s0 + (pe s0)) (nI c0)))), ((b 12), .inl (cI, 32, .inl (upd pt (8 * s0 + (pe s0)) (nI d0))))] H := hP
        have hD : va_D A [(h, .inr (8, [.int 0, .int (nI G), .ref (b 0), .ref (b 1), .int (nI C), .ref (b 2), .ref (b 3), .ref (b 4), .ref (b 5), .ref (b 6), .ref (b 7), .ref (b 8), .ref (b 9), .ref (b 10), .ref (b 11), .ref (b 12), .ref (b 13), .ref (b 14), .ref (b 15), .ref (b 16), .ref (b 17), .ref (b 18), .int (zb hs), .ref (b 19), .ref (b 20)])), ((b 10), .inl (cI, 4, .inl (fun j => nI ((mf_up pe s0 (pe s0 + 1)) j)))), ((b 11), .inl (cI, 32, .inl (upd pf (8 * s0 + (pe s0)) (nI c0)))), ((b 12), .inl (cI, 32, .inl (upd pt (8 * s0 + (pe s0)) (nI d0))))] := hD
        refine lv_iconst (v := 1) hx hb d_MO_substitute_165 (by decide) ?_
        exact W.zret hx hb hr (by decide) (fun t ht _ => ⟨⟨rfl, by rw [ht]; exact hP, hD⟩, hS.F ht⟩) hS.2.2 d_MO_substitute_166
      · refine lv_iconst (v := 1) hx hb d_MO_substitute_24 (by decide) ?_
        refine lv_goto (tgt := 29) hx hb d_MO_substitute_25 (by decide) ?_
        have e9 : ytu C (nI s0) (nI c0) (nI d0) = 1 := by first | (simp [ytu, h5, h13, h21]; done)
        exact absurd (ht.symm.trans e9) (by decide)
def yh2 (go cn : Nat → Int32) (set some0 : Int32) (hv : Nat → Int32) : Nat → (Nat → Int32)
  | 0 => hv
  | i + 1 => if (some0 >>> (nI i &&& 31)) &&& 1 = 1 ∧ ¬ cn i &&& set = 0 then upd (yh2 go cn set some0 hv i) (go i).toNatClampNeg (yh2 go cn set some0 hv i (go i).toNatClampNeg + 1) else yh2 go cn set some0 hv i
def ycl (l t v : Int32) : Int32 := if l < 0 then v else if v ≤ l - t then v else l - t
def yhs (pa lm tk : Nat → Int32) (g : Nat) (hv : Nat → Int32) : Nat → Int32 := if g = 0 then upd hv g (ycl (lm g) (tk g) (hv g)) else upd (upd hv g (ycl (lm g) (tk g) (hv g))) (pa g).toNatClampNeg (upd hv g (ycl (lm g) (tk g) (hv g)) (pa g).toNatClampNeg + upd hv g (ycl (lm g) (tk g) (hv g)) g)
def yh3 (G : Nat) (pa lm tk : Nat → Int32) (hv : Nat → Int32) : Nat → (Nat → Int32)
  | 0 => hv
  | j + 1 => yhs pa lm tk (G - 1 - j) (yh3 G pa lm tk hv j)
def yhv (G C : Nat) (pa lm tk go cn : Nat → Int32) (set some0 : Int32) (hv : Nat → Int32) : Nat → Int32 := yh3 G pa lm tk (yh2 go cn set some0 (zfl hv 0 6) C) G
theorem z_sub1 (G : Nat) : nI G - 1 = nI G + (-1) := by
  cases G with
  | zero => decide
  | succ k => rw [nI_pred, pk_m1]
abbrev ro_MO_supplyOf : Room := { frames := 0, cells := 0, slots := 0, locals := 0 }
set_option maxHeartbeats 4000000 in
set_option maxRecDepth 100000 in
theorem lo_sup1 {l : Launch} {p : Program} {e : Env} {s : State} {m : MethodId} {args : Array Value} {below : List Frame} {meth : Method} {c : Code} {H0 : Heap} {A : Nat → Prop} {Q : State → Prop} (D : va_G) (cI cJ cZ cP cS : ClassId) (h : Nat) (b : Nat → Nat) (th : Int32) (G C : Nat) (hs : Bool) (set some0 : Int32) (pa lm go cn tk hv : Nat → Int32) (hx : p.tables.exec = Jvm.exec) (hb : c.code = b_MO_supplyOf) (hml : c.maxLocals = 5) (hown : s.vm.findClass "StudyAuditModel" = some m.cls) (hok : tb_ok s) (hK : va_K D cls (tyl cI cJ cZ cP cS) s) (hA : ∀ q : Nat, H0.size ≤ q → A q)
    (kk : ∀ (ls : Array Slot) (H : Heap) (locs : List Loc), lv_has ls 5 [(0, .ref h), (1, .int set), (2, .int some0), (3, .int (nI 6))] → va_P D cls [(h, .inr (8, [.int th, .int (nI G), .ref (b 0), .ref (b 1), .int (nI C), .ref (b 2), .ref (b 3), .ref (b 4), .ref (b 5), .ref (b 6), .ref (b 7), .ref (b 8), .ref (b 9), .ref (b 10), .ref (b 11), .ref (b 12), .ref (b 13), .ref (b 14), .ref (b 15), .ref (b 16), .ref (b 17), .ref (b 18), .int (zb hs), .ref (b 19), .ref (b 20)])), ((b 0), .inl (cI, 6, .inl pa)), ((b 1), .inl (cI, 6, .inl lm)), ((b 2), .inl (cI, 12, .inl go)), ((b 15), .inl (cI, 12, .inl cn)), ((b 17), .inl (cI, 6, .inl tk)), ((b 18), .inl (cI, 6, .inl (zfl hv 0 6)))] H → va_D A [(h, .inr (8, [.int th, .int (nI G), .ref (b 0), .ref (b 1), .int (nI C), .ref (b 2), .ref (b 3), .ref (b 4), .ref (b 5), .ref (b 6), .ref (b 7), .ref (b 8), .ref (b 9), .ref (b 10), .ref (b 11), .ref (b 12), .ref (b 13), .ref (b 14), .ref (b 15), .ref (b 16), .ref (b 17), .ref (b 18), .int (zb hs), .ref (b 19), .ref (b 20)])), ((b 0), .inl (cI, 6, .inl pa)), ((b 1), .inl (cI, 6, .inl lm)), ((b 2), .inl (cI, 12, .inl go)), ((b 15), .inl (cI, 12, .inl cn)), ((b 17), .inl (cI, 6, .inl tk)), ((b 18), .inl (cI, 6, .inl (zfl hv 0 6)))] → va_S A H0 H locs → W p l e ro_MO_supplyOf s m args below meth c H locs 0 0 Q (F0 m 21 ls [])) :
    ∀ (k i : Nat) (ls : Array Slot) (H : Heap) (locs : List Loc), 0 ≤ i → i + k = 6 → lv_has ls 5 [(0, .ref h), (1, .int set), (2, .int some0), (3, .int (nI i))] → va_P D cls [(h, .inr (8, [.int th, .int (nI G), .ref (b 0), .ref (b 1), .int (nI C), .ref (b 2), .ref (b 3), .ref (b 4), .ref (b 5), .ref (b 6), .ref (b 7), .ref (b 8), .ref (b 9), .ref (b 10), .ref (b 11), .ref (b 12), .ref (b 13), .ref (b 14), .ref (b 15), .ref (b 16), .ref (b 17), .ref (b 18), .int (zb hs), .ref (b 19), .ref (b 20)])), ((b 0), .inl (cI, 6, .inl pa)), ((b 1), .inl (cI, 6, .inl lm)), ((b 2), .inl (cI, 12, .inl go)), ((b 15), .inl (cI, 12, .inl cn)), ((b 17), .inl (cI, 6, .inl tk)), ((b 18), .inl (cI, 6, .inl (zfl hv 0 i)))] H → va_D A [(h, .inr (8, [.int th, .int (nI G), .ref (b 0), .ref (b 1), .int (nI C), .ref (b 2), .ref (b 3), .ref (b 4), .ref (b 5), .ref (b 6), .ref (b 7), .ref (b 8), .ref (b 9), .ref (b 10), .ref (b 11), .ref (b 12), .ref (b 13), .ref (b 14), .ref (b 15), .ref (b 16), .ref (b 17), .ref (b 18), .int (zb hs), .ref (b 19), .ref (b 20)])), ((b 0), .inl (cI, 6, .inl pa)), ((b 1), .inl (cI, 6, .inl lm)), ((b 2), .inl (cI, 12, .inl go)), ((b 15), .inl (cI, 12, .inl cn)), ((b 17), .inl (cI, 6, .inl tk)), ((b 18), .inl (cI, 6, .inl (zfl hv 0 i)))] → va_S A H0 H locs → W p l e ro_MO_supplyOf s m args below meth c H locs 0 0 Q (F0 m 2 ls []) := by
  intro k
  induction k with
  | zero =>
    intro i ls H locs hi0 hik hl hP hD hS
    have hik : 6 = i := by omega
    subst hik
    refine lv_iload_n hx hb d_MO_supplyOf_2 rfl (lv_at hl 3 rfl) ?_
    refine lv_bipush (v := 6) hx hb d_MO_supplyOf_3 (by decide) ?_
    refine lv_icmp_ge (tgt := 21) hx hb d_MO_supplyOf_5 (by decide) (fun h5 => ?_) (fun h5 => absurd (show nI 6 ≤ nI 6 from Int32.le_refl _) h5)
    exact kk ls H locs (lv_sub hl [0, 1, 2, 3] rfl) hP hD hS
  | succ k ih =>
    intro i ls H locs hi0 hik hl hP hD hS
    refine lv_iload_n hx hb d_MO_supplyOf_2 rfl (lv_at hl 3 rfl) ?_
    refine lv_bipush (v := 6) hx hb d_MO_supplyOf_3 (by decide) ?_
    refine lv_icmp_ge (tgt := 21) hx hb d_MO_supplyOf_5 (by decide) (fun h5 => absurd h5 (show ¬ nI 6 ≤ nI i from nI_ge (by omega) (by omega))) (fun h5 => ?_)
    refine lv_aload_n hx hb d_MO_supplyOf_8 rfl (lv_at hl 0 rfl) ?_
    refine va_get (D := D) (ci := 8) (v := .ref (b 18)) (C := R_MO) (T := F_MO) (N := 25) hx hb (tb_in hok in_MO) (fun w h => h) hown hK hP 0 rfl rfl 21 (by decide) (hok _ t_726 rfl _) (fun _ h9 => h9) rfl d_MO_supplyOf_9 ?_
    refine lv_iload_n hx hb d_MO_supplyOf_12 rfl (lv_at hl 3 rfl) ?_
    refine lv_iconst (v := 0) hx hb d_MO_supplyOf_13 (by decide) ?_
    refine va_iast hx hb hK hP hD hS 6 0 rfl rfl (vp_in_nI (by omega) (by omega)) d_MO_supplyOf_14 (fun H locs hP hD hS => ?_)
    rw [nI_clamp (show i < 2 ^ 31 from by omega)] at hP hD
    have hP : va_P D cls [(h, .inr (8, [.int th, .int (nI G), .ref (b 0), .ref (b 1), .int (nI C), .ref (b 2), .ref (b 3), .ref (b 4), .ref (b 5), .ref (b 6), .ref (b 7), .ref (b 8), .ref (b 9), .ref (b 10), .ref (b 11), .ref (b 12), .ref (b 13), .ref (b 14), .ref (b 15), .ref (b 16), .ref (b 17), .ref (b 18), .int (zb hs), .ref (b 19), .ref (b 20)])), ((b 0), .inl (cI, 6, .inl pa)), ((b 1), .inl (cI, 6, .inl lm)), ((b 2), .inl (cI, 12, .inl go)), ((b 15), .inl (cI, 12, .inl cn)), ((b 17), .inl (cI, 6, .inl tk)), ((b 18), .inl (cI, 6, .inl (upd (zfl hv 0 i) i 0)))] H := hP
    have hD : va_D A [(h, .inr (8, [.int th, .int (nI G), .ref (b 0), .ref (b 1), .int (nI C), .ref (b 2), .ref (b 3), .ref (b 4), .ref (b 5), .ref (b 6), .ref (b 7), .ref (b 8), .ref (b 9), .ref (b 10), .ref (b 11), .ref (b 12), .ref (b 13), .ref (b 14), .ref (b 15), .ref (b 16), .ref (b 17), .ref (b 18), .int (zb hs), .ref (b 19), .ref (b 20)])), ((b 0), .inl (cI, 6, .inl pa)), ((b 1), .inl (cI, 6, .inl lm)), ((b 2), .inl (cI, 12, .inl go)), ((b 15), .inl (cI, 12, .inl cn)), ((b 17), .inl (cI, 6, .inl tk)), ((b 18), .inl (cI, 6, .inl (upd (zfl hv 0 i) i 0)))] := hD
    refine lv_iinc (v := (nI (i + 1))) hx hb d_MO_supplyOf_15 hl (k := 3) rfl (by rw [nI_succ]; rfl) (by decide) rfl (fun ls hl => ?_)
    have hl : lv_has ls 5 [(3, .int (nI (i + 1))), (0, .ref h), (1, .int set), (2, .int some0)] := hl
    refine lv_goto (tgt := 2) hx hb d_MO_supplyOf_18 (by decide) ?_
    exact ih (i + 1) ls H locs (by omega) (by omega) (lv_sub hl [1, 2, 3, 0] rfl) hP hD hS
set_option maxHeartbeats 4000000 in
set_option maxRecDepth 100000 in
theorem lo_sup2 {l : Launch} {p : Program} {e : Env} {s : State} {m : MethodId} {args : Array Value} {below : List Frame} {meth : Method} {c : Code} {H0 : Heap} {A : Nat → Prop} {Q : State → Prop} (D : va_G) (cI cJ cZ cP cS : ClassId) (h : Nat) (b : Nat → Nat) (th : Int32) (G C : Nat) (hs : Bool) (set some0 : Int32) (pa lm go cn tk hv : Nat → Int32) (hx : p.tables.exec = Jvm.exec) (hb : c.code = b_MO_supplyOf) (hml : c.maxLocals = 5) (hown : s.vm.findClass "StudyAuditModel" = some m.cls) (hok : tb_ok s) (hK : va_K D cls (tyl cI cJ cZ cP cS) s) (hA : ∀ q : Nat, H0.size ≤ q → A q) (hC : C ≤ 12) (hgo : ∀ c, c < 12 → vp_in (go c) 6)
    (kk : ∀ (ls : Array Slot) (H : Heap) (locs : List Loc), lv_has ls 5 [(0, .ref h), (1, .int set), (2, .int some0), (3, .int (nI C))] → va_P D cls [(h, .inr (8, [.int th, .int (nI G), .ref (b 0), .ref (b 1), .int (nI C), .ref (b 2), .ref (b 3), .ref (b 4), .ref (b 5), .ref (b 6), .ref (b 7), .ref (b 8), .ref (b 9), .ref (b 10), .ref (b 11), .ref (b 12), .ref (b 13), .ref (b 14), .ref (b 15), .ref (b 16), .ref (b 17), .ref (b 18), .int (zb hs), .ref (b 19), .ref (b 20)])), ((b 0), .inl (cI, 6, .inl pa)), ((b 1), .inl (cI, 6, .inl lm)), ((b 2), .inl (cI, 12, .inl go)), ((b 15), .inl (cI, 12, .inl cn)), ((b 17), .inl (cI, 6, .inl tk)), ((b 18), .inl (cI, 6, .inl (yh2 go cn set some0 hv C)))] H → va_D A [(h, .inr (8, [.int th, .int (nI G), .ref (b 0), .ref (b 1), .int (nI C), .ref (b 2), .ref (b 3), .ref (b 4), .ref (b 5), .ref (b 6), .ref (b 7), .ref (b 8), .ref (b 9), .ref (b 10), .ref (b 11), .ref (b 12), .ref (b 13), .ref (b 14), .ref (b 15), .ref (b 16), .ref (b 17), .ref (b 18), .int (zb hs), .ref (b 19), .ref (b 20)])), ((b 0), .inl (cI, 6, .inl pa)), ((b 1), .inl (cI, 6, .inl lm)), ((b 2), .inl (cI, 12, .inl go)), ((b 15), .inl (cI, 12, .inl cn)), ((b 17), .inl (cI, 6, .inl tk)), ((b 18), .inl (cI, 6, .inl (yh2 go cn set some0 hv C)))] → va_S A H0 H locs → W p l e ro_MO_supplyOf s m args below meth c H locs 0 0 Q (F0 m 72 ls [])) :
    ∀ (k i : Nat) (ls : Array Slot) (H : Heap) (locs : List Loc), 0 ≤ i → i + k = C → lv_has ls 5 [(0, .ref h), (1, .int set), (2, .int some0), (3, .int (nI i))] → va_P D cls [(h, .inr (8, [.int th, .int (nI G), .ref (b 0), .ref (b 1), .int (nI C), .ref (b 2), .ref (b 3), .ref (b 4), .ref (b 5), .ref (b 6), .ref (b 7), .ref (b 8), .ref (b 9), .ref (b 10), .ref (b 11), .ref (b 12), .ref (b 13), .ref (b 14), .ref (b 15), .ref (b 16), .ref (b 17), .ref (b 18), .int (zb hs), .ref (b 19), .ref (b 20)])), ((b 0), .inl (cI, 6, .inl pa)), ((b 1), .inl (cI, 6, .inl lm)), ((b 2), .inl (cI, 12, .inl go)), ((b 15), .inl (cI, 12, .inl cn)), ((b 17), .inl (cI, 6, .inl tk)), ((b 18), .inl (cI, 6, .inl (yh2 go cn set some0 hv i)))] H → va_D A [(h, .inr (8, [.int th, .int (nI G), .ref (b 0), .ref (b 1), .int (nI C), .ref (b 2), .ref (b 3), .ref (b 4), .ref (b 5), .ref (b 6), .ref (b 7), .ref (b 8), .ref (b 9), .ref (b 10), .ref (b 11), .ref (b 12), .ref (b 13), .ref (b 14), .ref (b 15), .ref (b 16), .ref (b 17), .ref (b 18), .int (zb hs), .ref (b 19), .ref (b 20)])), ((b 0), .inl (cI, 6, .inl pa)), ((b 1), .inl (cI, 6, .inl lm)), ((b 2), .inl (cI, 12, .inl go)), ((b 15), .inl (cI, 12, .inl cn)), ((b 17), .inl (cI, 6, .inl tk)), ((b 18), .inl (cI, 6, .inl (yh2 go cn set some0 hv i)))] → va_S A H0 H locs → W p l e ro_MO_supplyOf s m args below meth c H locs 0 0 Q (F0 m 23 ls []) := by
  intro k
  induction k with
  | zero =>
    intro i ls H locs hi0 hik hl hP hD hS
    have hik : C = i := by omega
    subst hik
    refine lv_iload_n hx hb d_MO_supplyOf_23 rfl (lv_at hl 3 rfl) ?_
    refine lv_aload_n hx hb d_MO_supplyOf_24 rfl (lv_at hl 0 rfl) ?_
    refine va_get (D := D) (ci := 8) (v := .int (nI C)) (C := R_MO) (T := F_MO) (N := 25) hx hb (tb_in hok in_MO) (fun w h => h) hown hK hP 0 rfl rfl 4 (by decide) (hok _ t_709 rfl _) (fun _ h9 => h9) rfl d_MO_supplyOf_25 ?_
    refine lv_icmp_ge (tgt := 72) hx hb d_MO_supplyOf_28 (by decide) (fun h28 => ?_) (fun h28 => absurd (show nI C ≤ nI C from Int32.le_refl _) h28)
    exact kk ls H locs (lv_sub hl [0, 1, 2, 3] rfl) hP hD hS
  | succ k ih =>
    intro i ls H locs hi0 hik hl hP hD hS
    refine lv_iload_n hx hb d_MO_supplyOf_23 rfl (lv_at hl 3 rfl) ?_
    refine lv_aload_n hx hb d_MO_supplyOf_24 rfl (lv_at hl 0 rfl) ?_
    refine va_get (D := D) (ci := 8) (v := .int (nI C)) (C := R_MO) (T := F_MO) (N := 25) hx hb (tb_in hok in_MO) (fun w h => h) hown hK hP 0 rfl rfl 4 (by decide) (hok _ t_709 rfl _) (fun _ h9 => h9) rfl d_MO_supplyOf_25 ?_
    refine lv_icmp_ge (tgt := 72) hx hb d_MO_supplyOf_28 (by decide) (fun h28 => absurd h28 (show ¬ nI C ≤ nI i from nI_ge (by omega) (by omega))) (fun h28 => ?_)
    refine lv_iload_n hx hb d_MO_supplyOf_31 rfl (lv_at hl 2 rfl) ?_
    refine lv_iload_n hx hb d_MO_supplyOf_32 rfl (lv_at hl 3 rfl) ?_
    refine lv_ishr hx hb d_MO_supplyOf_33 ?_
    refine lv_iconst (v := 1) hx hb d_MO_supplyOf_34 (by decide) ?_
    refine lv_iand hx hb d_MO_supplyOf_35 ?_
    refine lv_iconst (v := 1) hx hb d_MO_supplyOf_36 (by decide) ?_
    refine lv_icmp_ne (tgt := 66) hx hb d_MO_supplyOf_37 (by decide) (fun h37 => ?_) (fun h37 => ?_)
    · refine lv_iinc (v := (nI (i + 1))) hx hb d_MO_supplyOf_66 hl (k := 3) rfl (by rw [nI_succ]; rfl) (by decide) rfl (fun ls hl => ?_)
      have hl : lv_has ls 5 [(3, .int (nI (i + 1))), (0, .ref h), (1, .int set), (2, .int some0)] := hl
      refine lv_goto (tgt := 23) hx hb d_MO_supplyOf_69 (by decide) ?_
      have e9 : yh2 go cn set some0 hv (i + 1) = yh2 go cn set some0 hv i := if_neg (fun z => h37 z.1)
      have hP : va_P D cls [(h, .inr (8, [.int th, .int (nI G), .ref (b 0), .ref (b 1), .int (nI C), .ref (b 2), .ref (b 3), .ref (b 4), .ref (b 5), .ref (b 6), .ref (b 7), .ref (b 8), .ref (b 9), .ref (b 10), .ref (b 11), .ref (b 12), .ref (b 13), .ref (b 14), .ref (b 15), .ref (b 16), .ref (b 17), .ref (b 18), .int (zb hs), .ref (b 19), .ref (b 20)])), ((b 0), .inl (cI, 6, .inl pa)), ((b 1), .inl (cI, 6, .inl lm)), ((b 2), .inl (cI, 12, .inl go)), ((b 15), .inl (cI, 12, .inl cn)), ((b 17), .inl (cI, 6, .inl tk)), ((b 18), .inl (cI, 6, .inl (yh2 go cn set some0 hv (i + 1))))] H := by rw [e9]; exact hP
      have hD : va_D A [(h, .inr (8, [.int th, .int (nI G), .ref (b 0), .ref (b 1), .int (nI C), .ref (b 2), .ref (b 3), .ref (b 4), .ref (b 5), .ref (b 6), .ref (b 7), .ref (b 8), .ref (b 9), .ref (b 10), .ref (b 11), .ref (b 12), .ref (b 13), .ref (b 14), .ref (b 15), .ref (b 16), .ref (b 17), .ref (b 18), .int (zb hs), .ref (b 19), .ref (b 20)])), ((b 0), .inl (cI, 6, .inl pa)), ((b 1), .inl (cI, 6, .inl lm)), ((b 2), .inl (cI, 12, .inl go)), ((b 15), .inl (cI, 12, .inl cn)), ((b 17), .inl (cI, 6, .inl tk)), ((b 18), .inl (cI, 6, .inl (yh2 go cn set some0 hv (i + 1))))] := by rw [e9]; exact hD
      exact ih (i + 1) ls H locs (by omega) (by omega) (lv_sub hl [1, 2, 3, 0] rfl) hP hD hS
    · refine lv_aload_n hx hb d_MO_supplyOf_40 rfl (lv_at hl 0 rfl) ?_
      refine va_get (D := D) (ci := 8) (v := .ref (b 15)) (C := R_MO) (T := F_MO) (N := 25) hx hb (tb_in hok in_MO) (fun w h => h) hown hK hP 0 rfl rfl 18 (by decide) (hok _ t_723 rfl _) (fun _ h9 => h9) rfl d_MO_supplyOf_41 ?_
      refine lv_iload_n hx hb d_MO_supplyOf_44 rfl (lv_at hl 3 rfl) ?_
      refine va_iald hx hb hK hP 4 0 rfl rfl (vp_in_nI (by omega) (by omega)) d_MO_supplyOf_45 ?_
      rw [nI_clamp (show i < 2 ^ 31 from by omega)]
      refine lv_iload_n hx hb d_MO_supplyOf_46 rfl (lv_at hl 1 rfl) ?_
      refine lv_iand hx hb d_MO_supplyOf_47 ?_
      refine lv_if_eq (tgt := 66) hx hb d_MO_supplyOf_48 (by decide) (fun h48 => ?_) (fun h48 => ?_)
      · refine lv_iinc (v := (nI (i + 1))) hx hb d_MO_supplyOf_66 hl (k := 3) rfl (by rw [nI_succ]; rfl) (by decide) rfl (fun ls hl => ?_)
        have hl : lv_has ls 5 [(3, .int (nI (i + 1))), (0, .ref h), (1, .int set), (2, .int some0)] := hl
        refine lv_goto (tgt := 23) hx hb d_MO_supplyOf_69 (by decide) ?_
        have e9 : yh2 go cn set some0 hv (i + 1) = yh2 go cn set some0 hv i := if_neg (fun z => z.2 h48)
        have hP : va_P D cls [(h, .inr (8, [.int th, .int (nI G), .ref (b 0), .ref (b 1), .int (nI C), .ref (b 2), .ref (b 3), .ref (b 4), .ref (b 5), .ref (b 6), .ref (b 7), .ref (b 8), .ref (b 9), .ref (b 10), .ref (b 11), .ref (b 12), .ref (b 13), .ref (b 14), .ref (b 15), .ref (b 16), .ref (b 17), .ref (b 18), .int (zb hs), .ref (b 19), .ref (b 20)])), ((b 0), .inl (cI, 6, .inl pa)), ((b 1), .inl (cI, 6, .inl lm)), ((b 2), .inl (cI, 12, .inl go)), ((b 15), .inl (cI, 12, .inl cn)), ((b 17), .inl (cI, 6, .inl tk)), ((b 18), .inl (cI, 6, .inl (yh2 go cn set some0 hv (i + 1))))] H := by rw [e9]; exact hP
        have hD : va_D A [(h, .inr (8, [.int th, .int (nI G), .ref (b 0), .ref (b 1), .int (nI C), .ref (b 2), .ref (b 3), .ref (b 4), .ref (b 5), .ref (b 6), .ref (b 7), .ref (b 8), .ref (b 9), .ref (b 10), .ref (b 11), .ref (b 12), .ref (b 13), .ref (b 14), .ref (b 15), .ref (b 16), .ref (b 17), .ref (b 18), .int (zb hs), .ref (b 19), .ref (b 20)])), ((b 0), .inl (cI, 6, .inl pa)), ((b 1), .inl (cI, 6, .inl lm)), ((b 2), .inl (cI, 12, .inl go)), ((b 15), .inl (cI, 12, .inl cn)), ((b 17), .inl (cI, 6, .inl tk)), ((b 18), .inl (cI, 6, .inl (yh2 go cn set some0 hv (i + 1))))] := by rw [e9]; exact hD
        exact ih (i + 1) ls H locs (by omega) (by omega) (lv_sub hl [1, 2, 3, 0] rfl) hP hD hS
      · refine lv_aload_n hx hb d_MO_supplyOf_51 rfl (lv_at hl 0 rfl) ?_
        refine va_get (D := D) (ci := 8) (v := .ref (b 18)) (C := R_MO) (T := F_MO) (N := 25) hx hb (tb_in hok in_MO) (fun w h => h) hown hK hP 0 rfl rfl 21 (by decide) (hok _ t_726 rfl _) (fun _ h9 => h9) rfl d_MO_supplyOf_52 ?_
        refine lv_aload_n hx hb d_MO_supplyOf_55 rfl (lv_at hl 0 rfl) ?_
        refine va_get (D := D) (ci := 8) (v := .ref (b 2)) (C := R_MO) (T := F_MO) (N := 25) hx hb (tb_in hok in_MO) (fun w h => h) hown hK hP 0 rfl rfl 5 (by decide) (hok _ t_710 rfl _) (fun _ h9 => h9) rfl d_MO_supplyOf_56 ?_
        refine lv_iload_n hx hb d_MO_supplyOf_59 rfl (lv_at hl 3 rfl) ?_
        refine va_iald hx hb hK hP 3 0 rfl rfl (vp_in_nI (by omega) (by omega)) d_MO_supplyOf_60 ?_
        rw [nI_clamp (show i < 2 ^ 31 from by omega)]
        refine lv_dup2_11 hx hb d_MO_supplyOf_61 rfl rfl ?_
        refine va_iald hx hb hK hP 6 0 rfl rfl (hgo i (by omega)) d_MO_supplyOf_62 ?_
        refine lv_iconst (v := 1) hx hb d_MO_supplyOf_63 (by decide) ?_
        refine lv_iadd hx hb d_MO_supplyOf_64 ?_
        refine va_iast hx hb hK hP hD hS 6 0 rfl rfl (hgo i (by omega)) d_MO_supplyOf_65 (fun H locs hP hD hS => ?_)
        have hP : va_P D cls [(h, .inr (8, [.int th, .int (nI G), .ref (b 0), .ref (b 1), .int (nI C), .ref (b 2), .ref (b 3), .ref (b 4), .ref (b 5), .ref (b 6), .ref (b 7), .ref (b 8), .ref (b 9), .ref (b 10), .ref (b 11), .ref (b 12), .ref (b 13), .ref (b 14), .ref (b 15), .ref (b 16), .ref (b 17), .ref (b 18), .int (zb hs), .ref (b 19), .ref (b 20)])), ((b 0), .inl (cI, 6, .inl pa)), ((b 1), .inl (cI, 6, .inl lm)), ((b 2), .inl (cI, 12, .inl go)), ((b 15), .inl (cI, 12, .inl cn)), ((b 17), .inl (cI, 6, .inl tk)), ((b 18), .inl (cI, 6, .inl (upd (yh2 go cn set some0 hv i) (Int32.toNatClampNeg (go i)) (((yh2 go cn set some0 hv i) (Int32.toNatClampNeg (go i))) + (1 : Int32)))))] H := hP
        have hD : va_D A [(h, .inr (8, [.int th, .int (nI G), .ref (b 0), .ref (b 1), .int (nI C), .ref (b 2), .ref (b 3), .ref (b 4), .ref (b 5), .ref (b 6), .ref (b 7), .ref (b 8), .ref (b 9), .ref (b 10), .ref (b 11), .ref (b 12), .ref (b 13), .ref (b 14), .ref (b 15), .ref (b 16), .ref (b 17), .ref (b 18), .int (zb hs), .ref (b 19), .ref (b 20)])), ((b 0), .inl (cI, 6, .inl pa)), ((b 1), .inl (cI, 6, .inl lm)), ((b 2), .inl (cI, 12, .inl go)), ((b 15), .inl (cI, 12, .inl cn)), ((b 17), .inl (cI, 6, .inl tk)), ((b 18), .inl (cI, 6, .inl (upd (yh2 go cn set some0 hv i) (Int32.toNatClampNeg (go i)) (((yh2 go cn set some0 hv i) (Int32.toNatClampNeg (go i))) + (1 : Int32)))))] := hD
        refine lv_iinc (v := (nI (i + 1))) hx hb d_MO_supplyOf_66 hl (k := 3) rfl (by rw [nI_succ]; rfl) (by decide) rfl (fun ls hl => ?_)
        have hl : lv_has ls 5 [(3, .int (nI (i + 1))), (0, .ref h), (1, .int set), (2, .int some0)] := hl
        refine lv_goto (tgt := 23) hx hb d_MO_supplyOf_69 (by decide) ?_
        have e9 : yh2 go cn set some0 hv (i + 1) = upd (yh2 go cn set some0 hv i) (Int32.toNatClampNeg (go i)) (((yh2 go cn set some0 hv i) (Int32.toNatClampNeg (go i))) + (1 : Int32)) := if_pos ⟨h37, h48⟩
        have hP : va_P D cls [(h, .inr (8, [.int th, .int (nI G), .ref (b 0), .ref (b 1), .int (nI C), .ref (b 2), .ref (b 3), .ref (b 4), .ref (b 5), .ref (b 6), .ref (b 7), .ref (b 8), .ref (b 9), .ref (b 10), .ref (b 11), .ref (b 12), .ref (b 13), .ref (b 14), .ref (b 15), .ref (b 16), .ref (b 17), .ref (b 18), .int (zb hs), .ref (b 19), .ref (b 20)])), ((b 0), .inl (cI, 6, .inl pa)), ((b 1), .inl (cI, 6, .inl lm)), ((b 2), .inl (cI, 12, .inl go)), ((b 15), .inl (cI, 12, .inl cn)), ((b 17), .inl (cI, 6, .inl tk)), ((b 18), .inl (cI, 6, .inl (yh2 go cn set some0 hv (i + 1))))] H := by rw [e9]; exact hP
        have hD : va_D A [(h, .inr (8, [.int th, .int (nI G), .ref (b 0), .ref (b 1), .int (nI C), .ref (b 2), .ref (b 3), .ref (b 4), .ref (b 5), .ref (b 6), .ref (b 7), .ref (b 8), .ref (b 9), .ref (b 10), .ref (b 11), .ref (b 12), .ref (b 13), .ref (b 14), .ref (b 15), .ref (b 16), .ref (b 17), .ref (b 18), .int (zb hs), .ref (b 19), .ref (b 20)])), ((b 0), .inl (cI, 6, .inl pa)), ((b 1), .inl (cI, 6, .inl lm)), ((b 2), .inl (cI, 12, .inl go)), ((b 15), .inl (cI, 12, .inl cn)), ((b 17), .inl (cI, 6, .inl tk)), ((b 18), .inl (cI, 6, .inl (yh2 go cn set some0 hv (i + 1))))] := by rw [e9]; exact hD
        exact ih (i + 1) ls H locs (by omega) (by omega) (lv_sub hl [1, 2, 3, 0] rfl) hP hD hS
set_option maxHeartbeats 4000000 in
set_option maxRecDepth 100000 in
theorem lo_sup3 {l : Launch} {p : Program} {e : Env} {s : State} {m : MethodId} {args : Array Value} {below : List Frame} {meth : Method} {c : Code} {H0 : Heap} {A : Nat → Prop} {Q : State → Prop} (D : va_G) (cI cJ cZ cP cS : ClassId) (h : Nat) (b : Nat → Nat) (th : Int32) (G C : Nat) (hs : Bool) (set some0 : Int32) (pa lm go cn tk hv : Nat → Int32) (hx : p.tables.exec = Jvm.exec) (hb : c.code = b_MO_supplyOf) (hml : c.maxLocals = 5) (hown : s.vm.findClass "StudyAuditModel" = some m.cls) (hok : tb_ok s) (hK : va_K D cls (tyl cI cJ cZ cP cS) s) (hA : ∀ q : Nat, H0.size ≤ q → A q) (hG : G ≤ 6) (hpa : ∀ j, 0 < j → j < G → vp_in (pa j) 6)
    (kk : ∀ (ls : Array Slot) (H : Heap) (locs : List Loc), lv_has ls 5 [(0, .ref h), (1, .int set), (2, .int some0), (3, .int (nI 0 + (-1)))] → va_P D cls [(h, .inr (8, [.int th, .int (nI G), .ref (b 0), .ref (b 1), .int (nI C), .ref (b 2), .ref (b 3), .ref (b 4), .ref (b 5), .ref (b 6), .ref (b 7), .ref (b 8), .ref (b 9), .ref (b 10), .ref (b 11), .ref (b 12), .ref (b 13), .ref (b 14), .ref (b 15), .ref (b 16), .ref (b 17), .ref (b 18), .int (zb hs), .ref (b 19), .ref (b 20)])), ((b 0), .inl (cI, 6, .inl pa)), ((b 1), .inl (cI, 6, .inl lm)), ((b 2), .inl (cI, 12, .inl go)), ((b 15), .inl (cI, 12, .inl cn)), ((b 17), .inl (cI, 6, .inl tk)), ((b 18), .inl (cI, 6, .inl (yh3 G pa lm tk hv (G - 0))))] H → va_D A [(h, .inr (8, [.int th, .int (nI G), .ref (b 0), .ref (b 1), .int (nI C), .ref (b 2), .ref (b 3), .ref (b 4), .ref (b 5), .ref (b 6), .ref (b 7), .ref (b 8), .ref (b 9), .ref (b 10), .ref (b 11), .ref (b 12), .ref (b 13), .ref (b 14), .ref (b 15), .ref (b 16), .ref (b 17), .ref (b 18), .int (zb hs), .ref (b 19), .ref (b 20)])), ((b 0), .inl (cI, 6, .inl pa)), ((b 1), .inl (cI, 6, .inl lm)), ((b 2), .inl (cI, 12, .inl go)), ((b 15), .inl (cI, 12, .inl cn)), ((b 17), .inl (cI, 6, .inl tk)), ((b 18), .inl (cI, 6, .inl (yh3 G pa lm tk hv (G - 0))))] → va_S A H0 H locs → W p l e ro_MO_supplyOf s m args below meth c H locs 0 0 Q (F0 m 174 ls [])) :
    ∀ (i : Nat) (ls : Array Slot) (H : Heap) (locs : List Loc), i ≤ G → lv_has ls 5 [(0, .ref h), (1, .int set), (2, .int some0), (3, .int (nI i + (-1)))] → va_P D cls [(h, .inr (8, [.int th, .int (nI G), .ref (b 0), .ref (b 1), .int (nI C), .ref (b 2), .ref (b 3), .ref (b 4), .ref (b 5), .ref (b 6), .ref (b 7), .ref (b 8), .ref (b 9), .ref (b 10), .ref (b 11), .ref (b 12), .ref (b 13), .ref (b 14), .ref (b 15), .ref (b 16), .ref (b 17), .ref (b 18), .int (zb hs), .ref (b 19), .ref (b 20)])), ((b 0), .inl (cI, 6, .inl pa)), ((b 1), .inl (cI, 6, .inl lm)), ((b 2), .inl (cI, 12, .inl go)), ((b 15), .inl (cI, 12, .inl cn)), ((b 17), .inl (cI, 6, .inl tk)), ((b 18), .inl (cI, 6, .inl (yh3 G pa lm tk hv (G - i))))] H → va_D A [(h, .inr (8, [.int th, .int (nI G), .ref (b 0), .ref (b 1), .int (nI C), .ref (b 2), .ref (b 3), .ref (b 4), .ref (b 5), .ref (b 6), .ref (b 7), .ref (b 8), .ref (b 9), .ref (b 10), .ref (b 11), .ref (b 12), .ref (b 13), .ref (b 14), .ref (b 15), .ref (b 16), .ref (b 17), .ref (b 18), .int (zb hs), .ref (b 19), .ref (b 20)])), ((b 0), .inl (cI, 6, .inl pa)), ((b 1), .inl (cI, 6, .inl lm)), ((b 2), .inl (cI, 12, .inl go)), ((b 15), .inl (cI, 12, .inl cn)), ((b 17), .inl (cI, 6, .inl tk)), ((b 18), .inl (cI, 6, .inl (yh3 G pa lm tk hv (G - i))))] → va_S A H0 H locs → W p l e ro_MO_supplyOf s m args below meth c H locs 0 0 Q (F0 m 79 ls []) := by
  intro i
  induction i with
  | zero =>
    intro ls H locs hik hl hP hD hS
    refine lv_iload_n hx hb d_MO_supplyOf_79 rfl (lv_at hl 3 rfl) ?_
    refine lv_if_lt (tgt := 174) hx hb d_MO_supplyOf_80 (by decide) (fun h80 => ?_) (fun h80 => absurd (show nI 0 + (-1) < 0 by decide) h80)
    exact kk ls H locs (lv_sub hl [0, 1, 2, 3] rfl) hP hD hS
  | succ i ih =>
    intro ls H locs hik hl hP hD hS
    have hl : lv_has ls 5 [(0, .ref h), (1, .int set), (2, .int some0), (3, .int (nI i))] := by rw [← pk_m1 i]; exact hl
    refine lv_iload_n hx hb d_MO_supplyOf_79 rfl (lv_at hl 3 rfl) ?_
    refine lv_if_lt (tgt := 174) hx hb d_MO_supplyOf_80 (by decide) (fun h80 => absurd h80 (nI_pos (by omega))) (fun h80 => ?_)
    refine lv_aload_n hx hb d_MO_supplyOf_83 rfl (lv_at hl 0 rfl) ?_
    refine va_get (D := D) (ci := 8) (v := .ref (b 1)) (C := R_MO) (T := F_MO) (N := 25) hx hb (tb_in hok in_MO) (fun w h => h) hown hK hP 0 rfl rfl 3 (by decide) (hok _ t_708 rfl _) (fun _ h9 => h9) rfl d_MO_supplyOf_84 ?_
    refine lv_iload_n hx hb d_MO_supplyOf_87 rfl (lv_at hl 3 rfl) ?_
    refine va_iald hx hb hK hP 2 0 rfl rfl (vp_in_nI (by omega) (by omega)) d_MO_supplyOf_88 ?_
    rw [nI_clamp (show i < 2 ^ 31 from by omega)]
    refine lv_aload_n hx hb d_MO_supplyOf_89 rfl (lv_at hl 0 rfl) ?_
    refine va_get (D := D) (ci := 8) (v := .ref (b 17)) (C := R_MO) (T := F_MO) (N := 25) hx hb (tb_in hok in_MO) (fun w h => h) hown hK hP 0 rfl rfl 20 (by decide) (hok _ t_725 rfl _) (fun _ h9 => h9) rfl d_MO_supplyOf_90 ?_
    refine lv_iload_n hx hb d_MO_supplyOf_93 rfl (lv_at hl 3 rfl) ?_
    refine va_iald hx hb hK hP 5 0 rfl rfl (vp_in_nI (by omega) (by omega)) d_MO_supplyOf_94 ?_
    rw [nI_clamp (show i < 2 ^ 31 from by omega)]
    refine lv_isub hx hb d_MO_supplyOf_95 ?_
    refine lv_istore hx hb d_MO_supplyOf_96 hl (by decide) rfl (fun ls hl => ?_)
    have hl : lv_has ls 5 [(4, .int ((lm i) - (tk i))), (0, .ref h), (1, .int set), (2, .int some0), (3, .int (nI i))] := hl
    refine lv_aload_n hx hb d_MO_supplyOf_98 rfl (lv_at hl 1 rfl) ?_
    refine va_get (D := D) (ci := 8) (v := .ref (b 18)) (C := R_MO) (T := F_MO) (N := 25) hx hb (tb_in hok in_MO) (fun w h => h) hown hK hP 0 rfl rfl 21 (by decide) (hok _ t_726 rfl _) (fun _ h9 => h9) rfl d_MO_supplyOf_99 ?_
    refine lv_iload_n hx hb d_MO_supplyOf_102 rfl (lv_at hl 4 rfl) ?_
    refine lv_aload_n hx hb d_MO_supplyOf_103 rfl (lv_at hl 1 rfl) ?_
    refine va_get (D := D) (ci := 8) (v := .ref (b 1)) (C := R_MO) (T := F_MO) (N := 25) hx hb (tb_in hok in_MO) (fun w h => h) hown hK hP 0 rfl rfl 3 (by decide) (hok _ t_708 rfl _) (fun _ h9 => h9) rfl d_MO_supplyOf_104 ?_
    refine lv_iload_n hx hb d_MO_supplyOf_107 rfl (lv_at hl 4 rfl) ?_
    refine va_iald hx hb hK hP 2 0 rfl rfl (vp_in_nI (by omega) (by omega)) d_MO_supplyOf_108 ?_
    rw [nI_clamp (show i < 2 ^ 31 from by omega)]
    refine lv_if_lt (tgt := 128) hx hb d_MO_supplyOf_109 (by decide) (fun h109 => ?_) (fun h109 => ?_)
    · refine lv_aload_n hx hb d_MO_supplyOf_128 rfl (lv_at hl 1 rfl) ?_
      refine va_get (D := D) (ci := 8) (v := .ref (b 18)) (C := R_MO) (T := F_MO) (N := 25) hx hb (tb_in hok in_MO) (fun w h => h) hown hK hP 0 rfl rfl 21 (by decide) (hok _ t_726 rfl _) (fun _ h9 => h9) rfl d_MO_supplyOf_129 ?_
      refine lv_iload_n hx hb d_MO_supplyOf_132 rfl (lv_at hl 4 rfl) ?_
      refine va_iald hx hb hK hP 6 0 rfl rfl (vp_in_nI (by omega) (by omega)) d_MO_supplyOf_133 ?_
      rw [nI_clamp (show i < 2 ^ 31 from by omega)]
      refine W.eq (g2 := F0 m 134 ls [.int (ycl (lm i) (tk i) ((yh3 G pa lm tk hv (G - (i + 1))) i)), .int (nI i), .ref (b 18)]) (by rw [show (ycl (lm i) (tk i) ((yh3 G pa lm tk hv (G - (i + 1))) i)) = ((yh3 G pa lm tk hv (G - (i + 1))) i) from if_pos h109]) ?_
      refine va_iast hx hb hK hP hD hS 6 0 rfl rfl (vp_in_nI (by omega) (by omega)) d_MO_supplyOf_134 (fun H locs hP hD hS => ?_)
      rw [nI_clamp (show i < 2 ^ 31 from by omega)] at hP hD
      have hP : va_P D cls [(h, .inr (8, [.int th, .int (nI G), .ref (b 0), .ref (b 1), .int (nI C), .ref (b 2), .ref (b 3), .ref (b 4), .ref (b 5), .ref (b 6), .ref (b 7), .ref (b 8), .ref (b 9), .ref (b 10), .ref (b 11), .ref (b 12), .ref (b 13), .ref (b 14), .ref (b 15), .ref (b 16), .ref (b 17), .ref (b 18), .int (zb hs), .ref (b 19), .ref (b 20)])), ((b 0), .inl (cI, 6, .inl pa)), ((b 1), .inl (cI, 6, .inl lm)), ((b 2), .inl (cI, 12, .inl go)), ((b 15), .inl (cI, 12, .inl cn)), ((b 17), .inl (cI, 6, .inl tk)), ((b 18), .inl (cI, 6, .inl (upd (yh3 G pa lm tk hv (G - (i + 1))) i (ycl (lm i) (tk i) ((yh3 G pa lm tk hv (G - (i + 1))) i)))))] H := hP
      have hD : va_D A [(h, .inr (8, [.int th, .int (nI G), .ref (b 0), .ref (b 1), .int (nI C), .ref (b 2), .ref (b 3), .ref (b 4), .ref (b 5), .ref (b 6), .ref (b 7), .ref (b 8), .ref (b 9), .ref (b 10), .ref (b 11), .ref (b 12), .ref (b 13), .ref (b 14), .ref (b 15), .ref (b 16), .ref (b 17), .ref (b 18), .int (zb hs), .ref (b 19), .ref (b 20)])), ((b 0), .inl (cI, 6, .inl pa)), ((b 1), .inl (cI, 6, .inl lm)), ((b 2), .inl (cI, 12, .inl go)), ((b 15), .inl (cI, 12, .inl cn)), ((b 17), .inl (cI, 6, .inl tk)), ((b 18), .inl (cI, 6, .inl (upd (yh3 G pa lm tk hv (G - (i + 1))) i (ycl (lm i) (tk i) ((yh3 G pa lm tk hv (G - (i + 1))) i)))))] := hD
      refine lv_iload_n hx hb d_MO_supplyOf_135 rfl (lv_at hl 4 rfl) ?_
      refine lv_if_le (tgt := 168) hx hb d_MO_supplyOf_136 (by decide) (fun h136 => ?_) (fun h136 => ?_)
      · refine lv_iinc (v := ((nI i) + (-1))) hx hb d_MO_supplyOf_168 hl (k := 4) rfl (by rfl) (by decide) rfl (fun ls hl => ?_)
        have hl : lv_has ls 5 [(3, .int ((nI i) + (-1))), (4, .int ((lm i) - (tk i))), (0, .ref h), (1, .int set), (2, .int some0)] := hl
        refine lv_goto (tgt := 79) hx hb d_MO_supplyOf_171 (by decide) ?_
        have e9 : yh3 G pa lm tk hv (G - i) = upd (yh3 G pa lm tk hv (G - (i + 1))) i (ycl (lm i) (tk i) ((yh3 G pa lm tk hv (G - (i + 1))) i)) := by
          rw [show G - i = (G - (i + 1)) + 1 from by omega]
          show yhs pa lm tk (G - 1 - (G - (i + 1))) _ = _
          rw [show G - 1 - (G - (i + 1)) = i from by omega]
          exact if_pos (Classical.byContradiction (fun z => absurd h136 (nI_nle (by omega) (by omega))))
        have hP : va_P D cls [(h, .inr (8, [.int th, .int (nI G), .ref (b 0), .ref (b 1), .int (nI C), .ref (b 2), .ref (b 3), .ref (b 4), .ref (b 5), .ref (b 6), .ref (b 7), .ref (b 8), .ref (b 9), .ref (b 10), .ref (b 11), .ref (b 12), .ref (b 13), .ref (b 14), .ref (b 15), .ref (b 16), .ref (b 17), .ref (b 18), .int (zb hs), .ref (b 19), .ref (b 20)])), ((b 0), .inl (cI, 6, .inl pa)), ((b 1), .inl (cI, 6, .inl lm)), ((b 2), .inl (cI, 12, .inl go)), ((b 15), .inl (cI, 12, .inl cn)), ((b 17), .inl (cI, 6, .inl tk)), ((b 18), .inl (cI, 6, .inl (yh3 G pa lm tk hv (G - i))))] H := by rw [e9]; exact hP
        have hD : va_D A [(h, .inr (8, [.int th, .int (nI G), .ref (b 0), .ref (b 1), .int (nI C), .ref (b 2), .ref (b 3), .ref (b 4), .ref (b 5), .ref (b 6), .ref (b 7), .ref (b 8), .ref (b 9), .ref (b 10), .ref (b 11), .ref (b 12), .ref (b 13), .ref (b 14), .ref (b 15), .ref (b 16), .ref (b 17), .ref (b 18), .int (zb hs), .ref (b 19), .ref (b 20)])), ((b 0), .inl (cI, 6, .inl pa)), ((b 1), .inl (cI, 6, .inl lm)), ((b 2), .inl (cI, 12, .inl go)), ((b 15), .inl (cI, 12, .inl cn)), ((b 17), .inl (cI, 6, .inl tk)), ((b 18), .inl (cI, 6, .inl (yh3 G pa lm tk hv (G - i))))] := by rw [e9]; exact hD
        exact ih ls H locs (by omega) (lv_sub hl [2, 3, 4, 0] rfl) hP hD hS
      · refine lv_aload_n hx hb d_MO_supplyOf_139 rfl (lv_at hl 1 rfl) ?_
        refine va_get (D := D) (ci := 8) (v := .ref (b 18)) (C := R_MO) (T := F_MO) (N := 25) hx hb (tb_in hok in_MO) (fun w h => h) hown hK hP 0 rfl rfl 21 (by decide) (hok _ t_726 rfl _) (fun _ h9 => h9) rfl d_MO_supplyOf_140 ?_
        refine lv_aload_n hx hb d_MO_supplyOf_143 rfl (lv_at hl 1 rfl) ?_
        refine va_get (D := D) (ci := 8) (v := .ref (b 0)) (C := R_MO) (T := F_MO) (N := 25) hx hb (tb_in hok in_MO) (fun w h => h) hown hK hP 0 rfl rfl 2 (by decide) (hok _ t_707 rfl _) (fun _ h9 => h9) rfl d_MO_supplyOf_144 ?_
        refine lv_iload_n hx hb d_MO_supplyOf_147 rfl (lv_at hl 4 rfl) ?_
        refine va_iald hx hb hK hP 1 0 rfl rfl (vp_in_nI (by omega) (by omega)) d_MO_supplyOf_148 ?_
        rw [nI_clamp (show i < 2 ^ 31 from by omega)]
        refine lv_aload_n hx hb d_MO_supplyOf_149 rfl (lv_at hl 1 rfl) ?_
        refine va_get (D := D) (ci := 8) (v := .ref (b 18)) (C := R_MO) (T := F_MO) (N := 25) hx hb (tb_in hok in_MO) (fun w h => h) hown hK hP 0 rfl rfl 21 (by decide) (hok _ t_726 rfl _) (fun _ h9 => h9) rfl d_MO_supplyOf_150 ?_
        refine lv_aload_n hx hb d_MO_supplyOf_153 rfl (lv_at hl 1 rfl) ?_
        refine va_get (D := D) (ci := 8) (v := .ref (b 0)) (C := R_MO) (T := F_MO) (N := 25) hx hb (tb_in hok in_MO) (fun w h => h) hown hK hP 0 rfl rfl 2 (by decide) (hok _ t_707 rfl _) (fun _ h9 => h9) rfl d_MO_supplyOf_154 ?_
        refine lv_iload_n hx hb d_MO_supplyOf_157 rfl (lv_at hl 4 rfl) ?_
        refine va_iald hx hb hK hP 1 0 rfl rfl (vp_in_nI (by omega) (by omega)) d_MO_supplyOf_158 ?_
        rw [nI_clamp (show i < 2 ^ 31 from by omega)]
        refine va_iald hx hb hK hP 6 0 rfl rfl (hpa i (Nat.pos_of_ne_zero (fun z => h136 (by rw [z]; decide))) (by omega)) d_MO_supplyOf_159 ?_
        refine lv_aload_n hx hb d_MO_supplyOf_160 rfl (lv_at hl 1 rfl) ?_
        refine va_get (D := D) (ci := 8) (v := .ref (b 18)) (C := R_MO) (T := F_MO) (N := 25) hx hb (tb_in hok in_MO) (fun w h => h) hown hK hP 0 rfl rfl 21 (by decide) (hok _ t_726 rfl _) (fun _ h9 => h9) rfl d_MO_supplyOf_161 ?_
        refine lv_iload_n hx hb d_MO_supplyOf_164 rfl (lv_at hl 4 rfl) ?_
        refine va_iald hx hb hK hP 6 0 rfl rfl (vp_in_nI (by omega) (by omega)) d_MO_supplyOf_165 ?_
        rw [nI_clamp (show i < 2 ^ 31 from by omega)]
        refine lv_iadd hx hb d_MO_supplyOf_166 ?_
        refine va_iast hx hb hK hP hD hS 6 0 rfl rfl (hpa i (Nat.pos_of_ne_zero (fun z => h136 (by rw [z]; decide))) (by omega)) d_MO_supplyOf_167 (fun H locs hP hD hS => ?_)
        have hP : va_P D cls [(h, .inr (8, [.int th, .int (nI G), .ref (b 0), .ref (b 1), .int (nI C), .ref (b 2), .ref (b 3), .ref (b 4), .ref (b 5), .ref (b 6), .ref (b 7), .ref (b 8), .ref (b 9), .ref (b 10), .ref (b 11), .ref (b 12), .ref (b 13), .ref (b 14), .ref (b 15), .ref (b 16), .ref (b 17), .ref (b 18), .int (zb hs), .ref (b 19), .ref (b 20)])), ((b 0), .inl (cI, 6, .inl pa)), ((b 1), .inl (cI, 6, .inl lm)), ((b 2), .inl (cI, 12, .inl go)), ((b 15), .inl (cI, 12, .inl cn)), ((b 17), .inl (cI, 6, .inl tk)), ((b 18), .inl (cI, 6, .inl (upd (upd (yh3 G pa lm tk hv (G - (i + 1))) i (ycl (lm i) (tk i) ((yh3 G pa lm tk hv (G - (i + 1))) i))) (Int32.toNatClampNeg (pa i)) (((upd (yh3 G pa lm tk hv (G - (i + 1))) i (ycl (lm i) (tk i) ((yh3 G pa lm tk hv (G - (i + 1))) i))) (Int32.toNatClampNeg (pa i))) + ((upd (yh3 G pa lm tk hv (G - (i + 1))) i (ycl (lm i) (tk i) ((yh3 G pa lm tk hv (G - (i + 1))) i))) i)))))] H := hP
        have hD : va_D A [(h, .inr (8, [.int th, .int (nI G), .ref (b 0), .ref (b 1), .int (nI C), .ref (b 2), .ref (b 3), .ref (b 4), .ref (b 5), .ref (b 6), .ref (b 7), .ref (b 8), .ref (b 9), .ref (b 10), .ref (b 11), .ref (b 12), .ref (b 13), .ref (b 14), .ref (b 15), .ref (b 16), .ref (b 17), .ref (b 18), .int (zb hs), .ref (b 19), .ref (b 20)])), ((b 0), .inl (cI, 6, .inl pa)), ((b 1), .inl (cI, 6, .inl lm)), ((b 2), .inl (cI, 12, .inl go)), ((b 15), .inl (cI, 12, .inl cn)), ((b 17), .inl (cI, 6, .inl tk)), ((b 18), .inl (cI, 6, .inl (upd (upd (yh3 G pa lm tk hv (G - (i + 1))) i (ycl (lm i) (tk i) ((yh3 G pa lm tk hv (G - (i + 1))) i))) (Int32.toNatClampNeg (pa i)) (((upd (yh3 G pa lm tk hv (G - (i + 1))) i (ycl (lm i) (tk i) ((yh3 G pa lm tk hv (G - (i + 1))) i))) (Int32.toNatClampNeg (pa i))) + ((upd (yh3 G pa lm tk hv (G - (i + 1))) i (ycl (lm i) (tk i) ((yh3 G pa lm tk hv (G - (i + 1))) i))) i)))))] := hD
        refine lv_iinc (v := ((nI i) + (-1))) hx hb d_MO_supplyOf_168 hl (k := 4) rfl (by rfl) (by decide) rfl (fun ls hl => ?_)
        have hl : lv_has ls 5 [(3, .int ((nI i) + (-1))), (4, .int ((lm i) - (tk i))), (0, .ref h), (1, .int set), (2, .int some0)] := hl
        refine lv_goto (tgt := 79) hx hb d_MO_supplyOf_171 (by decide) ?_
        have e9 : yh3 G pa lm tk hv (G - i) = upd (upd (yh3 G pa lm tk hv (G - (i + 1))) i (ycl (lm i) (tk i) ((yh3 G pa lm tk hv (G - (i + 1))) i))) (Int32.toNatClampNeg (pa i)) (((upd (yh3 G pa lm tk hv (G - (i + 1))) i (ycl (lm i) (tk i) ((yh3 G pa lm tk hv (G - (i + 1))) i))) (Int32.toNatClampNeg (pa i))) + ((upd (yh3 G pa lm tk hv (G - (i + 1))) i (ycl (lm i) (tk i) ((yh3 G pa lm tk hv (G - (i + 1))) i))) i)) := by
          rw [show G - i = (G - (i + 1)) + 1 from by omega]
          show yhs pa lm tk (G - 1 - (G - (i + 1))) _ = _
          rw [show G - 1 - (G - (i + 1)) = i from by omega]
          exact if_neg (fun z => h136 (by rw [z]; decide))
        have hP : va_P D cls [(h, .inr (8, [.int th, .int (nI G), .ref (b 0), .ref (b 1), .int (nI C), .ref (b 2), .ref (b 3), .ref (b 4), .ref (b 5), .ref (b 6), .ref (b 7), .ref (b 8), .ref (b 9), .ref (b 10), .ref (b 11), .ref (b 12), .ref (b 13), .ref (b 14), .ref (b 15), .ref (b 16), .ref (b 17), .ref (b 18), .int (zb hs), .ref (b 19), .ref (b 20)])), ((b 0), .inl (cI, 6, .inl pa)), ((b 1), .inl (cI, 6, .inl lm)), ((b 2), .inl (cI, 12, .inl go)), ((b 15), .inl (cI, 12, .inl cn)), ((b 17), .inl (cI, 6, .inl tk)), ((b 18), .inl (cI, 6, .inl (yh3 G pa lm tk hv (G - i))))] H := by rw [e9]; exact hP
        have hD : va_D A [(h, .inr (8, [.int th, .int (nI G), .ref (b 0), .ref (b 1), .int (nI C), .ref (b 2), .ref (b 3), .ref (b 4), .ref (b 5), .ref (b 6), .ref (b 7), .ref (b 8), .ref (b 9), .ref (b 10), .ref (b 11), .ref (b 12), .ref (b 13), .ref (b 14), .ref (b 15), .ref (b 16), .ref (b 17), .ref (b 18), .int (zb hs), .ref (b 19), .ref (b 20)])), ((b 0), .inl (cI, 6, .inl pa)), ((b 1), .inl (cI, 6, .inl lm)), ((b 2), .inl (cI, 12, .inl go)), ((b 15), .inl (cI, 12, .inl cn)), ((b 17), .inl (cI, 6, .inl tk)), ((b 18), .inl (cI, 6, .inl (yh3 G pa lm tk hv (G - i))))] := by rw [e9]; exact hD
        exact ih ls H locs (by omega) (lv_sub hl [2, 3, 4, 0] rfl) hP hD hS
    · refine lv_iload hx hb d_MO_supplyOf_112 (lv_at hl 0 rfl) ?_
      refine lv_aload_n hx hb d_MO_supplyOf_114 rfl (lv_at hl 1 rfl) ?_
      refine va_get (D := D) (ci := 8) (v := .ref (b 18)) (C := R_MO) (T := F_MO) (N := 25) hx hb (tb_in hok in_MO) (fun w h => h) hown hK hP 0 rfl rfl 21 (by decide) (hok _ t_726 rfl _) (fun _ h9 => h9) rfl d_MO_supplyOf_115 ?_
      refine lv_iload_n hx hb d_MO_supplyOf_118 rfl (lv_at hl 4 rfl) ?_
      refine va_iald hx hb hK hP 6 0 rfl rfl (vp_in_nI (by omega) (by omega)) d_MO_supplyOf_119 ?_
      rw [nI_clamp (show i < 2 ^ 31 from by omega)]
      refine lv_icmp_ge (tgt := 128) hx hb d_MO_supplyOf_120 (by decide) (fun h120 => ?_) (fun h120 => ?_)
      · refine lv_aload_n hx hb d_MO_supplyOf_128 rfl (lv_at hl 1 rfl) ?_
        refine va_get (D := D) (ci := 8) (v := .ref (b 18)) (C := R_MO) (T := F_MO) (N := 25) hx hb (tb_in hok in_MO) (fun w h => h) hown hK hP 0 rfl rfl 21 (by decide) (hok _ t_726 rfl _) (fun _ h9 => h9) rfl d_MO_supplyOf_129 ?_
        refine lv_iload_n hx hb d_MO_supplyOf_132 rfl (lv_at hl 4 rfl) ?_
        refine va_iald hx hb hK hP 6 0 rfl rfl (vp_in_nI (by omega) (by omega)) d_MO_supplyOf_133 ?_
        rw [nI_clamp (show i < 2 ^ 31 from by omega)]
        refine W.eq (g2 := F0 m 134 ls [.int (ycl (lm i) (tk i) ((yh3 G pa lm tk hv (G - (i + 1))) i)), .int (nI i), .ref (b 18)]) (by rw [show (ycl (lm i) (tk i) ((yh3 G pa lm tk hv (G - (i + 1))) i)) = ((yh3 G pa lm tk hv (G - (i + 1))) i) from (if_neg h109).trans (if_pos h120)]) ?_
        refine va_iast hx hb hK hP hD hS 6 0 rfl rfl (vp_in_nI (by omega) (by omega)) d_MO_supplyOf_134 (fun H locs hP hD hS => ?_)
        rw [nI_clamp (show i < 2 ^ 31 from by omega)] at hP hD
        have hP : va_P D cls [(h, .inr (8, [.int th, .int (nI G), .ref (b 0), .ref (b 1), .int (nI C), .ref (b 2), .ref (b 3), .ref (b 4), .ref (b 5), .ref (b 6), .ref (b 7), .ref (b 8), .ref (b 9), .ref (b 10), .ref (b 11), .ref (b 12), .ref (b 13), .ref (b 14), .ref (b 15), .ref (b 16), .ref (b 17), .ref (b 18), .int (zb hs), .ref (b 19), .ref (b 20)])), ((b 0), .inl (cI, 6, .inl pa)), ((b 1), .inl (cI, 6, .inl lm)), ((b 2), .inl (cI, 12, .inl go)), ((b 15), .inl (cI, 12, .inl cn)), ((b 17), .inl (cI, 6, .inl tk)), ((b 18), .inl (cI, 6, .inl (upd (yh3 G pa lm tk hv (G - (i + 1))) i (ycl (lm i) (tk i) ((yh3 G pa lm tk hv (G - (i + 1))) i)))))] H := hP
        have hD : va_D A [(h, .inr (8, [.int th, .int (nI G), .ref (b 0), .ref (b 1), .int (nI C), .ref (b 2), .ref (b 3), .ref (b 4), .ref (b 5), .ref (b 6), .ref (b 7), .ref (b 8), .ref (b 9), .ref (b 10), .ref (b 11), .ref (b 12), .ref (b 13), .ref (b 14), .ref (b 15), .ref (b 16), .ref (b 17), .ref (b 18), .int (zb hs), .ref (b 19), .ref (b 20)])), ((b 0), .inl (cI, 6, .inl pa)), ((b 1), .inl (cI, 6, .inl lm)), ((b 2), .inl (cI, 12, .inl go)), ((b 15), .inl (cI, 12, .inl cn)), ((b 17), .inl (cI, 6, .inl tk)), ((b 18), .inl (cI, 6, .inl (upd (yh3 G pa lm tk hv (G - (i + 1))) i (ycl (lm i) (tk i) ((yh3 G pa lm tk hv (G - (i + 1))) i)))))] := hD
        refine lv_iload_n hx hb d_MO_supplyOf_135 rfl (lv_at hl 4 rfl) ?_
        refine lv_if_le (tgt := 168) hx hb d_MO_supplyOf_136 (by decide) (fun h136 => ?_) (fun h136 => ?_)
        · refine lv_iinc (v := ((nI i) + (-1))) hx hb d_MO_supplyOf_168 hl (k := 4) rfl (by rfl) (by decide) rfl (fun ls hl => ?_)
          have hl : lv_has ls 5 [(3, .int ((nI i) + (-1))), (4, .int ((lm i) - (tk i))), (0, .ref h), (1, .int set), (2, .int some0)] := hl
          refine lv_goto (tgt := 79) hx hb d_MO_supplyOf_171 (by decide) ?_
          have e9 : yh3 G pa lm tk hv (G - i) = upd (yh3 G pa lm tk hv (G - (i + 1))) i (ycl (lm i) (tk i) ((yh3 G pa lm tk hv (G - (i + 1))) i)) := by
            rw [show G - i = (G - (i + 1)) + 1 from by omega]
            show yhs pa lm tk (G - 1 - (G - (i + 1))) _ = _
            rw [show G - 1 - (G - (i + 1)) = i from by omega]
            exact if_pos (Classical.byContradiction (fun z => absurd h136 (nI_nle (by omega) (by omega))))
          have hP : va_P D cls [(h, .inr (8, [.int th, .int (nI G), .ref (b 0), .ref (b 1), .int (nI C), .ref (b 2), .ref (b 3), .ref (b 4), .ref (b 5), .ref (b 6), .ref (b 7), .ref (b 8), .ref (b 9), .ref (b 10), .ref (b 11), .ref (b 12), .ref (b 13), .ref (b 14), .ref (b 15), .ref (b 16), .ref (b 17), .ref (b 18), .int (zb hs), .ref (b 19), .ref (b 20)])), ((b 0), .inl (cI, 6, .inl pa)), ((b 1), .inl (cI, 6, .inl lm)), ((b 2), .inl (cI, 12, .inl go)), ((b 15), .inl (cI, 12, .inl cn)), ((b 17), .inl (cI, 6, .inl tk)), ((b 18), .inl (cI, 6, .inl (yh3 G pa lm tk hv (G - i))))] H := by rw [e9]; exact hP
          have hD : va_D A [(h, .inr (8, [.int th, .int (nI G), .ref (b 0), .ref (b 1), .int (nI C), .ref (b 2), .ref (b 3), .ref (b 4), .ref (b 5), .ref (b 6), .ref (b 7), .ref (b 8), .ref (b 9), .ref (b 10), .ref (b 11), .ref (b 12), .ref (b 13), .ref (b 14), .ref (b 15), .ref (b 16), .ref (b 17), .ref (b 18), .int (zb hs), .ref (b 19), .ref (b 20)])), ((b 0), .inl (cI, 6, .inl pa)), ((b 1), .inl (cI, 6, .inl lm)), ((b 2), .inl (cI, 12, .inl go)), ((b 15), .inl (cI, 12, .inl cn)), ((b 17), .inl (cI, 6, .inl tk)), ((b 18), .inl (cI, 6, .inl (yh3 G pa lm tk hv (G - i))))] := by rw [e9]; exact hD
          exact ih ls H locs (by omega) (lv_sub hl [2, 3, 4, 0] rfl) hP hD hS
        · refine lv_aload_n hx hb d_MO_supplyOf_139 rfl (lv_at hl 1 rfl) ?_
          refine va_get (D := D) (ci := 8) (v := .ref (b 18)) (C := R_MO) (T := F_MO) (N := 25) hx hb (tb_in hok in_MO) (fun w h => h) hown hK hP 0 rfl rfl 21 (by decide) (hok _ t_726 rfl _) (fun _ h9 => h9) rfl d_MO_supplyOf_140 ?_
          refine lv_aload_n hx hb d_MO_supplyOf_143 rfl (lv_at hl 1 rfl) ?_
          refine va_get (D := D) (ci := 8) (v := .ref (b 0)) (C := R_MO) (T := F_MO) (N := 25) hx hb (tb_in hok in_MO) (fun w h => h) hown hK hP 0 rfl rfl 2 (by decide) (hok _ t_707 rfl _) (fun _ h9 => h9) rfl d_MO_supplyOf_144 ?_
          refine lv_iload_n hx hb d_MO_supplyOf_147 rfl (lv_at hl 4 rfl) ?_
          refine va_iald hx hb hK hP 1 0 rfl rfl (vp_in_nI (by omega) (by omega)) d_MO_supplyOf_148 ?_
          rw [nI_clamp (show i < 2 ^ 31 from by omega)]
          refine lv_aload_n hx hb d_MO_supplyOf_149 rfl (lv_at hl 1 rfl) ?_
          refine va_get (D := D) (ci := 8) (v := .ref (b 18)) (C := R_MO) (T := F_MO) (N := 25) hx hb (tb_in hok in_MO) (fun w h => h) hown hK hP 0 rfl rfl 21 (by decide) (hok _ t_726 rfl _) (fun _ h9 => h9) rfl d_MO_supplyOf_150 ?_
          refine lv_aload_n hx hb d_MO_supplyOf_153 rfl (lv_at hl 1 rfl) ?_
          refine va_get (D := D) (ci := 8) (v := .ref (b 0)) (C := R_MO) (T := F_MO) (N := 25) hx hb (tb_in hok in_MO) (fun w h => h) hown hK hP 0 rfl rfl 2 (by decide) (hok _ t_707 rfl _) (fun _ h9 => h9) rfl d_MO_supplyOf_154 ?_
          refine lv_iload_n hx hb d_MO_supplyOf_157 rfl (lv_at hl 4 rfl) ?_
          refine va_iald hx hb hK hP 1 0 rfl rfl (vp_in_nI (by omega) (by omega)) d_MO_supplyOf_158 ?_
          rw [nI_clamp (show i < 2 ^ 31 from by omega)]
          refine va_iald hx hb hK hP 6 0 rfl rfl (hpa i (Nat.pos_of_ne_zero (fun z => h136 (by rw [z]; decide))) (by omega)) d_MO_supplyOf_159 ?_
          refine lv_aload_n hx hb d_MO_supplyOf_160 rfl (lv_at hl 1 rfl) ?_
          refine va_get (D := D) (ci := 8) (v := .ref (b 18)) (C := R_MO) (T := F_MO) (N := 25) hx hb (tb_in hok in_MO) (fun w h => h) hown hK hP 0 rfl rfl 21 (by decide) (hok _ t_726 rfl _) (fun _ h9 => h9) rfl d_MO_supplyOf_161 ?_
          refine lv_iload_n hx hb d_MO_supplyOf_164 rfl (lv_at hl 4 rfl) ?_
          refine va_iald hx hb hK hP 6 0 rfl rfl (vp_in_nI (by omega) (by omega)) d_MO_supplyOf_165 ?_
          rw [nI_clamp (show i < 2 ^ 31 from by omega)]
          refine lv_iadd hx hb d_MO_supplyOf_166 ?_
          refine va_iast hx hb hK hP hD hS 6 0 rfl rfl (hpa i (Nat.pos_of_ne_zero (fun z => h136 (by rw [z]; decide))) (by omega)) d_MO_supplyOf_167 (fun H locs hP hD hS => ?_)
          have hP : va_P D cls [(h, .inr (8, [.int th, .int (nI G), .ref (b 0), .ref (b 1), .int (nI C), .ref (b 2), .ref (b 3), .ref (b 4), .ref (b 5), .ref (b 6), .ref (b 7), .ref (b 8), .ref (b 9), .ref (b 10), .ref (b 11), .ref (b 12), .ref (b 13), .ref (b 14), .ref (b 15), .ref (b 16), .ref (b 17), .ref (b 18), .int (zb hs), .ref (b 19), .ref (b 20)])), ((b 0), .inl (cI, 6, .inl pa)), ((b 1), .inl (cI, 6, .inl lm)), ((b 2), .inl (cI, 12, .inl go)), ((b 15), .inl (cI, 12, .inl cn)), ((b 17), .inl (cI, 6, .inl tk)), ((b 18), .inl (cI, 6, .inl (upd (upd (yh3 G pa lm tk hv (G - (i + 1))) i (ycl (lm i) (tk i) ((yh3 G pa lm tk hv (G - (i + 1))) i))) (Int32.toNatClampNeg (pa i)) (((upd (yh3 G pa lm tk hv (G - (i + 1))) i (ycl (lm i) (tk i) ((yh3 G pa lm tk hv (G - (i + 1))) i))) (Int32.toNatClampNeg (pa i))) + ((upd (yh3 G pa lm tk hv (G - (i + 1))) i (ycl (lm i) (tk i) ((yh3 G pa lm tk hv (G - (i + 1))) i))) i)))))] H := hP
          have hD : va_D A [(h, .inr (8, [.int th, .int (nI G), .ref (b 0), .ref (b 1), .int (nI C), .ref (b 2), .ref (b 3), .ref (b 4), .ref (b 5), .ref (b 6), .ref (b 7), .ref (b 8), .ref (b 9), .ref (b 10), .ref (b 11), .ref (b 12), .ref (b 13), .ref (b 14), .ref (b 15), .ref (b 16), .ref (b 17), .ref (b 18), .int (zb hs), .ref (b 19), .ref (b 20)])), ((b 0), .inl (cI, 6, .inl pa)), ((b 1), .inl (cI, 6, .inl lm)), ((b 2), .inl (cI, 12, .inl go)), ((b 15), .inl (cI, 12, .inl cn)), ((b 17), .inl (cI, 6, .inl tk)), ((b 18), .inl (cI, 6, .inl (upd (upd (yh3 G pa lm tk hv (G - (i + 1))) i (ycl (lm i) (tk i) ((yh3 G pa lm tk hv (G - (i + 1))) i))) (Int32.toNatClampNeg (pa i)) (((upd (yh3 G pa lm tk hv (G - (i + 1))) i (ycl (lm i) (tk i) ((yh3 G pa lm tk hv (G - (i + 1))) i))) (Int32.toNatClampNeg (pa i))) + ((upd (yh3 G pa lm tk hv (G - (i + 1))) i (ycl (lm i) (tk i) ((yh3 G pa lm tk hv (G - (i + 1))) i))) i)))))] := hD
          refine lv_iinc (v := ((nI i) + (-1))) hx hb d_MO_supplyOf_168 hl (k := 4) rfl (by rfl) (by decide) rfl (fun ls hl => ?_)
          have hl : lv_has ls 5 [(3, .int ((nI i) + (-1))), (4, .int ((lm i) - (tk i))), (0, .ref h), (1, .int set), (2, .int some0)] := hl
          refine lv_goto (tgt := 79) hx hb d_MO_supplyOf_171 (by decide) ?_
          have e9 : yh3 G pa lm tk hv (G - i) = upd (upd (yh3 G pa lm tk hv (G - (i + 1))) i (ycl (lm i) (tk i) ((yh3 G pa lm tk hv (G - (i + 1))) i))) (Int32.toNatClampNeg (pa i)) (((upd (yh3 G pa lm tk hv (G - (i + 1))) i (ycl (lm i) (tk i) ((yh3 G pa lm tk hv (G - (i + 1))) i))) (Int32.toNatClampNeg (pa i))) + ((upd (yh3 G pa lm tk hv (G - (i + 1))) i (ycl (lm i) (tk i) ((yh3 G pa lm tk hv (G - (i + 1))) i))) i)) := by
            rw [show G - i = (G - (i + 1)) + 1 from by omega]
            show yhs pa lm tk (G - 1 - (G - (i + 1))) _ = _
            rw [show G - 1 - (G - (i + 1)) = i from by omega]
            exact if_neg (fun z => h136 (by rw [z]; decide))
          have hP : va_P D cls [(h, .inr (8, [.int th, .int (nI G), .ref (b 0), .ref (b 1), .int (nI C), .ref (b 2), .ref (b 3), .ref (b 4), .ref (b 5), .ref (b 6), .ref (b 7), .ref (b 8), .ref (b 9), .ref (b 10), .ref (b 11), .ref (b 12), .ref (b 13), .ref (b 14), .ref (b 15), .ref (b 16), .ref (b 17), .ref (b 18), .int (zb hs), .ref (b 19), .ref (b 20)])), ((b 0), .inl (cI, 6, .inl pa)), ((b 1), .inl (cI, 6, .inl lm)), ((b 2), .inl (cI, 12, .inl go)), ((b 15), .inl (cI, 12, .inl cn)), ((b 17), .inl (cI, 6, .inl tk)), ((b 18), .inl (cI, 6, .inl (yh3 G pa lm tk hv (G - i))))] H := by rw [e9]; exact hP
          have hD : va_D A [(h, .inr (8, [.int th, .int (nI G), .ref (b 0), .ref (b 1), .int (nI C), .ref (b 2), .ref (b 3), .ref (b 4), .ref (b 5), .ref (b 6), .ref (b 7), .ref (b 8), .ref (b 9), .ref (b 10), .ref (b 11), .ref (b 12), .ref (b 13), .ref (b 14), .ref (b 15), .ref (b 16), .ref (b 17), .ref (b 18), .int (zb hs), .ref (b 19), .ref (b 20)])), ((b 0), .inl (cI, 6, .inl pa)), ((b 1), .inl (cI, 6, .inl lm)), ((b 2), .inl (cI, 12, .inl go)), ((b 15), .inl (cI, 12, .inl cn)), ((b 17), .inl (cI, 6, .inl tk)), ((b 18), .inl (cI, 6, .inl (yh3 G pa lm tk hv (G - i))))] := by rw [e9]; exact hD
          exact ih ls H locs (by omega) (lv_sub hl [2, 3, 4, 0] rfl) hP hD hS
      · refine lv_iload hx hb d_MO_supplyOf_123 (lv_at hl 0 rfl) ?_
        refine lv_goto (tgt := 134) hx hb d_MO_supplyOf_125 (by decide) ?_
        refine W.eq (g2 := F0 m 134 ls [.int (ycl (lm i) (tk i) ((yh3 G pa lm tk hv (G - (i + 1))) i)), .int (nI i), .ref (b 18)]) (by rw [show (ycl (lm i) (tk i) ((yh3 G pa lm tk hv (G - (i + 1))) i)) = ((lm i) - (tk i)) from (if_neg h109).trans (if_neg h120)]) ?_
        refine va_iast hx hb hK hP hD hS 6 0 rfl rfl (vp_in_nI (by omega) (by omega)) d_MO_supplyOf_134 (fun H locs hP hD hS => ?_)
        rw [nI_clamp (show i < 2 ^ 31 from by omega)] at hP hD
        have hP : va_P D cls [(h, .inr (8, [.int th, .int (nI G), .ref (b 0), .ref (b 1), .int (nI C), .ref (b 2), .ref (b 3), .ref (b 4), .ref (b 5), .ref (b 6), .ref (b 7), .ref (b 8), .ref (b 9), .ref (b 10), .ref (b 11), .ref (b 12), .ref (b 13), .ref (b 14), .ref (b 15), .ref (b 16), .ref (b 17), .ref (b 18), .int (zb hs), .ref (b 19), .ref (b 20)])), ((b 0), .inl (cI, 6, .inl pa)), ((b 1), .inl (cI, 6, .inl lm)), ((b 2), .inl (cI, 12, .inl go)), ((b 15), .inl (cI, 12, .inl cn)), ((b 17), .inl (cI, 6, .inl tk)), ((b 18), .inl (cI, 6, .inl (upd (yh3 G pa lm tk hv (G - (i + 1))) i (ycl (lm i) (tk i) ((yh3 G pa lm tk hv (G - (i + 1))) i)))))] H := hP
        have hD : va_D A [(h, .inr (8, [.int th, .int (nI G), .ref (b 0), .ref (b 1), .int (nI C), .ref (b 2), .ref (b 3), .ref (b 4), .ref (b 5), .ref (b 6), .ref (b 7), .ref (b 8), .ref (b 9), .ref (b 10), .ref (b 11), .ref (b 12), .ref (b 13), .ref (b 14), .ref (b 15), .ref (b 16), .ref (b 17), .ref (b 18), .int (zb hs), .ref (b 19), .ref (b 20)])), ((b 0), .inl (cI, 6, .inl pa)), ((b 1), .inl (cI, 6, .inl lm)), ((b 2), .inl (cI, 12, .inl go)), ((b 15), .inl (cI, 12, .inl cn)), ((b 17), .inl (cI, 6, .inl tk)), ((b 18), .inl (cI, 6, .inl (upd (yh3 G pa lm tk hv (G - (i + 1))) i (ycl (lm i) (tk i) ((yh3 G pa lm tk hv (G - (i + 1))) i)))))] := hD
        refine lv_iload_n hx hb d_MO_supplyOf_135 rfl (lv_at hl 4 rfl) ?_
        refine lv_if_le (tgt := 168) hx hb d_MO_supplyOf_136 (by decide) (fun h136 => ?_) (fun h136 => ?_)
        · refine lv_iinc (v := ((nI i) + (-1))) hx hb d_MO_supplyOf_168 hl (k := 4) rfl (by rfl) (by decide) rfl (fun ls hl => ?_)
          have hl : lv_has ls 5 [(3, .int ((nI i) + (-1))), (4, .int ((lm i) - (tk i))), (0, .ref h), (1, .int set), (2, .int some0)] := hl
          refine lv_goto (tgt := 79) hx hb d_MO_supplyOf_171 (by decide) ?_
          have e9 : yh3 G pa lm tk hv (G - i) = upd (yh3 G pa lm tk hv (G - (i + 1))) i (ycl (lm i) (tk i) ((yh3 G pa lm tk hv (G - (i + 1))) i)) := by
            rw [show G - i = (G - (i + 1)) + 1 from by omega]
            show yhs pa lm tk (G - 1 - (G - (i + 1))) _ = _
            rw [show G - 1 - (G - (i + 1)) = i from by omega]
            exact if_pos (Classical.byContradiction (fun z => absurd h136 (nI_nle (by omega) (by omega))))
          have hP : va_P D cls [(h, .inr (8, [.int th, .int (nI G), .ref (b 0), .ref (b 1), .int (nI C), .ref (b 2), .ref (b 3), .ref (b 4), .ref (b 5), .ref (b 6), .ref (b 7), .ref (b 8), .ref (b 9), .ref (b 10), .ref (b 11), .ref (b 12), .ref (b 13), .ref (b 14), .ref (b 15), .ref (b 16), .ref (b 17), .ref (b 18), .int (zb hs), .ref (b 19), .ref (b 20)])), ((b 0), .inl (cI, 6, .inl pa)), ((b 1), .inl (cI, 6, .inl lm)), ((b 2), .inl (cI, 12, .inl go)), ((b 15), .inl (cI, 12, .inl cn)), ((b 17), .inl (cI, 6, .inl tk)), ((b 18), .inl (cI, 6, .inl (yh3 G pa lm tk hv (G - i))))] H := by rw [e9]; exact hP
          have hD : va_D A [(h, .inr (8, [.int th, .int (nI G), .ref (b 0), .ref (b 1), .int (nI C), .ref (b 2), .ref (b 3), .ref (b 4), .ref (b 5), .ref (b 6), .ref (b 7), .ref (b 8), .ref (b 9), .ref (b 10), .ref (b 11), .ref (b 12), .ref (b 13), .ref (b 14), .ref (b 15), .ref (b 16), .ref (b 17), .ref (b 18), .int (zb hs), .ref (b 19), .ref (b 20)])), ((b 0), .inl (cI, 6, .inl pa)), ((b 1), .inl (cI, 6, .inl lm)), ((b 2), .inl (cI, 12, .inl go)), ((b 15), .inl (cI, 12, .inl cn)), ((b 17), .inl (cI, 6, .inl tk)), ((b 18), .inl (cI, 6, .inl (yh3 G pa lm tk hv (G - i))))] := by rw [e9]; exact hD
          exact ih ls H locs (by omega) (lv_sub hl [2, 3, 4, 0] rfl) hP hD hS
        · refine lv_aload_n hx hb d_MO_supplyOf_139 rfl (lv_at hl 1 rfl) ?_
          refine va_get (D := D) (ci := 8) (v := .ref (b 18)) (C := R_MO) (T := F_MO) (N := 25) hx hb (tb_in hok in_MO) (fun w h => h) hown hK hP 0 rfl rfl 21 (by decide) (hok _ t_726 rfl _) (fun _ h9 => h9) rfl d_MO_supplyOf_140 ?_
          refine lv_aload_n hx hb d_MO_supplyOf_143 rfl (lv_at hl 1 rfl) ?_
          refine va_get (D := D) (ci := 8) (v := .ref (b 0)) (C := R_MO) (T := F_MO) (N := 25) hx hb (tb_in hok in_MO) (fun w h => h) hown hK hP 0 rfl rfl 2 (by decide) (hok _ t_707 rfl _) (fun _ h9 => h9) rfl d_MO_supplyOf_144 ?_
          refine lv_iload_n hx hb d_MO_supplyOf_147 rfl (lv_at hl 4 rfl) ?_
          refine va_iald hx hb hK hP 1 0 rfl rfl (vp_in_nI (by omega) (by omega)) d_MO_supplyOf_148 ?_
          rw [nI_clamp (show i < 2 ^ 31 from by omega)]
          refine lv_aload_n hx hb d_MO_supplyOf_149 rfl (lv_at hl 1 rfl) ?_
          refine va_get (D := D) (ci := 8) (v := .ref (b 18)) (C := R_MO) (T := F_MO) (N := 25) hx hb (tb_in hok in_MO) (fun w h => h) hown hK hP 0 rfl rfl 21 (by decide) (hok _ t_726 rfl _) (fun _ h9 => h9) rfl d_MO_supplyOf_150 ?_
          refine lv_aload_n hx hb d_MO_supplyOf_153 rfl (lv_at hl 1 rfl) ?_
          refine va_get (D := D) (ci := 8) (v := .ref (b 0)) (C := R_MO) (T := F_MO) (N := 25) hx hb (tb_in hok in_MO) (fun w h => h) hown hK hP 0 rfl rfl 2 (by decide) (hok _ t_707 rfl _) (fun _ h9 => h9) rfl d_MO_supplyOf_154 ?_
          refine lv_iload_n hx hb d_MO_supplyOf_157 rfl (lv_at hl 4 rfl) ?_
          refine va_iald hx hb hK hP 1 0 rfl rfl (vp_in_nI (by omega) (by omega)) d_MO_supplyOf_158 ?_
          rw [nI_clamp (show i < 2 ^ 31 from by omega)]
          refine va_iald hx hb hK hP 6 0 rfl rfl (hpa i (Nat.pos_of_ne_zero (fun z => h136 (by rw [z]; decide))) (by omega)) d_MO_supplyOf_159 ?_
          refine lv_aload_n hx hb d_MO_supplyOf_160 rfl (lv_at hl 1 rfl) ?_
          refine va_get (D := D) (ci := 8) (v := .ref (b 18)) (C := R_MO) (T := F_MO) (N := 25) hx hb (tb_in hok in_MO) (fun w h => h) hown hK hP 0 rfl rfl 21 (by decide) (hok _ t_726 rfl _) (fun _ h9 => h9) rfl d_MO_supplyOf_161 ?_
          refine lv_iload_n hx hb d_MO_supplyOf_164 rfl (lv_at hl 4 rfl) ?_
          refine va_iald hx hb hK hP 6 0 rfl rfl (vp_in_nI (by omega) (by omega)) d_MO_supplyOf_165 ?_
          rw [nI_clamp (show i < 2 ^ 31 from by omega)]
          refine lv_iadd hx hb d_MO_supplyOf_166 ?_
          refine va_iast hx hb hK hP hD hS 6 0 rfl rfl (hpa i (Nat.pos_of_ne_zero (fun z => h136 (by rw [z]; decide))) (by omega)) d_MO_supplyOf_167 (fun H locs hP hD hS => ?_)
          have hP : va_P D cls [(h, .inr (8, [.int th, .int (nI G), .ref (b 0), .ref (b 1), .int (nI C), .ref (b 2), .ref (b 3), .ref (b 4), .ref (b 5), .ref (b 6), .ref (b 7), .ref (b 8), .ref (b 9), .ref (b 10), .ref (b 11), .ref (b 12), .ref (b 13), .ref (b 14), .ref (b 15), .ref (b 16), .ref (b 17), .ref (b 18), .int (zb hs), .ref (b 19), .ref (b 20)])), ((b 0), .inl (cI, 6, .inl pa)), ((b 1), .inl (cI, 6, .inl lm)), ((b 2), .inl (cI, 12, .inl go)), ((b 15), .inl (cI, 12, .inl cn)), ((b 17), .inl (cI, 6, .inl tk)), ((b 18), .inl (cI, 6, .inl (upd (upd (yh3 G pa lm tk hv (G - (i + 1))) i (ycl (lm i) (tk i) ((yh3 G pa lm tk hv (G - (i + 1))) i))) (Int32.toNatClampNeg (pa i)) (((upd (yh3 G pa lm tk hv (G - (i + 1))) i (ycl (lm i) (tk i) ((yh3 G pa lm tk hv (G - (i + 1))) i))) (Int32.toNatClampNeg (pa i))) + ((upd (yh3 G pa lm tk hv (G - (i + 1))) i (ycl (lm i) (tk i) ((yh3 G pa lm tk hv (G - (i + 1))) i))) i)))))] H := hP
          have hD : va_D A [(h, .inr (8, [.int th, .int (nI G), .ref (b 0), .ref (b 1), .int (nI C), .ref (b 2), .ref (b 3), .ref (b 4), .ref (b 5), .ref (b 6), .ref (b 7), .ref (b 8), .ref (b 9), .ref (b 10), .ref (b 11), .ref (b 12), .ref (b 13), .ref (b 14), .ref (b 15), .ref (b 16), .ref (b 17), .ref (b 18), .int (zb hs), .ref (b 19), .ref (b 20)])), ((b 0), .inl (cI, 6, .inl pa)), ((b 1), .inl (cI, 6, .inl lm)), ((b 2), .inl (cI, 12, .inl go)), ((b 15), .inl (cI, 12, .inl cn)), ((b 17), .inl (cI, 6, .inl tk)), ((b 18), .inl (cI, 6, .inl (upd (upd (yh3 G pa lm tk hv (G - (i + 1))) i (ycl (lm i) (tk i) ((yh3 G pa lm tk hv (G - (i + 1))) i))) (Int32.toNatClampNeg (pa i)) (((upd (yh3 G pa lm tk hv (G - (i + 1))) i (ycl (lm i) (tk i) ((yh3 G pa lm tk hv (G - (i + 1))) i))) (Int32.toNatClampNeg (pa i))) + ((upd (yh3 G pa lm tk hv (G - (i + 1))) i (ycl (lm i) (tk i) ((yh3 G pa lm tk hv (G - (i + 1))) i))) i)))))] := hD
          refine lv_iinc (v := ((nI i) + (-1))) hx hb d_MO_supplyOf_168 hl (k := 4) rfl (by rfl) (by decide) rfl (fun ls hl => ?_)
          have hl : lv_has ls 5 [(3, .int ((nI i) + (-1))), (4, .int ((lm i) - (tk i))), (0, .ref h), (1, .int set), (2, .int some0)] := hl
          refine lv_goto (tgt := 79) hx hb d_MO_supplyOf_171 (by decide) ?_
          have e9 : yh3 G pa lm tk hv (G - i) = upd (upd (yh3 G pa lm tk hv (G - (i + 1))) i (ycl (lm i) (tk i) ((yh3 G pa lm tk hv (G - (i + 1))) i))) (Int32.toNatClampNeg (pa i)) (((upd (yh3 G pa lm tk hv (G - (i + 1))) i (ycl (lm i) (tk i) ((yh3 G pa lm tk hv (G - (i + 1))) i))) (Int32.toNatClampNeg (pa i))) + ((upd (yh3 G pa lm tk hv (G - (i + 1))) i (ycl (lm i) (tk i) ((yh3 G pa lm tk hv (G - (i + 1))) i))) i)) := by
            rw [show G - i = (G - (i + 1)) + 1 from by omega]
            show yhs pa lm tk (G - 1 - (G - (i + 1))) _ = _
            rw [show G - 1 - (G - (i + 1)) = i from by omega]
            exact if_neg (fun z => h136 (by rw [z]; decide))
          have hP : va_P D cls [(h, .inr (8, [.int th, .int (nI G), .ref (b 0), .ref (b 1), .int (nI C), .ref (b 2), .ref (b 3), .ref (b 4), .ref (b 5), .ref (b 6), .ref (b 7), .ref (b 8), .ref (b 9), .ref (b 10), .ref (b 11), .ref (b 12), .ref (b 13), .ref (b 14), .ref (b 15), .ref (b 16), .ref (b 17), .ref (b 18), .int (zb hs), .ref (b 19), .ref (b 20)])), ((b 0), .inl (cI, 6, .inl pa)), ((b 1), .inl (cI, 6, .inl lm)), ((b 2), .inl (cI, 12, .inl go)), ((b 15), .inl (cI, 12, .inl cn)), ((b 17), .inl (cI, 6, .inl tk)), ((b 18), .inl (cI, 6, .inl (yh3 G pa lm tk hv (G - i))))] H := by rw [e9]; exact hP
          have hD : va_D A [(h, .inr (8, [.int th, .int (nI G), .ref (b 0), .ref (b 1), .int (nI C), .ref (b 2), .ref (b 3), .ref (b 4), .ref (b 5), .ref (b 6), .ref (b 7), .ref (b 8), .ref (b 9), .ref (b 10), .ref (b 11), .ref (b 12), .ref (b 13), .ref (b 14), .ref (b 15), .ref (b 16), .ref (b 17), .ref (b 18), .int (zb hs), .ref (b 19), .ref (b 20)])), ((b 0), .inl (cI, 6, .inl pa)), ((b 1), .inl (cI, 6, .inl lm)), ((b 2), .inl (cI, 12, .inl go)), ((b 15), .inl (cI, 12, .inl cn)), ((b 17), .inl (cI, 6, .inl tk)), ((b 18), .inl (cI, 6, .inl (yh3 G pa lm tk hv (G - i))))] := by rw [e9]; exact hD
          exact ih ls H locs (by omega) (lv_sub hl [2, 3, 4, 0] rfl) hP hD hS
set_option maxHeartbeats 4000000 in
set_option maxRecDepth 100000 in
theorem m_MO_supplyOf (l : Launch) (D : va_G) (cI cJ cZ cP cS : ClassId) (h : Nat) (b : Nat → Nat) (th : Int32) (G C : Nat) (hs : Bool) (set some0 : Int32) (pa lm go cn tk hv : Nat → Int32) (hG : G ≤ 6) (hC : C ≤ 12) (hpa : ∀ j, 0 < j → j < G → vp_in (pa j) 6) (hgo : ∀ c, c < 12 → vp_in (go c) 6) (sz : Nat) : Met l y_MO_supplyOf [Cond.code y_MO_supplyOf b_MO_supplyOf 5 (some .int)] ro_MO_supplyOf (va_Pc [.ref h, .int set, .int some0] (fun U => U.heap.size = sz ∧ tb_ok U ∧ va_P D cls [(h, .inr (8, [.int th, .int (nI G), .ref (b 0), .ref (b 1), .int (nI C), .ref (b 2), .ref (b 3), .ref (b 4), .ref (b 5), .ref (b 6), .ref (b 7), .ref (b 8), .ref (b 9), .ref (b 10), .ref (b 11), .ref (b 12), .ref (b 13), .ref (b 14), .ref (b 15), .ref (b 16), .ref (b 17), .ref (b 18), .int (zb hs), .ref (b 19), .ref (b 20)])), ((b 0), .inl (cI, 6, .inl pa)), ((b 1), .inl (cI, 6, .inl lm)), ((b 2), .inl (cI, 12, .inl go)), ((b 15), .inl (cI, 12, .inl cn)), ((b 17), .inl (cI, 6, .inl tk)), ((b 18), .inl (cI, 6, .inl hv))] U.heap ∧ va_K D cls (tyl cI cJ cZ cP cS) U ∧ va_D (fun _ => True) [(h, .inr (8, [.int th, .int (nI G), .ref (b 0), .ref (b 1), .int (nI C), .ref (b 2), .ref (b 3), .ref (b 4), .ref (b 5), .ref (b 6), .ref (b 7), .ref (b 8), .ref (b 9), .ref (b 10), .ref (b 11), .ref (b 12), .ref (b 13), .ref (b 14), .ref (b 15), .ref (b 16), .ref (b 17), .ref (b 18), .int (zb hs), .ref (b 19), .ref (b 20)])), ((b 0), .inl (cI, 6, .inl pa)), ((b 1), .inl (cI, 6, .inl lm)), ((b 2), .inl (cI, 12, .inl go)), ((b 15), .inl (cI, 12, .inl cn)), ((b 17), .inl (cI, 6, .inl tk)), ((b 18), .inl (cI, 6, .inl hv))])) (zv (some (.int ((yhv G C pa lm tk go cn set some0 hv) 0))) D [(h, .inr (8, [.int th, .int (nI G), .ref (b 0), .ref (b 1), .int (nI C), .ref (b 2), .ref (b 3), .ref (b 4), .ref (b 5), .ref (b 6), .ref (b 7), .ref (b 8), .ref (b 9), .ref (b 10), .ref (b 11), .ref (b 12), .ref (b 13), .ref (b 14), .ref (b 15), .ref (b 16), .ref (b 17), .ref (b 18), .int (zb hs), .ref (b 19), .ref (b 20)])), ((b 0), .inl (cI, 6, .inl pa)), ((b 1), .inl (cI, 6, .inl lm)), ((b 2), .inl (cI, 12, .inl go)), ((b 15), .inl (cI, 12, .inl cn)), ((b 17), .inl (cI, 6, .inl tk)), ((b 18), .inl (cI, 6, .inl (yhv G C pa lm tk go cn set some0 hv)))] (va_A [(h, .inr (8, [.int th, .int (nI G), .ref (b 0), .ref (b 1), .int (nI C), .ref (b 2), .ref (b 3), .ref (b 4), .ref (b 5), .ref (b 6), .ref (b 7), .ref (b 8), .ref (b 9), .ref (b 10), .ref (b 11), .ref (b 12), .ref (b 13), .ref (b 14), .ref (b 15), .ref (b 16), .ref (b 17), .ref (b 18), .int (zb hs), .ref (b 19), .ref (b 20)])), ((b 0), .inl (cI, 6, .inl pa)), ((b 1), .inl (cI, 6, .inl lm)), ((b 2), .inl (cI, 12, .inl go)), ((b 15), .inl (cI, 12, .inl cn)), ((b 17), .inl (cI, 6, .inl tk)), ((b 18), .inl (cI, 6, .inl hv))] sz)) 0 0 (va_A [(h, .inr (8, [.int th, .int (nI G), .ref (b 0), .ref (b 1), .int (nI C), .ref (b 2), .ref (b 3), .ref (b 4), .ref (b 5), .ref (b 6), .ref (b 7), .ref (b 8), .ref (b 9), .ref (b 10), .ref (b 11), .ref (b 12), .ref (b 13), .ref (b 14), .ref (b 15), .ref (b 16), .ref (b 17), .ref (b 18), .int (zb hs), .ref (b 19), .ref (b 20)])), ((b 0), .inl (cI, 6, .inl pa)), ((b 1), .inl (cI, 6, .inl lm)), ((b 2), .inl (cI, 12, .inl go)), ((b 15), .inl (cI, 12, .inl cn)), ((b 17), .inl (cI, 6, .inl tk)), ((b 18), .inl (cI, 6, .inl hv))] sz) := by
  refine Met.ofW (cc := b_MO_supplyOf) (maxL := 5) (ret := (some .int)) (by decide +kernel) rfl ?_
  intro p e s m args below meth c s₁ B hml hv
  obtain ⟨rfl, hsz, hok, hP, hK, hD0⟩ := hv
  have hx := B.exec
  have hb := B.bytes
  have hr := B.returns
  have hown : s.vm.findClass "StudyAuditModel" = some m.cls := findClass_of_methodNamed B.named
  have hlocks := B.notSynchronized
  subst hsz
  have hD := hD0.self (sz := s.heap.size)
  generalize hAe : va_A [(h, .inr (8, [.int th, .int (nI G), .ref (b 0), .ref (b 1), .int (nI C), .ref (b 2), .ref (b 3), .ref (b 4), .ref (b 5), .ref (b 6), .ref (b 7), .ref (b 8), .ref (b 9), .ref (b 10), .ref (b 11), .ref (b 12), .ref (b 13), .ref (b 14), .ref (b 15), .ref (b 16), .ref (b 17), .ref (b 18), .int (zb hs), .ref (b 19), .ref (b 20)])), ((b 0), .inl (cI, 6, .inl pa)), ((b 1), .inl (cI, 6, .inl lm)), ((b 2), .inl (cI, 12, .inl go)), ((b 15), .inl (cI, 12, .inl cn)), ((b 17), .inl (cI, 6, .inl tk)), ((b 18), .inl (cI, 6, .inl hv))] s.heap.size = A at hD ⊢
  have hA : ∀ q : Nat, s.heap.size ≤ q → A q := fun q h => by rw [← hAe]; exact Or.inr h
  have hS : va_S A s.heap s.heap [] := va_S.rf
  have hl := lv_entry ([.ref h, .int set, .int some0]) (n := 5) (Nat.le_of_ble_eq_true rfl)
  rw [lg_entry_eq]
  generalize (lg_sl ([.ref h, .int set, .int some0]) ++ List.replicate (5 - (lg_sl ([.ref h, .int set, .int some0])).length) Slot.unset).toArray = ls at hl ⊢
  have hl : lv_has ls 5 [(0, .ref h), (1, .int set), (2, .int some0)] := hl
  refine lv_iconst (v := 0) hx hb d_MO_supplyOf_0 (by decide) ?_
  refine lv_istore_n hx hb d_MO_supplyOf_1 rfl hl (by decide) rfl (fun ls hl => ?_)
  have hl : lv_has ls 5 [(3, .int 0), (0, .ref h), (1, .int set), (2, .int some0)] := hl
  refine lo_sup1 D cI cJ cZ cP cS h b th G C hs set some0 pa lm go cn tk hv hx hb hml hown hok hK hA  (fun ls H locs hl hP hD hS => ?_) (6 - 0) 0 ls _ _ (by omega) (by omega) (lv_sub hl [1, 2, 3, 0] rfl) hP hD hS
  refine lv_iconst (v := 0) hx hb d_MO_supplyOf_21 (by decide) ?_
  refine lv_istore_n hx hb d_MO_supplyOf_22 rfl hl (by decide) rfl (fun ls hl => ?_)
  have hl : lv_has ls 5 [(3, .int 0), (0, .ref h), (1, .int set), (2, .int some0)] := hl
  refine lo_sup2 D cI cJ cZ cP cS h b th G C hs set some0 pa lm go cn tk (zfl hv 0 6) hx hb hml hown hok hK hA hC hgo (fun ls H locs hl hP hD hS => ?_) (C - 0) 0 ls _ _ (by omega) (by omega) (lv_sub hl [1, 2, 3, 0] rfl) hP hD hS
  refine lv_aload_n hx hb d_MO_supplyOf_72 rfl (lv_at hl 0 rfl) ?_
  refine va_get (D := D) (ci := 8) (v := .int (nI G)) (C := R_MO) (T := F_MO) (N := 25) hx hb (tb_in hok in_MO) (fun w h => h) hown hK hP 0 rfl rfl 1 (by decide) (hok _ t_706 rfl _) (fun _ h9 => h9) rfl d_MO_supplyOf_73 ?_
  refine lv_iconst (v := 1) hx hb d_MO_supplyOf_76 (by decide) ?_
  refine lv_isub hx hb d_MO_supplyOf_77 ?_
  refine lv_istore_n hx hb d_MO_supplyOf_78 rfl hl (by decide) rfl (fun ls hl => ?_)
  have hl : lv_has ls 5 [(3, .int ((nI G) - (1 : Int32))), (0, .ref h), (1, .int set), (2, .int some0)] := hl
  have hl : lv_has ls 5 [(3, .int (nI G + (-1))), (0, .ref h), (1, .int set), (2, .int some0)] := by rw [← z_sub1 G]; exact hl
  have hP : va_P D cls [(h, .inr (8, [.int th, .int (nI G), .ref (b 0), .ref (b 1), .int (nI C), .ref (b 2), .ref (b 3), .ref (b 4), .ref (b 5), .ref (b 6), .ref (b 7), .ref (b 8), .ref (b 9), .ref (b 10), .ref (b 11), .ref (b 12), .ref (b 13), .ref (b 14), .ref (b 15), .ref (b 16), .ref (b 17), .ref (b 18), .int (zb hs), .ref (b 19), .ref (b 20)])), ((b 0), .inl (cI, 6, .inl pa)), ((b 1), .inl (cI, 6, .inl lm)), ((b 2), .inl (cI, 12, .inl go)), ((b 15), .inl (cI, 12, .inl cn)), ((b 17), .inl (cI, 6, .inl tk)), ((b 18), .inl (cI, 6, .inl (yh3 G pa lm tk (yh2 go cn set some0 (zfl hv 0 6) C) (G - G))))] H := by rw [Nat.sub_self]; exact hP
  have hD : va_D A [(h, .inr (8, [.int th, .int (nI G), .ref (b 0), .ref (b 1), .int (nI C), .ref (b 2), .ref (b 3), .ref (b 4), .ref (b 5), .ref (b 6), .ref (b 7), .ref (b 8), .ref (b 9), .ref (b 10), .ref (b 11), .ref (b 12), .ref (b 13), .ref (b 14), .ref (b 15), .ref (b 16), .ref (b 17), .ref (b 18), .int (zb hs), .ref (b 19), .ref (b 20)])), ((b 0), .inl (cI, 6, .inl pa)), ((b 1), .inl (cI, 6, .inl lm)), ((b 2), .inl (cI, 12, .inl go)), ((b 15), .inl (cI, 12, .inl cn)), ((b 17), .inl (cI, 6, .inl tk)), ((b 18), .inl (cI, 6, .inl (yh3 G pa lm tk (yh2 go cn set some0 (zfl hv 0 6) C) (G - G))))] := by rw [Nat.sub_self]; exact hD
  refine lo_sup3 D cI cJ cZ cP cS h b th G C hs set some0 pa lm go cn tk (yh2 go cn set some0 (zfl hv 0 6) C) hx hb hml hown hok hK hA hG hpa (fun ls H locs hl hP hD hS => ?_) G ls _ _ (by omega) (lv_sub hl [1, 2, 3, 0] rfl) hP hD hS
  refine lv_aload_n hx hb d_MO_supplyOf_174 rfl (lv_at hl 0 rfl) ?_
  refine va_get (D := D) (ci := 8) (v := .ref (b 18)) (C := R_MO) (T := F_MO) (N := 25) hx hb (tb_in hok in_MO) (fun w h => h) hown hK hP 0 rfl rfl 21 (by decide) (hok _ t_726 rfl _) (fun _ h9 => h9) rfl d_MO_supplyOf_175 ?_
  refine lv_iconst (v := 0) hx hb d_MO_supplyOf_178 (by decide) ?_
  refine W.eq (g2 := F0 m 179 ls [.int (nI 0), .ref (b 18)]) (by rw [show (0 : Int32) = nI 0 from rfl]) ?_
  refine va_iald hx hb hK hP 6 0 rfl rfl (vp_in_nI (by omega) (by omega)) d_MO_supplyOf_179 ?_
  rw [nI_clamp (show 0 < 2 ^ 31 from by omega)]
  refine W.eq (g2 := F0 m 180 ls [.int ((yhv G C pa lm tk go cn set some0 hv) 0)]) rfl ?_
  have hP : va_P D cls [(h, .inr (8, [.int th, .int (nI G), .ref (b 0), .ref (b 1), .int (nI C), .ref (b 2), .ref (b 3), .ref (b 4), .ref (b 5), .ref (b 6), .ref (b 7), .ref (b 8), .ref (b 9), .ref (b 10), .ref (b 11), .ref (b 12), .ref (b 13), .ref (b 14), .ref (b 15), .ref (b 16), .ref (b 17), .ref (b 18), .int (zb hs), .ref (b 19), .ref (b 20)])), ((b 0), .inl (cI, 6, .inl pa)), ((b 1), .inl (cI, 6, .inl lm)), ((b 2), .inl (cI, 12, .inl go)), ((b 15), .inl (cI, 12, .inl cn)), ((b 17), .inl (cI, 6, .inl tk)), ((b 18), .inl (cI, 6, .inl (yhv G C pa lm tk go cn set some0 hv)))] H := hP
  have hD : va_D A [(h, .inr (8, [.int th, .int (nI G), .ref (b 0), .ref (b 1), .int (nI C), .ref (b 2), .ref (b 3), .ref (b 4), .ref (b 5), .ref (b 6), .ref (b 7), .ref (b 8), .ref (b 9), .ref (b 10), .ref (b 11), .ref (b 12), .ref (b 13), .ref (b 14), .ref (b 15), .ref (b 16), .ref (b 17), .ref (b 18), .int (zb hs), .ref (b 19), .ref (b 20)])), ((b 0), .inl (cI, 6, .inl pa)), ((b 1), .inl (cI, 6, .inl lm)), ((b 2), .inl (cI, 12, .inl go)), ((b 15), .inl (cI, 12, .inl cn)), ((b 17), .inl (cI, 6, .inl tk)), ((b 18), .inl (cI, 6, .inl (yhv G C pa lm tk go cn set some0 hv)))] := hD
  exact W.iret hx hb hr (fun t ht _ => ⟨⟨rfl, by rw [ht]; exact hP, hD⟩, hS.F ht⟩) hS.2.2 d_MO_supplyOf_180
