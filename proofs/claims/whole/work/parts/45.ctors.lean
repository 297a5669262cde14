/-! the constructors of the class (rows by program) -/
theorem df_SA : ∀ j, j < 6 → defaultValue (g_SA j) = vp_V [.null, .null, .null, .null, .null, .null] j := by
  intro j hj
  rcases (show j = 0 ∨ j = 1 ∨ j = 2 ∨ j = 3 ∨ j = 4 ∨ j = 5 by omega) with rfl | rfl | rfl | rfl | rfl | rfl <;> rfl
theorem df_CA : ∀ j, j < 9 → defaultValue (g_CA j) = vp_V [.int 0, .null, .null, .null, .int 0, .null, .null, .int 0, .null] j := by
  intro j hj
  rcases (show j = 0 ∨ j = 1 ∨ j = 2 ∨ j = 3 ∨ j = 4 ∨ j = 5 ∨ j = 6 ∨ j = 7 ∨ j = 8 by omega) with rfl | rfl | rfl | rfl | rfl | rfl | rfl | rfl | rfl <;> rfl
theorem df_CM : ∀ j, j < 3 → defaultValue (g_CM j) = vp_V [.int 0, .null, .null] j := by
  intro j hj
  rcases (show j = 0 ∨ j = 1 ∨ j = 2 by omega) with rfl | rfl | rfl <;> rfl
theorem df_NE : ∀ j, j < 8 → defaultValue (g_NE j) = vp_V [.int 0, .null, .null, .null, .long 0, .null, .null, .null] j := by
  intro j hj
  rcases (show j = 0 ∨ j = 1 ∨ j = 2 ∨ j = 3 ∨ j = 4 ∨ j = 5 ∨ j = 6 ∨ j = 7 by omega) with rfl | rfl | rfl | rfl | rfl | rfl | rfl | rfl <;> rfl
theorem df_PL : ∀ j, j < 1 → defaultValue (g_PL j) = vp_V [.null] j := by
  intro j hj
  rcases (show j = 0 by omega) with rfl <;> rfl
theorem df_PR : ∀ j, j < 3 → defaultValue (g_PR j) = vp_V [.int 0, .null, .null] j := by
  intro j hj
  rcases (show j = 0 ∨ j = 1 ∨ j = 2 by omega) with rfl | rfl | rfl <;> rfl
theorem df_RE : ∀ j, j < 9 → defaultValue (g_RE j) = vp_V [.int 0, .int 0, .int 0, .int 0, .int 0, .null, .int 0, .int 0, .int 0] j := by
  intro j hj
  rcases (show j = 0 ∨ j = 1 ∨ j = 2 ∨ j = 3 ∨ j = 4 ∨ j = 5 ∨ j = 6 ∨ j = 7 ∨ j = 8 by omega) with rfl | rfl | rfl | rfl | rfl | rfl | rfl | rfl | rfl <;> rfl
theorem df_ST : ∀ j, j < 5 → defaultValue (g_ST j) = vp_V [.int 0, .null, .null, .int 0, .null] j := by
  intro j hj
  rcases (show j = 0 ∨ j = 1 ∨ j = 2 ∨ j = 3 ∨ j = 4 by omega) with rfl | rfl | rfl | rfl | rfl <;> rfl
theorem df_MO : ∀ j, j < 25 → defaultValue (g_MO j) = vp_V [.int 0, .int 0, .null, .null, .int 0, .null, .null, .null, .null, .null, .null, .null, .null, .null, .null, .null, .null, .null, .null, .null, .null, .null, .int 0, .null, .null] j := by
  intro j hj
  rcases (show j = 0 ∨ j = 1 ∨ j = 2 ∨ j = 3 ∨ j = 4 ∨ j = 5 ∨ j = 6 ∨ j = 7 ∨ j = 8 ∨ j = 9 ∨ j = 10 ∨ j = 11 ∨ j = 12 ∨ j = 13 ∨ j = 14 ∨ j = 15 ∨ j = 16 ∨ j = 17 ∨ j = 18 ∨ j = 19 ∨ j = 20 ∨ j = 21 ∨ j = 22 ∨ j = 23 ∨ j = 24 by omega) with rfl | rfl | rfl | rfl | rfl | rfl | rfl | rfl | rfl | rfl | rfl | rfl | rfl | rfl | rfl | rfl | rfl | rfl | rfl | rfl | rfl | rfl | rfl | rfl | rfl <;> rfl
abbrev ro_CA_init : Room := { frames := 1, cells := 6, slots := 48, locals := 20 }
set_option maxHeartbeats 4000000 in
set_option maxRecDepth 100000 in
theorem m_CA_init (l : Launch) (D : va_G) (cI cJ cZ cP cS : ClassId) (h : Nat) (sz : Nat) : Met l y_CA_init [Cond.code y_CA_init b_CA_init 1 none] ro_CA_init (va_Pc [.ref h] (fun U => U.heap.size = sz ∧ tb_ok U ∧ va_P D cls [(h, .inr (1, [.int 0, .null, .null, .null, .int 0, .null, .null, .int 0, .null]))] U.heap ∧ va_K D cls (tyl cI cJ cZ cP cS) U ∧ va_D (fun _ => True) [(h, .inr (1, [.int 0, .null, .null, .null, .int 0, .null, .null, .int 0, .null]))])) (zo D (fun b => [(h, .inr (1, [.int 0, .ref (b 0), .ref (b 1), .ref (b 2), .int 0, .ref (b 3), .ref (b 4), .int 0, .ref (b 5)])), ((b 0), .inl (cI, 6, .inl zz)), ((b 1), .inl (cI, 6, .inl zz)), ((b 2), .inl (cI, 6, .inl zz)), ((b 3), .inl (cI, 12, .inl zz)), ((b 4), .inl (cI, 12, .inl zz)), ((b 5), .inl (cI, 6, .inl zz))]) (va_A [(h, .inr (1, [.int 0, .null, .null, .null, .int 0, .null, .null, .int 0, .null]))] sz)) 6 48 (va_A [(h, .inr (1, [.int 0, .null, .null, .null, .int 0, .null, .null, .int 0, .null]))] sz) := by
  refine Met.ofW (cc := b_CA_init) (maxL := 1) (ret := none) (by decide +kernel) rfl ?_
  intro p e s m args below meth c s₁ B hml hv
  obtain ⟨rfl, hsz, hok, hP, hK, hD0⟩ := hv
  have hx := B.exec
  have hb := B.bytes
  have hr := B.returns
  have hown : s.vm.findClass "StudyAudit$Catalogue" = some m.cls := findClass_of_methodNamed B.named
  have hlocks := B.notSynchronized
  have hin : meth.name = "<init>" := (name_of_methodNamed B.named B.method).1
  subst hsz
  have hD := hD0.self (sz := s.heap.size)
  generalize hAe : va_A [(h, .inr (1, [.int 0, .null, .null, .null, .int 0, .null, .null, .int 0, .null]))] s.heap.size = A at hD ⊢
  have hA : ∀ q : Nat, s.heap.size ≤ q → A q := fun q h => by rw [← hAe]; exact Or.inr h
  have hS : va_S A s.heap s.heap [] := va_S.rf
  have hl := lv_entry ([.ref h]) (n := 1) (Nat.le_of_ble_eq_true rfl)
  rw [lg_entry_eq]
  generalize (lg_sl ([.ref h]) ++ List.replicate (1 - (lg_sl ([.ref h])).length) Slot.unset).toArray = ls at hl ⊢
  have hl : lv_has ls 1 [(0, .ref h)] := hl
  refine lv_aload_n hx hb d_CA_init_0 rfl (lv_at hl 0 rfl) ?_
  refine W.objInit hx hb hown (hok _ t_32 rfl _) (hok _ t_25 rfl _) (by rw [← z_obi]; exact hok _ t_26 rfl _) rfl (by rw [hml]; exact hl.1) rfl d_CA_init_1 (Nat.le_of_ble_eq_true rfl) (Nat.le_of_ble_eq_true rfl) ?_
  refine W.eq (g2 := F0 m 4 ls []) rfl ?_
  refine lv_aload_n hx hb d_CA_init_4 rfl (lv_at hl 0 rfl) ?_
  refine lv_bipush (v := 6) hx hb d_CA_init_5 (by decide) ?_
  refine zn_arr (atype := .int) (ty := .int) (cB := cI) (N' := 6) (a0 := (6, .inl zz)) hx hb (hok _ t_71 rfl _) rfl hK 0 rfl hP hD hS hA (fun cA => z_nar cA 6) (by decide) (by decide) (z_b4 (by decide)) (Nat.le_of_ble_eq_true rfl) (Nat.le_of_ble_eq_true rfl) d_CA_init_7 (fun q7_1 H hP hD hS => ?_)
  have hP : va_P D cls [(h, .inr (1, [.int 0, .null, .null, .null, .int 0, .null, .null, .int 0, .null])), (q7_1, .inl (cI, 6, .inl zz))] H := hP
  have hD : va_D A [(h, .inr (1, [.int 0, .null, .null, .null, .int 0, .null, .null, .int 0, .null])), (q7_1, .inl (cI, 6, .inl zz))] := hD
  refine va_putF (D := D) (ci := 1) (v := .ref q7_1) (ty := .array .int) (C := R_CA) (T := F_CA) (N := 9) hx hb (tb_in hok in_CA) (fun w h => h) g_CA g_CA_ok n_CA hown hK hP hD hS 0 rfl rfl 1 (by decide) (hok _ t_36 rfl _) (fun _ h9 => h9) rfl hin rfl (by decide +kernel) rfl rfl (Nat.le_of_ble_eq_true rfl) d_CA_init_9 (fun H locs hP hD hS => ?_)
  have hP : va_P D cls [(h, .inr (1, [.int 0, .ref q7_1, .null, .null, .int 0, .null, .null, .int 0, .null])), (q7_1, .inl (cI, 6, .inl zz))] H := hP
  have hD : va_D A [(h, .inr (1, [.int 0, .ref q7_1, .null, .null, .int 0, .null, .null, .int 0, .null])), (q7_1, .inl (cI, 6, .inl zz))] := hD
  refine lv_aload_n hx hb d_CA_init_12 rfl (lv_at hl 0 rfl) ?_
  refine lv_bipush (v := 6) hx hb d_CA_init_13 (by decide) ?_
  refine zn_arr (atype := .int) (ty := .int) (cB := cI) (N' := 6) (a0 := (6, .inl zz)) hx hb (hok _ t_71 rfl _) rfl hK 0 rfl hP hD hS hA (fun cA => z_nar cA 6) (by decide) (by decide) (z_b4 (by decide)) (Nat.le_of_ble_eq_true rfl) (Nat.le_of_ble_eq_true rfl) d_CA_init_15 (fun q15_2 H hP hD hS => ?_)
  have hP : va_P D cls [(h, .inr (1, [.int 0, .ref q7_1, .null, .null, .int 0, .null, .null, .int 0, .null])), (q7_1, .inl (cI, 6, .inl zz)), (q15_2, .inl (cI, 6, .inl zz))] H := hP
  have hD : va_D A [(h, .inr (1, [.int 0, .ref q7_1, .null, .null, .int 0, .null, .null, .int 0, .null])), (q7_1, .inl (cI, 6, .inl zz)), (q15_2, .inl (cI, 6, .inl zz))] := hD
  refine va_putF (D := D) (ci := 1) (v := .ref q15_2) (ty := .array .int) (C := R_CA) (T := F_CA) (N := 9) hx hb (tb_in hok in_CA) (fun w h => h) g_CA g_CA_ok n_CA hown hK hP hD hS 0 rfl rfl 2 (by decide) (hok _ t_38 rfl _) (fun _ h9 => h9) rfl hin rfl (by decide +kernel) rfl rfl (Nat.le_of_ble_eq_true rfl) d_CA_init_17 (fun H locs hP hD hS => ?_)
  have hP : va_P D cls [(h, .inr (1, [.int 0, .ref q7_1, .ref q15_2, .null, .int 0, .null, .null, .int 0, .null])), (q7_1, .inl (cI, 6, .inl zz)), (q15_2, .inl (cI, 6, .inl zz))] H := hP
  have hD : va_D A [(h, .inr (1, [.int 0, .ref q7_1, .ref q15_2, .null, .int 0, .null, .null, .int 0, .null])), (q7_1, .inl (cI, 6, .inl zz)), (q15_2, .inl (cI, 6, .inl zz))] := hD
  refine lv_aload_n hx hb d_CA_init_20 rfl (lv_at hl 0 rfl) ?_
  refine lv_bipush (v := 6) hx hb d_CA_init_21 (by decide) ?_
  refine zn_arr (atype := .int) (ty := .int) (cB := cI) (N' := 6) (a0 := (6, .inl zz)) hx hb (hok _ t_71 rfl _) rfl hK 0 rfl hP hD hS hA (fun cA => z_nar cA 6) (by decide) (by decide) (z_b4 (by decide)) (Nat.le_of_ble_eq_true rfl) (Nat.le_of_ble_eq_true rfl) d_CA_init_23 (fun q23_3 H hP hD hS => ?_)
  have hP : va_P D cls [(h, .inr (1, [.int 0, .ref q7_1, .ref q15_2, .null, .int 0, .null, .null, .int 0, .null])), (q7_1, .inl (cI, 6, .inl zz)), (q15_2, .inl (cI, 6, .inl zz)), (q23_3, .inl (cI, 6, .inl zz))] H := hP
  have hD : va_D A [(h, .inr (1, [.int 0, .ref q7_1, .ref q15_2, .null, .int 0, .null, .null, .int 0, .null])), (q7_1, .inl (cI, 6, .inl zz)), (q15_2, .inl (cI, 6, .inl zz)), (q23_3, .inl (cI, 6, .inl zz))] := hD
  refine va_putF (D := D) (ci := 1) (v := .ref q23_3) (ty := .array .int) (C := R_CA) (T := F_CA) (N := 9) hx hb (tb_in hok in_CA) (fun w h => h) g_CA g_CA_ok n_CA hown hK hP hD hS 0 rfl rfl 3 (by decide) (hok _ t_39 rfl _) (fun _ h9 => h9) rfl hin rfl (by decide +kernel) rfl rfl (Nat.le_of_ble_eq_true rfl) d_CA_init_25 (fun H locs hP hD hS => ?_)
  have hP : va_P D cls [(h, .inr (1, [.int 0, .ref q7_1, .ref q15_2, .ref q23_3, .int 0, .null, .null, .int 0, .null])), (q7_1, .inl (cI, 6, .inl zz)), (q15_2, .inl (cI, 6, .inl zz)), (q23_3, .inl (cI, 6, .inl zz))] H := hP
  have hD : va_D A [(h, .inr (1, [.int 0, .ref q7_1, .ref q15_2, .ref q23_3, .int 0, .null, .null, .int 0, .null])), (q7_1, .inl (cI, 6, .inl zz)), (q15_2, .inl (cI, 6, .inl zz)), (q23_3, .inl (cI, 6, .inl zz))] := hD
  refine lv_aload_n hx hb d_CA_init_28 rfl (lv_at hl 0 rfl) ?_
  refine lv_bipush (v := 12) hx hb d_CA_init_29 (by decide) ?_
  refine zn_arr (atype := .int) (ty := .int) (cB := cI) (N' := 12) (a0 := (12, .inl zz)) hx hb (hok _ t_71 rfl _) rfl hK 0 rfl hP hD hS hA (fun cA => z_nar cA 12) (by decide) (by decide) (z_b4 (by decide)) (Nat.le_of_ble_eq_true rfl) (Nat.le_of_ble_eq_true rfl) d_CA_init_31 (fun q31_4 H hP hD hS => ?_)
  have hP : va_P D cls [(h, .inr (1, [.int 0, .ref q7_1, .ref q15_2, .ref q23_3, .int 0, .null, .null, .int 0, .null])), (q7_1, .inl (cI, 6, .inl zz)), (q15_2, .inl (cI, 6, .inl zz)), (q23_3, .inl (cI, 6, .inl zz)), (q31_4, .inl (cI, 12, .inl zz))] H := hP
  have hD : va_D A [(h, .inr (1, [.int 0, .ref q7_1, .ref q15_2, .ref q23_3, .int 0, .null, .null, .int 0, .null])), (q7_1, .inl (cI, 6, .inl zz)), (q15_2, .inl (cI, 6, .inl zz)), (q23_3, .inl (cI, 6, .inl zz)), (q31_4, .inl (cI, 12, .inl zz))] := hD
  refine va_putF (D := D) (ci := 1) (v := .ref q31_4) (ty := .array .int) (C := R_CA) (T := F_CA) (N := 9) hx hb (tb_in hok in_CA) (fun w h => h) g_CA g_CA_ok n_CA hown hK hP hD hS 0 rfl rfl 5 (by decide) (hok _ t_44 rfl _) (fun _ h9 => h9) rfl hin rfl (by decide +kernel) rfl rfl (Nat.le_of_ble_eq_true rfl) d_CA_init_33 (fun H locs hP hD hS => ?_)
  have hP : va_P D cls [(h, .inr (1, [.int 0, .ref q7_1, .ref q15_2, .ref q23_3, .int 0, .ref q31_4, .null, .int 0, .null])), (q7_1, .inl (cI, 6, .inl zz)), (q15_2, .inl (cI, 6, .inl zz)), (q23_3, .inl (cI, 6, .inl zz)), (q31_4, .inl (cI, 12, .inl zz))] H := hP
  have hD : va_D A [(h, .inr (1, [.int 0, .ref q7_1, .ref q15_2, .ref q23_3, .int 0, .ref q31_4, .null, .int 0, .null])), (q7_1, .inl (cI, 6, .inl zz)), (q15_2, .inl (cI, 6, .inl zz)), (q23_3, .inl (cI, 6, .inl zz)), (q31_4, .inl (cI, 12, .inl zz))] := hD
  refine lv_aload_n hx hb d_CA_init_36 rfl (lv_at hl 0 rfl) ?_
  refine lv_bipush (v := 12) hx hb d_CA_init_37 (by decide) ?_
  refine zn_arr (atype := .int) (ty := .int) (cB := cI) (N' := 12) (a0 := (12, .inl zz)) hx hb (hok _ t_71 rfl _) rfl hK 0 rfl hP hD hS hA (fun cA => z_nar cA 12) (by decide) (by decide) (z_b4 (by decide)) (Nat.le_of_ble_eq_true rfl) (Nat.le_of_ble_eq_true rfl) d_CA_init_39 (fun q39_5 H hP hD hS => ?_)
  have hP : va_P D cls [(h, .inr (1, [.int 0, .ref q7_1, .ref q15_2, .ref q23_3, .int 0, .ref q31_4, .null, .int 0, .null])), (q7_1, .inl (cI, 6, .inl zz)), (q15_2, .inl (cI, 6, .inl zz)), (q23_3, .inl (cI, 6, .inl zz)), (q31_4, .inl (cI, 12, .inl zz)), (q39_5, .inl (cI, 12, .inl zz))] H := hP
  have hD : va_D A [(h, .inr (1, [.int 0, .ref q7_1, .ref q15_2, .ref q23_3, .int 0, .ref q31_4, .null, .int 0, .null])), (q7_1, .inl (cI, 6, .inl zz)), (q15_2, .inl (cI, 6, .inl zz)), (q23_3, .inl (cI, 6, .inl zz)), (q31_4, .inl (cI, 12, .inl zz)), (q39_5, .inl (cI, 12, .inl zz))] := hD
  refine va_putF (D := D) (ci := 1) (v := .ref q39_5) (ty := .array .int) (C := R_CA) (T := F_CA) (N := 9) hx hb (tb_in hok in_CA) (fun w h => h) g_CA g_CA_ok n_CA hown hK hP hD hS 0 rfl rfl 6 (by decide) (hok _ t_46 rfl _) (fun _ h9 => h9) rfl hin rfl (by decide +kernel) rfl rfl (Nat.le_of_ble_eq_true rfl) d_CA_init_41 (fun H locs hP hD hS => ?_)
  have hP : va_P D cls [(h, .inr (1, [.int 0, .ref q7_1, .ref q15_2, .ref q23_3, .int 0, .ref q31_4, .ref q39_5, .int 0, .null])), (q7_1, .inl (cI, 6, .inl zz)), (q15_2, .inl (cI, 6, .inl zz)), (q23_3, .inl (cI, 6, .inl zz)), (q31_4, .inl (cI, 12, .inl zz)), (q39_5, .inl (cI, 12, .inl zz))] H := hP
  have hD : va_D A [(h, .inr (1, [.int 0, .ref q7_1, .ref q15_2, .ref q23_3, .int 0, .ref q31_4, .ref q39_5, .int 0, .null])), (q7_1, .inl (cI, 6, .inl zz)), (q15_2, .inl (cI, 6, .inl zz)), (q23_3, .inl (cI, 6, .inl zz)), (q31_4, .inl (cI, 12, .inl zz)), (q39_5, .inl (cI, 12, .inl zz))] := hD
  refine lv_aload_n hx hb d_CA_init_44 rfl (lv_at hl 0 rfl) ?_
  refine lv_bipush (v := 6) hx hb d_CA_init_45 (by decide) ?_
  refine zn_arr (atype := .int) (ty := .int) (cB := cI) (N' := 6) (a0 := (6, .inl zz)) hx hb (hok _ t_71 rfl _) rfl hK 0 rfl hP hD hS hA (fun cA => z_nar cA 6) (by decide) (by decide) (z_b4 (by decide)) (Nat.le_of_ble_eq_true rfl) (Nat.le_of_ble_eq_true rfl) d_CA_init_47 (fun q47_6 H hP hD hS => ?_)
  have hP : va_P D cls [(h, .inr (1, [.int 0, .ref q7_1, .ref q15_2, .ref q23_3, .int 0, .ref q31_4, .ref q39_5, .int 0, .null])), (q7_1, .inl (cI, 6, .inl zz)), (q15_2, .inl (cI, 6, .inl zz)), (q23_3, .inl (cI, 6, .inl zz)), (q31_4, .inl (cI, 12, .inl zz)), (q39_5, .inl (cI, 12, .inl zz)), (q47_6, .inl (cI, 6, .inl zz))] H := hP
  have hD : va_D A [(h, .inr (1, [.int 0, .ref q7_1, .ref q15_2, .ref q23_3, .int 0, .ref q31_4, .ref q39_5, .int 0, .null])), (q7_1, .inl (cI, 6, .inl zz)), (q15_2, .inl (cI, 6, .inl zz)), (q23_3, .inl (cI, 6, .inl zz)), (q31_4, .inl (cI, 12, .inl zz)), (q39_5, .inl (cI, 12, .inl zz)), (q47_6, .inl (cI, 6, .inl zz))] := hD
  refine va_putF (D := D) (ci := 1) (v := .ref q47_6) (ty := .array .int) (C := R_CA) (T := F_CA) (N := 9) hx hb (tb_in hok in_CA) (fun w h => h) g_CA g_CA_ok n_CA hown hK hP hD hS 0 rfl rfl 8 (by decide) (hok _ t_51 rfl _) (fun _ h9 => h9) rfl hin rfl (by decide +kernel) rfl rfl (Nat.le_of_ble_eq_true rfl) d_CA_init_49 (fun H locs hP hD hS => ?_)
  have hP : va_P D cls [(h, .inr (1, [.int 0, .ref q7_1, .ref q15_2, .ref q23_3, .int 0, .ref q31_4, .ref q39_5, .int 0, .ref q47_6])), (q7_1, .inl (cI, 6, .inl zz)), (q15_2, .inl (cI, 6, .inl zz)), (q23_3, .inl (cI, 6, .inl zz)), (q31_4, .inl (cI, 12, .inl zz)), (q39_5, .inl (cI, 12, .inl zz)), (q47_6, .inl (cI, 6, .inl zz))] H := hP
  have hD : va_D A [(h, .inr (1, [.int 0, .ref q7_1, .ref q15_2, .ref q23_3, .int 0, .ref q31_4, .ref q39_5, .int 0, .ref q47_6])), (q7_1, .inl (cI, 6, .inl zz)), (q15_2, .inl (cI, 6, .inl zz)), (q23_3, .inl (cI, 6, .inl zz)), (q31_4, .inl (cI, 12, .inl zz)), (q39_5, .inl (cI, 12, .inl zz)), (q47_6, .inl (cI, 6, .inl zz))] := hD
  refine W.widen (k := 6) (n := 48) (by decide) (by decide) ?_
  exact W.vret hx hb hr (fun t ht _ => ⟨⟨rfl, fun i => [q7_1, q15_2, q23_3, q31_4, q39_5, q47_6].getD i 0, by rw [ht]; exact hP.sub [0, 1, 2, 3, 4, 5, 6] rfl, hD.sub [0, 1, 2, 3, 4, 5, 6] (by decide) rfl⟩, hS.F ht⟩) hS.2.2 d_CA_init_52
abbrev ro_CM_init : Room := { frames := 1, cells := 2, slots := 12, locals := 20 }
set_option maxHeartbeats 4000000 in
set_option maxRecDepth 100000 in
theorem m_CM_init (l : Launch) (D : va_G) (cI cJ cZ cP cS : ClassId) (h : Nat) (sz : Nat) : Met l y_CM_init [Cond.code y_CM_init b_CM_init 1 none] ro_CM_init (va_Pc [.ref h] (fun U => U.heap.size = sz ∧ tb_ok U ∧ va_P D cls [(h, .inr (2, [.int 0, .null, .null]))] U.heap ∧ va_K D cls (tyl cI cJ cZ cP cS) U ∧ va_D (fun _ => True) [(h, .inr (2, [.int 0, .null, .null]))])) (zo D (fun b => [(h, .inr (2, [.int 0, .ref (b 0), .ref (b 1)])), ((b 0), .inl (cI, 6, .inl zz)), ((b 1), .inl (cI, 6, .inl zz))]) (va_A [(h, .inr (2, [.int 0, .null, .null]))] sz)) 2 12 (va_A [(h, .inr (2, [.int 0, .null, .null]))] sz) := by
  refine Met.ofW (cc := b_CM_init) (maxL := 1) (ret := none) (by decide +kernel) rfl ?_
  intro p e s m args below meth c s₁ B hml hv
  obtain ⟨rfl, hsz, hok, hP, hK, hD0⟩ := hv
  have hx := B.exec
  have hb := B.bytes
  have hr := B.returns
  have hown : s.vm.findClass "StudyAudit$Claims" = some m.cls := findClass_of_methodNamed B.named
  have hlocks := B.notSynchronized
  have hin : meth.name = "<init>" := (name_of_methodNamed B.named B.method).1
  subst hsz
  have hD := hD0.self (sz := s.heap.size)
  generalize hAe : va_A [(h, .inr (2, [.int 0, .null, .null]))] s.heap.size = A at hD ⊢
  have hA : ∀ q : Nat, s.heap.size ≤ q → A q := fun q h => by rw [← hAe]; exact Or.inr h
  have hS : va_S A s.heap s.heap [] := va_S.rf
  have hl := lv_entry ([.ref h]) (n := 1) (Nat.le_of_ble_eq_true rfl)
  rw [lg_entry_eq]
  generalize (lg_sl ([.ref h]) ++ List.replicate (1 - (lg_sl ([.ref h])).length) Slot.unset).toArray = ls at hl ⊢
  have hl : lv_has ls 1 [(0, .ref h)] := hl
  refine lv_aload_n hx hb d_CM_init_0 rfl (lv_at hl 0 rfl) ?_
  refine W.objInit hx hb hown (hok _ t_130 rfl _) (hok _ t_25 rfl _) (by rw [← z_obi]; exact hok _ t_26 rfl _) rfl (by rw [hml]; exact hl.1) rfl d_CM_init_1 (Nat.le_of_ble_eq_true rfl) (Nat.le_of_ble_eq_true rfl) ?_
  refine W.eq (g2 := F0 m 4 ls []) rfl ?_
  refine lv_aload_n hx hb d_CM_init_4 rfl (lv_at hl 0 rfl) ?_
  refine lv_bipush (v := 6) hx hb d_CM_init_5 (by decide) ?_
  refine zn_arr (atype := .int) (ty := .int) (cB := cI) (N' := 6) (a0 := (6, .inl zz)) hx hb (hok _ t_71 rfl _) rfl hK 0 rfl hP hD hS hA (fun cA => z_nar cA 6) (by decide) (by decide) (z_b4 (by decide)) (Nat.le_of_ble_eq_true rfl) (Nat.le_of_ble_eq_true rfl) d_CM_init_7 (fun q7_1 H hP hD hS => ?_)
  have hP : va_P D cls [(h, .inr (2, [.int 0, .null, .null])), (q7_1, .inl (cI, 6, .inl zz))] H := hP
  have hD : va_D A [(h, .inr (2, [.int 0, .null, .null])), (q7_1, .inl (cI, 6, .inl zz))] := hD
  refine va_putF (D := D) (ci := 2) (v := .ref q7_1) (ty := .array .int) (C := R_CM) (T := F_CM) (N := 3) hx hb (tb_in hok in_CM) (fun w h => h) g_CM g_CM_ok n_CM hown hK hP hD hS 0 rfl rfl 1 (by decide) (hok _ t_133 rfl _) (fun _ h9 => h9) rfl hin rfl (by decide +kernel) rfl rfl (Nat.le_of_ble_eq_true rfl) d_CM_init_9 (fun H locs hP hD hS => ?_)
  have hP : va_P D cls [(h, .inr (2, [.int 0, .ref q7_1, .null])), (q7_1, .inl (cI, 6, .inl zz))] H := hP
  have hD : va_D A [(h, .inr (2, [.int 0, .ref q7_1, .null])), (q7_1, .inl (cI, 6, .inl zz))] := hD
  refine lv_aload_n hx hb d_CM_init_12 rfl (lv_at hl 0 rfl) ?_
  refine lv_bipush (v := 6) hx hb d_CM_init_13 (by decide) ?_
  refine zn_arr (atype := .int) (ty := .int) (cB := cI) (N' := 6) (a0 := (6, .inl zz)) hx hb (hok _ t_71 rfl _) rfl hK 0 rfl hP hD hS hA (fun cA => z_nar cA 6) (by decide) (by decide) (z_b4 (by decide)) (Nat.le_of_ble_eq_true rfl) (Nat.le_of_ble_eq_true rfl) d_CM_init_15 (fun q15_2 H hP hD hS => ?_)
  have hP : va_P D cls [(h, .inr (2, [.int 0, .ref q7_1, .null])), (q7_1, .inl (cI, 6, .inl zz)), (q15_2, .inl (cI, 6, .inl zz))] H := hP
  have hD : va_D A [(h, .inr (2, [.int 0, .ref q7_1, .null])), (q7_1, .inl (cI, 6, .inl zz)), (q15_2, .inl (cI, 6, .inl zz))] := hD
  refine va_putF (D := D) (ci := 2) (v := .ref q15_2) (ty := .array .int) (C := R_CM) (T := F_CM) (N := 3) hx hb (tb_in hok in_CM) (fun w h => h) g_CM g_CM_ok n_CM hown hK hP hD hS 0 rfl rfl 2 (by decide) (hok _ t_135 rfl _) (fun _ h9 => h9) rfl hin rfl (by decide +kernel) rfl rfl (Nat.le_of_ble_eq_true rfl) d_CM_init_17 (fun H locs hP hD hS => ?_)
  have hP : va_P D cls [(h, .inr (2, [.int 0, .ref q7_1, .ref q15_2])), (q7_1, .inl (cI, 6, .inl zz)), (q15_2, .inl (cI, 6, .inl zz))] H := hP
  have hD : va_D A [(h, .inr (2, [.int 0, .ref q7_1, .ref q15_2])), (q7_1, .inl (cI, 6, .inl zz)), (q15_2, .inl (cI, 6, .inl zz))] := hD
  refine W.widen (k := 2) (n := 12) (by decide) (by decide) ?_
  exact W.vret hx hb hr (fun t ht _ => ⟨⟨rfl, fun i => [q7_1, q15_2].getD i 0, by rw [ht]; exact hP.sub [0, 1, 2] rfl, hD.sub [0, 1, 2] (by decide) rfl⟩, hS.F ht⟩) hS.2.2 d_CM_init_20
abbrev ro_PR_init : Room := { frames := 1, cells := 2, slots := 12, locals := 20 }
set_option maxHeartbeats 4000000 in
set_option maxRecDepth 100000 in
theorem m_PR_init (l : Launch) (D : va_G) (cI cJ cZ cP cS : ClassId) (h : Nat) (sz : Nat) : Met l y_PR_init [Cond.code y_PR_init b_PR_init 1 none] ro_PR_init (va_Pc [.ref h] (fun U => U.heap.size = sz ∧ tb_ok U ∧ va_P D cls [(h, .inr (5, [.int 0, .null, .null]))] U.heap ∧ va_K D cls (tyl cI cJ cZ cP cS) U ∧ va_D (fun _ => True) [(h, .inr (5, [.int 0, .null, .null]))])) (zo D (fun b => [(h, .inr (5, [.int 0, .ref (b 0), .ref (b 1)])), ((b 0), .inl (cI, 6, .inl zz)), ((b 1), .inl (cI, 6, .inl zz))]) (va_A [(h, .inr (5, [.int 0, .null, .null]))] sz)) 2 12 (va_A [(h, .inr (5, [.int 0, .null, .null]))] sz) := by
  refine Met.ofW (cc := b_PR_init) (maxL := 1) (ret := none) (by decide +kernel) rfl ?_
  intro p e s m args below meth c s₁ B hml hv
  obtain ⟨rfl, hsz, hok, hP, hK, hD0⟩ := hv
  have hx := B.exec
  have hb := B.bytes
  have hr := B.returns
  have hown : s.vm.findClass "StudyAudit$Programme" = some m.cls := findClass_of_methodNamed B.named
  have hlocks := B.notSynchronized
  have hin : meth.name = "<init>" := (name_of_methodNamed B.named B.method).1
  subst hsz
  have hD := hD0.self (sz := s.heap.size)
  generalize hAe : va_A [(h, .inr (5, [.int 0, .null, .null]))] s.heap.size = A at hD ⊢
  have hA : ∀ q : Nat, s.heap.size ≤ q → A q := fun q h => by rw [← hAe]; exact Or.inr h
  have hS : va_S A s.heap s.heap [] := va_S.rf
  have hl := lv_entry ([.ref h]) (n := 1) (Nat.le_of_ble_eq_true rfl)
  rw [lg_entry_eq]
  generalize (lg_sl ([.ref h]) ++ List.replicate (1 - (lg_sl ([.ref h])).length) Slot.unset).toArray = ls at hl ⊢
  have hl : lv_has ls 1 [(0, .ref h)] := hl
  refine lv_aload_n hx hb d_PR_init_0 rfl (lv_at hl 0 rfl) ?_
  refine W.objInit hx hb hown (hok _ t_78 rfl _) (hok _ t_25 rfl _) (by rw [← z_obi]; exact hok _ t_26 rfl _) rfl (by rw [hml]; exact hl.1) rfl d_PR_init_1 (Nat.le_of_ble_eq_true rfl) (Nat.le_of_ble_eq_true rfl) ?_
  refine W.eq (g2 := F0 m 4 ls []) rfl ?_
  refine lv_aload_n hx hb d_PR_init_4 rfl (lv_at hl 0 rfl) ?_
  refine lv_bipush (v := 6) hx hb d_PR_init_5 (by decide) ?_
  refine zn_arr (atype := .int) (ty := .int) (cB := cI) (N' := 6) (a0 := (6, .inl zz)) hx hb (hok _ t_71 rfl _) rfl hK 0 rfl hP hD hS hA (fun cA => z_nar cA 6) (by decide) (by decide) (z_b4 (by decide)) (Nat.le_of_ble_eq_true rfl) (Nat.le_of_ble_eq_true rfl) d_PR_init_7 (fun q7_1 H hP hD hS => ?_)
  have hP : va_P D cls [(h, .inr (5, [.int 0, .null, .null])), (q7_1, .inl (cI, 6, .inl zz))] H := hP
  have hD : va_D A [(h, .inr (5, [.int 0, .null, .null])), (q7_1, .inl (cI, 6, .inl zz))] := hD
  refine va_putF (D := D) (ci := 5) (v := .ref q7_1) (ty := .array .int) (C := R_PR) (T := F_PR) (N := 3) hx hb (tb_in hok in_PR) (fun w h => h) g_PR g_PR_ok n_PR hown hK hP hD hS 0 rfl rfl 1 (by decide) (hok _ t_82 rfl _) (fun _ h9 => h9) rfl hin rfl (by decide +kernel) rfl rfl (Nat.le_of_ble_eq_true rfl) d_PR_init_9 (fun H locs hP hD hS => ?_)
  have hP : va_P D cls [(h, .inr (5, [.int 0, .ref q7_1, .null])), (q7_1, .inl (cI, 6, .inl zz))] H := hP
  have hD : va_D A [(h, .inr (5, [.int 0, .ref q7_1, .null])), (q7_1, .inl (cI, 6, .inl zz))] := hD
  refine lv_aload_n hx hb d_PR_init_12 rfl (lv_at hl 0 rfl) ?_
  refine lv_bipush (v := 6) hx hb d_PR_init_13 (by decide) ?_
  refine zn_arr (atype := .int) (ty := .int) (cB := cI) (N' := 6) (a0 := (6, .inl zz)) hx hb (hok _ t_71 rfl _) rfl hK 0 rfl hP hD hS hA (fun cA => z_nar cA 6) (by decide) (by decide) (z_b4 (by decide)) (Nat.le_of_ble_eq_true rfl) (Nat.le_of_ble_eq_true rfl) d_PR_init_15 (fun q15_2 H hP hD hS => ?_)
  have hP : va_P D cls [(h, .inr (5, [.int 0, .ref q7_1, .null])), (q7_1, .inl (cI, 6, .inl zz)), (q15_2, .inl (cI, 6, .inl zz))] H := hP
  have hD : va_D A [(h, .inr (5, [.int 0, .ref q7_1, .null])), (q7_1, .inl (cI, 6, .inl zz)), (q15_2, .inl (cI, 6, .inl zz))] := hD
  refine va_putF (D := D) (ci := 5) (v := .ref q15_2) (ty := .array .int) (C := R_PR) (T := F_PR) (N := 3) hx hb (tb_in hok in_PR) (fun w h => h) g_PR g_PR_ok n_PR hown hK hP hD hS 0 rfl rfl 2 (by decide) (hok _ t_84 rfl _) (fun _ h9 => h9) rfl hin rfl (by decide +kernel) rfl rfl (Nat.le_of_ble_eq_true rfl) d_PR_init_17 (fun H locs hP hD hS => ?_)
  have hP : va_P D cls [(h, .inr (5, [.int 0, .ref q7_1, .ref q15_2])), (q7_1, .inl (cI, 6, .inl zz)), (q15_2, .inl (cI, 6, .inl zz))] H := hP
  have hD : va_D A [(h, .inr (5, [.int 0, .ref q7_1, .ref q15_2])), (q7_1, .inl (cI, 6, .inl zz)), (q15_2, .inl (cI, 6, .inl zz))] := hD
  refine W.widen (k := 2) (n := 12) (by decide) (by decide) ?_
  exact W.vret hx hb hr (fun t ht _ => ⟨⟨rfl, fun i => [q7_1, q15_2].getD i 0, by rw [ht]; exact hP.sub [0, 1, 2] rfl, hD.sub [0, 1, 2] (by decide) rfl⟩, hS.F ht⟩) hS.2.2 d_PR_init_20
abbrev ro_RE_init : Room := { frames := 1, cells := 1, slots := 12, locals := 20 }
set_option maxHeartbeats 4000000 in
set_option maxRecDepth 100000 in
theorem m_RE_init (l : Launch) (D : va_G) (cI cJ cZ cP cS : ClassId) (h : Nat) (sz : Nat) : Met l y_RE_init [Cond.code y_RE_init b_RE_init 1 none] ro_RE_init (va_Pc [.ref h] (fun U => U.heap.size = sz ∧ tb_ok U ∧ va_P D cls [(h, .inr (6, [.int 0, .int 0, .int 0, .int 0, .int 0, .null, .int 0, .int 0, .int 0]))] U.heap ∧ va_K D cls (tyl cI cJ cZ cP cS) U ∧ va_D (fun _ => True) [(h, .inr (6, [.int 0, .int 0, .int 0, .int 0, .int 0, .null, .int 0, .int 0, .int 0]))])) (zo D (fun b => [(h, .inr (6, [.int 0, .int 0, .int 0, .int 0, .int 0, .ref (b 0), .int 0, .int 0, .int 0])), ((b 0), .inl (cI, 12, .inl zz))]) (va_A [(h, .inr (6, [.int 0, .int 0, .int 0, .int 0, .int 0, .null, .int 0, .int 0, .int 0]))] sz)) 1 12 (va_A [(h, .inr (6, [.int 0, .int 0, .int 0, .int 0, .int 0, .null, .int 0, .int 0, .int 0]))] sz) := by
  refine Met.ofW (cc := b_RE_init) (maxL := 1) (ret := none) (by decide +kernel) rfl ?_
  intro p e s m args below meth c s₁ B hml hv
  obtain ⟨rfl, hsz, hok, hP, hK, hD0⟩ := hv
  have hx := B.exec
  have hb := B.bytes
  have hr := B.returns
  have hown : s.vm.findClass "StudyAudit$Receipt" = some m.cls := findClass_of_methodNamed B.named
  have hlocks := B.notSynchronized
  have hin : meth.name = "<init>" := (name_of_methodNamed B.named B.method).1
  subst hsz
  have hD := hD0.self (sz := s.heap.size)
  generalize hAe : va_A [(h, .inr (6, [.int 0, .int 0, .int 0, .int 0, .int 0, .null, .int 0, .int 0, .int 0]))] s.heap.size = A at hD ⊢
  have hA : ∀ q : Nat, s.heap.size ≤ q → A q := fun q h => by rw [← hAe]; exact Or.inr h
  have hS : va_S A s.heap s.heap [] := va_S.rf
  have hl := lv_entry ([.ref h]) (n := 1) (Nat.le_of_ble_eq_true rfl)
  rw [lg_entry_eq]
  generalize (lg_sl ([.ref h]) ++ List.replicate (1 - (lg_sl ([.ref h])).length) Slot.unset).toArray = ls at hl ⊢
  have hl : lv_has ls 1 [(0, .ref h)] := hl
  refine lv_aload_n hx hb d_RE_init_0 rfl (lv_at hl 0 rfl) ?_
  refine W.objInit hx hb hown (hok _ t_196 rfl _) (hok _ t_25 rfl _) (by rw [← z_obi]; exact hok _ t_26 rfl _) rfl (by rw [hml]; exact hl.1) rfl d_RE_init_1 (Nat.le_of_ble_eq_true rfl) (Nat.le_of_ble_eq_true rfl) ?_
  refine W.eq (g2 := F0 m 4 ls []) rfl ?_
  refine lv_aload_n hx hb d_RE_init_4 rfl (lv_at hl 0 rfl) ?_
  refine lv_bipush (v := 12) hx hb d_RE_init_5 (by decide) ?_
  refine zn_arr (atype := .int) (ty := .int) (cB := cI) (N' := 12) (a0 := (12, .inl zz)) hx hb (hok _ t_71 rfl _) rfl hK 0 rfl hP hD hS hA (fun cA => z_nar cA 12) (by decide) (by decide) (z_b4 (by decide)) (Nat.le_of_ble_eq_true rfl) (Nat.le_of_ble_eq_true rfl) d_RE_init_7 (fun q7_1 H hP hD hS => ?_)
  have hP : va_P D cls [(h, .inr (6, [.int 0, .int 0, .int 0, .int 0, .int 0, .null, .int 0, .int 0, .int 0])), (q7_1, .inl (cI, 12, .inl zz))] H := hP
  have hD : va_D A [(h, .inr (6, [.int 0, .int 0, .int 0, .int 0, .int 0, .null, .int 0, .int 0, .int 0])), (q7_1, .inl (cI, 12, .inl zz))] := hD
  refine va_putF (D := D) (ci := 6) (v := .ref q7_1) (ty := .array .int) (C := R_RE) (T := F_RE) (N := 9) hx hb (tb_in hok in_RE) (fun w h => h) g_RE g_RE_ok n_RE hown hK hP hD hS 0 rfl rfl 5 (by decide) (hok _ t_202 rfl _) (fun _ h9 => h9) rfl hin rfl (by decide +kernel) rfl rfl (Nat.le_of_ble_eq_true rfl) d_RE_init_9 (fun H locs hP hD hS => ?_)
  have hP : va_P D cls [(h, .inr (6, [.int 0, .int 0, .int 0, .int 0, .int 0, .ref q7_1, .int 0, .int 0, .int 0])), (q7_1, .inl (cI, 12, .inl zz))] H := hP
  have hD : va_D A [(h, .inr (6, [.int 0, .int 0, .int 0, .int 0, .int 0, .ref q7_1, .int 0, .int 0, .int 0])), (q7_1, .inl (cI, 12, .inl zz))] := hD
  refine W.widen (k := 1) (n := 12) (by decide) (by decide) ?_
  exact W.vret hx hb hr (fun t ht _ => ⟨⟨rfl, fun i => [q7_1].getD i 0, by rw [ht]; exact hP.sub [0, 1] rfl, hD.sub [0, 1] (by decide) rfl⟩, hS.F ht⟩) hS.2.2 d_RE_init_12
abbrev ro_ST_init : Room := { frames := 1, cells := 3, slots := 30, locals := 23 }
set_option maxHeartbeats 4000000 in
set_option maxRecDepth 100000 in
theorem m_ST_init (l : Launch) (D : va_G) (cI cJ cZ cP cS : ClassId) (h : Nat) (sz : Nat) : Met l y_ST_init [Cond.code y_ST_init b_ST_init 1 none] ro_ST_init (va_Pc [.ref h] (fun U => U.heap.size = sz ∧ tb_ok U ∧ va_P D cls [(h, .inr (7, [.int 0, .null, .null, .int 0, .null]))] U.heap ∧ va_K D cls (tyl cI cJ cZ cP cS) U ∧ va_D (fun _ => True) [(h, .inr (7, [.int 0, .null, .null, .int 0, .null]))])) (zo D (fun b => [(h, .inr (7, [.int (-1), .ref (b 0), .ref (b 1), .int 0, .ref (b 2)])), ((b 0), .inl (cI, 12, .inl (zfl zz (-1) 12))), ((b 1), .inl (cI, 12, .inl zz)), ((b 2), .inl (cI, 6, .inl zz))]) (va_A [(h, .inr (7, [.int 0, .null, .null, .int 0, .null]))] sz)) 3 30 (va_A [(h, .inr (7, [.int 0, .null, .null, .int 0, .null]))] sz) := by
  refine Met.ofW (cc := b_ST_init) (maxL := 1) (ret := none) (by decide +kernel) rfl ?_
  intro p e s m args below meth c s₁ B hml hv
  obtain ⟨rfl, hsz, hok, hP, hK, hD0⟩ := hv
  have hx := B.exec
  have hb := B.bytes
  have hr := B.returns
  have hown : s.vm.findClass "StudyAudit$Student" = some m.cls := findClass_of_methodNamed B.named
  have hlocks := B.notSynchronized
  have hin : meth.name = "<init>" := (name_of_methodNamed B.named B.method).1
  subst hsz
  have hD := hD0.self (sz := s.heap.size)
  generalize hAe : va_A [(h, .inr (7, [.int 0, .null, .null, .int 0, .null]))] s.heap.size = A at hD ⊢
  have hA : ∀ q : Nat, s.heap.size ≤ q → A q := fun q h => by rw [← hAe]; exact Or.inr h
  have hS : va_S A s.heap s.heap [] := va_S.rf
  have hl := lv_entry ([.ref h]) (n := 1) (Nat.le_of_ble_eq_true rfl)
  rw [lg_entry_eq]
  generalize (lg_sl ([.ref h]) ++ List.replicate (1 - (lg_sl ([.ref h])).length) Slot.unset).toArray = ls at hl ⊢
  have hl : lv_has ls 1 [(0, .ref h)] := hl
  refine lv_aload_n hx hb d_ST_init_0 rfl (lv_at hl 0 rfl) ?_
  refine W.objInit hx hb hown (hok _ t_100 rfl _) (hok _ t_25 rfl _) (by rw [← z_obi]; exact hok _ t_26 rfl _) rfl (by rw [hml]; exact hl.1) rfl d_ST_init_1 (Nat.le_of_ble_eq_true rfl) (Nat.le_of_ble_eq_true rfl) ?_
  refine W.eq (g2 := F0 m 4 ls []) rfl ?_
  refine lv_aload_n hx hb d_ST_init_4 rfl (lv_at hl 0 rfl) ?_
  refine lv_iconst (v := (-1)) hx hb d_ST_init_5 (by decide) ?_
  refine va_put (D := D) (ci := 7) (v := .int (-1)) (ty := .int) (C := R_ST) (T := F_ST) (N := 5) hx hb (tb_in hok in_ST) (fun w h => h) g_ST g_ST_ok n_ST hown hK hP hD hS 0 rfl rfl 0 (by decide) (hok _ t_104 rfl _) (fun _ h9 => h9) rfl (by decide +kernel) rfl rfl (Nat.le_of_ble_eq_true rfl) d_ST_init_6 (fun H locs hP hD hS => ?_)
  have hP : va_P D cls [(h, .inr (7, [.int (-1), .null, .null, .int 0, .null]))] H := hP
  have hD : va_D A [(h, .inr (7, [.int (-1), .null, .null, .int 0, .null]))] := hD
  refine lv_aload_n hx hb d_ST_init_9 rfl (lv_at hl 0 rfl) ?_
  refine lv_bipush (v := 12) hx hb d_ST_init_10 (by decide) ?_
  refine zn_arr (atype := .int) (ty := .int) (cB := cI) (N' := 12) (a0 := (12, .inl zz)) hx hb (hok _ t_71 rfl _) rfl hK 0 rfl hP hD hS hA (fun cA => z_nar cA 12) (by decide) (by decide) (z_b4 (by decide)) (Nat.le_of_ble_eq_true rfl) (Nat.le_of_ble_eq_true rfl) d_ST_init_12 (fun q12_1 H hP hD hS => ?_)
  have hP : va_P D cls [(h, .inr (7, [.int (-1), .null, .null, .int 0, .null])), (q12_1, .inl (cI, 12, .inl zz))] H := hP
  have hD : va_D A [(h, .inr (7, [.int (-1), .null, .null, .int 0, .null])), (q12_1, .inl (cI, 12, .inl zz))] := hD
  refine va_putF (D := D) (ci := 7) (v := .ref q12_1) (ty := .array .int) (C := R_ST) (T := F_ST) (N := 5) hx hb (tb_in hok in_ST) (fun w h => h) g_ST g_ST_ok n_ST hown hK hP hD hS 0 rfl rfl 1 (by decide) (hok _ t_106 rfl _) (fun _ h9 => h9) rfl hin rfl (by decide +kernel) rfl rfl (Nat.le_of_ble_eq_true rfl) d_ST_init_14 (fun H locs hP hD hS => ?_)
  have hP : va_P D cls [(h, .inr (7, [.int (-1), .ref q12_1, .null, .int 0, .null])), (q12_1, .inl (cI, 12, .inl zz))] H := hP
  have hD : va_D A [(h, .inr (7, [.int (-1), .ref q12_1, .null, .int 0, .null])), (q12_1, .inl (cI, 12, .inl zz))] := hD
  refine lv_aload_n hx hb d_ST_init_17 rfl (lv_at hl 0 rfl) ?_
  refine lv_bipush (v := 12) hx hb d_ST_init_18 (by decide) ?_
  refine zn_arr (atype := .int) (ty := .int) (cB := cI) (N' := 12) (a0 := (12, .inl zz)) hx hb (hok _ t_71 rfl _) rfl hK 0 rfl hP hD hS hA (fun cA => z_nar cA 12) (by decide) (by decide) (z_b4 (by decide)) (Nat.le_of_ble_eq_true rfl) (Nat.le_of_ble_eq_true rfl) d_ST_init_20 (fun q20_2 H hP hD hS => ?_)
  have hP : va_P D cls [(h, .inr (7, [.int (-1), .ref q12_1, .null, .int 0, .null])), (q12_1, .inl (cI, 12, .inl zz)), (q20_2, .inl (cI, 12, .inl zz))] H := hP
  have hD : va_D A [(h, .inr (7, [.int (-1), .ref q12_1, .null, .int 0, .null])), (q12_1, .inl (cI, 12, .inl zz)), (q20_2, .inl (cI, 12, .inl zz))] := hD
  refine va_putF (D := D) (ci := 7) (v := .ref q20_2) (ty := .array .int) (C := R_ST) (T := F_ST) (N := 5) hx hb (tb_in hok in_ST) (fun w h => h) g_ST g_ST_ok n_ST hown hK hP hD hS 0 rfl rfl 2 (by decide) (hok _ t_108 rfl _) (fun _ h9 => h9) rfl hin rfl (by decide +kernel) rfl rfl (Nat.le_of_ble_eq_true rfl) d_ST_init_22 (fun H locs hP hD hS => ?_)
  have hP : va_P D cls [(h, .inr (7, [.int (-1), .ref q12_1, .ref q20_2, .int 0, .null])), (q12_1, .inl (cI, 12, .inl zz)), (q20_2, .inl (cI, 12, .inl zz))] H := hP
  have hD : va_D A [(h, .inr (7, [.int (-1), .ref q12_1, .ref q20_2, .int 0, .null])), (q12_1, .inl (cI, 12, .inl zz)), (q20_2, .inl (cI, 12, .inl zz))] := hD
  refine lv_aload_n hx hb d_ST_init_25 rfl (lv_at hl 0 rfl) ?_
  refine lv_bipush (v := 6) hx hb d_ST_init_26 (by decide) ?_
  refine zn_arr (atype := .int) (ty := .int) (cB := cI) (N' := 6) (a0 := (6, .inl zz)) hx hb (hok _ t_71 rfl _) rfl hK 0 rfl hP hD hS hA (fun cA => z_nar cA 6) (by decide) (by decide) (z_b4 (by decide)) (Nat.le_of_ble_eq_true rfl) (Nat.le_of_ble_eq_true rfl) d_ST_init_28 (fun q28_3 H hP hD hS => ?_)
  have hP : va_P D cls [(h, .inr (7, [.int (-1), .ref q12_1, .ref q20_2, .int 0, .null])), (q12_1, .inl (cI, 12, .inl zz)), (q20_2, .inl (cI, 12, .inl zz)), (q28_3, .inl (cI, 6, .inl zz))] H := hP
  have hD : va_D A [(h, .inr (7, [.int (-1), .ref q12_1, .ref q20_2, .int 0, .null])), (q12_1, .inl (cI, 12, .inl zz)), (q20_2, .inl (cI, 12, .inl zz)), (q28_3, .inl (cI, 6, .inl zz))] := hD
  refine va_putF (D := D) (ci := 7) (v := .ref q28_3) (ty := .array .int) (C := R_ST) (T := F_ST) (N := 5) hx hb (tb_in hok in_ST) (fun w h => h) g_ST g_ST_ok n_ST hown hK hP hD hS 0 rfl rfl 4 (by decide) (hok _ t_113 rfl _) (fun _ h9 => h9) rfl hin rfl (by decide +kernel) rfl rfl (Nat.le_of_ble_eq_true rfl) d_ST_init_30 (fun H locs hP hD hS => ?_)
  have hP : va_P D cls [(h, .inr (7, [.int (-1), .ref q12_1, .ref q20_2, .int 0, .ref q28_3])), (q12_1, .inl (cI, 12, .inl zz)), (q20_2, .inl (cI, 12, .inl zz)), (q28_3, .inl (cI, 6, .inl zz))] H := hP
  have hD : va_D A [(h, .inr (7, [.int (-1), .ref q12_1, .ref q20_2, .int 0, .ref q28_3])), (q12_1, .inl (cI, 12, .inl zz)), (q20_2, .inl (cI, 12, .inl zz)), (q28_3, .inl (cI, 6, .inl zz))] := hD
  refine lv_aload_n hx hb d_ST_init_33 rfl (lv_at hl 0 rfl) ?_
  refine va_get (D := D) (ci := 7) (v := .ref q12_1) (C := R_ST) (T := F_ST) (N := 5) hx hb (tb_in hok in_ST) (fun w h => h) hown hK hP 0 rfl rfl 1 (by decide) (hok _ t_106 rfl _) (fun _ h9 => h9) rfl d_ST_init_34 ?_
  refine lv_iconst (v := (-1)) hx hb d_ST_init_37 (by decide) ?_
  refine zc_write (wc := [(q12_1, .inl (cI, 12, .inl zz))]) (wc1 := [(q12_1, .inl (cI, 12, .inl (zfl zz (-1) 12)))]) (wr := [(h, .inr (7, [.int (-1), .ref q12_1, .ref q20_2, .int 0, .ref q28_3])), (q20_2, .inl (cI, 12, .inl zz)), (q28_3, .inl (cI, 6, .inl zz))]) (ws1 := [(h, .inr (7, [.int (-1), .ref q12_1, .ref q20_2, .int 0, .ref q28_3])), (q12_1, .inl (cI, 12, .inl (zfl zz (-1) 12))), (q20_2, .inl (cI, 12, .inl zz)), (q28_3, .inl (cI, 6, .inl zz))]) (va_runS (Ts := []) (As := [.ref q12_1, .int (-1)]) (rest := []) ⟨hx, hb, hml, hown, fun _ h => absurd h List.not_mem_nil⟩ (m_AR_filli l D cI cJ cZ cP cS q12_1 12 (-1) zz (by omega) _) ⟨zc_B 2 hok c_AR_filli_w t_5 t_101 rfl rfl (by decide +kernel) ⟨Nat.le_of_ble_eq_true rfl, Nat.le_of_ble_eq_true rfl⟩, hok _ t_102 rfl _⟩ ⟨fun a U g mk q => by obtain ⟨q0, q1, q2, qP, qK, qD⟩ := q; exact ⟨q0, q1, q2.call g mk a, qP, va_K.moved (u := U) (U := U.calling g mk a) (Vm.Alike.refl U.vm) qK, qD⟩, fun U hU hW => ⟨rfl, by rw [hU], hok.warm hW, by rw [hU]; exact hP.sub [1] rfl, va_K.moved hW.alike hK, (hD.sub [1] (by decide) rfl).weaken (fun _ _ _ _ => trivial)⟩⟩ rfl rfl hl.1 rfl (lv_room (Nat.le_of_ble_eq_true rfl)) d_ST_init_38 ⟨Nat.le_of_ble_eq_true rfl, Nat.le_of_ble_eq_true rfl⟩) hS hP hD hA [1] [0, 2, 3] [0, 3, 1, 2] rfl rfl (by decide) (by decide) rfl rfl (by decide) (fun H locs hP hD hS => ?_)
  refine W.eq (g2 := F0 m 41 ls []) rfl ?_
  refine W.widen (k := 3) (n := 30) (by decide) (by decide) ?_
  exact W.vret hx hb hr (fun t ht _ => ⟨⟨rfl, fun i => [q12_1, q20_2, q28_3].getD i 0, by rw [ht]; exact hP.sub [0, 1, 2, 3] rfl, hD.sub [0, 1, 2, 3] (by decide) rfl⟩, hS.F ht⟩) hS.2.2 d_ST_init_41
abbrev ro_NE_init : Room := { frames := 1, cells := 6, slots := 714, locals := 20 }
set_option maxHeartbeats 4000000 in
set_option maxRecDepth 100000 in
theorem m_NE_init (l : Launch) (D : va_G) (cI cJ cZ cP cS : ClassId) (h : Nat) (sz : Nat) : Met l y_NE_init [Cond.code y_NE_init b_NE_init 3 none] ro_NE_init (va_Pc [.ref h, .int 25, .int 83] (fun U => U.heap.size = sz ∧ tb_ok U ∧ va_P D cls [(h, .inr (3, [.int 0, .null, .null, .null, .long 0, .null, .null, .null]))] U.heap ∧ va_K D cls (tyl cI cJ cZ cP cS) U ∧ va_D (fun _ => True) [(h, .inr (3, [.int 0, .null, .null, .null, .long 0, .null, .null, .null]))])) (zo D (fun b => [(h, .inr (3, [.int 0, .ref (b 0), .ref (b 1), .ref (b 2), .long 0, .ref (b 3), .ref (b 4), .ref (b 5)])), ((b 0), .inl (cI, 166, .inl zz)), ((b 1), .inl (cI, 166, .inl zz)), ((b 2), .inl (cI, 166, .inl zz)), ((b 3), .inl (cJ, 166, .inr (.inl zzL))), ((b 4), .inl (cJ, 25, .inr (.inl zzL))), ((b 5), .inl (cI, 25, .inl zz))]) (va_A [(h, .inr (3, [.int 0, .null, .null, .null, .long 0, .null, .null, .null]))] sz)) 6 714 (va_A [(h, .inr (3, [.int 0, .null, .null, .null, .long 0, .null, .null, .null]))] sz) := by
  refine Met.ofW (cc := b_NE_init) (maxL := 3) (ret := none) (by decide +kernel) rfl ?_
  intro p e s m args below meth c s₁ B hml hv
  obtain ⟨rfl, hsz, hok, hP, hK, hD0⟩ := hv
  have hx := B.exec
  have hb := B.bytes
  have hr := B.returns
  have hown : s.vm.findClass "StudyAudit$Network" = some m.cls := findClass_of_methodNamed B.named
  have hlocks := B.notSynchronized
  have hin : meth.name = "<init>" := (name_of_methodNamed B.named B.method).1
  subst hsz
  have hD := hD0.self (sz := s.heap.size)
  generalize hAe : va_A [(h, .inr (3, [.int 0, .null, .null, .null, .long 0, .null, .null, .null]))] s.heap.size = A at hD ⊢
  have hA : ∀ q : Nat, s.heap.size ≤ q → A q := fun q h => by rw [← hAe]; exact Or.inr h
  have hS : va_S A s.heap s.heap [] := va_S.rf
  have hl := lv_entry ([.ref h, .int 25, .int 83]) (n := 3) (Nat.le_of_ble_eq_true rfl)
  rw [lg_entry_eq]
  generalize (lg_sl ([.ref h, .int 25, .int 83]) ++ List.replicate (3 - (lg_sl ([.ref h, .int 25, .int 83])).length) Slot.unset).toArray = ls at hl ⊢
  have hl : lv_has ls 3 [(0, .ref h), (1, .int 25), (2, .int 83)] := hl
  refine lv_aload_n hx hb d_NE_init_0 rfl (lv_at hl 0 rfl) ?_
  refine W.objInit hx hb hown (hok _ t_155 rfl _) (hok _ t_25 rfl _) (by rw [← z_obi]; exact hok _ t_26 rfl _) rfl (by rw [hml]; exact hl.1) rfl d_NE_init_1 (Nat.le_of_ble_eq_true rfl) (Nat.le_of_ble_eq_true rfl) ?_
  refine W.eq (g2 := F0 m 4 ls []) rfl ?_
  refine lv_aload_n hx hb d_NE_init_4 rfl (lv_at hl 0 rfl) ?_
  refine lv_iconst (v := 2) hx hb d_NE_init_5 (by decide) ?_
  refine lv_iload_n hx hb d_NE_init_6 rfl (lv_at hl 2 rfl) ?_
  refine lv_imul hx hb d_NE_init_7 ?_
  refine zn_arr (atype := .int) (ty := .int) (cB := cI) (N' := 166) (a0 := (166, .inl zz)) hx hb (hok _ t_71 rfl _) rfl hK 0 rfl hP hD hS hA (fun cA => z_nar cA 166) (by decide) (by decide) (z_b4 (by decide)) (Nat.le_of_ble_eq_true rfl) (Nat.le_of_ble_eq_true rfl) d_NE_init_8 (fun q8_1 H hP hD hS => ?_)
  have hP : va_P D cls [(h, .inr (3, [.int 0, .null, .null, .null, .long 0, .null, .null, .null])), (q8_1, .inl (cI, 166, .inl zz))] H := hP
  have hD : va_D A [(h, .inr (3, [.int 0, .null, .null, .null, .long 0, .null, .null, .null])), (q8_1, .inl (cI, 166, .inl zz))] := hD
  refine va_putF (D := D) (ci := 3) (v := .ref q8_1) (ty := .array .int) (C := R_NE) (T := F_NE) (N := 8) hx hb (tb_in hok in_NE) (fun w h => h) g_NE g_NE_ok n_NE hown hK hP hD hS 0 rfl rfl 1 (by decide) (hok _ t_158 rfl _) (fun _ h9 => h9) rfl hin rfl (by decide +kernel) rfl rfl (Nat.le_of_ble_eq_true rfl) d_NE_init_10 (fun H locs hP hD hS => ?_)
  have hP : va_P D cls [(h, .inr (3, [.int 0, .ref q8_1, .null, .null, .long 0, .null, .null, .null])), (q8_1, .inl (cI, 166, .inl zz))] H := hP
  have hD : va_D A [(h, .inr (3, [.int 0, .ref q8_1, .null, .null, .long 0, .null, .null, .null])), (q8_1, .inl (cI, 166, .inl zz))] := hD
  refine lv_aload_n hx hb d_NE_init_13 rfl (lv_at hl 0 rfl) ?_
  refine lv_iconst (v := 2) hx hb d_NE_init_14 (by decide) ?_
  refine lv_iload_n hx hb d_NE_init_15 rfl (lv_at hl 2 rfl) ?_
  refine lv_imul hx hb d_NE_init_16 ?_
  refine zn_arr (atype := .int) (ty := .int) (cB := cI) (N' := 166) (a0 := (166, .inl zz)) hx hb (hok _ t_71 rfl _) rfl hK 0 rfl hP hD hS hA (fun cA => z_nar cA 166) (by decide) (by decide) (z_b4 (by decide)) (Nat.le_of_ble_eq_true rfl) (Nat.le_of_ble_eq_true rfl) d_NE_init_17 (fun q17_2 H hP hD hS => ?_)
  have hP : va_P D cls [(h, .inr (3, [.int 0, .ref q8_1, .null, .null, .long 0, .null, .null, .null])), (q8_1, .inl (cI, 166, .inl zz)), (q17_2, .inl (cI, 166, .inl zz))] H := hP
  have hD : va_D A [(h, .inr (3, [.int 0, .ref q8_1, .null, .null, .long 0, .null, .null, .null])), (q8_1, .inl (cI, 166, .inl zz)), (q17_2, .inl (cI, 166, .inl zz))] := hD
  refine va_putF (D := D) (ci := 3) (v := .ref q17_2) (ty := .array .int) (C := R_NE) (T := F_NE) (N := 8) hx hb (tb_in hok in_NE) (fun w h => h) g_NE g_NE_ok n_NE hown hK hP hD hS 0 rfl rfl 2 (by decide) (hok _ t_160 rfl _) (fun _ h9 => h9) rfl hin rfl (by decide +kernel) rfl rfl (Nat.le_of_ble_eq_true rfl) d_NE_init_19 (fun H locs hP hD hS => ?_)
  have hP : va_P D cls [(h, .inr (3, [.int 0, .ref q8_1, .ref q17_2, .null, .long 0, .null, .null, .null])), (q8_1, .inl (cI, 166, .inl zz)), (q17_2, .inl (cI, 166, .inl zz))] H := hP
  have hD : va_D A [(h, .inr (3, [.int 0, .ref q8_1, .ref q17_2, .null, .long 0, .null, .null, .null])), (q8_1, .inl (cI, 166, .inl zz)), (q17_2, .inl (cI, 166, .inl zz))] := hD
  refine lv_aload_n hx hb d_NE_init_22 rfl (lv_at hl 0 rfl) ?_
  refine lv_iconst (v := 2) hx hb d_NE_init_23 (by decide) ?_
  refine lv_iload_n hx hb d_NE_init_24 rfl (lv_at hl 2 rfl) ?_
  refine lv_imul hx hb d_NE_init_25 ?_
  refine zn_arr (atype := .int) (ty := .int) (cB := cI) (N' := 166) (a0 := (166, .inl zz)) hx hb (hok _ t_71 rfl _) rfl hK 0 rfl hP hD hS hA (fun cA => z_nar cA 166) (by decide) (by decide) (z_b4 (by decide)) (Nat.le_of_ble_eq_true rfl) (Nat.le_of_ble_eq_true rfl) d_NE_init_26 (fun q26_3 H hP hD hS => ?_)
  have hP : va_P D cls [(h, .inr (3, [.int 0, .ref q8_1, .ref q17_2, .null, .long 0, .null, .null, .null])), (q8_1, .inl (cI, 166, .inl zz)), (q17_2, .inl (cI, 166, .inl zz)), (q26_3, .inl (cI, 166, .inl zz))] H := hP
  have hD : va_D A [(h, .inr (3, [.int 0, .ref q8_1, .ref q17_2, .null, .long 0, .null, .null, .null])), (q8_1, .inl (cI, 166, .inl zz)), (q17_2, .inl (cI, 166, .inl zz)), (q26_3, .inl (cI, 166, .inl zz))] := hD
  refine va_putF (D := D) (ci := 3) (v := .ref q26_3) (ty := .array .int) (C := R_NE) (T := F_NE) (N := 8) hx hb (tb_in hok in_NE) (fun w h => h) g_NE g_NE_ok n_NE hown hK hP hD hS 0 rfl rfl 3 (by decide) (hok _ t_162 rfl _) (fun _ h9 => h9) rfl hin rfl (by decide +kernel) rfl rfl (Nat.le_of_ble_eq_true rfl) d_NE_init_28 (fun H locs hP hD hS => ?_)
  have hP : va_P D cls [(h, .inr (3, [.int 0, .ref q8_1, .ref q17_2, .ref q26_3, .long 0, .null, .null, .null])), (q8_1, .inl (cI, 166, .inl zz)), (q17_2, .inl (cI, 166, .inl zz)), (q26_3, .inl (cI, 166, .inl zz))] H := hP
  have hD : va_D A [(h, .inr (3, [.int 0, .ref q8_1, .ref q17_2, .ref q26_3, .long 0, .null, .null, .null])), (q8_1, .inl (cI, 166, .inl zz)), (q17_2, .inl (cI, 166, .inl zz)), (q26_3, .inl (cI, 166, .inl zz))] := hD
  refine lv_aload_n hx hb d_NE_init_31 rfl (lv_at hl 0 rfl) ?_
  refine lv_iconst (v := 2) hx hb d_NE_init_32 (by decide) ?_
  refine lv_iload_n hx hb d_NE_init_33 rfl (lv_at hl 2 rfl) ?_
  refine lv_imul hx hb d_NE_init_34 ?_
  refine zn_arr (atype := .long) (ty := .long) (cB := cJ) (N' := 166) (a0 := (166, .inr (.inl zzL))) hx hb (hok _ t_186 rfl _) rfl hK 1 rfl hP hD hS hA (fun cA => z_narL cA 166) (by decide) (by decide) (z_b8 (by decide)) (Nat.le_of_ble_eq_true rfl) (Nat.le_of_ble_eq_true rfl) d_NE_init_35 (fun q35_4 H hP hD hS => ?_)
  have hP : va_P D cls [(h, .inr (3, [.int 0, .ref q8_1, .ref q17_2, .ref q26_3, .long 0, .null, .null, .null])), (q8_1, .inl (cI, 166, .inl zz)), (q17_2, .inl (cI, 166, .inl zz)), (q26_3, .inl (cI, 166, .inl zz)), (q35_4, .inl (cJ, 166, .inr (.inl zzL)))] H := hP
  have hD : va_D A [(h, .inr (3, [.int 0, .ref q8_1, .ref q17_2, .ref q26_3, .long 0, .null, .null, .null])), (q8_1, .inl (cI, 166, .inl zz)), (q17_2, .inl (cI, 166, .inl zz)), (q26_3, .inl (cI, 166, .inl zz)), (q35_4, .inl (cJ, 166, .inr (.inl zzL)))] := hD
  refine va_putF (D := D) (ci := 3) (v := .ref q35_4) (ty := .array .long) (C := R_NE) (T := F_NE) (N := 8) hx hb (tb_in hok in_NE) (fun w h => h) g_NE g_NE_ok n_NE hown hK hP hD hS 0 rfl rfl 5 (by decide) (hok _ t_166 rfl _) (fun _ h9 => h9) rfl hin rfl (by decide +kernel) rfl rfl (Nat.le_of_ble_eq_true rfl) d_NE_init_37 (fun H locs hP hD hS => ?_)
  have hP : va_P D cls [(h, .inr (3, [.int 0, .ref q8_1, .ref q17_2, .ref q26_3, .long 0, .ref q35_4, .null, .null])), (q8_1, .inl (cI, 166, .inl zz)), (q17_2, .inl (cI, 166, .inl zz)), (q26_3, .inl (cI, 166, .inl zz)), (q35_4, .inl (cJ, 166, .inr (.inl zzL)))] H := hP
  have hD : va_D A [(h, .inr (3, [.int 0, .ref q8_1, .ref q17_2, .ref q26_3, .long 0, .ref q35_4, .null, .null])), (q8_1, .inl (cI, 166, .inl zz)), (q17_2, .inl (cI, 166, .inl zz)), (q26_3, .inl (cI, 166, .inl zz)), (q35_4, .inl (cJ, 166, .inr (.inl zzL)))] := hD
  refine lv_aload_n hx hb d_NE_init_40 rfl (lv_at hl 0 rfl) ?_
  refine lv_iload_n hx hb d_NE_init_41 rfl (lv_at hl 1 rfl) ?_
  refine zn_arr (atype := .long) (ty := .long) (cB := cJ) (N' := 25) (a0 := (25, .inr (.inl zzL))) hx hb (hok _ t_186 rfl _) rfl hK 1 rfl hP hD hS hA (fun cA => z_narL cA 25) (by decide) (by decide) (z_b8 (by decide)) (Nat.le_of_ble_eq_true rfl) (Nat.le_of_ble_eq_true rfl) d_NE_init_42 (fun q42_5 H hP hD hS => ?_)
  have hP : va_P D cls [(h, .inr (3, [.int 0, .ref q8_1, .ref q17_2, .ref q26_3, .long 0, .ref q35_4, .null, .null])), (q8_1, .inl (cI, 166, .inl zz)), (q17_2, .inl (cI, 166, .inl zz)), (q26_3, .inl (cI, 166, .inl zz)), (q35_4, .inl (cJ, 166, .inr (.inl zzL))), (q42_5, .inl (cJ, 25, .inr (.inl zzL)))] H := hP
  have hD : va_D A [(h, .inr (3, [.int 0, .ref q8_1, .ref q17_2, .ref q26_3, .long 0, .ref q35_4, .null, .null])), (q8_1, .inl (cI, 166, .inl zz)), (q17_2, .inl (cI, 166, .inl zz)), (q26_3, .inl (cI, 166, .inl zz)), (q35_4, .inl (cJ, 166, .inr (.inl zzL))), (q42_5, .inl (cJ, 25, .inr (.inl zzL)))] := hD
  refine va_putF (D := D) (ci := 3) (v := .ref q42_5) (ty := .array .long) (C := R_NE) (T := F_NE) (N := 8) hx hb (tb_in hok in_NE) (fun w h => h) g_NE g_NE_ok n_NE hown hK hP hD hS 0 rfl rfl 6 (by decide) (hok _ t_167 rfl _) (fun _ h9 => h9) rfl hin rfl (by decide +kernel) rfl rfl (Nat.le_of_ble_eq_true rfl) d_NE_init_44 (fun H locs hP hD hS => ?_)
  have hP : va_P D cls [(h, .inr (3, [.int 0, .ref q8_1, .ref q17_2, .ref q26_3, .long 0, .ref q35_4, .ref q42_5, .null])), (q8_1, .inl (cI, 166, .inl zz)), (q17_2, .inl (cI, 166, .inl zz)), (q26_3, .inl (cI, 166, .inl zz)), (q35_4, .inl (cJ, 166, .inr (.inl zzL))), (q42_5, .inl (cJ, 25, .inr (.inl zzL)))] H := hP
  have hD : va_D A [(h, .inr (3, [.int 0, .ref q8_1, .ref q17_2, .ref q26_3, .long 0, .ref q35_4, .ref q42_5, .null])), (q8_1, .inl (cI, 166, .inl zz)), (q17_2, .inl (cI, 166, .inl zz)), (q26_3, .inl (cI, 166, .inl zz)), (q35_4, .inl (cJ, 166, .inr (.inl zzL))), (q42_5, .inl (cJ, 25, .inr (.inl zzL)))] := hD
  refine lv_aload_n hx hb d_NE_init_47 rfl (lv_at hl 0 rfl) ?_
  refine lv_iload_n hx hb d_NE_init_48 rfl (lv_at hl 1 rfl) ?_
  refine zn_arr (atype := .int) (ty := .int) (cB := cI) (N' := 25) (a0 := (25, .inl zz)) hx hb (hok _ t_71 rfl _) rfl hK 0 rfl hP hD hS hA (fun cA => z_nar cA 25) (by decide) (by decide) (z_b4 (by decide)) (Nat.le_of_ble_eq_true rfl) (Nat.le_of_ble_eq_true rfl) d_NE_init_49 (fun q49_6 H hP hD hS => ?_)
  have hP : va_P D cls [(h, .inr (3, [.int 0, .ref q8_1, .ref q17_2, .ref q26_3, .long 0, .ref q35_4, .ref q42_5, .null])), (q8_1, .inl (cI, 166, .inl zz)), (q17_2, .inl (cI, 166, .inl zz)), (q26_3, .inl (cI, 166, .inl zz)), (q35_4, .inl (cJ, 166, .inr (.inl zzL))), (q42_5, .inl (cJ, 25, .inr (.inl zzL))), (q49_6, .inl (cI, 25, .inl zz))] H := hP
  have hD : va_D A [(h, .inr (3, [.int 0, .ref q8_1, .ref q17_2, .ref q26_3, .long 0, .ref q35_4, .ref q42_5, .null])), (q8_1, .inl (cI, 166, .inl zz)), (q17_2, .inl (cI, 166, .inl zz)), (q26_3, .inl (cI, 166, .inl zz)), (q35_4, .inl (cJ, 166, .inr (.inl zzL))), (q42_5, .inl (cJ, 25, .inr (.inl zzL))), (q49_6, .inl (cI, 25, .inl zz))] := hD
  refine va_putF (D := D) (ci := 3) (v := .ref q49_6) (ty := .array .int) (C := R_NE) (T := F_NE) (N := 8) hx hb (tb_in hok in_NE) (fun w h => h) g_NE g_NE_ok n_NE hown hK hP hD hS 0 rfl rfl 7 (by decide) (hok _ t_168 rfl _) (fun _ h9 => h9) rfl hin rfl (by decide +kernel) rfl rfl (Nat.le_of_ble_eq_true rfl) d_NE_init_51 (fun H locs hP hD hS => ?_)
  have hP : va_P D cls [(h, .inr (3, [.int 0, .ref q8_1, .ref q17_2, .ref q26_3, .long 0, .ref q35_4, .ref q42_5, .ref q49_6])), (q8_1, .inl (cI, 166, .inl zz)), (q17_2, .inl (cI, 166, .inl zz)), (q26_3, .inl (cI, 166, .inl zz)), (q35_4, .inl (cJ, 166, .inr (.inl zzL))), (q42_5, .inl (cJ, 25, .inr (.inl zzL))), (q49_6, .inl (cI, 25, .inl zz))] H := hP
  have hD : va_D A [(h, .inr (3, [.int 0, .ref q8_1, .ref q17_2, .ref q26_3, .long 0, .ref q35_4, .ref q42_5, .ref q49_6])), (q8_1, .inl (cI, 166, .inl zz)), (q17_2, .inl (cI, 166, .inl zz)), (q26_3, .inl (cI, 166, .inl zz)), (q35_4, .inl (cJ, 166, .inr (.inl zzL))), (q42_5, .inl (cJ, 25, .inr (.inl zzL))), (q49_6, .inl (cI, 25, .inl zz))] := hD
  refine W.widen (k := 6) (n := 714) (by decide) (by decide) ?_
  exact W.vret hx hb hr (fun t ht _ => ⟨⟨rfl, fun i => [q8_1, q17_2, q26_3, q35_4, q42_5, q49_6].getD i 0, by rw [ht]; exact hP.sub [0, 1, 2, 3, 4, 5, 6] rfl, hD.sub [0, 1, 2, 3, 4, 5, 6] (by decide) rfl⟩, hS.F ht⟩) hS.2.2 d_NE_init_54
abbrev ro_PL_init : Room := { frames := 2, cells := 7, slots := 722, locals := 42 }
set_option maxHeartbeats 4000000 in
set_option maxRecDepth 100000 in
theorem m_PL_init (l : Launch) (D : va_G) (cI cJ cZ cP cS : ClassId) (h : Nat) (sz : Nat) : Met l y_PL_init [Cond.code y_PL_init b_PL_init 1 none] ro_PL_init (va_Pc [.ref h] (fun U => U.heap.size = sz ∧ tb_ok U ∧ va_P D cls [(h, .inr (4, [.null]))] U.heap ∧ va_K D cls (tyl cI cJ cZ cP cS) U ∧ va_D (fun _ => True) [(h, .inr (4, [.null]))])) (zo D (fun b => [(h, .inr (4, [.ref (b 0)])), ((b 0), .inr (3, [.int 0, .ref (b 1), .ref (b 2), .ref (b 3), .long 0, .ref (b 4), .ref (b 5), .ref (b 6)])), ((b 1), .inl (cI, 166, .inl zz)), ((b 2), .inl (cI, 166, .inl zz)), ((b 3), .inl (cI, 166, .inl zz)), ((b 4), .inl (cJ, 166, .inr (.inl zzL))), ((b 5), .inl (cJ, 25, .inr (.inl zzL))), ((b 6), .inl (cI, 25, .inl zz))]) (va_A [(h, .inr (4, [.null]))] sz)) 7 722 (va_A [(h, .inr (4, [.null]))] sz) := by
  refine Met.ofW (cc := b_PL_init) (maxL := 1) (ret := none) (by decide +kernel) rfl ?_
  intro p e s m args below meth c s₁ B hml hv
  obtain ⟨rfl, hsz, hok, hP, hK, hD0⟩ := hv
  have hx := B.exec
  have hb := B.bytes
  have hr := B.returns
  have hown : s.vm.findClass "StudyAudit$Plan" = some m.cls := findClass_of_methodNamed B.named
  have hlocks := B.notSynchronized
  have hin : meth.name = "<init>" := (name_of_methodNamed B.named B.method).1
  subst hsz
  have hD := hD0.self (sz := s.heap.size)
  generalize hAe : va_A [(h, .inr (4, [.null]))] s.heap.size = A at hD ⊢
  have hA : ∀ q : Nat, s.heap.size ≤ q → A q := fun q h => by rw [← hAe]; exact Or.inr h
  have hS : va_S A s.heap s.heap [] := va_S.rf
  have hl := lv_entry ([.ref h]) (n := 1) (Nat.le_of_ble_eq_true rfl)
  rw [lg_entry_eq]
  generalize (lg_sl ([.ref h]) ++ List.replicate (1 - (lg_sl ([.ref h])).length) Slot.unset).toArray = ls at hl ⊢
  have hl : lv_has ls 1 [(0, .ref h)] := hl
  refine lv_aload_n hx hb d_PL_init_0 rfl (lv_at hl 0 rfl) ?_
  refine W.objInit hx hb hown (hok _ t_149 rfl _) (hok _ t_25 rfl _) (by rw [← z_obi]; exact hok _ t_26 rfl _) rfl (by rw [hml]; exact hl.1) rfl d_PL_init_1 (Nat.le_of_ble_eq_true rfl) (Nat.le_of_ble_eq_true rfl) ?_
  refine W.eq (g2 := F0 m 4 ls []) rfl ?_
  refine lv_aload_n hx hb d_PL_init_4 rfl (lv_at hl 0 rfl) ?_
  refine va_new (ci := 3) (fs := [.int 0, .null, .null, .null, .long 0, .null, .null, .null]) (C := R_NE) (T := F_NE) (N := 8) hx hb (tb_in hok in_NE) (fun w h => h) g_NE g_NE_ok hown (hok _ t_150 rfl _) (hok _ t_151 rfl _) (hok _ t_8 rfl _) hK hP hD hS hA rfl df_NE (Nat.le_of_ble_eq_true rfl) (Nat.le_of_ble_eq_true rfl) d_PL_init_5 (fun q5_1 H hP hD hS => ?_)
  have hP : va_P D cls [(h, .inr (4, [.null])), (q5_1, .inr (3, [.int 0, .null, .null, .null, .long 0, .null, .null, .null]))] H := hP
  have hD : va_D A [(h, .inr (4, [.null])), (q5_1, .inr (3, [.int 0, .null, .null, .null, .long 0, .null, .null, .null]))] := hD
  refine lv_dup hx hb d_PL_init_8 rfl ?_
  refine lv_bipush (v := 25) hx hb d_PL_init_9 (by decide) ?_
  refine lv_bipush (v := 83) hx hb d_PL_init_11 (by decide) ?_
  refine zc_make (F := fun b => [(q5_1, .inr (3, [.int 0, .ref (b 0), .ref (b 1), .ref (b 2), .long 0, .ref (b 3), .ref (b 4), .ref (b 5)])), ((b 0), .inl (cI, 166, .inl zz)), ((b 1), .inl (cI, 166, .inl zz)), ((b 2), .inl (cI, 166, .inl zz)), ((b 3), .inl (cJ, 166, .inr (.inl zzL))), ((b 4), .inl (cJ, 25, .inr (.inl zzL))), ((b 5), .inl (cI, 25, .inl zz))]) (wc := [(q5_1, .inr (3, [.int 0, .null, .null, .null, .long 0, .null, .null, .null]))]) (wr := [(h, .inr (4, [.null]))]) (va_runI (Ts := []) (As := [.int 25, .int 83]) (rest := [.ref q5_1, .ref h]) ⟨hx, hb, hml, hown, fun _ h => absurd h List.not_mem_nil⟩ (m_NE_init l D cI cJ cZ cP cS q5_1 _) ⟨zc_B 2 hok c_NE_init_w t_8 t_152 rfl rfl (by decide +kernel) ⟨Nat.le_of_ble_eq_true rfl, Nat.le_of_ble_eq_true rfl⟩, rfl, hok _ t_153 rfl _⟩ ⟨fun a U g mk q => by obtain ⟨q0, q1, q2, qP, qK, qD⟩ := q; exact ⟨q0, q1, q2.call g mk a, qP, va_K.moved (u := U) (U := U.calling g mk a) (Vm.Alike.refl U.vm) qK, qD⟩, fun U hU hW => ⟨rfl, by rw [hU], hok.warm hW, by rw [hU]; exact hP.sub [1] rfl, va_K.moved hW.alike hK, (hD.sub [1] (by decide) rfl).weaken (fun _ _ _ _ => trivial)⟩⟩ rfl rfl hl.1 rfl (lv_room (Nat.le_of_ble_eq_true rfl)) d_PL_init_13 ⟨Nat.le_of_ble_eq_true rfl, Nat.le_of_ble_eq_true rfl⟩) hS hP hD hA [1] [0] rfl rfl (by decide) (by decide) (fun q13_2 H locs hP hD hS => ?_)
  refine W.eq (g2 := F0 m 16 ls [.ref q5_1, .ref h]) rfl ?_
  have hP : va_P D cls [(h, .inr (4, [.null])), (q5_1, .inr (3, [.int 0, .ref (q13_2 0), .ref (q13_2 1), .ref (q13_2 2), .long 0, .ref (q13_2 3), .ref (q13_2 4), .ref (q13_2 5)])), ((q13_2 0), .inl (cI, 166, .inl zz)), ((q13_2 1), .inl (cI, 166, .inl zz)), ((q13_2 2), .inl (cI, 166, .inl zz)), ((q13_2 3), .inl (cJ, 166, .inr (.inl zzL))), ((q13_2 4), .inl (cJ, 25, .inr (.inl zzL))), ((q13_2 5), .inl (cI, 25, .inl zz))] H := hP
  have hD : va_D A [(h, .inr (4, [.null])), (q5_1, .inr (3, [.int 0, .ref (q13_2 0), .ref (q13_2 1), .ref (q13_2 2), .long 0, .ref (q13_2 3), .ref (q13_2 4), .ref (q13_2 5)])), ((q13_2 0), .inl (cI, 166, .inl zz)), ((q13_2 1), .inl (cI, 166, .inl zz)), ((q13_2 2), .inl (cI, 166, .inl zz)), ((q13_2 3), .inl (cJ, 166, .inr (.inl zzL))), ((q13_2 4), .inl (cJ, 25, .inr (.inl zzL))), ((q13_2 5), .inl (cI, 25, .inl zz))] := hD
  refine va_putF (D := D) (ci := 4) (v := .ref q5_1) (ty := .object "StudyAudit$Network") (C := R_PL) (T := F_PL) (N := 1) hx hb (tb_in hok in_PL) (fun w h => h) g_PL g_PL_ok n_PL hown hK hP hD hS 0 rfl rfl 0 (by decide) (hok _ t_187 rfl _) (fun _ h9 => h9) rfl hin rfl (by decide +kernel) rfl rfl (Nat.le_of_ble_eq_true rfl) d_PL_init_16 (fun H locs hP hD hS => ?_)
  have hP : va_P D cls [(h, .inr (4, [.ref q5_1])), (q5_1, .inr (3, [.int 0, .ref (q13_2 0), .ref (q13_2 1), .ref (q13_2 2), .long 0, .ref (q13_2 3), .ref (q13_2 4), .ref (q13_2 5)])), ((q13_2 0), .inl (cI, 166, .inl zz)), ((q13_2 1), .inl (cI, 166, .inl zz)), ((q13_2 2), .inl (cI, 166, .inl zz)), ((q13_2 3), .inl (cJ, 166, .inr (.inl zzL))), ((q13_2 4), .inl (cJ, 25, .inr (.inl zzL))), ((q13_2 5), .inl (cI, 25, .inl zz))] H := hP
  have hD : va_D A [(h, .inr (4, [.ref q5_1])), (q5_1, .inr (3, [.int 0, .ref (q13_2 0), .ref (q13_2 1), .ref (q13_2 2), .long 0, .ref (q13_2 3), .ref (q13_2 4), .ref (q13_2 5)])), ((q13_2 0), .inl (cI, 166, .inl zz)), ((q13_2 1), .inl (cI, 166, .inl zz)), ((q13_2 2), .inl (cI, 166, .inl zz)), ((q13_2 3), .inl (cJ, 166, .inr (.inl zzL))), ((q13_2 4), .inl (cJ, 25, .inr (.inl zzL))), ((q13_2 5), .inl (cI, 25, .inl zz))] := hD
  refine W.widen (k := 7) (n := 722) (by decide) (by decide) ?_
  exact W.vret hx hb hr (fun t ht _ => ⟨⟨rfl, fun i => [q5_1, (q13_2 0), (q13_2 1), (q13_2 2), (q13_2 3), (q13_2 4), (q13_2 5)].getD i 0, by rw [ht]; exact hP.sub [0, 1, 2, 3, 4, 5, 6, 7] rfl, hD.sub [0, 1, 2, 3, 4, 5, 6, 7] (by decide) rfl⟩, hS.F ht⟩) hS.2.2 d_PL_init_19
