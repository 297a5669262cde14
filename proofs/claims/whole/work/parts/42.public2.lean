/-! the public methods of StudyAudit, second part (rows by program) -/
set_option maxHeartbeats 4000000 in
set_option maxRecDepth 100000 in
theorem m_SA_requirement (l : Launch) (htr : l.stackTraces = false) (D : va_G) (cI cJ cZ cP cS : ClassId) (x hc hp hs0 hm hn hr0 : Nat) (g ad aa r0 : Nat) (b d : Int32) (dm : Nat → Int32) (pf : Nat → Option Nat) (hp9 : zi 0 b 2 → va_rf (pf (b).toNatClampNeg) = .ref g) (hr5 : r0 ≤ 5) (sz : Nat) : zt_Met l y_SA_requirement [Cond.code y_SA_requirement b_SA_requirement 3 (some .int)] { frames := 8, cells := 3, slots := 18, locals := 125 } (va_Pc [.ref x, .int b, .int d] (fun U => U.heap.size = sz ∧ tb_ok U ∧ zs_ok U U.heap ∧ va_P D cls [(x, .inr (0, [.ref hc, .ref hp, .ref hs0, .ref hm, .ref hn, .ref hr0])), (hp, .inl (cP, 3, .inr (.inr (.inr (.inr pf))))), (g, .inr (5, [.int (nI r0), .ref ad, .ref aa])), (ad, .inl (cI, 6, .inl dm))] U.heap ∧ va_K D cls (tyl cI cJ cZ cP cS) U ∧ va_D (fun _ => True) [(x, .inr (0, [.ref hc, .ref hp, .ref hs0, .ref hm, .ref hn, .ref hr0])), (hp, .inl (cP, 3, .inr (.inr (.inr (.inr pf))))), (g, .inr (5, [.int (nI r0), .ref ad, .ref aa])), (ad, .inl (cI, 6, .inl dm))])) (zp_Q (some (.int (nI (r0 + 1)))) ((zi 0 b 2 ∧ zi 1 d 6) ∧ ¬ nI r0 = 5) (fun X => (X = zx_iae ∧ ¬ (zi 0 b 2 ∧ zi 1 d 6)) ∨ (X = zx_ise ∧ (zi 0 b 2 ∧ zi 1 d 6) ∧ nI r0 = 5)) D [(x, .inr (0, [.ref hc, .ref hp, .ref hs0, .ref hm, .ref hn, .ref hr0])), (hp, .inl (cP, 3, .inr (.inr (.inr (.inr pf))))), (g, .inr (5, [.int (nI r0), .ref ad, .ref aa])), (ad, .inl (cI, 6, .inl dm))] [(x, .inr (0, [.ref hc, .ref hp, .ref hs0, .ref hm, .ref hn, .ref hr0])), (hp, .inl (cP, 3, .inr (.inr (.inr (.inr pf))))), (g, .inr (5, [.int (nI (r0 + 1)), .ref ad, .ref aa])), (ad, .inl (cI, 6, .inl (upd dm (r0 + 1) d)))] sz) 3 18 (va_A [(x, .inr (0, [.ref hc, .ref hp, .ref hs0, .ref hm, .ref hn, .ref hr0])), (hp, .inl (cP, 3, .inr (.inr (.inr (.inr pf))))), (g, .inr (5, [.int (nI r0), .ref ad, .ref aa])), (ad, .inl (cI, 6, .inl dm))] sz) := by
  refine zt_ofW (cc := b_SA_requirement) (maxL := 3) (ret := (some .int)) (by decide) rfl ?_
  intro p e s m args below meth c s₁ B hml hemp hv
  obtain ⟨rfl, hsz, hok, hs, hP, hK, hDt⟩ := hv
  have hx := B.exec
  have hb := B.bytes
  have hr := B.returns
  have hown : s.vm.findClass "StudyAudit" = some m.cls := findClass_of_methodNamed B.named
  have hlocks := B.notSynchronized
  subst hsz
  have hP0 := hP
  have hD9 := hDt.self (sz := s.heap.size)
  obtain ⟨A, hAe⟩ : ∃ A, A = va_A [(x, .inr (0, [.ref hc, .ref hp, .ref hs0, .ref hm, .ref hn, .ref hr0])), (hp, .inl (cP, 3, .inr (.inr (.inr (.inr pf))))), (g, .inr (5, [.int (nI r0), .ref ad, .ref aa])), (ad, .inl (cI, 6, .inl dm))] s.heap.size := ⟨_, rfl⟩
  have hD : va_D A [(x, .inr (0, [.ref hc, .ref hp, .ref hs0, .ref hm, .ref hn, .ref hr0])), (hp, .inl (cP, 3, .inr (.inr (.inr (.inr pf))))), (g, .inr (5, [.int (nI r0), .ref ad, .ref aa])), (ad, .inl (cI, 6, .inl dm))] := by rw [hAe]; exact hD9
  have hA : ∀ q : Nat, s.heap.size ≤ q → A q := fun q h => by rw [hAe]; exact Or.inr h
  have hS : va_S A s.heap s.heap [] := va_S.rf
  have hl := lv_entry ([.ref x, .int b, .int d]) (n := 3) (Nat.le_of_ble_eq_true rfl)
  rw [lg_entry_eq]
  generalize (lg_sl ([.ref x, .int b, .int d]) ++ List.replicate (3 - (lg_sl ([.ref x, .int b, .int d])).length) Slot.unset).toArray = ls at hl ⊢
  have hl : lv_has ls 3 [(0, .ref x), (1, .int b), (2, .int d)] := hl
  refine lv_aload_n hx hb d_SA_requirement_0 rfl (lv_at hl 0 rfl) ?_
  refine lv_iload_n hx hb d_SA_requirement_1 rfl (lv_at hl 1 rfl) ?_
  refine zk_call (zt_runV (Ts := []) (As := [.int b]) (rest := []) ⟨hx, hb, hml, hown, fun _ h => absurd h List.not_mem_nil⟩ (m_SA_checkProgramme l htr x b s.heap) ⟨zc_B 1 hok c_SA_checkProgramme_w t_1 t_403 rfl rfl (by decide +kernel) ⟨Nat.le_of_ble_eq_true rfl, Nat.le_of_ble_eq_true rfl⟩, hok _ t_405 rfl _, hok _ s_3 rfl _⟩ ⟨fun a U g mk q => by obtain ⟨q0, q1, q2, q3⟩ := q; exact ⟨q0, q1, q2.call g mk a, q3.moved (Vm.Alike.refl _)⟩, va_recv hK hP (ci := 0) (q0 := 0) rfl rfl, fun U hU hW => ⟨rfl, hU, hok.warm hW, by rw [hU]; exact hs.moved hW.alike⟩⟩ rfl rfl hl.1 rfl (lv_room (Nat.le_of_ble_eq_true rfl)) d_SA_requirement_2 ⟨Nat.le_of_ble_eq_true rfl, Nat.le_of_ble_eq_true rfl⟩) (Nat.le_refl _) (fun h2 => ?_) (fun ax X H1 hE hex k1 k2 => zt_Tmono (fun t ht => zp_conv (ok0 := False) (fun z => z) hP0 hD9 ht) (zt_widen (k := 3) (n := 18) (by decide) (by decide) (zk_on hlocks hemp rfl (Or.inl ⟨hE.1, fun z => hE.2 z.1⟩) hex k1 k2)))
  refine lv_iconst (v := 1) hx hb d_SA_requirement_5 (by decide) ?_
  refine lv_iload_n hx hb d_SA_requirement_6 rfl (lv_at hl 2 rfl) ?_
  refine lv_bipush (v := 6) hx hb d_SA_requirement_7 (by decide) ?_
  refine zk_call (zt_runS (Ts := []) (As := [.int 1, .int d, .int 6]) (rest := []) ⟨hx, hb, hml, hown, fun _ h => absurd h List.not_mem_nil⟩ (m_SA_checkBetween l htr 1 d 6 s.heap) ⟨zc_B 3 hok c_SA_checkBetween_w t_1 t_261 rfl rfl (by decide +kernel) ⟨Nat.le_of_ble_eq_true rfl, Nat.le_of_ble_eq_true rfl⟩, hok _ t_262 rfl _⟩ ⟨fun a U g mk q => by obtain ⟨q0, q1, q2, q3⟩ := q; exact ⟨q0, q1, q2.call g mk a, q3.moved (Vm.Alike.refl _)⟩, fun U hU hW => ⟨rfl, hU, hok.warm hW, by rw [hU]; exact hs.moved hW.alike⟩⟩ rfl rfl hl.1 rfl (lv_room (Nat.le_of_ble_eq_true rfl)) d_SA_requirement_9 ⟨Nat.le_of_ble_eq_true rfl, Nat.le_of_ble_eq_true rfl⟩) (Nat.le_refl _) (fun h9 => ?_) (fun ax X H1 hE hex k1 k2 => zt_Tmono (fun t ht => zp_conv (ok0 := False) (fun z => z) hP0 hD9 ht) (zt_widen (k := 3) (n := 18) (by decide) (by decide) (zk_on hlocks hemp rfl (Or.inl ⟨hE.1, fun z => hE.2 z.2⟩) hex k1 k2)))
  have k2 := zi_k (n := 2) (by omega) h2
  refine lv_aload_n hx hb d_SA_requirement_12 rfl (lv_at hl 0 rfl) ?_
  refine va_get (D := D) (ci := 0) (v := .ref hp) (C := R_SA) (T := F_SA) (N := 6) hx hb (tb_in hok in_SA) (fun w h => h) hown hK hP 0 rfl rfl 1 (by decide) (hok _ t_230 rfl _) (fun _ h9 => h9) rfl d_SA_requirement_13 ?_
  refine lv_iload_n hx hb d_SA_requirement_16 rfl (lv_at hl 1 rfl) ?_
  refine va_aldq hx hb hK hP 1 3 rfl rfl k2.1 d_SA_requirement_17 ?_
  rw [show va_rf (pf (Int32.toNatClampNeg b)) = .ref g from hp9 h2]
  refine va_get (D := D) (ci := 5) (v := .int (nI r0)) (C := R_PR) (T := F_PR) (N := 3) hx hb (tb_in hok in_PR) (fun w h => h) hown hK hP 2 rfl rfl 0 (by decide) (hok _ t_81 rfl _) (fun _ h9 => h9) rfl d_SA_requirement_18 ?_
  refine lv_iconst (v := 5) hx hb d_SA_requirement_21 (by decide) ?_
  refine lv_icmp_ne (tgt := 35) hx hb d_SA_requirement_22 (by decide) (fun h22 => ?_) (fun h22 => ?_)
  · refine lv_aload_n hx hb d_SA_requirement_35 rfl (lv_at hl 0 rfl) ?_
    refine va_get (D := D) (ci := 0) (v := .ref hp) (C := R_SA) (T := F_SA) (N := 6) hx hb (tb_in hok in_SA) (fun w h => h) hown hK hP 0 rfl rfl 1 (by decide) (hok _ t_230 rfl _) (fun _ h9 => h9) rfl d_SA_requirement_36 ?_
    refine lv_iload_n hx hb d_SA_requirement_39 rfl (lv_at hl 1 rfl) ?_
    refine va_aldq hx hb hK hP 1 3 rfl rfl k2.1 d_SA_requirement_40 ?_
    rw [show va_rf (pf (Int32.toNatClampNeg b)) = .ref g from hp9 h2]
    refine lv_iload_n hx hb d_SA_requirement_41 rfl (lv_at hl 2 rfl) ?_
    refine zc_write (wc := [(g, .inr (5, [.int (nI r0), .ref ad, .ref aa])), (ad, .inl (cI, 6, .inl dm))]) (wc1 := [(g, .inr (5, [.int (nI (r0 + 1)), .ref ad, .ref aa])), (ad, .inl (cI, 6, .inl (upd dm (r0 + 1) d)))]) (wr := [(x, .inr (0, [.ref hc, .ref hp, .ref hs0, .ref hm, .ref hn, .ref hr0])), (hp, .inl (cP, 3, .inr (.inr (.inr (.inr pf)))))]) (ws1 := [(x, .inr (0, [.ref hc, .ref hp, .ref hs0, .ref hm, .ref hn, .ref hr0])), (hp, .inl (cP, 3, .inr (.inr (.inr (.inr pf))))), (g, .inr (5, [.int (nI (r0 + 1)), .ref ad, .ref aa])), (ad, .inl (cI, 6, .inl (upd dm (r0 + 1) d)))]) (va_runV (Ts := []) (As := [.int d]) (rest := []) ⟨hx, hb, hml, hown, fun _ h => absurd h List.not_mem_nil⟩ (m_PR_addRequirement l D cI cJ cZ cP cS g ad aa r0 d dm (Nat.lt_of_le_of_ne hr5 (fun z => h22 (by rw [z]; rfl))) _) ⟨zc_B 1 hok c_PR_addRequirement_w t_3 t_408 rfl rfl (by decide +kernel) ⟨Nat.le_of_ble_eq_true rfl, Nat.le_of_ble_eq_true rfl⟩, hok _ t_409 rfl _, hok _ t_410 rfl _⟩ ⟨fun a U g mk q => by obtain ⟨q0, q1, q2, qP, qK, qD⟩ := q; exact ⟨q0, q1, q2.call g mk a, qP, va_K.moved (u := U) (U := U.calling g mk a) (Vm.Alike.refl U.vm) qK, qD⟩, va_recv hK hP (ci := 5) (q0 := 2) rfl rfl, fun U hU hW => ⟨rfl, by rw [hU], hok.warm hW, by rw [hU]; exact hP.sub [2, 3] rfl, va_K.moved hW.alike hK, (hD.sub [2, 3] (by decide) rfl).weaken (fun _ _ _ _ => trivial)⟩⟩ rfl rfl hl.1 rfl (lv_room (Nat.le_of_ble_eq_true rfl)) d_SA_requirement_42 ⟨Nat.le_of_ble_eq_true rfl, Nat.le_of_ble_eq_true rfl⟩) hS hP hD hA [2, 3] [0, 1] [0, 1, 2, 3] rfl rfl (by decide) (by decide) rfl rfl (by decide) (fun H locs hP hD hS => ?_)
    refine W.eq (g2 := F0 m 45 ls [.int (nI (r0 + 1))]) rfl ?_
    subst hAe
    exact W.widen (k := 3) (n := 18) (by decide) (by decide) (zt_ofMQ (W.iret hx hb hr (fun t ht _ => ⟨Or.inl ⟨rfl, ⟨⟨h2, h9⟩, h22⟩, by rw [ht]; exact hP, hD⟩, hS.F ht⟩) hS.2.2 d_SA_requirement_45))
  · refine zt_mono (fun t ht => zp_conv (ok0 := False) (fun z => z) hP0 hD9 ht) ?_
    refine W.widen (k := 2) (n := 12) (by decide) (by decide) ?_
    exact zk_throwL hx hb htr hown hok (by decide +kernel) (zx_use hok hs zx_ise_l) t_335 t_336 t_15 t_407 (by rw [hml]; exact hl.1) hlocks hemp d_SA_requirement_25 d_SA_requirement_28 d_SA_requirement_29 d_SA_requirement_31 d_SA_requirement_34 (Nat.le_of_ble_eq_true rfl) (Nat.le_of_ble_eq_true rfl) (Nat.le_of_ble_eq_true rfl) (Nat.le_of_ble_eq_true rfl) (Or.inr ⟨rfl, ⟨h2, h9⟩, h22⟩)
set_option maxHeartbeats 4000000 in
set_option maxRecDepth 100000 in
theorem m_SA_allow (l : Launch) (htr : l.stackTraces = false) (D : va_G) (cI cJ cZ cP cS : ClassId) (x hc hp hs0 hm hn hr0 : Nat) (ap al ai ag af at0 G C : Nat) (oc : Int32) (g ad aa r0 : Nat) (b d c0 : Int32) (al0 : Nat → Int32) (pf : Nat → Option Nat) (hp9 : zi 0 b 2 → va_rf (pf (b).toNatClampNeg) = .ref g) (hr5 : r0 ≤ 5) (hC : C ≤ 12) (sz : Nat) : zt_Met l y_SA_allow [Cond.code y_SA_allow b_SA_allow 6 (some .boolean)] { frames := 8, cells := 3, slots := 18, locals := 126 } (va_Pc [.ref x, .int b, .int d, .int c0] (fun U => U.heap.size = sz ∧ tb_ok U ∧ zs_ok U U.heap ∧ va_P D cls [(x, .inr (0, [.ref hc, .ref hp, .ref hs0, .ref hm, .ref hn, .ref hr0])), (hc, .inr (1, [.int (nI G), .ref ap, .ref al, .ref ai, .int (nI C), .ref ag, .ref af, .int oc, .ref at0])), (hp, .inl (cP, 3, .inr (.inr (.inr (.inr pf))))), (g, .inr (5, [.int (nI r0), .ref ad, .ref aa])), (aa, .inl (cI, 6, .inl al0))] U.heap ∧ va_K D cls (tyl cI cJ cZ cP cS) U ∧ va_D (fun _ => True) [(x, .inr (0, [.ref hc, .ref hp, .ref hs0, .ref hm, .ref hn, .ref hr0])), (hc, .inr (1, [.int (nI G), .ref ap, .ref al, .ref ai, .int (nI C), .ref ag, .ref af, .int oc, .ref at0])), (hp, .inl (cP, 3, .inr (.inr (.inr (.inr pf))))), (g, .inr (5, [.int (nI r0), .ref ad, .ref aa])), (aa, .inl (cI, 6, .inl al0))])) (zp_Q (some (.int (zb (! zh (al0 d.toNatClampNeg) c0)))) (zi 0 b 2 ∧ zi 1 d (nI r0) ∧ zi 0 c0 (nI C - 1)) (fun X => X = zx_iae ∧ ¬ (zi 0 b 2 ∧ zi 1 d (nI r0) ∧ zi 0 c0 (nI C - 1))) D [(x, .inr (0, [.ref hc, .ref hp, .ref hs0, .ref hm, .ref hn, .ref hr0])), (hc, .inr (1, [.int (nI G), .ref ap, .ref al, .ref ai, .int (nI C), .ref ag, .ref af, .int oc, .ref at0])), (hp, .inl (cP, 3, .inr (.inr (.inr (.inr pf))))), (g, .inr (5, [.int (nI r0), .ref ad, .ref aa])), (aa, .inl (cI, 6, .inl al0))] [(x, .inr (0, [.ref hc, .ref hp, .ref hs0, .ref hm, .ref hn, .ref hr0])), (hc, .inr (1, [.int (nI G), .ref ap, .ref al, .ref ai, .int (nI C), .ref ag, .ref af, .int oc, .ref at0])), (hp, .inl (cP, 3, .inr (.inr (.inr (.inr pf))))), (g, .inr (5, [.int (nI r0), .ref ad, .ref aa])), (aa, .inl (cI, 6, .inl (upd al0 d.toNatClampNeg (al0 d.toNatClampNeg ||| (1 <<< (c0 &&& 31))))))] sz) 3 18 (va_A [(x, .inr (0, [.ref hc, .ref hp, .ref hs0, .ref hm, .ref hn, .ref hr0])), (hc, .inr (1, [.int (nI G), .ref ap, .ref al, .ref ai, .int (nI C), .ref ag, .ref af, .int oc, .ref at0])), (hp, .inl (cP, 3, .inr (.inr (.inr (.inr pf))))), (g, .inr (5, [.int (nI r0), .ref ad, .ref aa])), (aa, .inl (cI, 6, .inl al0))] sz) := by
  refine zt_ofW (cc := b_SA_allow) (maxL := 6) (ret := (some .boolean)) (by decide) rfl ?_
  intro p e s m args below meth c s₁ B hml hemp hv
  obtain ⟨rfl, hsz, hok, hs, hP, hK, hDt⟩ := hv
  have hx := B.exec
  have hb := B.bytes
  have hr := B.returns
  have hown : s.vm.findClass "StudyAudit" = some m.cls := findClass_of_methodNamed B.named
  have hlocks := B.notSynchronized
  subst hsz
  have hP0 := hP
  have hD9 := hDt.self (sz := s.heap.size)
  obtain ⟨A, hAe⟩ : ∃ A, A = va_A [(x, .inr (0, [.ref hc, .ref hp, .ref hs0, .ref hm, .ref hn, .ref hr0])), (hc, .inr (1, [.int (nI G), .ref ap, .ref al, .ref ai, .int (nI C), .ref ag, .ref af, .int oc, .ref at0])), (hp, .inl (cP, 3, .inr (.inr (.inr (.inr pf))))), (g, .inr (5, [.int (nI r0), .ref ad, .ref aa])), (aa, .inl (cI, 6, .inl al0))] s.heap.size := ⟨_, rfl⟩
  have hD : va_D A [(x, .inr (0, [.ref hc, .ref hp, .ref hs0, .ref hm, .ref hn, .ref hr0])), (hc, .inr (1, [.int (nI G), .ref ap, .ref al, .ref ai, .int (nI C), .ref ag, .ref af, .int oc, .ref at0])), (hp, .inl (cP, 3, .inr (.inr (.inr (.inr pf))))), (g, .inr (5, [.int (nI r0), .ref ad, .ref aa])), (aa, .inl (cI, 6, .inl al0))] := by rw [hAe]; exact hD9
  have hA : ∀ q : Nat, s.heap.size ≤ q → A q := fun q h => by rw [hAe]; exact Or.inr h
  have hS : va_S A s.heap s.heap [] := va_S.rf
  have hl := lv_entry ([.ref x, .int b, .int d, .int c0]) (n := 6) (Nat.le_of_ble_eq_true rfl)
  rw [lg_entry_eq]
  generalize (lg_sl ([.ref x, .int b, .int d, .int c0]) ++ List.replicate (6 - (lg_sl ([.ref x, .int b, .int d, .int c0])).length) Slot.unset).toArray = ls at hl ⊢
  have hl : lv_has ls 6 [(0, .ref x), (1, .int b), (2, .int d), (3, .int c0)] := hl
  refine lv_aload_n hx hb d_SA_allow_0 rfl (lv_at hl 0 rfl) ?_
  refine lv_iload_n hx hb d_SA_allow_1 rfl (lv_at hl 1 rfl) ?_
  refine zk_call (zt_runV (Ts := []) (As := [.int b]) (rest := []) ⟨hx, hb, hml, hown, fun _ h => absurd h List.not_mem_nil⟩ (m_SA_checkProgramme l htr x b s.heap) ⟨zc_B 1 hok c_SA_checkProgramme_w t_1 t_403 rfl rfl (by decide +kernel) ⟨Nat.le_of_ble_eq_true rfl, Nat.le_of_ble_eq_true rfl⟩, hok _ t_405 rfl _, hok _ s_3 rfl _⟩ ⟨fun a U g mk q => by obtain ⟨q0, q1, q2, q3⟩ := q; exact ⟨q0, q1, q2.call g mk a, q3.moved (Vm.Alike.refl _)⟩, va_recv hK hP (ci := 0) (q0 := 0) rfl rfl, fun U hU hW => ⟨rfl, hU, hok.warm hW, by rw [hU]; exact hs.moved hW.alike⟩⟩ rfl rfl hl.1 rfl (lv_room (Nat.le_of_ble_eq_true rfl)) d_SA_allow_2 ⟨Nat.le_of_ble_eq_true rfl, Nat.le_of_ble_eq_true rfl⟩) (Nat.le_refl _) (fun h2 => ?_) (fun ax X H1 hE hex k1 k2 => zt_Tmono (fun t ht => zp_conv (ok0 := False) (fun z => z) hP0 hD9 ht) (zt_widen (k := 3) (n := 18) (by decide) (by decide) (zk_on hlocks hemp rfl (⟨hE.1, fun z => hE.2 z.1⟩) hex k1 k2)))
  have k2 := zi_k (n := 2) (by omega) h2
  have kn : ¬ b = -1 := fun z => h2.1 (by rw [z]; decide)
  refine lv_aload_n hx hb d_SA_allow_5 rfl (lv_at hl 0 rfl) ?_
  refine lv_iload_n hx hb d_SA_allow_6 rfl (lv_at hl 1 rfl) ?_
  refine lv_iload_n hx hb d_SA_allow_7 rfl (lv_at hl 2 rfl) ?_
  refine zk_call (zt_runV (Ts := []) (As := [.int b, .int d]) (rest := []) ⟨hx, hb, hml, hown, fun _ h => absurd h List.not_mem_nil⟩ (m_SA_checkRequirement l htr D cI cJ cZ cP cS x hc hp hs0 hm hn hr0 g ad aa (nI r0) b d pf (Or.inr ⟨k2.1, hp9 h2⟩) s.heap) ⟨zc_B 2 hok c_SA_checkRequirement_w t_1 t_419 rfl rfl (by decide +kernel) ⟨Nat.le_of_ble_eq_true rfl, Nat.le_of_ble_eq_true rfl⟩, hok _ t_421 rfl _, hok _ s_4 rfl _⟩ ⟨fun a U g mk q => by obtain ⟨q0, q1, q2, q3, qP, qK⟩ := q; exact ⟨q0, q1, q2.call g mk a, q3.moved (Vm.Alike.refl _), qP, va_K.moved (u := U) (U := U.calling g mk a) (Vm.Alike.refl U.vm) qK⟩, va_recv hK hP (ci := 0) (q0 := 0) rfl rfl, fun U hU hW => ⟨rfl, hU, hok.warm hW, by rw [hU]; exact hs.moved hW.alike, by rw [hU]; exact hP.sub [0, 2, 3] rfl, va_K.moved hW.alike hK⟩⟩ rfl rfl hl.1 rfl (lv_room (Nat.le_of_ble_eq_true rfl)) d_SA_allow_8 ⟨Nat.le_of_ble_eq_true rfl, Nat.le_of_ble_eq_true rfl⟩) (Nat.le_refl _) (fun h8 => ?_) (fun ax X H1 hE hex k1 k2 => zt_Tmono (fun t ht => zp_conv (ok0 := False) (fun z => z) hP0 hD9 ht) (zt_widen (k := 3) (n := 18) (by decide) (by decide) (zk_on hlocks hemp rfl (⟨hE.1, fun z => hE.2 (by rw [if_neg kn]; exact z.2.1)⟩) hex k1 k2)))
  have h8a : zi 1 d (nI r0) := by rw [if_neg kn] at h8; exact h8
  have k8 := zi_one (by omega) h8a
  have kv : vp_in d 6 := by rw [k8.1]; exact vp_in_nI (by omega) (by omega)
  refine lv_aload_n hx hb d_SA_allow_11 rfl (lv_at hl 0 rfl) ?_
  refine lv_iload_n hx hb d_SA_allow_12 rfl (lv_at hl 3 rfl) ?_
  refine zk_call (zt_runV (Ts := []) (As := [.int c0]) (rest := []) ⟨hx, hb, hml, hown, fun _ h => absurd h List.not_mem_nil⟩ (m_SA_checkCourse l htr D cI cJ cZ cP cS x hc hp hs0 hm hn hr0 ap al ai ag af at0 (nI G) (nI C) oc c0 s.heap) ⟨zc_B 1 hok c_SA_checkCourse_w t_1 t_378 rfl rfl (by decide +kernel) ⟨Nat.le_of_ble_eq_true rfl, Nat.le_of_ble_eq_true rfl⟩, hok _ t_380 rfl _, hok _ s_2 rfl _⟩ ⟨fun a U g mk q => by obtain ⟨q0, q1, q2, q3, qP, qK⟩ := q; exact ⟨q0, q1, q2.call g mk a, q3.moved (Vm.Alike.refl _), qP, va_K.moved (u := U) (U := U.calling g mk a) (Vm.Alike.refl U.vm) qK⟩, va_recv hK hP (ci := 0) (q0 := 0) rfl rfl, fun U hU hW => ⟨rfl, hU, hok.warm hW, by rw [hU]; exact hs.moved hW.alike, by rw [hU]; exact hP.sub [0, 1] rfl, va_K.moved hW.alike hK⟩⟩ rfl rfl hl.1 rfl (lv_room (Nat.le_of_ble_eq_true rfl)) d_SA_allow_13 ⟨Nat.le_of_ble_eq_true rfl, Nat.le_of_ble_eq_true rfl⟩) (Nat.le_refl _) (fun h13 => ?_) (fun ax X H1 hE hex k1 k2 => zt_Tmono (fun t ht => zp_conv (ok0 := False) (fun z => z) hP0 hD9 ht) (zt_widen (k := 3) (n := 18) (by decide) (by decide) (zk_on hlocks hemp rfl (⟨hE.1, fun z => hE.2 z.2.2⟩) hex k1 k2)))
  refine lv_aload_n hx hb d_SA_allow_16 rfl (lv_at hl 0 rfl) ?_
  refine va_get (D := D) (ci := 0) (v := .ref hp) (C := R_SA) (T := F_SA) (N := 6) hx hb (tb_in hok in_SA) (fun w h => h) hown hK hP 0 rfl rfl 1 (by decide) (hok _ t_230 rfl _) (fun _ h9 => h9) rfl d_SA_allow_17 ?_
  refine lv_iload_n hx hb d_SA_allow_20 rfl (lv_at hl 1 rfl) ?_
  refine va_aldq hx hb hK hP 2 3 rfl rfl k2.1 d_SA_allow_21 ?_
  rw [show va_rf (pf (Int32.toNatClampNeg b)) = .ref g from hp9 h2]
  refine va_get (D := D) (ci := 5) (v := .ref aa) (C := R_PR) (T := F_PR) (N := 3) hx hb (tb_in hok in_PR) (fun w h => h) hown hK hP 3 rfl rfl 2 (by decide) (hok _ t_86 rfl _) (fun _ h9 => h9) rfl d_SA_allow_22 ?_
  refine lv_astore hx hb d_SA_allow_25 hl (by decide) rfl (fun ls hl => ?_)
  have hl : lv_has ls 6 [(4, .ref aa), (0, .ref x), (1, .int b), (2, .int d), (3, .int c0)] := hl
  refine lv_aload hx hb d_SA_allow_27 (lv_at hl 0 rfl) ?_
  refine lv_iload_n hx hb d_SA_allow_29 rfl (lv_at hl 3 rfl) ?_
  refine va_iald hx hb hK hP 4 0 rfl rfl kv d_SA_allow_30 ?_
  refine lv_iload_n hx hb d_SA_allow_31 rfl (lv_at hl 4 rfl) ?_
  refine zc_read (va_runS (Ts := []) (As := [.int (al0 (Int32.toNatClampNeg d)), .int c0]) (rest := []) ⟨hx, hb, hml, hown, fun _ h => absurd h List.not_mem_nil⟩ (m_SA_has l (al0 (Int32.toNatClampNeg d)) c0) ⟨zc_B 2 hok c_SA_has_w t_1 t_386 rfl rfl (by decide +kernel) ⟨Nat.le_of_ble_eq_true rfl, Nat.le_of_ble_eq_true rfl⟩, hok _ t_387 rfl _⟩ ⟨fun a U g mk q => by obtain ⟨q0, q1⟩ := q; exact ⟨q0, q1⟩, fun U hU hW => ⟨rfl, trivial⟩⟩ rfl rfl hl.1 rfl (lv_room (Nat.le_of_ble_eq_true rfl)) d_SA_allow_32 ⟨Nat.le_of_ble_eq_true rfl, Nat.le_of_ble_eq_true rfl⟩) ?_
  refine W.eq (g2 := F0 m 35 ls [.int (zb (zh (al0 (Int32.toNatClampNeg d)) c0))]) rfl ?_
  refine lv_if_ne (tgt := 42) hx hb d_SA_allow_35 (by decide) (fun h35 => ?_) (fun h35 => ?_)
  · refine lv_iconst (v := 0) hx hb d_SA_allow_42 (by decide) ?_
    refine lv_istore hx hb d_SA_allow_43 hl (by decide) rfl (fun ls hl => ?_)
    have hl : lv_has ls 6 [(5, .int 0), (4, .ref aa), (0, .ref x), (1, .int b), (2, .int d), (3, .int c0)] := hl
    refine lv_aload hx hb d_SA_allow_45 (lv_at hl 1 rfl) ?_
    refine lv_iload_n hx hb d_SA_allow_47 rfl (lv_at hl 4 rfl) ?_
    refine lv_aload hx hb d_SA_allow_48 (lv_at hl 1 rfl) ?_
    refine lv_iload_n hx hb d_SA_allow_50 rfl (lv_at hl 4 rfl) ?_
    refine va_iald hx hb hK hP 4 0 rfl rfl kv d_SA_allow_51 ?_
    refine lv_iload_n hx hb d_SA_allow_52 rfl (lv_at hl 5 rfl) ?_
    refine zc_read (va_runS (Ts := []) (As := [.int (al0 (Int32.toNatClampNeg d)), .int c0]) (rest := [.int d, .ref aa]) ⟨hx, hb, hml, hown, fun _ h => absurd h List.not_mem_nil⟩ (m_SA_with l (al0 (Int32.toNatClampNeg d)) c0) ⟨zc_B 2 hok c_SA_with_w t_1 t_382 rfl rfl (by decide +kernel) ⟨Nat.le_of_ble_eq_true rfl, Nat.le_of_ble_eq_true rfl⟩, hok _ t_369 rfl _⟩ ⟨fun a U g mk q => by obtain ⟨q0, q1⟩ := q; exact ⟨q0, q1⟩, fun U hU hW => ⟨rfl, trivial⟩⟩ rfl rfl hl.1 rfl (lv_room (Nat.le_of_ble_eq_true rfl)) d_SA_allow_53 ⟨Nat.le_of_ble_eq_true rfl, Nat.le_of_ble_eq_true rfl⟩) ?_
    refine W.eq (g2 := F0 m 56 ls [.int ((al0 (Int32.toNatClampNeg d)) ||| (1 <<< (c0 &&& 31))), .int d, .ref aa]) rfl ?_
    refine va_iast hx hb hK hP hD hS 4 0 rfl rfl kv d_SA_allow_56 (fun H locs hP hD hS => ?_)
    have hP : va_P D cls [(x, .inr (0, [.ref hc, .ref hp, .ref hs0, .ref hm, .ref hn, .ref hr0])), (hc, .inr (1, [.int (nI G), .ref ap, .ref al, .ref ai, .int (nI C), .ref ag, .ref af, .int oc, .ref at0])), (hp, .inl (cP, 3, .inr (.inr (.inr (.inr pf))))), (g, .inr (5, [.int (nI r0), .ref ad, .ref aa])), (aa, .inl (cI, 6, .inl (upd al0 (Int32.toNatClampNeg d) ((al0 (Int32.toNatClampNeg d)) ||| (1 <<< (c0 &&& 31))))))] H := hP
    have hD : va_D A [(x, .inr (0, [.ref hc, .ref hp, .ref hs0, .ref hm, .ref hn, .ref hr0])), (hc, .inr (1, [.int (nI G), .ref ap, .ref al, .ref ai, .int (nI C), .ref ag, .ref af, .int oc, .ref at0])), (hp, .inl (cP, 3, .inr (.inr (.inr (.inr pf))))), (g, .inr (5, [.int (nI r0), .ref ad, .ref aa])), (aa, .inl (cI, 6, .inl (upd al0 (Int32.toNatClampNeg d) ((al0 (Int32.toNatClampNeg d)) ||| (1 <<< (c0 &&& 31))))))] := hD
    refine lv_iload hx hb d_SA_allow_57 (lv_at hl 0 rfl) ?_
    refine W.eq (g2 := F0 m 59 ls [.int (zb (! zh (al0 d.toNatClampNeg) c0))]) (by cases hz : zh (al0 d.toNatClampNeg) c0 <;> rw [hz] at h35 <;> first | rfl | exact absurd h35 (by decide) | exact absurd rfl h35) ?_
    subst hAe
    exact W.widen (k := 3) (n := 18) (by decide) (by decide) (zt_ofMQ (W.zret hx hb hr (z_zb _) (fun t ht _ => ⟨Or.inl ⟨rfl, ⟨h2, h8a, h13⟩, by rw [ht]; exact hP, hD⟩, hS.F ht⟩) hS.2.2 d_SA_allow_59))
  · refine lv_iconst (v := 1) hx hb d_SA_allow_38 (by decide) ?_
    refine lv_goto (tgt := 43) hx hb d_SA_allow_39 (by decide) ?_
    refine lv_istore hx hb d_SA_allow_43 hl (by decide) rfl (fun ls hl => ?_)
    have hl : lv_has ls 6 [(5, .int 1), (4, .ref aa), (0, .ref x), (1, .int b), (2, .int d), (3, .int c0)] := hl
    refine lv_aload hx hb d_SA_allow_45 (lv_at hl 1 rfl) ?_
    refine lv_iload_n hx hb d_SA_allow_47 rfl (lv_at hl 4 rfl) ?_
    refine lv_aload hx hb d_SA_allow_48 (lv_at hl 1 rfl) ?_
    refine lv_iload_n hx hb d_SA_allow_50 rfl (lv_at hl 4 rfl) ?_
    refine va_iald hx hb hK hP 4 0 rfl rfl kv d_SA_allow_51 ?_
    refine lv_iload_n hx hb d_SA_allow_52 rfl (lv_at hl 5 rfl) ?_
    refine zc_read (va_runS (Ts := []) (As := [.int (al0 (Int32.toNatClampNeg d)), .int c0]) (rest := [.int d, .ref aa]) ⟨hx, hb, hml, hown, fun _ h => absurd h List.not_mem_nil⟩ (m_SA_with l (al0 (Int32.toNatClampNeg d)) c0) ⟨zc_B 2 hok c_SA_with_w t_1 t_382 rfl rfl (by decide +kernel) ⟨Nat.le_of_ble_eq_true rfl, Nat.le_of_ble_eq_true rfl⟩, hok _ t_369 rfl _⟩ ⟨fun a U g mk q => by obtain ⟨q0, q1⟩ := q; exact ⟨q0, q1⟩, fun U hU hW => ⟨rfl, trivial⟩⟩ rfl rfl hl.1 rfl (lv_room (Nat.le_of_ble_eq_true rfl)) d_SA_allow_53 ⟨Nat.le_of_ble_eq_true rfl, Nat.le_of_ble_eq_true rfl⟩) ?_
    refine W.eq (g2 := F0 m 56 ls [.int ((al0 (Int32.toNatClampNeg d)) ||| (1 <<< (c0 &&& 31))), .int d, .ref aa]) rfl ?_
    refine va_iast hx hb hK hP hD hS 4 0 rfl rfl kv d_SA_allow_56 (fun H locs hP hD hS => ?_)
    have hP : va_P D cls [(x, .inr (0, [.ref hc, .ref hp, .ref hs0, .ref hm, .ref hn, .ref hr0])), (hc, .inr (1, [.int (nI G), .ref ap, .ref al, .ref ai, .int (nI C), .ref ag, .ref af, .int oc, .ref at0])), (hp, .inl (cP, 3, .inr (.inr (.inr (.inr pf))))), (g, .inr (5, [.int (nI r0), .ref ad, .ref aa])), (aa, .inl (cI, 6, .inl (upd al0 (Int32.toNatClampNeg d) ((al0 (Int32.toNatClampNeg d)) ||| (1 <<< (c0 &&& 31))))))] H := hP
    have hD : va_D A [(x, .inr (0, [.ref hc, .ref hp, .ref hs0, .ref hm, .ref hn, .ref hr0])), (hc, .inr (1, [.int (nI G), .ref ap, .ref al, .ref ai, .int (nI C), .ref ag, .ref af, .int oc, .ref at0])), (hp, .inl (cP, 3, .inr (.inr (.inr (.inr pf))))), (g, .inr (5, [.int (nI r0), .ref ad, .ref aa])), (aa, .inl (cI, 6, .inl (upd al0 (Int32.toNatClampNeg d) ((al0 (Int32.toNatClampNeg d)) ||| (1 <<< (c0 &&& 31))))))] := hD
    refine lv_iload hx hb d_SA_allow_57 (lv_at hl 0 rfl) ?_
    refine W.eq (g2 := F0 m 59 ls [.int (zb (! zh (al0 d.toNatClampNeg) c0))]) (by cases hz : zh (al0 d.toNatClampNeg) c0 <;> rw [hz] at h35 <;> first | rfl | exact absurd h35 (by decide) | exact absurd rfl h35) ?_
    subst hAe
    exact W.widen (k := 3) (n := 18) (by decide) (by decide) (zt_ofMQ (W.zret hx hb hr (z_zb _) (fun t ht _ => ⟨Or.inl ⟨rfl, ⟨h2, h8a, h13⟩, by rw [ht]; exact hP, hD⟩, hS.F ht⟩) hS.2.2 d_SA_allow_59))
set_option maxHeartbeats 4000000 in
set_option maxRecDepth 100000 in
theorem m_SA_student (l : Launch) (htr : l.stackTraces = false) (D : va_G) (cI cJ cZ cP cS : ClassId) (x hc hp hs0 hm hn hr0 : Nat) (q aps asf aex : Nat) (pg np : Int32) (b d : Int32) (ex : Nat → Int32) (sf0 : Nat → Option Nat) (hs9 : zi 0 b 3 → va_rf (sf0 b.toNatClampNeg) = .ref q) (sz : Nat) : zt_Met l y_SA_student [Cond.code y_SA_student b_SA_student 4 (some .int)] { frames := 8, cells := 2, slots := 12, locals := 125 } (va_Pc [.ref x, .int b, .int d] (fun U => U.heap.size = sz ∧ tb_ok U ∧ zs_ok U U.heap ∧ va_P D cls [(x, .inr (0, [.ref hc, .ref hp, .ref hs0, .ref hm, .ref hn, .ref hr0])), (hs0, .inl (cS, 4, .inr (.inr (.inr (.inr sf0))))), (q, .inr (7, [.int pg, .ref aps, .ref asf, .int np, .ref aex])), (aex, .inl (cI, 6, .inl ex))] U.heap ∧ va_K D cls (tyl cI cJ cZ cP cS) U ∧ va_D (fun _ => True) [(x, .inr (0, [.ref hc, .ref hp, .ref hs0, .ref hm, .ref hn, .ref hr0])), (hs0, .inl (cS, 4, .inr (.inr (.inr (.inr sf0))))), (q, .inr (7, [.int pg, .ref aps, .ref asf, .int np, .ref aex])), (aex, .inl (cI, 6, .inl ex))])) (zp_Q (some (.int pg)) (zi 0 b 3 ∧ zi 0 d 2) (fun X => X = zx_iae ∧ ¬ (zi 0 b 3 ∧ zi 0 d 2)) D [(x, .inr (0, [.ref hc, .ref hp, .ref hs0, .ref hm, .ref hn, .ref hr0])), (hs0, .inl (cS, 4, .inr (.inr (.inr (.inr sf0))))), (q, .inr (7, [.int pg, .ref aps, .ref asf, .int np, .ref aex])), (aex, .inl (cI, 6, .inl ex))] [(x, .inr (0, [.ref hc, .ref hp, .ref hs0, .ref hm, .ref hn, .ref hr0])), (hs0, .inl (cS, 4, .inr (.inr (.inr (.inr sf0))))), (q, .inr (7, [.int d, .ref aps, .ref asf, .int np, .ref aex])), (aex, .inl (cI, 6, .inl (zfl ex 0 6)))] sz) 2 12 (va_A [(x, .inr (0, [.ref hc, .ref hp, .ref hs0, .ref hm, .ref hn, .ref hr0])), (hs0, .inl (cS, 4, .inr (.inr (.inr (.inr sf0))))), (q, .inr (7, [.int pg, .ref aps, .ref asf, .int np, .ref aex])), (aex, .inl (cI, 6, .inl ex))] sz) := by
  refine zt_ofW (cc := b_SA_student) (maxL := 4) (ret := (some .int)) (by decide) rfl ?_
  intro p e s m args below meth c s₁ B hml hemp hv
  obtain ⟨rfl, hsz, hok, hs, hP, hK, hDt⟩ := hv
  have hx := B.exec
  have hb := B.bytes
  have hr := B.returns
  have hown : s.vm.findClass "StudyAudit" = some m.cls := findClass_of_methodNamed B.named
  have hlocks := B.notSynchronized
  subst hsz
  have hP0 := hP
  have hD9 := hDt.self (sz := s.heap.size)
  obtain ⟨A, hAe⟩ : ∃ A, A = va_A [(x, .inr (0, [.ref hc, .ref hp, .ref hs0, .ref hm, .ref hn, .ref hr0])), (hs0, .inl (cS, 4, .inr (.inr (.inr (.inr sf0))))), (q, .inr (7, [.int pg, .ref aps, .ref asf, .int np, .ref aex])), (aex, .inl (cI, 6, .inl ex))] s.heap.size := ⟨_, rfl⟩
  have hD : va_D A [(x, .inr (0, [.ref hc, .ref hp, .ref hs0, .ref hm, .ref hn, .ref hr0])), (hs0, .inl (cS, 4, .inr (.inr (.inr (.inr sf0))))), (q, .inr (7, [.int pg, .ref aps, .ref asf, .int np, .ref aex])), (aex, .inl (cI, 6, .inl ex))] := by rw [hAe]; exact hD9
  have hA : ∀ q : Nat, s.heap.size ≤ q → A q := fun q h => by rw [hAe]; exact Or.inr h
  have hS : va_S A s.heap s.heap [] := va_S.rf
  have hl := lv_entry ([.ref x, .int b, .int d]) (n := 4) (Nat.le_of_ble_eq_true rfl)
  rw [lg_entry_eq]
  generalize (lg_sl ([.ref x, .int b, .int d]) ++ List.replicate (4 - (lg_sl ([.ref x, .int b, .int d])).length) Slot.unset).toArray = ls at hl ⊢
  have hl : lv_has ls 4 [(0, .ref x), (1, .int b), (2, .int d)] := hl
  refine lv_aload_n hx hb d_SA_student_0 rfl (lv_at hl 0 rfl) ?_
  refine lv_iload_n hx hb d_SA_student_1 rfl (lv_at hl 1 rfl) ?_
  refine zk_call (zt_runV (Ts := []) (As := [.int b]) (rest := []) ⟨hx, hb, hml, hown, fun _ h => absurd h List.not_mem_nil⟩ (m_SA_checkStudent l htr x b s.heap) ⟨zc_B 1 hok c_SA_checkStudent_w t_1 t_430 rfl rfl (by decide +kernel) ⟨Nat.le_of_ble_eq_true rfl, Nat.le_of_ble_eq_true rfl⟩, hok _ t_432 rfl _, hok _ s_5 rfl _⟩ ⟨fun a U g mk q => by obtain ⟨q0, q1, q2, q3⟩ := q; exact ⟨q0, q1, q2.call g mk a, q3.moved (Vm.Alike.refl _)⟩, va_recv hK hP (ci := 0) (q0 := 0) rfl rfl, fun U hU hW => ⟨rfl, hU, hok.warm hW, by rw [hU]; exact hs.moved hW.alike⟩⟩ rfl rfl hl.1 rfl (lv_room (Nat.le_of_ble_eq_true rfl)) d_SA_student_2 ⟨Nat.le_of_ble_eq_true rfl, Nat.le_of_ble_eq_true rfl⟩) (Nat.le_refl _) (fun h2 => ?_) (fun ax X H1 hE hex k1 k2 => zt_Tmono (fun t ht => zp_conv (ok0 := False) (fun z => z) hP0 hD9 ht) (zt_widen (k := 2) (n := 12) (by decide) (by decide) (zk_on hlocks hemp rfl (⟨hE.1, fun z => hE.2 z.1⟩) hex k1 k2)))
  refine lv_aload_n hx hb d_SA_student_5 rfl (lv_at hl 0 rfl) ?_
  refine lv_iload_n hx hb d_SA_student_6 rfl (lv_at hl 2 rfl) ?_
  refine zk_call (zt_runV (Ts := []) (As := [.int d]) (rest := []) ⟨hx, hb, hml, hown, fun _ h => absurd h List.not_mem_nil⟩ (m_SA_checkProgramme l htr x d s.heap) ⟨zc_B 1 hok c_SA_checkProgramme_w t_1 t_403 rfl rfl (by decide +kernel) ⟨Nat.le_of_ble_eq_true rfl, Nat.le_of_ble_eq_true rfl⟩, hok _ t_405 rfl _, hok _ s_3 rfl _⟩ ⟨fun a U g mk q => by obtain ⟨q0, q1, q2, q3⟩ := q; exact ⟨q0, q1, q2.call g mk a, q3.moved (Vm.Alike.refl _)⟩, va_recv hK hP (ci := 0) (q0 := 0) rfl rfl, fun U hU hW => ⟨rfl, hU, hok.warm hW, by rw [hU]; exact hs.moved hW.alike⟩⟩ rfl rfl hl.1 rfl (lv_room (Nat.le_of_ble_eq_true rfl)) d_SA_student_7 ⟨Nat.le_of_ble_eq_true rfl, Nat.le_of_ble_eq_true rfl⟩) (Nat.le_refl _) (fun h7 => ?_) (fun ax X H1 hE hex k1 k2 => zt_Tmono (fun t ht => zp_conv (ok0 := False) (fun z => z) hP0 hD9 ht) (zt_widen (k := 2) (n := 12) (by decide) (by decide) (zk_on hlocks hemp rfl (⟨hE.1, fun z => hE.2 z.2⟩) hex k1 k2)))
  have k2 := zi_k (n := 3) (by omega) h2
  refine lv_aload_n hx hb d_SA_student_10 rfl (lv_at hl 0 rfl) ?_
  refine va_get (D := D) (ci := 0) (v := .ref hs0) (C := R_SA) (T := F_SA) (N := 6) hx hb (tb_in hok in_SA) (fun w h => h) hown hK hP 0 rfl rfl 2 (by decide) (hok _ t_231 rfl _) (fun _ h9 => h9) rfl d_SA_student_11 ?_
  refine lv_iload_n hx hb d_SA_student_14 rfl (lv_at hl 1 rfl) ?_
  refine va_aldq hx hb hK hP 1 4 rfl rfl k2.1 d_SA_student_15 ?_
  rw [show va_rf (sf0 (Int32.toNatClampNeg b)) = .ref q from hs9 h2]
  refine va_get (D := D) (ci := 7) (v := .int pg) (C := R_ST) (T := F_ST) (N := 5) hx hb (tb_in hok in_ST) (fun w h => h) hown hK hP 2 rfl rfl 0 (by decide) (hok _ t_105 rfl _) (fun _ h9 => h9) rfl d_SA_student_16 ?_
  refine lv_istore_n hx hb d_SA_student_19 rfl hl (by decide) rfl (fun ls hl => ?_)
  have hl : lv_has ls 4 [(3, .int pg), (0, .ref x), (1, .int b), (2, .int d)] := hl
  refine lv_aload_n hx hb d_SA_student_20 rfl (lv_at hl 1 rfl) ?_
  refine va_get (D := D) (ci := 0) (v := .ref hs0) (C := R_SA) (T := F_SA) (N := 6) hx hb (tb_in hok in_SA) (fun w h => h) hown hK hP 0 rfl rfl 2 (by decide) (hok _ t_231 rfl _) (fun _ h9 => h9) rfl d_SA_student_21 ?_
  refine lv_iload_n hx hb d_SA_student_24 rfl (lv_at hl 2 rfl) ?_
  refine va_aldq hx hb hK hP 1 4 rfl rfl k2.1 d_SA_student_25 ?_
  rw [show va_rf (sf0 (Int32.toNatClampNeg b)) = .ref q from hs9 h2]
  refine lv_iload_n hx hb d_SA_student_26 rfl (lv_at hl 3 rfl) ?_
  refine zc_write (wc := [(q, .inr (7, [.int pg, .ref aps, .ref asf, .int np, .ref aex])), (aex, .inl (cI, 6, .inl ex))]) (wc1 := [(q, .inr (7, [.int d, .ref aps, .ref asf, .int np, .ref aex])), (aex, .inl (cI, 6, .inl (zfl ex 0 6)))]) (wr := [(x, .inr (0, [.ref hc, .ref hp, .ref hs0, .ref hm, .ref hn, .ref hr0])), (hs0, .inl (cS, 4, .inr (.inr (.inr (.inr sf0)))))]) (ws1 := [(x, .inr (0, [.ref hc, .ref hp, .ref hs0, .ref hm, .ref hn, .ref hr0])), (hs0, .inl (cS, 4, .inr (.inr (.inr (.inr sf0))))), (q, .inr (7, [.int d, .ref aps, .ref asf, .int np, .ref aex])), (aex, .inl (cI, 6, .inl (zfl ex 0 6)))]) (va_runV (Ts := []) (As := [.int d]) (rest := []) ⟨hx, hb, hml, hown, fun _ h => absurd h List.not_mem_nil⟩ (m_ST_enter l D cI cJ cZ cP cS q aps asf aex pg np d ex _) ⟨zc_B 1 hok c_ST_enter_w t_4 t_434 rfl rfl (by decide +kernel) ⟨Nat.le_of_ble_eq_true rfl, Nat.le_of_ble_eq_true rfl⟩, hok _ t_435 rfl _, hok _ t_436 rfl _⟩ ⟨fun a U g mk q => by obtain ⟨q0, q1, q2, qP, qK, qD⟩ := q; exact ⟨q0, q1, q2.call g mk a, qP, va_K.moved (u := U) (U := U.calling g mk a) (Vm.Alike.refl U.vm) qK, qD⟩, va_recv hK hP (ci := 7) (q0 := 2) rfl rfl, fun U hU hW => ⟨rfl, by rw [hU], hok.warm hW, by rw [hU]; exact hP.sub [2, 3] rfl, va_K.moved hW.alike hK, (hD.sub [2, 3] (by decide) rfl).weaken (fun _ _ _ _ => trivial)⟩⟩ rfl rfl hl.1 rfl (lv_room (Nat.le_of_ble_eq_true rfl)) d_SA_student_27 ⟨Nat.le_of_ble_eq_true rfl, Nat.le_of_ble_eq_true rfl⟩) hS hP hD hA [2, 3] [0, 1] [0, 1, 2, 3] rfl rfl (by decide) (by decide) rfl rfl (by decide) (fun H locs hP hD hS => ?_)
  refine W.eq (g2 := F0 m 30 ls []) rfl ?_
  refine lv_iload_n hx hb d_SA_student_30 rfl (lv_at hl 0 rfl) ?_
  subst hAe
  exact W.widen (k := 2) (n := 12) (by decide) (by decide) (zt_ofMQ (W.iret hx hb hr (fun t ht _ => ⟨Or.inl ⟨rfl, ⟨h2, h7⟩, by rw [ht]; exact hP, hD⟩, hS.F ht⟩) hS.2.2 d_SA_student_31))
set_option maxHeartbeats 4000000 in
set_option maxRecDepth 100000 in
theorem m_SA_pass (l : Launch) (htr : l.stackTraces = false) (D : va_G) (cI cJ cZ cP cS : ClassId) (x hc hp hs0 hm hn hr0 : Nat) (ap al ai ag af at0 G C : Nat) (oc : Int32) (q aps asf aex : Nat) (pg np : Int32) (b c0 d : Int32) (ps : Nat → Int32) (sf0 : Nat → Option Nat) (hs9 : zi 0 b 3 → va_rf (sf0 b.toNatClampNeg) = .ref q) (hC : C ≤ 12) (sz : Nat) : zt_Met l y_SA_pass [Cond.code y_SA_pass b_SA_pass 5 (some .int)] { frames := 8, cells := 3, slots := 18, locals := 125 } (va_Pc [.ref x, .int b, .int c0, .int d] (fun U => U.heap.size = sz ∧ tb_ok U ∧ zs_ok U U.heap ∧ va_P D cls [(x, .inr (0, [.ref hc, .ref hp, .ref hs0, .ref hm, .ref hn, .ref hr0])), (hc, .inr (1, [.int (nI G), .ref ap, .ref al, .ref ai, .int (nI C), .ref ag, .ref af, .int oc, .ref at0])), (hs0, .inl (cS, 4, .inr (.inr (.inr (.inr sf0))))), (q, .inr (7, [.int pg, .ref aps, .ref asf, .int np, .ref aex])), (aps, .inl (cI, 12, .inl ps))] U.heap ∧ va_K D cls (tyl cI cJ cZ cP cS) U ∧ va_D (fun _ => True) [(x, .inr (0, [.ref hc, .ref hp, .ref hs0, .ref hm, .ref hn, .ref hr0])), (hc, .inr (1, [.int (nI G), .ref ap, .ref al, .ref ai, .int (nI C), .ref ag, .ref af, .int oc, .ref at0])), (hs0, .inl (cS, 4, .inr (.inr (.inr (.inr sf0))))), (q, .inr (7, [.int pg, .ref aps, .ref asf, .int np, .ref aex])), (aps, .inl (cI, 12, .inl ps))])) (zp_Q (some (.int (zmax (ps c0.toNatClampNeg) d))) (zi 0 b 3 ∧ zi 0 c0 (nI C - 1) ∧ zi 0 d 99) (fun X => X = zx_iae ∧ ¬ (zi 0 b 3 ∧ zi 0 c0 (nI C - 1) ∧ zi 0 d 99)) D [(x, .inr (0, [.ref hc, .ref hp, .ref hs0, .ref hm, .ref hn, .ref hr0])), (hc, .inr (1, [.int (nI G), .ref ap, .ref al, .ref ai, .int (nI C), .ref ag, .ref af, .int oc, .ref at0])), (hs0, .inl (cS, 4, .inr (.inr (.inr (.inr sf0))))), (q, .inr (7, [.int pg, .ref aps, .ref asf, .int np, .ref aex])), (aps, .inl (cI, 12, .inl ps))] [(x, .inr (0, [.ref hc, .ref hp, .ref hs0, .ref hm, .ref hn, .ref hr0])), (hc, .inr (1, [.int (nI G), .ref ap, .ref al, .ref ai, .int (nI C), .ref ag, .ref af, .int oc, .ref at0])), (hs0, .inl (cS, 4, .inr (.inr (.inr (.inr sf0))))), (q, .inr (7, [.int pg, .ref aps, .ref asf, .int np, .ref aex])), (aps, .inl (cI, 12, .inl (upd ps c0.toNatClampNeg (zmax (ps c0.toNatClampNeg) d))))] sz) 3 18 (va_A [(x, .inr (0, [.ref hc, .ref hp, .ref hs0, .ref hm, .ref hn, .ref hr0])), (hc, .inr (1, [.int (nI G), .ref ap, .ref al, .ref ai, .int (nI C), .ref ag, .ref af, .int oc, .ref at0])), (hs0, .inl (cS, 4, .inr (.inr (.inr (.inr sf0))))), (q, .inr (7, [.int pg, .ref aps, .ref asf, .int np, .ref aex])), (aps, .inl (cI, 12, .inl ps))] sz) := by
  refine zt_ofW (cc := b_SA_pass) (maxL := 5) (ret := (some .int)) (by decide) rfl ?_
  intro p e s m args below meth c s₁ B hml hemp hv
  obtain ⟨rfl, hsz, hok, hs, hP, hK, hDt⟩ := hv
  have hx := B.exec
  have hb := B.bytes
  have hr := B.returns
  have hown : s.vm.findClass "StudyAudit" = some m.cls := findClass_of_methodNamed B.named
  have hlocks := B.notSynchronized
  subst hsz
  have hP0 := hP
  have hD9 := hDt.self (sz := s.heap.size)
  obtain ⟨A, hAe⟩ : ∃ A, A = va_A [(x, .inr (0, [.ref hc, .ref hp, .ref hs0, .ref hm, .ref hn, .ref hr0])), (hc, .inr (1, [.int (nI G), .ref ap, .ref al, .ref ai, .int (nI C), .ref ag, .ref af, .int oc, .ref at0])), (hs0, .inl (cS, 4, .inr (.inr (.inr (.inr sf0))))), (q, .inr (7, [.int pg, .ref aps, .ref asf, .int np, .ref aex])), (aps, .inl (cI, 12, .inl ps))] s.heap.size := ⟨_, rfl⟩
  have hD : va_D A [(x, .inr (0, [.ref hc, .ref hp, .ref hs0, .ref hm, .ref hn, .ref hr0])), (hc, .inr (1, [.int (nI G), .ref ap, .ref al, .ref ai, .int (nI C), .ref ag, .ref af, .int oc, .ref at0])), (hs0, .inl (cS, 4, .inr (.inr (.inr (.inr sf0))))), (q, .inr (7, [.int pg, .ref aps, .ref asf, .int np, .ref aex])), (aps, .inl (cI, 12, .inl ps))] := by rw [hAe]; exact hD9
  have hA : ∀ q : Nat, s.heap.size ≤ q → A q := fun q h => by rw [hAe]; exact Or.inr h
  have hS : va_S A s.heap s.heap [] := va_S.rf
  have hl := lv_entry ([.ref x, .int b, .int c0, .int d]) (n := 5) (Nat.le_of_ble_eq_true rfl)
  rw [lg_entry_eq]
  generalize (lg_sl ([.ref x, .int b, .int c0, .int d]) ++ List.replicate (5 - (lg_sl ([.ref x, .int b, .int c0, .int d])).length) Slot.unset).toArray = ls at hl ⊢
  have hl : lv_has ls 5 [(0, .ref x), (1, .int b), (2, .int c0), (3, .int d)] := hl
  refine lv_aload_n hx hb d_SA_pass_0 rfl (lv_at hl 0 rfl) ?_
  refine lv_iload_n hx hb d_SA_pass_1 rfl (lv_at hl 1 rfl) ?_
  refine zk_call (zt_runV (Ts := []) (As := [.int b]) (rest := []) ⟨hx, hb, hml, hown, fun _ h => absurd h List.not_mem_nil⟩ (m_SA_checkStudent l htr x b s.heap) ⟨zc_B 1 hok c_SA_checkStudent_w t_1 t_430 rfl rfl (by decide +kernel) ⟨Nat.le_of_ble_eq_true rfl, Nat.le_of_ble_eq_true rfl⟩, hok _ t_432 rfl _, hok _ s_5 rfl _⟩ ⟨fun a U g mk q => by obtain ⟨q0, q1, q2, q3⟩ := q; exact ⟨q0, q1, q2.call g mk a, q3.moved (Vm.Alike.refl _)⟩, va_recv hK hP (ci := 0) (q0 := 0) rfl rfl, fun U hU hW => ⟨rfl, hU, hok.warm hW, by rw [hU]; exact hs.moved hW.alike⟩⟩ rfl rfl hl.1 rfl (lv_room (Nat.le_of_ble_eq_true rfl)) d_SA_pass_2 ⟨Nat.le_of_ble_eq_true rfl, Nat.le_of_ble_eq_true rfl⟩) (Nat.le_refl _) (fun h2 => ?_) (fun ax X H1 hE hex k1 k2 => zt_Tmono (fun t ht => zp_conv (ok0 := False) (fun z => z) hP0 hD9 ht) (zt_widen (k := 3) (n := 18) (by decide) (by decide) (zk_on hlocks hemp rfl (⟨hE.1, fun z => hE.2 z.1⟩) hex k1 k2)))
  refine lv_aload_n hx hb d_SA_pass_5 rfl (lv_at hl 0 rfl) ?_
  refine lv_iload_n hx hb d_SA_pass_6 rfl (lv_at hl 2 rfl) ?_
  refine zk_call (zt_runV (Ts := []) (As := [.int c0]) (rest := []) ⟨hx, hb, hml, hown, fun _ h => absurd h List.not_mem_nil⟩ (m_SA_checkCourse l htr D cI cJ cZ cP cS x hc hp hs0 hm hn hr0 ap al ai ag af at0 (nI G) (nI C) oc c0 s.heap) ⟨zc_B 1 hok c_SA_checkCourse_w t_1 t_378 rfl rfl (by decide +kernel) ⟨Nat.le_of_ble_eq_true rfl, Nat.le_of_ble_eq_true rfl⟩, hok _ t_380 rfl _, hok _ s_2 rfl _⟩ ⟨fun a U g mk q => by obtain ⟨q0, q1, q2, q3, qP, qK⟩ := q; exact ⟨q0, q1, q2.call g mk a, q3.moved (Vm.Alike.refl _), qP, va_K.moved (u := U) (U := U.calling g mk a) (Vm.Alike.refl U.vm) qK⟩, va_recv hK hP (ci := 0) (q0 := 0) rfl rfl, fun U hU hW => ⟨rfl, hU, hok.warm hW, by rw [hU]; exact hs.moved hW.alike, by rw [hU]; exact hP.sub [0, 1] rfl, va_K.moved hW.alike hK⟩⟩ rfl rfl hl.1 rfl (lv_room (Nat.le_of_ble_eq_true rfl)) d_SA_pass_7 ⟨Nat.le_of_ble_eq_true rfl, Nat.le_of_ble_eq_true rfl⟩) (Nat.le_refl _) (fun h7 => ?_) (fun ax X H1 hE hex k1 k2 => zt_Tmono (fun t ht => zp_conv (ok0 := False) (fun z => z) hP0 hD9 ht) (zt_widen (k := 3) (n := 18) (by decide) (by decide) (zk_on hlocks hemp rfl (⟨hE.1, fun z => hE.2 z.2.1⟩) hex k1 k2)))
  refine lv_iconst (v := 0) hx hb d_SA_pass_10 (by decide) ?_
  refine lv_iload_n hx hb d_SA_pass_11 rfl (lv_at hl 3 rfl) ?_
  refine lv_bipush (v := 99) hx hb d_SA_pass_12 (by decide) ?_
  refine zk_call (zt_runS (Ts := []) (As := [.int 0, .int d, .int 99]) (rest := []) ⟨hx, hb, hml, hown, fun _ h => absurd h List.not_mem_nil⟩ (m_SA_checkBetween l htr 0 d 99 s.heap) ⟨zc_B 3 hok c_SA_checkBetween_w t_1 t_261 rfl rfl (by decide +kernel) ⟨Nat.le_of_ble_eq_true rfl, Nat.le_of_ble_eq_true rfl⟩, hok _ t_262 rfl _⟩ ⟨fun a U g mk q => by obtain ⟨q0, q1, q2, q3⟩ := q; exact ⟨q0, q1, q2.call g mk a, q3.moved (Vm.Alike.refl _)⟩, fun U hU hW => ⟨rfl, hU, hok.warm hW, by rw [hU]; exact hs.moved hW.alike⟩⟩ rfl rfl hl.1 rfl (lv_room (Nat.le_of_ble_eq_true rfl)) d_SA_pass_14 ⟨Nat.le_of_ble_eq_true rfl, Nat.le_of_ble_eq_true rfl⟩) (Nat.le_refl _) (fun h14 => ?_) (fun ax X H1 hE hex k1 k2 => zt_Tmono (fun t ht => zp_conv (ok0 := False) (fun z => z) hP0 hD9 ht) (zt_widen (k := 3) (n := 18) (by decide) (by decide) (zk_on hlocks hemp rfl (⟨hE.1, fun z => hE.2 z.2.2⟩) hex k1 k2)))
  have k2 := zi_k (n := 3) (by omega) h2
  have k7 := zi_pre (by omega) h7
  have kv : vp_in c0 12 := by rw [k7.2.1]; exact vp_in_nI (by omega) (by omega)
  refine lv_aload_n hx hb d_SA_pass_17 rfl (lv_at hl 0 rfl) ?_
  refine va_get (D := D) (ci := 0) (v := .ref hs0) (C := R_SA) (T := F_SA) (N := 6) hx hb (tb_in hok in_SA) (fun w h => h) hown hK hP 0 rfl rfl 2 (by decide) (hok _ t_231 rfl _) (fun _ h9 => h9) rfl d_SA_pass_18 ?_
  refine lv_iload_n hx hb d_SA_pass_21 rfl (lv_at hl 1 rfl) ?_
  refine va_aldq hx hb hK hP 2 4 rfl rfl k2.1 d_SA_pass_22 ?_
  rw [show va_rf (sf0 (Int32.toNatClampNeg b)) = .ref q from hs9 h2]
  refine va_get (D := D) (ci := 7) (v := .ref aps) (C := R_ST) (T := F_ST) (N := 5) hx hb (tb_in hok in_ST) (fun w h => h) hown hK hP 3 rfl rfl 1 (by decide) (hok _ t_107 rfl _) (fun _ h9 => h9) rfl d_SA_pass_23 ?_
  refine lv_astore hx hb d_SA_pass_26 hl (by decide) rfl (fun ls hl => ?_)
  have hl : lv_has ls 5 [(4, .ref aps), (0, .ref x), (1, .int b), (2, .int c0), (3, .int d)] := hl
  refine lv_aload hx hb d_SA_pass_28 (lv_at hl 0 rfl) ?_
  refine lv_iload_n hx hb d_SA_pass_30 rfl (lv_at hl 3 rfl) ?_
  refine lv_aload hx hb d_SA_pass_31 (lv_at hl 0 rfl) ?_
  refine lv_iload_n hx hb d_SA_pass_33 rfl (lv_at hl 3 rfl) ?_
  refine va_iald hx hb hK hP 4 0 rfl rfl kv d_SA_pass_34 ?_
  refine lv_iload_n hx hb d_SA_pass_35 rfl (lv_at hl 4 rfl) ?_
  refine zc_read (va_runS (Ts := []) (As := [.int (ps (Int32.toNatClampNeg c0)), .int d]) (rest := [.int c0, .ref aps]) ⟨hx, hb, hml, hown, fun _ h => absurd h List.not_mem_nil⟩ (m_MA_max l (ps (Int32.toNatClampNeg c0)) d) ⟨zc_B 2 hok c_MA_max_w t_16 t_445 rfl rfl (by decide +kernel) ⟨Nat.le_of_ble_eq_true rfl, Nat.le_of_ble_eq_true rfl⟩, hok _ t_446 rfl _⟩ ⟨fun a U g mk q => by obtain ⟨q0, q1⟩ := q; exact ⟨q0, q1⟩, fun U hU hW => ⟨rfl, trivial⟩⟩ rfl rfl hl.1 rfl (lv_room (Nat.le_of_ble_eq_true rfl)) d_SA_pass_36 ⟨Nat.le_of_ble_eq_true rfl, Nat.le_of_ble_eq_true rfl⟩) ?_
  refine W.eq (g2 := F0 m 39 ls [.int (zmax (ps (Int32.toNatClampNeg c0)) d), .int c0, .ref aps]) rfl ?_
  refine va_iast hx hb hK hP hD hS 4 0 rfl rfl kv d_SA_pass_39 (fun H locs hP hD hS => ?_)
  have hP : va_P D cls [(x, .inr (0, [.ref hc, .ref hp, .ref hs0, .ref hm, .ref hn, .ref hr0])), (hc, .inr (1, [.int (nI G), .ref ap, .ref al, .ref ai, .int (nI C), .ref ag, .ref af, .int oc, .ref at0])), (hs0, .inl (cS, 4, .inr (.inr (.inr (.inr sf0))))), (q, .inr (7, [.int pg, .ref aps, .ref asf, .int np, .ref aex])), (aps, .inl (cI, 12, .inl (upd ps (Int32.toNatClampNeg c0) (zmax (ps (Int32.toNatClampNeg c0)) d))))] H := hP
  have hD : va_D A [(x, .inr (0, [.ref hc, .ref hp, .ref hs0, .ref hm, .ref hn, .ref hr0])), (hc, .inr (1, [.int (nI G), .ref ap, .ref al, .ref ai, .int (nI C), .ref ag, .ref af, .int oc, .ref at0])), (hs0, .inl (cS, 4, .inr (.inr (.inr (.inr sf0))))), (q, .inr (7, [.int pg, .ref aps, .ref asf, .int np, .ref aex])), (aps, .inl (cI, 12, .inl (upd ps (Int32.toNatClampNeg c0) (zmax (ps (Int32.toNatClampNeg c0)) d))))] := hD
  refine lv_aload hx hb d_SA_pass_40 (lv_at hl 0 rfl) ?_
  refine lv_iload_n hx hb d_SA_pass_42 rfl (lv_at hl 3 rfl) ?_
  refine va_iald hx hb hK hP 4 0 rfl rfl kv d_SA_pass_43 ?_
  refine W.eq (g2 := F0 m 44 ls [.int (zmax (ps c0.toNatClampNeg) d)]) (by rw [pk_us]) ?_
  subst hAe
  exact W.widen (k := 3) (n := 18) (by decide) (by decide) (zt_ofMQ (W.iret hx hb hr (fun t ht _ => ⟨Or.inl ⟨rfl, ⟨h2, h7, h14⟩, by rw [ht]; exact hP, hD⟩, hS.F ht⟩) hS.2.2 d_SA_pass_44))
set_option maxHeartbeats 4000000 in
set_option maxRecDepth 100000 in
theorem m_SA_substitute (l : Launch) (htr : l.stackTraces = false) (D : va_G) (cI cJ cZ cP cS : ClassId) (x hc hp hs0 hm hn hr0 : Nat) (ap al ai ag af at0 G C : Nat) (oc : Int32) (q aps asf aex : Nat) (pg np : Int32) (b c0 d : Int32) (sf : Nat → Int32) (sf0 : Nat → Option Nat) (hs9 : zi 0 b 3 → va_rf (sf0 b.toNatClampNeg) = .ref q) (hC : C ≤ 12) (sz : Nat) : zt_Met l y_SA_substitute [Cond.code y_SA_substitute b_SA_substitute 5 (some .boolean)] { frames := 8, cells := 4, slots := 24, locals := 125 } (va_Pc [.ref x, .int b, .int c0, .int d] (fun U => U.heap.size = sz ∧ tb_ok U ∧ zs_ok U U.heap ∧ va_P D cls [(x, .inr (0, [.ref hc, .ref hp, .ref hs0, .ref hm, .ref hn, .ref hr0])), (hc, .inr (1, [.int (nI G), .ref ap, .ref al, .ref ai, .int (nI C), .ref ag, .ref af, .int oc, .ref at0])), (hs0, .inl (cS, 4, .inr (.inr (.inr (.inr sf0))))), (q, .inr (7, [.int pg, .ref aps, .ref asf, .int np, .ref aex])), (asf, .inl (cI, 12, .inl sf))] U.heap ∧ va_K D cls (tyl cI cJ cZ cP cS) U ∧ va_D (fun _ => True) [(x, .inr (0, [.ref hc, .ref hp, .ref hs0, .ref hm, .ref hn, .ref hr0])), (hc, .inr (1, [.int (nI G), .ref ap, .ref al, .ref ai, .int (nI C), .ref ag, .ref af, .int oc, .ref at0])), (hs0, .inl (cS, 4, .inr (.inr (.inr (.inr sf0))))), (q, .inr (7, [.int pg, .ref aps, .ref asf, .int np, .ref aex])), (asf, .inl (cI, 12, .inl sf))])) (zp_Q (some (.int (zb (decide (¬ (c0 = d ∨ zh (sf c0.toNatClampNeg) d = true)))))) ((zi 0 b 3 ∧ zi 0 c0 (nI C - 1) ∧ zi 0 d (nI C - 1)) ∧ (¬ (c0 = d ∨ zh (sf c0.toNatClampNeg) d = true) → ¬ np = 8)) (fun X => (X = zx_iae ∧ ¬ (zi 0 b 3 ∧ zi 0 c0 (nI C - 1) ∧ zi 0 d (nI C - 1))) ∨ (X = zx_ise ∧ (zi 0 b 3 ∧ zi 0 c0 (nI C - 1) ∧ zi 0 d (nI C - 1)) ∧ ¬ (c0 = d ∨ zh (sf c0.toNatClampNeg) d = true) ∧ np = 8)) D [(x, .inr (0, [.ref hc, .ref hp, .ref hs0, .ref hm, .ref hn, .ref hr0])), (hc, .inr (1, [.int (nI G), .ref ap, .ref al, .ref ai, .int (nI C), .ref ag, .ref af, .int oc, .ref at0])), (hs0, .inl (cS, 4, .inr (.inr (.inr (.inr sf0))))), (q, .inr (7, [.int pg, .ref aps, .ref asf, .int np, .ref aex])), (asf, .inl (cI, 12, .inl sf))] [(x, .inr (0, [.ref hc, .ref hp, .ref hs0, .ref hm, .ref hn, .ref hr0])), (hc, .inr (1, [.int (nI G), .ref ap, .ref al, .ref ai, .int (nI C), .ref ag, .ref af, .int oc, .ref at0])), (hs0, .inl (cS, 4, .inr (.inr (.inr (.inr sf0))))), (q, .inr (7, [.int pg, .ref aps, .ref asf, .int (if (c0 = d ∨ zh (sf c0.toNatClampNeg) d = true) then np else np + 1), .ref aex])), (asf, .inl (cI, 12, .inl (if (c0 = d ∨ zh (sf c0.toNatClampNeg) d = true) then sf else upd sf c0.toNatClampNeg (sf c0.toNatClampNeg ||| (1 <<< (d &&& 31))))))] sz) 4 24 (va_A [(x, .inr (0, [.ref hc, .ref hp, .ref hs0, .ref hm, .ref hn, .ref hr0])), (hc, .inr (1, [.int (nI G), .ref ap, .ref al, .ref ai, .int (nI C), .ref ag, .ref af, .int oc, .ref at0])), (hs0, .inl (cS, 4, .inr (.inr (.inr (.inr sf0))))), (q, .inr (7, [.int pg, .ref aps, .ref asf, .int np, .ref aex])), (asf, .inl (cI, 12, .inl sf))] sz) := by
  refine zt_ofW (cc := b_SA_substitute) (maxL := 5) (ret := (some .boolean)) (by decide) rfl ?_
  intro p e s m args below meth c s₁ B hml hemp hv
  obtain ⟨rfl, hsz, hok, hs, hP, hK, hDt⟩ := hv
  have hx := B.exec
  have hb := B.bytes
  have hr := B.returns
  have hown : s.vm.findClass "StudyAudit" = some m.cls := findClass_of_methodNamed B.named
  have hlocks := B.notSynchronized
  subst hsz
  have hP0 := hP
  have hD9 := hDt.self (sz := s.heap.size)
  obtain ⟨A, hAe⟩ : ∃ A, A = va_A [(x, .inr (0, [.ref hc, .ref hp, .ref hs0, .ref hm, .ref hn, .ref hr0])), (hc, .inr (1, [.int (nI G), .ref ap, .ref al, .ref ai, .int (nI C), .ref ag, .ref af, .int oc, .ref at0])), (hs0, .inl (cS, 4, .inr (.inr (.inr (.inr sf0))))), (q, .inr (7, [.int pg, .ref aps, .ref asf, .int np, .ref aex])), (asf, .inl (cI, 12, .inl sf))] s.heap.size := ⟨_, rfl⟩
  have hD : va_D A [(x, .inr (0, [.ref hc, .ref hp, .ref hs0, .ref hm, .ref hn, .ref hr0])), (hc, .inr (1, [.int (nI G), .ref ap, .ref al, .ref ai, .int (nI C), .ref ag, .ref af, .int oc, .ref at0])), (hs0, .inl (cS, 4, .inr (.inr (.inr (.inr sf0))))), (q, .inr (7, [.int pg, .ref aps, .ref asf, .int np, .ref aex])), (asf, .inl (cI, 12, .inl sf))] := by rw [hAe]; exact hD9
  have hA : ∀ q : Nat, s.heap.size ≤ q → A q := fun q h => by rw [hAe]; exact Or.inr h
  have hS : va_S A s.heap s.heap [] := va_S.rf
  have hl := lv_entry ([.ref x, .int b, .int c0, .int d]) (n := 5) (Nat.le_of_ble_eq_true rfl)
  rw [lg_entry_eq]
  generalize (lg_sl ([.ref x, .int b, .int c0, .int d]) ++ List.replicate (5 - (lg_sl ([.ref x, .int b, .int c0, .int d])).length) Slot.unset).toArray = ls at hl ⊢
  have hl : lv_has ls 5 [(0, .ref x), (1, .int b), (2, .int c0), (3, .int d)] := hl
  refine lv_aload_n hx hb d_SA_substitute_0 rfl (lv_at hl 0 rfl) ?_
  refine lv_iload_n hx hb d_SA_substitute_1 rfl (lv_at hl 1 rfl) ?_
  refine zk_call (zt_runV (Ts := []) (As := [.int b]) (rest := []) ⟨hx, hb, hml, hown, fun _ h => absurd h List.not_mem_nil⟩ (m_SA_checkStudent l htr x b s.heap) ⟨zc_B 1 hok c_SA_checkStudent_w t_1 t_430 rfl rfl (by decide +kernel) ⟨Nat.le_of_ble_eq_true rfl, Nat.le_of_ble_eq_true rfl⟩, hok _ t_432 rfl _, hok _ s_5 rfl _⟩ ⟨fun a U g mk q => by obtain ⟨q0, q1, q2, q3⟩ := q; exact ⟨q0, q1, q2.call g mk a, q3.moved (Vm.Alike.refl _)⟩, va_recv hK hP (ci := 0) (q0 := 0) rfl rfl, fun U hU hW => ⟨rfl, hU, hok.warm hW, by rw [hU]; exact hs.moved hW.alike⟩⟩ rfl rfl hl.1 rfl (lv_room (Nat.le_of_ble_eq_true rfl)) d_SA_substitute_2 ⟨Nat.le_of_ble_eq_true rfl, Nat.le_of_ble_eq_true rfl⟩) (Nat.le_refl _) (fun h2 => ?_) (fun ax X H1 hE hex k1 k2 => zt_Tmono (fun t ht => zp_conv (ok0 := False) (fun z => z) hP0 hD9 ht) (zt_widen (k := 4) (n := 24) (by decide) (by decide) (zk_on hlocks hemp rfl (Or.inl ⟨hE.1, fun z => hE.2 z.1⟩) hex k1 k2)))
  refine lv_aload_n hx hb d_SA_substitute_5 rfl (lv_at hl 0 rfl) ?_
  refine lv_iload_n hx hb d_SA_substitute_6 rfl (lv_at hl 2 rfl) ?_
  refine zk_call (zt_runV (Ts := []) (As := [.int c0]) (rest := []) ⟨hx, hb, hml, hown, fun _ h => absurd h List.not_mem_nil⟩ (m_SA_checkCourse l htr D cI cJ cZ cP cS x hc hp hs0 hm hn hr0 ap al ai ag af at0 (nI G) (nI C) oc c0 s.heap) ⟨zc_B 1 hok c_SA_checkCourse_w t_1 t_378 rfl rfl (by decide +kernel) ⟨Nat.le_of_ble_eq_true rfl, Nat.le_of_ble_eq_true rfl⟩, hok _ t_380 rfl _, hok _ s_2 rfl _⟩ ⟨fun a U g mk q => by obtain ⟨q0, q1, q2, q3, qP, qK⟩ := q; exact ⟨q0, q1, q2.call g mk a, q3.moved (Vm.Alike.refl _), qP, va_K.moved (u := U) (U := U.calling g mk a) (Vm.Alike.refl U.vm) qK⟩, va_recv hK hP (ci := 0) (q0 := 0) rfl rfl, fun U hU hW => ⟨rfl, hU, hok.warm hW, by rw [hU]; exact hs.moved hW.alike, by rw [hU]; exact hP.sub [0, 1] rfl, va_K.moved hW.alike hK⟩⟩ rfl rfl hl.1 rfl (lv_room (Nat.le_of_ble_eq_true rfl)) d_SA_substitute_7 ⟨Nat.le_of_ble_eq_true rfl, Nat.le_of_ble_eq_true rfl⟩) (Nat.le_refl _) (fun h7 => ?_) (fun ax X H1 hE hex k1 k2 => zt_Tmono (fun t ht => zp_conv (ok0 := False) (fun z => z) hP0 hD9 ht) (zt_widen (k := 4) (n := 24) (by decide) (by decide) (zk_on hlocks hemp rfl (Or.inl ⟨hE.1, fun z => hE.2 z.2.1⟩) hex k1 k2)))
  refine lv_aload_n hx hb d_SA_substitute_10 rfl (lv_at hl 0 rfl) ?_
  refine lv_iload_n hx hb d_SA_substitute_11 rfl (lv_at hl 3 rfl) ?_
  refine zk_call (zt_runV (Ts := []) (As := [.int d]) (rest := []) ⟨hx, hb, hml, hown, fun _ h => absurd h List.not_mem_nil⟩ (m_SA_checkCourse l htr D cI cJ cZ cP cS x hc hp hs0 hm hn hr0 ap al ai ag af at0 (nI G) (nI C) oc d s.heap) ⟨zc_B 1 hok c_SA_checkCourse_w t_1 t_378 rfl rfl (by decide +kernel) ⟨Nat.le_of_ble_eq_true rfl, Nat.le_of_ble_eq_true rfl⟩, hok _ t_380 rfl _, hok _ s_2 rfl _⟩ ⟨fun a U g mk q => by obtain ⟨q0, q1, q2, q3, qP, qK⟩ := q; exact ⟨q0, q1, q2.call g mk a, q3.moved (Vm.Alike.refl _), qP, va_K.moved (u := U) (U := U.calling g mk a) (Vm.Alike.refl U.vm) qK⟩, va_recv hK hP (ci := 0) (q0 := 0) rfl rfl, fun U hU hW => ⟨rfl, hU, hok.warm hW, by rw [hU]; exact hs.moved hW.alike, by rw [hU]; exact hP.sub [0, 1] rfl, va_K.moved hW.alike hK⟩⟩ rfl rfl hl.1 rfl (lv_room (Nat.le_of_ble_eq_true rfl)) d_SA_substitute_12 ⟨Nat.le_of_ble_eq_true rfl, Nat.le_of_ble_eq_true rfl⟩) (Nat.le_refl _) (fun h12 => ?_) (fun ax X H1 hE hex k1 k2 => zt_Tmono (fun t ht => zp_conv (ok0 := False) (fun z => z) hP0 hD9 ht) (zt_widen (k := 4) (n := 24) (by decide) (by decide) (zk_on hlocks hemp rfl (Or.inl ⟨hE.1, fun z => hE.2 z.2.2⟩) hex k1 k2)))
  have k2 := zi_k (n := 3) (by omega) h2
  have k7 := zi_pre (by omega) h7
  have kv : vp_in c0 12 := by rw [k7.2.1]; exact vp_in_nI (by omega) (by omega)
  refine lv_aload_n hx hb d_SA_substitute_15 rfl (lv_at hl 0 rfl) ?_
  refine va_get (D := D) (ci := 0) (v := .ref hs0) (C := R_SA) (T := F_SA) (N := 6) hx hb (tb_in hok in_SA) (fun w h => h) hown hK hP 0 rfl rfl 2 (by decide) (hok _ t_231 rfl _) (fun _ h9 => h9) rfl d_SA_substitute_16 ?_
  refine lv_iload_n hx hb d_SA_substitute_19 rfl (lv_at hl 1 rfl) ?_
  refine va_aldq hx hb hK hP 2 4 rfl rfl k2.1 d_SA_substitute_20 ?_
  rw [show va_rf (sf0 (Int32.toNatClampNeg b)) = .ref q from hs9 h2]
  refine lv_astore hx hb d_SA_substitute_21 hl (by decide) rfl (fun ls hl => ?_)
  have hl : lv_has ls 5 [(4, .ref q), (0, .ref x), (1, .int b), (2, .int c0), (3, .int d)] := hl
  refine lv_iload_n hx hb d_SA_substitute_23 rfl (lv_at hl 3 rfl) ?_
  refine lv_iload_n hx hb d_SA_substitute_24 rfl (lv_at hl 4 rfl) ?_
  refine lv_icmp_eq (tgt := 42) hx hb d_SA_substitute_25 (by decide) (fun h25 => ?_) (fun h25 => ?_)
  · refine lv_iconst (v := 0) hx hb d_SA_substitute_42 (by decide) ?_
    have hsm : (c0 = d ∨ zh (sf c0.toNatClampNeg) d = true) := (Or.inl h25)
    refine W.eq (g2 := F0 m 43 ls [.int (zb (decide (¬ (c0 = d ∨ zh (sf c0.toNatClampNeg) d = true))))]) (by rw [show decide (¬ (c0 = d ∨ zh (sf c0.toNatClampNeg) d = true)) = false from decide_eq_false (fun z => z hsm)]; rfl) ?_
    have hP : va_P D cls [(x, .inr (0, [.ref hc, .ref hp, .ref hs0, .ref hm, .ref hn, .ref hr0])), (hc, .inr (1, [.int (nI G), .ref ap, .ref al, .ref ai, .int (nI C), .ref ag, .ref af, .int oc, .ref at0])), (hs0, .inl (cS, 4, .inr (.inr (.inr (.inr sf0))))), (q, .inr (7, [.int pg, .ref aps, .ref asf, .int (if (c0 = d ∨ zh (sf c0.toNatClampNeg) d = true) then np else np + 1), .ref aex])), (asf, .inl (cI, 12, .inl (if (c0 = d ∨ zh (sf c0.toNatClampNeg) d = true) then sf else upd sf c0.toNatClampNeg (sf c0.toNatClampNeg ||| (1 <<< (d &&& 31))))))] s.heap := by rw [if_pos hsm, if_pos hsm]; exact hP
    have hD : va_D A [(x, .inr (0, [.ref hc, .ref hp, .ref hs0, .ref hm, .ref hn, .ref hr0])), (hc, .inr (1, [.int (nI G), .ref ap, .ref al, .ref ai, .int (nI C), .ref ag, .ref af, .int oc, .ref at0])), (hs0, .inl (cS, 4, .inr (.inr (.inr (.inr sf0))))), (q, .inr (7, [.int pg, .ref aps, .ref asf, .int (if (c0 = d ∨ zh (sf c0.toNatClampNeg) d = true) then np else np + 1), .ref aex])), (asf, .inl (cI, 12, .inl (if (c0 = d ∨ zh (sf c0.toNatClampNeg) d = true) then sf else upd sf c0.toNatClampNeg (sf c0.toNatClampNeg ||| (1 <<< (d &&& 31))))))] := by rw [if_pos hsm, if_pos hsm]; exact hD
    subst hAe
    exact W.widen (k := 4) (n := 24) (by decide) (by decide) (zt_ofMQ (W.zret hx hb hr (z_zb _) (fun t ht _ => ⟨Or.inl ⟨rfl, ⟨⟨h2, h7, h12⟩, fun z => absurd hsm z⟩, by rw [ht]; exact hP, hD⟩, hS.F ht⟩) hS.2.2 d_SA_substitute_43))
  · refine lv_aload hx hb d_SA_substitute_28 (lv_at hl 0 rfl) ?_
    refine va_get (D := D) (ci := 7) (v := .ref asf) (C := R_ST) (T := F_ST) (N := 5) hx hb (tb_in hok in_ST) (fun w h => h) hown hK hP 3 rfl rfl 2 (by decide) (hok _ t_110 rfl _) (fun _ h9 => h9) rfl d_SA_substitute_30 ?_
    refine lv_iload_n hx hb d_SA_substitute_33 rfl (lv_at hl 3 rfl) ?_
    refine va_iald hx hb hK hP 4 0 rfl rfl kv d_SA_substitute_34 ?_
    refine lv_iload_n hx hb d_SA_substitute_35 rfl (lv_at hl 4 rfl) ?_
    refine zc_read (va_runS (Ts := []) (As := [.int (sf (Int32.toNatClampNeg c0)), .int d]) (rest := []) ⟨hx, hb, hml, hown, fun _ h => absurd h List.not_mem_nil⟩ (m_SA_has l (sf (Int32.toNatClampNeg c0)) d) ⟨zc_B 2 hok c_SA_has_w t_1 t_386 rfl rfl (by decide +kernel) ⟨Nat.le_of_ble_eq_true rfl, Nat.le_of_ble_eq_true rfl⟩, hok _ t_387 rfl _⟩ ⟨fun a U g mk q => by obtain ⟨q0, q1⟩ := q; exact ⟨q0, q1⟩, fun U hU hW => ⟨rfl, trivial⟩⟩ rfl rfl hl.1 rfl (lv_room (Nat.le_of_ble_eq_true rfl)) d_SA_substitute_36 ⟨Nat.le_of_ble_eq_true rfl, Nat.le_of_ble_eq_true rfl⟩) ?_
    refine W.eq (g2 := F0 m 39 ls [.int (zb (zh (sf (Int32.toNatClampNeg c0)) d))]) rfl ?_
    refine lv_if_eq (tgt := 44) hx hb d_SA_substitute_39 (by decide) (fun h39 => ?_) (fun h39 => ?_)
    · have hnm : ¬ (c0 = d ∨ zh (sf c0.toNatClampNeg) d = true) := (fun z => z.elim h25 (fun z => by rw [z] at h39; exact absurd h39 (by decide)))
      refine lv_aload hx hb d_SA_substitute_44 (lv_at hl 0 rfl) ?_
      refine va_get (D := D) (ci := 7) (v := .int np) (C := R_ST) (T := F_ST) (N := 5) hx hb (tb_in hok in_ST) (fun w h => h) hown hK hP 3 rfl rfl 3 (by decide) (hok _ t_112 rfl _) (fun _ h9 => h9) rfl d_SA_substitute_46 ?_
      refine lv_bipush (v := 8) hx hb d_SA_substitute_49 (by decide) ?_
      refine lv_icmp_ne (tgt := 64) hx hb d_SA_substitute_51 (by decide) (fun h51 => ?_) (fun h51 => ?_)
      · refine lv_aload hx hb d_SA_substitute_64 (lv_at hl 0 rfl) ?_
        refine lv_iload_n hx hb d_SA_substitute_66 rfl (lv_at hl 3 rfl) ?_
        refine lv_iload_n hx hb d_SA_substitute_67 rfl (lv_at hl 4 rfl) ?_
        refine W.eq (g2 := F0 m 68 ls [.int d, .int (nI (c0.toNatClampNeg)), .ref q]) (by rw [← k7.2.1]) ?_
        refine zc_write (wc := [(q, .inr (7, [.int pg, .ref aps, .ref asf, .int np, .ref aex])), (asf, .inl (cI, 12, .inl sf))]) (wc1 := [(q, .inr (7, [.int pg, .ref aps, .ref asf, .int (np + 1), .ref aex])), (asf, .inl (cI, 12, .inl (upd sf c0.toNatClampNeg (sf c0.toNatClampNeg ||| (1 <<< (d &&& 31))))))]) (wr := [(x, .inr (0, [.ref hc, .ref hp, .ref hs0, .ref hm, .ref hn, .ref hr0])), (hc, .inr (1, [.int (nI G), .ref ap, .ref al, .ref ai, .int (nI C), .ref ag, .ref af, .int oc, .ref at0])), (hs0, .inl (cS, 4, .inr (.inr (.inr (.inr sf0)))))]) (ws1 := [(x, .inr (0, [.ref hc, .ref hp, .ref hs0, .ref hm, .ref hn, .ref hr0])), (hc, .inr (1, [.int (nI G), .ref ap, .ref al, .ref ai, .int (nI C), .ref ag, .ref af, .int oc, .ref at0])), (hs0, .inl (cS, 4, .inr (.inr (.inr (.inr sf0))))), (q, .inr (7, [.int pg, .ref aps, .ref asf, .int (np + 1), .ref aex])), (asf, .inl (cI, 12, .inl (upd sf c0.toNatClampNeg (sf c0.toNatClampNeg ||| (1 <<< (d &&& 31))))))]) (va_runV (Ts := []) (As := [.int (nI (c0.toNatClampNeg)), .int d]) (rest := []) ⟨hx, hb, hml, hown, fun _ h => absurd h List.not_mem_nil⟩ (m_ST_addPetition l D cI cJ cZ cP cS q aps asf aex pg np c0.toNatClampNeg d sf (by omega) _) ⟨zc_B 2 hok c_ST_addPetition_w t_4 t_456 rfl rfl (by decide +kernel) ⟨Nat.le_of_ble_eq_true rfl, Nat.le_of_ble_eq_true rfl⟩, hok _ t_457 rfl _, hok _ t_458 rfl _⟩ ⟨fun a U g mk q => by obtain ⟨q0, q1, q2, qP, qK, qD⟩ := q; exact ⟨q0, q1, q2.call g mk a, qP, va_K.moved (u := U) (U := U.calling g mk a) (Vm.Alike.refl U.vm) qK, qD⟩, va_recv hK hP (ci := 7) (q0 := 3) rfl rfl, fun U hU hW => ⟨rfl, by rw [hU], hok.warm hW, by rw [hU]; exact hP.sub [3, 4] rfl, va_K.moved hW.alike hK, (hD.sub [3, 4] (by decide) rfl).weaken (fun _ _ _ _ => trivial)⟩⟩ rfl rfl hl.1 rfl (lv_room (Nat.le_of_ble_eq_true rfl)) d_SA_substitute_68 ⟨Nat.le_of_ble_eq_true rfl, Nat.le_of_ble_eq_true rfl⟩) hS hP hD hA [3, 4] [0, 1, 2] [0, 1, 2, 3, 4] rfl rfl (by decide) (by decide) rfl rfl (by decide) (fun H locs hP hD hS => ?_)
        refine W.eq (g2 := F0 m 71 ls []) rfl ?_
        refine lv_iconst (v := 1) hx hb d_SA_substitute_71 (by decide) ?_
        refine W.eq (g2 := F0 m 72 ls [.int (zb (decide (¬ (c0 = d ∨ zh (sf c0.toNatClampNeg) d = true))))]) (by rw [show decide (¬ (c0 = d ∨ zh (sf c0.toNatClampNeg) d = true)) = true from decide_eq_true hnm]; rfl) ?_
        have hP : va_P D cls [(x, .inr (0, [.ref hc, .ref hp, .ref hs0, .ref hm, .ref hn, .ref hr0])), (hc, .inr (1, [.int (nI G), .ref ap, .ref al, .ref ai, .int (nI C), .ref ag, .ref af, .int oc, .ref at0])), (hs0, .inl (cS, 4, .inr (.inr (.inr (.inr sf0))))), (q, .inr (7, [.int pg, .ref aps, .ref asf, .int (if (c0 = d ∨ zh (sf c0.toNatClampNeg) d = true) then np else np + 1), .ref aex])), (asf, .inl (cI, 12, .inl (if (c0 = d ∨ zh (sf c0.toNatClampNeg) d = true) then sf else upd sf c0.toNatClampNeg (sf c0.toNatClampNeg ||| (1 <<< (d &&& 31))))))] H := by rw [if_neg hnm, if_neg hnm]; exact hP
        have hD : va_D A [(x, .inr (0, [.ref hc, .ref hp, .ref hs0, .ref hm, .ref hn, .ref hr0])), (hc, .inr (1, [.int (nI G), .ref ap, .ref al, .ref ai, .int (nI C), .ref ag, .ref af, .int oc, .ref at0])), (hs0, .inl (cS, 4, .inr (.inr (.inr (.inr sf0))))), (q, .inr (7, [.int pg, .ref aps, .ref asf, .int (if (c0 = d ∨ zh (sf c0.toNatClampNeg) d = true) then np else np + 1), .ref aex])), (asf, .inl (cI, 12, .inl (if (c0 = d ∨ zh (sf c0.toNatClampNeg) d = true) then sf else upd sf c0.toNatClampNeg (sf c0.toNatClampNeg ||| (1 <<< (d &&& 31))))))] := by rw [if_neg hnm, if_neg hnm]; exact hD
        subst hAe
        exact W.widen (k := 4) (n := 24) (by decide) (by decide) (zt_ofMQ (W.zret hx hb hr (z_zb _) (fun t ht _ => ⟨Or.inl ⟨rfl, ⟨⟨h2, h7, h12⟩, fun _ => h51⟩, by rw [ht]; exact hP, hD⟩, hS.F ht⟩) hS.2.2 d_SA_substitute_72))
      · refine zt_mono (fun t ht => zp_conv (ok0 := False) (fun z => z) hP0 hD9 ht) ?_
        refine W.widen (k := 3) (n := 18) (by decide) (by decide) ?_
        exact zk_throwL hx hb htr hown hok (by decide +kernel) (zx_use hok hs zx_ise_l) t_335 t_336 t_15 t_455 (by rw [hml]; exact hl.1) hlocks hemp d_SA_substitute_54 d_SA_substitute_57 d_SA_substitute_58 d_SA_substitute_60 d_SA_substitute_63 (Nat.le_of_ble_eq_true rfl) (Nat.le_of_ble_eq_true rfl) (Nat.le_of_ble_eq_true rfl) (Nat.le_of_ble_eq_true rfl) (Or.inr ⟨rfl, ⟨h2, h7, h12⟩, hnm, h51⟩)
    · refine lv_iconst (v := 0) hx hb d_SA_substitute_42 (by decide) ?_
      have hsm : (c0 = d ∨ zh (sf c0.toNatClampNeg) d = true) := (Or.inr (by cases hz : (zh (sf c0.toNatClampNeg) d) with | true => rfl | false => rw [hz] at h39; exact absurd rfl h39))
      refine W.eq (g2 := F0 m 43 ls [.int (zb (decide (¬ (c0 = d ∨ zh (sf c0.toNatClampNeg) d = true))))]) (by rw [show decide (¬ (c0 = d ∨ zh (sf c0.toNatClampNeg) d = true)) = false from decide_eq_false (fun z => z hsm)]; rfl) ?_
      have hP : va_P D cls [(x, .inr (0, [.ref hc, .ref hp, .ref hs0, .ref hm, .ref hn, .ref hr0])), (hc, .inr (1, [.int (nI G), .ref ap, .ref al, .ref ai, .int (nI C), .ref ag, .ref af, .int oc, .ref at0])), (hs0, .inl (cS, 4, .inr (.inr (.inr (.inr sf0))))), (q, .inr (7, [.int pg, .ref aps, .ref asf, .int (if (c0 = d ∨ zh (sf c0.toNatClampNeg) d = true) then np else np + 1), .ref aex])), (asf, .inl (cI, 12, .inl (if (c0 = d ∨ zh (sf c0.toNatClampNeg) d = true) then sf else upd sf c0.toNatClampNeg (sf c0.toNatClampNeg ||| (1 <<< (d &&& 31))))))] s.heap := by rw [if_pos hsm, if_pos hsm]; exact hP
      have hD : va_D A [(x, .inr (0, [.ref hc, .ref hp, .ref hs0, .ref hm, .ref hn, .ref hr0])), (hc, .inr (1, [.int (nI G), .ref ap, .ref al, .ref ai, .int (nI C), .ref ag, .ref af, .int oc, .ref at0])), (hs0, .inl (cS, 4, .inr (.inr (.inr (.inr sf0))))), (q, .inr (7, [.int pg, .ref aps, .ref asf, .int (if (c0 = d ∨ zh (sf c0.toNatClampNeg) d = true) then np else np + 1), .ref aex])), (asf, .inl (cI, 12, .inl (if (c0 = d ∨ zh (sf c0.toNatClampNeg) d = true) then sf else upd sf c0.toNatClampNeg (sf c0.toNatClampNeg ||| (1 <<< (d &&& 31))))))] := by rw [if_pos hsm, if_pos hsm]; exact hD
      subst hAe
      exact W.widen (k := 4) (n := 24) (by decide) (by decide) (zt_ofMQ (W.zret hx hb hr (z_zb _) (fun t ht _ => ⟨Or.inl ⟨rfl, ⟨⟨h2, h7, h12⟩, fun z => absurd hsm z⟩, by rw [ht]; exact hP, hD⟩, hS.F ht⟩) hS.2.2 d_SA_substitute_43))
set_option maxHeartbeats 4000000 in
set_option maxRecDepth 100000 in
theorem m_SA_exempt (l : Launch) (htr : l.stackTraces = false) (D : va_G) (cI cJ cZ cP cS : ClassId) (x hc hp hs0 hm hn hr0 : Nat) (q aps asf aex : Nat) (pg np : Int32) (g ad aa r0 : Nat) (b d c0 : Int32) (ex dm : Nat → Int32) (sf0 : Nat → Option Nat) (hs9 : zi 0 b 3 → va_rf (sf0 b.toNatClampNeg) = .ref q) (pf : Nat → Option Nat) (hp9 : pg = -1 ∨ (vp_in pg 3 ∧ va_rf (pf pg.toNatClampNeg) = .ref g)) (hr5 : r0 ≤ 5) (sz : Nat) : zt_Met l y_SA_exempt [Cond.code y_SA_exempt b_SA_exempt 5 (some .int)] { frames := 8, cells := 3, slots := 18, locals := 126 } (va_Pc [.ref x, .int b, .int d, .int c0] (fun U => U.heap.size = sz ∧ tb_ok U ∧ zs_ok U U.heap ∧ va_P D cls [(x, .inr (0, [.ref hc, .ref hp, .ref hs0, .ref hm, .ref hn, .ref hr0])), (hs0, .inl (cS, 4, .inr (.inr (.inr (.inr sf0))))), (q, .inr (7, [.int pg, .ref aps, .ref asf, .int np, .ref aex])), (aex, .inl (cI, 6, .inl ex)), (hp, .inl (cP, 3, .inr (.inr (.inr (.inr pf))))), (g, .inr (5, [.int (nI r0), .ref ad, .ref aa])), (ad, .inl (cI, 6, .inl dm))] U.heap ∧ va_K D cls (tyl cI cJ cZ cP cS) U ∧ va_D (fun _ => True) [(x, .inr (0, [.ref hc, .ref hp, .ref hs0, .ref hm, .ref hn, .ref hr0])), (hs0, .inl (cS, 4, .inr (.inr (.inr (.inr sf0))))), (q, .inr (7, [.int pg, .ref aps, .ref asf, .int np, .ref aex])), (aex, .inl (cI, 6, .inl ex)), (hp, .inl (cP, 3, .inr (.inr (.inr (.inr pf))))), (g, .inr (5, [.int (nI r0), .ref ad, .ref aa])), (ad, .inl (cI, 6, .inl dm))])) (zp_Q (some (.int (zmax 0 (dm d.toNatClampNeg - zmin 6 (ex d.toNatClampNeg + c0))))) (zi 0 b 3 ∧ zi 1 d (if pg = -1 then 0 else nI r0) ∧ zi 0 c0 9) (fun X => X = zx_iae ∧ ¬ (zi 0 b 3 ∧ zi 1 d (if pg = -1 then 0 else nI r0) ∧ zi 0 c0 9)) D [(x, .inr (0, [.ref hc, .ref hp, .ref hs0, .ref hm, .ref hn, .ref hr0])), (hs0, .inl (cS, 4, .inr (.inr (.inr (.inr sf0))))), (q, .inr (7, [.int pg, .ref aps, .ref asf, .int np, .ref aex])), (aex, .inl (cI, 6, .inl ex)), (hp, .inl (cP, 3, .inr (.inr (.inr (.inr pf))))), (g, .inr (5, [.int (nI r0), .ref ad, .ref aa])), (ad, .inl (cI, 6, .inl dm))] [(x, .inr (0, [.ref hc, .ref hp, .ref hs0, .ref hm, .ref hn, .ref hr0])), (hs0, .inl (cS, 4, .inr (.inr (.inr (.inr sf0))))), (q, .inr (7, [.int pg, .ref aps, .ref asf, .int np, .ref aex])), (aex, .inl (cI, 6, .inl (upd ex d.toNatClampNeg (zmin 6 (ex d.toNatClampNeg + c0))))), (hp, .inl (cP, 3, .inr (.inr (.inr (.inr pf))))), (g, .inr (5, [.int (nI r0), .ref ad, .ref aa])), (ad, .inl (cI, 6, .inl dm))] sz) 3 18 (va_A [(x, .inr (0, [.ref hc, .ref hp, .ref hs0, .ref hm, .ref hn, .ref hr0])), (hs0, .inl (cS, 4, .inr (.inr (.inr (.inr sf0))))), (q, .inr (7, [.int pg, .ref aps, .ref asf, .int np, .ref aex])), (aex, .inl (cI, 6, .inl ex)), (hp, .inl (cP, 3, .inr (.inr (.inr (.inr pf))))), (g, .inr (5, [.int (nI r0), .ref ad, .ref aa])), (ad, .inl (cI, 6, .inl dm))] sz) := by
  refine zt_ofW (cc := b_SA_exempt) (maxL := 5) (ret := (some .int)) (by decide) rfl ?_
  intro p e s m args below meth c s₁ B hml hemp hv
  obtain ⟨rfl, hsz, hok, hs, hP, hK, hDt⟩ := hv
  have hx := B.exec
  have hb := B.bytes
  have hr := B.returns
  have hown : s.vm.findClass "StudyAudit" = some m.cls := findClass_of_methodNamed B.named
  have hlocks := B.notSynchronized
  subst hsz
  have hP0 := hP
  have hD9 := hDt.self (sz := s.heap.size)
  obtain ⟨A, hAe⟩ : ∃ A, A = va_A [(x, .inr (0, [.ref hc, .ref hp, .ref hs0, .ref hm, .ref hn, .ref hr0])), (hs0, .inl (cS, 4, .inr (.inr (.inr (.inr sf0))))), (q, .inr (7, [.int pg, .ref aps, .ref asf, .int np, .ref aex])), (aex, .inl (cI, 6, .inl ex)), (hp, .inl (cP, 3, .inr (.inr (.inr (.inr pf))))), (g, .inr (5, [.int (nI r0), .ref ad, .ref aa])), (ad, .inl (cI, 6, .inl dm))] s.heap.size := ⟨_, rfl⟩
  have hD : va_D A [(x, .inr (0, [.ref hc, .ref hp, .ref hs0, .ref hm, .ref hn, .ref hr0])), (hs0, .inl (cS, 4, .inr (.inr (.inr (.inr sf0))))), (q, .inr (7, [.int pg, .ref aps, .ref asf, .int np, .ref aex])), (aex, .inl (cI, 6, .inl ex)), (hp, .inl (cP, 3, .inr (.inr (.inr (.inr pf))))), (g, .inr (5, [.int (nI r0), .ref ad, .ref aa])), (ad, .inl (cI, 6, .inl dm))] := by rw [hAe]; exact hD9
  have hA : ∀ q : Nat, s.heap.size ≤ q → A q := fun q h => by rw [hAe]; exact Or.inr h
  have hS : va_S A s.heap s.heap [] := va_S.rf
  have hl := lv_entry ([.ref x, .int b, .int d, .int c0]) (n := 5) (Nat.le_of_ble_eq_true rfl)
  rw [lg_entry_eq]
  generalize (lg_sl ([.ref x, .int b, .int d, .int c0]) ++ List.replicate (5 - (lg_sl ([.ref x, .int b, .int d, .int c0])).length) Slot.unset).toArray = ls at hl ⊢
  have hl : lv_has ls 5 [(0, .ref x), (1, .int b), (2, .int d), (3, .int c0)] := hl
  refine lv_aload_n hx hb d_SA_exempt_0 rfl (lv_at hl 0 rfl) ?_
  refine lv_iload_n hx hb d_SA_exempt_1 rfl (lv_at hl 1 rfl) ?_
  refine zk_call (zt_runV (Ts := []) (As := [.int b]) (rest := []) ⟨hx, hb, hml, hown, fun _ h => absurd h List.not_mem_nil⟩ (m_SA_checkStudent l htr x b s.heap) ⟨zc_B 1 hok c_SA_checkStudent_w t_1 t_430 rfl rfl (by decide +kernel) ⟨Nat.le_of_ble_eq_true rfl, Nat.le_of_ble_eq_true rfl⟩, hok _ t_432 rfl _, hok _ s_5 rfl _⟩ ⟨fun a U g mk q => by obtain ⟨q0, q1, q2, q3⟩ := q; exact ⟨q0, q1, q2.call g mk a, q3.moved (Vm.Alike.refl _)⟩, va_recv hK hP (ci := 0) (q0 := 0) rfl rfl, fun U hU hW => ⟨rfl, hU, hok.warm hW, by rw [hU]; exact hs.moved hW.alike⟩⟩ rfl rfl hl.1 rfl (lv_room (Nat.le_of_ble_eq_true rfl)) d_SA_exempt_2 ⟨Nat.le_of_ble_eq_true rfl, Nat.le_of_ble_eq_true rfl⟩) (Nat.le_refl _) (fun h2 => ?_) (fun ax X H1 hE hex k1 k2 => zt_Tmono (fun t ht => zp_conv (ok0 := False) (fun z => z) hP0 hD9 ht) (zt_widen (k := 3) (n := 18) (by decide) (by decide) (zk_on hlocks hemp rfl (⟨hE.1, fun z => hE.2 z.1⟩) hex k1 k2)))
  have k2 := zi_k (n := 3) (by omega) h2
  refine lv_aload_n hx hb d_SA_exempt_5 rfl (lv_at hl 0 rfl) ?_
  refine va_get (D := D) (ci := 0) (v := .ref hs0) (C := R_SA) (T := F_SA) (N := 6) hx hb (tb_in hok in_SA) (fun w h => h) hown hK hP 0 rfl rfl 2 (by decide) (hok _ t_231 rfl _) (fun _ h9 => h9) rfl d_SA_exempt_6 ?_
  refine lv_iload_n hx hb d_SA_exempt_9 rfl (lv_at hl 1 rfl) ?_
  refine va_aldq hx hb hK hP 1 4 rfl rfl k2.1 d_SA_exempt_10 ?_
  rw [show va_rf (sf0 (Int32.toNatClampNeg b)) = .ref q from hs9 h2]
  refine lv_astore hx hb d_SA_exempt_11 hl (by decide) rfl (fun ls hl => ?_)
  have hl : lv_has ls 5 [(4, .ref q), (0, .ref x), (1, .int b), (2, .int d), (3, .int c0)] := hl
  refine lv_aload_n hx hb d_SA_exempt_13 rfl (lv_at hl 1 rfl) ?_
  refine lv_aload hx hb d_SA_exempt_14 (lv_at hl 0 rfl) ?_
  refine va_get (D := D) (ci := 7) (v := .int pg) (C := R_ST) (T := F_ST) (N := 5) hx hb (tb_in hok in_ST) (fun w h => h) hown hK hP 2 rfl rfl 0 (by decide) (hok _ t_105 rfl _) (fun _ h9 => h9) rfl d_SA_exempt_16 ?_
  refine lv_iload_n hx hb d_SA_exempt_19 rfl (lv_at hl 3 rfl) ?_
  refine zk_call (zt_runV (Ts := []) (As := [.int pg, .int d]) (rest := []) ⟨hx, hb, hml, hown, fun _ h => absurd h List.not_mem_nil⟩ (m_SA_checkRequirement l htr D cI cJ cZ cP cS x hc hp hs0 hm hn hr0 g ad aa (nI r0) pg d pf hp9 s.heap) ⟨zc_B 2 hok c_SA_checkRequirement_w t_1 t_419 rfl rfl (by decide +kernel) ⟨Nat.le_of_ble_eq_true rfl, Nat.le_of_ble_eq_true rfl⟩, hok _ t_421 rfl _, hok _ s_4 rfl _⟩ ⟨fun a U g mk q => by obtain ⟨q0, q1, q2, q3, qP, qK⟩ := q; exact ⟨q0, q1, q2.call g mk a, q3.moved (Vm.Alike.refl _), qP, va_K.moved (u := U) (U := U.calling g mk a) (Vm.Alike.refl U.vm) qK⟩, va_recv hK hP (ci := 0) (q0 := 0) rfl rfl, fun U hU hW => ⟨rfl, hU, hok.warm hW, by rw [hU]; exact hs.moved hW.alike, by rw [hU]; exact hP.sub [0, 4, 5] rfl, va_K.moved hW.alike hK⟩⟩ rfl rfl hl.1 rfl (lv_room (Nat.le_of_ble_eq_true rfl)) d_SA_exempt_20 ⟨Nat.le_of_ble_eq_true rfl, Nat.le_of_ble_eq_true rfl⟩) (Nat.le_refl _) (fun h20 => ?_) (fun ax X H1 hE hex k1 k2 => zt_Tmono (fun t ht => zp_conv (ok0 := False) (fun z => z) hP0 hD9 ht) (zt_widen (k := 3) (n := 18) (by decide) (by decide) (zk_on hlocks hemp rfl (⟨hE.1, fun z => hE.2 z.2.1⟩) hex k1 k2)))
  refine lv_iconst (v := 0) hx hb d_SA_exempt_23 (by decide) ?_
  refine lv_iload_n hx hb d_SA_exempt_24 rfl (lv_at hl 4 rfl) ?_
  refine lv_bipush (v := 9) hx hb d_SA_exempt_25 (by decide) ?_
  refine zk_call (zt_runS (Ts := []) (As := [.int 0, .int c0, .int 9]) (rest := []) ⟨hx, hb, hml, hown, fun _ h => absurd h List.not_mem_nil⟩ (m_SA_checkBetween l htr 0 c0 9 s.heap) ⟨zc_B 3 hok c_SA_checkBetween_w t_1 t_261 rfl rfl (by decide +kernel) ⟨Nat.le_of_ble_eq_true rfl, Nat.le_of_ble_eq_true rfl⟩, hok _ t_262 rfl _⟩ ⟨fun a U g mk q => by obtain ⟨q0, q1, q2, q3⟩ := q; exact ⟨q0, q1, q2.call g mk a, q3.moved (Vm.Alike.refl _)⟩, fun U hU hW => ⟨rfl, hU, hok.warm hW, by rw [hU]; exact hs.moved hW.alike⟩⟩ rfl rfl hl.1 rfl (lv_room (Nat.le_of_ble_eq_true rfl)) d_SA_exempt_27 ⟨Nat.le_of_ble_eq_true rfl, Nat.le_of_ble_eq_true rfl⟩) (Nat.le_refl _) (fun h27 => ?_) (fun ax X H1 hE hex k1 k2 => zt_Tmono (fun t ht => zp_conv (ok0 := False) (fun z => z) hP0 hD9 ht) (zt_widen (k := 3) (n := 18) (by decide) (by decide) (zk_on hlocks hemp rfl (⟨hE.1, fun z => hE.2 z.2.2⟩) hex k1 k2)))
  have kn : ¬ pg = -1 := fun z => by rw [if_pos z] at h20; have := zi_one (n := 0) (by omega) h20; omega
  have k20 := zi_one (n := r0) (by omega) (by rw [if_neg kn] at h20; exact h20)
  have kp := hp9.resolve_left kn
  refine lv_aload hx hb d_SA_exempt_30 (lv_at hl 0 rfl) ?_
  refine lv_iload_n hx hb d_SA_exempt_32 rfl (lv_at hl 3 rfl) ?_
  refine lv_iload_n hx hb d_SA_exempt_33 rfl (lv_at hl 4 rfl) ?_
  refine W.eq (g2 := F0 m 34 ls [.int c0, .int (nI (d.toNatClampNeg)), .ref q]) (by rw [← k20.1]) ?_
  refine zc_write (wc := [(q, .inr (7, [.int pg, .ref aps, .ref asf, .int np, .ref aex])), (aex, .inl (cI, 6, .inl ex))]) (wc1 := [(q, .inr (7, [.int pg, .ref aps, .ref asf, .int np, .ref aex])), (aex, .inl (cI, 6, .inl (upd ex d.toNatClampNeg (zmin 6 (ex d.toNatClampNeg + c0)))))]) (wr := [(x, .inr (0, [.ref hc, .ref hp, .ref hs0, .ref hm, .ref hn, .ref hr0])), (hs0, .inl (cS, 4, .inr (.inr (.inr (.inr sf0))))), (hp, .inl (cP, 3, .inr (.inr (.inr (.inr pf))))), (g, .inr (5, [.int (nI r0), .ref ad, .ref aa])), (ad, .inl (cI, 6, .inl dm))]) (ws1 := [(x, .inr (0, [.ref hc, .ref hp, .ref hs0, .ref hm, .ref hn, .ref hr0])), (hs0, .inl (cS, 4, .inr (.inr (.inr (.inr sf0))))), (q, .inr (7, [.int pg, .ref aps, .ref asf, .int np, .ref aex])), (aex, .inl (cI, 6, .inl (upd ex d.toNatClampNeg (zmin 6 (ex d.toNatClampNeg + c0))))), (hp, .inl (cP, 3, .inr (.inr (.inr (.inr pf))))), (g, .inr (5, [.int (nI r0), .ref ad, .ref aa])), (ad, .inl (cI, 6, .inl dm))]) (va_runV (Ts := []) (As := [.int (nI (d.toNatClampNeg)), .int c0]) (rest := []) ⟨hx, hb, hml, hown, fun _ h => absurd h List.not_mem_nil⟩ (m_ST_addExemption l D cI cJ cZ cP cS q aps asf aex pg np d.toNatClampNeg c0 ex (by omega) _) ⟨zc_B 2 hok c_ST_addExemption_w t_4 t_468 rfl rfl (by decide +kernel) ⟨Nat.le_of_ble_eq_true rfl, Nat.le_of_ble_eq_true rfl⟩, hok _ t_469 rfl _, hok _ t_470 rfl _⟩ ⟨fun a U g mk q => by obtain ⟨q0, q1, q2, qP, qK, qD⟩ := q; exact ⟨q0, q1, q2.call g mk a, qP, va_K.moved (u := U) (U := U.calling g mk a) (Vm.Alike.refl U.vm) qK, qD⟩, va_recv hK hP (ci := 7) (q0 := 2) rfl rfl, fun U hU hW => ⟨rfl, by rw [hU], hok.warm hW, by rw [hU]; exact hP.sub [2, 3] rfl, va_K.moved hW.alike hK, (hD.sub [2, 3] (by decide) rfl).weaken (fun _ _ _ _ => trivial)⟩⟩ rfl rfl hl.1 rfl (lv_room (Nat.le_of_ble_eq_true rfl)) d_SA_exempt_34 ⟨Nat.le_of_ble_eq_true rfl, Nat.le_of_ble_eq_true rfl⟩) hS hP hD hA [2, 3] [0, 1, 4, 5, 6] [0, 1, 5, 6, 2, 3, 4] rfl rfl (by decide) (by decide) rfl rfl (by decide) (fun H locs hP hD hS => ?_)
  refine W.eq (g2 := F0 m 37 ls []) rfl ?_
  refine lv_aload hx hb d_SA_exempt_37 (lv_at hl 0 rfl) ?_
  refine lv_aload_n hx hb d_SA_exempt_39 rfl (lv_at hl 1 rfl) ?_
  refine va_get (D := D) (ci := 0) (v := .ref hp) (C := R_SA) (T := F_SA) (N := 6) hx hb (tb_in hok in_SA) (fun w h => h) hown hK hP 0 rfl rfl 1 (by decide) (hok _ t_230 rfl _) (fun _ h9 => h9) rfl d_SA_exempt_40 ?_
  refine lv_aload hx hb d_SA_exempt_43 (lv_at hl 0 rfl) ?_
  refine va_get (D := D) (ci := 7) (v := .int pg) (C := R_ST) (T := F_ST) (N := 5) hx hb (tb_in hok in_ST) (fun w h => h) hown hK hP 2 rfl rfl 0 (by decide) (hok _ t_105 rfl _) (fun _ h9 => h9) rfl d_SA_exempt_45 ?_
  refine va_aldq hx hb hK hP 4 3 rfl rfl kp.1 d_SA_exempt_48 ?_
  rw [show va_rf (pf (Int32.toNatClampNeg pg)) = .ref g from kp.2]
  refine lv_iload_n hx hb d_SA_exempt_49 rfl (lv_at hl 3 rfl) ?_
  refine W.eq (g2 := F0 m 50 ls [.int (nI (d.toNatClampNeg)), .ref g, .ref q]) (by rw [← k20.1]) ?_
  refine zc_read (va_runV (Ts := []) (As := [.ref g, .int (nI (d.toNatClampNeg))]) (rest := []) ⟨hx, hb, hml, hown, fun _ h => absurd h List.not_mem_nil⟩ (m_ST_needOf l D cI cJ cZ cP cS q aps asf aex pg np g ad aa (nI r0) d.toNatClampNeg dm (upd ex d.toNatClampNeg (zmin 6 (ex d.toNatClampNeg + c0))) (by omega)) ⟨zc_B 2 hok c_ST_needOf_w t_4 t_475 rfl rfl (by decide +kernel) ⟨Nat.le_of_ble_eq_true rfl, Nat.le_of_ble_eq_true rfl⟩, hok _ t_476 rfl _, hok _ t_477 rfl _⟩ ⟨fun a U g mk q => by obtain ⟨q0, q2, qP, qK⟩ := q; exact ⟨q0, q2.call g mk a, qP, va_K.moved (u := U) (U := U.calling g mk a) (Vm.Alike.refl U.vm) qK⟩, va_recv hK hP (ci := 7) (q0 := 2) rfl rfl, fun U hU hW => ⟨rfl, hok.warm hW, by rw [hU]; exact hP.sub [2, 3, 5, 6] rfl, va_K.moved hW.alike hK⟩⟩ rfl rfl hl.1 rfl (lv_room (Nat.le_of_ble_eq_true rfl)) d_SA_exempt_50 ⟨Nat.le_of_ble_eq_true rfl, Nat.le_of_ble_eq_true rfl⟩) ?_
  refine W.eq (g2 := F0 m 53 ls [.int (zmax 0 (dm d.toNatClampNeg - (upd ex d.toNatClampNeg (zmin 6 (ex d.toNatClampNeg + c0))) d.toNatClampNeg))]) rfl ?_
  refine W.eq (g2 := F0 m 53 ls [.int (zmax 0 (dm d.toNatClampNeg - zmin 6 (ex d.toNatClampNeg + c0)))]) (by rw [pk_us]) ?_
  subst hAe
  exact W.widen (k := 3) (n := 18) (by decide) (by decide) (zt_ofMQ (W.iret hx hb hr (fun t ht _ => ⟨Or.inl ⟨rfl, ⟨h2, h20, h27⟩, by rw [ht]; exact hP, hD⟩, hS.F ht⟩) hS.2.2 d_SA_exempt_53))
set_option maxHeartbeats 4000000 in
set_option maxRecDepth 100000 in
theorem m_SA_lives (l : Launch) (htr : l.stackTraces = false) (D : va_G) (cI cJ cZ cP cS : ClassId) (x hc hp hs0 hm hn hr0 : Nat) (ap al ai ag af at0 G C : Nat) (oc : Int32) (q aps asf aex : Nat) (pg np : Int32) (b c0 d : Int32) (ps lf : Nat → Int32) (sf0 : Nat → Option Nat) (hs9 : zi 0 b 3 → va_rf (sf0 b.toNatClampNeg) = .ref q) (hC : C ≤ 12) (sz : Nat) : zt_Met l y_SA_lives [Cond.code y_SA_lives b_SA_lives 4 (some .boolean)] { frames := 8, cells := 2, slots := 12, locals := 125 } (va_Pc [.ref x, .int b, .int c0, .int d] (fun U => U.heap.size = sz ∧ tb_ok U ∧ zs_ok U U.heap ∧ va_P D cls [(x, .inr (0, [.ref hc, .ref hp, .ref hs0, .ref hm, .ref hn, .ref hr0])), (hc, .inr (1, [.int (nI G), .ref ap, .ref al, .ref ai, .int (nI C), .ref ag, .ref af, .int oc, .ref at0])), (af, .inl (cI, 12, .inl lf)), (hs0, .inl (cS, 4, .inr (.inr (.inr (.inr sf0))))), (q, .inr (7, [.int pg, .ref aps, .ref asf, .int np, .ref aex])), (aps, .inl (cI, 12, .inl ps))] U.heap ∧ va_K D cls (tyl cI cJ cZ cP cS) U ∧ va_D (fun _ => True) [(x, .inr (0, [.ref hc, .ref hp, .ref hs0, .ref hm, .ref hn, .ref hr0])), (hc, .inr (1, [.int (nI G), .ref ap, .ref al, .ref ai, .int (nI C), .ref ag, .ref af, .int oc, .ref at0])), (af, .inl (cI, 12, .inl lf)), (hs0, .inl (cS, 4, .inr (.inr (.inr (.inr sf0))))), (q, .inr (7, [.int pg, .ref aps, .ref asf, .int np, .ref aex])), (aps, .inl (cI, 12, .inl ps))])) (zp_Q (some (.int (zb (zlv (ps c0.toNatClampNeg) (lf c0.toNatClampNeg) d)))) (zi 0 b 3 ∧ zi 0 c0 (nI C - 1)) (fun X => X = zx_iae ∧ ¬ (zi 0 b 3 ∧ zi 0 c0 (nI C - 1))) D [(x, .inr (0, [.ref hc, .ref hp, .ref hs0, .ref hm, .ref hn, .ref hr0])), (hc, .inr (1, [.int (nI G), .ref ap, .ref al, .ref ai, .int (nI C), .ref ag, .ref af, .int oc, .ref at0])), (af, .inl (cI, 12, .inl lf)), (hs0, .inl (cS, 4, .inr (.inr (.inr (.inr sf0))))), (q, .inr (7, [.int pg, .ref aps, .ref asf, .int np, .ref aex])), (aps, .inl (cI, 12, .inl ps))] [(x, .inr (0, [.ref hc, .ref hp, .ref hs0, .ref hm, .ref hn, .ref hr0])), (hc, .inr (1, [.int (nI G), .ref ap, .ref al, .ref ai, .int (nI C), .ref ag, .ref af, .int oc, .ref at0])), (af, .inl (cI, 12, .inl lf)), (hs0, .inl (cS, 4, .inr (.inr (.inr (.inr sf0))))), (q, .inr (7, [.int pg, .ref aps, .ref asf, .int np, .ref aex])), (aps, .inl (cI, 12, .inl ps))] sz) 2 12 (va_A [(x, .inr (0, [.ref hc, .ref hp, .ref hs0, .ref hm, .ref hn, .ref hr0])), (hc, .inr (1, [.int (nI G), .ref ap, .ref al, .ref ai, .int (nI C), .ref ag, .ref af, .int oc, .ref at0])), (af, .inl (cI, 12, .inl lf)), (hs0, .inl (cS, 4, .inr (.inr (.inr (.inr sf0))))), (q, .inr (7, [.int pg, .ref aps, .ref asf, .int np, .ref aex])), (aps, .inl (cI, 12, .inl ps))] sz) := by
  refine zt_ofW (cc := b_SA_lives) (maxL := 4) (ret := (some .boolean)) (by decide) rfl ?_
  intro p e s m args below meth c s₁ B hml hemp hv
  obtain ⟨rfl, hsz, hok, hs, hP, hK, hDt⟩ := hv
  have hx := B.exec
  have hb := B.bytes
  have hr := B.returns
  have hown : s.vm.findClass "StudyAudit" = some m.cls := findClass_of_methodNamed B.named
  have hlocks := B.notSynchronized
  subst hsz
  have hP0 := hP
  have hD9 := hDt.self (sz := s.heap.size)
  obtain ⟨A, hAe⟩ : ∃ A, A = va_A [(x, .inr (0, [.ref hc, .ref hp, .ref hs0, .ref hm, .ref hn, .ref hr0])), (hc, .inr (1, [.int (nI G), .ref ap, .ref al, .ref ai, .int (nI C), .ref ag, .ref af, .int oc, .ref at0])), (af, .inl (cI, 12, .inl lf)), (hs0, .inl (cS, 4, .inr (.inr (.inr (.inr sf0))))), (q, .inr (7, [.int pg, .ref aps, .ref asf, .int np, .ref aex])), (aps, .inl (cI, 12, .inl ps))] s.heap.size := ⟨_, rfl⟩
  have hD : va_D A [(x, .inr (0, [.ref hc, .ref hp, .ref hs0, .ref hm, .ref hn, .ref hr0])), (hc, .inr (1, [.int (nI G), .ref ap, .ref al, .ref ai, .int (nI C), .ref ag, .ref af, .int oc, .ref at0])), (af, .inl (cI, 12, .inl lf)), (hs0, .inl (cS, 4, .inr (.inr (.inr (.inr sf0))))), (q, .inr (7, [.int pg, .ref aps, .ref asf, .int np, .ref aex])), (aps, .inl (cI, 12, .inl ps))] := by rw [hAe]; exact hD9
  have hA : ∀ q : Nat, s.heap.size ≤ q → A q := fun q h => by rw [hAe]; exact Or.inr h
  have hS : va_S A s.heap s.heap [] := va_S.rf
  have hl := lv_entry ([.ref x, .int b, .int c0, .int d]) (n := 4) (Nat.le_of_ble_eq_true rfl)
  rw [lg_entry_eq]
  generalize (lg_sl ([.ref x, .int b, .int c0, .int d]) ++ List.replicate (4 - (lg_sl ([.ref x, .int b, .int c0, .int d])).length) Slot.unset).toArray = ls at hl ⊢
  have hl : lv_has ls 4 [(0, .ref x), (1, .int b), (2, .int c0), (3, .int d)] := hl
  refine lv_aload_n hx hb d_SA_lives_0 rfl (lv_at hl 0 rfl) ?_
  refine lv_iload_n hx hb d_SA_lives_1 rfl (lv_at hl 1 rfl) ?_
  refine zk_call (zt_runV (Ts := []) (As := [.int b]) (rest := []) ⟨hx, hb, hml, hown, fun _ h => absurd h List.not_mem_nil⟩ (m_SA_checkStudent l htr x b s.heap) ⟨zc_B 1 hok c_SA_checkStudent_w t_1 t_430 rfl rfl (by decide +kernel) ⟨Nat.le_of_ble_eq_true rfl, Nat.le_of_ble_eq_true rfl⟩, hok _ t_432 rfl _, hok _ s_5 rfl _⟩ ⟨fun a U g mk q => by obtain ⟨q0, q1, q2, q3⟩ := q; exact ⟨q0, q1, q2.call g mk a, q3.moved (Vm.Alike.refl _)⟩, va_recv hK hP (ci := 0) (q0 := 0) rfl rfl, fun U hU hW => ⟨rfl, hU, hok.warm hW, by rw [hU]; exact hs.moved hW.alike⟩⟩ rfl rfl hl.1 rfl (lv_room (Nat.le_of_ble_eq_true rfl)) d_SA_lives_2 ⟨Nat.le_of_ble_eq_true rfl, Nat.le_of_ble_eq_true rfl⟩) (Nat.le_refl _) (fun h2 => ?_) (fun ax X H1 hE hex k1 k2 => zt_Tmono (fun t ht => zp_conv (ok0 := False) (fun z => z) hP0 hD9 ht) (zt_widen (k := 2) (n := 12) (by decide) (by decide) (zk_on hlocks hemp rfl (⟨hE.1, fun z => hE.2 z.1⟩) hex k1 k2)))
  refine lv_aload_n hx hb d_SA_lives_5 rfl (lv_at hl 0 rfl) ?_
  refine lv_iload_n hx hb d_SA_lives_6 rfl (lv_at hl 2 rfl) ?_
  refine zk_call (zt_runV (Ts := []) (As := [.int c0]) (rest := []) ⟨hx, hb, hml, hown, fun _ h => absurd h List.not_mem_nil⟩ (m_SA_checkCourse l htr D cI cJ cZ cP cS x hc hp hs0 hm hn hr0 ap al ai ag af at0 (nI G) (nI C) oc c0 s.heap) ⟨zc_B 1 hok c_SA_checkCourse_w t_1 t_378 rfl rfl (by decide +kernel) ⟨Nat.le_of_ble_eq_true rfl, Nat.le_of_ble_eq_true rfl⟩, hok _ t_380 rfl _, hok _ s_2 rfl _⟩ ⟨fun a U g mk q => by obtain ⟨q0, q1, q2, q3, qP, qK⟩ := q; exact ⟨q0, q1, q2.call g mk a, q3.moved (Vm.Alike.refl _), qP, va_K.moved (u := U) (U := U.calling g mk a) (Vm.Alike.refl U.vm) qK⟩, va_recv hK hP (ci := 0) (q0 := 0) rfl rfl, fun U hU hW => ⟨rfl, hU, hok.warm hW, by rw [hU]; exact hs.moved hW.alike, by rw [hU]; exact hP.sub [0, 1] rfl, va_K.moved hW.alike hK⟩⟩ rfl rfl hl.1 rfl (lv_room (Nat.le_of_ble_eq_true rfl)) d_SA_lives_7 ⟨Nat.le_of_ble_eq_true rfl, Nat.le_of_ble_eq_true rfl⟩) (Nat.le_refl _) (fun h7 => ?_) (fun ax X H1 hE hex k1 k2 => zt_Tmono (fun t ht => zp_conv (ok0 := False) (fun z => z) hP0 hD9 ht) (zt_widen (k := 2) (n := 12) (by decide) (by decide) (zk_on hlocks hemp rfl (⟨hE.1, fun z => hE.2 z.2⟩) hex k1 k2)))
  have k2 := zi_k (n := 3) (by omega) h2
  have k7 := zi_pre (by omega) h7
  have kv : vp_in c0 12 := by rw [k7.2.1]; exact vp_in_nI (by omega) (by omega)
  refine lv_aload_n hx hb d_SA_lives_10 rfl (lv_at hl 0 rfl) ?_
  refine va_get (D := D) (ci := 0) (v := .ref hs0) (C := R_SA) (T := F_SA) (N := 6) hx hb (tb_in hok in_SA) (fun w h => h) hown hK hP 0 rfl rfl 2 (by decide) (hok _ t_231 rfl _) (fun _ h9 => h9) rfl d_SA_lives_11 ?_
  refine lv_iload_n hx hb d_SA_lives_14 rfl (lv_at hl 1 rfl) ?_
  refine va_aldq hx hb hK hP 3 4 rfl rfl k2.1 d_SA_lives_15 ?_
  rw [show va_rf (sf0 (Int32.toNatClampNeg b)) = .ref q from hs9 h2]
  refine lv_iload_n hx hb d_SA_lives_16 rfl (lv_at hl 2 rfl) ?_
  refine lv_aload_n hx hb d_SA_lives_17 rfl (lv_at hl 0 rfl) ?_
  refine va_get (D := D) (ci := 0) (v := .ref hc) (C := R_SA) (T := F_SA) (N := 6) hx hb (tb_in hok in_SA) (fun w h => h) hown hK hP 0 rfl rfl 0 (by decide) (hok _ t_229 rfl _) (fun _ h9 => h9) rfl d_SA_lives_18 ?_
  refine va_get (D := D) (ci := 1) (v := .ref af) (C := R_CA) (T := F_CA) (N := 9) hx hb (tb_in hok in_CA) (fun w h => h) hown hK hP 1 rfl rfl 6 (by decide) (hok _ t_47 rfl _) (fun _ h9 => h9) rfl d_SA_lives_21 ?_
  refine lv_iload_n hx hb d_SA_lives_24 rfl (lv_at hl 2 rfl) ?_
  refine va_iald hx hb hK hP 2 0 rfl rfl kv d_SA_lives_25 ?_
  refine lv_iload_n hx hb d_SA_lives_26 rfl (lv_at hl 3 rfl) ?_
  refine W.eq (g2 := F0 m 27 ls [.int d, .int (lf (Int32.toNatClampNeg c0)), .int (nI (c0.toNatClampNeg)), .ref q]) (by rw [← k7.2.1]) ?_
  refine zc_read (va_runV (Ts := []) (As := [.int (nI (c0.toNatClampNeg)), .int (lf (Int32.toNatClampNeg c0)), .int d]) (rest := []) ⟨hx, hb, hml, hown, fun _ h => absurd h List.not_mem_nil⟩ (m_ST_hasLiving l D cI cJ cZ cP cS q aps asf aex pg np c0.toNatClampNeg (lf c0.toNatClampNeg) d ps (by omega)) ⟨zc_B 3 hok c_ST_hasLiving_w t_4 t_487 rfl rfl (by decide +kernel) ⟨Nat.le_of_ble_eq_true rfl, Nat.le_of_ble_eq_true rfl⟩, hok _ t_488 rfl _, hok _ t_489 rfl _⟩ ⟨fun a U g mk q => by obtain ⟨q0, q2, qP, qK⟩ := q; exact ⟨q0, q2.call g mk a, qP, va_K.moved (u := U) (U := U.calling g mk a) (Vm.Alike.refl U.vm) qK⟩, va_recv hK hP (ci := 7) (q0 := 4) rfl rfl, fun U hU hW => ⟨rfl, hok.warm hW, by rw [hU]; exact hP.sub [4, 5] rfl, va_K.moved hW.alike hK⟩⟩ rfl rfl hl.1 rfl (lv_room (Nat.le_of_ble_eq_true rfl)) d_SA_lives_27 ⟨Nat.le_of_ble_eq_true rfl, Nat.le_of_ble_eq_true rfl⟩) ?_
  refine W.eq (g2 := F0 m 30 ls [.int (zb (zlv (ps c0.toNatClampNeg) (lf c0.toNatClampNeg) d))]) rfl ?_
  subst hAe
  exact W.widen (k := 2) (n := 12) (by decide) (by decide) (zt_ofMQ (W.zret hx hb hr (z_zb _) (fun t ht _ => ⟨Or.inl ⟨rfl, ⟨h2, h7⟩, by rw [ht]; exact hP, hD⟩, hS.F ht⟩) hS.2.2 d_SA_lives_30))
