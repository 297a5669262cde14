/-! the checks of StudyAudit (rows by program) -/
abbrev tyl (cI cJ cZ cP cS : ClassId) : List (ClassId × FieldType) := [(cI, .int), (cJ, .long), (cZ, .boolean), (cP, .object "StudyAudit$Programme"), (cS, .object "StudyAudit$Student")]
abbrev zi (a b d : Int32) : Prop := ¬ b < a ∧ b ≤ d
set_option maxHeartbeats 4000000 in
set_option maxRecDepth 100000 in
theorem m_SA_checkBetween (l : Launch) (htr : l.stackTraces = false) (a b d : Int32) (H0 : Heap) : zt_Met l y_SA_checkBetween [Cond.code y_SA_checkBetween b_SA_checkBetween 3 none] { frames := 6, cells := 1, slots := 6, locals := 82 } (va_Pc [.int a, .int b, .int d] (fun U => U.heap = H0 ∧ tb_ok U ∧ zs_ok U U.heap)) (zk_Q (zi a b d) (fun X => X = zx_iae ∧ ¬ zi a b d) H0) 1 6 (zk_new H0.size) := by
  refine zt_ofW (cc := b_SA_checkBetween) (maxL := 3) (ret := none) (by decide) rfl ?_
  intro p e s m args below meth c s₁ B hml hemp hv
  obtain ⟨rfl, rfl, hok, hs⟩ := hv
  have hx := B.exec
  have hb := B.bytes
  have hr := B.returns
  have hown : s.vm.findClass "StudyAudit" = some m.cls := findClass_of_methodNamed B.named
  have hlocks := B.notSynchronized
  have hl := lv_entry ([.int a, .int b, .int d]) (n := 3) (Nat.le_of_ble_eq_true rfl)
  rw [lg_entry_eq]
  generalize (lg_sl ([.int a, .int b, .int d]) ++ List.replicate (3 - (lg_sl ([.int a, .int b, .int d])).length) Slot.unset).toArray = ls at hl ⊢
  have hl : lv_has ls 3 [(0, .int a), (1, .int b), (2, .int d)] := hl
  refine lv_iload_n hx hb d_SA_checkBetween_0 rfl (lv_at hl 1 rfl) ?_
  refine lv_iload_n hx hb d_SA_checkBetween_1 rfl (lv_at hl 0 rfl) ?_
  refine lv_icmp_lt (tgt := 10) hx hb d_SA_checkBetween_2 (by decide) (fun h2 => ?_) (fun h2 => ?_)
  · exact zk_throwW hx hb htr hown hok (by decide +kernel) (zx_use hok hs zx_iae_l) t_264 t_265 t_14 t_305 (by rw [hml]; exact hl.1) hlocks hemp d_SA_checkBetween_10 d_SA_checkBetween_13 d_SA_checkBetween_14 d_SA_checkBetween_17 d_SA_checkBetween_20 (Nat.le_of_ble_eq_true rfl) (Nat.le_of_ble_eq_true rfl) (Nat.le_of_ble_eq_true rfl) (Nat.le_of_ble_eq_true rfl) (⟨rfl, fun z => z.1 h2⟩)
  · refine lv_iload_n hx hb d_SA_checkBetween_5 rfl (lv_at hl 1 rfl) ?_
    refine lv_iload_n hx hb d_SA_checkBetween_6 rfl (lv_at hl 2 rfl) ?_
    refine lv_icmp_le (tgt := 21) hx hb d_SA_checkBetween_7 (by decide) (fun h7 => ?_) (fun h7 => ?_)
    · exact W.widen (k := 1) (n := 6) (by decide) (by decide) (zt_ofMQ (W.vret hx hb hr (fun t ht _ => Or.inl ⟨rfl, ⟨h2, h7⟩, ht⟩) (fun q h => by cases h) d_SA_checkBetween_21))
    · exact zk_throwW hx hb htr hown hok (by decide +kernel) (zx_use hok hs zx_iae_l) t_264 t_265 t_14 t_305 (by rw [hml]; exact hl.1) hlocks hemp d_SA_checkBetween_10 d_SA_checkBetween_13 d_SA_checkBetween_14 d_SA_checkBetween_17 d_SA_checkBetween_20 (Nat.le_of_ble_eq_true rfl) (Nat.le_of_ble_eq_true rfl) (Nat.le_of_ble_eq_true rfl) (Nat.le_of_ble_eq_true rfl) (⟨rfl, fun z => h7 z.2⟩)
set_option maxHeartbeats 4000000 in
set_option maxRecDepth 100000 in
theorem m_SA_checkNoneOrUpTo (l : Launch) (htr : l.stackTraces = false) (b d : Int32) (H0 : Heap) : zt_Met l y_SA_checkNoneOrUpTo [Cond.code y_SA_checkNoneOrUpTo b_SA_checkNoneOrUpTo 2 none] { frames := 7, cells := 1, slots := 6, locals := 104 } (va_Pc [.int b, .int d] (fun U => U.heap = H0 ∧ tb_ok U ∧ zs_ok U U.heap)) (zk_Q (b = -1 ∨ zi 0 b d) (fun X => X = zx_iae ∧ ¬ (b = -1 ∨ zi 0 b d)) H0) 1 6 (zk_new H0.size) := by
  refine zt_ofW (cc := b_SA_checkNoneOrUpTo) (maxL := 2) (ret := none) (by decide) rfl ?_
  intro p e s m args below meth c s₁ B hml hemp hv
  obtain ⟨rfl, rfl, hok, hs⟩ := hv
  have hx := B.exec
  have hb := B.bytes
  have hr := B.returns
  have hown : s.vm.findClass "StudyAudit" = some m.cls := findClass_of_methodNamed B.named
  have hlocks := B.notSynchronized
  have hl := lv_entry ([.int b, .int d]) (n := 2) (Nat.le_of_ble_eq_true rfl)
  rw [lg_entry_eq]
  generalize (lg_sl ([.int b, .int d]) ++ List.replicate (2 - (lg_sl ([.int b, .int d])).length) Slot.unset).toArray = ls at hl ⊢
  have hl : lv_has ls 2 [(0, .int b), (1, .int d)] := hl
  refine lv_iload_n hx hb d_SA_checkNoneOrUpTo_0 rfl (lv_at hl 0 rfl) ?_
  refine lv_iconst (v := (-1)) hx hb d_SA_checkNoneOrUpTo_1 (by decide) ?_
  refine lv_icmp_eq (tgt := 11) hx hb d_SA_checkNoneOrUpTo_2 (by decide) (fun h2 => ?_) (fun h2 => ?_)
  · exact W.widen (k := 1) (n := 6) (by decide) (by decide) (zt_ofMQ (W.vret hx hb hr (fun t ht _ => Or.inl ⟨rfl, Or.inl h2, ht⟩) (fun q h => by cases h) d_SA_checkNoneOrUpTo_11))
  · refine lv_iconst (v := 0) hx hb d_SA_checkNoneOrUpTo_5 (by decide) ?_
    refine lv_iload_n hx hb d_SA_checkNoneOrUpTo_6 rfl (lv_at hl 0 rfl) ?_
    refine lv_iload_n hx hb d_SA_checkNoneOrUpTo_7 rfl (lv_at hl 1 rfl) ?_
    refine zk_call (zt_runS (Ts := []) (As := [.int 0, .int b, .int d]) (rest := []) ⟨hx, hb, hml, hown, fun _ h => absurd h List.not_mem_nil⟩ (m_SA_checkBetween l htr 0 b d s.heap) ⟨zc_B 3 hok c_SA_checkBetween_w t_1 t_261 rfl rfl (by decide +kernel) ⟨Nat.le_of_ble_eq_true rfl, Nat.le_of_ble_eq_true rfl⟩, hok _ t_262 rfl _⟩ ⟨fun a U g mk q => by obtain ⟨q0, q1, q2, q3⟩ := q; exact ⟨q0, q1, q2.call g mk a, q3.moved (Vm.Alike.refl _)⟩, fun U hU hW => ⟨rfl, hU, hok.warm hW, by rw [hU]; exact hs.moved hW.alike⟩⟩ rfl rfl hl.1 rfl (lv_room (Nat.le_of_ble_eq_true rfl)) d_SA_checkNoneOrUpTo_8 ⟨Nat.le_of_ble_eq_true rfl, Nat.le_of_ble_eq_true rfl⟩) (Nat.le_refl _) (fun h8 => ?_) (fun ax X H1 hE hex k1 k2 => zt_widen (k := 1) (n := 6) (by decide) (by decide) (zk_on hlocks hemp rfl (⟨hE.1, fun z => z.elim h2 hE.2⟩) hex k1 k2))
    exact W.widen (k := 1) (n := 6) (by decide) (by decide) (zt_ofMQ (W.vret hx hb hr (fun t ht _ => Or.inl ⟨rfl, Or.inr h8, ht⟩) (fun q h => by cases h) d_SA_checkNoneOrUpTo_11))
set_option maxHeartbeats 4000000 in
set_option maxRecDepth 100000 in
theorem m_SA_checkStudent (l : Launch) (htr : l.stackTraces = false) (x : Nat) (b : Int32) (H0 : Heap) : zt_Met l y_SA_checkStudent [Cond.code y_SA_checkStudent b_SA_checkStudent 2 none] { frames := 7, cells := 1, slots := 6, locals := 104 } (va_Pc [.ref x, .int b] (fun U => U.heap = H0 ∧ tb_ok U ∧ zs_ok U U.heap)) (zk_Q (zi 0 b 3) (fun X => X = zx_iae ∧ ¬ zi 0 b 3) H0) 1 6 (zk_new H0.size) := by
  refine zt_ofW (cc := b_SA_checkStudent) (maxL := 2) (ret := none) (by decide) rfl ?_
  intro p e s m args below meth c s₁ B hml hemp hv
  obtain ⟨rfl, rfl, hok, hs⟩ := hv
  have hx := B.exec
  have hb := B.bytes
  have hr := B.returns
  have hown : s.vm.findClass "StudyAudit" = some m.cls := findClass_of_methodNamed B.named
  have hlocks := B.notSynchronized
  have hl := lv_entry ([.ref x, .int b]) (n := 2) (Nat.le_of_ble_eq_true rfl)
  rw [lg_entry_eq]
  generalize (lg_sl ([.ref x, .int b]) ++ List.replicate (2 - (lg_sl ([.ref x, .int b])).length) Slot.unset).toArray = ls at hl ⊢
  have hl : lv_has ls 2 [(0, .ref x), (1, .int b)] := hl
  refine lv_iconst (v := 0) hx hb d_SA_checkStudent_0 (by decide) ?_
  refine lv_iload_n hx hb d_SA_checkStudent_1 rfl (lv_at hl 1 rfl) ?_
  refine lv_iconst (v := 3) hx hb d_SA_checkStudent_2 (by decide) ?_
  refine zk_call (zt_runS (Ts := []) (As := [.int 0, .int b, .int 3]) (rest := []) ⟨hx, hb, hml, hown, fun _ h => absurd h List.not_mem_nil⟩ (m_SA_checkBetween l htr 0 b 3 s.heap) ⟨zc_B 3 hok c_SA_checkBetween_w t_1 t_261 rfl rfl (by decide +kernel) ⟨Nat.le_of_ble_eq_true rfl, Nat.le_of_ble_eq_true rfl⟩, hok _ t_262 rfl _⟩ ⟨fun a U g mk q => by obtain ⟨q0, q1, q2, q3⟩ := q; exact ⟨q0, q1, q2.call g mk a, q3.moved (Vm.Alike.refl _)⟩, fun U hU hW => ⟨rfl, hU, hok.warm hW, by rw [hU]; exact hs.moved hW.alike⟩⟩ rfl rfl hl.1 rfl (lv_room (Nat.le_of_ble_eq_true rfl)) d_SA_checkStudent_3 ⟨Nat.le_of_ble_eq_true rfl, Nat.le_of_ble_eq_true rfl⟩) (Nat.le_refl _) (fun h3 => ?_) (fun ax X H1 hE hex k1 k2 => zt_widen (k := 1) (n := 6) (by decide) (by decide) (zk_on hlocks hemp rfl (hE) hex k1 k2))
  exact W.widen (k := 1) (n := 6) (by decide) (by decide) (zt_ofMQ (W.vret hx hb hr (fun t ht _ => Or.inl ⟨rfl, h3, ht⟩) (fun q h => by cases h) d_SA_checkStudent_6))
set_option maxHeartbeats 4000000 in
set_option maxRecDepth 100000 in
theorem m_SA_checkProgramme (l : Launch) (htr : l.stackTraces = false) (x : Nat) (b : Int32) (H0 : Heap) : zt_Met l y_SA_checkProgramme [Cond.code y_SA_checkProgramme b_SA_checkProgramme 2 none] { frames := 7, cells := 1, slots := 6, locals := 104 } (va_Pc [.ref x, .int b] (fun U => U.heap = H0 ∧ tb_ok U ∧ zs_ok U U.heap)) (zk_Q (zi 0 b 2) (fun X => X = zx_iae ∧ ¬ zi 0 b 2) H0) 1 6 (zk_new H0.size) := by
  refine zt_ofW (cc := b_SA_checkProgramme) (maxL := 2) (ret := none) (by decide) rfl ?_
  intro p e s m args below meth c s₁ B hml hemp hv
  obtain ⟨rfl, rfl, hok, hs⟩ := hv
  have hx := B.exec
  have hb := B.bytes
  have hr := B.returns
  have hown : s.vm.findClass "StudyAudit" = some m.cls := findClass_of_methodNamed B.named
  have hlocks := B.notSynchronized
  have hl := lv_entry ([.ref x, .int b]) (n := 2) (Nat.le_of_ble_eq_true rfl)
  rw [lg_entry_eq]
  generalize (lg_sl ([.ref x, .int b]) ++ List.replicate (2 - (lg_sl ([.ref x, .int b])).length) Slot.unset).toArray = ls at hl ⊢
  have hl : lv_has ls 2 [(0, .ref x), (1, .int b)] := hl
  refine lv_iconst (v := 0) hx hb d_SA_checkProgramme_0 (by decide) ?_
  refine lv_iload_n hx hb d_SA_checkProgramme_1 rfl (lv_at hl 1 rfl) ?_
  refine lv_iconst (v := 2) hx hb d_SA_checkProgramme_2 (by decide) ?_
  refine zk_call (zt_runS (Ts := []) (As := [.int 0, .int b, .int 2]) (rest := []) ⟨hx, hb, hml, hown, fun _ h => absurd h List.not_mem_nil⟩ (m_SA_checkBetween l htr 0 b 2 s.heap) ⟨zc_B 3 hok c_SA_checkBetween_w t_1 t_261 rfl rfl (by decide +kernel) ⟨Nat.le_of_ble_eq_true rfl, Nat.le_of_ble_eq_true rfl⟩, hok _ t_262 rfl _⟩ ⟨fun a U g mk q => by obtain ⟨q0, q1, q2, q3⟩ := q; exact ⟨q0, q1, q2.call g mk a, q3.moved (Vm.Alike.refl _)⟩, fun U hU hW => ⟨rfl, hU, hok.warm hW, by rw [hU]; exact hs.moved hW.alike⟩⟩ rfl rfl hl.1 rfl (lv_room (Nat.le_of_ble_eq_true rfl)) d_SA_checkProgramme_3 ⟨Nat.le_of_ble_eq_true rfl, Nat.le_of_ble_eq_true rfl⟩) (Nat.le_refl _) (fun h3 => ?_) (fun ax X H1 hE hex k1 k2 => zt_widen (k := 1) (n := 6) (by decide) (by decide) (zk_on hlocks hemp rfl (hE) hex k1 k2))
  exact W.widen (k := 1) (n := 6) (by decide) (by decide) (zt_ofMQ (W.vret hx hb hr (fun t ht _ => Or.inl ⟨rfl, h3, ht⟩) (fun q h => by cases h) d_SA_checkProgramme_6))
set_option maxHeartbeats 4000000 in
set_option maxRecDepth 100000 in
theorem m_SA_checkGroup (l : Launch) (htr : l.stackTraces = false) (D : va_G) (cI cJ cZ cP cS : ClassId) (x hc hp hs0 hm hn hr0 ap al ai ag af at0 : Nat) (ng nc oc : Int32) (b : Int32) (H0 : Heap) : zt_Met l y_SA_checkGroup [Cond.code y_SA_checkGroup b_SA_checkGroup 2 none] { frames := 7, cells := 1, slots := 6, locals := 104 } (va_Pc [.ref x, .int b] (fun U => U.heap = H0 ∧ tb_ok U ∧ zs_ok U U.heap ∧ va_P D cls [(x, .inr (0, [.ref hc, .ref hp, .ref hs0, .ref hm, .ref hn, .ref hr0])), (hc, .inr (1, [.int ng, .ref ap, .ref al, .ref ai, .int nc, .ref ag, .ref af, .int oc, .ref at0]))] U.heap ∧ va_K D cls (tyl cI cJ cZ cP cS) U)) (zk_Q (zi 0 b (ng - 1)) (fun X => X = zx_iae ∧ ¬ zi 0 b (ng - 1)) H0) 1 6 (zk_new H0.size) := by
  refine zt_ofW (cc := b_SA_checkGroup) (maxL := 2) (ret := none) (by decide) rfl ?_
  intro p e s m args below meth c s₁ B hml hemp hv
  obtain ⟨rfl, rfl, hok, hs, hP, hK⟩ := hv
  have hx := B.exec
  have hb := B.bytes
  have hr := B.returns
  have hown : s.vm.findClass "StudyAudit" = some m.cls := findClass_of_methodNamed B.named
  have hlocks := B.notSynchronized
  have hl := lv_entry ([.ref x, .int b]) (n := 2) (Nat.le_of_ble_eq_true rfl)
  rw [lg_entry_eq]
  generalize (lg_sl ([.ref x, .int b]) ++ List.replicate (2 - (lg_sl ([.ref x, .int b])).length) Slot.unset).toArray = ls at hl ⊢
  have hl : lv_has ls 2 [(0, .ref x), (1, .int b)] := hl
  refine lv_iconst (v := 0) hx hb d_SA_checkGroup_0 (by decide) ?_
  refine lv_iload_n hx hb d_SA_checkGroup_1 rfl (lv_at hl 1 rfl) ?_
  refine lv_aload_n hx hb d_SA_checkGroup_2 rfl (lv_at hl 0 rfl) ?_
  refine va_get (D := D) (ci := 0) (v := .ref hc) (C := R_SA) (T := F_SA) (N := 6) hx hb (tb_in hok in_SA) (fun w h => h) hown hK hP 0 rfl rfl 0 (by decide) (hok _ t_229 rfl _) (fun _ h9 => h9) rfl d_SA_checkGroup_3 ?_
  refine va_get (D := D) (ci := 1) (v := .int ng) (C := R_CA) (T := F_CA) (N := 9) hx hb (tb_in hok in_CA) (fun w h => h) hown hK hP 1 rfl rfl 0 (by decide) (hok _ t_34 rfl _) (fun _ h9 => h9) rfl d_SA_checkGroup_6 ?_
  refine lv_iconst (v := 1) hx hb d_SA_checkGroup_9 (by decide) ?_
  refine lv_isub hx hb d_SA_checkGroup_10 ?_
  refine zk_call (zt_runS (Ts := []) (As := [.int 0, .int b, .int (ng - (1 : Int32))]) (rest := []) ⟨hx, hb, hml, hown, fun _ h => absurd h List.not_mem_nil⟩ (m_SA_checkBetween l htr 0 b (ng - (1 : Int32)) s.heap) ⟨zc_B 3 hok c_SA_checkBetween_w t_1 t_261 rfl rfl (by decide +kernel) ⟨Nat.le_of_ble_eq_true rfl, Nat.le_of_ble_eq_true rfl⟩, hok _ t_262 rfl _⟩ ⟨fun a U g mk q => by obtain ⟨q0, q1, q2, q3⟩ := q; exact ⟨q0, q1, q2.call g mk a, q3.moved (Vm.Alike.refl _)⟩, fun U hU hW => ⟨rfl, hU, hok.warm hW, by rw [hU]; exact hs.moved hW.alike⟩⟩ rfl rfl hl.1 rfl (lv_room (Nat.le_of_ble_eq_true rfl)) d_SA_checkGroup_11 ⟨Nat.le_of_ble_eq_true rfl, Nat.le_of_ble_eq_true rfl⟩) (Nat.le_refl _) (fun h11 => ?_) (fun ax X H1 hE hex k1 k2 => zt_widen (k := 1) (n := 6) (by decide) (by decide) (zk_on hlocks hemp rfl (hE) hex k1 k2))
  exact W.widen (k := 1) (n := 6) (by decide) (by decide) (zt_ofMQ (W.vret hx hb hr (fun t ht _ => Or.inl ⟨rfl, h11, ht⟩) (fun q h => by cases h) d_SA_checkGroup_14))
set_option maxHeartbeats 4000000 in
set_option maxRecDepth 100000 in
theorem m_SA_checkCourse (l : Launch) (htr : l.stackTraces = false) (D : va_G) (cI cJ cZ cP cS : ClassId) (x hc hp hs0 hm hn hr0 ap al ai ag af at0 : Nat) (ng nc oc : Int32) (b : Int32) (H0 : Heap) : zt_Met l y_SA_checkCourse [Cond.code y_SA_checkCourse b_SA_checkCourse 2 none] { frames := 7, cells := 1, slots := 6, locals := 104 } (va_Pc [.ref x, .int b] (fun U => U.heap = H0 ∧ tb_ok U ∧ zs_ok U U.heap ∧ va_P D cls [(x, .inr (0, [.ref hc, .ref hp, .ref hs0, .ref hm, .ref hn, .ref hr0])), (hc, .inr (1, [.int ng, .ref ap, .ref al, .ref ai, .int nc, .ref ag, .ref af, .int oc, .ref at0]))] U.heap ∧ va_K D cls (tyl cI cJ cZ cP cS) U)) (zk_Q (zi 0 b (nc - 1)) (fun X => X = zx_iae ∧ ¬ zi 0 b (nc - 1)) H0) 1 6 (zk_new H0.size) := by
  refine zt_ofW (cc := b_SA_checkCourse) (maxL := 2) (ret := none) (by decide) rfl ?_
  intro p e s m args below meth c s₁ B hml hemp hv
  obtain ⟨rfl, rfl, hok, hs, hP, hK⟩ := hv
  have hx := B.exec
  have hb := B.bytes
  have hr := B.returns
  have hown : s.vm.findClass "StudyAudit" = some m.cls := findClass_of_methodNamed B.named
  have hlocks := B.notSynchronized
  have hl := lv_entry ([.ref x, .int b]) (n := 2) (Nat.le_of_ble_eq_true rfl)
  rw [lg_entry_eq]
  generalize (lg_sl ([.ref x, .int b]) ++ List.replicate (2 - (lg_sl ([.ref x, .int b])).length) Slot.unset).toArray = ls at hl ⊢
  have hl : lv_has ls 2 [(0, .ref x), (1, .int b)] := hl
  refine lv_iconst (v := 0) hx hb d_SA_checkCourse_0 (by decide) ?_
  refine lv_iload_n hx hb d_SA_checkCourse_1 rfl (lv_at hl 1 rfl) ?_
  refine lv_aload_n hx hb d_SA_checkCourse_2 rfl (lv_at hl 0 rfl) ?_
  refine va_get (D := D) (ci := 0) (v := .ref hc) (C := R_SA) (T := F_SA) (N := 6) hx hb (tb_in hok in_SA) (fun w h => h) hown hK hP 0 rfl rfl 0 (by decide) (hok _ t_229 rfl _) (fun _ h9 => h9) rfl d_SA_checkCourse_3 ?_
  refine va_get (D := D) (ci := 1) (v := .int nc) (C := R_CA) (T := F_CA) (N := 9) hx hb (tb_in hok in_CA) (fun w h => h) hown hK hP 1 rfl rfl 4 (by decide) (hok _ t_41 rfl _) (fun _ h9 => h9) rfl d_SA_checkCourse_6 ?_
  refine lv_iconst (v := 1) hx hb d_SA_checkCourse_9 (by decide) ?_
  refine lv_isub hx hb d_SA_checkCourse_10 ?_
  refine zk_call (zt_runS (Ts := []) (As := [.int 0, .int b, .int (nc - (1 : Int32))]) (rest := []) ⟨hx, hb, hml, hown, fun _ h => absurd h List.not_mem_nil⟩ (m_SA_checkBetween l htr 0 b (nc - (1 : Int32)) s.heap) ⟨zc_B 3 hok c_SA_checkBetween_w t_1 t_261 rfl rfl (by decide +kernel) ⟨Nat.le_of_ble_eq_true rfl, Nat.le_of_ble_eq_true rfl⟩, hok _ t_262 rfl _⟩ ⟨fun a U g mk q => by obtain ⟨q0, q1, q2, q3⟩ := q; exact ⟨q0, q1, q2.call g mk a, q3.moved (Vm.Alike.refl _)⟩, fun U hU hW => ⟨rfl, hU, hok.warm hW, by rw [hU]; exact hs.moved hW.alike⟩⟩ rfl rfl hl.1 rfl (lv_room (Nat.le_of_ble_eq_true rfl)) d_SA_checkCourse_11 ⟨Nat.le_of_ble_eq_true rfl, Nat.le_of_ble_eq_true rfl⟩) (Nat.le_refl _) (fun h11 => ?_) (fun ax X H1 hE hex k1 k2 => zt_widen (k := 1) (n := 6) (by decide) (by decide) (zk_on hlocks hemp rfl (hE) hex k1 k2))
  exact W.widen (k := 1) (n := 6) (by decide) (by decide) (zt_ofMQ (W.vret hx hb hr (fun t ht _ => Or.inl ⟨rfl, h11, ht⟩) (fun q h => by cases h) d_SA_checkCourse_14))
