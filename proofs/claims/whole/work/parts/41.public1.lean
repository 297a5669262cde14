/-! the public methods of StudyAudit, first half (rows by program) -/
theorem zi_of {b : Int32} {n : Nat} (hn : n < 2 ^ 31) (h : zi 0 b (nI n)) : b = nI b.toNatClampNeg ∧ b.toNatClampNeg ≤ n := by
  obtain ⟨j, hj, rfl⟩ := nI_of h.1
  rw [nI_clamp hj]
  exact ⟨rfl, (nI_leI hj hn).mp h.2⟩
theorem zi_k {b : Int32} {n : Nat} (hn : n + 1 < 2 ^ 31) (h : zi 0 b (nI n)) : vp_in b (n + 1) ∧ b = nI b.toNatClampNeg ∧ b.toNatClampNeg < n + 1 := by
  obtain ⟨h1, h2⟩ := zi_of (by omega) h
  refine ⟨?_, h1, by omega⟩
  rw [h1]
  exact vp_in_nI (by omega) hn
theorem zi_pre {b : Int32} {n : Nat} (hn : n < 2 ^ 30) (h : zi 0 b (nI n - 1)) : vp_in b n ∧ b = nI b.toNatClampNeg ∧ b.toNatClampNeg < n := by
  cases n with
  | zero =>
    exfalso
    have h1 := h.1
    have h2 : b ≤ -1 := h.2
    rw [Int32.lt_iff_toInt_lt] at h1
    rw [Int32.le_iff_toInt_le] at h2
    have e0 : (0 : Int32).toInt = 0 := rfl
    have e1 : (-1 : Int32).toInt = -1 := rfl
    omega
  | succ k =>
    rw [nI_pred] at h
    exact zi_k (by omega) h
theorem zi_one {b : Int32} {n : Nat} (hn : n < 2 ^ 30) (h : zi 1 b (nI n)) : b = nI b.toNatClampNeg ∧ 1 ≤ b.toNatClampNeg ∧ b.toNatClampNeg ≤ n := by
  have h0 : ¬ b < 0 := by
    intro z
    have h1 := h.1
    rw [Int32.lt_iff_toInt_lt] at h1 z
    have e0 : (0 : Int32).toInt = 0 := rfl
    have e1 : (1 : Int32).toInt = 1 := rfl
    omega
  obtain ⟨g1, g2⟩ := zi_of (by omega) ⟨h0, h.2⟩
  refine ⟨g1, ?_, g2⟩
  refine Nat.pos_of_ne_zero (fun z => ?_)
  rw [z] at g1
  exact h.1 (by rw [g1]; decide)
set_option maxHeartbeats 4000000 in
set_option maxRecDepth 100000 in
theorem m_SA_group (l : Launch) (htr : l.stackTraces = false) (D : va_G) (cI cJ cZ cP cS : ClassId) (x hc hp hs0 hm hn hr0 : Nat) (ap al ai ag af at0 G C : Nat) (oc : Int32) (b d : Int32) (pa lm : Nat → Int32) (hG : G ≤ 6) (sz : Nat) : zt_Met l y_SA_group [Cond.code y_SA_group b_SA_group 3 (some .int)] { frames := 8, cells := 3, slots := 18, locals := 125 } (va_Pc [.ref x, .int b, .int d] (fun U => U.heap.size = sz ∧ tb_ok U ∧ zs_ok U U.heap ∧ va_P D cls [(x, .inr (0, [.ref hc, .ref hp, .ref hs0, .ref hm, .ref hn, .ref hr0])), (hc, .inr (1, [.int (nI G), .ref ap, .ref al, .ref ai, .int (nI C), .ref ag, .ref af, .int oc, .ref at0])), (ap, .inl (cI, 6, .inl pa)), (al, .inl (cI, 6, .inl lm))] U.heap ∧ va_K D cls (tyl cI cJ cZ cP cS) U ∧ va_D (fun _ => True) [(x, .inr (0, [.ref hc, .ref hp, .ref hs0, .ref hm, .ref hn, .ref hr0])), (hc, .inr (1, [.int (nI G), .ref ap, .ref al, .ref ai, .int (nI C), .ref ag, .ref af, .int oc, .ref at0])), (ap, .inl (cI, 6, .inl pa)), (al, .inl (cI, 6, .inl lm))])) (zp_Q (some (.int (nI G))) (((b = -1 ∨ zi 0 b (nI G - 1)) ∧ (d = -1 ∨ zi 0 d 12)) ∧ ¬ (nI G = 6 ∨ (b = -1 ∧ ¬ nI G ≤ 0))) (fun X => (X = zx_iae ∧ ¬ ((b = -1 ∨ zi 0 b (nI G - 1)) ∧ (d = -1 ∨ zi 0 d 12))) ∨ (X = zx_ise ∧ ((b = -1 ∨ zi 0 b (nI G - 1)) ∧ (d = -1 ∨ zi 0 d 12)) ∧ (nI G = 6 ∨ (b = -1 ∧ ¬ nI G ≤ 0)))) D [(x, .inr (0, [.ref hc, .ref hp, .ref hs0, .ref hm, .ref hn, .ref hr0])), (hc, .inr (1, [.int (nI G), .ref ap, .ref al, .ref ai, .int (nI C), .ref ag, .ref af, .int oc, .ref at0])), (ap, .inl (cI, 6, .inl pa)), (al, .inl (cI, 6, .inl lm))] [(x, .inr (0, [.ref hc, .ref hp, .ref hs0, .ref hm, .ref hn, .ref hr0])), (hc, .inr (1, [.int (nI (G + 1)), .ref ap, .ref al, .ref ai, .int (nI C), .ref ag, .ref af, .int oc, .ref at0])), (ap, .inl (cI, 6, .inl (upd pa G b))), (al, .inl (cI, 6, .inl (upd lm G d)))] sz) 3 18 (va_A [(x, .inr (0, [.ref hc, .ref hp, .ref hs0, .ref hm, .ref hn, .ref hr0])), (hc, .inr (1, [.int (nI G), .ref ap, .ref al, .ref ai, .int (nI C), .ref ag, .ref af, .int oc, .ref at0])), (ap, .inl (cI, 6, .inl pa)), (al, .inl (cI, 6, .inl lm))] sz) := by
  refine zt_ofW (cc := b_SA_group) (maxL := 3) (ret := (some .int)) (by decide) rfl ?_
  intro p e s m args below meth c s₁ B hml hemp hv
  obtain ⟨rfl, hsz, hok, hs, hP, hK, hDt⟩ := hv
  have hx := B.exec
  have hb := B.bytes
  have hr := B.returns
  have hown : s.vm.findClass "StudyAudit" = some m.cls := findClass_of_methodNamed B.named
  have hlocks := B.notSynchronized
  subst hsz
  have hP0 := hP
  have hD9 := hDt.self (sz := s.heap.size)
  obtain ⟨A, hAe⟩ : ∃ A, A = va_A [(x, .inr (0, [.ref hc, .ref hp, .ref hs0, .ref hm, .ref hn, .ref hr0])), (hc, .inr (1, [.int (nI G), .ref ap, .ref al, .ref ai, .int (nI C), .ref ag, .ref af, .int oc, .ref at0])), (ap, .inl (cI, 6, .inl pa)), (al, .inl (cI, 6, .inl lm))] s.heap.size := ⟨_, rfl⟩
  have hD : va_D A [(x, .inr (0, [.ref hc, .ref hp, .ref hs0, .ref hm, .ref hn, .ref hr0])), (hc, .inr (1, [.int (nI G), .ref ap, .ref al, .ref ai, .int (nI C), .ref ag, .ref af, .int oc, .ref at0])), (ap, .inl (cI, 6, .inl pa)), (al, .inl (cI, 6, .inl lm))] := by rw [hAe]; exact hD9
  have hA : ∀ q : Nat, s.heap.size ≤ q → A q := fun q h => by rw [hAe]; exact Or.inr h
  have hS : va_S A s.heap s.heap [] := va_S.rf
  have hl := lv_entry ([.ref x, .int b, .int d]) (n := 3) (Nat.le_of_ble_eq_true rfl)
  rw [lg_entry_eq]
  generalize (lg_sl ([.ref x, .int b, .int d]) ++ List.replicate (3 - (lg_sl ([.ref x, .int b, .int d])).length) Slot.unset).toArray = ls at hl ⊢
  have hl : lv_has ls 3 [(0, .ref x), (1, .int b), (2, .int d)] := hl
  refine lv_iload_n hx hb d_SA_group_0 rfl (lv_at hl 1 rfl) ?_
  refine lv_iconst (v := (-1)) hx hb d_SA_group_1 (by decide) ?_
  refine lv_icmp_eq (tgt := 10) hx hb d_SA_group_2 (by decide) (fun h2 => ?_) (fun h2 => ?_)
  · refine lv_iload_n hx hb d_SA_group_10 rfl (lv_at hl 2 rfl) ?_
    refine lv_bipush (v := 12) hx hb d_SA_group_11 (by decide) ?_
    refine zk_call (zt_runS (Ts := []) (As := [.int d, .int 12]) (rest := []) ⟨hx, hb, hml, hown, fun _ h => absurd h List.not_mem_nil⟩ (m_SA_checkNoneOrUpTo l htr d 12 s.heap) ⟨zc_B 2 hok c_SA_checkNoneOrUpTo_w t_1 t_332 rfl rfl (by decide +kernel) ⟨Nat.le_of_ble_eq_true rfl, Nat.le_of_ble_eq_true rfl⟩, hok _ t_333 rfl _⟩ ⟨fun a U g mk q => by obtain ⟨q0, q1, q2, q3⟩ := q; exact ⟨q0, q1, q2.call g mk a, q3.moved (Vm.Alike.refl _)⟩, fun U hU hW => ⟨rfl, hU, hok.warm hW, by rw [hU]; exact hs.moved hW.alike⟩⟩ rfl rfl hl.1 rfl (lv_room (Nat.le_of_ble_eq_true rfl)) d_SA_group_13 ⟨Nat.le_of_ble_eq_true rfl, Nat.le_of_ble_eq_true rfl⟩) (Nat.le_refl _) (fun h13 => ?_) (fun ax X H1 hE hex k1 k2 => zt_Tmono (fun t ht => zp_conv (ok0 := False) (fun z => z) hP0 hD9 ht) (zt_widen (k := 3) (n := 18) (by decide) (by decide) (zk_on hlocks hemp rfl (Or.inl ⟨hE.1, fun z => hE.2 z.2⟩) hex k1 k2)))
    refine lv_aload_n hx hb d_SA_group_16 rfl (lv_at hl 0 rfl) ?_
    refine va_get (D := D) (ci := 0) (v := .ref hc) (C := R_SA) (T := F_SA) (N := 6) hx hb (tb_in hok in_SA) (fun w h => h) hown hK hP 0 rfl rfl 0 (by decide) (hok _ t_229 rfl _) (fun _ h9 => h9) rfl d_SA_group_17 ?_
    refine va_get (D := D) (ci := 1) (v := .int (nI G)) (C := R_CA) (T := F_CA) (N := 9) hx hb (tb_in hok in_CA) (fun w h => h) hown hK hP 1 rfl rfl 0 (by decide) (hok _ t_34 rfl _) (fun _ h9 => h9) rfl d_SA_group_20 ?_
    refine lv_bipush (v := 6) hx hb d_SA_group_23 (by decide) ?_
    refine lv_icmp_ne (tgt := 38) hx hb d_SA_group_25 (by decide) (fun h25 => ?_) (fun h25 => ?_)
    · refine lv_iload_n hx hb d_SA_group_38 rfl (lv_at hl 1 rfl) ?_
      refine lv_iconst (v := (-1)) hx hb d_SA_group_39 (by decide) ?_
      refine lv_icmp_ne (tgt := 63) hx hb d_SA_group_40 (by decide) (fun h40 => ?_) (fun h40 => ?_)
      · refine lv_aload_n hx hb d_SA_group_63 rfl (lv_at hl 0 rfl) ?_
        refine va_get (D := D) (ci := 0) (v := .ref hc) (C := R_SA) (T := F_SA) (N := 6) hx hb (tb_in hok in_SA) (fun w h => h) hown hK hP 0 rfl rfl 0 (by decide) (hok _ t_229 rfl _) (fun _ h9 => h9) rfl d_SA_group_64 ?_
        refine lv_iload_n hx hb d_SA_group_67 rfl (lv_at hl 1 rfl) ?_
        refine lv_iload_n hx hb d_SA_group_68 rfl (lv_at hl 2 rfl) ?_
        refine zc_write (wc := [(hc, .inr (1, [.int (nI G), .ref ap, .ref al, .ref ai, .int (nI C), .ref ag, .ref af, .int oc, .ref at0])), (ap, .inl (cI, 6, .inl pa)), (al, .inl (cI, 6, .inl lm))]) (wc1 := [(hc, .inr (1, [.int (nI G + 1), .ref ap, .ref al, .ref ai, .int (nI C), .ref ag, .ref af, .int oc, .ref at0])), (ap, .inl (cI, 6, .inl (upd pa G b))), (al, .inl (cI, 6, .inl (upd lm G d)))]) (wr := [(x, .inr (0, [.ref hc, .ref hp, .ref hs0, .ref hm, .ref hn, .ref hr0]))]) (ws1 := [(x, .inr (0, [.ref hc, .ref hp, .ref hs0, .ref hm, .ref hn, .ref hr0])), (hc, .inr (1, [.int (nI G + 1), .ref ap, .ref al, .ref ai, .int (nI C), .ref ag, .ref af, .int oc, .ref at0])), (ap, .inl (cI, 6, .inl (upd pa G b))), (al, .inl (cI, 6, .inl (upd lm G d)))]) (va_runV (Ts := []) (As := [.int b, .int d]) (rest := []) ⟨hx, hb, hml, hown, fun _ h => absurd h List.not_mem_nil⟩ (m_CA_addGroup l D cI cJ cZ cP cS hc ap al ai ag af at0 G C oc b d pa lm (Nat.lt_of_le_of_ne hG (fun z => h25 (by rw [z]; rfl))) _) ⟨zc_B 2 hok c_CA_addGroup_w t_2 t_352 rfl rfl (by decide +kernel) ⟨Nat.le_of_ble_eq_true rfl, Nat.le_of_ble_eq_true rfl⟩, hok _ t_353 rfl _, hok _ t_354 rfl _⟩ ⟨fun a U g mk q => by obtain ⟨q0, q1, q2, qP, qK, qD⟩ := q; exact ⟨q0, q1, q2.call g mk a, qP, va_K.moved (u := U) (U := U.calling g mk a) (Vm.Alike.refl U.vm) qK, qD⟩, va_recv hK hP (ci := 1) (q0 := 1) rfl rfl, fun U hU hW => ⟨rfl, by rw [hU], hok.warm hW, by rw [hU]; exact hP.sub [1, 2, 3] rfl, va_K.moved hW.alike hK, (hD.sub [1, 2, 3] (by decide) rfl).weaken (fun _ _ _ _ => trivial)⟩⟩ rfl rfl hl.1 rfl (lv_room (Nat.le_of_ble_eq_true rfl)) d_SA_group_69 ⟨Nat.le_of_ble_eq_true rfl, Nat.le_of_ble_eq_true rfl⟩) hS hP hD hA [1, 2, 3] [0] [0, 1, 2, 3] rfl rfl (by decide) (by decide) rfl rfl (by decide) (fun H locs hP hD hS => ?_)
        refine W.eq (g2 := F0 m 72 ls [.int (nI G)]) rfl ?_
        rw [← nI_succ G] at hP hD
        subst hAe
        exact W.widen (k := 3) (n := 18) (by decide) (by decide) (zt_ofMQ (W.iret hx hb hr (fun t ht _ => ⟨Or.inl ⟨rfl, ⟨⟨(Or.inl h2), h13⟩, fun z => z.elim h25 (fun z => h40 z.1)⟩, by rw [ht]; exact hP, hD⟩, hS.F ht⟩) hS.2.2 d_SA_group_72))
      · refine lv_aload_n hx hb d_SA_group_43 rfl (lv_at hl 0 rfl) ?_
        refine va_get (D := D) (ci := 0) (v := .ref hc) (C := R_SA) (T := F_SA) (N := 6) hx hb (tb_in hok in_SA) (fun w h => h) hown hK hP 0 rfl rfl 0 (by decide) (hok _ t_229 rfl _) (fun _ h9 => h9) rfl d_SA_group_44 ?_
        refine va_get (D := D) (ci := 1) (v := .int (nI G)) (C := R_CA) (T := F_CA) (N := 9) hx hb (tb_in hok in_CA) (fun w h => h) hown hK hP 1 rfl rfl 0 (by decide) (hok _ t_34 rfl _) (fun _ h9 => h9) rfl d_SA_group_47 ?_
        refine lv_if_le (tgt := 63) hx hb d_SA_group_50 (by decide) (fun h50 => ?_) (fun h50 => ?_)
        · refine lv_aload_n hx hb d_SA_group_63 rfl (lv_at hl 0 rfl) ?_
          refine va_get (D := D) (ci := 0) (v := .ref hc) (C := R_SA) (T := F_SA) (N := 6) hx hb (tb_in hok in_SA) (fun w h => h) hown hK hP 0 rfl rfl 0 (by decide) (hok _ t_229 rfl _) (fun _ h9 => h9) rfl d_SA_group_64 ?_
          refine lv_iload_n hx hb d_SA_group_67 rfl (lv_at hl 1 rfl) ?_
          refine lv_iload_n hx hb d_SA_group_68 rfl (lv_at hl 2 rfl) ?_
          refine zc_write (wc := [(hc, .inr (1, [.int (nI G), .ref ap, .ref al, .ref ai, .int (nI C), .ref ag, .ref af, .int oc, .ref at0])), (ap, .inl (cI, 6, .inl pa)), (al, .inl (cI, 6, .inl lm))]) (wc1 := [(hc, .inr (1, [.int (nI G + 1), .ref ap, .ref al, .ref ai, .int (nI C), .ref ag, .ref af, .int oc, .ref at0])), (ap, .inl (cI, 6, .inl (upd pa G b))), (al, .inl (cI, 6, .inl (upd lm G d)))]) (wr := [(x, .inr (0, [.ref hc, .ref hp, .ref hs0, .ref hm, .ref hn, .ref hr0]))]) (ws1 := [(x, .inr (0, [.ref hc, .ref hp, .ref hs0, .ref hm, .ref hn, .ref hr0])), (hc, .inr (1, [.int (nI G + 1), .ref ap, .ref al, .ref ai, .int (nI C), .ref ag, .ref af, .int oc, .ref at0])), (ap, .inl (cI, 6, .inl (upd pa G b))), (al, .inl (cI, 6, .inl (upd lm G d)))]) (va_runV (Ts := []) (As := [.int b, .int d]) (rest := []) ⟨hx, hb, hml, hown, fun _ h => absurd h List.not_mem_nil⟩ (m_CA_addGroup l D cI cJ cZ cP cS hc ap al ai ag af at0 G C oc b d pa lm (Nat.lt_of_le_of_ne hG (fun z => h25 (by rw [z]; rfl))) _) ⟨zc_B 2 hok c_CA_addGroup_w t_2 t_352 rfl rfl (by decide +kernel) ⟨Nat.le_of_ble_eq_true rfl, Nat.le_of_ble_eq_true rfl⟩, hok _ t_353 rfl _, hok _ t_354 rfl _⟩ ⟨fun a U g mk q => by obtain ⟨q0, q1, q2, qP, qK, qD⟩ := q; exact ⟨q0, q1, q2.call g mk a, qP, va_K.moved (u := U) (U := U.calling g mk a) (Vm.Alike.refl U.vm) qK, qD⟩, va_recv hK hP (ci := 1) (q0 := 1) rfl rfl, fun U hU hW => ⟨rfl, by rw [hU], hok.warm hW, by rw [hU]; exact hP.sub [1, 2, 3] rfl, va_K.moved hW.alike hK, (hD.sub [1, 2, 3] (by decide) rfl).weaken (fun _ _ _ _ => trivial)⟩⟩ rfl rfl hl.1 rfl (lv_room (Nat.le_of_ble_eq_true rfl)) d_SA_group_69 ⟨Nat.le_of_ble_eq_true rfl, Nat.le_of_ble_eq_true rfl⟩) hS hP hD hA [1, 2, 3] [0] [0, 1, 2, 3] rfl rfl (by decide) (by decide) rfl rfl (by decide) (fun H locs hP hD hS => ?_)
          refine W.eq (g2 := F0 m 72 ls [.int (nI G)]) rfl ?_
          rw [← nI_succ G] at hP hD
          subst hAe
          exact W.widen (k := 3) (n := 18) (by decide) (by decide) (zt_ofMQ (W.iret hx hb hr (fun t ht _ => ⟨Or.inl ⟨rfl, ⟨⟨(Or.inl h2), h13⟩, fun z => z.elim h25 (fun z => z.2 h50)⟩, by rw [ht]; exact hP, hD⟩, hS.F ht⟩) hS.2.2 d_SA_group_72))
        · refine zt_mono (fun t ht => zp_conv (ok0 := False) (fun z => z) hP0 hD9 ht) ?_
          refine W.widen (k := 2) (n := 12) (by decide) (by decide) ?_
          exact zk_throwL hx hb htr hown hok (by decide +kernel) (zx_use hok hs zx_ise_l) t_335 t_336 t_15 t_351 (by rw [hml]; exact hl.1) hlocks hemp d_SA_group_53 d_SA_group_56 d_SA_group_57 d_SA_group_59 d_SA_group_62 (Nat.le_of_ble_eq_true rfl) (Nat.le_of_ble_eq_true rfl) (Nat.le_of_ble_eq_true rfl) (Nat.le_of_ble_eq_true rfl) (Or.inr ⟨rfl, ⟨(Or.inl h2), h13⟩, Or.inr ⟨h40, h50⟩⟩)
    · refine zt_mono (fun t ht => zp_conv (ok0 := False) (fun z => z) hP0 hD9 ht) ?_
      refine W.widen (k := 2) (n := 12) (by decide) (by decide) ?_
      exact zk_throwL hx hb htr hown hok (by decide +kernel) (zx_use hok hs zx_ise_l) t_335 t_336 t_15 t_344 (by rw [hml]; exact hl.1) hlocks hemp d_SA_group_28 d_SA_group_31 d_SA_group_32 d_SA_group_34 d_SA_group_37 (Nat.le_of_ble_eq_true rfl) (Nat.le_of_ble_eq_true rfl) (Nat.le_of_ble_eq_true rfl) (Nat.le_of_ble_eq_true rfl) (Or.inr ⟨rfl, ⟨(Or.inl h2), h13⟩, Or.inl h25⟩)
  · refine lv_aload_n hx hb d_SA_group_5 rfl (lv_at hl 0 rfl) ?_
    refine lv_iload_n hx hb d_SA_group_6 rfl (lv_at hl 1 rfl) ?_
    refine zk_call (zt_runV (Ts := []) (As := [.int b]) (rest := []) ⟨hx, hb, hml, hown, fun _ h => absurd h List.not_mem_nil⟩ (m_SA_checkGroup l htr D cI cJ cZ cP cS x hc hp hs0 hm hn hr0 ap al ai ag af at0 (nI G) (nI C) oc b s.heap) ⟨zc_B 1 hok c_SA_checkGroup_w t_1 t_257 rfl rfl (by decide +kernel) ⟨Nat.le_of_ble_eq_true rfl, Nat.le_of_ble_eq_true rfl⟩, hok _ t_259 rfl _, hok _ s_0 rfl _⟩ ⟨fun a U g mk q => by obtain ⟨q0, q1, q2, q3, qP, qK⟩ := q; exact ⟨q0, q1, q2.call g mk a, q3.moved (Vm.Alike.refl _), qP, va_K.moved (u := U) (U := U.calling g mk a) (Vm.Alike.refl U.vm) qK⟩, va_recv hK hP (ci := 0) (q0 := 0) rfl rfl, fun U hU hW => ⟨rfl, hU, hok.warm hW, by rw [hU]; exact hs.moved hW.alike, by rw [hU]; exact hP.sub [0, 1] rfl, va_K.moved hW.alike hK⟩⟩ rfl rfl hl.1 rfl (lv_room (Nat.le_of_ble_eq_true rfl)) d_SA_group_7 ⟨Nat.le_of_ble_eq_true rfl, Nat.le_of_ble_eq_true rfl⟩) (Nat.le_refl _) (fun h7 => ?_) (fun ax X H1 hE hex k1 k2 => zt_Tmono (fun t ht => zp_conv (ok0 := False) (fun z => z) hP0 hD9 ht) (zt_widen (k := 3) (n := 18) (by decide) (by decide) (zk_on hlocks hemp rfl (Or.inl ⟨hE.1, fun z => hE.2 (z.1.resolve_left h2)⟩) hex k1 k2)))
    refine lv_iload_n hx hb d_SA_group_10 rfl (lv_at hl 2 rfl) ?_
    refine lv_bipush (v := 12) hx hb d_SA_group_11 (by decide) ?_
    refine zk_call (zt_runS (Ts := []) (As := [.int d, .int 12]) (rest := []) ⟨hx, hb, hml, hown, fun _ h => absurd h List.not_mem_nil⟩ (m_SA_checkNoneOrUpTo l htr d 12 s.heap) ⟨zc_B 2 hok c_SA_checkNoneOrUpTo_w t_1 t_332 rfl rfl (by decide +kernel) ⟨Nat.le_of_ble_eq_true rfl, Nat.le_of_ble_eq_true rfl⟩, hok _ t_333 rfl _⟩ ⟨fun a U g mk q => by obtain ⟨q0, q1, q2, q3⟩ := q; exact ⟨q0, q1, q2.call g mk a, q3.moved (Vm.Alike.refl _)⟩, fun U hU hW => ⟨rfl, hU, hok.warm hW, by rw [hU]; exact hs.moved hW.alike⟩⟩ rfl rfl hl.1 rfl (lv_room (Nat.le_of_ble_eq_true rfl)) d_SA_group_13 ⟨Nat.le_of_ble_eq_true rfl, Nat.le_of_ble_eq_true rfl⟩) (Nat.le_refl _) (fun h13 => ?_) (fun ax X H1 hE hex k1 k2 => zt_Tmono (fun t ht => zp_conv (ok0 := False) (fun z => z) hP0 hD9 ht) (zt_widen (k := 3) (n := 18) (by decide) (by decide) (zk_on hlocks hemp rfl (Or.inl ⟨hE.1, fun z => hE.2 z.2⟩) hex k1 k2)))
    refine lv_aload_n hx hb d_SA_group_16 rfl (lv_at hl 0 rfl) ?_
    refine va_get (D := D) (ci := 0) (v := .ref hc) (C := R_SA) (T := F_SA) (N := 6) hx hb (tb_in hok in_SA) (fun w h => h) hown hK hP 0 rfl rfl 0 (by decide) (hok _ t_229 rfl _) (fun _ h9 => h9) rfl d_SA_group_17 ?_
    refine va_get (D := D) (ci := 1) (v := .int (nI G)) (C := R_CA) (T := F_CA) (N := 9) hx hb (tb_in hok in_CA) (fun w h => h) hown hK hP 1 rfl rfl 0 (by decide) (hok _ t_34 rfl _) (fun _ h9 => h9) rfl d_SA_group_20 ?_
    refine lv_bipush (v := 6) hx hb d_SA_group_23 (by decide) ?_
    refine lv_icmp_ne (tgt := 38) hx hb d_SA_group_25 (by decide) (fun h25 => ?_) (fun h25 => ?_)
    · refine lv_iload_n hx hb d_SA_group_38 rfl (lv_at hl 1 rfl) ?_
      refine lv_iconst (v := (-1)) hx hb d_SA_group_39 (by decide) ?_
      refine lv_icmp_ne (tgt := 63) hx hb d_SA_group_40 (by decide) (fun h40 => ?_) (fun h40 => ?_)
      · refine lv_aload_n hx hb d_SA_group_63 rfl (lv_at hl 0 rfl) ?_
        refine va_get (D := D) (ci := 0) (v := .ref hc) (C := R_SA) (T := F_SA) (N := 6) hx hb (tb_in hok in_SA) (fun w h => h) hown hK hP 0 rfl rfl 0 (by decide) (hok _ t_229 rfl _) (fun _ h9 => h9) rfl d_SA_group_64 ?_
        refine lv_iload_n hx hb d_SA_group_67 rfl (lv_at hl 1 rfl) ?_
        refine lv_iload_n hx hb d_SA_group_68 rfl (lv_at hl 2 rfl) ?_
        refine zc_write (wc := [(hc, .inr (1, [.int (nI G), .ref ap, .ref al, .ref ai, .int (nI C), .ref ag, .ref af, .int oc, .ref at0])), (ap, .inl (cI, 6, .inl pa)), (al, .inl (cI, 6, .inl lm))]) (wc1 := [(hc, .inr (1, [.int (nI G + 1), .ref ap, .ref al, .ref ai, .int (nI C), .ref ag, .ref af, .int oc, .ref at0])), (ap, .inl (cI, 6, .inl (upd pa G b))), (al, .inl (cI, 6, .inl (upd lm G d)))]) (wr := [(x, .inr (0, [.ref hc, .ref hp, .ref hs0, .ref hm, .ref hn, .ref hr0]))]) (ws1 := [(x, .inr (0, [.ref hc, .ref hp, .ref hs0, .ref hm, .ref hn, .ref hr0])), (hc, .inr (1, [.int (nI G + 1), .ref ap, .ref al, .ref ai, .int (nI C), .ref ag, .ref af, .int oc, .ref at0])), (ap, .inl (cI, 6, .inl (upd pa G b))), (al, .inl (cI, 6, .inl (upd lm G d)))]) (va_runV (Ts := []) (As := [.int b, .int d]) (rest := []) ⟨hx, hb, hml, hown, fun _ h => absurd h List.not_mem_nil⟩ (m_CA_addGroup l D cI cJ cZ cP cS hc ap al ai ag af at0 G C oc b d pa lm (Nat.lt_of_le_of_ne hG (fun z => h25 (by rw [z]; rfl))) _) ⟨zc_B 2 hok c_CA_addGroup_w t_2 t_352 rfl rfl (by decide +kernel) ⟨Nat.le_of_ble_eq_true rfl, Nat.le_of_ble_eq_true rfl⟩, hok _ t_353 rfl _, hok _ t_354 rfl _⟩ ⟨fun a U g mk q => by obtain ⟨q0, q1, q2, qP, qK, qD⟩ := q; exact ⟨q0, q1, q2.call g mk a, qP, va_K.moved (u := U) (U := U.calling g mk a) (Vm.Alike.refl U.vm) qK, qD⟩, va_recv hK hP (ci := 1) (q0 := 1) rfl rfl, fun U hU hW => ⟨rfl, by rw [hU], hok.warm hW, by rw [hU]; exact hP.sub [1, 2, 3] rfl, va_K.moved hW.alike hK, (hD.sub [1, 2, 3] (by decide) rfl).weaken (fun _ _ _ _ => trivial)⟩⟩ rfl rfl hl.1 rfl (lv_room (Nat.le_of_ble_eq_true rfl)) d_SA_group_69 ⟨Nat.le_of_ble_eq_true rfl, Nat.le_of_ble_eq_true rfl⟩) hS hP hD hA [1, 2, 3] [0] [0, 1, 2, 3] rfl rfl (by decide) (by decide) rfl rfl (by decide) (fun H locs hP hD hS => ?_)
        refine W.eq (g2 := F0 m 72 ls [.int (nI G)]) rfl ?_
        rw [← nI_succ G] at hP hD
        subst hAe
        exact W.widen (k := 3) (n := 18) (by decide) (by decide) (zt_ofMQ (W.iret hx hb hr (fun t ht _ => ⟨Or.inl ⟨rfl, ⟨⟨(Or.inr h7), h13⟩, fun z => z.elim h25 (fun z => h40 z.1)⟩, by rw [ht]; exact hP, hD⟩, hS.F ht⟩) hS.2.2 d_SA_group_72))
      · refine lv_aload_n hx hb d_SA_group_43 rfl (lv_at hl 0 rfl) ?_
        refine va_get (D := D) (ci := 0) (v := .ref hc) (C := R_SA) (T := F_SA) (N := 6) hx hb (tb_in hok in_SA) (fun w h => h) hown hK hP 0 rfl rfl 0 (by decide) (hok _ t_229 rfl _) (fun _ h9 => h9) rfl d_SA_group_44 ?_
        refine va_get (D := D) (ci := 1) (v := .int (nI G)) (C := R_CA) (T := F_CA) (N := 9) hx hb (tb_in hok in_CA) (fun w h => h) hown hK hP 1 rfl rfl 0 (by decide) (hok _ t_34 rfl _) (fun _ h9 => h9) rfl d_SA_group_47 ?_
        refine lv_if_le (tgt := 63) hx hb d_SA_group_50 (by decide) (fun h50 => ?_) (fun h50 => ?_)
        · refine lv_aload_n hx hb d_SA_group_63 rfl (lv_at hl 0 rfl) ?_
          refine va_get (D := D) (ci := 0) (v := .ref hc) (C := R_SA) (T := F_SA) (N := 6) hx hb (tb_in hok in_SA) (fun w h => h) hown hK hP 0 rfl rfl 0 (by decide) (hok _ t_229 rfl _) (fun _ h9 => h9) rfl d_SA_group_64 ?_
          refine lv_iload_n hx hb d_SA_group_67 rfl (lv_at hl 1 rfl) ?_
          refine lv_iload_n hx hb d_SA_group_68 rfl (lv_at hl 2 rfl) ?_
          refine zc_write (wc := [(hc, .inr (1, [.int (nI G), .ref ap, .ref al, .ref ai, .int (nI C), .ref ag, .ref af, .int oc, .ref at0])), (ap, .inl (cI, 6, .inl pa)), (al, .inl (cI, 6, .inl lm))]) (wc1 := [(hc, .inr (1, [.int (nI G + 1), .ref ap, .ref al, .ref ai, .int (nI C), .ref ag, .ref af, .int oc, .ref at0])), (ap, .inl (cI, 6, .inl (upd pa G b))), (al, .inl (cI, 6, .inl (upd lm G d)))]) (wr := [(x, .inr (0, [.ref hc, .ref hp, .ref hs0, .ref hm, .ref hn, .ref hr0]))]) (ws1 := [(x, .inr (0, [.ref hc, .ref hp, .ref hs0, .ref hm, .ref hn, .ref hr0])), (hc, .inr (1, [.int (nI G + 1), .ref ap, .ref al, .ref ai, .int (nI C), .ref ag, .ref af, .int oc, .ref at0])), (ap, .inl (cI, 6, .inl (upd pa G b))), (al, .inl (cI, 6, .inl (upd lm G d)))]) (va_runV (Ts := []) (As := [.int b, .int d]) (rest := []) ⟨hx, hb, hml, hown, fun _ h => absurd h List.not_mem_nil⟩ (m_CA_addGroup l D cI cJ cZ cP cS hc ap al ai ag af at0 G C oc b d pa lm (Nat.lt_of_le_of_ne hG (fun z => h25 (by rw [z]; rfl))) _) ⟨zc_B 2 hok c_CA_addGroup_w t_2 t_352 rfl rfl (by decide +kernel) ⟨Nat.le_of_ble_eq_true rfl, Nat.le_of_ble_eq_true rfl⟩, hok _ t_353 rfl _, hok _ t_354 rfl _⟩ ⟨fun a U g mk q => by obtain ⟨q0, q1, q2, qP, qK, qD⟩ := q; exact ⟨q0, q1, q2.call g mk a, qP, va_K.moved (u := U) (U := U.calling g mk a) (Vm.Alike.refl U.vm) qK, qD⟩, va_recv hK hP (ci := 1) (q0 := 1) rfl rfl, fun U hU hW => ⟨rfl, by rw [hU], hok.warm hW, by rw [hU]; exact hP.sub [1, 2, 3] rfl, va_K.moved hW.alike hK, (hD.sub [1, 2, 3] (by decide) rfl).weaken (fun _ _ _ _ => trivial)⟩⟩ rfl rfl hl.1 rfl (lv_room (Nat.le_of_ble_eq_true rfl)) d_SA_group_69 ⟨Nat.le_of_ble_eq_true rfl, Nat.le_of_ble_eq_true rfl⟩) hS hP hD hA [1, 2, 3] [0] [0, 1, 2, 3] rfl rfl (by decide) (by decide) rfl rfl (by decide) (fun H locs hP hD hS => ?_)
          refine W.eq (g2 := F0 m 72 ls [.int (nI G)]) rfl ?_
          rw [← nI_succ G] at hP hD
          subst hAe
          exact W.widen (k := 3) (n := 18) (by decide) (by decide) (zt_ofMQ (W.iret hx hb hr (fun t ht _ => ⟨Or.inl ⟨rfl, ⟨⟨(Or.inr h7), h13⟩, fun z => z.elim h25 (fun z => z.2 h50)⟩, by rw [ht]; exact hP, hD⟩, hS.F ht⟩) hS.2.2 d_SA_group_72))
        · refine zt_mono (fun t ht => zp_conv (ok0 := False) (fun z => z) hP0 hD9 ht) ?_
          refine W.widen (k := 2) (n := 12) (by decide) (by decide) ?_
          exact zk_throwL hx hb htr hown hok (by decide +kernel) (zx_use hok hs zx_ise_l) t_335 t_336 t_15 t_351 (by rw [hml]; exact hl.1) hlocks hemp d_SA_group_53 d_SA_group_56 d_SA_group_57 d_SA_group_59 d_SA_group_62 (Nat.le_of_ble_eq_true rfl) (Nat.le_of_ble_eq_true rfl) (Nat.le_of_ble_eq_true rfl) (Nat.le_of_ble_eq_true rfl) (Or.inr ⟨rfl, ⟨(Or.inr h7), h13⟩, Or.inr ⟨h40, h50⟩⟩)
    · refine zt_mono (fun t ht => zp_conv (ok0 := False) (fun z => z) hP0 hD9 ht) ?_
      refine W.widen (k := 2) (n := 12) (by decide) (by decide) ?_
      exact zk_throwL hx hb htr hown hok (by decide +kernel) (zx_use hok hs zx_ise_l) t_335 t_336 t_15 t_344 (by rw [hml]; exact hl.1) hlocks hemp d_SA_group_28 d_SA_group_31 d_SA_group_32 d_SA_group_34 d_SA_group_37 (Nat.le_of_ble_eq_true rfl) (Nat.le_of_ble_eq_true rfl) (Nat.le_of_ble_eq_true rfl) (Nat.le_of_ble_eq_true rfl) (Or.inr ⟨rfl, ⟨(Or.inr h7), h13⟩, Or.inl h25⟩)
set_option maxHeartbeats 4000000 in
set_option maxRecDepth 100000 in
theorem m_SA_course (l : Launch) (htr : l.stackTraces = false) (D : va_G) (cI cJ cZ cP cS : ClassId) (x hc hp hs0 hm hn hr0 : Nat) (ap al ai ag af at0 G C : Nat) (oc : Int32) (b : Int32) (ci go lf : Nat → Int32) (hG : G ≤ 6) (hC : C ≤ 12) (sz : Nat) : zt_Met l y_SA_course [Cond.code y_SA_course b_SA_course 2 (some .int)] { frames := 8, cells := 2, slots := 12, locals := 125 } (va_Pc [.ref x, .int b] (fun U => U.heap.size = sz ∧ tb_ok U ∧ zs_ok U U.heap ∧ va_P D cls [(x, .inr (0, [.ref hc, .ref hp, .ref hs0, .ref hm, .ref hn, .ref hr0])), (hc, .inr (1, [.int (nI G), .ref ap, .ref al, .ref ai, .int (nI C), .ref ag, .ref af, .int oc, .ref at0])), (ai, .inl (cI, 6, .inl ci)), (ag, .inl (cI, 12, .inl go)), (af, .inl (cI, 12, .inl lf))] U.heap ∧ va_K D cls (tyl cI cJ cZ cP cS) U ∧ va_D (fun _ => True) [(x, .inr (0, [.ref hc, .ref hp, .ref hs0, .ref hm, .ref hn, .ref hr0])), (hc, .inr (1, [.int (nI G), .ref ap, .ref al, .ref ai, .int (nI C), .ref ag, .ref af, .int oc, .ref at0])), (ai, .inl (cI, 6, .inl ci)), (ag, .inl (cI, 12, .inl go)), (af, .inl (cI, 12, .inl lf))])) (zp_Q (some (.int (nI C))) (zi 0 b (nI G - 1) ∧ ¬ nI C = 12) (fun X => (X = zx_iae ∧ ¬ zi 0 b (nI G - 1)) ∨ (X = zx_ise ∧ zi 0 b (nI G - 1) ∧ nI C = 12)) D [(x, .inr (0, [.ref hc, .ref hp, .ref hs0, .ref hm, .ref hn, .ref hr0])), (hc, .inr (1, [.int (nI G), .ref ap, .ref al, .ref ai, .int (nI C), .ref ag, .ref af, .int oc, .ref at0])), (ai, .inl (cI, 6, .inl ci)), (ag, .inl (cI, 12, .inl go)), (af, .inl (cI, 12, .inl lf))] [(x, .inr (0, [.ref hc, .ref hp, .ref hs0, .ref hm, .ref hn, .ref hr0])), (hc, .inr (1, [.int (nI G), .ref ap, .ref al, .ref ai, .int (nI (C + 1)), .ref ag, .ref af, .int (oc ||| (1 <<< (nI C &&& 31))), .ref at0])), (ai, .inl (cI, 6, .inl (upd ci b.toNatClampNeg (ci b.toNatClampNeg ||| (1 <<< (nI C &&& 31)))))), (ag, .inl (cI, 12, .inl (upd go C b))), (af, .inl (cI, 12, .inl (upd lf C (-1))))] sz) 2 12 (va_A [(x, .inr (0, [.ref hc, .ref hp, .ref hs0, .ref hm, .ref hn, .ref hr0])), (hc, .inr (1, [.int (nI G), .ref ap, .ref al, .ref ai, .int (nI C), .ref ag, .ref af, .int oc, .ref at0])), (ai, .inl (cI, 6, .inl ci)), (ag, .inl (cI, 12, .inl go)), (af, .inl (cI, 12, .inl lf))] sz) := by
  refine zt_ofW (cc := b_SA_course) (maxL := 2) (ret := (some .int)) (by decide) rfl ?_
  intro p e s m args below meth c s₁ B hml hemp hv
  obtain ⟨rfl, hsz, hok, hs, hP, hK, hDt⟩ := hv
  have hx := B.exec
  have hb := B.bytes
  have hr := B.returns
  have hown : s.vm.findClass "StudyAudit" = some m.cls := findClass_of_methodNamed B.named
  have hlocks := B.notSynchronized
  subst hsz
  have hP0 := hP
  have hD9 := hDt.self (sz := s.heap.size)
  obtain ⟨A, hAe⟩ : ∃ A, A = va_A [(x, .inr (0, [.ref hc, .ref hp, .ref hs0, .ref hm, .ref hn, .ref hr0])), (hc, .inr (1, [.int (nI G), .ref ap, .ref al, .ref ai, .int (nI C), .ref ag, .ref af, .int oc, .ref at0])), (ai, .inl (cI, 6, .inl ci)), (ag, .inl (cI, 12, .inl go)), (af, .inl (cI, 12, .inl lf))] s.heap.size := ⟨_, rfl⟩
  have hD : va_D A [(x, .inr (0, [.ref hc, .ref hp, .ref hs0, .ref hm, .ref hn, .ref hr0])), (hc, .inr (1, [.int (nI G), .ref ap, .ref al, .ref ai, .int (nI C), .ref ag, .ref af, .int oc, .ref at0])), (ai, .inl (cI, 6, .inl ci)), (ag, .inl (cI, 12, .inl go)), (af, .inl (cI, 12, .inl lf))] := by rw [hAe]; exact hD9
  have hA : ∀ q : Nat, s.heap.size ≤ q → A q := fun q h => by rw [hAe]; exact Or.inr h
  have hS : va_S A s.heap s.heap [] := va_S.rf
  have hl := lv_entry ([.ref x, .int b]) (n := 2) (Nat.le_of_ble_eq_true rfl)
  rw [lg_entry_eq]
  generalize (lg_sl ([.ref x, .int b]) ++ List.replicate (2 - (lg_sl ([.ref x, .int b])).length) Slot.unset).toArray = ls at hl ⊢
  have hl : lv_has ls 2 [(0, .ref x), (1, .int b)] := hl
  refine lv_aload_n hx hb d_SA_course_0 rfl (lv_at hl 0 rfl) ?_
  refine lv_iload_n hx hb d_SA_course_1 rfl (lv_at hl 1 rfl) ?_
  refine zk_call (zt_runV (Ts := []) (As := [.int b]) (rest := []) ⟨hx, hb, hml, hown, fun _ h => absurd h List.not_mem_nil⟩ (m_SA_checkGroup l htr D cI cJ cZ cP cS x hc hp hs0 hm hn hr0 ap al ai ag af at0 (nI G) (nI C) oc b s.heap) ⟨zc_B 1 hok c_SA_checkGroup_w t_1 t_257 rfl rfl (by decide +kernel) ⟨Nat.le_of_ble_eq_true rfl, Nat.le_of_ble_eq_true rfl⟩, hok _ t_259 rfl _, hok _ s_0 rfl _⟩ ⟨fun a U g mk q => by obtain ⟨q0, q1, q2, q3, qP, qK⟩ := q; exact ⟨q0, q1, q2.call g mk a, q3.moved (Vm.Alike.refl _), qP, va_K.moved (u := U) (U := U.calling g mk a) (Vm.Alike.refl U.vm) qK⟩, va_recv hK hP (ci := 0) (q0 := 0) rfl rfl, fun U hU hW => ⟨rfl, hU, hok.warm hW, by rw [hU]; exact hs.moved hW.alike, by rw [hU]; exact hP.sub [0, 1] rfl, va_K.moved hW.alike hK⟩⟩ rfl rfl hl.1 rfl (lv_room (Nat.le_of_ble_eq_true rfl)) d_SA_course_2 ⟨Nat.le_of_ble_eq_true rfl, Nat.le_of_ble_eq_true rfl⟩) (Nat.le_refl _) (fun h2 => ?_) (fun ax X H1 hE hex k1 k2 => zt_Tmono (fun t ht => zp_conv (ok0 := False) (fun z => z) hP0 hD9 ht) (zt_widen (k := 2) (n := 12) (by decide) (by decide) (zk_on hlocks hemp rfl (Or.inl hE) hex k1 k2)))
  have hb9 := zi_pre (by omega) h2
  refine lv_aload_n hx hb d_SA_course_5 rfl (lv_at hl 0 rfl) ?_
  refine va_get (D := D) (ci := 0) (v := .ref hc) (C := R_SA) (T := F_SA) (N := 6) hx hb (tb_in hok in_SA) (fun w h => h) hown hK hP 0 rfl rfl 0 (by decide) (hok _ t_229 rfl _) (fun _ h9 => h9) rfl d_SA_course_6 ?_
  refine va_get (D := D) (ci := 1) (v := .int (nI C)) (C := R_CA) (T := F_CA) (N := 9) hx hb (tb_in hok in_CA) (fun w h => h) hown hK hP 1 rfl rfl 4 (by decide) (hok _ t_41 rfl _) (fun _ h9 => h9) rfl d_SA_course_9 ?_
  refine lv_bipush (v := 12) hx hb d_SA_course_12 (by decide) ?_
  refine lv_icmp_ne (tgt := 27) hx hb d_SA_course_14 (by decide) (fun h14 => ?_) (fun h14 => ?_)
  · refine lv_aload_n hx hb d_SA_course_27 rfl (lv_at hl 0 rfl) ?_
    refine va_get (D := D) (ci := 0) (v := .ref hc) (C := R_SA) (T := F_SA) (N := 6) hx hb (tb_in hok in_SA) (fun w h => h) hown hK hP 0 rfl rfl 0 (by decide) (hok _ t_229 rfl _) (fun _ h9 => h9) rfl d_SA_course_28 ?_
    refine lv_iload_n hx hb d_SA_course_31 rfl (lv_at hl 1 rfl) ?_
    refine W.eq (g2 := F0 m 32 ls [.int (nI (b.toNatClampNeg)), .ref hc]) (by rw [← hb9.2.1]) ?_
    refine zc_write (wc := [(hc, .inr (1, [.int (nI G), .ref ap, .ref al, .ref ai, .int (nI C), .ref ag, .ref af, .int oc, .ref at0])), (ai, .inl (cI, 6, .inl ci)), (ag, .inl (cI, 12, .inl go)), (af, .inl (cI, 12, .inl lf))]) (wc1 := [(hc, .inr (1, [.int (nI G), .ref ap, .ref al, .ref ai, .int (nI C + 1), .ref ag, .ref af, .int (oc ||| (1 <<< (nI C &&& 31))), .ref at0])), (ai, .inl (cI, 6, .inl (upd ci b.toNatClampNeg (ci b.toNatClampNeg ||| (1 <<< (nI C &&& 31)))))), (ag, .inl (cI, 12, .inl (upd go C (nI b.toNatClampNeg)))), (af, .inl (cI, 12, .inl (upd lf C (-1))))]) (wr := [(x, .inr (0, [.ref hc, .ref hp, .ref hs0, .ref hm, .ref hn, .ref hr0]))]) (ws1 := [(x, .inr (0, [.ref hc, .ref hp, .ref hs0, .ref hm, .ref hn, .ref hr0])), (hc, .inr (1, [.int (nI G), .ref ap, .ref al, .ref ai, .int (nI C + 1), .ref ag, .ref af, .int (oc ||| (1 <<< (nI C &&& 31))), .ref at0])), (ai, .inl (cI, 6, .inl (upd ci b.toNatClampNeg (ci b.toNatClampNeg ||| (1 <<< (nI C &&& 31)))))), (ag, .inl (cI, 12, .inl (upd go C (nI b.toNatClampNeg)))), (af, .inl (cI, 12, .inl (upd lf C (-1))))]) (va_runV (Ts := []) (As := [.int (nI (b.toNatClampNeg))]) (rest := []) ⟨hx, hb, hml, hown, fun _ h => absurd h List.not_mem_nil⟩ (m_CA_addCourse l D cI cJ cZ cP cS hc ap al ai ag af at0 G C oc b.toNatClampNeg ci go lf (Nat.lt_of_le_of_ne hC (fun z => h14 (by rw [z]; rfl))) (by omega) _) ⟨zc_B 1 hok c_CA_addCourse_w t_2 t_364 rfl rfl (by decide +kernel) ⟨Nat.le_of_ble_eq_true rfl, Nat.le_of_ble_eq_true rfl⟩, hok _ t_365 rfl _, hok _ t_366 rfl _⟩ ⟨fun a U g mk q => by obtain ⟨q0, q1, q2, qP, qK, qD⟩ := q; exact ⟨q0, q1, q2.call g mk a, qP, va_K.moved (u := U) (U := U.calling g mk a) (Vm.Alike.refl U.vm) qK, qD⟩, va_recv hK hP (ci := 1) (q0 := 1) rfl rfl, fun U hU hW => ⟨rfl, by rw [hU], hok.warm hW, by rw [hU]; exact hP.sub [1, 2, 3, 4] rfl, va_K.moved hW.alike hK, (hD.sub [1, 2, 3, 4] (by decide) rfl).weaken (fun _ _ _ _ => trivial)⟩⟩ rfl rfl hl.1 rfl (lv_room (Nat.le_of_ble_eq_true rfl)) d_SA_course_32 ⟨Nat.le_of_ble_eq_true rfl, Nat.le_of_ble_eq_true rfl⟩) hS hP hD hA [1, 2, 3, 4] [0] [0, 1, 2, 3, 4] rfl rfl (by decide) (by decide) rfl rfl (by decide) (fun H locs hP hD hS => ?_)
    refine W.eq (g2 := F0 m 35 ls [.int (nI C)]) rfl ?_
    rw [← nI_succ C, ← hb9.2.1] at hP hD
    subst hAe
    exact W.widen (k := 2) (n := 12) (by decide) (by decide) (zt_ofMQ (W.iret hx hb hr (fun t ht _ => ⟨Or.inl ⟨rfl, ⟨h2, h14⟩, by rw [ht]; exact hP, hD⟩, hS.F ht⟩) hS.2.2 d_SA_course_35))
  · refine zt_mono (fun t ht => zp_conv (ok0 := False) (fun z => z) hP0 hD9 ht) ?_
    refine W.widen (k := 1) (n := 6) (by decide) (by decide) ?_
    exact zk_throwL hx hb htr hown hok (by decide +kernel) (zx_use hok hs zx_ise_l) t_335 t_336 t_15 t_363 (by rw [hml]; exact hl.1) hlocks hemp d_SA_course_17 d_SA_course_20 d_SA_course_21 d_SA_course_23 d_SA_course_26 (Nat.le_of_ble_eq_true rfl) (Nat.le_of_ble_eq_true rfl) (Nat.le_of_ble_eq_true rfl) (Nat.le_of_ble_eq_true rfl) (Or.inr ⟨rfl, h2, h14⟩)
def zop (oc : Int32) (b : Int32) (i : Bool) : Int32 := if i = true then oc ||| (1 <<< (b &&& 31)) else oc &&& ((1 <<< (b &&& 31)) ^^^ (-1))
set_option maxHeartbeats 4000000 in
set_option maxRecDepth 100000 in
theorem m_SA_open (l : Launch) (htr : l.stackTraces = false) (D : va_G) (cI cJ cZ cP cS : ClassId) (x hc hp hs0 hm hn hr0 : Nat) (ap al ai ag af at0 G C : Nat) (oc : Int32) (b : Int32) (i : Bool) (sz : Nat) : zt_Met l y_SA_open [Cond.code y_SA_open b_SA_open 4 (some .boolean)] { frames := 8, cells := 1, slots := 6, locals := 125 } (va_Pc [.ref x, .int b, .int (zb i)] (fun U => U.heap.size = sz ∧ tb_ok U ∧ zs_ok U U.heap ∧ va_P D cls [(x, .inr (0, [.ref hc, .ref hp, .ref hs0, .ref hm, .ref hn, .ref hr0])), (hc, .inr (1, [.int (nI G), .ref ap, .ref al, .ref ai, .int (nI C), .ref ag, .ref af, .int oc, .ref at0]))] U.heap ∧ va_K D cls (tyl cI cJ cZ cP cS) U ∧ va_D (fun _ => True) [(x, .inr (0, [.ref hc, .ref hp, .ref hs0, .ref hm, .ref hn, .ref hr0])), (hc, .inr (1, [.int (nI G), .ref ap, .ref al, .ref ai, .int (nI C), .ref ag, .ref af, .int oc, .ref at0]))])) (zp_Q (some (.int (zb (zh oc b)))) (zi 0 b (nI C - 1)) (fun X => X = zx_iae ∧ ¬ zi 0 b (nI C - 1)) D [(x, .inr (0, [.ref hc, .ref hp, .ref hs0, .ref hm, .ref hn, .ref hr0])), (hc, .inr (1, [.int (nI G), .ref ap, .ref al, .ref ai, .int (nI C), .ref ag, .ref af, .int oc, .ref at0]))] [(x, .inr (0, [.ref hc, .ref hp, .ref hs0, .ref hm, .ref hn, .ref hr0])), (hc, .inr (1, [.int (nI G), .ref ap, .ref al, .ref ai, .int (nI C), .ref ag, .ref af, .int (zop oc b i), .ref at0]))] sz) 1 6 (va_A [(x, .inr (0, [.ref hc, .ref hp, .ref hs0, .ref hm, .ref hn, .ref hr0])), (hc, .inr (1, [.int (nI G), .ref ap, .ref al, .ref ai, .int (nI C), .ref ag, .ref af, .int oc, .ref at0]))] sz) := by
  refine zt_ofW (cc := b_SA_open) (maxL := 4) (ret := (some .boolean)) (by decide) rfl ?_
  intro p e s m args below meth c s₁ B hml hemp hv
  obtain ⟨rfl, hsz, hok, hs, hP, hK, hDt⟩ := hv
  have hx := B.exec
  have hb := B.bytes
  have hr := B.returns
  have hown : s.vm.findClass "StudyAudit" = some m.cls := findClass_of_methodNamed B.named
  have hlocks := B.notSynchronized
  subst hsz
  have hP0 := hP
  have hD9 := hDt.self (sz := s.heap.size)
  obtain ⟨A, hAe⟩ : ∃ A, A = va_A [(x, .inr (0, [.ref hc, .ref hp, .ref hs0, .ref hm, .ref hn, .ref hr0])), (hc, .inr (1, [.int (nI G), .ref ap, .ref al, .ref ai, .int (nI C), .ref ag, .ref af, .int oc, .ref at0]))] s.heap.size := ⟨_, rfl⟩
  have hD : va_D A [(x, .inr (0, [.ref hc, .ref hp, .ref hs0, .ref hm, .ref hn, .ref hr0])), (hc, .inr (1, [.int (nI G), .ref ap, .ref al, .ref ai, .int (nI C), .ref ag, .ref af, .int oc, .ref at0]))] := by rw [hAe]; exact hD9
  have hA : ∀ q : Nat, s.heap.size ≤ q → A q := fun q h => by rw [hAe]; exact Or.inr h
  have hS : va_S A s.heap s.heap [] := va_S.rf
  have hl := lv_entry ([.ref x, .int b, .int (zb i)]) (n := 4) (Nat.le_of_ble_eq_true rfl)
  rw [lg_entry_eq]
  generalize (lg_sl ([.ref x, .int b, .int (zb i)]) ++ List.replicate (4 - (lg_sl ([.ref x, .int b, .int (zb i)])).length) Slot.unset).toArray = ls at hl ⊢
  have hl : lv_has ls 4 [(0, .ref x), (1, .int b), (2, .int (zb i))] := hl
  refine lv_aload_n hx hb d_SA_open_0 rfl (lv_at hl 0 rfl) ?_
  refine lv_iload_n hx hb d_SA_open_1 rfl (lv_at hl 1 rfl) ?_
  refine zk_call (zt_runV (Ts := []) (As := [.int b]) (rest := []) ⟨hx, hb, hml, hown, fun _ h => absurd h List.not_mem_nil⟩ (m_SA_checkCourse l htr D cI cJ cZ cP cS x hc hp hs0 hm hn hr0 ap al ai ag af at0 (nI G) (nI C) oc b s.heap) ⟨zc_B 1 hok c_SA_checkCourse_w t_1 t_378 rfl rfl (by decide +kernel) ⟨Nat.le_of_ble_eq_true rfl, Nat.le_of_ble_eq_true rfl⟩, hok _ t_380 rfl _, hok _ s_2 rfl _⟩ ⟨fun a U g mk q => by obtain ⟨q0, q1, q2, q3, qP, qK⟩ := q; exact ⟨q0, q1, q2.call g mk a, q3.moved (Vm.Alike.refl _), qP, va_K.moved (u := U) (U := U.calling g mk a) (Vm.Alike.refl U.vm) qK⟩, va_recv hK hP (ci := 0) (q0 := 0) rfl rfl, fun U hU hW => ⟨rfl, hU, hok.warm hW, by rw [hU]; exact hs.moved hW.alike, by rw [hU]; exact hP.sub [0, 1] rfl, va_K.moved hW.alike hK⟩⟩ rfl rfl hl.1 rfl (lv_room (Nat.le_of_ble_eq_true rfl)) d_SA_open_2 ⟨Nat.le_of_ble_eq_true rfl, Nat.le_of_ble_eq_true rfl⟩) (Nat.le_refl _) (fun h2 => ?_) (fun ax X H1 hE hex k1 k2 => zt_Tmono (fun t ht => zp_conv (ok0 := False) (fun z => z) hP0 hD9 ht) (zt_widen (k := 1) (n := 6) (by decide) (by decide) (zk_on hlocks hemp rfl (hE) hex k1 k2)))
  refine lv_aload_n hx hb d_SA_open_5 rfl (lv_at hl 0 rfl) ?_
  refine va_get (D := D) (ci := 0) (v := .ref hc) (C := R_SA) (T := F_SA) (N := 6) hx hb (tb_in hok in_SA) (fun w h => h) hown hK hP 0 rfl rfl 0 (by decide) (hok _ t_229 rfl _) (fun _ h9 => h9) rfl d_SA_open_6 ?_
  refine va_get (D := D) (ci := 1) (v := .int oc) (C := R_CA) (T := F_CA) (N := 9) hx hb (tb_in hok in_CA) (fun w h => h) hown hK hP 1 rfl rfl 7 (by decide) (hok _ t_50 rfl _) (fun _ h9 => h9) rfl d_SA_open_9 ?_
  refine lv_istore_n hx hb d_SA_open_12 rfl hl (by decide) rfl (fun ls hl => ?_)
  have hl : lv_has ls 4 [(3, .int oc), (0, .ref x), (1, .int b), (2, .int (zb i))] := hl
  refine lv_aload_n hx hb d_SA_open_13 rfl (lv_at hl 1 rfl) ?_
  refine va_get (D := D) (ci := 0) (v := .ref hc) (C := R_SA) (T := F_SA) (N := 6) hx hb (tb_in hok in_SA) (fun w h => h) hown hK hP 0 rfl rfl 0 (by decide) (hok _ t_229 rfl _) (fun _ h9 => h9) rfl d_SA_open_14 ?_
  refine lv_iload_n hx hb d_SA_open_17 rfl (lv_at hl 3 rfl) ?_
  refine lv_if_eq (tgt := 29) hx hb d_SA_open_18 (by decide) (fun h18 => ?_) (fun h18 => ?_)
  · refine lv_iload_n hx hb d_SA_open_29 rfl (lv_at hl 0 rfl) ?_
    refine lv_iload_n hx hb d_SA_open_30 rfl (lv_at hl 2 rfl) ?_
    refine zc_read (va_runS (Ts := []) (As := [.int oc, .int b]) (rest := [.ref hc]) ⟨hx, hb, hml, hown, fun _ h => absurd h List.not_mem_nil⟩ (m_SA_without l oc b) ⟨zc_B 2 hok c_SA_without_w t_1 t_383 rfl rfl (by decide +kernel) ⟨Nat.le_of_ble_eq_true rfl, Nat.le_of_ble_eq_true rfl⟩, hok _ t_384 rfl _⟩ ⟨fun a U g mk q => by obtain ⟨q0, q1⟩ := q; exact ⟨q0, q1⟩, fun U hU hW => ⟨rfl, trivial⟩⟩ rfl rfl hl.1 rfl (lv_room (Nat.le_of_ble_eq_true rfl)) d_SA_open_31 ⟨Nat.le_of_ble_eq_true rfl, Nat.le_of_ble_eq_true rfl⟩) ?_
    refine W.eq (g2 := F0 m 34 ls [.int (oc &&& ((1 <<< (b &&& 31)) ^^^ (-1))), .ref hc]) rfl ?_
    refine va_put (D := D) (ci := 1) (v := .int (oc &&& ((1 <<< (b &&& 31)) ^^^ (-1)))) (ty := .int) (C := R_CA) (T := F_CA) (N := 9) hx hb (tb_in hok in_CA) (fun w h => h) g_CA g_CA_ok n_CA hown hK hP hD hS 1 rfl rfl 7 (by decide) (hok _ t_50 rfl _) (fun _ h9 => h9) rfl (by decide +kernel) rfl rfl (Nat.le_of_ble_eq_true rfl) d_SA_open_34 (fun H locs hP hD hS => ?_)
    have hP : va_P D cls [(x, .inr (0, [.ref hc, .ref hp, .ref hs0, .ref hm, .ref hn, .ref hr0])), (hc, .inr (1, [.int (nI G), .ref ap, .ref al, .ref ai, .int (nI C), .ref ag, .ref af, .int (oc &&& ((1 <<< (b &&& 31)) ^^^ (-1))), .ref at0]))] H := hP
    have hD : va_D A [(x, .inr (0, [.ref hc, .ref hp, .ref hs0, .ref hm, .ref hn, .ref hr0])), (hc, .inr (1, [.int (nI G), .ref ap, .ref al, .ref ai, .int (nI C), .ref ag, .ref af, .int (oc &&& ((1 <<< (b &&& 31)) ^^^ (-1))), .ref at0]))] := hD
    refine lv_iload_n hx hb d_SA_open_37 rfl (lv_at hl 0 rfl) ?_
    refine lv_iload_n hx hb d_SA_open_38 rfl (lv_at hl 2 rfl) ?_
    refine zc_read (va_runS (Ts := []) (As := [.int oc, .int b]) (rest := []) ⟨hx, hb, hml, hown, fun _ h => absurd h List.not_mem_nil⟩ (m_SA_has l oc b) ⟨zc_B 2 hok c_SA_has_w t_1 t_386 rfl rfl (by decide +kernel) ⟨Nat.le_of_ble_eq_true rfl, Nat.le_of_ble_eq_true rfl⟩, hok _ t_387 rfl _⟩ ⟨fun a U g mk q => by obtain ⟨q0, q1⟩ := q; exact ⟨q0, q1⟩, fun U hU hW => ⟨rfl, trivial⟩⟩ rfl rfl hl.1 rfl (lv_room (Nat.le_of_ble_eq_true rfl)) d_SA_open_39 ⟨Nat.le_of_ble_eq_true rfl, Nat.le_of_ble_eq_true rfl⟩) ?_
    refine W.eq (g2 := F0 m 42 ls [.int (zb (zh oc b))]) rfl ?_
    rw [show (oc &&& ((1 <<< (b &&& 31)) ^^^ (-1))) = zop oc b i from (if_neg (fun z => by rw [z] at h18; exact absurd h18 (by decide))).symm] at hP hD
    subst hAe
    exact W.widen (k := 1) (n := 6) (by decide) (by decide) (zt_ofMQ (W.zret hx hb hr (z_zb _) (fun t ht _ => ⟨Or.inl ⟨rfl, h2, by rw [ht]; exact hP, hD⟩, hS.F ht⟩) hS.2.2 d_SA_open_42))
  · refine lv_iload_n hx hb d_SA_open_21 rfl (lv_at hl 0 rfl) ?_
    refine lv_iload_n hx hb d_SA_open_22 rfl (lv_at hl 2 rfl) ?_
    refine zc_read (va_runS (Ts := []) (As := [.int oc, .int b]) (rest := [.ref hc]) ⟨hx, hb, hml, hown, fun _ h => absurd h List.not_mem_nil⟩ (m_SA_with l oc b) ⟨zc_B 2 hok c_SA_with_w t_1 t_382 rfl rfl (by decide +kernel) ⟨Nat.le_of_ble_eq_true rfl, Nat.le_of_ble_eq_true rfl⟩, hok _ t_369 rfl _⟩ ⟨fun a U g mk q => by obtain ⟨q0, q1⟩ := q; exact ⟨q0, q1⟩, fun U hU hW => ⟨rfl, trivial⟩⟩ rfl rfl hl.1 rfl (lv_room (Nat.le_of_ble_eq_true rfl)) d_SA_open_23 ⟨Nat.le_of_ble_eq_true rfl, Nat.le_of_ble_eq_true rfl⟩) ?_
    refine W.eq (g2 := F0 m 26 ls [.int (oc ||| (1 <<< (b &&& 31))), .ref hc]) rfl ?_
    refine lv_goto (tgt := 34) hx hb d_SA_open_26 (by decide) ?_
    refine va_put (D := D) (ci := 1) (v := .int (oc ||| (1 <<< (b &&& 31)))) (ty := .int) (C := R_CA) (T := F_CA) (N := 9) hx hb (tb_in hok in_CA) (fun w h => h) g_CA g_CA_ok n_CA hown hK hP hD hS 1 rfl rfl 7 (by decide) (hok _ t_50 rfl _) (fun _ h9 => h9) rfl (by decide +kernel) rfl rfl (Nat.le_of_ble_eq_true rfl) d_SA_open_34 (fun H locs hP hD hS => ?_)
    have hP : va_P D cls [(x, .inr (0, [.ref hc, .ref hp, .ref hs0, .ref hm, .ref hn, .ref hr0])), (hc, .inr (1, [.int (nI G), .ref ap, .ref al, .ref ai, .int (nI C), .ref ag, .ref af, .int (oc ||| (1 <<< (b &&& 31))), .ref at0]))] H := hP
    have hD : va_D A [(x, .inr (0, [.ref hc, .ref hp, .ref hs0, .ref hm, .ref hn, .ref hr0])), (hc, .inr (1, [.int (nI G), .ref ap, .ref al, .ref ai, .int (nI C), .ref ag, .ref af, .int (oc ||| (1 <<< (b &&& 31))), .ref at0]))] := hD
    refine lv_iload_n hx hb d_SA_open_37 rfl (lv_at hl 0 rfl) ?_
    refine lv_iload_n hx hb d_SA_open_38 rfl (lv_at hl 2 rfl) ?_
    refine zc_read (va_runS (Ts := []) (As := [.int oc, .int b]) (rest := []) ⟨hx, hb, hml, hown, fun _ h => absurd h List.not_mem_nil⟩ (m_SA_has l oc b) ⟨zc_B 2 hok c_SA_has_w t_1 t_386 rfl rfl (by decide +kernel) ⟨Nat.le_of_ble_eq_true rfl, Nat.le_of_ble_eq_true rfl⟩, hok _ t_387 rfl _⟩ ⟨fun a U g mk q => by obtain ⟨q0, q1⟩ := q; exact ⟨q0, q1⟩, fun U hU hW => ⟨rfl, trivial⟩⟩ rfl rfl hl.1 rfl (lv_room (Nat.le_of_ble_eq_true rfl)) d_SA_open_39 ⟨Nat.le_of_ble_eq_true rfl, Nat.le_of_ble_eq_true rfl⟩) ?_
    refine W.eq (g2 := F0 m 42 ls [.int (zb (zh oc b))]) rfl ?_
    rw [show (oc ||| (1 <<< (b &&& 31))) = zop oc b i from (if_pos (by cases i with | true => rfl | false => exact absurd rfl h18)).symm] at hP hD
    subst hAe
    exact W.widen (k := 1) (n := 6) (by decide) (by decide) (zt_ofMQ (W.zret hx hb hr (z_zb _) (fun t ht _ => ⟨Or.inl ⟨rfl, h2, by rw [ht]; exact hP, hD⟩, hS.F ht⟩) hS.2.2 d_SA_open_42))
set_option maxHeartbeats 4000000 in
set_option maxRecDepth 100000 in
theorem m_SA_expire (l : Launch) (htr : l.stackTraces = false) (D : va_G) (cI cJ cZ cP cS : ClassId) (x hc hp hs0 hm hn hr0 : Nat) (ap al ai ag af at0 G C : Nat) (oc : Int32) (b d : Int32) (lf : Nat → Int32) (hC : C ≤ 12) (sz : Nat) : zt_Met l y_SA_expire [Cond.code y_SA_expire b_SA_expire 4 (some .int)] { frames := 8, cells := 2, slots := 12, locals := 125 } (va_Pc [.ref x, .int b, .int d] (fun U => U.heap.size = sz ∧ tb_ok U ∧ zs_ok U U.heap ∧ va_P D cls [(x, .inr (0, [.ref hc, .ref hp, .ref hs0, .ref hm, .ref hn, .ref hr0])), (hc, .inr (1, [.int (nI G), .ref ap, .ref al, .ref ai, .int (nI C), .ref ag, .ref af, .int oc, .ref at0])), (af, .inl (cI, 12, .inl lf))] U.heap ∧ va_K D cls (tyl cI cJ cZ cP cS) U ∧ va_D (fun _ => True) [(x, .inr (0, [.ref hc, .ref hp, .ref hs0, .ref hm, .ref hn, .ref hr0])), (hc, .inr (1, [.int (nI G), .ref ap, .ref al, .ref ai, .int (nI C), .ref ag, .ref af, .int oc, .ref at0])), (af, .inl (cI, 12, .inl lf))])) (zp_Q (some (.int (lf b.toNatClampNeg))) (zi 0 b (nI C - 1) ∧ (d = -1 ∨ zi 0 d 40)) (fun X => X = zx_iae ∧ ¬ (zi 0 b (nI C - 1) ∧ (d = -1 ∨ zi 0 d 40))) D [(x, .inr (0, [.ref hc, .ref hp, .ref hs0, .ref hm, .ref hn, .ref hr0])), (hc, .inr (1, [.int (nI G), .ref ap, .ref al, .ref ai, .int (nI C), .ref ag, .ref af, .int oc, .ref at0])), (af, .inl (cI, 12, .inl lf))] [(x, .inr (0, [.ref hc, .ref hp, .ref hs0, .ref hm, .ref hn, .ref hr0])), (hc, .inr (1, [.int (nI G), .ref ap, .ref al, .ref ai, .int (nI C), .ref ag, .ref af, .int oc, .ref at0])), (af, .inl (cI, 12, .inl (upd lf b.toNatClampNeg d)))] sz) 2 12 (va_A [(x, .inr (0, [.ref hc, .ref hp, .ref hs0, .ref hm, .ref hn, .ref hr0])), (hc, .inr (1, [.int (nI G), .ref ap, .ref al, .ref ai, .int (nI C), .ref ag, .ref af, .int oc, .ref at0])), (af, .inl (cI, 12, .inl lf))] sz) := by
  refine zt_ofW (cc := b_SA_expire) (maxL := 4) (ret := (some .int)) (by decide) rfl ?_
  intro p e s m args below meth c s₁ B hml hemp hv
  obtain ⟨rfl, hsz, hok, hs, hP, hK, hDt⟩ := hv
  have hx := B.exec
  have hb := B.bytes
  have hr := B.returns
  have hown : s.vm.findClass "StudyAudit" = some m.cls := findClass_of_methodNamed B.named
  have hlocks := B.notSynchronized
  subst hsz
  have hP0 := hP
  have hD9 := hDt.self (sz := s.heap.size)
  obtain ⟨A, hAe⟩ : ∃ A, A = va_A [(x, .inr (0, [.ref hc, .ref hp, .ref hs0, .ref hm, .ref hn, .ref hr0])), (hc, .inr (1, [.int (nI G), .ref ap, .ref al, .ref ai, .int (nI C), .ref ag, .ref af, .int oc, .ref at0])), (af, .inl (cI, 12, .inl lf))] s.heap.size := ⟨_, rfl⟩
  have hD : va_D A [(x, .inr (0, [.ref hc, .ref hp, .ref hs0, .ref hm, .ref hn, .ref hr0])), (hc, .inr (1, [.int (nI G), .ref ap, .ref al, .ref ai, .int (nI C), .ref ag, .ref af, .int oc, .ref at0])), (af, .inl (cI, 12, .inl lf))] := by rw [hAe]; exact hD9
  have hA : ∀ q : Nat, s.heap.size ≤ q → A q := fun q h => by rw [hAe]; exact Or.inr h
  have hS : va_S A s.heap s.heap [] := va_S.rf
  have hl := lv_entry ([.ref x, .int b, .int d]) (n := 4) (Nat.le_of_ble_eq_true rfl)
  rw [lg_entry_eq]
  generalize (lg_sl ([.ref x, .int b, .int d]) ++ List.replicate (4 - (lg_sl ([.ref x, .int b, .int d])).length) Slot.unset).toArray = ls at hl ⊢
  have hl : lv_has ls 4 [(0, .ref x), (1, .int b), (2, .int d)] := hl
  refine lv_aload_n hx hb d_SA_expire_0 rfl (lv_at hl 0 rfl) ?_
  refine lv_iload_n hx hb d_SA_expire_1 rfl (lv_at hl 1 rfl) ?_
  refine zk_call (zt_runV (Ts := []) (As := [.int b]) (rest := []) ⟨hx, hb, hml, hown, fun _ h => absurd h List.not_mem_nil⟩ (m_SA_checkCourse l htr D cI cJ cZ cP cS x hc hp hs0 hm hn hr0 ap al ai ag af at0 (nI G) (nI C) oc b s.heap) ⟨zc_B 1 hok c_SA_checkCourse_w t_1 t_378 rfl rfl (by decide +kernel) ⟨Nat.le_of_ble_eq_true rfl, Nat.le_of_ble_eq_true rfl⟩, hok _ t_380 rfl _, hok _ s_2 rfl _⟩ ⟨fun a U g mk q => by obtain ⟨q0, q1, q2, q3, qP, qK⟩ := q; exact ⟨q0, q1, q2.call g mk a, q3.moved (Vm.Alike.refl _), qP, va_K.moved (u := U) (U := U.calling g mk a) (Vm.Alike.refl U.vm) qK⟩, va_recv hK hP (ci := 0) (q0 := 0) rfl rfl, fun U hU hW => ⟨rfl, hU, hok.warm hW, by rw [hU]; exact hs.moved hW.alike, by rw [hU]; exact hP.sub [0, 1] rfl, va_K.moved hW.alike hK⟩⟩ rfl rfl hl.1 rfl (lv_room (Nat.le_of_ble_eq_true rfl)) d_SA_expire_2 ⟨Nat.le_of_ble_eq_true rfl, Nat.le_of_ble_eq_true rfl⟩) (Nat.le_refl _) (fun h2 => ?_) (fun ax X H1 hE hex k1 k2 => zt_Tmono (fun t ht => zp_conv (ok0 := False) (fun z => z) hP0 hD9 ht) (zt_widen (k := 2) (n := 12) (by decide) (by decide) (zk_on hlocks hemp rfl (⟨hE.1, fun z => hE.2 z.1⟩) hex k1 k2)))
  refine lv_iload_n hx hb d_SA_expire_5 rfl (lv_at hl 2 rfl) ?_
  refine lv_bipush (v := 40) hx hb d_SA_expire_6 (by decide) ?_
  refine zk_call (zt_runS (Ts := []) (As := [.int d, .int 40]) (rest := []) ⟨hx, hb, hml, hown, fun _ h => absurd h List.not_mem_nil⟩ (m_SA_checkNoneOrUpTo l htr d 40 s.heap) ⟨zc_B 2 hok c_SA_checkNoneOrUpTo_w t_1 t_332 rfl rfl (by decide +kernel) ⟨Nat.le_of_ble_eq_true rfl, Nat.le_of_ble_eq_true rfl⟩, hok _ t_333 rfl _⟩ ⟨fun a U g mk q => by obtain ⟨q0, q1, q2, q3⟩ := q; exact ⟨q0, q1, q2.call g mk a, q3.moved (Vm.Alike.refl _)⟩, fun U hU hW => ⟨rfl, hU, hok.warm hW, by rw [hU]; exact hs.moved hW.alike⟩⟩ rfl rfl hl.1 rfl (lv_room (Nat.le_of_ble_eq_true rfl)) d_SA_expire_8 ⟨Nat.le_of_ble_eq_true rfl, Nat.le_of_ble_eq_true rfl⟩) (Nat.le_refl _) (fun h8 => ?_) (fun ax X H1 hE hex k1 k2 => zt_Tmono (fun t ht => zp_conv (ok0 := False) (fun z => z) hP0 hD9 ht) (zt_widen (k := 2) (n := 12) (by decide) (by decide) (zk_on hlocks hemp rfl (⟨hE.1, fun z => hE.2 z.2⟩) hex k1 k2)))
  have hb9 := zi_pre (by omega) h2
  have hv9 : vp_in b 12 := by rw [hb9.2.1]; exact vp_in_nI (by omega) (by omega)
  refine lv_aload_n hx hb d_SA_expire_11 rfl (lv_at hl 0 rfl) ?_
  refine va_get (D := D) (ci := 0) (v := .ref hc) (C := R_SA) (T := F_SA) (N := 6) hx hb (tb_in hok in_SA) (fun w h => h) hown hK hP 0 rfl rfl 0 (by decide) (hok _ t_229 rfl _) (fun _ h9 => h9) rfl d_SA_expire_12 ?_
  refine va_get (D := D) (ci := 1) (v := .ref af) (C := R_CA) (T := F_CA) (N := 9) hx hb (tb_in hok in_CA) (fun w h => h) hown hK hP 1 rfl rfl 6 (by decide) (hok _ t_47 rfl _) (fun _ h9 => h9) rfl d_SA_expire_15 ?_
  refine lv_iload_n hx hb d_SA_expire_18 rfl (lv_at hl 1 rfl) ?_
  refine va_iald hx hb hK hP 2 0 rfl rfl hv9 d_SA_expire_19 ?_
  refine lv_istore_n hx hb d_SA_expire_20 rfl hl (by decide) rfl (fun ls hl => ?_)
  have hl : lv_has ls 4 [(3, .int (lf (Int32.toNatClampNeg b))), (0, .ref x), (1, .int b), (2, .int d)] := hl
  refine lv_aload_n hx hb d_SA_expire_21 rfl (lv_at hl 1 rfl) ?_
  refine va_get (D := D) (ci := 0) (v := .ref hc) (C := R_SA) (T := F_SA) (N := 6) hx hb (tb_in hok in_SA) (fun w h => h) hown hK hP 0 rfl rfl 0 (by decide) (hok _ t_229 rfl _) (fun _ h9 => h9) rfl d_SA_expire_22 ?_
  refine va_get (D := D) (ci := 1) (v := .ref af) (C := R_CA) (T := F_CA) (N := 9) hx hb (tb_in hok in_CA) (fun w h => h) hown hK hP 1 rfl rfl 6 (by decide) (hok _ t_47 rfl _) (fun _ h9 => h9) rfl d_SA_expire_25 ?_
  refine lv_iload_n hx hb d_SA_expire_28 rfl (lv_at hl 2 rfl) ?_
  refine lv_iload_n hx hb d_SA_expire_29 rfl (lv_at hl 3 rfl) ?_
  refine va_iast hx hb hK hP hD hS 2 0 rfl rfl hv9 d_SA_expire_30 (fun H locs hP hD hS => ?_)
  have hP : va_P D cls [(x, .inr (0, [.ref hc, .ref hp, .ref hs0, .ref hm, .ref hn, .ref hr0])), (hc, .inr (1, [.int (nI G), .ref ap, .ref al, .ref ai, .int (nI C), .ref ag, .ref af, .int oc, .ref at0])), (af, .inl (cI, 12, .inl (upd lf (Int32.toNatClampNeg b) d)))] H := hP
  have hD : va_D A [(x, .inr (0, [.ref hc, .ref hp, .ref hs0, .ref hm, .ref hn, .ref hr0])), (hc, .inr (1, [.int (nI G), .ref ap, .ref al, .ref ai, .int (nI C), .ref ag, .ref af, .int oc, .ref at0])), (af, .inl (cI, 12, .inl (upd lf (Int32.toNatClampNeg b) d)))] := hD
  refine lv_iload_n hx hb d_SA_expire_31 rfl (lv_at hl 0 rfl) ?_
  subst hAe
  exact W.widen (k := 2) (n := 12) (by decide) (by decide) (zt_ofMQ (W.iret hx hb hr (fun t ht _ => ⟨Or.inl ⟨rfl, ⟨h2, h8⟩, by rw [ht]; exact hP, hD⟩, hS.F ht⟩) hS.2.2 d_SA_expire_32))
