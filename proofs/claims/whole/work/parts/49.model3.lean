/-! the reference: what writes, second part (rows by program) -/
def ytr (v x y : Int32) : Int32 := if ¬ zb (ynp x) = 0 ∨ y < 1 ∨ ¬ y ≤ 6 then 1 else if v = 5 then 2 else 0
abbrev ro_MO_requirement : Room := { frames := 1, cells := 0, slots := 0, locals := 20 }
set_option maxHeartbeats 4000000 in
set_option maxRecDepth 100000 in
theorem m_MO_requirement_ok (l : Launch) (D : va_G) (cI cJ cZ cP cS : ClassId) (h : Nat) (b : Nat → Nat) (th : Int32) (G C : Nat) (hs : Bool) (p0 : Nat) (y : Int32) (dm : Nat → Int32) (rq : Nat → Nat) (hp0 : p0 < 3) (hr5 : rq p0 ≤ 5) (ht : ytr (nI (rq p0)) (nI p0) y = 0) (sz : Nat) : Met l y_MO_requirement [Cond.code y_MO_requirement b_MO_requirement 3 (some .int)] ro_MO_requirement (va_Pc [.ref h, .int (nI p0), .int y] (fun U => U.heap.size = sz ∧ tb_ok U ∧ va_P D cls [(h, .inr (8, [.int th, .int (nI G), .ref (b 0), .ref (b 1), .int (nI C), .ref (b 2), .ref (b 3), .ref (b 4), .ref (b 5), .ref (b 6), .ref (b 7), .ref (b 8), .ref (b 9), .ref (b 10), .ref (b 11), .ref (b 12), .ref (b 13), .ref (b 14), .ref (b 15), .ref (b 16), .ref (b 17), .ref (b 18), .int (zb hs), .ref (b 19), .ref (b 20)])), ((b 5), .inl (cI, 3, .inl (fun j => nI (rq j)))), ((b 6), .inl (cI, 18, .inl dm))] U.heap ∧ va_K D cls (tyl cI cJ cZ cP cS) U ∧ va_D (fun _ => True) [(h, .inr (8, [.int th, .int (nI G), .ref (b 0), .ref (b 1), .int (nI C), .ref (b 2), .ref (b 3), .ref (b 4), .ref (b 5), .ref (b 6), .ref (b 7), .ref (b 8), .ref (b 9), .ref (b 10), .ref (b 11), .ref (b 12), .ref (b 13), .ref (b 14), .ref (b 15), .ref (b 16), .ref (b 17), .ref (b 18), .int (zb hs), .ref (b 19), .ref (b 20)])), ((b 5), .inl (cI, 3, .inl (fun j => nI (rq j)))), ((b 6), .inl (cI, 18, .inl dm))])) (zv (some (.int (nI (rq p0 + 1)))) D [(h, .inr (8, [.int 0, .int (nI G), .ref (b 0), .ref (b 1), .int (nI C), .ref (b 2), .ref (b 3), .ref (b 4), .ref (b 5), .ref (b 6), .ref (b 7), .ref (b 8), .ref (b 9), .ref (b 10), .ref (b 11), .ref (b 12), .ref (b 13), .ref (b 14), .ref (b 15), .ref (b 16), .ref (b 17), .ref (b 18), .int (zb hs), .ref (b 19), .ref (b 20)])), ((b 5), .inl (cI, 3, .inl (fun j => nI ((mf_up rq p0 (rq p0 + 1)) j)))), ((b 6), .inl (cI, 18, .inl (upd dm (6 * p0 + (rq p0 + 1)) y)))] (va_A [(h, .inr (8, [.int th, .int (nI G), .ref (b 0), .ref (b 1), .int (nI C), .ref (b 2), .ref (b 3), .ref (b 4), .ref (b 5), .ref (b 6), .ref (b 7), .ref (b 8), .ref (b 9), .ref (b 10), .ref (b 11), .ref (b 12), .ref (b 13), .ref (b 14), .ref (b 15), .ref (b 16), .ref (b 17), .ref (b 18), .int (zb hs), .ref (b 19), .ref (b 20)])), ((b 5), .inl (cI, 3, .inl (fun j => nI (rq j)))), ((b 6), .inl (cI, 18, .inl dm))] sz)) 0 0 (va_A [(h, .inr (8, [.int th, .int (nI G), .ref (b 0), .ref (b 1), .int (nI C), .ref (b 2), .ref (b 3), .ref (b 4), .ref (b 5), .ref (b 6), .ref (b 7), .ref (b 8), .ref (b 9), .ref (b 10), .ref (b 11), .ref (b 12), .ref (b 13), .ref (b 14), .ref (b 15), .ref (b 16), .ref (b 17), .ref (b 18), .int (zb hs), .ref (b 19), .ref (b 20)])), ((b 5), .inl (cI, 3, .inl (fun j => nI (rq j)))), ((b 6), .inl (cI, 18, .inl dm))] sz) := by
  refine Met.ofW (cc := b_MO_requirement) (maxL := 3) (ret := (some .int)) (by decide +kernel) rfl ?_
  intro p e s m args below meth c s₁ B hml hv
  obtain ⟨rfl, hsz, hok, hP, hK, hD0⟩ := hv
  have hx := B.exec
  have hb := B.bytes
  have hr := B.returns
  have hown : s.vm.findClass "StudyAuditModel" = some m.cls := findClass_of_methodNamed B.named
  have hlocks := B.notSynchronized
  subst hsz
  have hD := hD0.self (sz := s.heap.size)
  generalize hAe : va_A [(h, .inr (8, [.int th, .int (nI G), .ref (b 0), .ref (b 1), .int (nI C), .ref (b 2), .ref (b 3), .ref (b 4), .ref (b 5), .ref (b 6), .ref (b 7), .ref (b 8), .ref (b 9), .ref (b 10), .ref (b 11), .ref (b 12), .ref (b 13), .ref (b 14), .ref (b 15), .ref (b 16), .ref (b 17), .ref (b 18), .int (zb hs), .ref (b 19), .ref (b 20)])), ((b 5), .inl (cI, 3, .inl (fun j => nI (rq j)))), ((b 6), .inl (cI, 18, .inl dm))] s.heap.size = A at hD ⊢
  have hA : ∀ q : Nat, s.heap.size ≤ q → A q := fun q h => by rw [← hAe]; exact Or.inr h
  have hS : va_S A s.heap s.heap [] := va_S.rf
  have hl := lv_entry ([.ref h, .int (nI p0), .int y]) (n := 3) (Nat.le_of_ble_eq_true rfl)
  rw [lg_entry_eq]
  generalize (lg_sl ([.ref h, .int (nI p0), .int y]) ++ List.replicate (3 - (lg_sl ([.ref h, .int (nI p0), .int y])).length) Slot.unset).toArray = ls at hl ⊢
  have hl : lv_has ls 3 [(0, .ref h), (1, .int (nI p0)), (2, .int y)] := hl
  refine lv_aload_n hx hb d_MO_requirement_0 rfl (lv_at hl 0 rfl) ?_
  refine lv_iload_n hx hb d_MO_requirement_1 rfl (lv_at hl 1 rfl) ?_
  refine zc_read (va_runS (Ts := []) (As := [.int (nI p0)]) (rest := [.ref h]) ⟨hx, hb, hml, hown, fun _ h => absurd h List.not_mem_nil⟩ (m_MO_noProgramme l (nI p0)) ⟨zc_B 1 hok c_MO_noProgramme_w t_10 t_814 rfl rfl (by decide +kernel) ⟨Nat.le_of_ble_eq_true rfl, Nat.le_of_ble_eq_true rfl⟩, hok _ t_815 rfl _⟩ ⟨fun a U g mk q => by obtain ⟨q0, q2⟩ := q; exact ⟨q0, q2.call g mk a⟩, fun U hU hW => ⟨rfl, hok.warm hW⟩⟩ rfl rfl hl.1 rfl (lv_room (Nat.le_of_ble_eq_true rfl)) d_MO_requirement_2 ⟨Nat.le_of_ble_eq_true rfl, Nat.le_of_ble_eq_true rfl⟩) ?_
  refine W.eq (g2 := F0 m 5 ls [.int (zb (ynp (nI p0))), .ref h]) rfl ?_
  refine lv_if_ne (tgt := 19) hx hb d_MO_requirement_5 (by decide) (fun h5 => ?_) (fun h5 => ?_)
  · refine lv_iconst (v := 1) hx hb d_MO_requirement_19 (by decide) ?_
    refine lv_goto (tgt := 38) hx hb d_MO_requirement_20 (by decide) ?_
    have e9 : ytr (nI (rq p0)) (nI p0) y = 1 := by first | (simp [ytr, h5]; done)
    exact absurd (ht.symm.trans e9) (by decide)
  · refine lv_iload_n hx hb d_MO_requirement_8 rfl (lv_at hl 2 rfl) ?_
    refine lv_iconst (v := 1) hx hb d_MO_requirement_9 (by decide) ?_
    refine lv_icmp_lt (tgt := 19) hx hb d_MO_requirement_10 (by decide) (fun h10 => ?_) (fun h10 => ?_)
    · refine lv_iconst (v := 1) hx hb d_MO_requirement_19 (by decide) ?_
      refine lv_goto (tgt := 38) hx hb d_MO_requirement_20 (by decide) ?_
      have e9 : ytr (nI (rq p0)) (nI p0) y = 1 := by first | (simp [ytr, h5, h10]; done)
      exact absurd (ht.symm.trans e9) (by decide)
    · refine lv_iload_n hx hb d_MO_requirement_13 rfl (lv_at hl 2 rfl) ?_
      refine lv_bipush (v := 6) hx hb d_MO_requirement_14 (by decide) ?_
      refine lv_icmp_le (tgt := 23) hx hb d_MO_requirement_16 (by decide) (fun h16 => ?_) (fun h16 => ?_)
      · refine lv_aload_n hx hb d_MO_requirement_23 rfl (lv_at hl 0 rfl) ?_
        refine va_get (D := D) (ci := 8) (v := .ref (b 5)) (C := R_MO) (T := F_MO) (N := 25) hx hb (tb_in hok in_MO) (fun w h => h) hown hK hP 0 rfl rfl 8 (by decide) (hok _ t_713 rfl _) (fun _ h9 => h9) rfl d_MO_requirement_24 ?_
        refine lv_iload_n hx hb d_MO_requirement_27 rfl (lv_at hl 1 rfl) ?_
        refine va_iald hx hb hK hP 1 0 rfl rfl (vp_in_nI (by omega) (by omega)) d_MO_requirement_28 ?_
        rw [nI_clamp (show p0 < 2 ^ 31 from by omega)]
        refine lv_iconst (v := 5) hx hb d_MO_requirement_29 (by decide) ?_
        refine lv_icmp_ne (tgt := 37) hx hb d_MO_requirement_30 (by decide) (fun h30 => ?_) (fun h30 => ?_)
        · refine lv_iconst (v := 0) hx hb d_MO_requirement_37 (by decide) ?_
          have e9 : ytr (nI (rq p0)) (nI p0) y = 0 := by first | (simp [ytr, h5, h10, h16, h30]; done)
          have hr4 : rq p0 < 5 := Nat.lt_of_le_of_ne hr5 (fun z => h30 (by rw [z]; rfl))
          refine va_put (D := D) (ci := 8) (v := .int 0) (ty := .int) (C := R_MO) (T := F_MO) (N := 25) hx hb (tb_in hok in_MO) (fun w h => h) g_MO g_MO_ok n_MO hown hK hP hD hS 0 rfl rfl 0 (by decide) (hok _ t_705 rfl _) (fun _ h9 => h9) rfl (by decide +kernel) rfl rfl (Nat.le_of_ble_eq_true rfl) d_MO_requirement_38 (fun H locs hP hD hS => ?_)
          have hP : va_P D cls [(h, .inr (8, [.int 0, .int (nI G), .ref (b 0), .ref (b 1), .int (nI C), .ref (b 2), .ref (b 3), .ref (b 4), .ref (b 5), .ref (b 6), .ref (b 7), .ref (b 8), .ref (b 9), .ref (b 10), .ref (b 11), .ref (b 12), .ref (b 13), .ref (b 14), .ref (b 15), .ref (b 16), .ref (b 17), .ref (b 18), .int (zb hs), .ref (b 19), .ref (b 20)])), ((b 5), .inl (cI, 3, .inl (fun j => nI (rq j)))), ((b 6), .inl (cI, 18, .inl dm))] H := hP
          have hD : va_D A [(h, .inr (8, [.int 0, .int (nI G), .ref (b 0), .ref (b 1), .int (nI C), .ref (b 2), .ref (b 3), .ref (b 4), .ref (b 5), .ref (b 6), .ref (b 7), .ref (b 8), .ref (b 9), .ref (b 10), .ref (b 11), .ref (b 12), .ref (b 13), .ref (b 14), .ref (b 15), .ref (b 16), .ref (b 17), .ref (b 18), .int (zb hs), .ref (b 19), .ref (b 20)])), ((b 5), .inl (cI, 3, .inl (fun j => nI (rq j)))), ((b 6), .inl (cI, 18, .inl dm))] := hD
          refine lv_aload_n hx hb d_MO_requirement_41 rfl (lv_at hl 0 rfl) ?_
          refine va_get (D := D) (ci := 8) (v := .int 0) (C := R_MO) (T := F_MO) (N := 25) hx hb (tb_in hok in_MO) (fun w h => h) hown hK hP 0 rfl rfl 0 (by decide) (hok _ t_705 rfl _) (fun _ h9 => h9) rfl d_MO_requirement_42 ?_
          refine lv_if_le (tgt := 50) hx hb d_MO_requirement_45 (by decide) (fun h45 => ?_) (fun h45 => absurd (show (0 : Int32) ≤ 0 by decide) h45)
          refine lv_aload_n hx hb d_MO_requirement_50 rfl (lv_at hl 0 rfl) ?_
          refine va_get (D := D) (ci := 8) (v := .ref (b 5)) (C := R_MO) (T := F_MO) (N := 25) hx hb (tb_in hok in_MO) (fun w h => h) hown hK hP 0 rfl rfl 8 (by decide) (hok _ t_713 rfl _) (fun _ h9 => h9) rfl d_MO_requirement_51 ?_
          refine lv_iload_n hx hb d_MO_requirement_54 rfl (lv_at hl 1 rfl) ?_
          refine lv_dup2_11 hx hb d_MO_requirement_55 rfl rfl ?_
          refine va_iald hx hb hK hP 1 0 rfl rfl (vp_in_nI (by omega) (by omega)) d_MO_requirement_56 ?_
          rw [nI_clamp (show p0 < 2 ^ 31 from by omega)]
          refine lv_iconst (v := 1) hx hb d_MO_requirement_57 (by decide) ?_
          refine lv_iadd hx hb d_MO_requirement_58 ?_
          refine va_iast hx hb hK hP hD hS 1 0 rfl rfl (vp_in_nI (by omega) (by omega)) d_MO_requirement_59 (fun H locs hP hD hS => ?_)
          rw [nI_clamp (show p0 < 2 ^ 31 from by omega)] at hP hD
          have hP : va_P D cls [(h, .inr (8, [.int 0, .int (nI G), .ref (b 0), .ref (b 1), .int (nI C), .ref (b 2), .ref (b 3), .ref (b 4), .ref (b 5), .ref (b 6), .ref (b 7), .ref (b 8), .ref (b 9), .ref (b 10), .ref (b 11), .ref (b 12), .ref (b 13), .ref (b 14), .ref (b 15), .ref (b 16), .ref (b 17), .ref (b 18), .int (zb hs), .ref (b 19), .ref (b 20)])), ((b 5), .inl (cI, 3, .inl (upd (fun j => nI (rq j)) p0 ((nI (rq p0)) + (1 : Int32))))), ((b 6), .inl (cI, 18, .inl dm))] H := hP
          have hD : va_D A [(h, .inr (8, [.int 0, .int (nI G), .ref (b 0), .ref (b 1), .int (nI C), .ref (b 2), .ref (b 3), .ref (b 4), .ref (b 5), .ref (b 6), .ref (b 7), .ref (b 8), .ref (b 9), .ref (b 10), .ref (b 11), .ref (b 12), .ref (b 13), .ref (b 14), .ref (b 15), .ref (b 16), .ref (b 17), .ref (b 18), .int (zb hs), .ref (b 19), .ref (b 20)])), ((b 5), .inl (cI, 3, .inl (upd (fun j => nI (rq j)) p0 ((nI (rq p0)) + (1 : Int32))))), ((b 6), .inl (cI, 18, .inl dm))] := hD
          rw [show upd (fun j => nI (rq j)) p0 ((nI (rq p0)) + (1 : Int32)) = fun j => nI ((mf_up rq p0 (rq p0 + 1)) j) from by rw [← nI_succ]; exact z_upn _ _ _] at hP hD
          have hP : va_P D cls [(h, .inr (8, [.int 0, .int (nI G), .ref (b 0), .ref (b 1), .int (nI C), .ref (b 2), .ref (b 3), .ref (b 4), .ref (b 5), .ref (b 6), .ref (b 7), .ref (b 8), .ref (b 9), .ref (b 10), .ref (b 11), .ref (b 12), .ref (b 13), .ref (b 14), .ref (b 15), .ref (b 16), .ref (b 17), .ref (b 18), .int (zb hs), .ref (b 19), .ref (b 20)])), ((b 5), .inl (cI, 3, .inl (fun j => nI ((mf_up rq p0 (rq p0 + 1)) j)))), ((b 6), .inl (cI, 18, .inl dm))] H := hP
          have hD : va_D A [(h, .inr (8, [.int 0, .int (nI G), .ref (b 0), .ref (b 1), .int (nI C), .ref (b 2), .ref (b 3), .ref (b 4), .ref (b 5), .ref (b 6), .ref (b 7), .ref (b 8), .ref (b 9), .ref (b 10), .ref (b 11), .ref (b 12), .ref (b 13), .ref (b 14), .ref (b 15), .ref (b 16), .ref (b 17), .ref (b 18), .int (zb hs), .ref (b 19), .ref (b 20)])), ((b 5), .inl (cI, 3, .inl (fun j => nI ((mf_up rq p0 (rq p0 + 1)) j)))), ((b 6), .inl (cI, 18, .inl dm))] := hD
          refine lv_aload_n hx hb d_MO_requirement_60 rfl (lv_at hl 0 rfl) ?_
          refine va_get (D := D) (ci := 8) (v := .ref (b 6)) (C := R_MO) (T := F_MO) (N := 25) hx hb (tb_in hok in_MO) (fun w h => h) hown hK hP 0 rfl rfl 9 (by decide) (hok _ t_714 rfl _) (fun _ h9 => h9) rfl d_MO_requirement_61 ?_
          refine lv_bipush (v := 6) hx hb d_MO_requirement_64 (by decide) ?_
          refine lv_iload_n hx hb d_MO_requirement_66 rfl (lv_at hl 1 rfl) ?_
          refine lv_imul hx hb d_MO_requirement_67 ?_
          refine lv_aload_n hx hb d_MO_requirement_68 rfl (lv_at hl 0 rfl) ?_
          refine va_get (D := D) (ci := 8) (v := .ref (b 5)) (C := R_MO) (T := F_MO) (N := 25) hx hb (tb_in hok in_MO) (fun w h => h) hown hK hP 0 rfl rfl 8 (by decide) (hok _ t_713 rfl _) (fun _ h9 => h9) rfl d_MO_requirement_69 ?_
          refine lv_iload_n hx hb d_MO_requirement_72 rfl (lv_at hl 1 rfl) ?_
          refine va_iald hx hb hK hP 1 0 rfl rfl (vp_in_nI (by omega) (by omega)) d_MO_requirement_73 ?_
          rw [nI_clamp (show p0 < 2 ^ 31 from by omega)]
          refine W.eq (g2 := F0 m 74 ls [.int (nI (rq p0 + 1)), .int ((6 : Int32) * (nI p0)), .ref (b 6)]) (by rw [show ((nI ((mf_up rq p0 (rq p0 + 1)) p0)) : Int32) = nI (rq p0 + 1) from (by rw [mf_up_s])]) ?_
          refine lv_iadd hx hb d_MO_requirement_74 ?_
          refine W.eq (g2 := F0 m 75 ls [.int (nI (6 * p0 + (rq p0 + 1))), .ref (b 6)]) (by rw [show ((((6 : Int32) * (nI p0)) + (nI (rq p0 + 1))) : Int32) = nI (6 * p0 + (rq p0 + 1)) from (by rw [show (6 : Int32) = nI 6 from rfl, pk_mul, nI_add])]) ?_
          refine lv_iload_n hx hb d_MO_requirement_75 rfl (lv_at hl 2 rfl) ?_
          refine va_iast hx hb hK hP hD hS 2 0 rfl rfl (vp_in_nI (by omega) (by omega)) d_MO_requirement_76 (fun H locs hP hD hS => ?_)
          rw [nI_clamp (show (6 * p0 + (rq p0 + 1)) < 2 ^ 31 from by omega)] at hP hD
          have hP : va_P D cls [(h, .inr (8, [.int 0, .int (nI G), .ref (b 0), .ref (b 1), .int (nI C), .ref (b 2), .ref (b 3), .ref (b 4), .ref (b 5), .ref (b 6), .ref (b 7), .ref (b 8), .ref (b 9), .ref (b 10), .ref (b 11), .ref (b 12), .ref (b 13), .ref (b 14), .ref (b 15), .ref (b 16), .ref (b 17), .ref (b 18), .int (zb hs), .ref (b 19), .ref (b 20)])), ((b 5), .inl (cI, 3, .inl (fun j => nI ((mf_up rq p0 (rq p0 + 1)) j)))), ((b 6), .inl (cI, 18, .inl (upd dm (6 * p0 + (rq p0 + 1)) y)))] H := hP
          have hD : va_D A [(h, .inr (8, [.int 0, .int (nI G), .ref (b 0), .ref (b 1), .int (nI C), .ref (b 2), .ref (b 3), .ref (b 4), .ref (b 5), .ref (b 6), .ref (b 7), .ref (b 8), .ref (b 9), .ref (b 10), .ref (b 11), .ref (b 12), .ref (b 13), .ref (b 14), .ref (b 15), .ref (b 16), .ref (b 17), .ref (b 18), .int (zb hs), .ref (b 19), .ref (b 20)])), ((b 5), .inl (cI, 3, .inl (fun j => nI ((mf_up rq p0 (rq p0 + 1)) j)))), ((b 6), .inl (cI, 18, .inl (upd dm (6 * p0 + (rq p0 + 1)) y)))] := hD
          refine lv_aload_n hx hb d_MO_requirement_77 rfl (lv_at hl 0 rfl) ?_
          refine va_get (D := D) (ci := 8) (v := .ref (b 5)) (C := R_MO) (T := F_MO) (N := 25) hx hb (tb_in hok in_MO) (fun w h => h) hown hK hP 0 rfl rfl 8 (by decide) (hok _ t_713 rfl _) (fun _ h9 => h9) rfl d_MO_requirement_78 ?_
          refine lv_iload_n hx hb d_MO_requirement_81 rfl (lv_at hl 1 rfl) ?_
          refine va_iald hx hb hK hP 1 0 rfl rfl (vp_in_nI (by omega) (by omega)) d_MO_requirement_82 ?_
          rw [nI_clamp (show p0 < 2 ^ 31 from by omega)]
          refine W.eq (g2 := F0 m 83 ls [.int (nI (rq p0 + 1))]) (by rw [show ((nI ((mf_up rq p0 (rq p0 + 1)) p0)) : Int32) = nI (rq p0 + 1) from (by rw [mf_up_s])]) ?_
          exact W.iret hx hb hr (fun t ht _ => ⟨⟨rfl, by rw [ht]; exact hP, hD⟩, hS.F ht⟩) hS.2.2 d_MO_requirement_83
        · refine lv_iconst (v := 2) hx hb d_MO_requirement_33 (by decide) ?_
          refine lv_goto (tgt := 38) hx hb d_MO_requirement_34 (by decide) ?_
          have e9 : ytr (nI (rq p0)) (nI p0) y = 2 := by first | (simp [ytr, h5, h10, h16, h30]; done)
          exact absurd (ht.symm.trans e9) (by decide)
      · refine lv_iconst (v := 1) hx hb d_MO_requirement_19 (by decide) ?_
        refine lv_goto (tgt := 38) hx hb d_MO_requirement_20 (by decide) ?_
        have e9 : ytr (nI (rq p0)) (nI p0) y = 1 := by first | (simp [ytr, h5, h10, h16]; done)
        exact absurd (ht.symm.trans e9) (by decide)
set_option maxHeartbeats 4000000 in
set_option maxRecDepth 100000 in
theorem m_MO_requirement_bad (l : Launch) (D : va_G) (cI cJ cZ cP cS : ClassId) (h : Nat) (b : Nat → Nat) (th : Int32) (G C : Nat) (hs : Bool) (x y : Int32) (rq : Nat → Nat) (t : Int32) (ht : ytr (nI (rq x.toNatClampNeg)) x y = t) (hn : ¬ t = 0) (sz : Nat) : Met l y_MO_requirement [Cond.code y_MO_requirement b_MO_requirement 3 (some .int)] ro_MO_requirement (va_Pc [.ref h, .int x, .int y] (fun U => U.heap.size = sz ∧ tb_ok U ∧ va_P D cls [(h, .inr (8, [.int th, .int (nI G), .ref (b 0), .ref (b 1), .int (nI C), .ref (b 2), .ref (b 3), .ref (b 4), .ref (b 5), .ref (b 6), .ref (b 7), .ref (b 8), .ref (b 9), .ref (b 10), .ref (b 11), .ref (b 12), .ref (b 13), .ref (b 14), .ref (b 15), .ref (b 16), .ref (b 17), .ref (b 18), .int (zb hs), .ref (b 19), .ref (b 20)])), ((b 5), .inl (cI, 3, .inl (fun j => nI (rq j))))] U.heap ∧ va_K D cls (tyl cI cJ cZ cP cS) U ∧ va_D (fun _ => True) [(h, .inr (8, [.int th, .int (nI G), .ref (b 0), .ref (b 1), .int (nI C), .ref (b 2), .ref (b 3), .ref (b 4), .ref (b 5), .ref (b 6), .ref (b 7), .ref (b 8), .ref (b 9), .ref (b 10), .ref (b 11), .ref (b 12), .ref (b 13), .ref (b 14), .ref (b 15), .ref (b 16), .ref (b 17), .ref (b 18), .int (zb hs), .ref (b 19), .ref (b 20)])), ((b 5), .inl (cI, 3, .inl (fun j => nI (rq j))))])) (zv (some (.int 0)) D [(h, .inr (8, [.int t, .int (nI G), .ref (b 0), .ref (b 1), .int (nI C), .ref (b 2), .ref (b 3), .ref (b 4), .ref (b 5), .ref (b 6), .ref (b 7), .ref (b 8), .ref (b 9), .ref (b 10), .ref (b 11), .ref (b 12), .ref (b 13), .ref (b 14), .ref (b 15), .ref (b 16), .ref (b 17), .ref (b 18), .int (zb hs), .ref (b 19), .ref (b 20)])), ((b 5), .inl (cI, 3, .inl (fun j => nI (rq j))))] (va_A [(h, .inr (8, [.int th, .int (nI G), .ref (b 0), .ref (b 1), .int (nI C), .ref (b 2), .ref (b 3), .ref (b 4), .ref (b 5), .ref (b 6), .ref (b 7), .ref (b 8), .ref (b 9), .ref (b 10), .ref (b 11), .ref (b 12), .ref (b 13), .ref (b 14), .ref (b 15), .ref (b 16), .ref (b 17), .ref (b 18), .int (zb hs), .ref (b 19), .ref (b 20)])), ((b 5), .inl (cI, 3, .inl (fun j => nI (rq j))))] sz)) 0 0 (va_A [(h, .inr (8, [.int th, .int (nI G), .ref (b 0), .ref (b 1), .int (nI C), .ref (b 2), .ref (b 3), .ref (b 4), .ref (b 5), .ref (b 6), .ref (b 7), .ref (b 8), .ref (b 9), .ref (b 10), .ref (b 11), .ref (b 12), .ref (b 13), .ref (b 14), .ref (b 15), .ref (b 16), .ref (b 17), .ref (b 18), .int (zb hs), .ref (b 19), .ref (b 20)])), ((b 5), .inl (cI, 3, .inl (fun j => nI (rq j))))] sz) := by
  refine Met.ofW (cc := b_MO_requirement) (maxL := 3) (ret := (some .int)) (by decide +kernel) rfl ?_
  intro p e s m args below meth c s₁ B hml hv
  obtain ⟨rfl, hsz, hok, hP, hK, hD0⟩ := hv
  have hx := B.exec
  have hb := B.bytes
  have hr := B.returns
  have hown : s.vm.findClass "StudyAuditModel" = some m.cls := findClass_of_methodNamed B.named
  have hlocks := B.notSynchronized
  subst hsz
  have hD := hD0.self (sz := s.heap.size)
  generalize hAe : va_A [(h, .inr (8, [.int th, .int (nI G), .ref (b 0), .ref (b 1), .int (nI C), .ref (b 2), .ref (b 3), .ref (b 4), .ref (b 5), .ref (b 6), .ref (b 7), .ref (b 8), .ref (b 9), .ref (b 10), .ref (b 11), .ref (b 12), .ref (b 13), .ref (b 14), .ref (b 15), .ref (b 16), .ref (b 17), .ref (b 18), .int (zb hs), .ref (b 19), .ref (b 20)])), ((b 5), .inl (cI, 3, .inl (fun j => nI (rq j))))] s.heap.size = A at hD ⊢
  have hA : ∀ q : Nat, s.heap.size ≤ q → A q := fun q h => by rw [← hAe]; exact Or.inr h
  have hS : va_S A s.heap s.heap [] := va_S.rf
  have hl := lv_entry ([.ref h, .int x, .int y]) (n := 3) (Nat.le_of_ble_eq_true rfl)
  rw [lg_entry_eq]
  generalize (lg_sl ([.ref h, .int x, .int y]) ++ List.replicate (3 - (lg_sl ([.ref h, .int x, .int y])).length) Slot.unset).toArray = ls at hl ⊢
  have hl : lv_has ls 3 [(0, .ref h), (1, .int x), (2, .int y)] := hl
  refine lv_aload_n hx hb d_MO_requirement_0 rfl (lv_at hl 0 rfl) ?_
  refine lv_iload_n hx hb d_MO_requirement_1 rfl (lv_at hl 1 rfl) ?_
  refine zc_read (va_runS (Ts := []) (As := [.int x]) (rest := [.ref h]) ⟨hx, hb, hml, hown, fun _ h => absurd h List.not_mem_nil⟩ (m_MO_noProgramme l x) ⟨zc_B 1 hok c_MO_noProgramme_w t_10 t_814 rfl rfl (by decide +kernel) ⟨Nat.le_of_ble_eq_true rfl, Nat.le_of_ble_eq_true rfl⟩, hok _ t_815 rfl _⟩ ⟨fun a U g mk q => by obtain ⟨q0, q2⟩ := q; exact ⟨q0, q2.call g mk a⟩, fun U hU hW => ⟨rfl, hok.warm hW⟩⟩ rfl rfl hl.1 rfl (lv_room (Nat.le_of_ble_eq_true rfl)) d_MO_requirement_2 ⟨Nat.le_of_ble_eq_true rfl, Nat.le_of_ble_eq_true rfl⟩) ?_
  refine W.eq (g2 := F0 m 5 ls [.int (zb (ynp x)), .ref h]) rfl ?_
  refine lv_if_ne (tgt := 19) hx hb d_MO_requirement_5 (by decide) (fun h5 => ?_) (fun h5 => ?_)
  · refine lv_iconst (v := 1) hx hb d_MO_requirement_19 (by decide) ?_
    refine lv_goto (tgt := 38) hx hb d_MO_requirement_20 (by decide) ?_
    have e9 : ytr (nI (rq x.toNatClampNeg)) x y = 1 := by first | (simp [ytr, h5]; done)
    obtain rfl : t = 1 := ht.symm.trans e9
    refine va_put (D := D) (ci := 8) (v := .int 1) (ty := .int) (C := R_MO) (T := F_MO) (N := 25) hx hb (tb_in hok in_MO) (fun w h => h) g_MO g_MO_ok n_MO hown hK hP hD hS 0 rfl rfl 0 (by decide) (hok _ t_705 rfl _) (fun _ h9 => h9) rfl (by decide +kernel) rfl rfl (Nat.le_of_ble_eq_true rfl) d_MO_requirement_38 (fun H locs hP hD hS => ?_)
    have hP : va_P D cls [(h, .inr (8, [.int 1, .int (nI G), .ref (b 0), .ref (b 1), .int (nI C), .ref (b 2), .ref (b 3), .ref (b 4), .ref (b 5), .ref (b 6), .ref (b 7), .ref (b 8), .ref (b 9), .ref (b 10), .ref (b 11), .ref (b 12), .ref (b 13), .ref (b 14), .ref (b 15), .ref (b 16), .ref (b 17), .ref (b 18), .int (zb hs), .ref (b 19), .ref (b 20)])), ((b 5), .inl (cI, 3, .inl (fun j => nI (rq j))))] H := hP
    have hD : va_D A [(h, .inr (8, [.int 1, .int (nI G), .ref (b 0), .ref (b 1), .int (nI C), .ref (b 2), .ref (b 3), .ref (b 4), .ref (b 5), .ref (b 6), .ref (b 7), .ref (b 8), .ref (b 9), .ref (b 10), .ref (b 11), .ref (b 12), .ref (b 13), .ref (b 14), .ref (b 15), .ref (b 16), .ref (b 17), .ref (b 18), .int (zb hs), .ref (b 19), .ref (b 20)])), ((b 5), .inl (cI, 3, .inl (fun j => nI (rq j))))] := hD
    refine lv_aload_n hx hb d_MO_requirement_41 rfl (lv_at hl 0 rfl) ?_
    refine va_get (D := D) (ci := 8) (v := .int 1) (C := R_MO) (T := F_MO) (N := 25) hx hb (tb_in hok in_MO) (fun w h => h) hown hK hP 0 rfl rfl 0 (by decide) (hok _ t_705 rfl _) (fun _ h9 => h9) rfl d_MO_requirement_42 ?_
    refine lv_if_le (tgt := 50) hx hb d_MO_requirement_45 (by decide) (fun h45 => absurd h45 (show ¬ (1 : Int32) ≤ 0 by decide)) (fun h45 => ?_)
    refine lv_iconst (v := 0) hx hb d_MO_requirement_48 (by decide) ?_
    exact W.iret hx hb hr (fun t ht _ => ⟨⟨rfl, by rw [ht]; exact hP, hD⟩, hS.F ht⟩) hS.2.2 d_MO_requirement_49
  · refine lv_iload_n hx hb d_MO_requirement_8 rfl (lv_at hl 2 rfl) ?_
    refine lv_iconst (v := 1) hx hb d_MO_requirement_9 (by decide) ?_
    refine lv_icmp_lt (tgt := 19) hx hb d_MO_requirement_10 (by decide) (fun h10 => ?_) (fun h10 => ?_)
    · refine lv_iconst (v := 1) hx hb d_MO_requirement_19 (by decide) ?_
      refine lv_goto (tgt := 38) hx hb d_MO_requirement_20 (by decide) ?_
      have e9 : ytr (nI (rq x.toNatClampNeg)) x y = 1 := by first | (simp [ytr, h5, h10]; done)
      obtain rfl : t = 1 := ht.symm.trans e9
      refine va_put (D := D) (ci := 8) (v := .int 1) (ty := .int) (C := R_MO) (T := F_MO) (N := 25) hx hb (tb_in hok in_MO) (fun w h => h) g_MO g_MO_ok n_MO hown hK hP hD hS 0 rfl rfl 0 (by decide) (hok _ t_705 rfl _) (fun _ h9 => h9) rfl (by decide +kernel) rfl rfl (Nat.le_of_ble_eq_true rfl) d_MO_requirement_38 (fun H locs hP hD hS => ?_)
      have hP : va_P D cls [(h, .inr (8, [.int 1, .int (nI G), .ref (b 0), .ref (b 1), .int (nI C), .ref (b 2), .ref (b 3), .ref (b 4), .ref (b 5), .ref (b 6), .ref (b 7), .ref (b 8), .ref (b 9), .ref (b 10), .ref (b 11), .ref (b 12), .ref (b 13), .ref (b 14), .ref (b 15), .ref (b 16), .ref (b 17), .ref (b 18), .int (zb hs), .ref (b 19), .ref (b 20)])), ((b 5), .inl (cI, 3, .inl (fun j => nI (rq j))))] H := hP
      have hD : va_D A [(h, .inr (8, [.int 1, .int (nI G), .ref (b 0), .ref (b 1), .int (nI C), .ref (b 2), .ref (b 3), .ref (b 4), .ref (b 5), .ref (b 6), .ref (b 7), .ref (b 8), .ref (b 9), .ref (b 10), .ref (b 11), .ref (b 12), .ref (b 13), .ref (b 14), .ref (b 15), .ref (b 16), .ref (b 17), .ref (b 18), .int (zb hs), .ref (b 19), .ref (b 20)])), ((b 5), .inl (cI, 3, .inl (fun j => nI (rq j))))] := hD
      refine lv_aload_n hx hb d_MO_requirement_41 rfl (lv_at hl 0 rfl) ?_
      refine va_get (D := D) (ci := 8) (v := .int 1) (C := R_MO) (T := F_MO) (N := 25) hx hb (tb_in hok in_MO) (fun w h => h) hown hK hP 0 rfl rfl 0 (by decide) (hok _ t_705 rfl _) (fun _ h9 => h9) rfl d_MO_requirement_42 ?_
      refine lv_if_le (tgt := 50) hx hb d_MO_requirement_45 (by decide) (fun h45 => absurd h45 (show ¬ (1 : Int32) ≤ 0 by decide)) (fun h45 => ?_)
      refine lv_iconst (v := 0) hx hb d_MO_requirement_48 (by decide) ?_
      exact W.iret hx hb hr (fun t ht _ => ⟨⟨rfl, by rw [ht]; exact hP, hD⟩, hS.F ht⟩) hS.2.2 d_MO_requirement_49
    · refine lv_iload_n hx hb d_MO_requirement_13 rfl (lv_at hl 2 rfl) ?_
      refine lv_bipush (v := 6) hx hb d_MO_requirement_14 (by decide) ?_
      refine lv_icmp_le (tgt := 23) hx hb d_MO_requirement_16 (by decide) (fun h16 => ?_) (fun h16 => ?_)
      · have k5 := ynp_in (zb_0 h5)
        refine lv_aload_n hx hb d_MO_requirement_23 rfl (lv_at hl 0 rfl) ?_
        refine va_get (D := D) (ci := 8) (v := .ref (b 5)) (C := R_MO) (T := F_MO) (N := 25) hx hb (tb_in hok in_MO) (fun w h => h) hown hK hP 0 rfl rfl 8 (by decide) (hok _ t_713 rfl _) (fun _ h9 => h9) rfl d_MO_requirement_24 ?_
        refine lv_iload_n hx hb d_MO_requirement_27 rfl (lv_at hl 1 rfl) ?_
        refine va_iald hx hb hK hP 1 0 rfl rfl k5.1 d_MO_requirement_28 ?_
        refine lv_iconst (v := 5) hx hb d_MO_requirement_29 (by decide) ?_
        refine lv_icmp_ne (tgt := 37) hx hb d_MO_requirement_30 (by decide) (fun h30 => ?_) (fun h30 => ?_)
        · refine lv_iconst (v := 0) hx hb d_MO_requirement_37 (by decide) ?_
          have e9 : ytr (nI (rq x.toNatClampNeg)) x y = 0 := by first | (simp [ytr, h5, h10, h16, h30]; done)
          exact absurd (ht.symm.trans e9) hn
        · refine lv_iconst (v := 2) hx hb d_MO_requirement_33 (by decide) ?_
          refine lv_goto (tgt := 38) hx hb d_MO_requirement_34 (by decide) ?_
          have e9 : ytr (nI (rq x.toNatClampNeg)) x y = 2 := by first | (simp [ytr, h5, h10, h16, h30]; done)
          obtain rfl : t = 2 := ht.symm.trans e9
          refine va_put (D := D) (ci := 8) (v := .int 2) (ty := .int) (C := R_MO) (T := F_MO) (N := 25) hx hb (tb_in hok in_MO) (fun w h => h) g_MO g_MO_ok n_MO hown hK hP hD hS 0 rfl rfl 0 (by decide) (hok _ t_705 rfl _) (fun _ h9 => h9) rfl (by decide +kernel) rfl rfl (Nat.le_of_ble_eq_true rfl) d_MO_requirement_38 (fun H locs hP hD hS => ?_)
          have hP : va_P D cls [(h, .inr (8, [.int 2, .int (nI G), .ref (b 0), .ref (b 1), .int (nI C), .ref (b 2), .ref (b 3), .ref (b 4), .ref (b 5), .ref (b 6), .ref (b 7), .ref (b 8), .ref (b 9), .ref (b 10), .ref (b 11), .ref (b 12), .ref (b 13), .ref (b 14), .ref (b 15), .ref (b 16), .ref (b 17), .ref (b 18), .int (zb hs), .ref (b 19), .ref (b 20)])), ((b 5), .inl (cI, 3, .inl (fun j => nI (rq j))))] H := hP
          have hD : va_D A [(h, .inr (8, [.int 2, .int (nI G), .ref (b 0), .ref (b 1), .int (nI C), .ref (b 2), .ref (b 3), .ref (b 4), .ref (b 5), .ref (b 6), .ref (b 7), .ref (b 8), .ref (b 9), .ref (b 10), .ref (b 11), .ref (b 12), .ref (b 13), .ref (b 14), .ref (b 15), .ref (b 16), .ref (b 17), .ref (b 18), .int (zb hs), .ref (b 19), .ref (b 20)])), ((b 5), .inl (cI, 3, .inl (fun j => nI (rq j))))] := hD
          refine lv_aload_n hx hb d_MO_requirement_41 rfl (lv_at hl 0 rfl) ?_
          refine va_get (D := D) (ci := 8) (v := .int 2) (C := R_MO) (T := F_MO) (N := 25) hx hb (tb_in hok in_MO) (fun w h => h) hown hK hP 0 rfl rfl 0 (by decide) (hok _ t_705 rfl _) (fun _ h9 => h9) rfl d_MO_requirement_42 ?_
          refine lv_if_le (tgt := 50) hx hb d_MO_requirement_45 (by decide) (fun h45 => absurd h45 (show ¬ (2 : Int32) ≤ 0 by decide)) (fun h45 => ?_)
          refine lv_iconst (v := 0) hx hb d_MO_requirement_48 (by decide) ?_
          exact W.iret hx hb hr (fun t ht _ => ⟨⟨rfl, by rw [ht]; exact hP, hD⟩, hS.F ht⟩) hS.2.2 d_MO_requirement_49
      · refine lv_iconst (v := 1) hx hb d_MO_requirement_19 (by decide) ?_
        refine lv_goto (tgt := 38) hx hb d_MO_requirement_20 (by decide) ?_
        have e9 : ytr (nI (rq x.toNatClampNeg)) x y = 1 := by first | (simp [ytr, h5, h10, h16]; done)
        obtain rfl : t = 1 := ht.symm.trans e9
        refine va_put (D := D) (ci := 8) (v := .int 1) (ty := .int) (C := R_MO) (T := F_MO) (N := 25) hx hb (tb_in hok in_MO) (fun w h => h) g_MO g_MO_ok n_MO hown hK hP hD hS 0 rfl rfl 0 (by decide) (hok _ t_705 rfl _) (fun _ h9 => h9) rfl (by decide +kernel) rfl rfl (Nat.le_of_ble_eq_true rfl) d_MO_requirement_38 (fun H locs hP hD hS => ?_)
        have hP : va_P D cls [(h, .inr (8, [.int 1, .int (nI G), .ref (b 0), .ref (b 1), .int (nI C), .ref (b 2), .ref (b 3), .ref (b 4), .ref (b 5), .ref (b 6), .ref (b 7), .ref (b 8), .ref (b 9), .ref (b 10), .ref (b 11), .ref (b 12), .ref (b 13), .ref (b 14), .ref (b 15), .ref (b 16), .ref (b 17), .ref (b 18), .int (zb hs), .ref (b 19), .ref (b 20)])), ((b 5), .inl (cI, 3, .inl (fun j => nI (rq j))))] H := hP
        have hD : va_D A [(h, .inr (8, [.int 1, .int (nI G), .ref (b 0), .ref (b 1), .int (nI C), .ref (b 2), .ref (b 3), .ref (b 4), .ref (b 5), .ref (b 6), .ref (b 7), .ref (b 8), .ref (b 9), .ref (b 10), .ref (b 11), .ref (b 12), .ref (b 13), .ref (b 14), .ref (b 15), .ref (b 16), .ref (b 17), .ref (b 18), .int (zb hs), .ref (b 19), .ref (b 20)])), ((b 5), .inl (cI, 3, .inl (fun j => nI (rq j))))] := hD
        refine lv_aload_n hx hb d_MO_requirement_41 rfl (lv_at hl 0 rfl) ?_
        refine va_get (D := D) (ci := 8) (v := .int 1) (C := R_MO) (T := F_MO) (N := 25) hx hb (tb_in hok in_MO) (fun w h => h) hown hK hP 0 rfl rfl 0 (by decide) (hok _ t_705 rfl _) (fun _ h9 => h9) rfl d_MO_requirement_42 ?_
        refine lv_if_le (tgt := 50) hx hb d_MO_requirement_45 (by decide) (fun h45 => absurd h45 (show ¬ (1 : Int32) ≤ 0 by decide)) (fun h45 => ?_)
        refine lv_iconst (v := 0) hx hb d_MO_requirement_48 (by decide) ?_
        exact W.iret hx hb hr (fun t ht _ => ⟨⟨rfl, by rw [ht]; exact hP, hD⟩, hS.F ht⟩) hS.2.2 d_MO_requirement_49
def yta (rq : Nat → Nat) (C : Nat) (x r d : Int32) : Int32 := if ¬ zb (ynr rq x r) = 0 ∨ ¬ zb (yng C d) = 0 then 1 else 0
abbrev ro_MO_allow : Room := { frames := 2, cells := 0, slots := 0, locals := 42 }
set_option maxHeartbeats 4000000 in
set_option maxRecDepth 100000 in
theorem m_MO_allow_ok (l : Launch) (D : va_G) (cI cJ cZ cP cS : ClassId) (h : Nat) (b : Nat → Nat) (th : Int32) (G C : Nat) (hs : Bool) (p0 r c0 : Nat) (al : Nat → Int32) (rq : Nat → Nat) (hp0 : p0 < 3) (hr6 : r < 6) (ht : yta rq C (nI p0) (nI r) (nI c0) = 0) (sz : Nat) : Met l y_MO_allow [Cond.code y_MO_allow b_MO_allow 6 (some .boolean)] ro_MO_allow (va_Pc [.ref h, .int (nI p0), .int (nI r), .int (nI c0)] (fun U => U.heap.size = sz ∧ tb_ok U ∧ va_P D cls [(h, .inr (8, [.int th, .int (nI G), .ref (b 0), .ref (b 1), .int (nI C), .ref (b 2), .ref (b 3), .ref (b 4), .ref (b 5), .ref (b 6), .ref (b 7), .ref (b 8), .ref (b 9), .ref (b 10), .ref (b 11), .ref (b 12), .ref (b 13), .ref (b 14), .ref (b 15), .ref (b 16), .ref (b 17), .ref (b 18), .int (zb hs), .ref (b 19), .ref (b 20)])), ((b 5), .inl (cI, 3, .inl (fun j => nI (rq j)))), ((b 7), .inl (cI, 18, .inl al))] U.heap ∧ va_K D cls (tyl cI cJ cZ cP cS) U ∧ va_D (fun _ => True) [(h, .inr (8, [.int th, .int (nI G), .ref (b 0), .ref (b 1), .int (nI C), .ref (b 2), .ref (b 3), .ref (b 4), .ref (b 5), .ref (b 6), .ref (b 7), .ref (b 8), .ref (b 9), .ref (b 10), .ref (b 11), .ref (b 12), .ref (b 13), .ref (b 14), .ref (b 15), .ref (b 16), .ref (b 17), .ref (b 18), .int (zb hs), .ref (b 19), .ref (b 20)])), ((b 5), .inl (cI, 3, .inl (fun j => nI (rq j)))), ((b 7), .inl (cI, 18, .inl al))])) (zv (some (.int (zb (! zh (al (6 * p0 + r)) (nI c0))))) D [(h, .inr (8, [.int 0, .int (nI G), .ref (b 0), .ref (b 1), .int (nI C), .ref (b 2), .ref (b 3), .ref (b 4), .ref (b 5), .ref (b 6), .ref (b 7), .ref (b 8), .ref (b 9), .ref (b 10), .ref (b 11), .ref (b 12), .ref (b 13), .ref (b 14), .ref (b 15), .ref (b 16), .ref (b 17), .ref (b 18), .int (zb hs), .ref (b 19), .ref (b 20)])), ((b 5), .inl (cI, 3, .inl (fun j => nI (rq j)))), ((b 7), .inl (cI, 18, .inl (upd al (6 * p0 + r) (al (6 * p0 + r) ||| (1 <<< (nI c0 &&& 31))))))] (va_A [(h, .inr (8, [.int th, .int (nI G), .ref (b 0), .ref (b 1), .int (nI C), .ref (b 2), .ref (b 3), .ref (b 4), .ref (b 5), .ref (b 6), .ref (b 7), .ref (b 8), .ref (b 9), .ref (b 10), .ref (b 11), .ref (b 12), .ref (b 13), .ref (b 14), .ref (b 15), .ref (b 16), .ref (b 17), .ref (b 18), .int (zb hs), .ref (b 19), .ref (b 20)])), ((b 5), .inl (cI, 3, .inl (fun j => nI (rq j)))), ((b 7), .inl (cI, 18, .inl al))] sz)) 0 0 (va_A [(h, .inr (8, [.int th, .int (nI G), .ref (b 0), .ref (b 1), .int (nI C), .ref (b 2), .ref (b 3), .ref (b 4), .ref (b 5), .ref (b 6), .ref (b 7), .ref (b 8), .ref (b 9), .ref (b 10), .ref (b 11), .ref (b 12), .ref (b 13), .ref (b 14), .ref (b 15), .ref (b 16), .ref (b 17), .ref (b 18), .int (zb hs), .ref (b 19), .ref (b 20)])), ((b 5), .inl (cI, 3, .inl (fun j => nI (rq j)))), ((b 7), .inl (cI, 18, .inl al))] sz) := by
  refine Met.ofW (cc := b_MO_allow) (maxL := 6) (ret := (some .boolean)) (by decide +kernel) rfl ?_
  intro p e s m args below meth c s₁ B hml hv
  obtain ⟨rfl, hsz, hok, hP, hK, hD0⟩ := hv
  have hx := B.exec
  have hb := B.bytes
  have hr := B.returns
  have hown : s.vm.findClass "StudyAuditModel" = some m.cls := findClass_of_methodNamed B.named
  have hlocks := B.notSynchronized
  subst hsz
  have hD := hD0.self (sz := s.heap.size)
  generalize hAe : va_A [(h, .inr (8, [.int th, .int (nI G), .ref (b 0), .ref (b 1), .int (nI C), .ref (b 2), .ref (b 3), .ref (b 4), .ref (b 5), .ref (b 6), .ref (b 7), .ref (b 8), .ref (b 9), .ref (b 10), .ref (b 11), .ref (b 12), .ref (b 13), .ref (b 14), .ref (b 15), .ref (b 16), .ref (b 17), .ref (b 18), .int (zb hs), .ref (b 19), .ref (b 20)])), ((b 5), .inl (cI, 3, .inl (fun j => nI (rq j)))), ((b 7), .inl (cI, 18, .inl al))] s.heap.size = A at hD ⊢
  have hA : ∀ q : Nat, s.heap.size ≤ q → A q := fun q h => by rw [← hAe]; exact Or.inr h
  have hS : va_S A s.heap s.heap [] := va_S.rf
  have hl := lv_entry ([.ref h, .int (nI p0), .int (nI r), .int (nI c0)]) (n := 6) (Nat.le_of_ble_eq_true rfl)
  rw [lg_entry_eq]
  generalize (lg_sl ([.ref h, .int (nI p0), .int (nI r), .int (nI c0)]) ++ List.replicate (6 - (lg_sl ([.ref h, .int (nI p0), .int (nI r), .int (nI c0)])).length) Slot.unset).toArray = ls at hl ⊢
  have hl : lv_has ls 6 [(0, .ref h), (1, .int (nI p0)), (2, .int (nI r)), (3, .int (nI c0))] := hl
  refine lv_aload_n hx hb d_MO_allow_0 rfl (lv_at hl 0 rfl) ?_
  refine lv_aload_n hx hb d_MO_allow_1 rfl (lv_at hl 0 rfl) ?_
  refine lv_iload_n hx hb d_MO_allow_2 rfl (lv_at hl 1 rfl) ?_
  refine lv_iload_n hx hb d_MO_allow_3 rfl (lv_at hl 2 rfl) ?_
  refine zc_read (va_runV (Ts := []) (As := [.int (nI p0), .int (nI r)]) (rest := [.ref h]) ⟨hx, hb, hml, hown, fun _ h => absurd h List.not_mem_nil⟩ (m_MO_noRequirement l D cI cJ cZ cP cS h b th G C hs (nI p0) (nI r) rq) ⟨zc_B 2 hok c_MO_noRequirement_w t_10 t_821 rfl rfl (by decide +kernel) ⟨Nat.le_of_ble_eq_true rfl, Nat.le_of_ble_eq_true rfl⟩, hok _ t_823 rfl _, hok _ s_21 rfl _⟩ ⟨fun a U g mk q => by obtain ⟨q0, q2, qP, qK⟩ := q; exact ⟨q0, q2.call g mk a, qP, va_K.moved (u := U) (U := U.calling g mk a) (Vm.Alike.refl U.vm) qK⟩, va_recv hK hP (ci := 8) (q0 := 0) rfl rfl, fun U hU hW => ⟨rfl, hok.warm hW, by rw [hU]; exact hP.sub [0, 1] rfl, va_K.moved hW.alike hK⟩⟩ rfl rfl hl.1 rfl (lv_room (Nat.le_of_ble_eq_true rfl)) d_MO_allow_4 ⟨Nat.le_of_ble_eq_true rfl, Nat.le_of_ble_eq_true rfl⟩) ?_
  refine W.eq (g2 := F0 m 7 ls [.int (zb (ynr rq (nI p0) (nI r))), .ref h]) rfl ?_
  refine lv_if_ne (tgt := 18) hx hb d_MO_allow_7 (by decide) (fun h7 => ?_) (fun h7 => ?_)
  · refine lv_iconst (v := 1) hx hb d_MO_allow_18 (by decide) ?_
    refine lv_goto (tgt := 23) hx hb d_MO_allow_19 (by decide) ?_
    have e9 : yta rq C (nI p0) (nI r) (nI c0) = 1 := by first | (simp [yta, h7]; done)
    exact absurd (ht.symm.trans e9) (by decide)
  · refine lv_aload_n hx hb d_MO_allow_10 rfl (lv_at hl 0 rfl) ?_
    refine lv_iload_n hx hb d_MO_allow_11 rfl (lv_at hl 3 rfl) ?_
    refine zc_read (va_runV (Ts := []) (As := [.int (nI c0)]) (rest := [.ref h]) ⟨hx, hb, hml, hown, fun _ h => absurd h List.not_mem_nil⟩ (m_MO_noCourse l D cI cJ cZ cP cS h b th G C hs (nI c0)) ⟨zc_B 1 hok c_MO_noCourse_w t_10 t_802 rfl rfl (by decide +kernel) ⟨Nat.le_of_ble_eq_true rfl, Nat.le_of_ble_eq_true rfl⟩, hok _ t_804 rfl _, hok _ s_20 rfl _⟩ ⟨fun a U g mk q => by obtain ⟨q0, q2, qP, qK⟩ := q; exact ⟨q0, q2.call g mk a, qP, va_K.moved (u := U) (U := U.calling g mk a) (Vm.Alike.refl U.vm) qK⟩, va_recv hK hP (ci := 8) (q0 := 0) rfl rfl, fun U hU hW => ⟨rfl, hok.warm hW, by rw [hU]; exact hP.sub [0] rfl, va_K.moved hW.alike hK⟩⟩ rfl rfl hl.1 rfl (lv_room (Nat.le_of_ble_eq_true rfl)) d_MO_allow_12 ⟨Nat.le_of_ble_eq_true rfl, Nat.le_of_ble_eq_true rfl⟩) ?_
    refine W.eq (g2 := F0 m 15 ls [.int (zb (yng C (nI c0))), .ref h]) rfl ?_
    refine lv_if_eq (tgt := 22) hx hb d_MO_allow_15 (by decide) (fun h15 => ?_) (fun h15 => ?_)
    · refine lv_iconst (v := 0) hx hb d_MO_allow_22 (by decide) ?_
      have e9 : yta rq C (nI p0) (nI r) (nI c0) = 0 := by first | (simp [yta, h7, h15]; done)
      refine va_put (D := D) (ci := 8) (v := .int 0) (ty := .int) (C := R_MO) (T := F_MO) (N := 25) hx hb (tb_in hok in_MO) (fun w h => h) g_MO g_MO_ok n_MO hown hK hP hD hS 0 rfl rfl 0 (by decide) (hok _ t_705 rfl _) (fun _ h9 => h9) rfl (by decide +kernel) rfl rfl (Nat.le_of_ble_eq_true rfl) d_MO_allow_23 (fun H locs hP hD hS => ?_)
      have hP : va_P D cls [(h, .inr (8, [.int 0, .int (nI G), .ref (b 0), .ref (b 1), .int (nI C), .ref (b 2), .ref (b 3), .ref (b 4), .ref (b 5), .ref (b 6), .ref (b 7), .ref (b 8), .ref (b 9), .ref (b 10), .ref (b 11), .ref (b 12), .ref (b 13), .ref (b 14), .ref (b 15), .ref (b 16), .ref (b 17), .ref (b 18), .int (zb hs), .ref (b 19), .ref (b 20)])), ((b 5), .inl (cI, 3, .inl (fun j => nI (rq j)))), ((b 7), .inl (cI, 18, .inl al))] H := hP
      have hD : va_D A [(h, .inr (8, [.int 0, .int (nI G), .ref (b 0), .ref (b 1), .int (nI C), .ref (b 2), .ref (b 3), .ref (b 4), .ref (b 5), .ref (b 6), .ref (b 7), .ref (b 8), .ref (b 9), .ref (b 10), .ref (b 11), .ref (b 12), .ref (b 13), .ref (b 14), .ref (b 15), .ref (b 16), .ref (b 17), .ref (b 18), .int (zb hs), .ref (b 19), .ref (b 20)])), ((b 5), .inl (cI, 3, .inl (fun j => nI (rq j)))), ((b 7), .inl (cI, 18, .inl al))] := hD
      refine lv_aload_n hx hb d_MO_allow_26 rfl (lv_at hl 0 rfl) ?_
      refine va_get (D := D) (ci := 8) (v := .int 0) (C := R_MO) (T := F_MO) (N := 25) hx hb (tb_in hok in_MO) (fun w h => h) hown hK hP 0 rfl rfl 0 (by decide) (hok _ t_705 rfl _) (fun _ h9 => h9) rfl d_MO_allow_27 ?_
      refine lv_if_le (tgt := 35) hx hb d_MO_allow_30 (by decide) (fun h30 => ?_) (fun h30 => absurd (show (0 : Int32) ≤ 0 by decide) h30)
      refine lv_bipush (v := 6) hx hb d_MO_allow_35 (by decide) ?_
      refine lv_iload_n hx hb d_MO_allow_37 rfl (lv_at hl 1 rfl) ?_
      refine lv_imul hx hb d_MO_allow_38 ?_
      refine lv_iload_n hx hb d_MO_allow_39 rfl (lv_at hl 2 rfl) ?_
      refine lv_iadd hx hb d_MO_allow_40 ?_
      refine W.eq (g2 := F0 m 41 ls [.int (nI (6 * p0 + r))]) (by rw [show ((((6 : Int32) * (nI p0)) + (nI r)) : Int32) = nI (6 * p0 + r) from (by rw [show (6 : Int32) = nI 6 from rfl, pk_mul, nI_add])]) ?_
      refine lv_istore hx hb d_MO_allow_41 hl (by decide) rfl (fun ls hl => ?_)
      have hl : lv_has ls 6 [(4, .int (nI (6 * p0 + r))), (0, .ref h), (1, .int (nI p0)), (2, .int (nI r)), (3, .int (nI c0))] := hl
      refine lv_aload_n hx hb d_MO_allow_43 rfl (lv_at hl 1 rfl) ?_
      refine va_get (D := D) (ci := 8) (v := .ref (b 7)) (C := R_MO) (T := F_MO) (N := 25) hx hb (tb_in hok in_MO) (fun w h => h) hown hK hP 0 rfl rfl 10 (by decide) (hok _ t_715 rfl _) (fun _ h9 => h9) rfl d_MO_allow_44 ?_
      refine lv_iload hx hb d_MO_allow_47 (lv_at hl 0 rfl) ?_
      refine va_iald hx hb hK hP 2 0 rfl rfl (vp_in_nI (by omega) (by omega)) d_MO_allow_49 ?_
      rw [nI_clamp (show (6 * p0 + r) < 2 ^ 31 from by omega)]
      refine lv_iload_n hx hb d_MO_allow_50 rfl (lv_at hl 4 rfl) ?_
      refine lv_ishr hx hb d_MO_allow_51 ?_
      refine lv_iconst (v := 1) hx hb d_MO_allow_52 (by decide) ?_
      refine lv_iand hx hb d_MO_allow_53 ?_
      refine lv_if_ne (tgt := 61) hx hb d_MO_allow_54 (by decide) (fun h54 => ?_) (fun h54 => ?_)
      · refine lv_iconst (v := 0) hx hb d_MO_allow_61 (by decide) ?_
        refine lv_istore hx hb d_MO_allow_62 hl (by decide) rfl (fun ls hl => ?_)
        have hl : lv_has ls 6 [(5, .int 0), (4, .int (nI (6 * p0 + r))), (0, .ref h), (1, .int (nI p0)), (2, .int (nI r)), (3, .int (nI c0))] := hl
        refine lv_aload_n hx hb d_MO_allow_64 rfl (lv_at hl 2 rfl) ?_
        refine va_get (D := D) (ci := 8) (v := .ref (b 7)) (C := R_MO) (T := F_MO) (N := 25) hx hb (tb_in hok in_MO) (fun w h => h) hown hK hP 0 rfl rfl 10 (by decide) (hok _ t_715 rfl _) (fun _ h9 => h9) rfl d_MO_allow_65 ?_
        refine lv_iload hx hb d_MO_allow_68 (lv_at hl 1 rfl) ?_
        refine lv_aload_n hx hb d_MO_allow_70 rfl (lv_at hl 2 rfl) ?_
        refine va_get (D := D) (ci := 8) (v := .ref (b 7)) (C := R_MO) (T := F_MO) (N := 25) hx hb (tb_in hok in_MO) (fun w h => h) hown hK hP 0 rfl rfl 10 (by decide) (hok _ t_715 rfl _) (fun _ h9 => h9) rfl d_MO_allow_71 ?_
        refine lv_iload hx hb d_MO_allow_74 (lv_at hl 1 rfl) ?_
        refine va_iald hx hb hK hP 2 0 rfl rfl (vp_in_nI (by omega) (by omega)) d_MO_allow_76 ?_
        rw [nI_clamp (show (6 * p0 + r) < 2 ^ 31 from by omega)]
        refine lv_iconst (v := 1) hx hb d_MO_allow_77 (by decide) ?_
        refine lv_iload_n hx hb d_MO_allow_78 rfl (lv_at hl 5 rfl) ?_
        refine lv_ishl hx hb d_MO_allow_79 ?_
        refine lv_ior hx hb d_MO_allow_80 ?_
        refine va_iast hx hb hK hP hD hS 2 0 rfl rfl (vp_in_nI (by omega) (by omega)) d_MO_allow_81 (fun H locs hP hD hS => ?_)
        rw [nI_clamp (show (6 * p0 + r) < 2 ^ 31 from by omega)] at hP hD
        have hP : va_P D cls [(h, .inr (8, [.int 0, .int (nI G), .ref (b 0), .ref (b 1), .int (nI C), .ref (b 2), .ref (b 3), .ref (b 4), .ref (b 5), .ref (b 6), .ref (b 7), .ref (b 8), .ref (b 9), .ref (b 10), .ref (b 11), .ref (b 12), .ref (b 13), .ref (b 14), .ref (b 15), .ref (b 16), .ref (b 17), .ref (b 18), .int (zb hs), .ref (b 19), .ref (b 20)])), ((b 5), .inl (cI, 3, .inl (fun j => nI (rq j)))), ((b 7), .inl (cI, 18, .inl (upd al (6 * p0 + r) ((al (6 * p0 + r)) ||| (1 <<< ((nI c0) &&& 31))))))] H := hP
        have hD : va_D A [(h, .inr (8, [.int 0, .int (nI G), .ref (b 0), .ref (b 1), .int (nI C), .ref (b 2), .ref (b 3), .ref (b 4), .ref (b 5), .ref (b 6), .ref (b 7), .ref (b 8), .ref (b 9), .ref (b 10), .ref (b 11), .ref (b 12), .ref (b 13), .ref (b 14), .ref (b 15), .ref (b 16), .ref (b 17), .ref (b 18), .int (zb hs), .ref (b 19), .ref (b 20)])), ((b 5), .inl (cI, 3, .inl (fun j => nI (rq j)))), ((b 7), .inl (cI, 18, .inl (upd al (6 * p0 + r) ((al (6 * p0 + r)) ||| (1 <<< ((nI c0) &&& 31))))))] := hD
        refine lv_iload hx hb d_MO_allow_82 (lv_at hl 0 rfl) ?_
        refine W.eq (g2 := F0 m 84 ls [.int (zb (! zh (al (6 * p0 + r)) (nI c0)))]) (by rw [show zh (al (6 * p0 + r)) (nI c0) = true from decide_eq_true h54]; rfl) ?_
        exact W.zret hx hb hr (z_zb _) (fun t ht _ => ⟨⟨rfl, by rw [ht]; exact hP, hD⟩, hS.F ht⟩) hS.2.2 d_MO_allow_84
      · refine lv_iconst (v := 1) hx hb d_MO_allow_57 (by decide) ?_
        refine lv_goto (tgt := 62) hx hb d_MO_allow_58 (by decide) ?_
        refine lv_istore hx hb d_MO_allow_62 hl (by decide) rfl (fun ls hl => ?_)
        have hl : lv_has ls 6 [(5, .int 1), (4, .int (nI (6 * p0 + r))), (0, .ref h), (1, .int (nI p0)), (2, .int (nI r)), (3, .int (nI c0))] := hl
        refine lv_aload_n hx hb d_MO_allow_64 rfl (lv_at hl 2 rfl) ?_
        refine va_get (D := D) (ci := 8) (v := .ref (b 7)) (C := R_MO) (T := F_MO) (N := 25) hx hb (tb_in hok in_MO) (fun w h => h) hown hK hP 0 rfl rfl 10 (by decide) (hok _ t_715 rfl _) (fun _ h9 => h9) rfl d_MO_allow_65 ?_
        refine lv_iload hx hb d_MO_allow_68 (lv_at hl 1 rfl) ?_
        refine lv_aload_n hx hb d_MO_allow_70 rfl (lv_at hl 2 rfl) ?_
        refine va_get (D := D) (ci := 8) (v := .ref (b 7)) (C := R_MO) (T := F_MO) (N := 25) hx hb (tb_in hok in_MO) (fun w h => h) hown hK hP 0 rfl rfl 10 (by decide) (hok _ t_715 rfl _) (fun _ h9 => h9) rfl d_MO_allow_71 ?_
        refine lv_iload hx hb d_MO_allow_74 (lv_at hl 1 rfl) ?_
        refine va_iald hx hb hK hP 2 0 rfl rfl (vp_in_nI (by omega) (by omega)) d_MO_allow_76 ?_
        rw [nI_clamp (show (6 * p0 + r) < 2 ^ 31 from by omega)]
        refine lv_iconst (v := 1) hx hb d_MO_allow_77 (by decide) ?_
        refine lv_iload_n hx hb d_MO_allow_78 rfl (lv_at hl 5 rfl) ?_
        refine lv_ishl hx hb d_MO_allow_79 ?_
        refine lv_ior hx hb d_MO_allow_80 ?_
        refine va_iast hx hb hK hP hD hS 2 0 rfl rfl (vp_in_nI (by omega) (by omega)) d_MO_allow_81 (fun H locs hP hD hS => ?_)
        rw [nI_clamp (show (6 * p0 + r) < 2 ^ 31 from by omega)] at hP hD
        have hP : va_P D cls [(h, .inr (8, [.int 0, .int (nI G), .ref (b 0), .ref (b 1), .int (nI C), .ref (b 2), .ref (b 3), .ref (b 4), .ref (b 5), .ref (b 6), .ref (b 7), .ref (b 8), .ref (b 9), .ref (b 10), .ref (b 11), .ref (b 12), .ref (b 13), .ref (b 14), .ref (b 15), .ref (b 16), .ref (b 17), .ref (b 18), .int (zb hs), .ref (b 19), .ref (b 20)])), ((b 5), .inl (cI, 3, .inl (fun j => nI (rq j)))), ((b 7), .inl (cI, 18, .inl (upd al (6 * p0 + r) ((al (6 * p0 + r)) ||| (1 <<< ((nI c0) &&& 31))))))] H := hP
        have hD : va_D A [(h, .inr (8, [.int 0, .int (nI G), .ref (b 0), .ref (b 1), .int (nI C), .ref (b 2), .ref (b 3), .ref (b 4), .ref (b 5), .ref (b 6), .ref (b 7), .ref (b 8), .ref (b 9), .ref (b 10), .ref (b 11), .ref (b 12), .ref (b 13), .ref (b 14), .ref (b 15), .ref (b 16), .ref (b 17), .ref (b 18), .int (zb hs), .ref (b 19), .ref (b 20)])), ((b 5), .inl (cI, 3, .inl (fun j => nI (rq j)))), ((b 7), .inl (cI, 18, .inl (upd al (6 * p0 + r) ((al (6 * p0 + r)) ||| (1 <<< ((nI c0) &&& 31))))))] := hD
        refine lv_iload hx hb d_MO_allow_82 (lv_at hl 0 rfl) ?_
        refine W.eq (g2 := F0 m 84 ls [.int (zb (! zh (al (6 * p0 + r)) (nI c0)))]) (by rw [show zh (al (6 * p0 + r)) (nI c0) = false from decide_eq_false (fun z => z h54)]; rfl) ?_
        exact W.zret hx hb hr (z_zb _) (fun t ht _ => ⟨⟨rfl, by rw [ht]; exact hP, hD⟩, hS.F ht⟩) hS.2.2 d_MO_allow_84
    · refine lv_iconst (v := 1) hx hb d_MO_allow_18 (by decide) ?_
      refine lv_goto (tgt := 23) hx hb d_MO_allow_19 (by decide) ?_
      have e9 : yta rq C (nI p0) (nI r) (nI c0) = 1 := by first | (simp [yta, h7, h15]; done)
      exact absurd (ht.symm.trans e9) (by decide)
set_option maxHeartbeats 4000000 in
set_option maxRecDepth 100000 in
theorem m_MO_allow_bad (l : Launch) (D : va_G) (cI cJ cZ cP cS : ClassId) (h : Nat) (b : Nat → Nat) (th : Int32) (G C : Nat) (hs : Bool) (x r d : Int32) (rq : Nat → Nat) (t : Int32) (ht : yta rq C x r d = t) (hn : ¬ t = 0) (sz : Nat) : Met l y_MO_allow [Cond.code y_MO_allow b_MO_allow 6 (some .boolean)] ro_MO_allow (va_Pc [.ref h, .int x, .int r, .int d] (fun U => U.heap.size = sz ∧ tb_ok U ∧ va_P D cls [(h, .inr (8, [.int th, .int (nI G), .ref (b 0), .ref (b 1), .int (nI C), .ref (b 2), .ref (b 3), .ref (b 4), .ref (b 5), .ref (b 6), .ref (b 7), .ref (b 8), .ref (b 9), .ref (b 10), .ref (b 11), .ref (b 12), .ref (b 13), .ref (b 14), .ref (b 15), .ref (b 16), .ref (b 17), .ref (b 18), .int (zb hs), .ref (b 19), .ref (b 20)])), ((b 5), .inl (cI, 3, .inl (fun j => nI (rq j))))] U.heap ∧ va_K D cls (tyl cI cJ cZ cP cS) U ∧ va_D (fun _ => True) [(h, .inr (8, [.int th, .int (nI G), .ref (b 0), .ref (b 1), .int (nI C), .ref (b 2), .ref (b 3), .ref (b 4), .ref (b 5), .ref (b 6), .ref (b 7), .ref (b 8), .ref (b 9), .ref (b 10), .ref (b 11), .ref (b 12), .ref (b 13), .ref (b 14), .ref (b 15), .ref (b 16), .ref (b 17), .ref (b 18), .int (zb hs), .ref (b 19), .ref (b 20)])), ((b 5), .inl (cI, 3, .inl (fun j => nI (rq j))))])) (zv (some (.int (zb false))) D [(h, .inr (8, [.int t, .int (nI G), .ref (b 0), .ref (b 1), .int (nI C), .ref (b 2), .ref (b 3), .ref (b 4), .ref (b 5), .ref (b 6), .ref (b 7), .ref (b 8), .ref (b 9), .ref (b 10), .ref (b 11), .ref (b 12), .ref (b 13), .ref (b 14), .ref (b 15), .ref (b 16), .ref (b 17), .ref (b 18), .int (zb hs), .ref (b 19), .ref (b 20)])), ((b 5), .inl (cI, 3, .inl (fun j => nI (rq j))))] (va_A [(h, .inr (8, [.int th, .int (nI G), .ref (b 0), .ref (b 1), .int (nI C), .ref (b 2), .ref (b 3), .ref (b 4), .ref (b 5), .ref (b 6), .ref (b 7), .ref (b 8), .ref (b 9), .ref (b 10), .ref (b 11), .ref (b 12), .ref (b 13), .ref (b 14), .ref (b 15), .ref (b 16), .ref (b 17), .ref (b 18), .int (zb hs), .ref (b 19), .ref (b 20)])), ((b 5), .inl (cI, 3, .inl (fun j => nI (rq j))))] sz)) 0 0 (va_A [(h, .inr (8, [.int th, .int (nI G), .ref (b 0), .ref (b 1), .int (nI C), .ref (b 2), .ref (b 3), .ref (b 4), .ref (b 5), .ref (b 6), .ref (b 7), .ref (b 8), .ref (b 9), .ref (b 10), .ref (b 11), .ref (b 12), .ref (b 13), .ref (b 14), .ref (b 15), .ref (b 16), .ref (b 17), .ref (b 18), .int (zb hs), .ref (b 19), .ref (b 20)])), ((b 5), .inl (cI, 3, .inl (fun j => nI (rq j))))] sz) := by
  refine Met.ofW (cc := b_MO_allow) (maxL := 6) (ret := (some .boolean)) (by decide +kernel) rfl ?_
  intro p e s m args below meth c s₁ B hml hv
  obtain ⟨rfl, hsz, hok, hP, hK, hD0⟩ := hv
  have hx := B.exec
  have hb := B.bytes
  have hr := B.returns
  have hown : s.vm.findClass "StudyAuditModel" = some m.cls := findClass_of_methodNamed B.named
  have hlocks := B.notSynchronized
  subst hsz
  have hD := hD0.self (sz := s.heap.size)
  generalize hAe : va_A [(h, .inr (8, [.int th, .int (nI G), .ref (b 0), .ref (b 1), .int (nI C), .ref (b 2), .ref (b 3), .ref (b 4), .ref (b 5), .ref (b 6), .ref (b 7), .ref (b 8), .ref (b 9), .ref (b 10), .ref (b 11), .ref (b 12), .ref (b 13), .ref (b 14), .ref (b 15), .ref (b 16), .ref (b 17), .ref (b 18), .int (zb hs), .ref (b 19), .ref (b 20)])), ((b 5), .inl (cI, 3, .inl (fun j => nI (rq j))))] s.heap.size = A at hD ⊢
  have hA : ∀ q : Nat, s.heap.size ≤ q → A q := fun q h => by rw [← hAe]; exact Or.inr h
  have hS : va_S A s.heap s.heap [] := va_S.rf
  have hl := lv_entry ([.ref h, .int x, .int r, .int d]) (n := 6) (Nat.le_of_ble_eq_true rfl)
  rw [lg_entry_eq]
  generalize (lg_sl ([.ref h, .int x, .int r, .int d]) ++ List.replicate (6 - (lg_sl ([.ref h, .int x, .int r, .int d])).length) Slot.unset).toArray = ls at hl ⊢
  have hl : lv_has ls 6 [(0, .ref h), (1, .int x), (2, .int r), (3, .int d)] := hl
  refine lv_aload_n hx hb d_MO_allow_0 rfl (lv_at hl 0 rfl) ?_
  refine lv_aload_n hx hb d_MO_allow_1 rfl (lv_at hl 0 rfl) ?_
  refine lv_iload_n hx hb d_MO_allow_2 rfl (lv_at hl 1 rfl) ?_
  refine lv_iload_n hx hb d_MO_allow_3 rfl (lv_at hl 2 rfl) ?_
  refine zc_read (va_runV (Ts := []) (As := [.int x, .int r]) (rest := [.ref h]) ⟨hx, hb, hml, hown, fun _ h => absurd h List.not_mem_nil⟩ (m_MO_noRequirement l D cI cJ cZ cP cS h b th G C hs x r rq) ⟨zc_B 2 hok c_MO_noRequirement_w t_10 t_821 rfl rfl (by decide +kernel) ⟨Nat.le_of_ble_eq_true rfl, Nat.le_of_ble_eq_true rfl⟩, hok _ t_823 rfl _, hok _ s_21 rfl _⟩ ⟨fun a U g mk q => by obtain ⟨q0, q2, qP, qK⟩ := q; exact ⟨q0, q2.call g mk a, qP, va_K.moved (u := U) (U := U.calling g mk a) (Vm.Alike.refl U.vm) qK⟩, va_recv hK hP (ci := 8) (q0 := 0) rfl rfl, fun U hU hW => ⟨rfl, hok.warm hW, by rw [hU]; exact hP.sub [0, 1] rfl, va_K.moved hW.alike hK⟩⟩ rfl rfl hl.1 rfl (lv_room (Nat.le_of_ble_eq_true rfl)) d_MO_allow_4 ⟨Nat.le_of_ble_eq_true rfl, Nat.le_of_ble_eq_true rfl⟩) ?_
  refine W.eq (g2 := F0 m 7 ls [.int (zb (ynr rq x r)), .ref h]) rfl ?_
  refine lv_if_ne (tgt := 18) hx hb d_MO_allow_7 (by decide) (fun h7 => ?_) (fun h7 => ?_)
  · refine lv_iconst (v := 1) hx hb d_MO_allow_18 (by decide) ?_
    refine lv_goto (tgt := 23) hx hb d_MO_allow_19 (by decide) ?_
    have e9 : yta rq C x r d = 1 := by first | (simp [yta, h7]; done)
    obtain rfl : t = 1 := ht.symm.trans e9
    refine va_put (D := D) (ci := 8) (v := .int 1) (ty := .int) (C := R_MO) (T := F_MO) (N := 25) hx hb (tb_in hok in_MO) (fun w h => h) g_MO g_MO_ok n_MO hown hK hP hD hS 0 rfl rfl 0 (by decide) (hok _ t_705 rfl _) (fun _ h9 => h9) rfl (by decide +kernel) rfl rfl (Nat.le_of_ble_eq_true rfl) d_MO_allow_23 (fun H locs hP hD hS => ?_)
    have hP : va_P D cls [(h, .inr (8, [.int 1, .int (nI G), .ref (b 0), .ref (b 1), .int (nI C), .ref (b 2), .ref (b 3), .ref (b 4), .ref (b 5), .ref (b 6), .ref (b 7), .ref (b 8), .ref (b 9), .ref (b 10), .ref (b 11), .ref (b 12), .ref (b 13), .ref (b 14), .ref (b 15), .ref (b 16), .ref (b 17), .ref (b 18), .int (zb hs), .ref (b 19), .ref (b 20)])), ((b 5), .inl (cI, 3, .inl (fun j => nI (rq j))))] H := hP
    have hD : va_D A [(h, .inr (8, [.int 1, .int (nI G), .ref (b 0), .ref (b 1), .int (nI C), .ref (b 2), .ref (b 3), .ref (b 4), .ref (b 5), .ref (b 6), .ref (b 7), .ref (b 8), .ref (b 9), .ref (b 10), .ref (b 11), .ref (b 12), .ref (b 13), .ref (b 14), .ref (b 15), .ref (b 16), .ref (b 17), .ref (b 18), .int (zb hs), .ref (b 19), .ref (b 20)])), ((b 5), .inl (cI, 3, .inl (fun j => nI (rq j))))] := hD
    refine lv_aload_n hx hb d_MO_allow_26 rfl (lv_at hl 0 rfl) ?_
    refine va_get (D := D) (ci := 8) (v := .int 1) (C := R_MO) (T := F_MO) (N := 25) hx hb (tb_in hok in_MO) (fun w h => h) hown hK hP 0 rfl rfl 0 (by decide) (hok _ t_705 rfl _) (fun _ h9 => h9) rfl d_MO_allow_27 ?_
    refine lv_if_le (tgt := 35) hx hb d_MO_allow_30 (by decide) (fun h30 => absurd h30 (show ¬ (1 : Int32) ≤ 0 by decide)) (fun h30 => ?_)
    refine lv_iconst (v := 0) hx hb d_MO_allow_33 (by decide) ?_
    exact W.zret hx hb hr (by decide) (fun t ht _ => ⟨⟨rfl, by rw [ht]; exact hP, hD⟩, hS.F ht⟩) hS.2.2 d_MO_allow_34
  · refine lv_aload_n hx hb d_MO_allow_10 rfl (lv_at hl 0 rfl) ?_
    refine lv_iload_n hx hb d_MO_allow_11 rfl (lv_at hl 3 rfl) ?_
    refine zc_read (va_runV (Ts := []) (As := [.int d]) (rest := [.ref h]) ⟨hx, hb, hml, hown, fun _ h => absurd h List.not_mem_nil⟩ (m_MO_noCourse l D cI cJ cZ cP cS h b th G C hs d) ⟨zc_B 1 hok c_MO_noCourse_w t_10 t_802 rfl rfl (by decide +kernel) ⟨Nat.le_of_ble_eq_true rfl, Nat.le_of_ble_eq_true rfl⟩, hok _ t_804 rfl _, hok _ s_20 rfl _⟩ ⟨fun a U g mk q => by obtain ⟨q0, q2, qP, qK⟩ := q; exact ⟨q0, q2.call g mk a, qP, va_K.moved (u := U) (U := U.calling g mk a) (Vm.Alike.refl U.vm) qK⟩, va_recv hK hP (ci := 8) (q0 := 0) rfl rfl, fun U hU hW => ⟨rfl, hok.warm hW, by rw [hU]; exact hP.sub [0] rfl, va_K.moved hW.alike hK⟩⟩ rfl rfl hl.1 rfl (lv_room (Nat.le_of_ble_eq_true rfl)) d_MO_allow_12 ⟨Nat.le_of_ble_eq_true rfl, Nat.le_of_ble_eq_true rfl⟩) ?_
    refine W.eq (g2 := F0 m 15 ls [.int (zb (yng C d)), .ref h]) rfl ?_
    refine lv_if_eq (tgt := 22) hx hb d_MO_allow_15 (by decide) (fun h15 => ?_) (fun h15 => ?_)
    · refine lv_iconst (v := 0) hx hb d_MO_allow_22 (by decide) ?_
      have e9 : yta rq C x r d = 0 := by first | (simp [yta, h7, h15]; done)
      exact absurd (ht.symm.trans e9) hn
    · refine lv_iconst (v := 1) hx hb d_MO_allow_18 (by decide) ?_
      refine lv_goto (tgt := 23) hx hb d_MO_allow_19 (by decide) ?_
      have e9 : yta rq C x r d = 1 := by first | (simp [yta, h7, h15]; done)
      obtain rfl : t = 1 := ht.symm.trans e9
      refine va_put (D := D) (ci := 8) (v := .int 1) (ty := .int) (C := R_MO) (T := F_MO) (N := 25) hx hb (tb_in hok in_MO) (fun w h => h) g_MO g_MO_ok n_MO hown hK hP hD hS 0 rfl rfl 0 (by decide) (hok _ t_705 rfl _) (fun _ h9 => h9) rfl (by decide +kernel) rfl rfl (Nat.le_of_ble_eq_true rfl) d_MO_allow_23 (fun H locs hP hD hS => ?_)
      have hP : va_P D cls [(h, .inr (8, [.int 1, .int (nI G), .ref (b 0), .ref (b 1), .int (nI C), .ref (b 2), .ref (b 3), .ref (b 4), .ref (b 5), .ref (b 6), .ref (b 7), .ref (b 8), .ref (b 9), .ref (b 10), .ref (b 11), .ref (b 12), .ref (b 13), .ref (b 14), .ref (b 15), .ref (b 16), .ref (b 17), .ref (b 18), .int (zb hs), .ref (b 19), .ref (b 20)])), ((b 5), .inl (cI, 3, .inl (fun j => nI (rq j))))] H := hP
      have hD : va_D A [(h, .inr (8, [.int 1, .int (nI G), .ref (b 0), .ref (b 1), .int (nI C), .ref (b 2), .ref (b 3), .ref (b 4), .ref (b 5), .ref (b 6), .ref (b 7), .ref (b 8), .ref (b 9), .ref (b 10), .ref (b 11), .ref (b 12), .ref (b 13), .ref (b 14), .ref (b 15), .ref (b 16), .ref (b 17), .ref (b 18), .int (zb hs), .ref (b 19), .ref (b 20)])), ((b 5), .inl (cI, 3, .inl (fun j => nI (rq j))))] := hD
      refine lv_aload_n hx hb d_MO_allow_26 rfl (lv_at hl 0 rfl) ?_
      refine va_get (D := D) (ci := 8) (v := .int 1) (C := R_MO) (T := F_MO) (N := 25) hx hb (tb_in hok in_MO) (fun w h => h) hown hK hP 0 rfl rfl 0 (by decide) (hok _ t_705 rfl _) (fun _ h9 => h9) rfl d_MO_allow_27 ?_
      refine lv_if_le (tgt := 35) hx hb d_MO_allow_30 (by decide) (fun h30 => absurd h30 (show ¬ (1 : Int32) ≤ 0 by decide)) (fun h30 => ?_)
      refine lv_iconst (v := 0) hx hb d_MO_allow_33 (by decide) ?_
      exact W.zret hx hb hr (by decide) (fun t ht _ => ⟨⟨rfl, by rw [ht]; exact hP, hD⟩, hS.F ht⟩) hS.2.2 d_MO_allow_34
def yts (x y : Int32) : Int32 := if ¬ zb (yns x) = 0 ∨ ¬ zb (ynp y) = 0 then 1 else 0
def yex (ex : Nat → Int32) (s0 : Nat) : Nat → (Nat → Int32)
  | 0 => ex
  | i + 1 => upd (yex ex s0 i) (6 * s0 + i) 0
abbrev ro_MO_student : Room := { frames := 1, cells := 0, slots := 0, locals := 20 }
set_option maxHeartbeats 4000000 in
set_option maxRecDepth 100000 in
theorem lo_student {l : Launch} {p : Program} {e : Env} {s : State} {m : MethodId} {args : Array Value} {below : List Frame} {meth : Method} {c : Code} {H0 : Heap} {A : Nat → Prop} {Q : State → Prop} (D : va_G) (cI cJ cZ cP cS : ClassId) (h : Nat) (b : Nat → Nat) (G C : Nat) (hs : Bool) (s0 : Nat) (pv : Int32) (pg ex : Nat → Int32) (hx : p.tables.exec = Jvm.exec) (hb : c.code = b_MO_student) (hml : c.maxLocals = 5) (hown : s.vm.findClass "StudyAuditModel" = some m.cls) (hok : tb_ok s) (hK : va_K D cls (tyl cI cJ cZ cP cS) s) (hA : ∀ q : Nat, H0.size ≤ q → A q) (hs0 : s0 < 4)
    (kk : ∀ (ls : Array Slot) (H : Heap) (locs : List Loc), lv_has ls 5 [(0, .ref h), (1, .int (nI s0)), (3, .int pv), (4, .int (nI 6))] → va_P D cls [(h, .inr (8, [.int 0, .int (nI G), .ref (b 0), .ref (b 1), .int (nI C), .ref (b 2), .ref (b 3), .ref (b 4), .ref (b 5), .ref (b 6), .ref (b 7), .ref (b 8), .ref (b 9), .ref (b 10), .ref (b 11), .ref (b 12), .ref (b 13), .ref (b 14), .ref (b 15), .ref (b 16), .ref (b 17), .ref (b 18), .int (zb hs), .ref (b 19), .ref (b 20)])), ((b 8), .inl (cI, 4, .inl pg)), ((b 13), .inl (cI, 24, .inl (yex ex s0 6)))] H → va_D A [(h, .inr (8, [.int 0, .int (nI G), .ref (b 0), .ref (b 1), .int (nI C), .ref (b 2), .ref (b 3), .ref (b 4), .ref (b 5), .ref (b 6), .ref (b 7), .ref (b 8), .ref (b 9), .ref (b 10), .ref (b 11), .ref (b 12), .ref (b 13), .ref (b 14), .ref (b 15), .ref (b 16), .ref (b 17), .ref (b 18), .int (zb hs), .ref (b 19), .ref (b 20)])), ((b 8), .inl (cI, 4, .inl pg)), ((b 13), .inl (cI, 24, .inl (yex ex s0 6)))] → va_S A H0 H locs → W p l e ro_MO_student s m args below meth c H locs 0 0 Q (F0 m 75 ls [])) :
    ∀ (k i : Nat) (ls : Array Slot) (H : Heap) (locs : List Loc), 0 ≤ i → i + k = 6 → lv_has ls 5 [(0, .ref h), (1, .int (nI s0)), (3, .int pv), (4, .int (nI i))] → va_P D cls [(h, .inr (8, [.int 0, .int (nI G), .ref (b 0), .ref (b 1), .int (nI C), .ref (b 2), .ref (b 3), .ref (b 4), .ref (b 5), .ref (b 6), .ref (b 7), .ref (b 8), .ref (b 9), .ref (b 10), .ref (b 11), .ref (b 12), .ref (b 13), .ref (b 14), .ref (b 15), .ref (b 16), .ref (b 17), .ref (b 18), .int (zb hs), .ref (b 19), .ref (b 20)])), ((b 8), .inl (cI, 4, .inl pg)), ((b 13), .inl (cI, 24, .inl (yex ex s0 i)))] H → va_D A [(h, .inr (8, [.int 0, .int (nI G), .ref (b 0), .ref (b 1), .int (nI C), .ref (b 2), .ref (b 3), .ref (b 4), .ref (b 5), .ref (b 6), .ref (b 7), .ref (b 8), .ref (b 9), .ref (b 10), .ref (b 11), .ref (b 12), .ref (b 13), .ref (b 14), .ref (b 15), .ref (b 16), .ref (b 17), .ref (b 18), .int (zb hs), .ref (b 19), .ref (b 20)])), ((b 8), .inl (cI, 4, .inl pg)), ((b 13), .inl (cI, 24, .inl (yex ex s0 i)))] → va_S A H0 H locs → W p l e ro_MO_student s m args below meth c H locs 0 0 Q (F0 m 49 ls []) := by
  intro k
  induction k with
  | zero =>
    intro i ls H locs hi0 hik hl hP hD hS
    have hik : 6 = i := by omega
    subst hik
    refine lv_iload hx hb d_MO_student_49 (lv_at hl 3 rfl) ?_
    refine lv_bipush (v := 6) hx hb d_MO_student_51 (by decide) ?_
    refine lv_icmp_ge (tgt := 75) hx hb d_MO_student_53 (by decide) (fun h53 => ?_) (fun h53 => absurd (show nI 6 ≤ nI 6 from Int32.le_refl _) h53)
    exact kk ls H locs (lv_sub hl [0, 1, 2, 3] rfl) hP hD hS
  | succ k ih =>
    intro i ls H locs hi0 hik hl hP hD hS
    refine lv_iload hx hb d_MO_student_49 (lv_at hl 3 rfl) ?_
    refine lv_bipush (v := 6) hx hb d_MO_student_51 (by decide) ?_
    refine lv_icmp_ge (tgt := 75) hx hb d_MO_student_53 (by decide) (fun h53 => absurd h53 (show ¬ nI 6 ≤ nI i from nI_ge (by omega) (by omega))) (fun h53 => ?_)
    refine lv_aload_n hx hb d_MO_student_56 rfl (lv_at hl 0 rfl) ?_
    refine va_get (D := D) (ci := 8) (v := .ref (b 13)) (C := R_MO) (T := F_MO) (N := 25) hx hb (tb_in hok in_MO) (fun w h => h) hown hK hP 0 rfl rfl 16 (by decide) (hok _ t_721 rfl _) (fun _ h9 => h9) rfl d_MO_student_57 ?_
    refine lv_bipush (v := 6) hx hb d_MO_student_60 (by decide) ?_
    refine lv_iload_n hx hb d_MO_student_62 rfl (lv_at hl 1 rfl) ?_
    refine lv_imul hx hb d_MO_student_63 ?_
    refine lv_iload hx hb d_MO_student_64 (lv_at hl 3 rfl) ?_
    refine lv_iadd hx hb d_MO_student_66 ?_
    refine W.eq (g2 := F0 m 67 ls [.int (nI (6 * s0 + i)), .ref (b 13)]) (by rw [show ((((6 : Int32) * (nI s0)) + (nI i)) : Int32) = nI (6 * s0 + i) from (by rw [show (6 : Int32) = nI 6 from rfl, pk_mul, nI_add])]) ?_
    refine lv_iconst (v := 0) hx hb d_MO_student_67 (by decide) ?_
    refine va_iast hx hb hK hP hD hS 2 0 rfl rfl (vp_in_nI (by omega) (by omega)) d_MO_student_68 (fun H locs hP hD hS => ?_)
    rw [nI_clamp (show (6 * s0 + i) < 2 ^ 31 from by omega)] at hP hD
    have hP : va_P D cls [(h, .inr (8, [.int 0, .int (nI G), .ref (b 0), .ref (b 1), .int (nI C), .ref (b 2), .ref (b 3), .ref (b 4), .ref (b 5), .ref (b 6), .ref (b 7), .ref (b 8), .ref (b 9), .ref (b 10), .ref (b 11), .ref (b 12), .ref (b 13), .ref (b 14), .ref (b 15), .ref (b 16), .ref (b 17), .ref (b 18), .int (zb hs), .ref (b 19), .ref (b 20)])), ((b 8), .inl (cI, 4, .inl pg)), ((b 13), .inl (cI, 24, .inl (upd (yex ex s0 i) (6 * s0 + i) 0)))] H := hP
    have hD : va_D A [(h, .inr (8, [.int 0, .int (nI G), .ref (b 0), .ref (b 1), .int (nI C), .ref (b 2), .ref (b 3), .ref (b 4), .ref (b 5), .ref (b 6), .ref (b 7), .ref (b 8), .ref (b 9), .ref (b 10), .ref (b 11), .ref (b 12), .ref (b 13), .ref (b 14), .ref (b 15), .ref (b 16), .ref (b 17), .ref (b 18), .int (zb hs), .ref (b 19), .ref (b 20)])), ((b 8), .inl (cI, 4, .inl pg)), ((b 13), .inl (cI, 24, .inl (upd (yex ex s0 i) (6 * s0 + i) 0)))] := hD
    refine lv_iinc (v := (nI (i + 1))) hx hb d_MO_student_69 hl (k := 3) rfl (by rw [nI_succ]; rfl) (by decide) rfl (fun ls hl => ?_)
    have hl : lv_has ls 5 [(4, .int (nI (i + 1))), (0, .ref h), (1, .int (nI s0)), (3, .int pv)] := hl
    refine lv_goto (tgt := 49) hx hb d_MO_student_72 (by decide) ?_
    exact ih (i + 1) ls H locs (by omega) (by omega) (lv_sub hl [1, 2, 3, 0] rfl) hP hD hS
set_option maxHeartbeats 4000000 in
set_option maxRecDepth 100000 in
theorem m_MO_student_ok (l : Launch) (D : va_G) (cI cJ cZ cP cS : ClassId) (h : Nat) (b : Nat → Nat) (th : Int32) (G C : Nat) (hs : Bool) (s0 : Nat) (y : Int32) (pg ex : Nat → Int32) (hs0 : s0 < 4) (ht : yts (nI s0) y = 0) (sz : Nat) : Met l y_MO_student [Cond.code y_MO_student b_MO_student 5 (some .int)] ro_MO_student (va_Pc [.ref h, .int (nI s0), .int y] (fun U => U.heap.size = sz ∧ tb_ok U ∧ va_P D cls [(h, .inr (8, [.int th, .int (nI G), .ref (b 0), .ref (b 1), .int (nI C), .ref (b 2), .ref (b 3), .ref (b 4), .ref (b 5), .ref (b 6), .ref (b 7), .ref (b 8), .ref (b 9), .ref (b 10), .ref (b 11), .ref (b 12), .ref (b 13), .ref (b 14), .ref (b 15), .ref (b 16), .ref (b 17), .ref (b 18), .int (zb hs), .ref (b 19), .ref (b 20)])), ((b 8), .inl (cI, 4, .inl pg)), ((b 13), .inl (cI, 24, .inl ex))] U.heap ∧ va_K D cls (tyl cI cJ cZ cP cS) U ∧ va_D (fun _ => True) [(h, .inr (8, [.int th, .int (nI G), .ref (b 0), .ref (b 1), .int (nI C), .ref (b 2), .ref (b 3), .ref (b 4), .ref (b 5), .ref (b 6), .ref (b 7), .ref (b 8), .ref (b 9), .ref (b 10), .ref (b 11), .ref (b 12), .ref (b 13), .ref (b 14), .ref (b 15), .ref (b 16), .ref (b 17), .ref (b 18), .int (zb hs), .ref (b 19), .ref (b 20)])), ((b 8), .inl (cI, 4, .inl pg)), ((b 13), .inl (cI, 24, .inl ex))])) (zv (some (.int (pg s0))) D [(h, .inr (8, [.int 0, .int (nI G), .ref (b 0), .ref (b 1), .int (nI C), .ref (b 2), .ref (b 3), .ref (b 4), .ref (b 5), .ref (b 6), .ref (b 7), .ref (b 8), .ref (b 9), .ref (b 10), .ref (b 11), .ref (b 12), .ref (b 13), .ref (b 14), .ref (b 15), .ref (b 16), .ref (b 17), .ref (b 18), .int (zb hs), .ref (b 19), .ref (b 20)])), ((b 8), .inl (cI, 4, .inl (upd pg s0 y))), ((b 13), .inl (cI, 24, .inl (yex ex s0 6)))] (va_A [(h, .inr (8, [.int th, .int (nI G), .ref (b 0), .ref (b 1), .int (nI C), .ref (b 2), .ref (b 3), .ref (b 4), .ref (b 5), .ref (b 6), .ref (b 7), .ref (b 8), .ref (b 9), .ref (b 10), .ref (b 11), .ref (b 12), .ref (b 13), .ref (b 14), .ref (b 15), .ref (b 16), .ref (b 17), .ref (b 18), .int (zb hs), .ref (b 19), .ref (b 20)])), ((b 8), .inl (cI, 4, .inl pg)), ((b 13), .inl (cI, 24, .inl ex))] sz)) 0 0 (va_A [(h, .inr (8, [.int th, .int (nI G), .ref (b 0), .ref (b 1), .int (nI C), .ref (b 2), .ref (b 3), .ref (b 4), .ref (b 5), .ref (b 6), .ref (b 7), .ref (b 8), .ref (b 9), .ref (b 10), .ref (b 11), .ref (b 12), .ref (b 13), .ref (b 14), .ref (b 15), .ref (b 16), .ref (b 17), .ref (b 18), .int (zb hs), .ref (b 19), .ref (b 20)])), ((b 8), .inl (cI, 4, .inl pg)), ((b 13), .inl (cI, 24, .inl ex))] sz) := by
  refine Met.ofW (cc := b_MO_student) (maxL := 5) (ret := (some .int)) (by decide +kernel) rfl ?_
  intro p e s m args below meth c s₁ B hml hv
  obtain ⟨rfl, hsz, hok, hP, hK, hD0⟩ := hv
  have hx := B.exec
  have hb := B.bytes
  have hr := B.returns
  have hown : s.vm.findClass "StudyAuditModel" = some m.cls := findClass_of_methodNamed B.named
  have hlocks := B.notSynchronized
  subst hsz
  have hD := hD0.self (sz := s.heap.size)
  generalize hAe : va_A [(h, .inr (8, [.int th, .int (nI G), .ref (b 0), .ref (b 1), .int (nI C), .ref (b 2), .ref (b 3), .ref (b 4), .ref (b 5), .ref (b 6), .ref (b 7), .ref (b 8), .ref (b 9), .ref (b 10), .ref (b 11), .ref (b 12), .ref (b 13), .ref (b 14), .ref (b 15), .ref (b 16), .ref (b 17), .ref (b 18), .int (zb hs), .ref (b 19), .ref (b 20)])), ((b 8), .inl (cI, 4, .inl pg)), ((b 13), .inl (cI, 24, .inl ex))] s.heap.size = A at hD ⊢
  have hA : ∀ q : Nat, s.heap.size ≤ q → A q := fun q h => by rw [← hAe]; exact Or.inr h
  have hS : va_S A s.heap s.heap [] := va_S.rf
  have hl := lv_entry ([.ref h, .int (nI s0), .int y]) (n := 5) (Nat.le_of_ble_eq_true rfl)
  rw [lg_entry_eq]
  generalize (lg_sl ([.ref h, .int (nI s0), .int y]) ++ List.replicate (5 - (lg_sl ([.ref h, .int (nI s0), .int y])).length) Slot.unset).toArray = ls at hl ⊢
  have hl : lv_has ls 5 [(0, .ref h), (1, .int (nI s0)), (2, .int y)] := hl
  refine lv_aload_n hx hb d_MO_student_0 rfl (lv_at hl 0 rfl) ?_
  refine lv_iload_n hx hb d_MO_student_1 rfl (lv_at hl 1 rfl) ?_
  refine zc_read (va_runS (Ts := []) (As := [.int (nI s0)]) (rest := [.ref h]) ⟨hx, hb, hml, hown, fun _ h => absurd h List.not_mem_nil⟩ (m_MO_noStudent l (nI s0)) ⟨zc_B 1 hok c_MO_noStudent_w t_10 t_829 rfl rfl (by decide +kernel) ⟨Nat.le_of_ble_eq_true rfl, Nat.le_of_ble_eq_true rfl⟩, hok _ t_830 rfl _⟩ ⟨fun a U g mk q => by obtain ⟨q0, q2⟩ := q; exact ⟨q0, q2.call g mk a⟩, fun U hU hW => ⟨rfl, hok.warm hW⟩⟩ rfl rfl hl.1 rfl (lv_room (Nat.le_of_ble_eq_true rfl)) d_MO_student_2 ⟨Nat.le_of_ble_eq_true rfl, Nat.le_of_ble_eq_true rfl⟩) ?_
  refine W.eq (g2 := F0 m 5 ls [.int (zb (yns (nI s0))), .ref h]) rfl ?_
  refine lv_if_ne (tgt := 15) hx hb d_MO_student_5 (by decide) (fun h5 => ?_) (fun h5 => ?_)
  · refine lv_iconst (v := 1) hx hb d_MO_student_15 (by decide) ?_
    refine lv_goto (tgt := 20) hx hb d_MO_student_16 (by decide) ?_
    have e9 : yts (nI s0) y = 1 := by first | (simp [yts, h5]; done)
    exact absurd (ht.symm.trans e9) (by decide)
  · refine lv_iload_n hx hb d_MO_student_8 rfl (lv_at hl 2 rfl) ?_
    refine zc_read (va_runS (Ts := []) (As := [.int y]) (rest := [.ref h]) ⟨hx, hb, hml, hown, fun _ h => absurd h List.not_mem_nil⟩ (m_MO_noProgramme l y) ⟨zc_B 1 hok c_MO_noProgramme_w t_10 t_814 rfl rfl (by decide +kernel) ⟨Nat.le_of_ble_eq_true rfl, Nat.le_of_ble_eq_true rfl⟩, hok _ t_815 rfl _⟩ ⟨fun a U g mk q => by obtain ⟨q0, q2⟩ := q; exact ⟨q0, q2.call g mk a⟩, fun U hU hW => ⟨rfl, hok.warm hW⟩⟩ rfl rfl hl.1 rfl (lv_room (Nat.le_of_ble_eq_true rfl)) d_MO_student_9 ⟨Nat.le_of_ble_eq_true rfl, Nat.le_of_ble_eq_true rfl⟩) ?_
    refine W.eq (g2 := F0 m 12 ls [.int (zb (ynp y)), .ref h]) rfl ?_
    refine lv_if_eq (tgt := 19) hx hb d_MO_student_12 (by decide) (fun h12 => ?_) (fun h12 => ?_)
    · refine lv_iconst (v := 0) hx hb d_MO_student_19 (by decide) ?_
      have e9 : yts (nI s0) y = 0 := by first | (simp [yts, h5, h12]; done)
      refine va_put (D := D) (ci := 8) (v := .int 0) (ty := .int) (C := R_MO) (T := F_MO) (N := 25) hx hb (tb_in hok in_MO) (fun w h => h) g_MO g_MO_ok n_MO hown hK hP hD hS 0 rfl rfl 0 (by decide) (hok _ t_705 rfl _) (fun _ h9 => h9) rfl (by decide +kernel) rfl rfl (Nat.le_of_ble_eq_true rfl) d_MO_student_20 (fun H locs hP hD hS => ?_)
      have hP : va_P D cls [(h, .inr (8, [.int 0, .int (nI G), .ref (b 0), .ref (b 1), .int (nI C), .ref (b 2), .ref (b 3), .ref (b 4), .ref (b 5), .ref (b 6), .ref (b 7), .ref (b 8), .ref (b 9), .ref (b 10), .ref (b 11), .ref (b 12), .ref (b 13), .ref (b 14), .ref (b 15), .ref (b 16), .ref (b 17), .ref (b 18), .int (zb hs), .ref (b 19), .ref (b 20)])), ((b 8), .inl (cI, 4, .inl pg)), ((b 13), .inl (cI, 24, .inl ex))] H := hP
      have hD : va_D A [(h, .inr (8, [.int 0, .int (nI G), .ref (b 0), .ref (b 1), .int (nI C), .ref (b 2), .ref (b 3), .ref (b 4), .ref (b 5), .ref (b 6), .ref (b 7), .ref (b 8), .ref (b 9), .ref (b 10), .ref (b 11), .ref (b 12), .ref (b 13), .ref (b 14), .ref (b 15), .ref (b 16), .ref (b 17), .ref (b 18), .int (zb hs), .ref (b 19), .ref (b 20)])), ((b 8), .inl (cI, 4, .inl pg)), ((b 13), .inl (cI, 24, .inl ex))] := hD
      refine lv_aload_n hx hb d_MO_student_23 rfl (lv_at hl 0 rfl) ?_
      refine va_get (D := D) (ci := 8) (v := .int 0) (C := R_MO) (T := F_MO) (N := 25) hx hb (tb_in hok in_MO) (fun w h => h) hown hK hP 0 rfl rfl 0 (by decide) (hok _ t_705 rfl _) (fun _ h9 => h9) rfl d_MO_student_24 ?_
      refine lv_if_le (tgt := 32) hx hb d_MO_student_27 (by decide) (fun h27 => ?_) (fun h27 => absurd (show (0 : Int32) ≤ 0 by decide) h27)
      refine lv_aload_n hx hb d_MO_student_32 rfl (lv_at hl 0 rfl) ?_
      refine va_get (D := D) (ci := 8) (v := .ref (b 8)) (C := R_MO) (T := F_MO) (N := 25) hx hb (tb_in hok in_MO) (fun w h => h) hown hK hP 0 rfl rfl 11 (by decide) (hok _ t_716 rfl _) (fun _ h9 => h9) rfl d_MO_student_33 ?_
      refine lv_iload_n hx hb d_MO_student_36 rfl (lv_at hl 1 rfl) ?_
      refine va_iald hx hb hK hP 1 0 rfl rfl (vp_in_nI (by omega) (by omega)) d_MO_student_37 ?_
      rw [nI_clamp (show s0 < 2 ^ 31 from by omega)]
      refine lv_istore_n hx hb d_MO_student_38 rfl hl (by decide) rfl (fun ls hl => ?_)
      have hl : lv_has ls 5 [(3, .int (pg s0)), (0, .ref h), (1, .int (nI s0)), (2, .int y)] := hl
      refine lv_aload_n hx hb d_MO_student_39 rfl (lv_at hl 1 rfl) ?_
      refine va_get (D := D) (ci := 8) (v := .ref (b 8)) (C := R_MO) (T := F_MO) (N := 25) hx hb (tb_in hok in_MO) (fun w h => h) hown hK hP 0 rfl rfl 11 (by decide) (hok _ t_716 rfl _) (fun _ h9 => h9) rfl d_MO_student_40 ?_
      refine lv_iload_n hx hb d_MO_student_43 rfl (lv_at hl 2 rfl) ?_
      refine lv_iload_n hx hb d_MO_student_44 rfl (lv_at hl 3 rfl) ?_
      refine va_iast hx hb hK hP hD hS 1 0 rfl rfl (vp_in_nI (by omega) (by omega)) d_MO_student_45 (fun H locs hP hD hS => ?_)
      rw [nI_clamp (show s0 < 2 ^ 31 from by omega)] at hP hD
      have hP : va_P D cls [(h, .inr (8, [.int 0, .int (nI G), .ref (b 0), .ref (b 1), .int (nI C), .ref (b 2), .ref (b 3), .ref (b 4), .ref (b 5), .ref (b 6), .ref (b 7), .ref (b 8), .ref (b 9), .ref (b 10), .ref (b 11), .ref (b 12), .ref (b 13), .ref (b 14), .ref (b 15), .ref (b 16), .ref (b 17), .ref (b 18), .int (zb hs), .ref (b 19), .ref (b 20)])), ((b 8), .inl (cI, 4, .inl (upd pg s0 y))), ((b 13), .inl (cI, 24, .inl ex))] H := hP
      have hD : va_D A [(h, .inr (8, [.int 0, .int (nI G), .ref (b 0), .ref (b 1), .int (nI C), .ref (b 2), .ref (b 3), .ref (b 4), .ref (b 5), .ref (b 6), .ref (b 7), .ref (b 8), .ref (b 9), .ref (b 10), .ref (b 11), .ref (b 12), .ref (b 13), .ref (b 14), .ref (b 15), .ref (b 16), .ref (b 17), .ref (b 18), .int (zb hs), .ref (b 19), .ref (b 20)])), ((b 8), .inl (cI, 4, .inl (upd pg s0 y))), ((b 13), .inl (cI, 24, .inl ex))] := hD
      refine lv_iconst (v := 0) hx hb d_MO_student_46 (by decide) ?_
      refine lv_istore hx hb d_MO_student_47 hl (by decide) rfl (fun ls hl => ?_)
      have hl : lv_has ls 5 [(4, .int 0), (3, .int (pg s0)), (0, .ref h), (1, .int (nI s0)), (2, .int y)] := hl
      refine lo_student D cI cJ cZ cP cS h b G C hs s0 (pg s0) (upd pg s0 y) ex hx hb hml hown hok hK hA hs0 (fun ls H locs hl hP hD hS => ?_) (6 - 0) 0 ls _ _ (by omega) (by omega) (lv_sub hl [2, 3, 1, 0] rfl) hP hD hS
      refine lv_iload_n hx hb d_MO_student_75 rfl (lv_at hl 2 rfl) ?_
      exact W.iret hx hb hr (fun t ht _ => ⟨⟨rfl, by rw [ht]; exact hP, hD⟩, hS.F ht⟩) hS.2.2 d_MO_student_76
    · refine lv_iconst (v := 1) hx hb d_MO_student_15 (by decide) ?_
      refine lv_goto (tgt := 20) hx hb d_MO_student_16 (by decide) ?_
      have e9 : yts (nI s0) y = 1 := by first | (simp [yts, h5, h12]; done)
      exact absurd (ht.symm.trans e9) (by decide)
set_option maxHeartbeats 4000000 in
set_option maxRecDepth 100000 in
theorem m_MO_student_bad (l : Launch) (D : va_G) (cI cJ cZ cP cS : ClassId) (h : Nat) (b : Nat → Nat) (th : Int32) (G C : Nat) (hs : Bool) (x y : Int32) (t : Int32) (ht : yts x y = t) (hn : ¬ t = 0) (sz : Nat) : Met l y_MO_student [Cond.code y_MO_student b_MO_student 5 (some .int)] ro_MO_student (va_Pc [.ref h, .int x, .int y] (fun U => U.heap.size = sz ∧ tb_ok U ∧ va_P D cls [(h, .inr (8, [.int th, .int (nI G), .ref (b 0), .ref (b 1), .int (nI C), .ref (b 2), .ref (b 3), .ref (b 4), .ref (b 5), .ref (b 6), .ref (b 7), .ref (b 8), .ref (b 9), .ref (b 10), .ref (b 11), .ref (b 12), .ref (b 13), .ref (b 14), .ref (b 15), .ref (b 16), .ref (b 17), .ref (b 18), .int (zb hs), .ref (b 19), .ref (b 20)]))] U.heap ∧ va_K D cls (tyl cI cJ cZ cP cS) U ∧ va_D (fun _ => True) [(h, .inr (8, [.int th, .int (nI G), .ref (b 0), .ref (b 1), .int (nI C), .ref (b 2), .ref (b 3), .ref (b 4), .ref (b 5), .ref (b 6), .ref (b 7), .ref (b 8), .ref (b 9), .ref (b 10), .ref (b 11), .ref (b 12), .ref (b 13), .ref (b 14), .ref (b 15), .ref (b 16), .ref (b 17), .ref (b 18), .int (zb hs), .ref (b 19), .ref (b 20)]))])) (zv (some (.int 0)) D [(h, .inr (8, [.int t, .int (nI G), .ref (b 0), .ref (b 1), .int (nI C), .ref (b 2), .ref (b 3), .ref (b 4), .ref (b 5), .ref (b 6), .ref (b 7), .ref (b 8), .ref (b 9), .ref (b 10), .ref (b 11), .ref (b 12), .ref (b 13), .ref (b 14), .ref (b 15), .ref (b 16), .ref (b 17), .ref (b 18), .int (zb hs), .ref (b 19), .ref (b 20)]))] (va_A [(h, .inr (8, [.int th, .int (nI G), .ref (b 0), .ref (b 1), .int (nI C), .ref (b 2), .ref (b 3), .ref (b 4), .ref (b 5), .ref (b 6), .ref (b 7), .ref (b 8), .ref (b 9), .ref (b 10), .ref (b 11), .ref (b 12), .ref (b 13), .ref (b 14), .ref (b 15), .ref (b 16), .ref (b 17), .ref (b 18), .int (zb hs), .ref (b 19), .ref (b 20)]))] sz)) 0 0 (va_A [(h, .inr (8, [.int th, .int (nI G), .ref (b 0), .ref (b 1), .int (nI C), .ref (b 2), .ref (b 3), .ref (b 4), .ref (b 5), .ref (b 6), .ref (b 7), .ref (b 8), .ref (b 9), .ref (b 10), .ref (b 11), .ref (b 12), .ref (b 13), .ref (b 14), .ref (b 15), .ref (b 16), .ref (b 17), .ref (b 18), .int (zb hs), .ref (b 19), .ref (b 20)]))] sz) := by
  refine Met.ofW (cc := b_MO_student) (maxL := 5) (ret := (some .int)) (by decide +kernel) rfl ?_
  intro p e s m args below meth c s₁ B hml hv
  obtain ⟨rfl, hsz, hok, hP, hK, hD0⟩ := hv
  have hx := B.exec
  have hb := B.bytes
  have hr := B.returns
  have hown : s.vm.findClass "StudyAuditModel" = some m.cls := findClass_of_methodNamed B.named
  have hlocks := B.notSynchronized
  subst hsz
  have hD := hD0.self (sz := s.heap.size)
  generalize hAe : va_A [(h, .inr (8, [.int th, .int (nI G), .ref (b 0), .ref (b 1), .int (nI C), .ref (b 2), .ref (b 3), .ref (b 4), .ref (b 5), .ref (b 6), .ref (b 7), .ref (b 8), .ref (b 9), .ref (b 10), .ref (b 11), .ref (b 12), .ref (b 13), .ref (b 14), .ref (b 15), .ref (b 16), .ref (b 17), .ref (b 18), .int (zb hs), .ref (b 19), .ref (b 20)]))] s.heap.size = A at hD ⊢
  have hA : ∀ q : Nat, s.heap.size ≤ q → A q := fun q h => by rw [← hAe]; exact Or.inr h
  have hS : va_S A s.heap s.heap [] := va_S.rf
  have hl := lv_entry ([.ref h, .int x, .int y]) (n := 5) (Nat.le_of_ble_eq_true rfl)
  rw [lg_entry_eq]
  generalize (lg_sl ([.ref h, .int x, .int y]) ++ List.replicate (5 - (lg_sl ([.ref h, .int x, .int y])).length) Slot.unset).toArray = ls at hl ⊢
  have hl : lv_has ls 5 [(0, .ref h), (1, .int x), (2, .int y)] := hl
  refine lv_aload_n hx hb d_MO_student_0 rfl (lv_at hl 0 rfl) ?_
  refine lv_iload_n hx hb d_MO_student_1 rfl (lv_at hl 1 rfl) ?_
  refine zc_read (va_runS (Ts := []) (As := [.int x]) (rest := [.ref h]) ⟨hx, hb, hml, hown, fun _ h => absurd h List.not_mem_nil⟩ (m_MO_noStudent l x) ⟨zc_B 1 hok c_MO_noStudent_w t_10 t_829 rfl rfl (by decide +kernel) ⟨Nat.le_of_ble_eq_true rfl, Nat.le_of_ble_eq_true rfl⟩, hok _ t_830 rfl _⟩ ⟨fun a U g mk q => by obtain ⟨q0, q2⟩ := q; exact ⟨q0, q2.call g mk a⟩, fun U hU hW => ⟨rfl, hok.warm hW⟩⟩ rfl rfl hl.1 rfl (lv_room (Nat.le_of_ble_eq_true rfl)) d_MO_student_2 ⟨Nat.le_of_ble_eq_true rfl, Nat.le_of_ble_eq_true rfl⟩) ?_
  refine W.eq (g2 := F0 m 5 ls [.int (zb (yns x)), .ref h]) rfl ?_
  refine lv_if_ne (tgt := 15) hx hb d_MO_student_5 (by decide) (fun h5 => ?_) (fun h5 => ?_)
  · refine lv_iconst (v := 1) hx hb d_MO_student_15 (by decide) ?_
    refine lv_goto (tgt := 20) hx hb d_MO_student_16 (by decide) ?_
    have e9 : yts x y = 1 := by first | (simp [yts, h5]; done)
    obtain rfl : t = 1 := ht.symm.trans e9
    refine va_put (D := D) (ci := 8) (v := .int 1) (ty := .int) (C := R_MO) (T := F_MO) (N := 25) hx hb (tb_in hok in_MO) (fun w h => h) g_MO g_MO_ok n_MO hown hK hP hD hS 0 rfl rfl 0 (by decide) (hok _ t_705 rfl _) (fun _ h9 => h9) rfl (by decide +kernel) rfl rfl (Nat.le_of_ble_eq_true rfl) d_MO_student_20 (fun H locs hP hD hS => ?_)
    have hP : va_P D cls [(h, .inr (8, [.int 1, .int (nI G), .ref (b 0), .ref (b 1), .int (nI C), .ref (b 2), .ref (b 3), .ref (b 4), .ref (b 5), .ref (b 6), .ref (b 7), .ref (b 8), .ref (b 9), .ref (b 10), .ref (b 11), .ref (b 12), .ref (b 13), .ref (b 14), .ref (b 15), .ref (b 16), .ref (b 17), .ref (b 18), .int (zb hs), .ref (b 19), .ref (b 20)]))] H := hP
    have hD : va_D A [(h, .inr (8, [.int 1, .int (nI G), .ref (b 0), .ref (b 1), .int (nI C), .ref (b 2), .ref (b 3), .ref (b 4), .ref (b 5), .ref (b 6), .ref (b 7), .ref (b 8), .ref (b 9), .ref (b 10), .ref (b 11), .ref (b 12), .ref (b 13), .ref (b 14), .ref (b 15), .ref (b 16), .ref (b 17), .ref (b 18), .int (zb hs), .ref (b 19), .ref (b 20)]))] := hD
    refine lv_aload_n hx hb d_MO_student_23 rfl (lv_at hl 0 rfl) ?_
    refine va_get (D := D) (ci := 8) (v := .int 1) (C := R_MO) (T := F_MO) (N := 25) hx hb (tb_in hok in_MO) (fun w h => h) hown hK hP 0 rfl rfl 0 (by decide) (hok _ t_705 rfl _) (fun _ h9 => h9) rfl d_MO_student_24 ?_
    refine lv_if_le (tgt := 32) hx hb d_MO_student_27 (by decide) (fun h27 => absurd h27 (show ¬ (1 : Int32) ≤ 0 by decide)) (fun h27 => ?_)
    refine lv_iconst (v := 0) hx hb d_MO_student_30 (by decide) ?_
    exact W.iret hx hb hr (fun t ht _ => ⟨⟨rfl, by rw [ht]; exact hP, hD⟩, hS.F ht⟩) hS.2.2 d_MO_student_31
  · refine lv_iload_n hx hb d_MO_student_8 rfl (lv_at hl 2 rfl) ?_
    refine zc_read (va_runS (Ts := []) (As := [.int y]) (rest := [.ref h]) ⟨hx, hb, hml, hown, fun _ h => absurd h List.not_mem_nil⟩ (m_MO_noProgramme l y) ⟨zc_B 1 hok c_MO_noProgramme_w t_10 t_814 rfl rfl (by decide +kernel) ⟨Nat.le_of_ble_eq_true rfl, Nat.le_of_ble_eq_true rfl⟩, hok _ t_815 rfl _⟩ ⟨fun a U g mk q => by obtain ⟨q0, q2⟩ := q; exact ⟨q0, q2.call g mk a⟩, fun U hU hW => ⟨rfl, hok.warm hW⟩⟩ rfl rfl hl.1 rfl (lv_room (Nat.le_of_ble_eq_true rfl)) d_MO_student_9 ⟨Nat.le_of_ble_eq_true rfl, Nat.le_of_ble_eq_true rfl⟩) ?_
    refine W.eq (g2 := F0 m 12 ls [.int (zb (ynp y)), .ref h]) rfl ?_
    refine lv_if_eq (tgt := 19) hx hb d_MO_student_12 (by decide) (fun h12 => ?_) (fun h12 => ?_)
    · refine lv_iconst (v := 0) hx hb d_MO_student_19 (by decide) ?_
      have e9 : yts x y = 0 := by first | (simp [yts, h5, h12]; done)
      exact absurd (ht.symm.trans e9) hn
    · refine lv_iconst (v := 1) hx hb d_MO_student_15 (by decide) ?_
      refine lv_goto (tgt := 20) hx hb d_MO_student_16 (by decide) ?_
      have e9 : yts x y = 1 := by first | (simp [yts, h5, h12]; done)
      obtain rfl : t = 1 := ht.symm.trans e9
      refine va_put (D := D) (ci := 8) (v := .int 1) (ty := .int) (C := R_MO) (T := F_MO) (N := 25) hx hb (tb_in hok in_MO) (fun w h => h) g_MO g_MO_ok n_MO hown hK hP hD hS 0 rfl rfl 0 (by decide) (hok _ t_705 rfl _) (fun _ h9 => h9) rfl (by decide +kernel) rfl rfl (Nat.le_of_ble_eq_true rfl) d_MO_student_20 (fun H locs hP hD hS => ?_)
      have hP : va_P D cls [(h, .inr (8, [.int 1, .int (nI G), .ref (b 0), .ref (b 1), .int (nI C), .ref (b 2), .ref (b 3), .ref (b 4), .ref (b 5), .ref (b 6), .ref (b 7), .ref (b 8), .ref (b 9), .ref (b 10), .ref (b 11), .ref (b 12), .ref (b 13), .ref (b 14), .ref (b 15), .ref (b 16), .ref (b 17), .ref (b 18), .int (zb hs), .ref (b 19), .ref (b 20)]))] H := hP
      have hD : va_D A [(h, .inr (8, [.int 1, .int (nI G), .ref (b 0), .ref (b 1), .int (nI C), .ref (b 2), .ref (b 3), .ref (b 4), .ref (b 5), .ref (b 6), .ref (b 7), .ref (b 8), .ref (b 9), .ref (b 10), .ref (b 11), .ref (b 12), .ref (b 13), .ref (b 14), .ref (b 15), .ref (b 16), .ref (b 17), .ref (b 18), .int (zb hs), .ref (b 19), .ref (b 20)]))] := hD
      refine lv_aload_n hx hb d_MO_student_23 rfl (lv_at hl 0 rfl) ?_
      refine va_get (D := D) (ci := 8) (v := .int 1) (C := R_MO) (T := F_MO) (N := 25) hx hb (tb_in hok in_MO) (fun w h => h) hown hK hP 0 rfl rfl 0 (by decide) (hok _ t_705 rfl _) (fun _ h9 => h9) rfl d_MO_student_24 ?_
      refine lv_if_le (tgt := 32) hx hb d_MO_student_27 (by decide) (fun h27 => absurd h27 (show ¬ (1 : Int32) ≤ 0 by decide)) (fun h27 => ?_)
      refine lv_iconst (v := 0) hx hb d_MO_student_30 (by decide) ?_
      exact W.iret hx hb hr (fun t ht _ => ⟨⟨rfl, by rw [ht]; exact hP, hD⟩, hS.F ht⟩) hS.2.2 d_MO_student_31
def ytp (C : Nat) (x a d : Int32) : Int32 := if ¬ zb (yns x) = 0 ∨ ¬ zb (yng C a) = 0 ∨ d < 0 ∨ ¬ d ≤ 99 then 1 else 0
def ymx (d p : Int32) : Int32 := if d ≤ p then p else d
abbrev ro_MO_pass : Room := { frames := 1, cells := 0, slots := 0, locals := 21 }
set_option maxHeartbeats 4000000 in
set_option maxRecDepth 100000 in
theorem m_MO_pass_ok (l : Launch) (D : va_G) (cI cJ cZ cP cS : ClassId) (h : Nat) (b : Nat → Nat) (th : Int32) (G C : Nat) (hs : Bool) (s0 c0 : Nat) (d : Int32) (ps : Nat → Int32) (hs0 : s0 < 4) (hc0 : c0 < 12) (ht : ytp C (nI s0) (nI c0) d = 0) (sz : Nat) : Met l y_MO_pass [Cond.code y_MO_pass b_MO_pass 5 (some .int)] ro_MO_pass (va_Pc [.ref h, .int (nI s0), .int (nI c0), .int d] (fun U => U.heap.size = sz ∧ tb_ok U ∧ va_P D cls [(h, .inr (8, [.int th, .int (nI G), .ref (b 0), .ref (b 1), .int (nI C), .ref (b 2), .ref (b 3), .ref (b 4), .ref (b 5), .ref (b 6), .ref (b 7), .ref (b 8), .ref (b 9), .ref (b 10), .ref (b 11), .ref (b 12), .ref (b 13), .ref (b 14), .ref (b 15), .ref (b 16), .ref (b 17), .ref (b 18), .int (zb hs), .ref (b 19), .ref (b 20)])), ((b 9), .inl (cI, 48, .inl ps))] U.heap ∧ va_K D cls (tyl cI cJ cZ cP cS) U ∧ va_D (fun _ => True) [(h, .inr (8, [.int th, .int (nI G), .ref (b 0), .ref (b 1), .int (nI C), .ref (b 2), .ref (b 3), .ref (b 4), .ref (b 5), .ref (b 6), .ref (b 7), .ref (b 8), .ref (b 9), .ref (b 10), .ref (b 11), .ref (b 12), .ref (b 13), .ref (b 14), .ref (b 15), .ref (b 16), .ref (b 17), .ref (b 18), .int (zb hs), .ref (b 19), .ref (b 20)])), ((b 9), .inl (cI, 48, .inl ps))])) (zv (some (.int (ymx d (ps (12 * s0 + c0))))) D [(h, .inr (8, [.int 0, .int (nI G), .ref (b 0), .ref (b 1), .int (nI C), .ref (b 2), .ref (b 3), .ref (b 4), .ref (b 5), .ref (b 6), .ref (b 7), .ref (b 8), .ref (b 9), .ref (b 10), .ref (b 11), .ref (b 12), .ref (b 13), .ref (b 14), .ref (b 15), .ref (b 16), .ref (b 17), .ref (b 18), .int (zb hs), .ref (b 19), .ref (b 20)])), ((b 9), .inl (cI, 48, .inl (upd ps (12 * s0 + c0) (ymx d (ps (12 * s0 + c0))))))] (va_A [(h, .inr (8, [.int th, .int (nI G), .ref (b 0), .ref (b 1), .int (nI C), .ref (b 2), .ref (b 3), .ref (b 4), .ref (b 5), .ref (b 6), .ref (b 7), .ref (b 8), .ref (b 9), .ref (b 10), .ref (b 11), .ref (b 12), .ref (b 13), .ref (b 14), .ref (b 15), .ref (b 16), .ref (b 17), .ref (b 18), .int (zb hs), .ref (b 19), .ref (b 20)])), ((b 9), .inl (cI, 48, .inl ps))] sz)) 0 0 (va_A [(h, .inr (8, [.int th, .int (nI G), .ref (b 0), .ref (b 1), .int (nI C), .ref (b 2), .ref (b 3), .ref (b 4), .ref (b 5), .ref (b 6), .ref (b 7), .ref (b 8), .ref (b 9), .ref (b 10), .ref (b 11), .ref (b 12), .ref (b 13), .ref (b 14), .ref (b 15), .ref (b 16), .ref (b 17), .ref (b 18), .int (zb hs), .ref (b 19), .ref (b 20)])), ((b 9), .inl (cI, 48, .inl ps))] sz) := by
  refine Met.ofW (cc := b_MO_pass) (maxL := 5) (ret := (some .int)) (by decide +kernel) rfl ?_
  intro p e s m args below meth c s₁ B hml hv
  obtain ⟨rfl, hsz, hok, hP, hK, hD0⟩ := hv
  have hx := B.exec
  have hb := B.bytes
  have hr := B.returns
  have hown : s.vm.findClass "StudyAuditModel" = some m.cls := findClass_of_methodNamed B.named
  have hlocks := B.notSynchronized
  subst hsz
  have hD := hD0.self (sz := s.heap.size)
  generalize hAe : va_A [(h, .inr (8, [.int th, .int (nI G), .ref (b 0), .ref (b 1), .int (nI C), .ref (b 2), .ref (b 3), .ref (b 4), .ref (b 5), .ref (b 6), .ref (b 7), .ref (b 8), .ref (b 9), .ref (b 10), .ref (b 11), .ref (b 12), .ref (b 13), .ref (b 14), .ref (b 15), .ref (b 16), .ref (b 17), .ref (b 18), .int (zb hs), .ref (b 19), .ref (b 20)])), ((b 9), .inl (cI, 48, .inl ps))] s.heap.size = A at hD ⊢
  have hA : ∀ q : Nat, s.heap.size ≤ q → A q := fun q h => by rw [← hAe]; exact Or.inr h
  have hS : va_S A s.heap s.heap [] := va_S.rf
  have hl := lv_entry ([.ref h, .int (nI s0), .int (nI c0), .int d]) (n := 5) (Nat.le_of_ble_eq_true rfl)
  rw [lg_entry_eq]
  generalize (lg_sl ([.ref h, .int (nI s0), .int (nI c0), .int d]) ++ List.replicate (5 - (lg_sl ([.ref h, .int (nI s0), .int (nI c0), .int d])).length) Slot.unset).toArray = ls at hl ⊢
  have hl : lv_has ls 5 [(0, .ref h), (1, .int (nI s0)), (2, .int (nI c0)), (3, .int d)] := hl
  refine lv_aload_n hx hb d_MO_pass_0 rfl (lv_at hl 0 rfl) ?_
  refine lv_iload_n hx hb d_MO_pass_1 rfl (lv_at hl 1 rfl) ?_
  refine zc_read (va_runS (Ts := []) (As := [.int (nI s0)]) (rest := [.ref h]) ⟨hx, hb, hml, hown, fun _ h => absurd h List.not_mem_nil⟩ (m_MO_noStudent l (nI s0)) ⟨zc_B 1 hok c_MO_noStudent_w t_10 t_829 rfl rfl (by decide +kernel) ⟨Nat.le_of_ble_eq_true rfl, Nat.le_of_ble_eq_true rfl⟩, hok _ t_830 rfl _⟩ ⟨fun a U g mk q => by obtain ⟨q0, q2⟩ := q; exact ⟨q0, q2.call g mk a⟩, fun U hU hW => ⟨rfl, hok.warm hW⟩⟩ rfl rfl hl.1 rfl (lv_room (Nat.le_of_ble_eq_true rfl)) d_MO_pass_2 ⟨Nat.le_of_ble_eq_true rfl, Nat.le_of_ble_eq_true rfl⟩) ?_
  refine W.eq (g2 := F0 m 5 ls [.int (zb (yns (nI s0))), .ref h]) rfl ?_
  refine lv_if_ne (tgt := 26) hx hb d_MO_pass_5 (by decide) (fun h5 => ?_) (fun h5 => ?_)
  · refine lv_iconst (v := 1) hx hb d_MO_pass_26 (by decide) ?_
    refine lv_goto (tgt := 31) hx hb d_MO_pass_27 (by decide) ?_
    have e9 : ytp C (nI s0) (nI c0) d = 1 := by first | (simp [ytp, h5]; done)
    exact absurd (ht.symm.trans e9) (by decide)
  · refine lv_aload_n hx hb d_MO_pass_8 rfl (lv_at hl 0 rfl) ?_
    refine lv_iload_n hx hb d_MO_pass_9 rfl (lv_at hl 2 rfl) ?_
    refine zc_read (va_runV (Ts := []) (As := [.int (nI c0)]) (rest := [.ref h]) ⟨hx, hb, hml, hown, fun _ h => absurd h List.not_mem_nil⟩ (m_MO_noCourse l D cI cJ cZ cP cS h b th G C hs (nI c0)) ⟨zc_B 1 hok c_MO_noCourse_w t_10 t_802 rfl rfl (by decide +kernel) ⟨Nat.le_of_ble_eq_true rfl, Nat.le_of_ble_eq_true rfl⟩, hok _ t_804 rfl _, hok _ s_20 rfl _⟩ ⟨fun a U g mk q => by obtain ⟨q0, q2, qP, qK⟩ := q; exact ⟨q0, q2.call g mk a, qP, va_K.moved (u := U) (U := U.calling g mk a) (Vm.Alike.refl U.vm) qK⟩, va_recv hK hP (ci := 8) (q0 := 0) rfl rfl, fun U hU hW => ⟨rfl, hok.warm hW, by rw [hU]; exact hP.sub [0] rfl, va_K.moved hW.alike hK⟩⟩ rfl rfl hl.1 rfl (lv_room (Nat.le_of_ble_eq_true rfl)) d_MO_pass_10 ⟨Nat.le_of_ble_eq_true rfl, Nat.le_of_ble_eq_true rfl⟩) ?_
    refine W.eq (g2 := F0 m 13 ls [.int (zb (yng C (nI c0))), .ref h]) rfl ?_
    refine lv_if_ne (tgt := 26) hx hb d_MO_pass_13 (by decide) (fun h13 => ?_) (fun h13 => ?_)
    · refine lv_iconst (v := 1) hx hb d_MO_pass_26 (by decide) ?_
      refine lv_goto (tgt := 31) hx hb d_MO_pass_27 (by decide) ?_
      have e9 : ytp C (nI s0) (nI c0) d = 1 := by first | (simp [ytp, h5, h13]; done)
      exact absurd (ht.symm.trans e9) (by decide)
    · refine lv_iload_n hx hb d_MO_pass_16 rfl (lv_at hl 3 rfl) ?_
      refine lv_if_lt (tgt := 26) hx hb d_MO_pass_17 (by decide) (fun h17 => ?_) (fun h17 => ?_)
      · refine lv_iconst (v := 1) hx hb d_MO_pass_26 (by decide) ?_
        refine lv_goto (tgt := 31) hx hb d_MO_pass_27 (by decide) ?_
        have e9 : ytp C (nI s0) (nI c0) d = 1 := by first | (simp [ytp, h5, h13, h17]; done)
        exact absurd (ht.symm.trans e9) (by decide)
      · refine lv_iload_n hx hb d_MO_pass_20 rfl (lv_at hl 3 rfl) ?_
        refine lv_bipush (v := 99) hx hb d_MO_pass_21 (by decide) ?_
        refine lv_icmp_le (tgt := 30) hx hb d_MO_pass_23 (by decide) (fun h23 => ?_) (fun h23 => ?_)
        · refine lv_iconst (v := 0) hx hb d_MO_pass_30 (by decide) ?_
          have e9 : ytp C (nI s0) (nI c0) d = 0 := by first | (simp [ytp, h5, h13, h17, h23]; done)
          refine va_put (D := D) (ci := 8) (v := .int 0) (ty := .int) (C := R_MO) (T := F_MO) (N := 25) hx hb (tb_in hok in_MO) (fun w h => h) g_MO g_MO_ok n_MO hown hK hP hD hS 0 rfl rfl 0 (by decide) (hok _ t_705 rfl _) (fun _ h9 => h9) rfl (by decide +kernel) rfl rfl (Nat.le_of_ble_eq_true rfl) d_MO_pass_31 (fun H locs hP hD hS => ?_)
          have hP : va_P D cls [(h, .inr (8, [.int 0, .int (nI G), .ref (b 0), .ref (b 1), .int (nI C), .ref (b 2), .ref (b 3), .ref (b 4), .ref (b 5), .ref (b 6), .ref (b 7), .ref (b 8), .ref (b 9), .ref (b 10), .ref (b 11), .ref (b 12), .ref (b 13), .ref (b 14), .ref (b 15), .ref (b 16), .ref (b 17), .ref (b 18), .int (zb hs), .ref (b 19), .ref (b 20)])), ((b 9), .inl (cI, 48, .inl ps))] H := hP
          have hD : va_D A [(h, .inr (8, [.int 0, .int (nI G), .ref (b 0), .ref (b 1), .int (nI C), .ref (b 2), .ref (b 3), .ref (b 4), .ref (b 5), .ref (b 6), .ref (b 7), .ref (b 8), .ref (b 9), .ref (b 10), .ref (b 11), .ref (b 12), .ref (b 13), .ref (b 14), .ref (b 15), .ref (b 16), .ref (b 17), .ref (b 18), .int (zb hs), .ref (b 19), .ref (b 20)])), ((b 9), .inl (cI, 48, .inl ps))] := hD
          refine lv_aload_n hx hb d_MO_pass_34 rfl (lv_at hl 0 rfl) ?_
          refine va_get (D := D) (ci := 8) (v := .int 0) (C := R_MO) (T := F_MO) (N := 25) hx hb (tb_in hok in_MO) (fun w h => h) hown hK hP 0 rfl rfl 0 (by decide) (hok _ t_705 rfl _) (fun _ h9 => h9) rfl d_MO_pass_35 ?_
          refine lv_if_le (tgt := 43) hx hb d_MO_pass_38 (by decide) (fun h38 => ?_) (fun h38 => absurd (show (0 : Int32) ≤ 0 by decide) h38)
          refine lv_bipush (v := 12) hx hb d_MO_pass_43 (by decide) ?_
          refine lv_iload_n hx hb d_MO_pass_45 rfl (lv_at hl 1 rfl) ?_
          refine lv_imul hx hb d_MO_pass_46 ?_
          refine lv_iload_n hx hb d_MO_pass_47 rfl (lv_at hl 2 rfl) ?_
          refine lv_iadd hx hb d_MO_pass_48 ?_
          refine W.eq (g2 := F0 m 49 ls [.int (nI (12 * s0 + c0))]) (by rw [show ((((12 : Int32) * (nI s0)) + (nI c0)) : Int32) = nI (12 * s0 + c0) from (by rw [show (12 : Int32) = nI 12 from rfl, pk_mul, nI_add])]) ?_
          refine lv_istore hx hb d_MO_pass_49 hl (by decide) rfl (fun ls hl => ?_)
          have hl : lv_has ls 5 [(4, .int (nI (12 * s0 + c0))), (0, .ref h), (1, .int (nI s0)), (2, .int (nI c0)), (3, .int d)] := hl
          refine lv_aload_n hx hb d_MO_pass_51 rfl (lv_at hl 1 rfl) ?_
          refine va_get (D := D) (ci := 8) (v := .ref (b 9)) (C := R_MO) (T := F_MO) (N := 25) hx hb (tb_in hok in_MO) (fun w h => h) hown hK hP 0 rfl rfl 12 (by decide) (hok _ t_717 rfl _) (fun _ h9 => h9) rfl d_MO_pass_52 ?_
          refine lv_iload hx hb d_MO_pass_55 (lv_at hl 0 rfl) ?_
          refine lv_iload_n hx hb d_MO_pass_57 rfl (lv_at hl 4 rfl) ?_
          refine lv_aload_n hx hb d_MO_pass_58 rfl (lv_at hl 1 rfl) ?_
          refine va_get (D := D) (ci := 8) (v := .ref (b 9)) (C := R_MO) (T := F_MO) (N := 25) hx hb (tb_in hok in_MO) (fun w h => h) hown hK hP 0 rfl rfl 12 (by decide) (hok _ t_717 rfl _) (fun _ h9 => h9) rfl d_MO_pass_59 ?_
          refine lv_iload hx hb d_MO_pass_62 (lv_at hl 0 rfl) ?_
          refine va_iald hx hb hK hP 1 0 rfl rfl (vp_in_nI (by omega) (by omega)) d_MO_pass_64 ?_
          rw [nI_clamp (show (12 * s0 + c0) < 2 ^ 31 from by omega)]
          refine lv_icmp_le (tgt := 72) hx hb d_MO_pass_65 (by decide) (fun h65 => ?_) (fun h65 => ?_)
          · refine lv_aload_n hx hb d_MO_pass_72 rfl (lv_at hl 1 rfl) ?_
            refine va_get (D := D) (ci := 8) (v := .ref (b 9)) (C := R_MO) (T := F_MO) (N := 25) hx hb (tb_in hok in_MO) (fun w h => h) hown hK hP 0 rfl rfl 12 (by decide) (hok _ t_717 rfl _) (fun _ h9 => h9) rfl d_MO_pass_73 ?_
            refine lv_iload hx hb d_MO_pass_76 (lv_at hl 0 rfl) ?_
            refine va_iald hx hb hK hP 1 0 rfl rfl (vp_in_nI (by omega) (by omega)) d_MO_pass_78 ?_
            rw [nI_clamp (show (12 * s0 + c0) < 2 ^ 31 from by omega)]
            refine W.eq (g2 := F0 m 79 ls [.int (ymx d (ps (12 * s0 + c0))), .int (nI (12 * s0 + c0)), .ref (b 9)]) (by rw [show ymx d (ps (12 * s0 + c0)) = (ps (12 * s0 + c0)) from if_pos h65]) ?_
            refine va_iast hx hb hK hP hD hS 1 0 rfl rfl (vp_in_nI (by omega) (by omega)) d_MO_pass_79 (fun H locs hP hD hS => ?_)
            rw [nI_clamp (show (12 * s0 + c0) < 2 ^ 31 from by omega)] at hP hD
            have hP : va_P D cls [(h, .inr (8, [.int 0, .int (nI G), .ref (b 0), .ref (b 1), .int (nI C), .ref (b 2), .ref (b 3), .ref (b 4), .ref (b 5), .ref (b 6), .ref (b 7), .ref (b 8), .ref (b 9), .ref (b 10), .ref (b 11), .ref (b 12), .ref (b 13), .ref (b 14), .ref (b 15), .ref (b 16), .ref (b 17), .ref (b 18), .int (zb hs), .ref (b 19), .ref (b 20)])), ((b 9), .inl (cI, 48, .inl (upd ps (12 * s0 + c0) (ymx d (ps (12 * s0 + c0))))))] H := hP
            have hD : va_D A [(h, .inr (8, [.int 0, .int (nI G), .ref (b 0), .ref (b 1), .int (nI C), .ref (b 2), .ref (b 3), .ref (b 4), .ref (b 5), .ref (b 6), .ref (b 7), .ref (b 8), .ref (b 9), .ref (b 10), .ref (b 11), .ref (b 12), .ref (b 13), .ref (b 14), .ref (b 15), .ref (b 16), .ref (b 17), .ref (b 18), .int (zb hs), .ref (b 19), .ref (b 20)])), ((b 9), .inl (cI, 48, .inl (upd ps (12 * s0 + c0) (ymx d (ps (12 * s0 + c0))))))] := hD
            refine lv_aload_n hx hb d_MO_pass_80 rfl (lv_at hl 1 rfl) ?_
            refine va_get (D := D) (ci := 8) (v := .ref (b 9)) (C := R_MO) (T := F_MO) (N := 25) hx hb (tb_in hok in_MO) (fun w h => h) hown hK hP 0 rfl rfl 12 (by decide) (hok _ t_717 rfl _) (fun _ h9 => h9) rfl d_MO_pass_81 ?_
            refine lv_iload hx hb d_MO_pass_84 (lv_at hl 0 rfl) ?_
            refine va_iald hx hb hK hP 1 0 rfl rfl (vp_in_nI (by omega) (by omega)) d_MO_pass_86 ?_
            rw [nI_clamp (show (12 * s0 + c0) < 2 ^ 31 from by omega)]
            refine W.eq (g2 := F0 m 87 ls [.int (ymx d (ps (12 * s0 + c0)))]) (by rw [pk_us]) ?_
            exact W.iret hx hb hr (fun t ht _ => ⟨⟨rfl, by rw [ht]; exact hP, hD⟩, hS.F ht⟩) hS.2.2 d_MO_pass_87
          · refine lv_iload_n hx hb d_MO_pass_68 rfl (lv_at hl 4 rfl) ?_
            refine lv_goto (tgt := 79) hx hb d_MO_pass_69 (by decide) ?_
            refine W.eq (g2 := F0 m 79 ls [.int (ymx d (ps (12 * s0 + c0))), .int (nI (12 * s0 + c0)), .ref (b 9)]) (by rw [show ymx d (ps (12 * s0 + c0)) = d from if_neg h65]) ?_
            refine va_iast hx hb hK hP hD hS 1 0 rfl rfl (vp_in_nI (by omega) (by omega)) d_MO_pass_79 (fun H locs hP hD hS => ?_)
            rw [nI_clamp (show (12 * s0 + c0) < 2 ^ 31 from by omega)] at hP hD
            have hP : va_P D cls [(h, .inr (8, [.int 0, .int (nI G), .ref (b 0), .ref (b 1), .int (nI C), .ref (b 2), .ref (b 3), .ref (b 4), .ref (b 5), .ref (b 6), .ref (b 7), .ref (b 8), .ref (b 9), .ref (b 10), .ref (b 11), .ref (b 12), .ref (b 13), .ref (b 14), .ref (b 15), .ref (b 16), .ref (b 17), .ref (b 18), .int (zb hs), .ref (b 19), .ref (b 20)])), ((b 9), .inl (cI, 48, .inl (upd ps (12 * s0 + c0) (ymx d (ps (12 * s0 + c0))))))] H := hP
            have hD : va_D A [(h, .inr (8, [.int 0, .int (nI G), .ref (b 0), .ref (b 1), .int (nI C), .ref (b 2), .ref (b 3), .ref (b 4), .ref (b 5), .ref (b 6), .ref (b 7), .ref (b 8), .ref (b 9), .ref (b 10), .ref (b 11), .ref (b 12), .ref (b 13), .ref (b 14), .ref (b 15), .ref (b 16), .ref (b 17), .ref (b 18), .int (zb hs), .ref (b 19), .ref (b 20)])), ((b 9), .inl (cI, 48, .inl (upd ps (12 * s0 + c0) (ymx d (ps (12 * s0 + c0))))))] := hD
            refine lv_aload_n hx hb d_MO_pass_80 rfl (lv_at hl 1 rfl) ?_
            refine va_get (D := D) (ci := 8) (v := .ref (b 9)) (C := R_MO) (T := F_MO) (N := 25) hx hb (tb_in hok in_MO) (fun w h => h) hown hK hP 0 rfl rfl 12 (by decide) (hok _ t_717 rfl _) (fun _ h9 => h9) rfl d_MO_pass_81 ?_
            refine lv_iload hx hb d_MO_pass_84 (lv_at hl 0 rfl) ?_
            refine va_iald hx hb hK hP 1 0 rfl rfl (vp_in_nI (by omega) (by omega)) d_MO_pass_86 ?_
            rw [nI_clamp (show (12 * s0 + c0) < 2 ^ 31 from by omega)]
            refine W.eq (g2 := F0 m 87 ls [.int (ymx d (ps (12 * s0 + c0)))]) (by rw [pk_us]) ?_
            exact W.iret hx hb hr (fun t ht _ => ⟨⟨rfl, by rw [ht]; exact hP, hD⟩, hS.F ht⟩) hS.2.2 d_MO_pass_87
        · refine lv_iconst (v := 1) hx hb d_MO_pass_26 (by decide) ?_
          refine lv_goto (tgt := 31) hx hb d_MO_pass_27 (by decide) ?_
          have e9 : ytp C (nI s0) (nI c0) d = 1 := by first | (simp [ytp, h5, h13, h17, h23]; done)
          exact absurd (ht.symm.trans e9) (by decide)
set_option maxHeartbeats 4000000 in
set_option maxRecDepth 100000 in
theorem m_MO_pass_bad (l : Launch) (D : va_G) (cI cJ cZ cP cS : ClassId) (h : Nat) (b : Nat → Nat) (th : Int32) (G C : Nat) (hs : Bool) (x a d : Int32) (t : Int32) (ht : ytp C x a d = t) (hn : ¬ t = 0) (sz : Nat) : Met l y_MO_pass [Cond.code y_MO_pass b_MO_pass 5 (some .int)] ro_MO_pass (va_Pc [.ref h, .int x, .int a, .int d] (fun U => U.heap.size = sz ∧ tb_ok U ∧ va_P D cls [(h, .inr (8, [.int th, .int (nI G), .ref (b 0), .ref (b 1), .int (nI C), .ref (b 2), .ref (b 3), .ref (b 4), .ref (b 5), .ref (b 6), .ref (b 7), .ref (b 8), .ref (b 9), .ref (b 10), .ref (b 11), .ref (b 12), .ref (b 13), .ref (b 14), .ref (b 15), .ref (b 16), .ref (b 17), .ref (b 18), .int (zb hs), .ref (b 19), .ref (b 20)]))] U.heap ∧ va_K D cls (tyl cI cJ cZ cP cS) U ∧ va_D (fun _ => True) [(h, .inr (8, [.int th, .int (nI G), .ref (b 0), .ref (b 1), .int (nI C), .ref (b 2), .ref (b 3), .ref (b 4), .ref (b 5), .ref (b 6), .ref (b 7), .ref (b 8), .ref (b 9), .ref (b 10), .ref (b 11), .ref (b 12), .ref (b 13), .ref (b 14), .ref (b 15), .ref (b 16), .ref (b 17), .ref (b 18), .int (zb hs), .ref (b 19), .ref (b 20)]))])) (zv (some (.int 0)) D [(h, .inr (8, [.int t, .int (nI G), .ref (b 0), .ref (b 1), .int (nI C), .ref (b 2), .ref (b 3), .ref (b 4), .ref (b 5), .ref (b 6), .ref (b 7), .ref (b 8), .ref (b 9), .ref (b 10), .ref (b 11), .ref (b 12), .ref (b 13), .ref (b 14), .ref (b 15), .ref (b 16), .ref (b 17), .ref (b 18), .int (zb hs), .ref (b 19), .ref (b 20)]))] (va_A [(h, .inr (8, [.int th, .int (nI G), .ref (b 0), .ref (b 1), .int (nI C), .ref (b 2), .ref (b 3), .ref (b 4), .ref (b 5), .ref (b 6), .ref (b 7), .ref (b 8), .ref (b 9), .ref (b 10), .ref (b 11), .ref (b 12), .ref (b 13), .ref (b 14), .ref (b 15), .ref (b 16), .ref (b 17), .ref (b 18), .int (zb hs), .ref (b 19), .ref (b 20)]))] sz)) 0 0 (va_A [(h, .inr (8, [.int th, .int (nI G), .ref (b 0), .ref (b 1), .int (nI C), .ref (b 2), .ref (b 3), .ref (b 4), .ref (b 5), .ref (b 6), .ref (b 7), .ref (b 8), .ref (b 9), .ref (b 10), .ref (b 11), .ref (b 12), .ref (b 13), .ref (b 14), .ref (b 15), .ref (b 16), .ref (b 17), .ref (b 18), .int (zb hs), .ref (b 19), .ref (b 20)]))] sz) := by
  refine Met.ofW (cc := b_MO_pass) (maxL := 5) (ret := (some .int)) (by decide +kernel) rfl ?_
  intro p e s m args below meth c s₁ B hml hv
  obtain ⟨rfl, hsz, hok, hP, hK, hD0⟩ := hv
  have hx := B.exec
  have hb := B.bytes
  have hr := B.returns
  have hown : s.vm.findClass "StudyAuditModel" = some m.cls := findClass_of_methodNamed B.named
  have hlocks := B.notSynchronized
  subst hsz
  have hD := hD0.self (sz := s.heap.size)
  generalize hAe : va_A [(h, .inr (8, [.int th, .int (nI G), .ref (b 0), .ref (b 1), .int (nI C), .ref (b 2), .ref (b 3), .ref (b 4), .ref (b 5), .ref (b 6), .ref (b 7), .ref (b 8), .ref (b 9), .ref (b 10), .ref (b 11), .ref (b 12), .ref (b 13), .ref (b 14), .ref (b 15), .ref (b 16), .ref (b 17), .ref (b 18), .int (zb hs), .ref (b 19), .ref (b 20)]))] s.heap.size = A at hD ⊢
  have hA : ∀ q : Nat, s.heap.size ≤ q → A q := fun q h => by rw [← hAe]; exact Or.inr h
  have hS : va_S A s.heap s.heap [] := va_S.rf
  have hl := lv_entry ([.ref h, .int x, .int a, .int d]) (n := 5) (Nat.le_of_ble_eq_true rfl)
  rw [lg_entry_eq]
  generalize (lg_sl ([.ref h, .int x, .int a, .int d]) ++ List.replicate (5 - (lg_sl ([.ref h, .int x, .int a, .int d])).length) Slot.unset).toArray = ls at hl ⊢
  have hl : lv_has ls 5 [(0, .ref h), (1, .int x), (2, .int a), (3, .int d)] := hl
  refine lv_aload_n hx hb d_MO_pass_0 rfl (lv_at hl 0 rfl) ?_
  refine lv_iload_n hx hb d_MO_pass_1 rfl (lv_at hl 1 rfl) ?_
  refine zc_read (va_runS (Ts := []) (As := [.int x]) (rest := [.ref h]) ⟨hx, hb, hml, hown, fun _ h => absurd h List.not_mem_nil⟩ (m_MO_noStudent l x) ⟨zc_B 1 hok c_MO_noStudent_w t_10 t_829 rfl rfl (by decide +kernel) ⟨Nat.le_of_ble_eq_true rfl, Nat.le_of_ble_eq_true rfl⟩, hok _ t_830 rfl _⟩ ⟨fun a U g mk q => by obtain ⟨q0, q2⟩ := q; exact ⟨q0, q2.call g mk a⟩, fun U hU hW => ⟨rfl, hok.warm hW⟩⟩ rfl rfl hl.1 rfl (lv_room (Nat.le_of_ble_eq_true rfl)) d_MO_pass_2 ⟨Nat.le_of_ble_eq_true rfl, Nat.le_of_ble_eq_true rfl⟩) ?_
  refine W.eq (g2 := F0 m 5 ls [.int (zb (yns x)), .ref h]) rfl ?_
  refine lv_if_ne (tgt := 26) hx hb d_MO_pass_5 (by decide) (fun h5 => ?_) (fun h5 => ?_)
  · refine lv_iconst (v := 1) hx hb d_MO_pass_26 (by decide) ?_
    refine lv_goto (tgt := 31) hx hb d_MO_pass_27 (by decide) ?_
    have e9 : ytp C x a d = 1 := by first | (simp [ytp, h5]; done)
    obtain rfl : t = 1 := ht.symm.trans e9
    refine va_put (D := D) (ci := 8) (v := .int 1) (ty := .int) (C := R_MO) (T := F_MO) (N := 25) hx hb (tb_in hok in_MO) (fun w h => h) g_MO g_MO_ok n_MO hown hK hP hD hS 0 rfl rfl 0 (by decide) (hok _ t_705 rfl _) (fun _ h9 => h9) rfl (by decide +kernel) rfl rfl (Nat.le_of_ble_eq_true rfl) d_MO_pass_31 (fun H locs hP hD hS => ?_)
    have hP : va_P D cls [(h, .inr (8, [.int 1, .int (nI G), .ref (b 0), .ref (b 1), .int (nI C), .ref (b 2), .ref (b 3), .ref (b 4), .ref (b 5), .ref (b 6), .ref (b 7), .ref (b 8), .ref (b 9), .ref (b 10), .ref (b 11), .ref (b 12), .ref (b 13), .ref (b 14), .ref (b 15), .ref (b 16), .ref (b 17), .ref (b 18), .int (zb hs), .ref (b 19), .ref (b 20)]))] H := hP
    have hD : va_D A [(h, .inr (8, [.int 1, .int (nI G), .ref (b 0), .ref (b 1), .int (nI C), .ref (b 2), .ref (b 3), .ref (b 4), .ref (b 5), .ref (b 6), .ref (b 7), .ref (b 8), .ref (b 9), .ref (b 10), .ref (b 11), .ref (b 12), .ref (b 13), .ref (b 14), .ref (b 15), .ref (b 16), .ref (b 17), .ref (b 18), .int (zb hs), .ref (b 19), .ref (b 20)]))] := hD
    refine lv_aload_n hx hb d_MO_pass_34 rfl (lv_at hl 0 rfl) ?_
    refine va_get (D := D) (ci := 8) (v := .int 1) (C := R_MO) (T := F_MO) (N := 25) hx hb (tb_in hok in_MO) (fun w h => h) hown hK hP 0 rfl rfl 0 (by decide) (hok _ t_705 rfl _) (fun _ h9 => h9) rfl d_MO_pass_35 ?_
    refine lv_if_le (tgt := 43) hx hb d_MO_pass_38 (by decide) (fun h38 => absurd h38 (show ¬ (1 : Int32) ≤ 0 by decide)) (fun h38 => ?_)
    refine lv_iconst (v := 0) hx hb d_MO_pass_41 (by decide) ?_
    exact W.iret hx hb hr (fun t ht _ => ⟨⟨rfl, by rw [ht]; exact hP, hD⟩, hS.F ht⟩) hS.2.2 d_MO_pass_42
  · refine lv_aload_n hx hb d_MO_pass_8 rfl (lv_at hl 0 rfl) ?_
    refine lv_iload_n hx hb d_MO_pass_9 rfl (lv_at hl 2 rfl) ?_
    refine zc_read (va_runV (Ts := []) (As := [.int a]) (rest := [.ref h]) ⟨hx, hb, hml, hown, fun _ h => absurd h List.not_mem_nil⟩ (m_MO_noCourse l D cI cJ cZ cP cS h b th G C hs a) ⟨zc_B 1 hok c_MO_noCourse_w t_10 t_802 rfl rfl (by decide +kernel) ⟨Nat.le_of_ble_eq_true rfl, Nat.le_of_ble_eq_true rfl⟩, hok _ t_804 rfl _, hok _ s_20 rfl _⟩ ⟨fun a U g mk q => by obtain ⟨q0, q2, qP, qK⟩ := q; exact ⟨q0, q2.call g mk a, qP, va_K.moved (u := U) (U := U.calling g mk a) (Vm.Alike.refl U.vm) qK⟩, va_recv hK hP (ci := 8) (q0 := 0) rfl rfl, fun U hU hW => ⟨rfl, hok.warm hW, by rw [hU]; exact hP.sub [0] rfl, va_K.moved hW.alike hK⟩⟩ rfl rfl hl.1 rfl (lv_room (Nat.le_of_ble_eq_true rfl)) d_MO_pass_10 ⟨Nat.le_of_ble_eq_true rfl, Nat.le_of_ble_eq_true rfl⟩) ?_
    refine W.eq (g2 := F0 m 13 ls [.int (zb (yng C a)), .ref h]) rfl ?_
    refine lv_if_ne (tgt := 26) hx hb d_MO_pass_13 (by decide) (fun h13 => ?_) (fun h13 => ?_)
    · refine lv_iconst (v := 1) hx hb d_MO_pass_26 (by decide) ?_
      refine lv_goto (tgt := 31) hx hb d_MO_pass_27 (by decide) ?_
      have e9 : ytp C x a d = 1 := by first | (simp [ytp, h5, h13]; done)
      obtain rfl : t = 1 := ht.symm.trans e9
      refine va_put (D := D) (ci := 8) (v := .int 1) (ty := .int) (C := R_MO) (T := F_MO) (N := 25) hx hb (tb_in hok in_MO) (fun w h => h) g_MO g_MO_ok n_MO hown hK hP hD hS 0 rfl rfl 0 (by decide) (hok _ t_705 rfl _) (fun _ h9 => h9) rfl (by decide +kernel) rfl rfl (Nat.le_of_ble_eq_true rfl) d_MO_pass_31 (fun H locs hP hD hS => ?_)
      have hP : va_P D cls [(h, .inr (8, [.int 1, .int (nI G), .ref (b 0), .ref (b 1), .int (nI C), .ref (b 2), .ref (b 3), .ref (b 4), .ref (b 5), .ref (b 6), .ref (b 7), .ref (b 8), .ref (b 9), .ref (b 10), .ref (b 11), .ref (b 12), .ref (b 13), .ref (b 14), .ref (b 15), .ref (b 16), .ref (b 17), .ref (b 18), .int (zb hs), .ref (b 19), .ref (b 20)]))] H := hP
      have hD : va_D A [(h, .inr (8, [.int 1, .int (nI G), .ref (b 0), .ref (b 1), .int (nI C), .ref (b 2), .ref (b 3), .ref (b 4), .ref (b 5), .ref (b 6), .ref (b 7), .ref (b 8), .ref (b 9), .ref (b 10), .ref (b 11), .ref (b 12), .ref (b 13), .ref (b 14), .ref (b 15), .ref (b 16), .ref (b 17), .ref (b 18), .int (zb hs), .ref (b 19), .ref (b 20)]))] := hD
      refine lv_aload_n hx hb d_MO_pass_34 rfl (lv_at hl 0 rfl) ?_
      refine va_get (D := D) (ci := 8) (v := .int 1) (C := R_MO) (T := F_MO) (N := 25) hx hb (tb_in hok in_MO) (fun w h => h) hown hK hP 0 rfl rfl 0 (by decide) (hok _ t_705 rfl _) (fun _ h9 => h9) rfl d_MO_pass_35 ?_
      refine lv_if_le (tgt := 43) hx hb d_MO_pass_38 (by decide) (fun h38 => absurd h38 (show ¬ (1 : Int32) ≤ 0 by decide)) (fun h38 => ?_)
      refine lv_iconst (v := 0) hx hb d_MO_pass_41 (by decide) ?_
      exact W.iret hx hb hr (fun t ht _ => ⟨⟨rfl, by rw [ht]; exact hP, hD⟩, hS.F ht⟩) hS.2.2 d_MO_pass_42
    · refine lv_iload_n hx hb d_MO_pass_16 rfl (lv_at hl 3 rfl) ?_
      refine lv_if_lt (tgt := 26) hx hb d_MO_pass_17 (by decide) (fun h17 => ?_) (fun h17 => ?_)
      · refine lv_iconst (v := 1) hx hb d_MO_pass_26 (by decide) ?_
        refine lv_goto (tgt := 31) hx hb d_MO_pass_27 (by decide) ?_
        have e9 : ytp C x a d = 1 := by first | (simp [ytp, h5, h13, h17]; done)
        obtain rfl : t = 1 := ht.symm.trans e9
        refine va_put (D := D) (ci := 8) (v := .int 1) (ty := .int) (C := R_MO) (T := F_MO) (N := 25) hx hb (tb_in hok in_MO) (fun w h => h) g_MO g_MO_ok n_MO hown hK hP hD hS 0 rfl rfl 0 (by decide) (hok _ t_705 rfl _) (fun _ h9 => h9) rfl (by decide +kernel) rfl rfl (Nat.le_of_ble_eq_true rfl) d_MO_pass_31 (fun H locs hP hD hS => ?_)
        have hP : va_P D cls [(h, .inr (8, [.int 1, .int (nI G), .ref (b 0), .ref (b 1), .int (nI C), .ref (b 2), .ref (b 3), .ref (b 4), .ref (b 5), .ref (b 6), .ref (b 7), .ref (b 8), .ref (b 9), .ref (b 10), .ref (b 11), .ref (b 12), .ref (b 13), .ref (b 14), .ref (b 15), .ref (b 16), .ref (b 17), .ref (b 18), .int (zb hs), .ref (b 19), .ref (b 20)]))] H := hP
        have hD : va_D A [(h, .inr (8, [.int 1, .int (nI G), .ref (b 0), .ref (b 1), .int (nI C), .ref (b 2), .ref (b 3), .ref (b 4), .ref (b 5), .ref (b 6), .ref (b 7), .ref (b 8), .ref (b 9), .ref (b 10), .ref (b 11), .ref (b 12), .ref (b 13), .ref (b 14), .ref (b 15), .ref (b 16), .ref (b 17), .ref (b 18), .int (zb hs), .ref (b 19), .ref (b 20)]))] := hD
        refine lv_aload_n hx hb d_MO_pass_34 rfl (lv_at hl 0 rfl) ?_
        refine va_get (D := D) (ci := 8) (v := .int 1) (C := R_MO) (T := F_MO) (N := 25) hx hb (tb_in hok in_MO) (fun w h => h) hown hK hP 0 rfl rfl 0 (by decide) (hok _ t_705 rfl _) (fun _ h9 => h9) rfl d_MO_pass_35 ?_
        refine lv_if_le (tgt := 43) hx hb d_MO_pass_38 (by decide) (fun h38 => absurd h38 (show ¬ (1 : Int32) ≤ 0 by decide)) (fun h38 => ?_)
        refine lv_iconst (v := 0) hx hb d_MO_pass_41 (by decide) ?_
        exact W.iret hx hb hr (fun t ht _ => ⟨⟨rfl, by rw [ht]; exact hP, hD⟩, hS.F ht⟩) hS.2.2 d_MO_pass_42
      · refine lv_iload_n hx hb d_MO_pass_20 rfl (lv_at hl 3 rfl) ?_
        refine lv_bipush (v := 99) hx hb d_MO_pass_21 (by decide) ?_
        refine lv_icmp_le (tgt := 30) hx hb d_MO_pass_23 (by decide) (fun h23 => ?_) (fun h23 => ?_)
        · refine lv_iconst (v := 0) hx hb d_MO_pass_30 (by decide) ?_
          have e9 : ytp C x a d = 0 := by first | (simp [ytp, h5, h13, h17, h23]; done)
          exact absurd (ht.symm.trans e9) hn
        · refine lv_iconst (v := 1) hx hb d_MO_pass_26 (by decide) ?_
          refine lv_goto (tgt := 31) hx hb d_MO_pass_27 (by decide) ?_
          have e9 : ytp C x a d = 1 := by first | (simp [ytp, h5, h13, h17, h23]; done)
          obtain rfl : t = 1 := ht.symm.trans e9
          refine va_put (D := D) (ci := 8) (v := .int 1) (ty := .int) (C := R_MO) (T := F_MO) (N := 25) hx hb (tb_in hok in_MO) (fun w h => h) g_MO g_MO_ok n_MO hown hK hP hD hS 0 rfl rfl 0 (by decide) (hok _ t_705 rfl _) (fun _ h9 => h9) rfl (by decide +kernel) rfl rfl (Nat.le_of_ble_eq_true rfl) d_MO_pass_31 (fun H locs hP hD hS => ?_)
          have hP : va_P D cls [(h, .inr (8, [.int 1, .int (nI G), .ref (b 0), .ref (b 1), .int (nI C), .ref (b 2), .ref (b 3), .ref (b 4), .ref (b 5), .ref (b 6), .ref (b 7), .ref (b 8), .ref (b 9), .ref (b 10), .ref (b 11), .ref (b 12), .ref (b 13), .ref (b 14), .ref (b 15), .ref (b 16), .ref (b 17), .ref (b 18), .int (zb hs), .ref (b 19), .ref (b 20)]))] H := hP
          have hD : va_D A [(h, .inr (8, [.int 1, .int (nI G), .ref (b 0), .ref (b 1), .int (nI C), .ref (b 2), .ref (b 3), .ref (b 4), .ref (b 5), .ref (b 6), .ref (b 7), .ref (b 8), .ref (b 9), .ref (b 10), .ref (b 11), .ref (b 12), .ref (b 13), .ref (b 14), .ref (b 15), .ref (b 16), .ref (b 17), .ref (b 18), .int (zb hs), .ref (b 19), .ref (b 20)]))] := hD
          refine lv_aload_n hx hb d_MO_pass_34 rfl (lv_at hl 0 rfl) ?_
          refine va_get (D := D) (ci := 8) (v := .int 1) (C := R_MO) (T := F_MO) (N := 25) hx hb (tb_in hok in_MO) (fun w h => h) hown hK hP 0 rfl rfl 0 (by decide) (hok _ t_705 rfl _) (fun _ h9 => h9) rfl d_MO_pass_35 ?_
          refine lv_if_le (tgt := 43) hx hb d_MO_pass_38 (by decide) (fun h38 => absurd h38 (show ¬ (1 : Int32) ≤ 0 by decide)) (fun h38 => ?_)
          refine lv_iconst (v := 0) hx hb d_MO_pass_41 (by decide) ?_
          exact W.iret hx hb hr (fun t ht _ => ⟨⟨rfl, by rw [ht]; exact hP, hD⟩, hS.F ht⟩) hS.2.2 d_MO_pass_42
def ytx (rq : Nat → Nat) (v x r d : Int32) : Int32 := if ¬ zb (yns x) = 0 ∨ v < 0 ∨ ¬ zb (ynr rq v r) = 0 ∨ d < 0 ∨ ¬ d ≤ 9 then 1 else 0
def ym9 (x : Int32) : Int32 := if x ≤ 9 then x else 9
abbrev ro_MO_exempt : Room := { frames := 2, cells := 0, slots := 0, locals := 42 }
set_option maxHeartbeats 4000000 in
set_option maxRecDepth 100000 in
theorem m_MO_exempt_ok (l : Launch) (D : va_G) (cI cJ cZ cP cS : ClassId) (h : Nat) (b : Nat → Nat) (th : Int32) (G C : Nat) (hs : Bool) (s0 r p0 : Nat) (d : Int32) (pg ex dm : Nat → Int32) (rq : Nat → Nat) (hs0 : s0 < 4) (hr6 : r < 6) (hp0 : p0 < 3) (hpg : pg s0 = nI p0) (ht : ytx rq (pg s0) (nI s0) (nI r) d = 0) (sz : Nat) : Met l y_MO_exempt [Cond.code y_MO_exempt b_MO_exempt 6 (some .int)] ro_MO_exempt (va_Pc [.ref h, .int (nI s0), .int (nI r), .int d] (fun U => U.heap.size = sz ∧ tb_ok U ∧ va_P D cls [(h, .inr (8, [.int th, .int (nI G), .ref (b 0), .ref (b 1), .int (nI C), .ref (b 2), .ref (b 3), .ref (b 4), .ref (b 5), .ref (b 6), .ref (b 7), .ref (b 8), .ref (b 9), .ref (b 10), .ref (b 11), .ref (b 12), .ref (b 13), .ref (b 14), .ref (b 15), .ref (b 16), .ref (b 17), .ref (b 18), .int (zb hs), .ref (b 19), .ref (b 20)])), ((b 5), .inl (cI, 3, .inl (fun j => nI (rq j)))), ((b 8), .inl (cI, 4, .inl pg)), ((b 13), .inl (cI, 24, .inl ex)), ((b 6), .inl (cI, 18, .inl dm))] U.heap ∧ va_K D cls (tyl cI cJ cZ cP cS) U ∧ va_D (fun _ => True) [(h, .inr (8, [.int th, .int (nI G), .ref (b 0), .ref (b 1), .int (nI C), .ref (b 2), .ref (b 3), .ref (b 4), .ref (b 5), .ref (b 6), .ref (b 7), .ref (b 8), .ref (b 9), .ref (b 10), .ref (b 11), .ref (b 12), .ref (b 13), .ref (b 14), .ref (b 15), .ref (b 16), .ref (b 17), .ref (b 18), .int (zb hs), .ref (b 19), .ref (b 20)])), ((b 5), .inl (cI, 3, .inl (fun j => nI (rq j)))), ((b 8), .inl (cI, 4, .inl pg)), ((b 13), .inl (cI, 24, .inl ex)), ((b 6), .inl (cI, 18, .inl dm))])) (zv (some (.int (yne (dm (6 * p0 + r) - ym9 (ex (6 * s0 + r) + d))))) D [(h, .inr (8, [.int 0, .int (nI G), .ref (b 0), .ref (b 1), .int (nI C), .ref (b 2), .ref (b 3), .ref (b 4), .ref (b 5), .ref (b 6), .ref (b 7), .ref (b 8), .ref (b 9), .ref (b 10), .ref (b 11), .ref (b 12), .ref (b 13), .ref (b 14), .ref (b 15), .ref (b 16), .ref (b 17), .ref (b 18), .int (zb hs), .ref (b 19), .ref (b 20)])), ((b 5), .inl (cI, 3, .inl (fun j => nI (rq j)))), ((b 8), .inl (cI, 4, .inl pg)), ((b 13), .inl (cI, 24, .inl (upd ex (6 * s0 + r) (ym9 (ex (6 * s0 + r) + d))))), ((b 6), .inl (cI, 18, .inl dm))] (va_A [(h, .inr (8, [.int th, .int (nI G), .ref (b 0), .ref (b 1), .int (nI C), .ref (b 2), .ref (b 3), .ref (b 4), .ref (b 5), .ref (b 6), .ref (b 7), .ref (b 8), .ref (b 9), .ref (b 10), .ref (b 11), .ref (b 12), .ref (b 13), .ref (b 14), .ref (b 15), .ref (b 16), .ref (b 17), .ref (b 18), .int (zb hs), .ref (b 19), .ref (b 20)])), ((b 5), .inl (cI, 3, .inl (fun j => nI (rq j)))), ((b 8), .inl (cI, 4, .inl pg)), ((b 13), .inl (cI, 24, .inl ex)), ((b 6), .inl (cI, 18, .inl dm))] sz)) 0 0 (va_A [(h, .inr (8, [.int th, .int (nI G), .ref (b 0), .ref (b 1), .int (nI C), .ref (b 2), .ref (b 3), .ref (b 4), .ref (b 5), .ref (b 6), .ref (b 7), .ref (b 8), .ref (b 9), .ref (b 10), .ref (b 11), .ref (b 12), .ref (b 13), .ref (b 14), .ref (b 15), .ref (b 16), .ref (b 17), .ref (b 18), .int (zb hs), .ref (b 19), .ref (b 20)])), ((b 5), .inl (cI, 3, .inl (fun j => nI (rq j)))), ((b 8), .inl (cI, 4, .inl pg)), ((b 13), .inl (cI, 24, .inl ex)), ((b 6), .inl (cI, 18, .inl dm))] sz) := by
  refine Met.ofW (cc := b_MO_exempt) (maxL := 6) (ret := (some .int)) (by decide +kernel) rfl ?_
  intro p e s m args below meth c s₁ B hml hv
  obtain ⟨rfl, hsz, hok, hP, hK, hD0⟩ := hv
  have hx := B.exec
  have hb := B.bytes
  have hr := B.returns
  have hown : s.vm.findClass "StudyAuditModel" = some m.cls := findClass_of_methodNamed B.named
  have hlocks := B.notSynchronized
  subst hsz
  have hD := hD0.self (sz := s.heap.size)
  generalize hAe : va_A [(h, .inr (8, [.int th, .int (nI G), .ref (b 0), .ref (b 1), .int (nI C), .ref (b 2), .ref (b 3), .ref (b 4), .ref (b 5), .ref (b 6), .ref (b 7), .ref (b 8), .ref (b 9), .ref (b 10), .ref (b 11), .ref (b 12), .ref (b 13), .ref (b 14), .ref (b 15), .ref (b 16), .ref (b 17), .ref (b 18), .int (zb hs), .ref (b 19), .ref (b 20)])), ((b 5), .inl (cI, 3, .inl (fun j => nI (rq j)))), ((b 8), .inl (cI, 4, .inl pg)), ((b 13), .inl (cI, 24, .inl ex)), ((b 6), .inl (cI, 18, .inl dm))] s.heap.size = A at hD ⊢
  have hA : ∀ q : Nat, s.heap.size ≤ q → A q := fun q h => by rw [← hAe]; exact Or.inr h
  have hS : va_S A s.heap s.heap [] := va_S.rf
  have hl := lv_entry ([.ref h, .int (nI s0), .int (nI r), .int d]) (n := 6) (Nat.le_of_ble_eq_true rfl)
  rw [lg_entry_eq]
  generalize (lg_sl ([.ref h, .int (nI s0), .int (nI r), .int d]) ++ List.replicate (6 - (lg_sl ([.ref h, .int (nI s0), .int (nI r), .int d])).length) Slot.unset).toArray = ls at hl ⊢
  have hl : lv_has ls 6 [(0, .ref h), (1, .int (nI s0)), (2, .int (nI r)), (3, .int d)] := hl
  refine lv_aload_n hx hb d_MO_exempt_0 rfl (lv_at hl 0 rfl) ?_
  refine lv_iload_n hx hb d_MO_exempt_1 rfl (lv_at hl 1 rfl) ?_
  refine zc_read (va_runS (Ts := []) (As := [.int (nI s0)]) (rest := [.ref h]) ⟨hx, hb, hml, hown, fun _ h => absurd h List.not_mem_nil⟩ (m_MO_noStudent l (nI s0)) ⟨zc_B 1 hok c_MO_noStudent_w t_10 t_829 rfl rfl (by decide +kernel) ⟨Nat.le_of_ble_eq_true rfl, Nat.le_of_ble_eq_true rfl⟩, hok _ t_830 rfl _⟩ ⟨fun a U g mk q => by obtain ⟨q0, q2⟩ := q; exact ⟨q0, q2.call g mk a⟩, fun U hU hW => ⟨rfl, hok.warm hW⟩⟩ rfl rfl hl.1 rfl (lv_room (Nat.le_of_ble_eq_true rfl)) d_MO_exempt_2 ⟨Nat.le_of_ble_eq_true rfl, Nat.le_of_ble_eq_true rfl⟩) ?_
  refine W.eq (g2 := F0 m 5 ls [.int (zb (yns (nI s0))), .ref h]) rfl ?_
  refine lv_if_ne (tgt := 41) hx hb d_MO_exempt_5 (by decide) (fun h5 => ?_) (fun h5 => ?_)
  · refine lv_iconst (v := 1) hx hb d_MO_exempt_41 (by decide) ?_
    refine lv_goto (tgt := 46) hx hb d_MO_exempt_42 (by decide) ?_
    have e9 : ytx rq (pg s0) (nI s0) (nI r) d = 1 := by first | (simp [ytx, h5]; done)
    exact absurd (ht.symm.trans e9) (by decide)
  · refine lv_aload_n hx hb d_MO_exempt_8 rfl (lv_at hl 0 rfl) ?_
    refine va_get (D := D) (ci := 8) (v := .ref (b 8)) (C := R_MO) (T := F_MO) (N := 25) hx hb (tb_in hok in_MO) (fun w h => h) hown hK hP 0 rfl rfl 11 (by decide) (hok _ t_716 rfl _) (fun _ h9 => h9) rfl d_MO_exempt_9 ?_
    refine lv_iload_n hx hb d_MO_exempt_12 rfl (lv_at hl 1 rfl) ?_
    refine va_iald hx hb hK hP 2 0 rfl rfl (vp_in_nI (by omega) (by omega)) d_MO_exempt_13 ?_
    rw [nI_clamp (show s0 < 2 ^ 31 from by omega)]
    refine lv_if_lt (tgt := 41) hx hb d_MO_exempt_14 (by decide) (fun h14 => ?_) (fun h14 => ?_)
    · refine lv_iconst (v := 1) hx hb d_MO_exempt_41 (by decide) ?_
      refine lv_goto (tgt := 46) hx hb d_MO_exempt_42 (by decide) ?_
      have e9 : ytx rq (pg s0) (nI s0) (nI r) d = 1 := by first | (simp [ytx, h5, h14]; done)
      exact absurd (ht.symm.trans e9) (by decide)
    · refine lv_aload_n hx hb d_MO_exempt_17 rfl (lv_at hl 0 rfl) ?_
      refine lv_aload_n hx hb d_MO_exempt_18 rfl (lv_at hl 0 rfl) ?_
      refine va_get (D := D) (ci := 8) (v := .ref (b 8)) (C := R_MO) (T := F_MO) (N := 25) hx hb (tb_in hok in_MO) (fun w h => h) hown hK hP 0 rfl rfl 11 (by decide) (hok _ t_716 rfl _) (fun _ h9 => h9) rfl d_MO_exempt_19 ?_
      refine lv_iload_n hx hb d_MO_exempt_22 rfl (lv_at hl 1 rfl) ?_
      refine va_iald hx hb hK hP 2 0 rfl rfl (vp_in_nI (by omega) (by omega)) d_MO_exempt_23 ?_
      rw [nI_clamp (show s0 < 2 ^ 31 from by omega)]
      refine lv_iload_n hx hb d_MO_exempt_24 rfl (lv_at hl 2 rfl) ?_
      refine zc_read (va_runV (Ts := []) (As := [.int (pg s0), .int (nI r)]) (rest := [.ref h]) ⟨hx, hb, hml, hown, fun _ h => absurd h List.not_mem_nil⟩ (m_MO_noRequirement l D cI cJ cZ cP cS h b th G C hs (pg s0) (nI r) rq) ⟨zc_B 2 hok c_MO_noRequirement_w t_10 t_821 rfl rfl (by decide +kernel) ⟨Nat.le_of_ble_eq_true rfl, Nat.le_of_ble_eq_true rfl⟩, hok _ t_823 rfl _, hok _ s_21 rfl _⟩ ⟨fun a U g mk q => by obtain ⟨q0, q2, qP, qK⟩ := q; exact ⟨q0, q2.call g mk a, qP, va_K.moved (u := U) (U := U.calling g mk a) (Vm.Alike.refl U.vm) qK⟩, va_recv hK hP (ci := 8) (q0 := 0) rfl rfl, fun U hU hW => ⟨rfl, hok.warm hW, by rw [hU]; exact hP.sub [0, 1] rfl, va_K.moved hW.alike hK⟩⟩ rfl rfl hl.1 rfl (lv_room (Nat.le_of_ble_eq_true rfl)) d_MO_exempt_25 ⟨Nat.le_of_ble_eq_true rfl, Nat.le_of_ble_eq_true rfl⟩) ?_
      refine W.eq (g2 := F0 m 28 ls [.int (zb (ynr rq (pg s0) (nI r))), .ref h]) rfl ?_
      refine lv_if_ne (tgt := 41) hx hb d_MO_exempt_28 (by decide) (fun h28 => ?_) (fun h28 => ?_)
      · refine lv_iconst (v := 1) hx hb d_MO_exempt_41 (by decide) ?_
        refine lv_goto (tgt := 46) hx hb d_MO_exempt_42 (by decide) ?_
        have e9 : ytx rq (pg s0) (nI s0) (nI r) d = 1 := by first | (simp [ytx, h5, h14, h28]; done)
        exact absurd (ht.symm.trans e9) (by decide)
      · refine lv_iload_n hx hb d_MO_exempt_31 rfl (lv_at hl 3 rfl) ?_
        refine lv_if_lt (tgt := 41) hx hb d_MO_exempt_32 (by decide) (fun h32 => ?_) (fun h32 => ?_)
        · refine lv_iconst (v := 1) hx hb d_MO_exempt_41 (by decide) ?_
          refine lv_goto (tgt := 46) hx hb d_MO_exempt_42 (by decide) ?_
          have e9 : ytx rq (pg s0) (nI s0) (nI r) d = 1 := by first | (simp [ytx, h5, h14, h28, h32]; done)
          exact absurd (ht.symm.trans e9) (by decide)
        · refine lv_iload_n hx hb d_MO_exempt_35 rfl (lv_at hl 3 rfl) ?_
          refine lv_bipush (v := 9) hx hb d_MO_exempt_36 (by decide) ?_
          refine lv_icmp_le (tgt := 45) hx hb d_MO_exempt_38 (by decide) (fun h38 => ?_) (fun h38 => ?_)
          · refine lv_iconst (v := 0) hx hb d_MO_exempt_45 (by decide) ?_
            have e9 : ytx rq (pg s0) (nI s0) (nI r) d = 0 := by first | (simp [ytx, h5, h14, h28, h32, h38]; done)
            refine va_put (D := D) (ci := 8) (v := .int 0) (ty := .int) (C := R_MO) (T := F_MO) (N := 25) hx hb (tb_in hok in_MO) (fun w h => h) g_MO g_MO_ok n_MO hown hK hP hD hS 0 rfl rfl 0 (by decide) (hok _ t_705 rfl _) (fun _ h9 => h9) rfl (by decide +kernel) rfl rfl (Nat.le_of_ble_eq_true rfl) d_MO_exempt_46 (fun H locs hP hD hS => ?_)
            have hP : va_P D cls [(h, .inr (8, [.int 0, .int (nI G), .ref (b 0), .ref (b 1), .int (nI C), .ref (b 2), .ref (b 3), .ref (b 4), .ref (b 5), .ref (b 6), .ref (b 7), .ref (b 8), .ref (b 9), .ref (b 10), .ref (b 11), .ref (b 12), .ref (b 13), .ref (b 14), .ref (b 15), .ref (b 16), .ref (b 17), .ref (b 18), .int (zb hs), .ref (b 19), .ref (b 20)])), ((b 5), .inl (cI, 3, .inl (fun j => nI (rq j)))), ((b 8), .inl (cI, 4, .inl pg)), ((b 13), .inl (cI, 24, .inl ex)), ((b 6), .inl (cI, 18, .inl dm))] H := hP
            have hD : va_D A [(h, .inr (8, [.int 0, .int (nI G), .ref (b 0), .ref (b 1), .int (nI C), .ref (b 2), .ref (b 3), .ref (b 4), .ref (b 5), .ref (b 6), .ref (b 7), .ref (b 8), .ref (b 9), .ref (b 10), .ref (b 11), .ref (b 12), .ref (b 13), .ref (b 14), .ref (b 15), .ref (b 16), .ref (b 17), .ref (b 18), .int (zb hs), .ref (b 19), .ref (b 20)])), ((b 5), .inl (cI, 3, .inl (fun j => nI (rq j)))), ((b 8), .inl (cI, 4, .inl pg)), ((b 13), .inl (cI, 24, .inl ex)), ((b 6), .inl (cI, 18, .inl dm))] := hD
            refine lv_aload_n hx hb d_MO_exempt_49 rfl (lv_at hl 0 rfl) ?_
            refine va_get (D := D) (ci := 8) (v := .int 0) (C := R_MO) (T := F_MO) (N := 25) hx hb (tb_in hok in_MO) (fun w h => h) hown hK hP 0 rfl rfl 0 (by decide) (hok _ t_705 rfl _) (fun _ h9 => h9) rfl d_MO_exempt_50 ?_
            refine lv_if_le (tgt := 58) hx hb d_MO_exempt_53 (by decide) (fun h53 => ?_) (fun h53 => absurd (show (0 : Int32) ≤ 0 by decide) h53)
            refine lv_bipush (v := 6) hx hb d_MO_exempt_58 (by decide) ?_
            refine lv_iload_n hx hb d_MO_exempt_60 rfl (lv_at hl 1 rfl) ?_
            refine lv_imul hx hb d_MO_exempt_61 ?_
            refine lv_iload_n hx hb d_MO_exempt_62 rfl (lv_at hl 2 rfl) ?_
            refine lv_iadd hx hb d_MO_exempt_63 ?_
            refine W.eq (g2 := F0 m 64 ls [.int (nI (6 * s0 + r))]) (by rw [show ((((6 : Int32) * (nI s0)) + (nI r)) : Int32) = nI (6 * s0 + r) from (by rw [show (6 : Int32) = nI 6 from rfl, pk_mul, nI_add])]) ?_
            refine lv_istore hx hb d_MO_exempt_64 hl (by decide) rfl (fun ls hl => ?_)
            have hl : lv_has ls 6 [(4, .int (nI (6 * s0 + r))), (0, .ref h), (1, .int (nI s0)), (2, .int (nI r)), (3, .int d)] := hl
            refine lv_aload_n hx hb d_MO_exempt_66 rfl (lv_at hl 1 rfl) ?_
            refine va_get (D := D) (ci := 8) (v := .ref (b 13)) (C := R_MO) (T := F_MO) (N := 25) hx hb (tb_in hok in_MO) (fun w h => h) hown hK hP 0 rfl rfl 16 (by decide) (hok _ t_721 rfl _) (fun _ h9 => h9) rfl d_MO_exempt_67 ?_
            refine lv_iload hx hb d_MO_exempt_70 (lv_at hl 0 rfl) ?_
            refine va_iald hx hb hK hP 3 0 rfl rfl (vp_in_nI (by omega) (by omega)) d_MO_exempt_72 ?_
            rw [nI_clamp (show (6 * s0 + r) < 2 ^ 31 from by omega)]
            refine lv_iload_n hx hb d_MO_exempt_73 rfl (lv_at hl 4 rfl) ?_
            refine lv_iadd hx hb d_MO_exempt_74 ?_
            refine lv_istore hx hb d_MO_exempt_75 hl (by decide) rfl (fun ls hl => ?_)
            have hl : lv_has ls 6 [(5, .int ((ex (6 * s0 + r)) + d)), (4, .int (nI (6 * s0 + r))), (0, .ref h), (1, .int (nI s0)), (2, .int (nI r)), (3, .int d)] := hl
            refine lv_aload_n hx hb d_MO_exempt_77 rfl (lv_at hl 2 rfl) ?_
            refine va_get (D := D) (ci := 8) (v := .ref (b 13)) (C := R_MO) (T := F_MO) (N := 25) hx hb (tb_in hok in_MO) (fun w h => h) hown hK hP 0 rfl rfl 16 (by decide) (hok _ t_721 rfl _) (fun _ h9 => h9) rfl d_MO_exempt_78 ?_
            refine lv_iload hx hb d_MO_exempt_81 (lv_at hl 1 rfl) ?_
            refine lv_iload hx hb d_MO_exempt_83 (lv_at hl 0 rfl) ?_
            refine lv_bipush (v := 9) hx hb d_MO_exempt_85 (by decide) ?_
            refine lv_icmp_le (tgt := 95) hx hb d_MO_exempt_87 (by decide) (fun h87 => ?_) (fun h87 => ?_)
            · refine lv_iload hx hb d_MO_exempt_95 (lv_at hl 0 rfl) ?_
              refine W.eq (g2 := F0 m 97 ls [.int (ym9 (ex (6 * s0 + r) + d)), .int (nI (6 * s0 + r)), .ref (b 13)]) (by rw [show ym9 (ex (6 * s0 + r) + d) = ((ex (6 * s0 + r)) + d) from if_pos h87]) ?_
              refine va_iast hx hb hK hP hD hS 3 0 rfl rfl (vp_in_nI (by omega) (by omega)) d_MO_exempt_97 (fun H locs hP hD hS => ?_)
              rw [nI_clamp (show (6 * s0 + r) < 2 ^ 31 from by omega)] at hP hD
              have hP : va_P D cls [(h, .inr (8, [.int 0, .int (nI G), .ref (b 0), .ref (b 1), .int (nI C), .ref (b 2), .ref (b 3), .ref (b 4), .ref (b 5), .ref (b 6), .ref (b 7), .ref (b 8), .ref (b 9), .ref (b 10), .ref (b 11), .ref (b 12), .ref (b 13), .ref (b 14), .ref (b 15), .ref (b 16), .ref (b 17), .ref (b 18), .int (zb hs), .ref (b 19), .ref (b 20)])), ((b 5), .inl (cI, 3, .inl (fun j => nI (rq j)))), ((b 8), .inl (cI, 4, .inl pg)), ((b 13), .inl (cI, 24, .inl (upd ex (6 * s0 + r) (ym9 (ex (6 * s0 + r) + d))))), ((b 6), .inl (cI, 18, .inl dm))] H := hP
              have hD : va_D A [(h, .inr (8, [.int 0, .int (nI G), .ref (b 0), .ref (b 1), .int (nI C), .ref (b 2), .ref (b 3), .ref (b 4), .ref (b 5), .ref (b 6), .ref (b 7), .ref (b 8), .ref (b 9), .ref (b 10), .ref (b 11), .ref (b 12), .ref (b 13), .ref (b 14), .ref (b 15), .ref (b 16), .ref (b 17), .ref (b 18), .int (zb hs), .ref (b 19), .ref (b 20)])), ((b 5), .inl (cI, 3, .inl (fun j => nI (rq j)))), ((b 8), .inl (cI, 4, .inl pg)), ((b 13), .inl (cI, 24, .inl (upd ex (6 * s0 + r) (ym9 (ex (6 * s0 + r) + d))))), ((b 6), .inl (cI, 18, .inl dm))] := hD
              refine lv_aload_n hx hb d_MO_exempt_98 rfl (lv_at hl 2 rfl) ?_
              refine lv_iload_n hx hb d_MO_exempt_99 rfl (lv_at hl 3 rfl) ?_
              refine lv_iload_n hx hb d_MO_exempt_100 rfl (lv_at hl 4 rfl) ?_
              refine zc_read (va_runV (Ts := []) (As := [.int (nI s0), .int (nI r)]) (rest := []) ⟨hx, hb, hml, hown, fun _ h => absurd h List.not_mem_nil⟩ (m_MO_need l D cI cJ cZ cP cS h b 0 G C hs s0 r p0 dm pg (upd ex (6 * s0 + r) (ym9 (ex (6 * s0 + r) + d))) hs0 hr6 hp0 hpg) ⟨zc_B 2 hok c_MO_need_w t_10 t_844 rfl rfl (by decide +kernel) ⟨Nat.le_of_ble_eq_true rfl, Nat.le_of_ble_eq_true rfl⟩, hok _ t_846 rfl _, hok _ s_22 rfl _⟩ ⟨fun a U g mk q => by obtain ⟨q0, q2, qP, qK⟩ := q; exact ⟨q0, q2.call g mk a, qP, va_K.moved (u := U) (U := U.calling g mk a) (Vm.Alike.refl U.vm) qK⟩, va_recv hK hP (ci := 8) (q0 := 0) rfl rfl, fun U hU hW => ⟨rfl, hok.warm hW, by rw [hU]; exact hP.sub [0, 4, 2, 3] rfl, va_K.moved hW.alike hK⟩⟩ rfl rfl hl.1 rfl (lv_room (Nat.le_of_ble_eq_true rfl)) d_MO_exempt_101 ⟨Nat.le_of_ble_eq_true rfl, Nat.le_of_ble_eq_true rfl⟩) ?_
              refine W.eq (g2 := F0 m 104 ls [.int (yne (dm (6 * p0 + r) - (upd ex (6 * s0 + r) (ym9 (ex (6 * s0 + r) + d))) (6 * s0 + r)))]) rfl ?_
              refine W.eq (g2 := F0 m 104 ls [.int (yne (dm (6 * p0 + r) - ym9 (ex (6 * s0 + r) + d)))]) (by rw [pk_us]) ?_
              exact W.iret hx hb hr (fun t ht _ => ⟨⟨rfl, by rw [ht]; exact hP, hD⟩, hS.F ht⟩) hS.2.2 d_MO_exempt_104
            · refine lv_bipush (v := 9) hx hb d_MO_exempt_90 (by decide) ?_
              refine lv_goto (tgt := 97) hx hb d_MO_exempt_92 (by decide) ?_
              refine W.eq (g2 := F0 m 97 ls [.int (ym9 (ex (6 * s0 + r) + d)), .int (nI (6 * s0 + r)), .ref (b 13)]) (by rw [show ym9 (ex (6 * s0 + r) + d) = 9 from if_neg h87]) ?_
              refine va_iast hx hb hK hP hD hS 3 0 rfl rfl (vp_in_nI (by omega) (by omega)) d_MO_exempt_97 (fun H locs hP hD hS => ?_)
              rw [nI_clamp (show (6 * s0 + r) < 2 ^ 31 from by omega)] at hP hD
              have hP : va_P D cls [(h, .inr (8, [.int 0, .int (nI G), .ref (b 0), .ref (b 1), .int (nI C), .ref (b 2), .ref (b 3), .ref (b 4), .ref (b 5), .ref (b 6), .ref (b 7), .ref (b 8), .ref (b 9), .ref (b 10), .ref (b 11), .ref (b 12), .ref (b 13), .ref (b 14), .ref (b 15), .ref (b 16), .ref (b 17), .ref (b 18), .int (zb hs), .ref (b 19), .ref (b 20)])), ((b 5), .inl (cI, 3, .inl (fun j => nI (rq j)))), ((b 8), .inl (cI, 4, .inl pg)), ((b 13), .inl (cI, 24, .inl (upd ex (6 * s0 + r) (ym9 (ex (6 * s0 + r) + d))))), ((b 6), .inl (cI, 18, .inl dm))] H := hP
              have hD : va_D A [(h, .inr (8, [.int 0, .int (nI G), .ref (b 0), .ref (b 1), .int (nI C), .ref (b 2), .ref (b 3), .ref (b 4), .ref (b 5), .ref (b 6), .ref (b 7), .ref (b 8), .ref (b 9), .ref (b 10), .ref (b 11), .ref (b 12), .ref (b 13), .ref (b 14), .ref (b 15), .ref (b 16), .ref (b 17), .ref (b 18), .int (zb hs), .ref (b 19), .ref (b 20)])), ((b 5), .inl (cI, 3, .inl (fun j => nI (rq j)))), ((b 8), .inl (cI, 4, .inl pg)), ((b 13), .inl (cI, 24, .inl (upd ex (6 * s0 + r) (ym9 (ex (6 * s0 + r) + d))))), ((b 6), .inl (cI, 18, .inl dm))] := hD
              refine lv_aload_n hx hb d_MO_exempt_98 rfl (lv_at hl 2 rfl) ?_
              refine lv_iload_n hx hb d_MO_exempt_99 rfl (lv_at hl 3 rfl) ?_
              refine lv_iload_n hx hb d_MO_exempt_100 rfl (lv_at hl 4 rfl) ?_
              refine zc_read (va_runV (Ts := []) (As := [.int (nI s0), .int (nI r)]) (rest := []) ⟨hx, hb, hml, hown, fun _ h => absurd h List.not_mem_nil⟩ (m_MO_need l D cI cJ cZ cP cS h b 0 G C hs s0 r p0 dm pg (upd ex (6 * s0 + r) (ym9 (ex (6 * s0 + r) + d))) hs0 hr6 hp0 hpg) ⟨zc_B 2 hok c_MO_need_w t_10 t_844 rfl rfl (by decide +kernel) ⟨Nat.le_of_ble_eq_true rfl, Nat.le_of_ble_eq_true rfl⟩, hok _ t_846 rfl _, hok _ s_22 rfl _⟩ ⟨fun a U g mk q => by obtain ⟨q0, q2, qP, qK⟩ := q; exact ⟨q0, q2.call g mk a, qP, va_K.moved (u := U) (U := U.calling g mk a) (Vm.Alike.refl U.vm) qK⟩, va_recv hK hP (ci := 8) (q0 := 0) rfl rfl, fun U hU hW => ⟨rfl, hok.warm hW, by rw [hU]; exact hP.sub [0, 4, 2, 3] rfl, va_K.moved hW.alike hK⟩⟩ rfl rfl hl.1 rfl (lv_room (Nat.le_of_ble_eq_true rfl)) d_MO_exempt_101 ⟨Nat.le_of_ble_eq_true rfl, Nat.le_of_ble_eq_true rfl⟩) ?_
              refine W.eq (g2 := F0 m 104 ls [.int (yne (dm (6 * p0 + r) - (upd ex (6 * s0 + r) (ym9 (ex (6 * s0 + r) + d))) (6 * s0 + r)))]) rfl ?_
              refine W.eq (g2 := F0 m 104 ls [.int (yne (dm (6 * p0 + r) - ym9 (ex (6 * s0 + r) + d)))]) (by rw [pk_us]) ?_
              exact W.iret hx hb hr (fun t ht _ => ⟨⟨rfl, by rw [ht]; exact hP, hD⟩, hS.F ht⟩) hS.2.2 d_MO_exempt_104
          · refine lv_iconst (v := 1) hx hb d_MO_exempt_41 (by decide) ?_
            refine lv_goto (tgt := 46) hx hb d_MO_exempt_42 (by decide) ?_
            have e9 : ytx rq (pg s0) (nI s0) (nI r) d = 1 := by first | (simp [ytx, h5, h14, h28, h32, h38]; done)
            exact absurd (ht.symm.trans e9) (by decide)
set_option maxHeartbeats 4000000 in
set_option maxRecDepth 100000 in
theorem m_MO_exempt_bad (l : Launch) (D : va_G) (cI cJ cZ cP cS : ClassId) (h : Nat) (b : Nat → Nat) (th : Int32) (G C : Nat) (hs : Bool) (x r d : Int32) (pg : Nat → Int32) (rq : Nat → Nat) (t : Int32) (ht : ytx rq (pg x.toNatClampNeg) x r d = t) (hn : ¬ t = 0) (sz : Nat) : Met l y_MO_exempt [Cond.code y_MO_exempt b_MO_exempt 6 (some .int)] ro_MO_exempt (va_Pc [.ref h, .int x, .int r, .int d] (fun U => U.heap.size = sz ∧ tb_ok U ∧ va_P D cls [(h, .inr (8, [.int th, .int (nI G), .ref (b 0), .ref (b 1), .int (nI C), .ref (b 2), .ref (b 3), .ref (b 4), .ref (b 5), .ref (b 6), .ref (b 7), .ref (b 8), .ref (b 9), .ref (b 10), .ref (b 11), .ref (b 12), .ref (b 13), .ref (b 14), .ref (b 15), .ref (b 16), .ref (b 17), .ref (b 18), .int (zb hs), .ref (b 19), .ref (b 20)])), ((b 5), .inl (cI, 3, .inl (fun j => nI (rq j)))), ((b 8), .inl (cI, 4, .inl pg))] U.heap ∧ va_K D cls (tyl cI cJ cZ cP cS) U ∧ va_D (fun _ => True) [(h, .inr (8, [.int th, .int (nI G), .ref (b 0), .ref (b 1), .int (nI C), .ref (b 2), .ref (b 3), .ref (b 4), .ref (b 5), .ref (b 6), .ref (b 7), .ref (b 8), .ref (b 9), .ref (b 10), .ref (b 11), .ref (b 12), .ref (b 13), .ref (b 14), .ref (b 15), .ref (b 16), .ref (b 17), .ref (b 18), .int (zb hs), .ref (b 19), .ref (b 20)])), ((b 5), .inl (cI, 3, .inl (fun j => nI (rq j)))), ((b 8), .inl (cI, 4, .inl pg))])) (zv (some (.int 0)) D [(h, .inr (8, [.int t, .int (nI G), .ref (b 0), .ref (b 1), .int (nI C), .ref (b 2), .ref (b 3), .ref (b 4), .ref (b 5), .ref (b 6), .ref (b 7), .ref (b 8), .ref (b 9), .ref (b 10), .ref (b 11), .ref (b 12), .ref (b 13), .ref (b 14), .ref (b 15), .ref (b 16), .ref (b 17), .ref (b 18), .int (zb hs), .ref (b 19), .ref (b 20)])), ((b 5), .inl (cI, 3, .inl (fun j => nI (rq j)))), ((b 8), .inl (cI, 4, .inl pg))] (va_A [(h, .inr (8, [.int th, .int (nI G), .ref (b 0), .ref (b 1), .int (nI C), .ref (b 2), .ref (b 3), .ref (b 4), .ref (b 5), .ref (b 6), .ref (b 7), .ref (b 8), .ref (b 9), .ref (b 10), .ref (b 11), .ref (b 12), .ref (b 13), .ref (b 14), .ref (b 15), .ref (b 16), .ref (b 17), .ref (b 18), .int (zb hs), .ref (b 19), .ref (b 20)])), ((b 5), .inl (cI, 3, .inl (fun j => nI (rq j)))), ((b 8), .inl (cI, 4, .inl pg))] sz)) 0 0 (va_A [(h, .inr (8, [.int th, .int (nI G), .ref (b 0), .ref (b 1), .int (nI C), .ref (b 2), .ref (b 3), .ref (b 4), .ref (b 5), .ref (b 6), .ref (b 7), .ref (b 8), .ref (b 9), .ref (b 10), .ref (b 11), .ref (b 12), .ref (b 13), .ref (b 14), .ref (b 15), .ref (b 16), .ref (b 17), .ref (b 18), .int (zb hs), .ref (b 19), .ref (b 20)])), ((b 5), .inl (cI, 3, .inl (fun j => nI (rq j)))), ((b 8), .inl (cI, 4, .inl pg))] sz) := by
  refine Met.ofW (cc := b_MO_exempt) (maxL := 6) (ret := (some .int)) (by decide +kernel) rfl ?_
  intro p e s m args below meth c s₁ B hml hv
  obtain ⟨rfl, hsz, hok, hP, hK, hD0⟩ := hv
  have hx := B.exec
  have hb := B.bytes
  have hr := B.returns
  have hown : s.vm.findClass "StudyAuditModel" = some m.cls := findClass_of_methodNamed B.named
  have hlocks := B.notSynchronized
  subst hsz
  have hD := hD0.self (sz := s.heap.size)
  generalize hAe : va_A [(h, .inr (8, [.int th, .int (nI G), .ref (b 0), .ref (b 1), .int (nI C), .ref (b 2), .ref (b 3), .ref (b 4), .ref (b 5), .ref (b 6), .ref (b 7), .ref (b 8), .ref (b 9), .ref (b 10), .ref (b 11), .ref (b 12), .ref (b 13), .ref (b 14), .ref (b 15), .ref (b 16), .ref (b 17), .ref (b 18), .int (zb hs), .ref (b 19), .ref (b 20)])), ((b 5), .inl (cI, 3, .inl (fun j => nI (rq j)))), ((b 8), .inl (cI, 4, .inl pg))] s.heap.size = A at hD ⊢
  have hA : ∀ q : Nat, s.heap.size ≤ q → A q := fun q h => by rw [← hAe]; exact Or.inr h
  have hS : va_S A s.heap s.heap [] := va_S.rf
  have hl := lv_entry ([.ref h, .int x, .int r, .int d]) (n := 6) (Nat.le_of_ble_eq_true rfl)
  rw [lg_entry_eq]
  generalize (lg_sl ([.ref h, .int x, .int r, .int d]) ++ List.replicate (6 - (lg_sl ([.ref h, .int x, .int r, .int d])).length) Slot.unset).toArray = ls at hl ⊢
  have hl : lv_has ls 6 [(0, .ref h), (1, .int x), (2, .int r), (3, .int d)] := hl
  refine lv_aload_n hx hb d_MO_exempt_0 rfl (lv_at hl 0 rfl) ?_
  refine lv_iload_n hx hb d_MO_exempt_1 rfl (lv_at hl 1 rfl) ?_
  refine zc_read (va_runS (Ts := []) (As := [.int x]) (rest := [.ref h]) ⟨hx, hb, hml, hown, fun _ h => absurd h List.not_mem_nil⟩ (m_MO_noStudent l x) ⟨zc_B 1 hok c_MO_noStudent_w t_10 t_829 rfl rfl (by decide +kernel) ⟨Nat.le_of_ble_eq_true rfl, Nat.le_of_ble_eq_true rfl⟩, hok _ t_830 rfl _⟩ ⟨fun a U g mk q => by obtain ⟨q0, q2⟩ := q; exact ⟨q0, q2.call g mk a⟩, fun U hU hW => ⟨rfl, hok.warm hW⟩⟩ rfl rfl hl.1 rfl (lv_room (Nat.le_of_ble_eq_true rfl)) d_MO_exempt_2 ⟨Nat.le_of_ble_eq_true rfl, Nat.le_of_ble_eq_true rfl⟩) ?_
  refine W.eq (g2 := F0 m 5 ls [.int (zb (yns x)), .ref h]) rfl ?_
  refine lv_if_ne (tgt := 41) hx hb d_MO_exempt_5 (by decide) (fun h5 => ?_) (fun h5 => ?_)
  · refine lv_iconst (v := 1) hx hb d_MO_exempt_41 (by decide) ?_
    refine lv_goto (tgt := 46) hx hb d_MO_exempt_42 (by decide) ?_
    have e9 : ytx rq (pg x.toNatClampNeg) x r d = 1 := by first | (simp [ytx, h5]; done)
    obtain rfl : t = 1 := ht.symm.trans e9
    refine va_put (D := D) (ci := 8) (v := .int 1) (ty := .int) (C := R_MO) (T := F_MO) (N := 25) hx hb (tb_in hok in_MO) (fun w h => h) g_MO g_MO_ok n_MO hown hK hP hD hS 0 rfl rfl 0 (by decide) (hok _ t_705 rfl _) (fun _ h9 => h9) rfl (by decide +kernel) rfl rfl (Nat.le_of_ble_eq_true rfl) d_MO_exempt_46 (fun H locs hP hD hS => ?_)
    have hP : va_P D cls [(h, .inr (8, [.int 1, .int (nI G), .ref (b 0), .ref (b 1), .int (nI C), .ref (b 2), .ref (b 3), .ref (b 4), .ref (b 5), .ref (b 6), .ref (b 7), .ref (b 8), .ref (b 9), .ref (b 10), .ref (b 11), .ref (b 12), .ref (b 13), .ref (b 14), .ref (b 15), .ref (b 16), .ref (b 17), .ref (b 18), .int (zb hs), .ref (b 19), .ref (b 20)])), ((b 5), .inl (cI, 3, .inl (fun j => nI (rq j)))), ((b 8), .inl (cI, 4, .inl pg))] H := hP
    have hD : va_D A [(h, .inr (8, [.int 1, .int (nI G), .ref (b 0), .ref (b 1), .int (nI C), .ref (b 2), .ref (b 3), .ref (b 4), .ref (b 5), .ref (b 6), .ref (b 7), .ref (b 8), .ref (b 9), .ref (b 10), .ref (b 11), .ref (b 12), .ref (b 13), .ref (b 14), .ref (b 15), .ref (b 16), .ref (b 17), .ref (b 18), .int (zb hs), .ref (b 19), .ref (b 20)])), ((b 5), .inl (cI, 3, .inl (fun j => nI (rq j)))), ((b 8), .inl (cI, 4, .inl pg))] := hD
    refine lv_aload_n hx hb d_MO_exempt_49 rfl (lv_at hl 0 rfl) ?_
    refine va_get (D := D) (ci := 8) (v := .int 1) (C := R_MO) (T := F_MO) (N := 25) hx hb (tb_in hok in_MO) (fun w h => h) hown hK hP 0 rfl rfl 0 (by decide) (hok _ t_705 rfl _) (fun _ h9 => h9) rfl d_MO_exempt_50 ?_
    refine lv_if_le (tgt := 58) hx hb d_MO_exempt_53 (by decide) (fun h53 => absurd h53 (show ¬ (1 : Int32) ≤ 0 by decide)) (fun h53 => ?_)
    refine lv_iconst (v := 0) hx hb d_MO_exempt_56 (by decide) ?_
    exact W.iret hx hb hr (fun t ht _ => ⟨⟨rfl, by rw [ht]; exact hP, hD⟩, hS.F ht⟩) hS.2.2 d_MO_exempt_57
  · have k5 := yns_in (zb_0 h5)
    refine lv_aload_n hx hb d_MO_exempt_8 rfl (lv_at hl 0 rfl) ?_
    refine va_get (D := D) (ci := 8) (v := .ref (b 8)) (C := R_MO) (T := F_MO) (N := 25) hx hb (tb_in hok in_MO) (fun w h => h) hown hK hP 0 rfl rfl 11 (by decide) (hok _ t_716 rfl _) (fun _ h9 => h9) rfl d_MO_exempt_9 ?_
    refine lv_iload_n hx hb d_MO_exempt_12 rfl (lv_at hl 1 rfl) ?_
    refine va_iald hx hb hK hP 2 0 rfl rfl k5.1 d_MO_exempt_13 ?_
    refine lv_if_lt (tgt := 41) hx hb d_MO_exempt_14 (by decide) (fun h14 => ?_) (fun h14 => ?_)
    · refine lv_iconst (v := 1) hx hb d_MO_exempt_41 (by decide) ?_
      refine lv_goto (tgt := 46) hx hb d_MO_exempt_42 (by decide) ?_
      have e9 : ytx rq (pg x.toNatClampNeg) x r d = 1 := by first | (simp [ytx, h5, h14]; done)
      obtain rfl : t = 1 := ht.symm.trans e9
      refine va_put (D := D) (ci := 8) (v := .int 1) (ty := .int) (C := R_MO) (T := F_MO) (N := 25) hx hb (tb_in hok in_MO) (fun w h => h) g_MO g_MO_ok n_MO hown hK hP hD hS 0 rfl rfl 0 (by decide) (hok _ t_705 rfl _) (fun _ h9 => h9) rfl (by decide +kernel) rfl rfl (Nat.le_of_ble_eq_true rfl) d_MO_exempt_46 (fun H locs hP hD hS => ?_)
      have hP : va_P D cls [(h, .inr (8, [.int 1, .int (nI G), .ref (b 0), .ref (b 1), .int (nI C), .ref (b 2), .ref (b 3), .ref (b 4), .ref (b 5), .ref (b 6), .ref (b 7), .ref (b 8), .ref (b 9), .ref (b 10), .ref (b 11), .ref (b 12), .ref (b 13), .ref (b 14), .ref (b 15), .ref (b 16), .ref (b 17), .ref (b 18), .int (zb hs), .ref (b 19), .ref (b 20)])), ((b 5), .inl (cI, 3, .inl (fun j => nI (rq j)))), ((b 8), .inl (cI, 4, .inl pg))] H := hP
      have hD : va_D A [(h, .inr (8, [.int 1, .int (nI G), .ref (b 0), .ref (b 1), .int (nI C), .ref (b 2), .ref (b 3), .ref (b 4), .ref (b 5), .ref (b 6), .ref (b 7), .ref (b 8), .ref (b 9), .ref (b 10), .ref (b 11), .ref (b 12), .ref (b 13), .ref (b 14), .ref (b 15), .ref (b 16), .ref (b 17), .ref (b 18), .int (zb hs), .ref (b 19), .ref (b 20)])), ((b 5), .inl (cI, 3, .inl (fun j => nI (rq j)))), ((b 8), .inl (cI, 4, .inl pg))] := hD
      refine lv_aload_n hx hb d_MO_exempt_49 rfl (lv_at hl 0 rfl) ?_
      refine va_get (D := D) (ci := 8) (v := .int 1) (C := R_MO) (T := F_MO) (N := 25) hx hb (tb_in hok in_MO) (fun w h => h) hown hK hP 0 rfl rfl 0 (by decide) (hok _ t_705 rfl _) (fun _ h9 => h9) rfl d_MO_exempt_50 ?_
      refine lv_if_le (tgt := 58) hx hb d_MO_exempt_53 (by decide) (fun h53 => absurd h53 (show ¬ (1 : Int32) ≤ 0 by decide)) (fun h53 => ?_)
      refine lv_iconst (v := 0) hx hb d_MO_exempt_56 (by decide) ?_
      exact W.iret hx hb hr (fun t ht _ => ⟨⟨rfl, by rw [ht]; exact hP, hD⟩, hS.F ht⟩) hS.2.2 d_MO_exempt_57
    · refine lv_aload_n hx hb d_MO_exempt_17 rfl (lv_at hl 0 rfl) ?_
      refine lv_aload_n hx hb d_MO_exempt_18 rfl (lv_at hl 0 rfl) ?_
      refine va_get (D := D) (ci := 8) (v := .ref (b 8)) (C := R_MO) (T := F_MO) (N := 25) hx hb (tb_in hok in_MO) (fun w h => h) hown hK hP 0 rfl rfl 11 (by decide) (hok _ t_716 rfl _) (fun _ h9 => h9) rfl d_MO_exempt_19 ?_
      refine lv_iload_n hx hb d_MO_exempt_22 rfl (lv_at hl 1 rfl) ?_
      refine va_iald hx hb hK hP 2 0 rfl rfl k5.1 d_MO_exempt_23 ?_
      refine lv_iload_n hx hb d_MO_exempt_24 rfl (lv_at hl 2 rfl) ?_
      refine zc_read (va_runV (Ts := []) (As := [.int (pg (Int32.toNatClampNeg x)), .int r]) (rest := [.ref h]) ⟨hx, hb, hml, hown, fun _ h => absurd h List.not_mem_nil⟩ (m_MO_noRequirement l D cI cJ cZ cP cS h b th G C hs (pg (Int32.toNatClampNeg x)) r rq) ⟨zc_B 2 hok c_MO_noRequirement_w t_10 t_821 rfl rfl (by decide +kernel) ⟨Nat.le_of_ble_eq_true rfl, Nat.le_of_ble_eq_true rfl⟩, hok _ t_823 rfl _, hok _ s_21 rfl _⟩ ⟨fun a U g mk q => by obtain ⟨q0, q2, qP, qK⟩ := q; exact ⟨q0, q2.call g mk a, qP, va_K.moved (u := U) (U := U.calling g mk a) (Vm.Alike.refl U.vm) qK⟩, va_recv hK hP (ci := 8) (q0 := 0) rfl rfl, fun U hU hW => ⟨rfl, hok.warm hW, by rw [hU]; exact hP.sub [0, 1] rfl, va_K.moved hW.alike hK⟩⟩ rfl rfl hl.1 rfl (lv_room (Nat.le_of_ble_eq_true rfl)) d_MO_exempt_25 ⟨Nat.le_of_ble_eq_true rfl, Nat.le_of_ble_eq_true rfl⟩) ?_
      refine W.eq (g2 := F0 m 28 ls [.int (zb (ynr rq (pg (Int32.toNatClampNeg x)) r)), .ref h]) rfl ?_
      refine lv_if_ne (tgt := 41) hx hb d_MO_exempt_28 (by decide) (fun h28 => ?_) (fun h28 => ?_)
      · refine lv_iconst (v := 1) hx hb d_MO_exempt_41 (by decide) ?_
        refine lv_goto (tgt := 46) hx hb d_MO_exempt_42 (by decide) ?_
        have e9 : ytx rq (pg x.toNatClampNeg) x r d = 1 := by first | (simp [ytx, h5, h14, h28]; done)
        obtain rfl : t = 1 := ht.symm.trans e9
        refine va_put (D := D) (ci := 8) (v := .int 1) (ty := .int) (C := R_MO) (T := F_MO) (N := 25) hx hb (tb_in hok in_MO) (fun w h => h) g_MO g_MO_ok n_MO hown hK hP hD hS 0 rfl rfl 0 (by decide) (hok _ t_705 rfl _) (fun _ h9 => h9) rfl (by decide +kernel) rfl rfl (Nat.le_of_ble_eq_true rfl) d_MO_exempt_46 (fun H locs hP hD hS => ?_)
        have hP : va_P D cls [(h, .inr (8, [.int 1, .int (nI G), .ref (b 0), .ref (b 1), .int (nI C), .ref (b 2), .ref (b 3), .ref (b 4), .ref (b 5), .ref (b 6), .ref (b 7), .ref (b 8), .ref (b 9), .ref (b 10), .ref (b 11), .ref (b 12), .ref (b 13), .ref (b 14), .ref (b 15), .ref (b 16), .ref (b 17), .ref (b 18), .int (zb hs), .ref (b 19), .ref (b 20)])), ((b 5), .inl (cI, 3, .inl (fun j => nI (rq j)))), ((b 8), .inl (cI, 4, .inl pg))] H := hP
        have hD : va_D A [(h, .inr (8, [.int 1, .int (nI G), .ref (b 0), .ref (b 1), .int (nI C), .ref (b 2), .ref (b 3), .ref (b 4), .ref (b 5), .ref (b 6), .ref (b 7), .ref (b 8), .ref (b 9), .ref (b 10), .ref (b 11), .ref (b 12), .ref (b 13), .ref (b 14), .ref (b 15), .ref (b 16), .ref (b 17), .ref (b 18), .int (zb hs), .ref (b 19), .ref (b 20)])), ((b 5), .inl (cI, 3, .inl (fun j => nI (rq j)))), ((b 8), .inl (cI, 4, .inl pg))] := hD
        refine lv_aload_n hx hb d_MO_exempt_49 rfl (lv_at hl 0 rfl) ?_
        refine va_get (D := D) (ci := 8) (v := .int 1) (C := R_MO) (T := F_MO) (N := 25) hx hb (tb_in hok in_MO) (fun w h => h) hown hK hP 0 rfl rfl 0 (by decide) (hok _ t_705 rfl _) (fun _ h9 => h9) rfl d_MO_exempt_50 ?_
        refine lv_if_le (tgt := 58) hx hb d_MO_exempt_53 (by decide) (fun h53 => absurd h53 (show ¬ (1 : Int32) ≤ 0 by decide)) (fun h53 => ?_)
        refine lv_iconst (v := 0) hx hb d_MO_exempt_56 (by decide) ?_
        exact W.iret hx hb hr (fun t ht _ => ⟨⟨rfl, by rw [ht]; exact hP, hD⟩, hS.F ht⟩) hS.2.2 d_MO_exempt_57
      · refine lv_iload_n hx hb d_MO_exempt_31 rfl (lv_at hl 3 rfl) ?_
        refine lv_if_lt (tgt := 41) hx hb d_MO_exempt_32 (by decide) (fun h32 => ?_) (fun h32 => ?_)
        · refine lv_iconst (v := 1) hx hb d_MO_exempt_41 (by decide) ?_
          refine lv_goto (tgt := 46) hx hb d_MO_exempt_42 (by decide) ?_
          have e9 : ytx rq (pg x.toNatClampNeg) x r d = 1 := by first | (simp [ytx, h5, h14, h28, h32]; done)
          obtain rfl : t = 1 := ht.symm.trans e9
          refine va_put (D := D) (ci := 8) (v := .int 1) (ty := .int) (C := R_MO) (T := F_MO) (N := 25) hx hb (tb_in hok in_MO) (fun w h => h) g_MO g_MO_ok n_MO hown hK hP hD hS 0 rfl rfl 0 (by decide) (hok _ t_705 rfl _) (fun _ h9 => h9) rfl (by decide +kernel) rfl rfl (Nat.le_of_ble_eq_true rfl) d_MO_exempt_46 (fun H locs hP hD hS => ?_)
          have hP : va_P D cls [(h, .inr (8, [.int 1, .int (nI G), .ref (b 0), .ref (b 1), .int (nI C), .ref (b 2), .ref (b 3), .ref (b 4), .ref (b 5), .ref (b 6), .ref (b 7), .ref (b 8), .ref (b 9), .ref (b 10), .ref (b 11), .ref (b 12), .ref (b 13), .ref (b 14), .ref (b 15), .ref (b 16), .ref (b 17), .ref (b 18), .int (zb hs), .ref (b 19), .ref (b 20)])), ((b 5), .inl (cI, 3, .inl (fun j => nI (rq j)))), ((b 8), .inl (cI, 4, .inl pg))] H := hP
          have hD : va_D A [(h, .inr (8, [.int 1, .int (nI G), .ref (b 0), .ref (b 1), .int (nI C), .ref (b 2), .ref (b 3), .ref (b 4), .ref (b 5), .ref (b 6), .ref (b 7), .ref (b 8), .ref (b 9), .ref (b 10), .ref (b 11), .ref (b 12), .ref (b 13), .ref (b 14), .ref (b 15), .ref (b 16), .ref (b 17), .ref (b 18), .int (zb hs), .ref (b 19), .ref (b 20)])), ((b 5), .inl (cI, 3, .inl (fun j => nI (rq j)))), ((b 8), .inl (cI, 4, .inl pg))] := hD
          refine lv_aload_n hx hb d_MO_exempt_49 rfl (lv_at hl 0 rfl) ?_
          refine va_get (D := D) (ci := 8) (v := .int 1) (C := R_MO) (T := F_MO) (N := 25) hx hb (tb_in hok in_MO) (fun w h => h) hown hK hP 0 rfl rfl 0 (by decide) (hok _ t_705 rfl _) (fun _ h9 => h9) rfl d_MO_exempt_50 ?_
          refine lv_if_le (tgt := 58) hx hb d_MO_exempt_53 (by decide) (fun h53 => absurd h53 (show ¬ (1 : Int32) ≤ 0 by decide)) (fun h53 => ?_)
          refine lv_iconst (v := 0) hx hb d_MO_exempt_56 (by decide) ?_
          exact W.iret hx hb hr (fun t ht _ => ⟨⟨rfl, by rw [ht]; exact hP, hD⟩, hS.F ht⟩) hS.2.2 d_MO_exempt_57
        · refine lv_iload_n hx hb d_MO_exempt_35 rfl (lv_at hl 3 rfl) ?_
          refine lv_bipush (v := 9) hx hb d_MO_exempt_36 (by decide) ?_
          refine lv_icmp_le (tgt := 45) hx hb d_MO_exempt_38 (by decide) (fun h38 => ?_) (fun h38 => ?_)
          · refine lv_iconst (v := 0) hx hb d_MO_exempt_45 (by decide) ?_
            have e9 : ytx rq (pg x.toNatClampNeg) x r d = 0 := by first | (simp [ytx, h5, h14, h28, h32, h38]; done)
            exact absurd (ht.symm.trans e9) hn
          · refine lv_iconst (v := 1) hx hb d_MO_exempt_41 (by decide) ?_
            refine lv_goto (tgt := 46) hx hb d_MO_exempt_42 (by decide) ?_
            have e9 : ytx rq (pg x.toNatClampNeg) x r d = 1 := by first | (simp [ytx, h5, h14, h28, h32, h38]; done)
            obtain rfl : t = 1 := ht.symm.trans e9
            refine va_put (D := D) (ci := 8) (v := .int 1) (ty := .int) (C := R_MO) (T := F_MO) (N := 25) hx hb (tb_in hok in_MO) (fun w h => h) g_MO g_MO_ok n_MO hown hK hP hD hS 0 rfl rfl 0 (by decide) (hok _ t_705 rfl _) (fun _ h9 => h9) rfl (by decide +kernel) rfl rfl (Nat.le_of_ble_eq_true rfl) d_MO_exempt_46 (fun H locs hP hD hS => ?_)
            have hP : va_P D cls [(h, .inr (8, [.int 1, .int (nI G), .ref (b 0), .ref (b 1), .int (nI C), .ref (b 2), .ref (b 3), .ref (b 4), .ref (b 5), .ref (b 6), .ref (b 7), .ref (b 8), .ref (b 9), .ref (b 10), .ref (b 11), .ref (b 12), .ref (b 13), .ref (b 14), .ref (b 15), .ref (b 16), .ref (b 17), .ref (b 18), .int (zb hs), .ref (b 19), .ref (b 20)])), ((b 5), .inl (cI, 3, .inl (fun j => nI (rq j)))), ((b 8), .inl (cI, 4, .inl pg))] H := hP
            have hD : va_D A [(h, .inr (8, [.int 1, .int (nI G), .ref (b 0), .ref (b 1), .int (nI C), .ref (b 2), .ref (b 3), .ref (b 4), .ref (b 5), .ref (b 6), .ref (b 7), .ref (b 8), .ref (b 9), .ref (b 10), .ref (b 11), .ref (b 12), .ref (b 13), .ref (b 14), .ref (b 15), .ref (b 16), .ref (b 17), .ref (b 18), .int (zb hs), .ref (b 19), .ref (b 20)])), ((b 5), .inl (cI, 3, .inl (fun j => nI (rq j)))), ((b 8), .inl (cI, 4, .inl pg))] := hD
            refine lv_aload_n hx hb d_MO_exempt_49 rfl (lv_at hl 0 rfl) ?_
            refine va_get (D := D) (ci := 8) (v := .int 1) (C := R_MO) (T := F_MO) (N := 25) hx hb (tb_in hok in_MO) (fun w h => h) hown hK hP 0 rfl rfl 0 (by decide) (hok _ t_705 rfl _) (fun _ h9 => h9) rfl d_MO_exempt_50 ?_
            refine lv_if_le (tgt := 58) hx hb d_MO_exempt_53 (by decide) (fun h53 => absurd h53 (show ¬ (1 : Int32) ≤ 0 by decide)) (fun h53 => ?_)
            refine lv_iconst (v := 0) hx hb d_MO_exempt_56 (by decide) ?_
            exact W.iret hx hb hr (fun t ht _ => ⟨⟨rfl, by rw [ht]; exact hP, hD⟩, hS.F ht⟩) hS.2.2 d_MO_exempt_57
def ytl (C : Nat) (x a : Int32) : Int32 := if ¬ zb (yns x) = 0 ∨ ¬ zb (yng C a) = 0 then 1 else 0
abbrev ro_MO_lives : Room := { frames := 1, cells := 0, slots := 0, locals := 24 }
set_option maxHeartbeats 4000000 in
set_option maxRecDepth 100000 in
theorem m_MO_lives_ok (l : Launch) (D : va_G) (cI cJ cZ cP cS : ClassId) (h : Nat) (b : Nat → Nat) (th : Int32) (G C : Nat) (hs : Bool) (s0 c0 : Nat) (d : Int32) (lf ps : Nat → Int32) (hs0 : s0 < 4) (hc0 : c0 < 12) (ht : ytl C (nI s0) (nI c0) = 0) (sz : Nat) : Met l y_MO_lives [Cond.code y_MO_lives b_MO_lives 4 (some .boolean)] ro_MO_lives (va_Pc [.ref h, .int (nI s0), .int (nI c0), .int d] (fun U => U.heap.size = sz ∧ tb_ok U ∧ va_P D cls [(h, .inr (8, [.int th, .int (nI G), .ref (b 0), .ref (b 1), .int (nI C), .ref (b 2), .ref (b 3), .ref (b 4), .ref (b 5), .ref (b 6), .ref (b 7), .ref (b 8), .ref (b 9), .ref (b 10), .ref (b 11), .ref (b 12), .ref (b 13), .ref (b 14), .ref (b 15), .ref (b 16), .ref (b 17), .ref (b 18), .int (zb hs), .ref (b 19), .ref (b 20)])), ((b 4), .inl (cI, 12, .inl lf)), ((b 9), .inl (cI, 48, .inl ps))] U.heap ∧ va_K D cls (tyl cI cJ cZ cP cS) U ∧ va_D (fun _ => True) [(h, .inr (8, [.int th, .int (nI G), .ref (b 0), .ref (b 1), .int (nI C), .ref (b 2), .ref (b 3), .ref (b 4), .ref (b 5), .ref (b 6), .ref (b 7), .ref (b 8), .ref (b 9), .ref (b 10), .ref (b 11), .ref (b 12), .ref (b 13), .ref (b 14), .ref (b 15), .ref (b 16), .ref (b 17), .ref (b 18), .int (zb hs), .ref (b 19), .ref (b 20)])), ((b 4), .inl (cI, 12, .inl lf)), ((b 9), .inl (cI, 48, .inl ps))])) (zv (some (.int (zb (yli (ps (12 * s0 + c0)) (lf c0) d)))) D [(h, .inr (8, [.int 0, .int (nI G), .ref (b 0), .ref (b 1), .int (nI C), .ref (b 2), .ref (b 3), .ref (b 4), .ref (b 5), .ref (b 6), .ref (b 7), .ref (b 8), .ref (b 9), .ref (b 10), .ref (b 11), .ref (b 12), .ref (b 13), .ref (b 14), .ref (b 15), .ref (b 16), .ref (b 17), .ref (b 18), .int (zb hs), .ref (b 19), .ref (b 20)])), ((b 4), .inl (cI, 12, .inl lf)), ((b 9), .inl (cI, 48, .inl ps))] (va_A [(h, .inr (8, [.int th, .int (nI G), .ref (b 0), .ref (b 1), .int (nI C), .ref (b 2), .ref (b 3), .ref (b 4), .ref (b 5), .ref (b 6), .ref (b 7), .ref (b 8), .ref (b 9), .ref (b 10), .ref (b 11), .ref (b 12), .ref (b 13), .ref (b 14), .ref (b 15), .ref (b 16), .ref (b 17), .ref (b 18), .int (zb hs), .ref (b 19), .ref (b 20)])), ((b 4), .inl (cI, 12, .inl lf)), ((b 9), .inl (cI, 48, .inl ps))] sz)) 0 0 (va_A [(h, .inr (8, [.int th, .int (nI G), .ref (b 0), .ref (b 1), .int (nI C), .ref (b 2), .ref (b 3), .ref (b 4), .ref (b 5), .ref (b 6), .ref (b 7), .ref (b 8), .ref (b 9), .ref (b 10), .ref (b 11), .ref (b 12), .ref (b 13), .ref (b 14), .ref (b 15), .ref (b 16), .ref (b 17), .ref (b 18), .int (zb hs), .ref (b 19), .ref (b 20)])), ((b 4), .inl (cI, 12, .inl lf)), ((b 9), .inl (cI, 48, .inl ps))] sz) := by
  refine Met.ofW (cc := b_MO_lives) (maxL := 4) (ret := (some .boolean)) (by decide +kernel) rfl ?_
  intro p e s m args below meth c s₁ B hml hv
  obtain ⟨rfl, hsz, hok, hP, hK, hD0⟩ := hv
  have hx := B.exec
  have hb := B.bytes
  have hr := B.returns
  have hown : s.vm.findClass "StudyAuditModel" = some m.cls := findClass_of_methodNamed B.named
  have hlocks := B.notSynchronized
  subst hsz
  have hD := hD0.self (sz := s.heap.size)
  generalize hAe : va_A [(h, .inr (8, [.int th, .int (nI G), .ref (b 0), .ref (b 1), .int (nI C), .ref (b 2), .ref (b 3), .ref (b 4), .ref (b 5), .ref (b 6), .ref (b 7), .ref (b 8), .ref (b 9), .ref (b 10), .ref (b 11), .ref (b 12), .ref (b 13), .ref (b 14), .ref (b 15), .ref (b 16), .ref (b 17), .ref (b 18), .int (zb hs), .ref (b 19), .ref (b 20)])), ((b 4), .inl (cI, 12, .inl lf)), ((b 9), .inl (cI, 48, .inl ps))] s.heap.size = A at hD ⊢
  have hA : ∀ q : Nat, s.heap.size ≤ q → A q := fun q h => by rw [← hAe]; exact Or.inr h
  have hS : va_S A s.heap s.heap [] := va_S.rf
  have hl := lv_entry ([.ref h, .int (nI s0), .int (nI c0), .int d]) (n := 4) (Nat.le_of_ble_eq_true rfl)
  rw [lg_entry_eq]
  generalize (lg_sl ([.ref h, .int (nI s0), .int (nI c0), .int d]) ++ List.replicate (4 - (lg_sl ([.ref h, .int (nI s0), .int (nI c0), .int d])).length) Slot.unset).toArray = ls at hl ⊢
  have hl : lv_has ls 4 [(0, .ref h), (1, .int (nI s0)), (2, .int (nI c0)), (3, .int d)] := hl
  refine lv_aload_n hx hb d_MO_lives_0 rfl (lv_at hl 0 rfl) ?_
  refine lv_iload_n hx hb d_MO_lives_1 rfl (lv_at hl 1 rfl) ?_
  refine zc_read (va_runS (Ts := []) (As := [.int (nI s0)]) (rest := [.ref h]) ⟨hx, hb, hml, hown, fun _ h => absurd h List.not_mem_nil⟩ (m_MO_noStudent l (nI s0)) ⟨zc_B 1 hok c_MO_noStudent_w t_10 t_829 rfl rfl (by decide +kernel) ⟨Nat.le_of_ble_eq_true rfl, Nat.le_of_ble_eq_true rfl⟩, hok _ t_830 rfl _⟩ ⟨fun a U g mk q => by obtain ⟨q0, q2⟩ := q; exact ⟨q0, q2.call g mk a⟩, fun U hU hW => ⟨rfl, hok.warm hW⟩⟩ rfl rfl hl.1 rfl (lv_room (Nat.le_of_ble_eq_true rfl)) d_MO_lives_2 ⟨Nat.le_of_ble_eq_true rfl, Nat.le_of_ble_eq_true rfl⟩) ?_
  refine W.eq (g2 := F0 m 5 ls [.int (zb (yns (nI s0))), .ref h]) rfl ?_
  refine lv_if_ne (tgt := 16) hx hb d_MO_lives_5 (by decide) (fun h5 => ?_) (fun h5 => ?_)
  · refine lv_iconst (v := 1) hx hb d_MO_lives_16 (by decide) ?_
    refine lv_goto (tgt := 21) hx hb d_MO_lives_17 (by decide) ?_
    have e9 : ytl C (nI s0) (nI c0) = 1 := by first | (simp [ytl, h5]; done)
    exact absurd (ht.symm.trans e9) (by decide)
  · refine lv_aload_n hx hb d_MO_lives_8 rfl (lv_at hl 0 rfl) ?_
    refine lv_iload_n hx hb d_MO_lives_9 rfl (lv_at hl 2 rfl) ?_
    refine zc_read (va_runV (Ts := []) (As := [.int (nI c0)]) (rest := [.ref h]) ⟨hx, hb, hml, hown, fun _ h => absurd h List.not_mem_nil⟩ (m_MO_noCourse l D cI cJ cZ cP cS h b th G C hs (nI c0)) ⟨zc_B 1 hok c_MO_noCourse_w t_10 t_802 rfl rfl (by decide +kernel) ⟨Nat.le_of_ble_eq_true rfl, Nat.le_of_ble_eq_true rfl⟩, hok _ t_804 rfl _, hok _ s_20 rfl _⟩ ⟨fun a U g mk q => by obtain ⟨q0, q2, qP, qK⟩ := q; exact ⟨q0, q2.call g mk a, qP, va_K.moved (u := U) (U := U.calling g mk a) (Vm.Alike.refl U.vm) qK⟩, va_recv hK hP (ci := 8) (q0 := 0) rfl rfl, fun U hU hW => ⟨rfl, hok.warm hW, by rw [hU]; exact hP.sub [0] rfl, va_K.moved hW.alike hK⟩⟩ rfl rfl hl.1 rfl (lv_room (Nat.le_of_ble_eq_true rfl)) d_MO_lives_10 ⟨Nat.le_of_ble_eq_true rfl, Nat.le_of_ble_eq_true rfl⟩) ?_
    refine W.eq (g2 := F0 m 13 ls [.int (zb (yng C (nI c0))), .ref h]) rfl ?_
    refine lv_if_eq (tgt := 20) hx hb d_MO_lives_13 (by decide) (fun h13 => ?_) (fun h13 => ?_)
    · refine lv_iconst (v := 0) hx hb d_MO_lives_20 (by decide) ?_
      have e9 : ytl C (nI s0) (nI c0) = 0 := by first | (simp [ytl, h5, h13]; done)
      refine va_put (D := D) (ci := 8) (v := .int 0) (ty := .int) (C := R_MO) (T := F_MO) (N := 25) hx hb (tb_in hok in_MO) (fun w h => h) g_MO g_MO_ok n_MO hown hK hP hD hS 0 rfl rfl 0 (by decide) (hok _ t_705 rfl _) (fun _ h9 => h9) rfl (by decide +kernel) rfl rfl (Nat.le_of_ble_eq_true rfl) d_MO_lives_21 (fun H locs hP hD hS => ?_)
      have hP : va_P D cls [(h, .inr (8, [.int 0, .int (nI G), .ref (b 0), .ref (b 1), .int (nI C), .ref (b 2), .ref (b 3), .ref (b 4), .ref (b 5), .ref (b 6), .ref (b 7), .ref (b 8), .ref (b 9), .ref (b 10), .ref (b 11), .ref (b 12), .ref (b 13), .ref (b 14), .ref (b 15), .ref (b 16), .ref (b 17), .ref (b 18), .int (zb hs), .ref (b 19), .ref (b 20)])), ((b 4), .inl (cI, 12, .inl lf)), ((b 9), .inl (cI, 48, .inl ps))] H := hP
      have hD : va_D A [(h, .inr (8, [.int 0, .int (nI G), .ref (b 0), .ref (b 1), .int (nI C), .ref (b 2), .ref (b 3), .ref (b 4), .ref (b 5), .ref (b 6), .ref (b 7), .ref (b 8), .ref (b 9), .ref (b 10), .ref (b 11), .ref (b 12), .ref (b 13), .ref (b 14), .ref (b 15), .ref (b 16), .ref (b 17), .ref (b 18), .int (zb hs), .ref (b 19), .ref (b 20)])), ((b 4), .inl (cI, 12, .inl lf)), ((b 9), .inl (cI, 48, .inl ps))] := hD
      refine lv_aload_n hx hb d_MO_lives_24 rfl (lv_at hl 0 rfl) ?_
      refine va_get (D := D) (ci := 8) (v := .int 0) (C := R_MO) (T := F_MO) (N := 25) hx hb (tb_in hok in_MO) (fun w h => h) hown hK hP 0 rfl rfl 0 (by decide) (hok _ t_705 rfl _) (fun _ h9 => h9) rfl d_MO_lives_25 ?_
      refine lv_if_ne (tgt := 45) hx hb d_MO_lives_28 (by decide) (fun h28 => absurd (show (0 : Int32) = 0 from rfl) h28) (fun h28 => ?_)
      refine lv_aload_n hx hb d_MO_lives_31 rfl (lv_at hl 0 rfl) ?_
      refine lv_iload_n hx hb d_MO_lives_32 rfl (lv_at hl 1 rfl) ?_
      refine lv_iload_n hx hb d_MO_lives_33 rfl (lv_at hl 2 rfl) ?_
      refine lv_iload_n hx hb d_MO_lives_34 rfl (lv_at hl 3 rfl) ?_
      refine zc_read (va_runV (Ts := []) (As := [.int (nI s0), .int (nI c0), .int d]) (rest := []) ⟨hx, hb, hml, hown, fun _ h => absurd h List.not_mem_nil⟩ (m_MO_isLive l D cI cJ cZ cP cS h b 0 G C hs s0 c0 d lf ps hs0 hc0) ⟨zc_B 3 hok c_MO_isLive_w t_10 t_852 rfl rfl (by decide +kernel) ⟨Nat.le_of_ble_eq_true rfl, Nat.le_of_ble_eq_true rfl⟩, hok _ t_854 rfl _, hok _ s_23 rfl _⟩ ⟨fun a U g mk q => by obtain ⟨q0, q2, qP, qK⟩ := q; exact ⟨q0, q2.call g mk a, qP, va_K.moved (u := U) (U := U.calling g mk a) (Vm.Alike.refl U.vm) qK⟩, va_recv hK hP (ci := 8) (q0 := 0) rfl rfl, fun U hU hW => ⟨rfl, hok.warm hW, by rw [hU]; exact hP.sub [0, 1, 2] rfl, va_K.moved hW.alike hK⟩⟩ rfl rfl hl.1 rfl (lv_room (Nat.le_of_ble_eq_true rfl)) d_MO_lives_35 ⟨Nat.le_of_ble_eq_true rfl, Nat.le_of_ble_eq_true rfl⟩) ?_
      refine W.eq (g2 := F0 m 38 ls [.int (zb (yli (ps (12 * s0 + c0)) (lf c0) d))]) rfl ?_
      refine lv_if_eq (tgt := 45) hx hb d_MO_lives_38 (by decide) (fun h38 => ?_) (fun h38 => ?_)
      · refine lv_iconst (v := 0) hx hb d_MO_lives_45 (by decide) ?_
        refine W.eq (g2 := F0 m 46 ls [.int (zb (yli (ps (12 * s0 + c0)) (lf c0) d))]) (by rw [zb_0 h38]; rfl) ?_
        exact W.zret hx hb hr (z_zb _) (fun t ht _ => ⟨⟨rfl, by rw [ht]; exact hP, hD⟩, hS.F ht⟩) hS.2.2 d_MO_lives_46
      · refine lv_iconst (v := 1) hx hb d_MO_lives_41 (by decide) ?_
        refine lv_goto (tgt := 46) hx hb d_MO_lives_42 (by decide) ?_
        refine W.eq (g2 := F0 m 46 ls [.int (zb (yli (ps (12 * s0 + c0)) (lf c0) d))]) (by rw [zb_1 h38]; rfl) ?_
        exact W.zret hx hb hr (z_zb _) (fun t ht _ => ⟨⟨rfl, by rw [ht]; exact hP, hD⟩, hS.F ht⟩) hS.2.2 d_MO_lives_46
    · refine lv_iconst (v := 1) hx hb d_MO_lives_16 (by decide) ?_
      refine lv_goto (tgt := 21) hx hb d_MO_lives_17 (by decide) ?_
      have e9 : ytl C (nI s0) (nI c0) = 1 := by first | (simp [ytl, h5, h13]; done)
      exact absurd (ht.symm.trans e9) (by decide)
set_option maxHeartbeats 4000000 in
set_option maxRecDepth 100000 in
theorem m_MO_lives_bad (l : Launch) (D : va_G) (cI cJ cZ cP cS : ClassId) (h : Nat) (b : Nat → Nat) (th : Int32) (G C : Nat) (hs : Bool) (x a d : Int32) (t : Int32) (ht : ytl C x a = t) (hn : ¬ t = 0) (sz : Nat) : Met l y_MO_lives [Cond.code y_MO_lives b_MO_lives 4 (some .boolean)] ro_MO_lives (va_Pc [.ref h, .int x, .int a, .int d] (fun U => U.heap.size = sz ∧ tb_ok U ∧ va_P D cls [(h, .inr (8, [.int th, .int (nI G), .ref (b 0), .ref (b 1), .int (nI C), .ref (b 2), .ref (b 3), .ref (b 4), .ref (b 5), .ref (b 6), .ref (b 7), .ref (b 8), .ref (b 9), .ref (b 10), .ref (b 11), .ref (b 12), .ref (b 13), .ref (b 14), .ref (b 15), .ref (b 16), .ref (b 17), .ref (b 18), .int (zb hs), .ref (b 19), .ref (b 20)]))] U.heap ∧ va_K D cls (tyl cI cJ cZ cP cS) U ∧ va_D (fun _ => True) [(h, .inr (8, [.int th, .int (nI G), .ref (b 0), .ref (b 1), .int (nI C), .ref (b 2), .ref (b 3), .ref (b 4), .ref (b 5), .ref (b 6), .ref (b 7), .ref (b 8), .ref (b 9), .ref (b 10), .ref (b 11), .ref (b 12), .ref (b 13), .ref (b 14), .ref (b 15), .ref (b 16), .ref (b 17), .ref (b 18), .int (zb hs), .ref (b 19), .ref (b 20)]))])) (zv (some (.int (zb false))) D [(h, .inr (8, [.int t, .int (nI G), .ref (b 0), .ref (b 1), .int (nI C), .ref (b 2), .ref (b 3), .ref (b 4), .ref (b 5), .ref (b 6), .ref (b 7), .ref (b 8), .ref (b 9), .ref (b 10), .ref (b 11), .ref (b 12), .ref (b 13), .ref (b 14), .ref (b 15), .ref (b 16), .ref (b 17), .ref (b 18), .int (zb hs), .ref (b 19), .ref (b 20)]))] (va_A [(h, .inr (8, [.int th, .int (nI G), .ref (b 0), .ref (b 1), .int (nI C), .ref (b 2), .ref (b 3), .ref (b 4), .ref (b 5), .ref (b 6), .ref (b 7), .ref (b 8), .ref (b 9), .ref (b 10), .ref (b 11), .ref (b 12), .ref (b 13), .ref (b 14), .ref (b 15), .ref (b 16), .ref (b 17), .ref (b 18), .int (zb hs), .ref (b 19), .ref (b 20)]))] sz)) 0 0 (va_A [(h, .inr (8, [.int th, .int (nI G), .ref (b 0), .ref (b 1), .int (nI C), .ref (b 2), .ref (b 3), .ref (b 4), .ref (b 5), .ref (b 6), .ref (b 7), .ref (b 8), .ref (b 9), .ref (b 10), .ref (b 11), .ref (b 12), .ref (b 13), .ref (b 14), .ref (b 15), .ref (b 16), .ref (b 17), .ref (b 18), .int (zb hs), .ref (b 19), .ref (b 20)]))] sz) := by
  refine Met.ofW (cc := b_MO_lives) (maxL := 4) (ret := (some .boolean)) (by decide +kernel) rfl ?_
  intro p e s m args below meth c s₁ B hml hv
  obtain ⟨rfl, hsz, hok, hP, hK, hD0⟩ := hv
  have hx := B.exec
  have hb := B.bytes
  have hr := B.returns
  have hown : s.vm.findClass "StudyAuditModel" = some m.cls := findClass_of_methodNamed B.named
  have hlocks := B.notSynchronized
  subst hsz
  have hD := hD0.self (sz := s.heap.size)
  generalize hAe : va_A [(h, .inr (8, [.int th, .int (nI G), .ref (b 0), .ref (b 1), .int (nI C), .ref (b 2), .ref (b 3), .ref (b 4), .ref (b 5), .ref (b 6), .ref (b 7), .ref (b 8), .ref (b 9), .ref (b 10), .ref (b 11), .ref (b 12), .ref (b 13), .ref (b 14), .ref (b 15), .ref (b 16), .ref (b 17), .ref (b 18), .int (zb hs), .ref (b 19), .ref (b 20)]))] s.heap.size = A at hD ⊢
  have hA : ∀ q : Nat, s.heap.size ≤ q → A q := fun q h => by rw [← hAe]; exact Or.inr h
  have hS : va_S A s.heap s.heap [] := va_S.rf
  have hl := lv_entry ([.ref h, .int x, .int a, .int d]) (n := 4) (Nat.le_of_ble_eq_true rfl)
  rw [lg_entry_eq]
  generalize (lg_sl ([.ref h, .int x, .int a, .int d]) ++ List.replicate (4 - (lg_sl ([.ref h, .int x, .int a, .int d])).length) Slot.unset).toArray = ls at hl ⊢
  have hl : lv_has ls 4 [(0, .ref h), (1, .int x), (2, .int a), (3, .int d)] := hl
  refine lv_aload_n hx hb d_MO_lives_0 rfl (lv_at hl 0 rfl) ?_
  refine lv_iload_n hx hb d_MO_lives_1 rfl (lv_at hl 1 rfl) ?_
  refine zc_read (va_runS (Ts := []) (As := [.int x]) (rest := [.ref h]) ⟨hx, hb, hml, hown, fun _ h => absurd h List.not_mem_nil⟩ (m_MO_noStudent l x) ⟨zc_B 1 hok c_MO_noStudent_w t_10 t_829 rfl rfl (by decide +kernel) ⟨Nat.le_of_ble_eq_true rfl, Nat.le_of_ble_eq_true rfl⟩, hok _ t_830 rfl _⟩ ⟨fun a U g mk q => by obtain ⟨q0, q2⟩ := q; exact ⟨q0, q2.call g mk a⟩, fun U hU hW => ⟨rfl, hok.warm hW⟩⟩ rfl rfl hl.1 rfl (lv_room (Nat.le_of_ble_eq_true rfl)) d_MO_lives_2 ⟨Nat.le_of_ble_eq_true rfl, Nat.le_of_ble_eq_true rfl⟩) ?_
  refine W.eq (g2 := F0 m 5 ls [.int (zb (yns x)), .ref h]) rfl ?_
  refine lv_if_ne (tgt := 16) hx hb d_MO_lives_5 (by decide) (fun h5 => ?_) (fun h5 => ?_)
  · refine lv_iconst (v := 1) hx hb d_MO_lives_16 (by decide) ?_
    refine lv_goto (tgt := 21) hx hb d_MO_lives_17 (by decide) ?_
    have e9 : ytl C x a = 1 := by first | (simp [ytl, h5]; done)
    obtain rfl : t = 1 := ht.symm.trans e9
    refine va_put (D := D) (ci := 8) (v := .int 1) (ty := .int) (C := R_MO) (T := F_MO) (N := 25) hx hb (tb_in hok in_MO) (fun w h => h) g_MO g_MO_ok n_MO hown hK hP hD hS 0 rfl rfl 0 (by decide) (hok _ t_705 rfl _) (fun _ h9 => h9) rfl (by decide +kernel) rfl rfl (Nat.le_of_ble_eq_true rfl) d_MO_lives_21 (fun H locs hP hD hS => ?_)
    have hP : va_P D cls [(h, .inr (8, [.int 1, .int (nI G), .ref (b 0), .ref (b 1), .int (nI C), .ref (b 2), .ref (b 3), .ref (b 4), .ref (b 5), .ref (b 6), .ref (b 7), .ref (b 8), .ref (b 9), .ref (b 10), .ref (b 11), .ref (b 12), .ref (b 13), .ref (b 14), .ref (b 15), .ref (b 16), .ref (b 17), .ref (b 18), .int (zb hs), .ref (b 19), .ref (b 20)]))] H := hP
    have hD : va_D A [(h, .inr (8, [.int 1, .int (nI G), .ref (b 0), .ref (b 1), .int (nI C), .ref (b 2), .ref (b 3), .ref (b 4), .ref (b 5), .ref (b 6), .ref (b 7), .ref (b 8), .ref (b 9), .ref (b 10), .ref (b 11), .ref (b 12), .ref (b 13), .ref (b 14), .ref (b 15), .ref (b 16), .ref (b 17), .ref (b 18), .int (zb hs), .ref (b 19), .ref (b 20)]))] := hD
    refine lv_aload_n hx hb d_MO_lives_24 rfl (lv_at hl 0 rfl) ?_
    refine va_get (D := D) (ci := 8) (v := .int 1) (C := R_MO) (T := F_MO) (N := 25) hx hb (tb_in hok in_MO) (fun w h => h) hown hK hP 0 rfl rfl 0 (by decide) (hok _ t_705 rfl _) (fun _ h9 => h9) rfl d_MO_lives_25 ?_
    refine lv_if_ne (tgt := 45) hx hb d_MO_lives_28 (by decide) (fun h28 => ?_) (fun h28 => absurd h28 (show ¬ (1 : Int32) = 0 by decide))
    refine lv_iconst (v := 0) hx hb d_MO_lives_45 (by decide) ?_
    exact W.zret hx hb hr (by decide) (fun t ht _ => ⟨⟨rfl, by rw [ht]; exact hP, hD⟩, hS.F ht⟩) hS.2.2 d_MO_lives_46
  · refine lv_aload_n hx hb d_MO_lives_8 rfl (lv_at hl 0 rfl) ?_
    refine lv_iload_n hx hb d_MO_lives_9 rfl (lv_at hl 2 rfl) ?_
    refine zc_read (va_runV (Ts := []) (As := [.int a]) (rest := [.ref h]) ⟨hx, hb, hml, hown, fun _ h => absurd h List.not_mem_nil⟩ (m_MO_noCourse l D cI cJ cZ cP cS h b th G C hs a) ⟨zc_B 1 hok c_MO_noCourse_w t_10 t_802 rfl rfl (by decide +kernel) ⟨Nat.le_of_ble_eq_true rfl, Nat.le_of_ble_eq_true rfl⟩, hok _ t_804 rfl _, hok _ s_20 rfl _⟩ ⟨fun a U g mk q => by obtain ⟨q0, q2, qP, qK⟩ := q; exact ⟨q0, q2.call g mk a, qP, va_K.moved (u := U) (U := U.calling g mk a) (Vm.Alike.refl U.vm) qK⟩, va_recv hK hP (ci := 8) (q0 := 0) rfl rfl, fun U hU hW => ⟨rfl, hok.warm hW, by rw [hU]; exact hP.sub [0] rfl, va_K.moved hW.alike hK⟩⟩ rfl rfl hl.1 rfl (lv_room (Nat.le_of_ble_eq_true rfl)) d_MO_lives_10 ⟨Nat.le_of_ble_eq_true rfl, Nat.le_of_ble_eq_true rfl⟩) ?_
    refine W.eq (g2 := F0 m 13 ls [.int (zb (yng C a)), .ref h]) rfl ?_
    refine lv_if_eq (tgt := 20) hx hb d_MO_lives_13 (by decide) (fun h13 => ?_) (fun h13 => ?_)
    · refine lv_iconst (v := 0) hx hb d_MO_lives_20 (by decide) ?_
      have e9 : ytl C x a = 0 := by first | (simp [ytl, h5, h13]; done)
      exact absurd (ht.symm.trans e9) hn
    · refine lv_iconst (v := 1) hx hb d_MO_lives_16 (by decide) ?_
      refine lv_goto (tgt := 21) hx hb d_MO_lives_17 (by decide) ?_
      have e9 : ytl C x a = 1 := by first | (simp [ytl, h5, h13]; done)
      obtain rfl : t = 1 := ht.symm.trans e9
      refine va_put (D := D) (ci := 8) (v := .int 1) (ty := .int) (C := R_MO) (T := F_MO) (N := 25) hx hb (tb_in hok in_MO) (fun w h => h) g_MO g_MO_ok n_MO hown hK hP hD hS 0 rfl rfl 0 (by decide) (hok _ t_705 rfl _) (fun _ h9 => h9) rfl (by decide +kernel) rfl rfl (Nat.le_of_ble_eq_true rfl) d_MO_lives_21 (fun H locs hP hD hS => ?_)
      have hP : va_P D cls [(h, .inr (8, [.int 1, .int (nI G), .ref (b 0), .ref (b 1), .int (nI C), .ref (b 2), .ref (b 3), .ref (b 4), .ref (b 5), .ref (b 6), .ref (b 7), .ref (b 8), .ref (b 9), .ref (b 10), .ref (b 11), .ref (b 12), .ref (b 13), .ref (b 14), .ref (b 15), .ref (b 16), .ref (b 17), .ref (b 18), .int (zb hs), .ref (b 19), .ref (b 20)]))] H := hP
      have hD : va_D A [(h, .inr (8, [.int 1, .int (nI G), .ref (b 0), .ref (b 1), .int (nI C), .ref (b 2), .ref (b 3), .ref (b 4), .ref (b 5), .ref (b 6), .ref (b 7), .ref (b 8), .ref (b 9), .ref (b 10), .ref (b 11), .ref (b 12), .ref (b 13), .ref (b 14), .ref (b 15), .ref (b 16), .ref (b 17), .ref (b 18), .int (zb hs), .ref (b 19), .ref (b 20)]))] := hD
      refine lv_aload_n hx hb d_MO_lives_24 rfl (lv_at hl 0 rfl) ?_
      refine va_get (D := D) (ci := 8) (v := .int 1) (C := R_MO) (T := F_MO) (N := 25) hx hb (tb_in hok in_MO) (fun w h => h) hown hK hP 0 rfl rfl 0 (by decide) (hok _ t_705 rfl _) (fun _ h9 => h9) rfl d_MO_lives_25 ?_
      refine lv_if_ne (tgt := 45) hx hb d_MO_lives_28 (by decide) (fun h28 => ?_) (fun h28 => absurd h28 (show ¬ (1 : Int32) = 0 by decide))
      refine lv_iconst (v := 0) hx hb d_MO_lives_45 (by decide) ?_
      exact W.zret hx hb hr (by decide) (fun t ht _ => ⟨⟨rfl, by rw [ht]; exact hP, hD⟩, hS.F ht⟩) hS.2.2 d_MO_lives_46
