/-! the reference: what writes (rows by program) -/
theorem z_upb (f : Nat → Bool) (k : Nat) (i : Bool) : upd (fun j => zb (f j)) k (vp_nar .boolean (zb i)) = fun j => zb (mf_up f k i j) := by
  funext j
  unfold upd mf_up
  split
  · cases i <;> rfl
  · rfl
def ytg (G : Nat) (x y : Int32) : Int32 := if (¬ x = -1 ∧ ¬ zb (yng G x) = 0) ∨ y < -1 ∨ ¬ y ≤ 12 then 1 else if nI G = 6 ∨ (x = -1 ∧ ¬ nI G ≤ 0) then 2 else 0
abbrev ro_MO_group : Room := { frames := 1, cells := 0, slots := 0, locals := 21 }
set_option maxHeartbeats 4000000 in
set_option maxRecDepth 100000 in
theorem m_MO_group_ok (l : Launch) (D : va_G) (cI cJ cZ cP cS : ClassId) (h : Nat) (b : Nat → Nat) (th : Int32) (G C : Nat) (hs : Bool) (x y : Int32) (pa lm : Nat → Int32) (hG : G ≤ 6) (ht : ytg G x y = 0) (sz : Nat) : Met l y_MO_group [Cond.code y_MO_group b_MO_group 3 (some .int)] ro_MO_group (va_Pc [.ref h, .int x, .int y] (fun U => U.heap.size = sz ∧ tb_ok U ∧ va_P D cls [(h, .inr (8, [.int th, .int (nI G), .ref (b 0), .ref (b 1), .int (nI C), .ref (b 2), .ref (b 3), .ref (b 4), .ref (b 5), .ref (b 6), .ref (b 7), .ref (b 8), .ref (b 9), .ref (b 10), .ref (b 11), .ref (b 12), .ref (b 13), .ref (b 14), .ref (b 15), .ref (b 16), .ref (b 17), .ref (b 18), .int (zb hs), .ref (b 19), .ref (b 20)])), ((b 0), .inl (cI, 6, .inl pa)), ((b 1), .inl (cI, 6, .inl lm))] U.heap ∧ va_K D cls (tyl cI cJ cZ cP cS) U ∧ va_D (fun _ => True) [(h, .inr (8, [.int th, .int (nI G), .ref (b 0), .ref (b 1), .int (nI C), .ref (b 2), .ref (b 3), .ref (b 4), .ref (b 5), .ref (b 6), .ref (b 7), .ref (b 8), .ref (b 9), .ref (b 10), .ref (b 11), .ref (b 12), .ref (b 13), .ref (b 14), .ref (b 15), .ref (b 16), .ref (b 17), .ref (b 18), .int (zb hs), .ref (b 19), .ref (b 20)])), ((b 0), .inl (cI, 6, .inl pa)), ((b 1), .inl (cI, 6, .inl lm))])) (zv (some (.int (nI G))) D [(h, .inr (8, [.int 0, .int (nI (G + 1)), .ref (b 0), .ref (b 1), .int (nI C), .ref (b 2), .ref (b 3), .ref (b 4), .ref (b 5), .ref (b 6), .ref (b 7), .ref (b 8), .ref (b 9), .ref (b 10), .ref (b 11), .ref (b 12), .ref (b 13), .ref (b 14), .ref (b 15), .ref (b 16), .ref (b 17), .ref (b 18), .int (zb hs), .ref (b 19), .ref (b 20)])), ((b 0), .inl (cI, 6, .inl (upd pa G x))), ((b 1), .inl (cI, 6, .inl (upd lm G y)))] (va_A [(h, .inr (8, [.int th, .int (nI G), .ref (b 0), .ref (b 1), .int (nI C), .ref (b 2), .ref (b 3), .ref (b 4), .ref (b 5), .ref (b 6), .ref (b 7), .ref (b 8), .ref (b 9), .ref (b 10), .ref (b 11), .ref (b 12), .ref (b 13), .ref (b 14), .ref (b 15), .ref (b 16), .ref (b 17), .ref (b 18), .int (zb hs), .ref (b 19), .ref (b 20)])), ((b 0), .inl (cI, 6, .inl pa)), ((b 1), .inl (cI, 6, .inl lm))] sz)) 0 0 (va_A [(h, .inr (8, [.int th, .int (nI G), .ref (b 0), .ref (b 1), .int (nI C), .ref (b 2), .ref (b 3), .ref (b 4), .ref (b 5), .ref (b 6), .ref (b 7), .ref (b 8), .ref (b 9), .ref (b 10), .ref (b 11), .ref (b 12), .ref (b 13), .ref (b 14), .ref (b 15), .ref (b 16), .ref (b 17), .ref (b 18), .int (zb hs), .ref (b 19), .ref (b 20)])), ((b 0), .inl (cI, 6, .inl pa)), ((b 1), .inl (cI, 6, .inl lm))] sz) := by
  refine Met.ofW (cc := b_MO_group) (maxL := 3) (ret := (some .int)) (by decide +kernel) rfl ?_
  intro p e s m args below meth c s₁ B hml hv
  obtain ⟨rfl, hsz, hok, hP, hK, hD0⟩ := hv
  have hx := B.exec
  have hb := B.bytes
  have hr := B.returns
  have hown : s.vm.findClass "StudyAuditModel" = some m.cls := findClass_of_methodNamed B.named
  have hlocks := B.notSynchronized
  subst hsz
  have hD := hD0.self (sz := s.heap.size)
  generalize hAe : va_A [(h, .inr (8, [.int th, .int (nI G), .ref (b 0), .ref (b 1), .int (nI C), .ref (b 2), .ref (b 3), .ref (b 4), .ref (b 5), .ref (b 6), .ref (b 7), .ref (b 8), .ref (b 9), .ref (b 10), .ref (b 11), .ref (b 12), .ref (b 13), .ref (b 14), .ref (b 15), .ref (b 16), .ref (b 17), .ref (b 18), .int (zb hs), .ref (b 19), .ref (b 20)])), ((b 0), .inl (cI, 6, .inl pa)), ((b 1), .inl (cI, 6, .inl lm))] s.heap.size = A at hD ⊢
  have hA : ∀ q : Nat, s.heap.size ≤ q → A q := fun q h => by rw [← hAe]; exact Or.inr h
  have hS : va_S A s.heap s.heap [] := va_S.rf
  have hl := lv_entry ([.ref h, .int x, .int y]) (n := 3) (Nat.le_of_ble_eq_true rfl)
  rw [lg_entry_eq]
  generalize (lg_sl ([.ref h, .int x, .int y]) ++ List.replicate (3 - (lg_sl ([.ref h, .int x, .int y])).length) Slot.unset).toArray = ls at hl ⊢
  have hl : lv_has ls 3 [(0, .ref h), (1, .int x), (2, .int y)] := hl
  refine lv_aload_n hx hb d_MO_group_0 rfl (lv_at hl 0 rfl) ?_
  refine lv_iload_n hx hb d_MO_group_1 rfl (lv_at hl 1 rfl) ?_
  refine lv_iconst (v := (-1)) hx hb d_MO_group_2 (by decide) ?_
  refine lv_icmp_eq (tgt := 14) hx hb d_MO_group_3 (by decide) (fun h3 => ?_) (fun h3 => ?_)
  · refine lv_iload_n hx hb d_MO_group_14 rfl (lv_at hl 2 rfl) ?_
    refine lv_iconst (v := (-1)) hx hb d_MO_group_15 (by decide) ?_
    refine lv_icmp_lt (tgt := 25) hx hb d_MO_group_16 (by decide) (fun h16 => ?_) (fun h16 => ?_)
    · refine lv_iconst (v := 1) hx hb d_MO_group_25 (by decide) ?_
      refine lv_goto (tgt := 55) hx hb d_MO_group_26 (by decide) ?_
      have e9 : ytg G x y = 1 := by first | (simp [ytg, h3, h16]; done)
      exact absurd (ht.symm.trans e9) (by decide)
    · refine lv_iload_n hx hb d_MO_group_19 rfl (lv_at hl 2 rfl) ?_
      refine lv_bipush (v := 12) hx hb d_MO_group_20 (by decide) ?_
      refine lv_icmp_le (tgt := 29) hx hb d_MO_group_22 (by decide) (fun h22 => ?_) (fun h22 => ?_)
      · refine lv_aload_n hx hb d_MO_group_29 rfl (lv_at hl 0 rfl) ?_
        refine va_get (D := D) (ci := 8) (v := .int (nI G)) (C := R_MO) (T := F_MO) (N := 25) hx hb (tb_in hok in_MO) (fun w h => h) hown hK hP 0 rfl rfl 1 (by decide) (hok _ t_706 rfl _) (fun _ h9 => h9) rfl d_MO_group_30 ?_
        refine lv_bipush (v := 6) hx hb d_MO_group_33 (by decide) ?_
        refine lv_icmp_eq (tgt := 50) hx hb d_MO_group_35 (by decide) (fun h35 => ?_) (fun h35 => ?_)
        · refine lv_iconst (v := 2) hx hb d_MO_group_50 (by decide) ?_
          refine lv_goto (tgt := 55) hx hb d_MO_group_51 (by decide) ?_
          have e9 : ytg G x y = 2 := by first | (simp [ytg, h3, h16, h22, h35]; done)
          exact absurd (ht.symm.trans e9) (by decide)
        · refine lv_iload_n hx hb d_MO_group_38 rfl (lv_at hl 1 rfl) ?_
          refine lv_iconst (v := (-1)) hx hb d_MO_group_39 (by decide) ?_
          refine lv_icmp_ne (tgt := 54) hx hb d_MO_group_40 (by decide) (fun h40 => ?_) (fun h40 => ?_)
          · refine lv_iconst (v := 0) hx hb d_MO_group_54 (by decide) ?_
            have e9 : ytg G x y = 0 := by first | (simp [ytg, h3, h16, h22, h35, h40]; done) | exact absurd h3 h40
            have hG6 : G < 6 := Nat.lt_of_le_of_ne hG (fun z => h35 (by rw [z]; rfl))
            refine va_put (D := D) (ci := 8) (v := .int 0) (ty := .int) (C := R_MO) (T := F_MO) (N := 25) hx hb (tb_in hok in_MO) (fun w h => h) g_MO g_MO_ok n_MO hown hK hP hD hS 0 rfl rfl 0 (by decide) (hok _ t_705 rfl _) (fun _ h9 => h9) rfl (by decide +kernel) rfl rfl (Nat.le_of_ble_eq_true rfl) d_MO_group_55 (fun H locs hP hD hS => ?_)
            have hP : va_P D cls [(h, .inr (8, [.int 0, .int (nI G), .ref (b 0), .ref (b 1), .int (nI C), .ref (b 2), .ref (b 3), .ref (b 4), .ref (b 5), .ref (b 6), .ref (b 7), .ref (b 8), .ref (b 9), .ref (b 10), .ref (b 11), .ref (b 12), .ref (b 13), .ref (b 14), .ref (b 15), .ref (b 16), .ref (b 17), .ref (b 18), .int (zb hs), .ref (b 19), .ref (b 20)])), ((b 0), .inl (cI, 6, .inl pa)), ((b 1), .inl (cI, 6, .inl lm))] H := hP
            have hD : va_D A [(h, .inr (8, [.int 0, .int (nI G), .ref (b 0), .ref (b 1), .int (nI C), .ref (b 2), .ref (b 3), .ref (b 4), .ref (b 5), .ref (b 6), .ref (b 7), .ref (b 8), .ref (b 9), .ref (b 10), .ref (b 11), .ref (b 12), .ref (b 13), .ref (b 14), .ref (b 15), .ref (b 16), .ref (b 17), .ref (b 18), .int (zb hs), .ref (b 19), .ref (b 20)])), ((b 0), .inl (cI, 6, .inl pa)), ((b 1), .inl (cI, 6, .inl lm))] := hD
            refine lv_aload_n hx hb d_MO_group_58 rfl (lv_at hl 0 rfl) ?_
            refine va_get (D := D) (ci := 8) (v := .int 0) (C := R_MO) (T := F_MO) (N := 25) hx hb (tb_in hok in_MO) (fun w h => h) hown hK hP 0 rfl rfl 0 (by decide) (hok _ t_705 rfl _) (fun _ h9 => h9) rfl d_MO_group_59 ?_
            refine lv_if_le (tgt := 67) hx hb d_MO_group_62 (by decide) (fun h62 => ?_) (fun h62 => absurd (show (0 : Int32) ≤ 0 by decide) h62)
            refine lv_aload_n hx hb d_MO_group_67 rfl (lv_at hl 0 rfl) ?_
            refine va_get (D := D) (ci := 8) (v := .ref (b 0)) (C := R_MO) (T := F_MO) (N := 25) hx hb (tb_in hok in_MO) (fun w h => h) hown hK hP 0 rfl rfl 2 (by decide) (hok _ t_707 rfl _) (fun _ h9 => h9) rfl d_MO_group_68 ?_
            refine lv_aload_n hx hb d_MO_group_71 rfl (lv_at hl 0 rfl) ?_
            refine va_get (D := D) (ci := 8) (v := .int (nI G)) (C := R_MO) (T := F_MO) (N := 25) hx hb (tb_in hok in_MO) (fun w h => h) hown hK hP 0 rfl rfl 1 (by decide) (hok _ t_706 rfl _) (fun _ h9 => h9) rfl d_MO_group_72 ?_
            refine lv_iload_n hx hb d_MO_group_75 rfl (lv_at hl 1 rfl) ?_
            refine va_iast hx hb hK hP hD hS 1 0 rfl rfl (vp_in_nI (by omega) (by omega)) d_MO_group_76 (fun H locs hP hD hS => ?_)
            rw [nI_clamp (show G < 2 ^ 31 from by omega)] at hP hD
            have hP : va_P D cls [(h, .inr (8, [.int 0, .int (nI G), .ref (b 0), .ref (b 1), .int (nI C), .ref (b 2), .ref (b 3), .ref (b 4), .ref (b 5), .ref (b 6), .ref (b 7), .ref (b 8), .ref (b 9), .ref (b 10), .ref (b 11), .ref (b 12), .ref (b 13), .ref (b 14), .ref (b 15), .ref (b 16), .ref (b 17), .ref (b 18), .int (zb hs), .ref (b 19), .ref (b 20)])), ((b 0), .inl (cI, 6, .inl (upd pa G x))), ((b 1), .inl (cI, 6, .inl lm))] H := hP
            have hD : va_D A [(h, .inr (8, [.int 0, .int (nI G), .ref (b 0), .ref (b 1), .int (nI C), .ref (b 2), .ref (b 3), .ref (b 4), .ref (b 5), .ref (b 6), .ref (b 7), .ref (b 8), .ref (b 9), .ref (b 10), .ref (b 11), .ref (b 12), .ref (b 13), .ref (b 14), .ref (b 15), .ref (b 16), .ref (b 17), .ref (b 18), .int (zb hs), .ref (b 19), .ref (b 20)])), ((b 0), .inl (cI, 6, .inl (upd pa G x))), ((b 1), .inl (cI, 6, .inl lm))] := hD
            refine lv_aload_n hx hb d_MO_group_77 rfl (lv_at hl 0 rfl) ?_
            refine va_get (D := D) (ci := 8) (v := .ref (b 1)) (C := R_MO) (T := F_MO) (N := 25) hx hb (tb_in hok in_MO) (fun w h => h) hown hK hP 0 rfl rfl 3 (by decide) (hok _ t_708 rfl _) (fun _ h9 => h9) rfl d_MO_group_78 ?_
            refine lv_aload_n hx hb d_MO_group_81 rfl (lv_at hl 0 rfl) ?_
            refine va_get (D := D) (ci := 8) (v := .int (nI G)) (C := R_MO) (T := F_MO) (N := 25) hx hb (tb_in hok in_MO) (fun w h => h) hown hK hP 0 rfl rfl 1 (by decide) (hok _ t_706 rfl _) (fun _ h9 => h9) rfl d_MO_group_82 ?_
            refine lv_iload_n hx hb d_MO_group_85 rfl (lv_at hl 2 rfl) ?_
            refine va_iast hx hb hK hP hD hS 2 0 rfl rfl (vp_in_nI (by omega) (by omega)) d_MO_group_86 (fun H locs hP hD hS => ?_)
            rw [nI_clamp (show G < 2 ^ 31 from by omega)] at hP hD
            have hP : va_P D cls [(h, .inr (8, [.int 0, .int (nI G), .ref (b 0), .ref (b 1), .int (nI C), .ref (b 2), .ref (b 3), .ref (b 4), .ref (b 5), .ref (b 6), .ref (b 7), .ref (b 8), .ref (b 9), .ref (b 10), .ref (b 11), .ref (b 12), .ref (b 13), .ref (b 14), .ref (b 15), .ref (b 16), .ref (b 17), .ref (b 18), .int (zb hs), .ref (b 19), .ref (b 20)])), ((b 0), .inl (cI, 6, .inl (upd pa G x))), ((b 1), .inl (cI, 6, .inl (upd lm G y)))] H := hP
            have hD : va_D A [(h, .inr (8, [.int 0, .int (nI G), .ref (b 0), .ref (b 1), .int (nI C), .ref (b 2), .ref (b 3), .ref (b 4), .ref (b 5), .ref (b 6), .ref (b 7), .ref (b 8), .ref (b 9), .ref (b 10), .ref (b 11), .ref (b 12), .ref (b 13), .ref (b 14), .ref (b 15), .ref (b 16), .ref (b 17), .ref (b 18), .int (zb hs), .ref (b 19), .ref (b 20)])), ((b 0), .inl (cI, 6, .inl (upd pa G x))), ((b 1), .inl (cI, 6, .inl (upd lm G y)))] := hD
            refine lv_aload_n hx hb d_MO_group_87 rfl (lv_at hl 0 rfl) ?_
            refine lv_dup hx hb d_MO_group_88 rfl ?_
            refine va_get (D := D) (ci := 8) (v := .int (nI G)) (C := R_MO) (T := F_MO) (N := 25) hx hb (tb_in hok in_MO) (fun w h => h) hown hK hP 0 rfl rfl 1 (by decide) (hok _ t_706 rfl _) (fun _ h9 => h9) rfl d_MO_group_89 ?_
            refine lv_iconst (v := 1) hx hb d_MO_group_92 (by decide) ?_
            refine lv_iadd hx hb d_MO_group_93 ?_
            refine va_put (D := D) (ci := 8) (v := .int ((nI G) + (1 : Int32))) (ty := .int) (C := R_MO) (T := F_MO) (N := 25) hx hb (tb_in hok in_MO) (fun w h => h) g_MO g_MO_ok n_MO hown hK hP hD hS 0 rfl rfl 1 (by decide) (hok _ t_706 rfl _) (fun _ h9 => h9) rfl (by decide +kernel) rfl rfl (Nat.le_of_ble_eq_true rfl) d_MO_group_94 (fun H locs hP hD hS => ?_)
            have hP : va_P D cls [(h, .inr (8, [.int 0, .int ((nI G) + (1 : Int32)), .ref (b 0), .ref (b 1), .int (nI C), .ref (b 2), .ref (b 3), .ref (b 4), .ref (b 5), .ref (b 6), .ref (b 7), .ref (b 8), .ref (b 9), .ref (b 10), .ref (b 11), .ref (b 12), .ref (b 13), .ref (b 14), .ref (b 15), .ref (b 16), .ref (b 17), .ref (b 18), .int (zb hs), .ref (b 19), .ref (b 20)])), ((b 0), .inl (cI, 6, .inl (upd pa G x))), ((b 1), .inl (cI, 6, .inl (upd lm G y)))] H := hP
            have hD : va_D A [(h, .inr (8, [.int 0, .int ((nI G) + (1 : Int32)), .ref (b 0), .ref (b 1), .int (nI C), .ref (b 2), .ref (b 3), .ref (b 4), .ref (b 5), .ref (b 6), .ref (b 7), .ref (b 8), .ref (b 9), .ref (b 10), .ref (b 11), .ref (b 12), .ref (b 13), .ref (b 14), .ref (b 15), .ref (b 16), .ref (b 17), .ref (b 18), .int (zb hs), .ref (b 19), .ref (b 20)])), ((b 0), .inl (cI, 6, .inl (upd pa G x))), ((b 1), .inl (cI, 6, .inl (upd lm G y)))] := hD
            refine lv_aload_n hx hb d_MO_group_97 rfl (lv_at hl 0 rfl) ?_
            refine va_get (D := D) (ci := 8) (v := .int ((nI G) + (1 : Int32))) (C := R_MO) (T := F_MO) (N := 25) hx hb (tb_in hok in_MO) (fun w h => h) hown hK hP 0 rfl rfl 1 (by decide) (hok _ t_706 rfl _) (fun _ h9 => h9) rfl d_MO_group_98 ?_
            refine lv_iconst (v := 1) hx hb d_MO_group_101 (by decide) ?_
            refine lv_isub hx hb d_MO_group_102 ?_
            have hP : va_P D cls [(h, .inr (8, [.int 0, .int (nI (G + 1)), .ref (b 0), .ref (b 1), .int (nI C), .ref (b 2), .ref (b 3), .ref (b 4), .ref (b 5), .ref (b 6), .ref (b 7), .ref (b 8), .ref (b 9), .ref (b 10), .ref (b 11), .ref (b 12), .ref (b 13), .ref (b 14), .ref (b 15), .ref (b 16), .ref (b 17), .ref (b 18), .int (zb hs), .ref (b 19), .ref (b 20)])), ((b 0), .inl (cI, 6, .inl (upd pa G x))), ((b 1), .inl (cI, 6, .inl (upd lm G y)))] H := by rw [nI_succ G]; exact hP
            have hD : va_D A [(h, .inr (8, [.int 0, .int (nI (G + 1)), .ref (b 0), .ref (b 1), .int (nI C), .ref (b 2), .ref (b 3), .ref (b 4), .ref (b 5), .ref (b 6), .ref (b 7), .ref (b 8), .ref (b 9), .ref (b 10), .ref (b 11), .ref (b 12), .ref (b 13), .ref (b 14), .ref (b 15), .ref (b 16), .ref (b 17), .ref (b 18), .int (zb hs), .ref (b 19), .ref (b 20)])), ((b 0), .inl (cI, 6, .inl (upd pa G x))), ((b 1), .inl (cI, 6, .inl (upd lm G y)))] := by rw [nI_succ G]; exact hD
            refine W.eq (g2 := F0 m 103 ls [.int (nI G)]) (by rw [← nI_succ G, nI_pred]) ?_
            exact W.iret hx hb hr (fun t ht _ => ⟨⟨rfl, by rw [ht]; exact hP, hD⟩, hS.F ht⟩) hS.2.2 d_MO_group_103
          · refine lv_aload_n hx hb d_MO_group_43 rfl (lv_at hl 0 rfl) ?_
            refine va_get (D := D) (ci := 8) (v := .int (nI G)) (C := R_MO) (T := F_MO) (N := 25) hx hb (tb_in hok in_MO) (fun w h => h) hown hK hP 0 rfl rfl 1 (by decide) (hok _ t_706 rfl _) (fun _ h9 => h9) rfl d_MO_group_44 ?_
            refine lv_if_le (tgt := 54) hx hb d_MO_group_47 (by decide) (fun h47 => ?_) (fun h47 => ?_)
            · refine lv_iconst (v := 0) hx hb d_MO_group_54 (by decide) ?_
              have e9 : ytg G x y = 0 := by first | (simp [ytg, h3, h16, h22, h35, h40, h47]; done) | exact absurd h3 h40
              have hG6 : G < 6 := Nat.lt_of_le_of_ne hG (fun z => h35 (by rw [z]; rfl))
              refine va_put (D := D) (ci := 8) (v := .int 0) (ty := .int) (C := R_MO) (T := F_MO) (N := 25) hx hb (tb_in hok in_MO) (fun w h => h) g_MO g_MO_ok n_MO hown hK hP hD hS 0 rfl rfl 0 (by decide) (hok _ t_705 rfl _) (fun _ h9 => h9) rfl (by decide +kernel) rfl rfl (Nat.le_of_ble_eq_true rfl) d_MO_group_55 (fun H locs hP hD hS => ?_)
              have hP : va_P D cls [(h, .inr (8, [.int 0, .int (nI G), .ref (b 0), .ref (b 1), .int (nI C), .ref (b 2), .ref (b 3), .ref (b 4), .ref (b 5), .ref (b 6), .ref (b 7), .ref (b 8), .ref (b 9), .ref (b 10), .ref (b 11), .ref (b 12), .ref (b 13), .ref (b 14), .ref (b 15), .ref (b 16), .ref (b 17), .ref (b 18), .int (zb hs), .ref (b 19), .ref (b 20)])), ((b 0), .inl (cI, 6, .inl pa)), ((b 1), .inl (cI, 6, .inl lm))] H := hP
              have hD : va_D A [(h, .inr (8, [.int 0, .int (nI G), .ref (b 0), .ref (b 1), .int (nI C), .ref (b 2), .ref (b 3), .ref (b 4), .ref (b 5), .ref (b 6), .ref (b 7), .ref (b 8), .ref (b 9), .ref (b 10), .ref (b 11), .ref (b 12), .ref (b 13), .ref (b 14), .ref (b 15), .ref (b 16), .ref (b 17), .ref (b 18), .int (zb hs), .ref (b 19), .ref (b 20)])), ((b 0), .inl (cI, 6, .inl pa)), ((b 1), .inl (cI, 6, .inl lm))] := hD
              refine lv_aload_n hx hb d_MO_group_58 rfl (lv_at hl 0 rfl) ?_
              refine va_get (D := D) (ci := 8) (v := .int 0) (C := R_MO) (T := F_MO) (N := 25) hx hb (tb_in hok in_MO) (fun w h => h) hown hK hP 0 rfl rfl 0 (by decide) (hok _ t_705 rfl _) (fun _ h9 => h9) rfl d_MO_group_59 ?_
              refine lv_if_le (tgt := 67) hx hb d_MO_group_62 (by decide) (fun h62 => ?_) (fun h62 => absurd (show (0 : Int32) ≤ 0 by decide) h62)
              refine lv_aload_n hx hb d_MO_group_67 rfl (lv_at hl 0 rfl) ?_
              refine va_get (D := D) (ci := 8) (v := .ref (b 0)) (C := R_MO) (T := F_MO) (N := 25) hx hb (tb_in hok in_MO) (fun w h => h) hown hK hP 0 rfl rfl 2 (by decide) (hok _ t_707 rfl _) (fun _ h9 => h9) rfl d_MO_group_68 ?_
              refine lv_aload_n hx hb d_MO_group_71 rfl (lv_at hl 0 rfl) ?_
              refine va_get (D := D) (ci := 8) (v := .int (nI G)) (C := R_MO) (T := F_MO) (N := 25) hx hb (tb_in hok in_MO) (fun w h => h) hown hK hP 0 rfl rfl 1 (by decide) (hok _ t_706 rfl _) (fun _ h9 => h9) rfl d_MO_group_72 ?_
              refine lv_iload_n hx hb d_MO_group_75 rfl (lv_at hl 1 rfl) ?_
              refine va_iast hx hb hK hP hD hS 1 0 rfl rfl (vp_in_nI (by omega) (by omega)) d_MO_group_76 (fun H locs hP hD hS => ?_)
              rw [nI_clamp (show G < 2 ^ 31 from by omega)] at hP hD
              have hP : va_P D cls [(h, .inr (8, [.int 0, .int (nI G), .ref (b 0), .ref (b 1), .int (nI C), .ref (b 2), .ref (b 3), .ref (b 4), .ref (b 5), .ref (b 6), .ref (b 7), .ref (b 8), .ref (b 9), .ref (b 10), .ref (b 11), .ref (b 12), .ref (b 13), .ref (b 14), .ref (b 15), .ref (b 16), .ref (b 17), .ref (b 18), .int (zb hs), .ref (b 19), .ref (b 20)])), ((b 0), .inl (cI, 6, .inl (upd pa G x))), ((b 1), .inl (cI, 6, .inl lm))] H := hP
              have hD : va_D A [(h, .inr (8, [.int 0, .int (nI G), .ref (b 0), .ref (b 1), .int (nI C), .ref (b 2), .ref (b 3), .ref (b 4), .ref (b 5), .ref (b 6), .ref (b 7), .ref (b 8), .ref (b 9), .ref (b 10), .ref (b 11), .ref (b 12), .ref (b 13), .ref (b 14), .ref (b 15), .ref (b 16), .ref (b 17), .ref (b 18), .int (zb hs), .ref (b 19), .ref (b 20)])), ((b 0), .inl (cI, 6, .inl (upd pa G x))), ((b 1), .inl (cI, 6, .inl lm))] := hD
              refine lv_aload_n hx hb d_MO_group_77 rfl (lv_at hl 0 rfl) ?_
              refine va_get (D := D) (ci := 8) (v := .ref (b 1)) (C := R_MO) (T := F_MO) (N := 25) hx hb (tb_in hok in_MO) (fun w h => h) hown hK hP 0 rfl rfl 3 (by decide) (hok _ t_708 rfl _) (fun _ h9 => h9) rfl d_MO_group_78 ?_
              refine lv_aload_n hx hb d_MO_group_81 rfl (lv_at hl 0 rfl) ?_
              refine va_get (D := D) (ci := 8) (v := .int (nI G)) (C := R_MO) (T := F_MO) (N := 25) hx hb (tb_in hok in_MO) (fun w h => h) hown hK hP 0 rfl rfl 1 (by decide) (hok _ t_706 rfl _) (fun _ h9 => h9) rfl d_MO_group_82 ?_
              refine lv_iload_n hx hb d_MO_group_85 rfl (lv_at hl 2 rfl) ?_
              refine va_iast hx hb hK hP hD hS 2 0 rfl rfl (vp_in_nI (by omega) (by omega)) d_MO_group_86 (fun H locs hP hD hS => ?_)
              rw [nI_clamp (show G < 2 ^ 31 from by omega)] at hP hD
              have hP : va_P D cls [(h, .inr (8, [.int 0, .int (nI G), .ref (b 0), .ref (b 1), .int (nI C), .ref (b 2), .ref (b 3), .ref (b 4), .ref (b 5), .ref (b 6), .ref (b 7), .ref (b 8), .ref (b 9), .ref (b 10), .ref (b 11), .ref (b 12), .ref (b 13), .ref (b 14), .ref (b 15), .ref (b 16), .ref (b 17), .ref (b 18), .int (zb hs), .ref (b 19), .ref (b 20)])), ((b 0), .inl (cI, 6, .inl (upd pa G x))), ((b 1), .inl (cI, 6, .inl (upd lm G y)))] H := hP
              have hD : va_D A [(h, .inr (8, [.int 0, .int (nI G), .ref (b 0), .ref (b 1), .int (nI C), .ref (b 2), .ref (b 3), .ref (b 4), .ref (b 5), .ref (b 6), .ref (b 7), .ref (b 8), .ref (b 9), .ref (b 10), .ref (b 11), .ref (b 12), .ref (b 13), .ref (b 14), .ref (b 15), .ref (b 16), .ref (b 17), .ref (b 18), .int (zb hs), .ref (b 19), .ref (b 20)])), ((b 0), .inl (cI, 6, .inl (upd pa G x))), ((b 1), .inl (cI, 6, .inl (upd lm G y)))] := hD
              refine lv_aload_n hx hb d_MO_group_87 rfl (lv_at hl 0 rfl) ?_
              refine lv_dup hx hb d_MO_group_88 rfl ?_
              refine va_get (D := D) (ci := 8) (v := .int (nI G)) (C := R_MO) (T := F_MO) (N := 25) hx hb (tb_in hok in_MO) (fun w h => h) hown hK hP 0 rfl rfl 1 (by decide) (hok _ t_706 rfl _) (fun _ h9 => h9) rfl d_MO_group_89 ?_
              refine lv_iconst (v := 1) hx hb d_MO_group_92 (by decide) ?_
              refine lv_iadd hx hb d_MO_group_93 ?_
              refine va_put (D := D) (ci := 8) (v := .int ((nI G) + (1 : Int32))) (ty := .int) (C := R_MO) (T := F_MO) (N := 25) hx hb (tb_in hok in_MO) (fun w h => h) g_MO g_MO_ok n_MO hown hK hP hD hS 0 rfl rfl 1 (by decide) (hok _ t_706 rfl _) (fun _ h9 => h9) rfl (by decide +kernel) rfl rfl (Nat.le_of_ble_eq_true rfl) d_MO_group_94 (fun H locs hP hD hS => ?_)
              have hP : va_P D cls [(h, .inr (8, [.int 0, .int ((nI G) + (1 : Int32)), .ref (b 0), .ref (b 1), .int (nI C), .ref (b 2), .ref (b 3), .ref (b 4), .ref (b 5), .ref (b 6), .ref (b 7), .ref (b 8), .ref (b 9), .ref (b 10), .ref (b 11), .ref (b 12), .ref (b 13), .ref (b 14), .ref (b 15), .ref (b 16), .ref (b 17), .ref (b 18), .int (zb hs), .ref (b 19), .ref (b 20)])), ((b 0), .inl (cI, 6, .inl (upd pa G x))), ((b 1), .inl (cI, 6, .inl (upd lm G y)))] H := hP
              have hD : va_D A [(h, .inr (8, [.int 0, .int ((nI G) + (1 : Int32)), .ref (b 0), .ref (b 1), .int (nI C), .ref (b 2), .ref (b 3), .ref (b 4), .ref (b 5), .ref (b 6), .ref (b 7), .ref (b 8), .ref (b 9), .ref (b 10), .ref (b 11), .ref (b 12), .ref (b 13), .ref (b 14), .ref (b 15), .ref (b 16), .ref (b 17), .ref (b 18), .int (zb hs), .ref (b 19), .ref (b 20)])), ((b 0), .inl (cI, 6, .inl (upd pa G x))), ((b 1), .inl (cI, 6, .inl (upd lm G y)))] := hD
              refine lv_aload_n hx hb d_MO_group_97 rfl (lv_at hl 0 rfl) ?_
              refine va_get (D := D) (ci := 8) (v := .int ((nI G) + (1 : Int32))) (C := R_MO) (T := F_MO) (N := 25) hx hb (tb_in hok in_MO) (fun w h => h) hown hK hP 0 rfl rfl 1 (by decide) (hok _ t_706 rfl _) (fun _ h9 => h9) rfl d_MO_group_98 ?_
              refine lv_iconst (v := 1) hx hb d_MO_group_101 (by decide) ?_
              refine lv_isub hx hb d_MO_group_102 ?_
              have hP : va_P D cls [(h, .inr (8, [.int 0, .int (nI (G + 1)), .ref (b 0), .ref (b 1), .int (nI C), .ref (b 2), .ref (b 3), .ref (b 4), .ref (b 5), .ref (b 6), .ref (b 7), .ref (b 8), .ref (b 9), .ref (b 10), .ref (b 11), .ref (b 12), .ref (b 13), .ref (b 14), .ref (b 15), .ref (b 16), .ref (b 17), .ref (b 18), .int (zb hs), .ref (b 19), .ref (b 20)])), ((b 0), .inl (cI, 6, .inl (upd pa G x))), ((b 1), .inl (cI, 6, .inl (upd lm G y)))] H := by rw [nI_succ G]; exact hP
              have hD : va_D A [(h, .inr (8, [.int 0, .int (nI (G + 1)), .ref (b 0), .ref (b 1), .int (nI C), .ref (b 2), .ref (b 3), .ref (b 4), .ref (b 5), .ref (b 6), .ref (b 7), .ref (b 8), .ref (b 9), .ref (b 10), .ref (b 11), .ref (b 12), .ref (b 13), .ref (b 14), .ref (b 15), .ref (b 16), .ref (b 17), .ref (b 18), .int (zb hs), .ref (b 19), .ref (b 20)])), ((b 0), .inl (cI, 6, .inl (upd pa G x))), ((b 1), .inl (cI, 6, .inl (upd lm G y)))] := by rw [nI_succ G]; exact hD
              refine W.eq (g2 := F0 m 103 ls [.int (nI G)]) (by rw [← nI_succ G, nI_pred]) ?_
              exact W.iret hx hb hr (fun t ht _ => ⟨⟨rfl, by rw [ht]; exact hP, hD⟩, hS.F ht⟩) hS.2.2 d_MO_group_103
            · refine lv_iconst (v := 2) hx hb d_MO_group_50 (by decide) ?_
              refine lv_goto (tgt := 55) hx hb d_MO_group_51 (by decide) ?_
              have e9 : ytg G x y = 2 := by first | (simp [ytg, h3, h16, h22, h35, h40, h47]; done) | exact absurd h3 h40
              exact absurd (ht.symm.trans e9) (by decide)
      · refine lv_iconst (v := 1) hx hb d_MO_group_25 (by decide) ?_
        refine lv_goto (tgt := 55) hx hb d_MO_group_26 (by decide) ?_
        have e9 : ytg G x y = 1 := by first | (simp [ytg, h3, h16, h22]; done)
        exact absurd (ht.symm.trans e9) (by decide)
  · refine lv_aload_n hx hb d_MO_group_6 rfl (lv_at hl 0 rfl) ?_
    refine lv_iload_n hx hb d_MO_group_7 rfl (lv_at hl 1 rfl) ?_
    refine zc_read (va_runV (Ts := []) (As := [.int x]) (rest := [.ref h]) ⟨hx, hb, hml, hown, fun _ h => absurd h List.not_mem_nil⟩ (m_MO_noGroup l D cI cJ cZ cP cS h b th G C hs x) ⟨zc_B 1 hok c_MO_noGroup_w t_10 t_790 rfl rfl (by decide +kernel) ⟨Nat.le_of_ble_eq_true rfl, Nat.le_of_ble_eq_true rfl⟩, hok _ t_792 rfl _, hok _ s_19 rfl _⟩ ⟨fun a U g mk q => by obtain ⟨q0, q2, qP, qK⟩ := q; exact ⟨q0, q2.call g mk a, qP, va_K.moved (u := U) (U := U.calling g mk a) (Vm.Alike.refl U.vm) qK⟩, va_recv hK hP (ci := 8) (q0 := 0) rfl rfl, fun U hU hW => ⟨rfl, hok.warm hW, by rw [hU]; exact hP.sub [0] rfl, va_K.moved hW.alike hK⟩⟩ rfl rfl hl.1 rfl (lv_room (Nat.le_of_ble_eq_true rfl)) d_MO_group_8 ⟨Nat.le_of_ble_eq_true rfl, Nat.le_of_ble_eq_true rfl⟩) ?_
    refine W.eq (g2 := F0 m 11 ls [.int (zb (yng G x)), .ref h]) rfl ?_
    refine lv_if_ne (tgt := 25) hx hb d_MO_group_11 (by decide) (fun h11 => ?_) (fun h11 => ?_)
    · refine lv_iconst (v := 1) hx hb d_MO_group_25 (by decide) ?_
      refine lv_goto (tgt := 55) hx hb d_MO_group_26 (by decide) ?_
      have e9 : ytg G x y = 1 := by first | (simp [ytg, h3, h11]; done)
      exact absurd (ht.symm.trans e9) (by decide)
    · refine lv_iload_n hx hb d_MO_group_14 rfl (lv_at hl 2 rfl) ?_
      refine lv_iconst (v := (-1)) hx hb d_MO_group_15 (by decide) ?_
      refine lv_icmp_lt (tgt := 25) hx hb d_MO_group_16 (by decide) (fun h16 => ?_) (fun h16 => ?_)
      · refine lv_iconst (v := 1) hx hb d_MO_group_25 (by decide) ?_
        refine lv_goto (tgt := 55) hx hb d_MO_group_26 (by decide) ?_
        have e9 : ytg G x y = 1 := by first | (simp [ytg, h3, h11, h16]; done)
        exact absurd (ht.symm.trans e9) (by decide)
      · refine lv_iload_n hx hb d_MO_group_19 rfl (lv_at hl 2 rfl) ?_
        refine lv_bipush (v := 12) hx hb d_MO_group_20 (by decide) ?_
        refine lv_icmp_le (tgt := 29) hx hb d_MO_group_22 (by decide) (fun h22 => ?_) (fun h22 => ?_)
        · refine lv_aload_n hx hb d_MO_group_29 rfl (lv_at hl 0 rfl) ?_
          refine va_get (D := D) (ci := 8) (v := .int (nI G)) (C := R_MO) (T := F_MO) (N := 25) hx hb (tb_in hok in_MO) (fun w h => h) hown hK hP 0 rfl rfl 1 (by decide) (hok _ t_706 rfl _) (fun _ h9 => h9) rfl d_MO_group_30 ?_
          refine lv_bipush (v := 6) hx hb d_MO_group_33 (by decide) ?_
          refine lv_icmp_eq (tgt := 50) hx hb d_MO_group_35 (by decide) (fun h35 => ?_) (fun h35 => ?_)
          · refine lv_iconst (v := 2) hx hb d_MO_group_50 (by decide) ?_
            refine lv_goto (tgt := 55) hx hb d_MO_group_51 (by decide) ?_
            have e9 : ytg G x y = 2 := by first | (simp [ytg, h3, h11, h16, h22, h35]; done)
            exact absurd (ht.symm.trans e9) (by decide)
          · refine lv_iload_n hx hb d_MO_group_38 rfl (lv_at hl 1 rfl) ?_
            refine lv_iconst (v := (-1)) hx hb d_MO_group_39 (by decide) ?_
            refine lv_icmp_ne (tgt := 54) hx hb d_MO_group_40 (by decide) (fun h40 => ?_) (fun h40 => ?_)
            · refine lv_iconst (v := 0) hx hb d_MO_group_54 (by decide) ?_
              have e9 : ytg G x y = 0 := by first | (simp [ytg, h3, h11, h16, h22, h35, h40]; done) | exact absurd h3 h40
              have hG6 : G < 6 := Nat.lt_of_le_of_ne hG (fun z => h35 (by rw [z]; rfl))
              refine va_put (D := D) (ci := 8) (v := .int 0) (ty := .int) (C := R_MO) (T := F_MO) (N := 25) hx hb (tb_in hok in_MO) (fun w h => h) g_MO g_MO_ok n_MO hown hK hP hD hS 0 rfl rfl 0 (by decide) (hok _ t_705 rfl _) (fun _ h9 => h9) rfl (by decide +kernel) rfl rfl (Nat.le_of_ble_eq_true rfl) d_MO_group_55 (fun H locs hP hD hS => ?_)
              have hP : va_P D cls [(h, .inr (8, [.int 0, .int (nI G), .ref (b 0), .ref (b 1), .int (nI C), .ref (b 2), .ref (b 3), .ref (b 4), .ref (b 5), .ref (b 6), .ref (b 7), .ref (b 8), .ref (b 9), .ref (b 10), .ref (b 11), .ref (b 12), .ref (b 13), .ref (b 14), .ref (b 15), .ref (b 16), .ref (b 17), .ref (b 18), .int (zb hs), .ref (b 19), .ref (b 20)])), ((b 0), .inl (cI, 6, .inl pa)), ((b 1), .inl (cI, 6, .inl lm))] H := hP
              have hD : va_D A [(h, .inr (8, [.int 0, .int (nI G), .ref (b 0), .ref (b 1), .int (nI C), .ref (b 2), .ref (b 3), .ref (b 4), .ref (b 5), .ref (b 6), .ref (b 7), .ref (b 8), .ref (b 9), .ref (b 10), .ref (b 11), .ref (b 12), .ref (b 13), .ref (b 14), .ref (b 15), .ref (b 16), .ref (b 17), .ref (b 18), .int (zb hs), .ref (b 19), .ref (b 20)])), ((b 0), .inl (cI, 6, .inl pa)), ((b 1), .inl (cI, 6, .inl lm))] := hD
              refine lv_aload_n hx hb d_MO_group_58 rfl (lv_at hl 0 rfl) ?_
              refine va_get (D := D) (ci := 8) (v := .int 0) (C := R_MO) (T := F_MO) (N := 25) hx hb (tb_in hok in_MO) (fun w h => h) hown hK hP 0 rfl rfl 0 (by decide) (hok _ t_705 rfl _) (fun _ h9 => h9) rfl d_MO_group_59 ?_
              refine lv_if_le (tgt := 67) hx hb d_MO_group_62 (by decide) (fun h62 => ?_) (fun h62 => absurd (show (0 : Int32) ≤ 0 by decide) h62)
              refine lv_aload_n hx hb d_MO_group_67 rfl (lv_at hl 0 rfl) ?_
              refine va_get (D := D) (ci := 8) (v := .ref (b 0)) (C := R_MO) (T := F_MO) (N := 25) hx hb (tb_in hok in_MO) (fun w h => h) hown hK hP 0 rfl rfl 2 (by decide) (hok _ t_707 rfl _) (fun _ h9 => h9) rfl d_MO_group_68 ?_
              refine lv_aload_n hx hb d_MO_group_71 rfl (lv_at hl 0 rfl) ?_
              refine va_get (D := D) (ci := 8) (v := .int (nI G)) (C := R_MO) (T := F_MO) (N := 25) hx hb (tb_in hok in_MO) (fun w h => h) hown hK hP 0 rfl rfl 1 (by decide) (hok _ t_706 rfl _) (fun _ h9 => h9) rfl d_MO_group_72 ?_
              refine lv_iload_n hx hb d_MO_group_75 rfl (lv_at hl 1 rfl) ?_
              refine va_iast hx hb hK hP hD hS 1 0 rfl rfl (vp_in_nI (by omega) (by omega)) d_MO_group_76 (fun H locs hP hD hS => ?_)
              rw [nI_clamp (show G < 2 ^ 31 from by omega)] at hP hD
              have hP : va_P D cls [(h, .inr (8, [.int 0, .int (nI G), .ref (b 0), .ref (b 1), .int (nI C), .ref (b 2), .ref (b 3), .ref (b 4), .ref (b 5), .ref (b 6), .ref (b 7), .ref (b 8), .ref (b 9), .ref (b 10), .ref (b 11), .ref (b 12), .ref (b 13), .ref (b 14), .ref (b 15), .ref (b 16), .ref (b 17), .ref (b 18), .int (zb hs), .ref (b 19), .ref (b 20)])), ((b 0), .inl (cI, 6, .inl (upd pa G x))), ((b 1), .inl (cI, 6, .inl lm))] H := hP
              have hD : va_D A [(h, .inr (8, [.int 0, .int (nI G), .ref (b 0), .ref (b 1), .int (nI C), .ref (b 2), .ref (b 3), .ref (b 4), .ref (b 5), .ref (b 6), .ref (b 7), .ref (b 8), .ref (b 9), .ref (b 10), .ref (b 11), .ref (b 12), .ref (b 13), .ref (b 14), .ref (b 15), .ref (b 16), .ref (b 17), .ref (b 18), .int (zb hs), .ref (b 19), .ref (b 20)])), ((b 0), .inl (cI, 6, .inl (upd pa G x))), ((b 1), .inl (cI, 6, .inl lm))] := hD
              refine lv_aload_n hx hb d_MO_group_77 rfl (lv_at hl 0 rfl) ?_
              refine va_get (D := D) (ci := 8) (v := .ref (b 1)) (C := R_MO) (T := F_MO) (N := 25) hx hb (tb_in hok in_MO) (fun w h => h) hown hK hP 0 rfl rfl 3 (by decide) (hok _ t_708 rfl _) (fun _ h9 => h9) rfl d_MO_group_78 ?_
              refine lv_aload_n hx hb d_MO_group_81 rfl (lv_at hl 0 rfl) ?_
              refine va_get (D := D) (ci := 8) (v := .int (nI G)) (C := R_MO) (T := F_MO) (N := 25) hx hb (tb_in hok in_MO) (fun w h => h) hown hK hP 0 rfl rfl 1 (by decide) (hok _ t_706 rfl _) (fun _ h9 => h9) rfl d_MO_group_82 ?_
              refine lv_iload_n hx hb d_MO_group_85 rfl (lv_at hl 2 rfl) ?_
              refine va_iast hx hb hK hP hD hS 2 0 rfl rfl (vp_in_nI (by omega) (by omega)) d_MO_group_86 (fun H locs hP hD hS => ?_)
              rw [nI_clamp (show G < 2 ^ 31 from by omega)] at hP hD
              have hP : va_P D cls [(h, .inr (8, [.int 0, .int (nI G), .ref (b 0), .ref (b 1), .int (nI C), .ref (b 2), .ref (b 3), .ref (b 4), .ref (b 5), .ref (b 6), .ref (b 7), .ref (b 8), .ref (b 9), .ref (b 10), .ref (b 11), .ref (b 12), .ref (b 13), .ref (b 14), .ref (b 15), .ref (b 16), .ref (b 17), .ref (b 18), .int (zb hs), .ref (b 19), .ref (b 20)])), ((b 0), .inl (cI, 6, .inl (upd pa G x))), ((b 1), .inl (cI, 6, .inl (upd lm G y)))] H := hP
              have hD : va_D A [(h, .inr (8, [.int 0, .int (nI G), .ref (b 0), .ref (b 1), .int (nI C), .ref (b 2), .ref (b 3), .ref (b 4), .ref (b 5), .ref (b 6), .ref (b 7), .ref (b 8), .ref (b 9), .ref (b 10), .ref (b 11), .ref (b 12), .ref (b 13), .ref (b 14), .ref (b 15), .ref (b 16), .ref (b 17), .ref (b 18), .int (zb hs), .ref (b 19), .ref (b 20)])), ((b 0), .inl (cI, 6, .inl (upd pa G x))), ((b 1), .inl (cI, 6, .inl (upd lm G y)))] := hD
              refine lv_aload_n hx hb d_MO_group_87 rfl (lv_at hl 0 rfl) ?_
              refine lv_dup hx hb d_MO_group_88 rfl ?_
              refine va_get (D := D) (ci := 8) (v := .int (nI G)) (C := R_MO) (T := F_MO) (N := 25) hx hb (tb_in hok in_MO) (fun w h => h) hown hK hP 0 rfl rfl 1 (by decide) (hok _ t_706 rfl _) (fun _ h9 => h9) rfl d_MO_group_89 ?_
              refine lv_iconst (v := 1) hx hb d_MO_group_92 (by decide) ?_
              refine lv_iadd hx hb d_MO_group_93 ?_
              refine va_put (D := D) (ci := 8) (v := .int ((nI G) + (1 : Int32))) (ty := .int) (C := R_MO) (T := F_MO) (N := 25) hx hb (tb_in hok in_MO) (fun w h => h) g_MO g_MO_ok n_MO hown hK hP hD hS 0 rfl rfl 1 (by decide) (hok _ t_706 rfl _) (fun _ h9 => h9) rfl (by decide +kernel) rfl rfl (Nat.le_of_ble_eq_true rfl) d_MO_group_94 (fun H locs hP hD hS => ?_)
              have hP : va_P D cls [(h, .inr (8, [.int 0, .int ((nI G) + (1 : Int32)), .ref (b 0), .ref (b 1), .int (nI C), .ref (b 2), .ref (b 3), .ref (b 4), .ref (b 5), .ref (b 6), .ref (b 7), .ref (b 8), .ref (b 9), .ref (b 10), .ref (b 11), .ref (b 12), .ref (b 13), .ref (b 14), .ref (b 15), .ref (b 16), .ref (b 17), .ref (b 18), .int (zb hs), .ref (b 19), .ref (b 20)])), ((b 0), .inl (cI, 6, .inl (upd pa G x))), ((b 1), .inl (cI, 6, .inl (upd lm G y)))] H := hP
              have hD : va_D A [(h, .inr (8, [.int 0, .int ((nI G) + (1 : Int32)), .ref (b 0), .ref (b 1), .int (nI C), .ref (b 2), .ref (b 3), .ref (b 4), .ref (b 5), .ref (b 6), .ref (b 7), .ref (b 8), .ref (b 9), .ref (b 10), .ref (b 11), .ref (b 12), .ref (b 13), .ref (b 14), .ref (b 15), .ref (b 16), .ref (b 17), .ref (b 18), .int (zb hs), .ref (b 19), .ref (b 20)])), ((b 0), .inl (cI, 6, .inl (upd pa G x))), ((b 1), .inl (cI, 6, .inl (upd lm G y)))] := hD
              refine lv_aload_n hx hb d_MO_group_97 rfl (lv_at hl 0 rfl) ?_
              refine va_get (D := D) (ci := 8) (v := .int ((nI G) + (1 : Int32))) (C := R_MO) (T := F_MO) (N := 25) hx hb (tb_in hok in_MO) (fun w h => h) hown hK hP 0 rfl rfl 1 (by decide) (hok _ t_706 rfl _) (fun _ h9 => h9) rfl d_MO_group_98 ?_
              refine lv_iconst (v := 1) hx hb d_MO_group_101 (by decide) ?_
              refine lv_isub hx hb d_MO_group_102 ?_
              have hP : va_P D cls [(h, .inr (8, [.int 0, .int (nI (G + 1)), .ref (b 0), .ref (b 1), .int (nI C), .ref (b 2), .ref (b 3), .ref (b 4), .ref (b 5), .ref (b 6), .ref (b 7), .ref (b 8), .ref (b 9), .ref (b 10), .ref (b 11), .ref (b 12), .ref (b 13), .ref (b 14), .ref (b 15), .ref (b 16), .ref (b 17), .ref (b 18), .int (zb hs), .ref (b 19), .ref (b 20)])), ((b 0), .inl (cI, 6, .inl (upd pa G x))), ((b 1), .inl (cI, 6, .inl (upd lm G y)))] H := by rw [nI_succ G]; exact hP
              have hD : va_D A [(h, .inr (8, [.int 0, .int (nI (G + 1)), .ref (b 0), .ref (b 1), .int (nI C), .ref (b 2), .ref (b 3), .ref (b 4), .ref (b 5), .ref (b 6), .ref (b 7), .ref (b 8), .ref (b 9), .ref (b 10), .ref (b 11), .ref (b 12), .ref (b 13), .ref (b 14), .ref (b 15), .ref (b 16), .ref (b 17), .ref (b 18), .int (zb hs), .ref (b 19), .ref (b 20)])), ((b 0), .inl (cI, 6, .inl (upd pa G x))), ((b 1), .inl (cI, 6, .inl (upd lm G y)))] := by rw [nI_succ G]; exact hD
              refine W.eq (g2 := F0 m 103 ls [.int (nI G)]) (by rw [← nI_succ G, nI_pred]) ?_
              exact W.iret hx hb hr (fun t ht _ => ⟨⟨rfl, by rw [ht]; exact hP, hD⟩, hS.F ht⟩) hS.2.2 d_MO_group_103
            · refine lv_aload_n hx hb d_MO_group_43 rfl (lv_at hl 0 rfl) ?_
              refine va_get (D := D) (ci := 8) (v := .int (nI G)) (C := R_MO) (T := F_MO) (N := 25) hx hb (tb_in hok in_MO) (fun w h => h) hown hK hP 0 rfl rfl 1 (by decide) (hok _ t_706 rfl _) (fun _ h9 => h9) rfl d_MO_group_44 ?_
              refine lv_if_le (tgt := 54) hx hb d_MO_group_47 (by decide) (fun h47 => ?_) (fun h47 => ?_)
              · refine lv_iconst (v := 0) hx hb d_MO_group_54 (by decide) ?_
                have e9 : ytg G x y = 0 := by first | (simp [ytg, h3, h11, h16, h22, h35, h40, h47]; done) | exact absurd h3 h40
                have hG6 : G < 6 := Nat.lt_of_le_of_ne hG (fun z => h35 (by rw [z]; rfl))
                refine va_put (D := D) (ci := 8) (v := .int 0) (ty := .int) (C := R_MO) (T := F_MO) (N := 25) hx hb (tb_in hok in_MO) (fun w h => h) g_MO g_MO_ok n_MO hown hK hP hD hS 0 rfl rfl 0 (by decide) (hok _ t_705 rfl _) (fun _ h9 => h9) rfl (by decide +kernel) rfl rfl (Nat.le_of_ble_eq_true rfl) d_MO_group_55 (fun H locs hP hD hS => ?_)
                have hP : va_P D cls [(h, .inr (8, [.int 0, .int (nI G), .ref (b 0), .ref (b 1), .int (nI C), .ref (b 2), .ref (b 3), .ref (b 4), .ref (b 5), .ref (b 6), .ref (b 7), .ref (b 8), .ref (b 9), .ref (b 10), .ref (b 11), .ref (b 12), .ref (b 13), .ref (b 14), .ref (b 15), .ref (b 16), .ref (b 17), .ref (b 18), .int (zb hs), .ref (b 19), .ref (b 20)])), ((b 0), .inl (cI, 6, .inl pa)), ((b 1), .inl (cI, 6, .inl lm))] H := hP
                have hD : va_D A [(h, .inr (8, [.int 0, .int (nI G), .ref (b 0), .ref (b 1), .int (nI C), .ref (b 2), .ref (b 3), .ref (b 4), .ref (b 5), .ref (b 6), .ref (b 7), .ref (b 8), .ref (b 9), .ref (b 10), .ref (b 11), .ref (b 12), .ref (b 13), .ref (b 14), .ref (b 15), .ref (b 16), .ref (b 17), .ref (b 18), .int (zb hs), .ref (b 19), .ref (b 20)])), ((b 0), .inl (cI, 6, .inl pa)), ((b 1), .inl (cI, 6, .inl lm))] := hD
                refine lv_aload_n hx hb d_MO_group_58 rfl (lv_at hl 0 rfl) ?_
                refine va_get (D := D) (ci := 8) (v := .int 0) (C := R_MO) (T := F_MO) (N := 25) hx hb (tb_in hok in_MO) (fun w h => h) hown hK hP 0 rfl rfl 0 (by decide) (hok _ t_705 rfl _) (fun _ h9 => h9) rfl d_MO_group_59 ?_
                refine lv_if_le (tgt := 67) hx hb d_MO_group_62 (by decide) (fun h62 => ?_) (fun h62 => absurd (show (0 : Int32) ≤ 0 by decide) h62)
                refine lv_aload_n hx hb d_MO_group_67 rfl (lv_at hl 0 rfl) ?_
                refine va_get (D := D) (ci := 8) (v := .ref (b 0)) (C := R_MO) (T := F_MO) (N := 25) hx hb (tb_in hok in_MO) (fun w h => h) hown hK hP 0 rfl rfl 2 (by decide) (hok _ t_707 rfl _) (fun _ h9 => h9) rfl d_MO_group_68 ?_
                refine lv_aload_n hx hb d_MO_group_71 rfl (lv_at hl 0 rfl) ?_
                refine va_get (D := D) (ci := 8) (v := .int (nI G)) (C := R_MO) (T := F_MO) (N := 25) hx hb (tb_in hok in_MO) (fun w h => h) hown hK hP 0 rfl rfl 1 (by decide) (hok _ t_706 rfl _) (fun _ h9 => h9) rfl d_MO_group_72 ?_
                refine lv_iload_n hx hb d_MO_group_75 rfl (lv_at hl 1 rfl) ?_
                refine va_iast hx hb hK hP hD hS 1 0 rfl rfl (vp_in_nI (by omega) (by omega)) d_MO_group_76 (fun H locs hP hD hS => ?_)
                rw [nI_clamp (show G < 2 ^ 31 from by omega)] at hP hD
                have hP : va_P D cls [(h, .inr (8, [.int 0, .int (nI G), .ref (b 0), .ref (b 1), .int (nI C), .ref (b 2), .ref (b 3), .ref (b 4), .ref (b 5), .ref (b 6), .ref (b 7), .ref (b 8), .ref (b 9), .ref (b 10), .ref (b 11), .ref (b 12), .ref (b 13), .ref (b 14), .ref (b 15), .ref (b 16), .ref (b 17), .ref (b 18), .int (zb hs), .ref (b 19), .ref (b 20)])), ((b 0), .inl (cI, 6, .inl (upd pa G x))), ((b 1), .inl (cI, 6, .inl lm))] H := hP
                have hD : va_D A [(h, .inr (8, [.int 0, .int (nI G), .ref (b 0), .ref (b 1), .int (nI C), .ref (b 2), .ref (b 3), .ref (b 4), .ref (b 5), .ref (b 6), .ref (b 7), .ref (b 8), .ref (b 9), .ref (b 10), .ref (b 11), .ref (b 12), .ref (b 13), .ref (b 14), .ref (b 15), .ref (b 16), .ref (b 17), .ref (b 18), .int (zb hs), .ref (b 19), .ref (b 20)])), ((b 0), .inl (cI, 6, .inl (upd pa G x))), ((b 1), .inl (cI, 6, .inl lm))] := hD
                refine lv_aload_n hx hb d_MO_group_77 rfl (lv_at hl 0 rfl) ?_
                refine va_get (D := D) (ci := 8) (v := .ref (b 1)) (C := R_MO) (T := F_MO) (N := 25) hx hb (tb_in hok in_MO) (fun w h => h) hown hK hP 0 rfl rfl 3 (by decide) (hok _ t_708 rfl _) (fun _ h9 => h9) rfl d_MO_group_78 ?_
                refine lv_aload_n hx hb d_MO_group_81 rfl (lv_at hl 0 rfl) ?_
                refine va_get (D := D) (ci := 8) (v := .int (nI G)) (C := R_MO) (T := F_MO) (N := 25) hx hb (tb_in hok in_MO) (fun w h => h) hown hK hP 0 rfl rfl 1 (by decide) (hok _ t_706 rfl _) (fun _ h9 => h9) rfl d_MO_group_82 ?_
                refine lv_iload_n hx hb d_MO_group_85 rfl (lv_at hl 2 rfl) ?_
                refine va_iast hx hb hK hP hD hS 2 0 rfl rfl (vp_in_nI (by omega) (by omega)) d_MO_group_86 (fun H locs hP hD hS => ?_)
                rw [nI_clamp (show G < 2 ^ 31 from by omega)] at hP hD
                have hP : va_P D cls [(h, .inr (8, [.int 0, .int (nI G), .ref (b 0), .ref (b 1), .int (nI C), .ref (b 2), .ref (b 3), .ref (b 4), .ref (b 5), .ref (b 6), .ref (b 7), .ref (b 8), .ref (b 9), .ref (b 10), .ref (b 11), .ref (b 12), .ref (b 13), .ref (b 14), .ref (b 15), .ref (b 16), .ref (b 17), .ref (b 18), .int (zb hs), .ref (b 19), .ref (b 20)])), ((b 0), .inl (cI, 6, .inl (upd pa G x))), ((b 1), .inl (cI, 6, .inl (upd lm G y)))] H := hP
                have hD : va_D A [(h, .inr (8, [.int 0, .int (nI G), .ref (b 0), .ref (b 1), .int (nI C), .ref (b 2), .ref (b 3), .ref (b 4), .ref (b 5), .ref (b 6), .ref (b 7), .ref (b 8), .ref (b 9), .ref (b 10), .ref (b 11), .ref (b 12), .ref (b 13), .ref (b 14), .ref (b 15), .ref (b 16), .ref (b 17), .ref (b 18), .int (zb hs), .ref (b 19), .ref (b 20)])), ((b 0), .inl (cI, 6, .inl (upd pa G x))), ((b 1), .inl (cI, 6, .inl (upd lm G y)))] := hD
                refine lv_aload_n hx hb d_MO_group_87 rfl (lv_at hl 0 rfl) ?_
                refine lv_dup hx hb d_MO_group_88 rfl ?_
                refine va_get (D := D) (ci := 8) (v := .int (nI G)) (C := R_MO) (T := F_MO) (N := 25) hx hb (tb_in hok in_MO) (fun w h => h) hown hK hP 0 rfl rfl 1 (by decide) (hok _ t_706 rfl _) (fun _ h9 => h9) rfl d_MO_group_89 ?_
                refine lv_iconst (v := 1) hx hb d_MO_group_92 (by decide) ?_
                refine lv_iadd hx hb d_MO_group_93 ?_
                refine va_put (D := D) (ci := 8) (v := .int ((nI G) + (1 : Int32))) (ty := .int) (C := R_MO) (T := F_MO) (N := 25) hx hb (tb_in hok in_MO) (fun w h => h) g_MO g_MO_ok n_MO hown hK hP hD hS 0 rfl rfl 1 (by decide) (hok _ t_706 rfl _) (fun _ h9 => h9) rfl (by decide +kernel) rfl rfl (Nat.le_of_ble_eq_true rfl) d_MO_group_94 (fun H locs hP hD hS => ?_)
                have hP : va_P D cls [(h, .inr (8, [.int 0, .int ((nI G) + (1 : Int32)), .ref (b 0), .ref (b 1), .int (nI C), .ref (b 2), .ref (b 3), .ref (b 4), .ref (b 5), .ref (b 6), .ref (b 7), .ref (b 8), .ref (b 9), .ref (b 10), .ref (b 11), .ref (b 12), .ref (b 13), .ref (b 14), .ref (b 15), .ref (b 16), .ref (b 17), .ref (b 18), .int (zb hs), .ref (b 19), .ref (b 20)])), ((b 0), .inl (cI, 6, .inl (upd pa G x))), ((b 1), .inl (cI, 6, .inl (upd lm G y)))] H := hP
                have hD : va_D A [(h, .inr (8, [.int 0, .int ((nI G) + (1 : Int32)), .ref (b 0), .ref (b 1), .int (nI C), .ref (b 2), .ref (b 3), .ref (b 4), .ref (b 5), .ref (b 6), .ref (b 7), .ref (b 8), .ref (b 9), .ref (b 10), .ref (b 11), .ref (b 12), .ref (b 13), .ref (b 14), .ref (b 15), .ref (b 16), .ref (b 17), .ref (b 18), .int (zb hs), .ref (b 19), .ref (b 20)])), ((b 0), .inl (cI, 6, .inl (upd pa G x))), ((b 1), .inl (cI, 6, .inl (upd lm G y)))] := hD
                refine lv_aload_n hx hb d_MO_group_97 rfl (lv_at hl 0 rfl) ?_
                refine va_get (D := D) (ci := 8) (v := .int ((nI G) + (1 : Int32))) (C := R_MO) (T := F_MO) (N := 25) hx hb (tb_in hok in_MO) (fun w h => h) hown hK hP 0 rfl rfl 1 (by decide) (hok _ t_706 rfl _) (fun _ h9 => h9) rfl d_MO_group_98 ?_
                refine lv_iconst (v := 1) hx hb d_MO_group_101 (by decide) ?_
                refine lv_isub hx hb d_MO_group_102 ?_
                have hP : va_P D cls [(h, .inr (8, [.int 0, .int (nI (G + 1)), .ref (b 0), .ref (b 1), .int (nI C), .ref (b 2), .ref (b 3), .ref (b 4), .ref (b 5), .ref (b 6), .ref (b 7), .ref (b 8), .ref (b 9), .ref (b 10), .ref (b 11), .ref (b 12), .ref (b 13), .ref (b 14), .ref (b 15), .ref (b 16), .ref (b 17), .ref (b 18), .int (zb hs), .ref (b 19), .ref (b 20)])), ((b 0), .inl (cI, 6, .inl (upd pa G x))), ((b 1), .inl (cI, 6, .inl (upd lm G y)))] H := by rw [nI_succ G]; exact hP
                have hD : va_D A [(h, .inr (8, [.int 0, .int (nI (G + 1)), .ref (b 0), .ref (b 1), .int (nI C), .ref (b 2), .ref (b 3), .ref (b 4), .ref (b 5), .ref (b 6), .ref (b 7), .ref (b 8), .ref (b 9), .ref (b 10), .ref (b 11), .ref (b 12), .ref (b 13), .ref (b 14), .ref (b 15), .ref (b 16), .ref (b 17), .ref (b 18), .int (zb hs), .ref (b 19), .ref (b 20)])), ((b 0), .inl (cI, 6, .inl (upd pa G x))), ((b 1), .inl (cI, 6, .inl (upd lm G y)))] := by rw [nI_succ G]; exact hD
                refine W.eq (g2 := F0 m 103 ls [.int (nI G)]) (by rw [← nI_succ G, nI_pred]) ?_
                exact W.iret hx hb hr (fun t ht _ => ⟨⟨rfl, by rw [ht]; exact hP, hD⟩, hS.F ht⟩) hS.2.2 d_MO_group_103
              · refine lv_iconst (v := 2) hx hb d_MO_group_50 (by decide) ?_
                refine lv_goto (tgt := 55) hx hb d_MO_group_51 (by decide) ?_
                have e9 : ytg G x y = 2 := by first | (simp [ytg, h3, h11, h16, h22, h35, h40, h47]; done) | exact absurd h3 h40
                exact absurd (ht.symm.trans e9) (by decide)
        · refine lv_iconst (v := 1) hx hb d_MO_group_25 (by decide) ?_
          refine lv_goto (tgt := 55) hx hb d_MO_group_26 (by decide) ?_
          have e9 : ytg G x y = 1 := by first | (simp [ytg, h3, h11, h16, h22]; done)
          exact absurd (ht.symm.trans e9) (by decide)
set_option maxHeartbeats 4000000 in
set_option maxRecDepth 100000 in
theorem m_MO_group_bad (l : Launch) (D : va_G) (cI cJ cZ cP cS : ClassId) (h : Nat) (b : Nat → Nat) (th : Int32) (G C : Nat) (hs : Bool) (x y : Int32) (t : Int32) (ht : ytg G x y = t) (hn : ¬ t = 0) (sz : Nat) : Met l y_MO_group [Cond.code y_MO_group b_MO_group 3 (some .int)] ro_MO_group (va_Pc [.ref h, .int x, .int y] (fun U => U.heap.size = sz ∧ tb_ok U ∧ va_P D cls [(h, .inr (8, [.int th, .int (nI G), .ref (b 0), .ref (b 1), .int (nI C), .ref (b 2), .ref (b 3), .ref (b 4), .ref (b 5), .ref (b 6), .ref (b 7), .ref (b 8), .ref (b 9), .ref (b 10), .ref (b 11), .ref (b 12), .ref (b 13), .ref (b 14), .ref (b 15), .ref (b 16), .ref (b 17), .ref (b 18), .int (zb hs), .ref (b 19), .ref (b 20)]))] U.heap ∧ va_K D cls (tyl cI cJ cZ cP cS) U ∧ va_D (fun _ => True) [(h, .inr (8, [.int th, .int (nI G), .ref (b 0), .ref (b 1), .int (nI C), .ref (b 2), .ref (b 3), .ref (b 4), .ref (b 5), .ref (b 6), .ref (b 7), .ref (b 8), .ref (b 9), .ref (b 10), .ref (b 11), .ref (b 12), .ref (b 13), .ref (b 14), .ref (b 15), .ref (b 16), .ref (b 17), .ref (b 18), .int (zb hs), .ref (b 19), .ref (b 20)]))])) (zv (some (.int 0)) D [(h, .inr (8, [.int t, .int (nI G), .ref (b 0), .ref (b 1), .int (nI C), .ref (b 2), .ref (b 3), .ref (b 4), .ref (b 5), .ref (b 6), .ref (b 7), .ref (b 8), .ref (b 9), .ref (b 10), .ref (b 11), .ref (b 12), .ref (b 13), .ref (b 14), .ref (b 15), .ref (b 16), .ref (b 17), .ref (b 18), .int (zb hs), .ref (b 19), .ref (b 20)]))] (va_A [(h, .inr (8, [.int th, .int (nI G), .ref (b 0), .ref (b 1), .int (nI C), .ref (b 2), .ref (b 3), .ref (b 4), .ref (b 5), .ref (b 6), .ref (b 7), .ref (b 8), .ref (b 9), .ref (b 10), .ref (b 11), .ref (b 12), .ref (b 13), .ref (b 14), .ref (b 15), .ref (b 16), .ref (b 17), .ref (b 18), .int (zb hs), .ref (b 19), .ref (b 20)]))] sz)) 0 0 (va_A [(h, .inr (8, [.int th, .int (nI G), .ref (b 0), .ref (b 1), .int (nI C), .ref (b 2), .ref (b 3), .ref (b 4), .ref (b 5), .ref (b 6), .ref (b 7), .ref (b 8), .ref (b 9), .ref (b 10), .ref (b 11), .ref (b 12), .ref (b 13), .ref (b 14), .ref (b 15), .ref (b 16), .ref (b 17), .ref (b 18), .int (zb hs), .ref (b 19), .ref (b 20)]))] sz) := by
  refine Met.ofW (cc := b_MO_group) (maxL := 3) (ret := (some .int)) (by decide +kernel) rfl ?_
  intro p e s m args below meth c s₁ B hml hv
  obtain ⟨rfl, hsz, hok, hP, hK, hD0⟩ := hv
  have hx := B.exec
  have hb := B.bytes
  have hr := B.returns
  have hown : s.vm.findClass "StudyAuditModel" = some m.cls := findClass_of_methodNamed B.named
  have hlocks := B.notSynchronized
  subst hsz
  have hD := hD0.self (sz := s.heap.size)
  generalize hAe : va_A [(h, .inr (8, [.int th, .int (nI G), .ref (b 0), .ref (b 1), .int (nI C), .ref (b 2), .ref (b 3), .ref (b 4), .ref (b 5), .ref (b 6), .ref (b 7), .ref (b 8), .ref (b 9), .ref (b 10), .ref (b 11), .ref (b 12), .ref (b 13), .ref (b 14), .ref (b 15), .ref (b 16), .ref (b 17), .ref (b 18), .int (zb hs), .ref (b 19), .ref (b 20)]))] s.heap.size = A at hD ⊢
  have hA : ∀ q : Nat, s.heap.size ≤ q → A q := fun q h => by rw [← hAe]; exact Or.inr h
  have hS : va_S A s.heap s.heap [] := va_S.rf
  have hl := lv_entry ([.ref h, .int x, .int y]) (n := 3) (Nat.le_of_ble_eq_true rfl)
  rw [lg_entry_eq]
  generalize (lg_sl ([.ref h, .int x, .int y]) ++ List.replicate (3 - (lg_sl ([.ref h, .int x, .int y])).length) Slot.unset).toArray = ls at hl ⊢
  have hl : lv_has ls 3 [(0, .ref h), (1, .int x), (2, .int y)] := hl
  refine lv_aload_n hx hb d_MO_group_0 rfl (lv_at hl 0 rfl) ?_
  refine lv_iload_n hx hb d_MO_group_1 rfl (lv_at hl 1 rfl) ?_
  refine lv_iconst (v := (-1)) hx hb d_MO_group_2 (by decide) ?_
  refine lv_icmp_eq (tgt := 14) hx hb d_MO_group_3 (by decide) (fun h3 => ?_) (fun h3 => ?_)
  · refine lv_iload_n hx hb d_MO_group_14 rfl (lv_at hl 2 rfl) ?_
    refine lv_iconst (v := (-1)) hx hb d_MO_group_15 (by decide) ?_
    refine lv_icmp_lt (tgt := 25) hx hb d_MO_group_16 (by decide) (fun h16 => ?_) (fun h16 => ?_)
    · refine lv_iconst (v := 1) hx hb d_MO_group_25 (by decide) ?_
      refine lv_goto (tgt := 55) hx hb d_MO_group_26 (by decide) ?_
      have e9 : ytg G x y = 1 := by first | (simp [ytg, h3, h16]; done)
      obtain rfl : t = 1 := ht.symm.trans e9
      refine va_put (D := D) (ci := 8) (v := .int 1) (ty := .int) (C := R_MO) (T := F_MO) (N := 25) hx hb (tb_in hok in_MO) (fun w h => h) g_MO g_MO_ok n_MO hown hK hP hD hS 0 rfl rfl 0 (by decide) (hok _ t_705 rfl _) (fun _ h9 => h9) rfl (by decide +kernel) rfl rfl (Nat.le_of_ble_eq_true rfl) d_MO_group_55 (fun H locs hP hD hS => ?_)
      have hP : va_P D cls [(h, .inr (8, [.int 1, .int (nI G), .ref (b 0), .ref (b 1), .int (nI C), .ref (b 2), .ref (b 3), .ref (b 4), .ref (b 5), .ref (b 6), .ref (b 7), .ref (b 8), .ref (b 9), .ref (b 10), .ref (b 11), .ref (b 12), .ref (b 13), .ref (b 14), .ref (b 15), .ref (b 16), .ref (b 17), .ref (b 18), .int (zb hs), .ref (b 19), .ref (b 20)]))] H := hP
      have hD : va_D A [(h, .inr (8, [.int 1, .int (nI G), .ref (b 0), .ref (b 1), .int (nI C), .ref (b 2), .ref (b 3), .ref (b 4), .ref (b 5), .ref (b 6), .ref (b 7), .ref (b 8), .ref (b 9), .ref (b 10), .ref (b 11), .ref (b 12), .ref (b 13), .ref (b 14), .ref (b 15), .ref (b 16), .ref (b 17), .ref (b 18), .int (zb hs), .ref (b 19), .ref (b 20)]))] := hD
      refine lv_aload_n hx hb d_MO_group_58 rfl (lv_at hl 0 rfl) ?_
      refine va_get (D := D) (ci := 8) (v := .int 1) (C := R_MO) (T := F_MO) (N := 25) hx hb (tb_in hok in_MO) (fun w h => h) hown hK hP 0 rfl rfl 0 (by decide) (hok _ t_705 rfl _) (fun _ h9 => h9) rfl d_MO_group_59 ?_
      refine lv_if_le (tgt := 67) hx hb d_MO_group_62 (by decide) (fun h62 => absurd h62 (show ¬ (1 : Int32) ≤ 0 by decide)) (fun h62 => ?_)
      refine lv_iconst (v := 0) hx hb d_MO_group_65 (by decide) ?_
      exact W.iret hx hb hr (fun t ht _ => ⟨⟨rfl, by rw [ht]; exact hP, hD⟩, hS.F ht⟩) hS.2.2 d_MO_group_66
    · refine lv_iload_n hx hb d_MO_group_19 rfl (lv_at hl 2 rfl) ?_
      refine lv_bipush (v := 12) hx hb d_MO_group_20 (by decide) ?_
      refine lv_icmp_le (tgt := 29) hx hb d_MO_group_22 (by decide) (fun h22 => ?_) (fun h22 => ?_)
      · refine lv_aload_n hx hb d_MO_group_29 rfl (lv_at hl 0 rfl) ?_
        refine va_get (D := D) (ci := 8) (v := .int (nI G)) (C := R_MO) (T := F_MO) (N := 25) hx hb (tb_in hok in_MO) (fun w h => h) hown hK hP 0 rfl rfl 1 (by decide) (hok _ t_706 rfl _) (fun _ h9 => h9) rfl d_MO_group_30 ?_
        refine lv_bipush (v := 6) hx hb d_MO_group_33 (by decide) ?_
        refine lv_icmp_eq (tgt := 50) hx hb d_MO_group_35 (by decide) (fun h35 => ?_) (fun h35 => ?_)
        · refine lv_iconst (v := 2) hx hb d_MO_group_50 (by decide) ?_
          refine lv_goto (tgt := 55) hx hb d_MO_group_51 (by decide) ?_
          have e9 : ytg G x y = 2 := by first | (simp [ytg, h3, h16, h22, h35]; done)
          obtain rfl : t = 2 := ht.symm.trans e9
          refine va_put (D := D) (ci := 8) (v := .int 2) (ty := .int) (C := R_MO) (T := F_MO) (N := 25) hx hb (tb_in hok in_MO) (fun w h => h) g_MO g_MO_ok n_MO hown hK hP hD hS 0 rfl rfl 0 (by decide) (hok _ t_705 rfl _) (fun _ h9 => h9) rfl (by decide +kernel) rfl rfl (Nat.le_of_ble_eq_true rfl) d_MO_group_55 (fun H locs hP hD hS => ?_)
          have hP : va_P D cls [(h, .inr (8, [.int 2, .int (nI G), .ref (b 0), .ref (b 1), .int (nI C), .ref (b 2), .ref (b 3), .ref (b 4), .ref (b 5), .ref (b 6), .ref (b 7), .ref (b 8), .ref (b 9), .ref (b 10), .ref (b 11), .ref (b 12), .ref (b 13), .ref (b 14), .ref (b 15), .ref (b 16), .ref (b 17), .ref (b 18), .int (zb hs), .ref (b 19), .ref (b 20)]))] H := hP
          have hD : va_D A [(h, .inr (8, [.int 2, .int (nI G), .ref (b 0), .ref (b 1), .int (nI C), .ref (b 2), .ref (b 3), .ref (b 4), .ref (b 5), .ref (b 6), .ref (b 7), .ref (b 8), .ref (b 9), .ref (b 10), .ref (b 11), .ref (b 12), .ref (b 13), .ref (b 14), .ref (b 15), .ref (b 16), .ref (b 17), .ref (b 18), .int (zb hs), .ref (b 19), .ref (b 20)]))] := hD
          refine lv_aload_n hx hb d_MO_group_58 rfl (lv_at hl 0 rfl) ?_
          refine va_get (D := D) (ci := 8) (v := .int 2) (C := R_MO) (T := F_MO) (N := 25) hx hb (tb_in hok in_MO) (fun w h => h) hown hK hP 0 rfl rfl 0 (by decide) (hok _ t_705 rfl _) (fun _ h9 => h9) rfl d_MO_group_59 ?_
          refine lv_if_le (tgt := 67) hx hb d_MO_group_62 (by decide) (fun h62 => absurd h62 (show ¬ (2 : Int32) ≤ 0 by decide)) (fun h62 => ?_)
          refine lv_iconst (v := 0) hx hb d_MO_group_65 (by decide) ?_
          exact W.iret hx hb hr (fun t ht _ => ⟨⟨rfl, by rw [ht]; exact hP, hD⟩, hS.F ht⟩) hS.2.2 d_MO_group_66
        · refine lv_iload_n hx hb d_MO_group_38 rfl (lv_at hl 1 rfl) ?_
          refine lv_iconst (v := (-1)) hx hb d_MO_group_39 (by decide) ?_
          refine lv_icmp_ne (tgt := 54) hx hb d_MO_group_40 (by decide) (fun h40 => ?_) (fun h40 => ?_)
          · refine lv_iconst (v := 0) hx hb d_MO_group_54 (by decide) ?_
            have e9 : ytg G x y = 0 := by first | (simp [ytg, h3, h16, h22, h35, h40]; done) | exact absurd h3 h40
            exact absurd (ht.symm.trans e9) hn
          · refine lv_aload_n hx hb d_MO_group_43 rfl (lv_at hl 0 rfl) ?_
            refine va_get (D := D) (ci := 8) (v := .int (nI G)) (C := R_MO) (T := F_MO) (N := 25) hx hb (tb_in hok in_MO) (fun w h => h) hown hK hP 0 rfl rfl 1 (by decide) (hok _ t_706 rfl _) (fun _ h9 => h9) rfl d_MO_group_44 ?_
            refine lv_if_le (tgt := 54) hx hb d_MO_group_47 (by decide) (fun h47 => ?_) (fun h47 => ?_)
            · refine lv_iconst (v := 0) hx hb d_MO_group_54 (by decide) ?_
              have e9 : ytg G x y = 0 := by first | (simp [ytg, h3, h16, h22, h35, h40, h47]; done) | exact absurd h3 h40
              exact absurd (ht.symm.trans e9) hn
            · refine lv_iconst (v := 2) hx hb d_MO_group_50 (by decide) ?_
              refine lv_goto (tgt := 55) hx hb d_MO_group_51 (by decide) ?_
              have e9 : ytg G x y = 2 := by first | (simp [ytg, h3, h16, h22, h35, h40, h47]; done) | exact absurd h3 h40
              obtain rfl : t = 2 := ht.symm.trans e9
              refine va_put (D := D) (ci := 8) (v := .int 2) (ty := .int) (C := R_MO) (T := F_MO) (N := 25) hx hb (tb_in hok in_MO) (fun w h => h) g_MO g_MO_ok n_MO hown hK hP hD hS 0 rfl rfl 0 (by decide) (hok _ t_705 rfl _) (fun _ h9 => h9) rfl (by decide +kernel) rfl rfl (Nat.le_of_ble_eq_true rfl) d_MO_group_55 (fun H locs hP hD hS => ?_)
              have hP : va_P D cls [(h, .inr (8, [.int 2, .int (nI G), .ref (b 0), .ref (b 1), .int (nI C), .ref (b 2), .ref (b 3), .ref (b 4), .ref (b 5), .ref (b 6), .ref (b 7), .ref (b 8), .ref (b 9), .ref (b 10), .ref (b 11), .ref (b 12), .ref (b 13), .ref (b 14), .ref (b 15), .ref (b 16), .ref (b 17), .ref (b 18), .int (zb hs), .ref (b 19), .ref (b 20)]))] H := hP
              have hD : va_D A [(h, .inr (8, [.int 2, .int (nI G), .ref (b 0), .ref (b 1), .int (nI C), .ref (b 2), .ref (b 3), .ref (b 4), .ref (b 5), .ref (b 6), .ref (b 7), .ref (b 8), .ref (b 9), .ref (b 10), .ref (b 11), .ref (b 12), .ref (b 13), .ref (b 14), .ref (b 15), .ref (b 16), .ref (b 17), .ref (b 18), .int (zb hs), .ref (b 19), .ref (b 20)]))] := hD
              refine lv_aload_n hx hb d_MO_group_58 rfl (lv_at hl 0 rfl) ?_
              refine va_get (D := D) (ci := 8) (v := .int 2) (C := R_MO) (T := F_MO) (N := 25) hx hb (tb_in hok in_MO) (fun w h => h) hown hK hP 0 rfl rfl 0 (by decide) (hok _ t_705 rfl _) (fun _ h9 => h9) rfl d_MO_group_59 ?_
              refine lv_if_le (tgt := 67) hx hb d_MO_group_62 (by decide) (fun h62 => absurd h62 (show ¬ (2 : Int32) ≤ 0 by decide)) (fun h62 => ?_)
              refine lv_iconst (v := 0) hx hb d_MO_group_65 (by decide) ?_
              exact W.iret hx hb hr (fun t ht _ => ⟨⟨rfl, by rw [ht]; exact hP, hD⟩, hS.F ht⟩) hS.2.2 d_MO_group_66
      · refine lv_iconst (v := 1) hx hb d_MO_group_25 (by decide) ?_
        refine lv_goto (tgt := 55) hx hb d_MO_group_26 (by decide) ?_
        have e9 : ytg G x y = 1 := by first | (simp [ytg, h3, h16, h22]; done)
        obtain rfl : t = 1 := ht.symm.trans e9
        refine va_put (D := D) (ci := 8) (v := .int 1) (ty := .int) (C := R_MO) (T := F_MO) (N := 25) hx hb (tb_in hok in_MO) (fun w h => h) g_MO g_MO_ok n_MO hown hK hP hD hS 0 rfl rfl 0 (by decide) (hok _ t_705 rfl _) (fun _ h9 => h9) rfl (by decide +kernel) rfl rfl (Nat.le_of_ble_eq_true rfl) d_MO_group_55 (fun H locs hP hD hS => ?_)
        have hP : va_P D cls [(h, .inr (8, [.int 1, .int (nI G), .ref (b 0), .ref (b 1), .int (nI C), .ref (b 2), .ref (b 3), .ref (b 4), .ref (b 5), .ref (b 6), .ref (b 7), .ref (b 8), .ref (b 9), .ref (b 10), .ref (b 11), .ref (b 12), .ref (b 13), .ref (b 14), .ref (b 15), .ref (b 16), .ref (b 17), .ref (b 18), .int (zb hs), .ref (b 19), .ref (b 20)]))] H := hP
        have hD : va_D A [(h, .inr (8, [.int 1, .int (nI G), .ref (b 0), .ref (b 1), .int (nI C), .ref (b 2), .ref (b 3), .ref (b 4), .ref (b 5), .ref (b 6), .ref (b 7), .ref (b 8), .ref (b 9), .ref (b 10), .ref (b 11), .ref (b 12), .ref (b 13), .ref (b 14), .ref (b 15), .ref (b 16), .ref (b 17), .ref (b 18), .int (zb hs), .ref (b 19), .ref (b 20)]))] := hD
        refine lv_aload_n hx hb d_MO_group_58 rfl (lv_at hl 0 rfl) ?_
        refine va_get (D := D) (ci := 8) (v := .int 1) (C := R_MO) (T := F_MO) (N := 25) hx hb (tb_in hok in_MO) (fun w h => h) hown hK hP 0 rfl rfl 0 (by decide) (hok _ t_705 rfl _) (fun _ h9 => h9) rfl d_MO_group_59 ?_
        refine lv_if_le (tgt := 67) hx hb d_MO_group_62 (by decide) (fun h62 => absurd h62 (show ¬ (1 : Int32) ≤ 0 by decide)) (fun h62 => ?_)
        refine lv_iconst (v := 0) hx hb d_MO_group_65 (by decide) ?_
        exact W.iret hx hb hr (fun t ht _ => ⟨⟨rfl, by rw [ht]; exact hP, hD⟩, hS.F ht⟩) hS.2.2 d_MO_group_66
  · refine lv_aload_n hx hb d_MO_group_6 rfl (lv_at hl 0 rfl) ?_
    refine lv_iload_n hx hb d_MO_group_7 rfl (lv_at hl 1 rfl) ?_
    refine zc_read (va_runV (Ts := []) (As := [.int x]) (rest := [.ref h]) ⟨hx, hb, hml, hown, fun _ h => absurd h List.not_mem_nil⟩ (m_MO_noGroup l D cI cJ cZ cP cS h b th G C hs x) ⟨zc_B 1 hok c_MO_noGroup_w t_10 t_790 rfl rfl (by decide +kernel) ⟨Nat.le_of_ble_eq_true rfl, Nat.le_of_ble_eq_true rfl⟩, hok _ t_792 rfl _, hok _ s_19 rfl _⟩ ⟨fun a U g mk q => by obtain ⟨q0, q2, qP, qK⟩ := q; exact ⟨q0, q2.call g mk a, qP, va_K.moved (u := U) (U := U.calling g mk a) (Vm.Alike.refl U.vm) qK⟩, va_recv hK hP (ci := 8) (q0 := 0) rfl rfl, fun U hU hW => ⟨rfl, hok.warm hW, by rw [hU]; exact hP.sub [0] rfl, va_K.moved hW.alike hK⟩⟩ rfl rfl hl.1 rfl (lv_room (Nat.le_of_ble_eq_true rfl)) d_MO_group_8 ⟨Nat.le_of_ble_eq_true rfl, Nat.le_of_ble_eq_true rfl⟩) ?_
    refine W.eq (g2 := F0 m 11 ls [.int (zb (yng G x)), .ref h]) rfl ?_
    refine lv_if_ne (tgt := 25) hx hb d_MO_group_11 (by decide) (fun h11 => ?_) (fun h11 => ?_)
    · refine lv_iconst (v := 1) hx hb d_MO_group_25 (by decide) ?_
      refine lv_goto (tgt := 55) hx hb d_MO_group_26 (by decide) ?_
      have e9 : ytg G x y = 1 := by first | (simp [ytg, h3, h11]; done)
      obtain rfl : t = 1 := ht.symm.trans e9
      refine va_put (D := D) (ci := 8) (v := .int 1) (ty := .int) (C := R_MO) (T := F_MO) (N := 25) hx hb (tb_in hok in_MO) (fun w h => h) g_MO g_MO_ok n_MO hown hK hP hD hS 0 rfl rfl 0 (by decide) (hok _ t_705 rfl _) (fun _ h9 => h9) rfl (by decide +kernel) rfl rfl (Nat.le_of_ble_eq_true rfl) d_MO_group_55 (fun H locs hP hD hS => ?_)
      have hP : va_P D cls [(h, .inr (8, [.int 1, .int (nI G), .ref (b 0), .ref (b 1), .int (nI C), .ref (b 2), .ref (b 3), .ref (b 4), .ref (b 5), .ref (b 6), .ref (b 7), .ref (b 8), .ref (b 9), .ref (b 10), .ref (b 11), .ref (b 12), .ref (b 13), .ref (b 14), .ref (b 15), .ref (b 16), .ref (b 17), .ref (b 18), .int (zb hs), .ref (b 19), .ref (b 20)]))] H := hP
      have hD : va_D A [(h, .inr (8, [.int 1, .int (nI G), .ref (b 0), .ref (b 1), .int (nI C), .ref (b 2), .ref (b 3), .ref (b 4), .ref (b 5), .ref (b 6), .ref (b 7), .ref (b 8), .ref (b 9), .ref (b 10), .ref (b 11), .ref (b 12), .ref (b 13), .ref (b 14), .ref (b 15), .ref (b 16), .ref (b 17), .ref (b 18), .int (zb hs), .ref (b 19), .ref (b 20)]))] := hD
      refine lv_aload_n hx hb d_MO_group_58 rfl (lv_at hl 0 rfl) ?_
      refine va_get (D := D) (ci := 8) (v := .int 1) (C := R_MO) (T := F_MO) (N := 25) hx hb (tb_in hok in_MO) (fun w h => h) hown hK hP 0 rfl rfl 0 (by decide) (hok _ t_705 rfl _) (fun _ h9 => h9) rfl d_MO_group_59 ?_
      refine lv_if_le (tgt := 67) hx hb d_MO_group_62 (by decide) (fun h62 => absurd h62 (show ¬ (1 : Int32) ≤ 0 by decide)) (fun h62 => ?_)
      refine lv_iconst (v := 0) hx hb d_MO_group_65 (by decide) ?_
      exact W.iret hx hb hr (fun t ht _ => ⟨⟨rfl, by rw [ht]; exact hP, hD⟩, hS.F ht⟩) hS.2.2 d_MO_group_66
    · refine lv_iload_n hx hb d_MO_group_14 rfl (lv_at hl 2 rfl) ?_
      refine lv_iconst (v := (-1)) hx hb d_MO_group_15 (by decide) ?_
      refine lv_icmp_lt (tgt := 25) hx hb d_MO_group_16 (by decide) (fun h16 => ?_) (fun h16 => ?_)
      · refine lv_iconst (v := 1) hx hb d_MO_group_25 (by decide) ?_
        refine lv_goto (tgt := 55) hx hb d_MO_group_26 (by decide) ?_
        have e9 : ytg G x y = 1 := by first | (simp [ytg, h3, h11, h16]; done)
        obtain rfl : t = 1 := ht.symm.trans e9
        refine va_put (D := D) (ci := 8) (v := .int 1) (ty := .int) (C := R_MO) (T := F_MO) (N := 25) hx hb (tb_in hok in_MO) (fun w h => h) g_MO g_MO_ok n_MO hown hK hP hD hS 0 rfl rfl 0 (by decide) (hok _ t_705 rfl _) (fun _ h9 => h9) rfl (by decide +kernel) rfl rfl (Nat.le_of_ble_eq_true rfl) d_MO_group_55 (fun H locs hP hD hS => ?_)
        have hP : va_P D cls [(h, .inr (8, [.int 1, .int (nI G), .ref (b 0), .ref (b 1), .int (nI C), .ref (b 2), .ref (b 3), .ref (b 4), .ref (b 5), .ref (b 6), .ref (b 7), .ref (b 8), .ref (b 9), .ref (b 10), .ref (b 11), .ref (b 12), .ref (b 13), .ref (b 14), .ref (b 15), .ref (b 16), .ref (b 17), .ref (b 18), .int (zb hs), .ref (b 19), .ref (b 20)]))] H := hP
        have hD : va_D A [(h, .inr (8, [.int 1, .int (nI G), .ref (b 0), .ref (b 1), .int (nI C), .ref (b 2), .ref (b 3), .ref (b 4), .ref (b 5), .ref (b 6), .ref (b 7), .ref (b 8), .ref (b 9), .ref (b 10), .ref (b 11), .ref (b 12), .ref (b 13), .ref (b 14), .ref (b 15), .ref (b 16), .ref (b 17), .ref (b 18), .int (zb hs), .ref (b 19), .ref (b 20)]))] := hD
        refine lv_aload_n hx hb d_MO_group_58 rfl (lv_at hl 0 rfl) ?_
        refine va_get (D := D) (ci := 8) (v := .int 1) (C := R_MO) (T := F_MO) (N := 25) hx hb (tb_in hok in_MO) (fun w h => h) hown hK hP 0 rfl rfl 0 (by decide) (hok _ t_705 rfl _) (fun _ h9 => h9) rfl d_MO_group_59 ?_
        refine lv_if_le (tgt := 67) hx hb d_MO_group_62 (by decide) (fun h62 => absurd h62 (show ¬ (1 : Int32) ≤ 0 by decide)) (fun h62 => ?_)
        refine lv_iconst (v := 0) hx hb d_MO_group_65 (by decide) ?_
        exact W.iret hx hb hr (fun t ht _ => ⟨⟨rfl, by rw [ht]; exact hP, hD⟩, hS.F ht⟩) hS.2.2 d_MO_group_66
      · refine lv_iload_n hx hb d_MO_group_19 rfl (lv_at hl 2 rfl) ?_
        refine lv_bipush (v := 12) hx hb d_MO_group_20 (by decide) ?_
        refine lv_icmp_le (tgt := 29) hx hb d_MO_group_22 (by decide) (fun h22 => ?_) (fun h22 => ?_)
        · refine lv_aload_n hx hb d_MO_group_29 rfl (lv_at hl 0 rfl) ?_
          refine va_get (D := D) (ci := 8) (v := .int (nI G)) (C := R_MO) (T := F_MO) (N := 25) hx hb (tb_in hok in_MO) (fun w h => h) hown hK hP 0 rfl rfl 1 (by decide) (hok _ t_706 rfl _) (fun _ h9 => h9) rfl d_MO_group_30 ?_
          refine lv_bipush (v := 6) hx hb d_MO_group_33 (by decide) ?_
          refine lv_icmp_eq (tgt := 50) hx hb d_MO_group_35 (by decide) (fun h35 => ?_) (fun h35 => ?_)
          · refine lv_iconst (v := 2) hx hb d_MO_group_50 (by decide) ?_
            refine lv_goto (tgt := 55) hx hb d_MO_group_51 (by decide) ?_
            have e9 : ytg G x y = 2 := by first | (simp [ytg, h3, h11, h16, h22, h35]; done)
            obtain rfl : t = 2 := ht.symm.trans e9
            refine va_put (D := D) (ci := 8) (v := .int 2) (ty := .int) (C := R_MO) (T := F_MO) (N := 25) hx hb (tb_in hok in_MO) (fun w h => h) g_MO g_MO_ok n_MO hown hK hP hD hS 0 rfl rfl 0 (by decide) (hok _ t_705 rfl _) (fun _ h9 => h9) rfl (by decide +kernel) rfl rfl (Nat.le_of_ble_eq_true rfl) d_MO_group_55 (fun H locs hP hD hS => ?_)
            have hP : va_P D cls [(h, .inr (8, [.int 2, .int (nI G), .ref (b 0), .ref (b 1), .int (nI C), .ref (b 2), .ref (b 3), .ref (b 4), .ref (b 5), .ref (b 6), .ref (b 7), .ref (b 8), .ref (b 9), .ref (b 10), .ref (b 11), .ref (b 12), .ref (b 13), .ref (b 14), .ref (b 15), .ref (b 16), .ref (b 17), .ref (b 18), .int (zb hs), .ref (b 19), .ref (b 20)]))] H := hP
            have hD : va_D A [(h, .inr (8, [.int 2, .int (nI G), .ref (b 0), .ref (b 1), .int (nI C), .ref (b 2), .ref (b 3), .ref (b 4), .ref (b 5), .ref (b 6), .ref (b 7), .ref (b 8), .ref (b 9), .ref (b 10), .ref (b 11), .ref (b 12), .ref (b 13), .ref (b 14), .ref (b 15), .ref (b 16), .ref (b 17), .ref (b 18), .int (zb hs), .ref (b 19), .ref (b 20)]))] := hD
            refine lv_aload_n hx hb d_MO_group_58 rfl (lv_at hl 0 rfl) ?_
            refine va_get (D := D) (ci := 8) (v := .int 2) (C := R_MO) (T := F_MO) (N := 25) hx hb (tb_in hok in_MO) (fun w h => h) hown hK hP 0 rfl rfl 0 (by decide) (hok _ t_705 rfl _) (fun _ h9 => h9) rfl d_MO_group_59 ?_
            refine lv_if_le (tgt := 67) hx hb d_MO_group_62 (by decide) (fun h62 => absurd h62 (show ¬ (2 : Int32) ≤ 0 by decide)) (fun h62 => ?_)
            refine lv_iconst (v := 0) hx hb d_MO_group_65 (by decide) ?_
            exact W.iret hx hb hr (fun t ht _ => ⟨⟨rfl, by rw [ht]; exact hP, hD⟩, hS.F ht⟩) hS.2.2 d_MO_group_66
          · refine lv_iload_n hx hb d_MO_group_38 rfl (lv_at hl 1 rfl) ?_
            refine lv_iconst (v := (-1)) hx hb d_MO_group_39 (by decide) ?_
            refine lv_icmp_ne (tgt := 54) hx hb d_MO_group_40 (by decide) (fun h40 => ?_) (fun h40 => ?_)
            · refine lv_iconst (v := 0) hx hb d_MO_group_54 (by decide) ?_
              have e9 : ytg G x y = 0 := by first | (simp [ytg, h3, h11, h16, h22, h35, h40]; done) | exact absurd h3 h40
              exact absurd (ht.symm.trans e9) hn
            · refine lv_aload_n hx hb d_MO_group_43 rfl (lv_at hl 0 rfl) ?_
              refine va_get (D := D) (ci := 8) (v := .int (nI G)) (C := R_MO) (T := F_MO) (N := 25) hx hb (tb_in hok in_MO) (fun w h => h) hown hK hP 0 rfl rfl 1 (by decide) (hok _ t_706 rfl _) (fun _ h9 => h9) rfl d_MO_group_44 ?_
              refine lv_if_le (tgt := 54) hx hb d_MO_group_47 (by decide) (fun h47 => ?_) (fun h47 => ?_)
              · refine lv_iconst (v := 0) hx hb d_MO_group_54 (by decide) ?_
                have e9 : ytg G x y = 0 := by first | (simp [ytg, h3, h11, h16, h22, h35, h40, h47]; done) | exact absurd h3 h40
                exact absurd (ht.symm.trans e9) hn
              · refine lv_iconst (v := 2) hx hb d_MO_group_50 (by decide) ?_
                refine lv_goto (tgt := 55) hx hb d_MO_group_51 (by decide) ?_
                have e9 : ytg G x y = 2 := by first | (simp [ytg, h3, h11, h16, h22, h35, h40, h47]; done) | exact absurd h3 h40
                obtain rfl : t = 2 := ht.symm.trans e9
                refine va_put (D := D) (ci := 8) (v := .int 2) (ty := .int) (C := R_MO) (T := F_MO) (N := 25) hx hb (tb_in hok in_MO) (fun w h => h) g_MO g_MO_ok n_MO hown hK hP hD hS 0 rfl rfl 0 (by decide) (hok _ t_705 rfl _) (fun _ h9 => h9) rfl (by decide +kernel) rfl rfl (Nat.le_of_ble_eq_true rfl) d_MO_group_55 (fun H locs hP hD hS => ?_)
                have hP : va_P D cls [(h, .inr (8, [.int 2, .int (nI G), .ref (b 0), .ref (b 1), .int (nI C), .ref (b 2), .ref (b 3), .ref (b 4), .ref (b 5), .ref (b 6), .ref (b 7), .ref (b 8), .ref (b 9), .ref (b 10), .ref (b 11), .ref (b 12), .ref (b 13), .ref (b 14), .ref (b 15), .ref (b 16), .ref (b 17), .ref (b 18), .int (zb hs), .ref (b 19), .ref (b 20)]))] H := hP
                have hD : va_D A [(h, .inr (8, [.int 2, .int (nI G), .ref (b 0), .ref (b 1), .int (nI C), .ref (b 2), .ref (b 3), .ref (b 4), .ref (b 5), .ref (b 6), .ref (b 7), .ref (b 8), .ref (b 9), .ref (b 10), .ref (b 11), .ref (b 12), .ref (b 13), .ref (b 14), .ref (b 15), .ref (b 16), .ref (b 17), .ref (b 18), .int (zb hs), .ref (b 19), .ref (b 20)]))] := hD
                refine lv_aload_n hx hb d_MO_group_58 rfl (lv_at hl 0 rfl) ?_
                refine va_get (D := D) (ci := 8) (v := .int 2) (C := R_MO) (T := F_MO) (N := 25) hx hb (tb_in hok in_MO) (fun w h => h) hown hK hP 0 rfl rfl 0 (by decide) (hok _ t_705 rfl _) (fun _ h9 => h9) rfl d_MO_group_59 ?_
                refine lv_if_le (tgt := 67) hx hb d_MO_group_62 (by decide) (fun h62 => absurd h62 (show ¬ (2 : Int32) ≤ 0 by decide)) (fun h62 => ?_)
                refine lv_iconst (v := 0) hx hb d_MO_group_65 (by decide) ?_
                exact W.iret hx hb hr (fun t ht _ => ⟨⟨rfl, by rw [ht]; exact hP, hD⟩, hS.F ht⟩) hS.2.2 d_MO_group_66
        · refine lv_iconst (v := 1) hx hb d_MO_group_25 (by decide) ?_
          refine lv_goto (tgt := 55) hx hb d_MO_group_26 (by decide) ?_
          have e9 : ytg G x y = 1 := by first | (simp [ytg, h3, h11, h16, h22]; done)
          obtain rfl : t = 1 := ht.symm.trans e9
          refine va_put (D := D) (ci := 8) (v := .int 1) (ty := .int) (C := R_MO) (T := F_MO) (N := 25) hx hb (tb_in hok in_MO) (fun w h => h) g_MO g_MO_ok n_MO hown hK hP hD hS 0 rfl rfl 0 (by decide) (hok _ t_705 rfl _) (fun _ h9 => h9) rfl (by decide +kernel) rfl rfl (Nat.le_of_ble_eq_true rfl) d_MO_group_55 (fun H locs hP hD hS => ?_)
          have hP : va_P D cls [(h, .inr (8, [.int 1, .int (nI G), .ref (b 0), .ref (b 1), .int (nI C), .ref (b 2), .ref (b 3), .ref (b 4), .ref (b 5), .ref (b 6), .ref (b 7), .ref (b 8), .ref (b 9), .ref (b 10), .ref (b 11), .ref (b 12), .ref (b 13), .ref (b 14), .ref (b 15), .ref (b 16), .ref (b 17), .ref (b 18), .int (zb hs), .ref (b 19), .ref (b 20)]))] H := hP
          have hD : va_D A [(h, .inr (8, [.int 1, .int (nI G), .ref (b 0), .ref (b 1), .int (nI C), .ref (b 2), .ref (b 3), .ref (b 4), .ref (b 5), .ref (b 6), .ref (b 7), .ref (b 8), .ref (b 9), .ref (b 10), .ref (b 11), .ref (b 12), .ref (b 13), .ref (b 14), .ref (b 15), .ref (b 16), .ref (b 17), .ref (b 18), .int (zb hs), .ref (b 19), .ref (b 20)]))] := hD
          refine lv_aload_n hx hb d_MO_group_58 rfl (lv_at hl 0 rfl) ?_
          refine va_get (D := D) (ci := 8) (v := .int 1) (C := R_MO) (T := F_MO) (N := 25) hx hb (tb_in hok in_MO) (fun w h => h) hown hK hP 0 rfl rfl 0 (by decide) (hok _ t_705 rfl _) (fun _ h9 => h9) rfl d_MO_group_59 ?_
          refine lv_if_le (tgt := 67) hx hb d_MO_group_62 (by decide) (fun h62 => absurd h62 (show ¬ (1 : Int32) ≤ 0 by decide)) (fun h62 => ?_)
          refine lv_iconst (v := 0) hx hb d_MO_group_65 (by decide) ?_
          exact W.iret hx hb hr (fun t ht _ => ⟨⟨rfl, by rw [ht]; exact hP, hD⟩, hS.F ht⟩) hS.2.2 d_MO_group_66
def ytc (G C : Nat) (x : Int32) : Int32 := if zb (yng G x) = 0 then (if nI C = 12 then 2 else 0) else 1
abbrev ro_MO_course : Room := { frames := 1, cells := 0, slots := 0, locals := 21 }
set_option maxHeartbeats 4000000 in
set_option maxRecDepth 100000 in
theorem m_MO_course_ok (l : Launch) (D : va_G) (cI cJ cZ cP cS : ClassId) (h : Nat) (b : Nat → Nat) (th : Int32) (G C : Nat) (hs : Bool) (x : Int32) (go lf : Nat → Int32) (op : Nat → Bool) (hC : C ≤ 12) (ht : ytc G C x = 0) (sz : Nat) : Met l y_MO_course [Cond.code y_MO_course b_MO_course 2 (some .int)] ro_MO_course (va_Pc [.ref h, .int x] (fun U => U.heap.size = sz ∧ tb_ok U ∧ va_P D cls [(h, .inr (8, [.int th, .int (nI G), .ref (b 0), .ref (b 1), .int (nI C), .ref (b 2), .ref (b 3), .ref (b 4), .ref (b 5), .ref (b 6), .ref (b 7), .ref (b 8), .ref (b 9), .ref (b 10), .ref (b 11), .ref (b 12), .ref (b 13), .ref (b 14), .ref (b 15), .ref (b 16), .ref (b 17), .ref (b 18), .int (zb hs), .ref (b 19), .ref (b 20)])), ((b 2), .inl (cI, 12, .inl go)), ((b 3), .inl (cZ, 12, .inl (fun j => zb (op j)))), ((b 4), .inl (cI, 12, .inl lf))] U.heap ∧ va_K D cls (tyl cI cJ cZ cP cS) U ∧ va_D (fun _ => True) [(h, .inr (8, [.int th, .int (nI G), .ref (b 0), .ref (b 1), .int (nI C), .ref (b 2), .ref (b 3), .ref (b 4), .ref (b 5), .ref (b 6), .ref (b 7), .ref (b 8), .ref (b 9), .ref (b 10), .ref (b 11), .ref (b 12), .ref (b 13), .ref (b 14), .ref (b 15), .ref (b 16), .ref (b 17), .ref (b 18), .int (zb hs), .ref (b 19), .ref (b 20)])), ((b 2), .inl (cI, 12, .inl go)), ((b 3), .inl (cZ, 12, .inl (fun j => zb (op j)))), ((b 4), .inl (cI, 12, .inl lf))])) (zv (some (.int (nI C))) D [(h, .inr (8, [.int 0, .int (nI G), .ref (b 0), .ref (b 1), .int (nI (C + 1)), .ref (b 2), .ref (b 3), .ref (b 4), .ref (b 5), .ref (b 6), .ref (b 7), .ref (b 8), .ref (b 9), .ref (b 10), .ref (b 11), .ref (b 12), .ref (b 13), .ref (b 14), .ref (b 15), .ref (b 16), .ref (b 17), .ref (b 18), .int (zb hs), .ref (b 19), .ref (b 20)])), ((b 2), .inl (cI, 12, .inl (upd go C x))), ((b 3), .inl (cZ, 12, .inl (fun j => zb ((mf_up op C true) j)))), ((b 4), .inl (cI, 12, .inl (upd lf C (-1))))] (va_A [(h, .inr (8, [.int th, .int (nI G), .ref (b 0), .ref (b 1), .int (nI C), .ref (b 2), .ref (b 3), .ref (b 4), .ref (b 5), .ref (b 6), .ref (b 7), .ref (b 8), .ref (b 9), .ref (b 10), .ref (b 11), .ref (b 12), .ref (b 13), .ref (b 14), .ref (b 15), .ref (b 16), .ref (b 17), .ref (b 18), .int (zb hs), .ref (b 19), .ref (b 20)])), ((b 2), .inl (cI, 12, .inl go)), ((b 3), .inl (cZ, 12, .inl (fun j => zb (op j)))), ((b 4), .inl (cI, 12, .inl lf))] sz)) 0 0 (va_A [(h, .inr (8, [.int th, .int (nI G), .ref (b 0), .ref (b 1), .int (nI C), .ref (b 2), .ref (b 3), .ref (b 4), .ref (b 5), .ref (b 6), .ref (b 7), .ref (b 8), .ref (b 9), .ref (b 10), .ref (b 11), .ref (b 12), .ref (b 13), .ref (b 14), .ref (b 15), .ref (b 16), .ref (b 17), .ref (b 18), .int (zb hs), .ref (b 19), .ref (b 20)])), ((b 2), .inl (cI, 12, .inl go)), ((b 3), .inl (cZ, 12, .inl (fun j => zb (op j)))), ((b 4), .inl (cI, 12, .inl lf))] sz) := by
  refine Met.ofW (cc := b_MO_course) (maxL := 2) (ret := (some .int)) (by decide +kernel) rfl ?_
  intro p e s m args below meth c s₁ B hml hv
  obtain ⟨rfl, hsz, hok, hP, hK, hD0⟩ := hv
  have hx := B.exec
  have hb := B.bytes
  have hr := B.returns
  have hown : s.vm.findClass "StudyAuditModel" = some m.cls := findClass_of_methodNamed B.named
  have hlocks := B.notSynchronized
  subst hsz
  have hD := hD0.self (sz := s.heap.size)
  generalize hAe : va_A [(h, .inr (8, [.int th, .int (nI G), .ref (b 0), .ref (b 1), .int (nI C), .ref (b 2), .ref (b 3), .ref (b 4), .ref (b 5), .ref (b 6), .ref (b 7), .ref (b 8), .ref (b 9), .ref (b 10), .ref (b 11), .ref (b 12), .ref (b 13), .ref (b 14), .ref (b 15), .ref (b 16), .ref (b 17), .ref (b 18), .int (zb hs), .ref (b 19), .ref (b 20)])), ((b 2), .inl (cI, 12, .inl go)), ((b 3), .inl (cZ, 12, .inl (fun j => zb (op j)))), ((b 4), .inl (cI, 12, .inl lf))] s.heap.size = A at hD ⊢
  have hA : ∀ q : Nat, s.heap.size ≤ q → A q := fun q h => by rw [← hAe]; exact Or.inr h
  have hS : va_S A s.heap s.heap [] := va_S.rf
  have hl := lv_entry ([.ref h, .int x]) (n := 2) (Nat.le_of_ble_eq_true rfl)
  rw [lg_entry_eq]
  generalize (lg_sl ([.ref h, .int x]) ++ List.replicate (2 - (lg_sl ([.ref h, .int x])).length) Slot.unset).toArray = ls at hl ⊢
  have hl : lv_has ls 2 [(0, .ref h), (1, .int x)] := hl
  refine lv_aload_n hx hb d_MO_course_0 rfl (lv_at hl 0 rfl) ?_
  refine lv_aload_n hx hb d_MO_course_1 rfl (lv_at hl 0 rfl) ?_
  refine lv_iload_n hx hb d_MO_course_2 rfl (lv_at hl 1 rfl) ?_
  refine zc_read (va_runV (Ts := []) (As := [.int x]) (rest := [.ref h]) ⟨hx, hb, hml, hown, fun _ h => absurd h List.not_mem_nil⟩ (m_MO_noGroup l D cI cJ cZ cP cS h b th G C hs x) ⟨zc_B 1 hok c_MO_noGroup_w t_10 t_790 rfl rfl (by decide +kernel) ⟨Nat.le_of_ble_eq_true rfl, Nat.le_of_ble_eq_true rfl⟩, hok _ t_792 rfl _, hok _ s_19 rfl _⟩ ⟨fun a U g mk q => by obtain ⟨q0, q2, qP, qK⟩ := q; exact ⟨q0, q2.call g mk a, qP, va_K.moved (u := U) (U := U.calling g mk a) (Vm.Alike.refl U.vm) qK⟩, va_recv hK hP (ci := 8) (q0 := 0) rfl rfl, fun U hU hW => ⟨rfl, hok.warm hW, by rw [hU]; exact hP.sub [0] rfl, va_K.moved hW.alike hK⟩⟩ rfl rfl hl.1 rfl (lv_room (Nat.le_of_ble_eq_true rfl)) d_MO_course_3 ⟨Nat.le_of_ble_eq_true rfl, Nat.le_of_ble_eq_true rfl⟩) ?_
  refine W.eq (g2 := F0 m 6 ls [.int (zb (yng G x)), .ref h]) rfl ?_
  refine lv_if_eq (tgt := 13) hx hb d_MO_course_6 (by decide) (fun h6 => ?_) (fun h6 => ?_)
  · refine lv_aload_n hx hb d_MO_course_13 rfl (lv_at hl 0 rfl) ?_
    refine va_get (D := D) (ci := 8) (v := .int (nI C)) (C := R_MO) (T := F_MO) (N := 25) hx hb (tb_in hok in_MO) (fun w h => h) hown hK hP 0 rfl rfl 4 (by decide) (hok _ t_709 rfl _) (fun _ h9 => h9) rfl d_MO_course_14 ?_
    refine lv_bipush (v := 12) hx hb d_MO_course_17 (by decide) ?_
    refine lv_icmp_ne (tgt := 26) hx hb d_MO_course_19 (by decide) (fun h19 => ?_) (fun h19 => ?_)
    · refine lv_iconst (v := 0) hx hb d_MO_course_26 (by decide) ?_
      have e9 : ytc G C x = 0 := by first | (simp [ytc, h6, h19]; done)
      have hC12 : C < 12 := Nat.lt_of_le_of_ne hC (fun z => h19 (by rw [z]; rfl))
      refine va_put (D := D) (ci := 8) (v := .int 0) (ty := .int) (C := R_MO) (T := F_MO) (N := 25) hx hb (tb_in hok in_MO) (fun w h => h) g_MO g_MO_ok n_MO hown hK hP hD hS 0 rfl rfl 0 (by decide) (hok _ t_705 rfl _) (fun _ h9 => h9) rfl (by decide +kernel) rfl rfl (Nat.le_of_ble_eq_true rfl) d_MO_course_27 (fun H locs hP hD hS => ?_)
      have hP : va_P D cls [(h, .inr (8, [.int 0, .int (nI G), .ref (b 0), .ref (b 1), .int (nI C), .ref (b 2), .ref (b 3), .ref (b 4), .ref (b 5), .ref (b 6), .ref (b 7), .ref (b 8), .ref (b 9), .ref (b 10), .ref (b 11), .ref (b 12), .ref (b 13), .ref (b 14), .ref (b 15), .ref (b 16), .ref (b 17), .ref (b 18), .int (zb hs), .ref (b 19), .ref (b 20)])), ((b 2), .inl (cI, 12, .inl go)), ((b 3), .inl (cZ, 12, .inl (fun j => zb (op j)))), ((b 4), .inl (cI, 12, .inl lf))] H := hP
      have hD : va_D A [(h, .inr (8, [.int 0, .int (nI G), .ref (b 0), .ref (b 1), .int (nI C), .ref (b 2), .ref (b 3), .ref (b 4), .ref (b 5), .ref (b 6), .ref (b 7), .ref (b 8), .ref (b 9), .ref (b 10), .ref (b 11), .ref (b 12), .ref (b 13), .ref (b 14), .ref (b 15), .ref (b 16), .ref (b 17), .ref (b 18), .int (zb hs), .ref (b 19), .ref (b 20)])), ((b 2), .inl (cI, 12, .inl go)), ((b 3), .inl (cZ, 12, .inl (fun j => zb (op j)))), ((b 4), .inl (cI, 12, .inl lf))] := hD
      refine lv_aload_n hx hb d_MO_course_30 rfl (lv_at hl 0 rfl) ?_
      refine va_get (D := D) (ci := 8) (v := .int 0) (C := R_MO) (T := F_MO) (N := 25) hx hb (tb_in hok in_MO) (fun w h => h) hown hK hP 0 rfl rfl 0 (by decide) (hok _ t_705 rfl _) (fun _ h9 => h9) rfl d_MO_course_31 ?_
      refine lv_if_le (tgt := 39) hx hb d_MO_course_34 (by decide) (fun h34 => ?_) (fun h34 => absurd (show (0 : Int32) ≤ 0 by decide) h34)
      refine lv_aload_n hx hb d_MO_course_39 rfl (lv_at hl 0 rfl) ?_
      refine va_get (D := D) (ci := 8) (v := .ref (b 2)) (C := R_MO) (T := F_MO) (N := 25) hx hb (tb_in hok in_MO) (fun w h => h) hown hK hP 0 rfl rfl 5 (by decide) (hok _ t_710 rfl _) (fun _ h9 => h9) rfl d_MO_course_40 ?_
      refine lv_aload_n hx hb d_MO_course_43 rfl (lv_at hl 0 rfl) ?_
      refine va_get (D := D) (ci := 8) (v := .int (nI C)) (C := R_MO) (T := F_MO) (N := 25) hx hb (tb_in hok in_MO) (fun w h => h) hown hK hP 0 rfl rfl 4 (by decide) (hok _ t_709 rfl _) (fun _ h9 => h9) rfl d_MO_course_44 ?_
      refine lv_iload_n hx hb d_MO_course_47 rfl (lv_at hl 1 rfl) ?_
      refine va_iast hx hb hK hP hD hS 1 0 rfl rfl (vp_in_nI (by omega) (by omega)) d_MO_course_48 (fun H locs hP hD hS => ?_)
      rw [nI_clamp (show C < 2 ^ 31 from by omega)] at hP hD
      have hP : va_P D cls [(h, .inr (8, [.int 0, .int (nI G), .ref (b 0), .ref (b 1), .int (nI C), .ref (b 2), .ref (b 3), .ref (b 4), .ref (b 5), .ref (b 6), .ref (b 7), .ref (b 8), .ref (b 9), .ref (b 10), .ref (b 11), .ref (b 12), .ref (b 13), .ref (b 14), .ref (b 15), .ref (b 16), .ref (b 17), .ref (b 18), .int (zb hs), .ref (b 19), .ref (b 20)])), ((b 2), .inl (cI, 12, .inl (upd go C x))), ((b 3), .inl (cZ, 12, .inl (fun j => zb (op j)))), ((b 4), .inl (cI, 12, .inl lf))] H := hP
      have hD : va_D A [(h, .inr (8, [.int 0, .int (nI G), .ref (b 0), .ref (b 1), .int (nI C), .ref (b 2), .ref (b 3), .ref (b 4), .ref (b 5), .ref (b 6), .ref (b 7), .ref (b 8), .ref (b 9), .ref (b 10), .ref (b 11), .ref (b 12), .ref (b 13), .ref (b 14), .ref (b 15), .ref (b 16), .ref (b 17), .ref (b 18), .int (zb hs), .ref (b 19), .ref (b 20)])), ((b 2), .inl (cI, 12, .inl (upd go C x))), ((b 3), .inl (cZ, 12, .inl (fun j => zb (op j)))), ((b 4), .inl (cI, 12, .inl lf))] := hD
      refine lv_aload_n hx hb d_MO_course_49 rfl (lv_at hl 0 rfl) ?_
      refine va_get (D := D) (ci := 8) (v := .ref (b 3)) (C := R_MO) (T := F_MO) (N := 25) hx hb (tb_in hok in_MO) (fun w h => h) hown hK hP 0 rfl rfl 6 (by decide) (hok _ t_711 rfl _) (fun _ h9 => h9) rfl d_MO_course_50 ?_
      refine lv_aload_n hx hb d_MO_course_53 rfl (lv_at hl 0 rfl) ?_
      refine va_get (D := D) (ci := 8) (v := .int (nI C)) (C := R_MO) (T := F_MO) (N := 25) hx hb (tb_in hok in_MO) (fun w h => h) hown hK hP 0 rfl rfl 4 (by decide) (hok _ t_709 rfl _) (fun _ h9 => h9) rfl d_MO_course_54 ?_
      refine lv_iconst (v := 1) hx hb d_MO_course_57 (by decide) ?_
      refine va_zast hx hb hK hP hD hS 2 2 rfl rfl (vp_in_nI (by omega) (by omega)) d_MO_course_58 (fun H locs hP hD hS => ?_)
      rw [nI_clamp (show C < 2 ^ 31 from by omega)] at hP hD
      rw [show upd (fun j => zb (op j)) C (vp_nar .boolean 1) = fun j => zb (mf_up op C true j) from z_upb _ _ true] at hP hD
      have hP : va_P D cls [(h, .inr (8, [.int 0, .int (nI G), .ref (b 0), .ref (b 1), .int (nI C), .ref (b 2), .ref (b 3), .ref (b 4), .ref (b 5), .ref (b 6), .ref (b 7), .ref (b 8), .ref (b 9), .ref (b 10), .ref (b 11), .ref (b 12), .ref (b 13), .ref (b 14), .ref (b 15), .ref (b 16), .ref (b 17), .ref (b 18), .int (zb hs), .ref (b 19), .ref (b 20)])), ((b 2), .inl (cI, 12, .inl (upd go C x))), ((b 3), .inl (cZ, 12, .inl (fun j => zb ((mf_up op C true) j)))), ((b 4), .inl (cI, 12, .inl lf))] H := hP
      have hD : va_D A [(h, .inr (8, [.int 0, .int (nI G), .ref (b 0), .ref (b 1), .int (nI C), .ref (b 2), .ref (b 3), .ref (b 4), .ref (b 5), .ref (b 6), .ref (b 7), .ref (b 8), .ref (b 9), .ref (b 10), .ref (b 11), .ref (b 12), .ref (b 13), .ref (b 14), .ref (b 15), .ref (b 16), .ref (b 17), .ref (b 18), .int (zb hs), .ref (b 19), .ref (b 20)])), ((b 2), .inl (cI, 12, .inl (upd go C x))), ((b 3), .inl (cZ, 12, .inl (fun j => zb ((mf_up op C true) j)))), ((b 4), .inl (cI, 12, .inl lf))] := hD
      refine lv_aload_n hx hb d_MO_course_59 rfl (lv_at hl 0 rfl) ?_
      refine va_get (D := D) (ci := 8) (v := .ref (b 4)) (C := R_MO) (T := F_MO) (N := 25) hx hb (tb_in hok in_MO) (fun w h => h) hown hK hP 0 rfl rfl 7 (by decide) (hok _ t_712 rfl _) (fun _ h9 => h9) rfl d_MO_course_60 ?_
      refine lv_aload_n hx hb d_MO_course_63 rfl (lv_at hl 0 rfl) ?_
      refine va_get (D := D) (ci := 8) (v := .int (nI C)) (C := R_MO) (T := F_MO) (N := 25) hx hb (tb_in hok in_MO) (fun w h => h) hown hK hP 0 rfl rfl 4 (by decide) (hok _ t_709 rfl _) (fun _ h9 => h9) rfl d_MO_course_64 ?_
      refine lv_iconst (v := (-1)) hx hb d_MO_course_67 (by decide) ?_
      refine va_iast hx hb hK hP hD hS 3 0 rfl rfl (vp_in_nI (by omega) (by omega)) d_MO_course_68 (fun H locs hP hD hS => ?_)
      rw [nI_clamp (show C < 2 ^ 31 from by omega)] at hP hD
      have hP : va_P D cls [(h, .inr (8, [.int 0, .int (nI G), .ref (b 0), .ref (b 1), .int (nI C), .ref (b 2), .ref (b 3), .ref (b 4), .ref (b 5), .ref (b 6), .ref (b 7), .ref (b 8), .ref (b 9), .ref (b 10), .ref (b 11), .ref (b 12), .ref (b 13), .ref (b 14), .ref (b 15), .ref (b 16), .ref (b 17), .ref (b 18), .int (zb hs), .ref (b 19), .ref (b 20)])), ((b 2), .inl (cI, 12, .inl (upd go C x))), ((b 3), .inl (cZ, 12, .inl (fun j => zb ((mf_up op C true) j)))), ((b 4), .inl (cI, 12, .inl (upd lf C (-1))))] H := hP
      have hD : va_D A [(h, .inr (8, [.int 0, .int (nI G), .ref (b 0), .ref (b 1), .int (nI C), .ref (b 2), .ref (b 3), .ref (b 4), .ref (b 5), .ref (b 6), .ref (b 7), .ref (b 8), .ref (b 9), .ref (b 10), .ref (b 11), .ref (b 12), .ref (b 13), .ref (b 14), .ref (b 15), .ref (b 16), .ref (b 17), .ref (b 18), .int (zb hs), .ref (b 19), .ref (b 20)])), ((b 2), .inl (cI, 12, .inl (upd go C x))), ((b 3), .inl (cZ, 12, .inl (fun j => zb ((mf_up op C true) j)))), ((b 4), .inl (cI, 12, .inl (upd lf C (-1))))] := hD
      refine lv_aload_n hx hb d_MO_course_69 rfl (lv_at hl 0 rfl) ?_
      refine lv_dup hx hb d_MO_course_70 rfl ?_
      refine va_get (D := D) (ci := 8) (v := .int (nI C)) (C := R_MO) (T := F_MO) (N := 25) hx hb (tb_in hok in_MO) (fun w h => h) hown hK hP 0 rfl rfl 4 (by decide) (hok _ t_709 rfl _) (fun _ h9 => h9) rfl d_MO_course_71 ?_
      refine lv_iconst (v := 1) hx hb d_MO_course_74 (by decide) ?_
      refine lv_iadd hx hb d_MO_course_75 ?_
      refine va_put (D := D) (ci := 8) (v := .int ((nI C) + (1 : Int32))) (ty := .int) (C := R_MO) (T := F_MO) (N := 25) hx hb (tb_in hok in_MO) (fun w h => h) g_MO g_MO_ok n_MO hown hK hP hD hS 0 rfl rfl 4 (by decide) (hok _ t_709 rfl _) (fun _ h9 => h9) rfl (by decide +kernel) rfl rfl (Nat.le_of_ble_eq_true rfl) d_MO_course_76 (fun H locs hP hD hS => ?_)
      have hP : va_P D cls [(h, .inr (8, [.int 0, .int (nI G), .ref (b 0), .ref (b 1), .int ((nI C) + (1 : Int32)), .ref (b 2), .ref (b 3), .ref (b 4), .ref (b 5), .ref (b 6), .ref (b 7), .ref (b 8), .ref (b 9), .ref (b 10), .ref (b 11), .ref (b 12), .ref (b 13), .ref (b 14), .ref (b 15), .ref (b 16), .ref (b 17), .ref (b 18), .int (zb hs), .ref (b 19), .ref (b 20)])), ((b 2), .inl (cI, 12, .inl (upd go C x))), ((b 3), .inl (cZ, 12, .inl (fun j => zb ((mf_up op C true) j)))), ((b 4), .inl (cI, 12, .inl (upd lf C (-1))))] H := hP
      have hD : va_D A [(h, .inr (8, [.int 0, .int (nI G), .ref (b 0), .ref (b 1), .int ((nI C) + (1 : Int32)), .ref (b 2), .ref (b 3), .ref (b 4), .ref (b 5), .ref (b 6), .ref (b 7), .ref (b 8), .ref (b 9), .ref (b 10), .ref (b 11), .ref (b 12), .ref (b 13), .ref (b 14), .ref (b 15), .ref (b 16), .ref (b 17), .ref (b 18), .int (zb hs), .ref (b 19), .ref (b 20)])), ((b 2), .inl (cI, 12, .inl (upd go C x))), ((b 3), .inl (cZ, 12, .inl (fun j => zb ((mf_up op C true) j)))), ((b 4), .inl (cI, 12, .inl (upd lf C (-1))))] := hD
      refine lv_aload_n hx hb d_MO_course_79 rfl (lv_at hl 0 rfl) ?_
      refine va_get (D := D) (ci := 8) (v := .int ((nI C) + (1 : Int32))) (C := R_MO) (T := F_MO) (N := 25) hx hb (tb_in hok in_MO) (fun w h => h) hown hK hP 0 rfl rfl 4 (by decide) (hok _ t_709 rfl _) (fun _ h9 => h9) rfl d_MO_course_80 ?_
      refine lv_iconst (v := 1) hx hb d_MO_course_83 (by decide) ?_
      refine lv_isub hx hb d_MO_course_84 ?_
      have hP : va_P D cls [(h, .inr (8, [.int 0, .int (nI G), .ref (b 0), .ref (b 1), .int (nI (C + 1)), .ref (b 2), .ref (b 3), .ref (b 4), .ref (b 5), .ref (b 6), .ref (b 7), .ref (b 8), .ref (b 9), .ref (b 10), .ref (b 11), .ref (b 12), .ref (b 13), .ref (b 14), .ref (b 15), .ref (b 16), .ref (b 17), .ref (b 18), .int (zb hs), .ref (b 19), .ref (b 20)])), ((b 2), .inl (cI, 12, .inl (upd go C x))), ((b 3), .inl (cZ, 12, .inl (fun j => zb ((mf_up op C true) j)))), ((b 4), .inl (cI, 12, .inl (upd lf C (-1))))] H := by rw [nI_succ C]; exact hP
      have hD : va_D A [(h, .inr (8, [.int 0, .int (nI G), .ref (b 0), .ref (b 1), .int (nI (C + 1)), .ref (b 2), .ref (b 3), .ref (b 4), .ref (b 5), .ref (b 6), .ref (b 7), .ref (b 8), .ref (b 9), .ref (b 10), .ref (b 11), .ref (b 12), .ref (b 13), .ref (b 14), .ref (b 15), .ref (b 16), .ref (b 17), .ref (b 18), .int (zb hs), .ref (b 19), .ref (b 20)])), ((b 2), .inl (cI, 12, .inl (upd go C x))), ((b 3), .inl (cZ, 12, .inl (fun j => zb ((mf_up op C true) j)))), ((b 4), .inl (cI, 12, .inl (upd lf C (-1))))] := by rw [nI_succ C]; exact hD
      refine W.eq (g2 := F0 m 85 ls [.int (nI C)]) (by rw [← nI_succ C, nI_pred]) ?_
      exact W.iret hx hb hr (fun t ht _ => ⟨⟨rfl, by rw [ht]; exact hP, hD⟩, hS.F ht⟩) hS.2.2 d_MO_course_85
    · refine lv_iconst (v := 2) hx hb d_MO_course_22 (by decide) ?_
      refine lv_goto (tgt := 27) hx hb d_MO_course_23 (by decide) ?_
      have e9 : ytc G C x = 2 := by first | (simp [ytc, h6, h19]; done)
      exact absurd (ht.symm.trans e9) (by decide)
  · refine lv_iconst (v := 1) hx hb d_MO_course_9 (by decide) ?_
    refine lv_goto (tgt := 27) hx hb d_MO_course_10 (by decide) ?_
    have e9 : ytc G C x = 1 := by first | (simp [ytc, h6]; done)
    exact absurd (ht.symm.trans e9) (by decide)
set_option maxHeartbeats 4000000 in
set_option maxRecDepth 100000 in
theorem m_MO_course_bad (l : Launch) (D : va_G) (cI cJ cZ cP cS : ClassId) (h : Nat) (b : Nat → Nat) (th : Int32) (G C : Nat) (hs : Bool) (x : Int32) (t : Int32) (ht : ytc G C x = t) (hn : ¬ t = 0) (sz : Nat) : Met l y_MO_course [Cond.code y_MO_course b_MO_course 2 (some .int)] ro_MO_course (va_Pc [.ref h, .int x] (fun U => U.heap.size = sz ∧ tb_ok U ∧ va_P D cls [(h, .inr (8, [.int th, .int (nI G), .ref (b 0), .ref (b 1), .int (nI C), .ref (b 2), .ref (b 3), .ref (b 4), .ref (b 5), .ref (b 6), .ref (b 7), .ref (b 8), .ref (b 9), .ref (b 10), .ref (b 11), .ref (b 12), .ref (b 13), .ref (b 14), .ref (b 15), .ref (b 16), .ref (b 17), .ref (b 18), .int (zb hs), .ref (b 19), .ref (b 20)]))] U.heap ∧ va_K D cls (tyl cI cJ cZ cP cS) U ∧ va_D (fun _ => True) [(h, .inr (8, [.int th, .int (nI G), .ref (b 0), .ref (b 1), .int (nI C), .ref (b 2), .ref (b 3), .ref (b 4), .ref (b 5), .ref (b 6), .ref (b 7), .ref (b 8), .ref (b 9), .ref (b 10), .ref (b 11), .ref (b 12), .ref (b 13), .ref (b 14), .ref (b 15), .ref (b 16), .ref (b 17), .ref (b 18), .int (zb hs), .ref (b 19), .ref (b 20)]))])) (zv (some (.int 0)) D [(h, .inr (8, [.int t, .int (nI G), .ref (b 0), .ref (b 1), .int (nI C), .ref (b 2), .ref (b 3), .ref (b 4), .ref (b 5), .ref (b 6), .ref (b 7), .ref (b 8), .ref (b 9), .ref (b 10), .ref (b 11), .ref (b 12), .ref (b 13), .ref (b 14), .ref (b 15), .ref (b 16), .ref (b 17), .ref (b 18), .int (zb hs), .ref (b 19), .ref (b 20)]))] (va_A [(h, .inr (8, [.int th, .int (nI G), .ref (b 0), .ref (b 1), .int (nI C), .ref (b 2), .ref (b 3), .ref (b 4), .ref (b 5), .ref (b 6), .ref (b 7), .ref (b 8), .ref (b 9), .ref (b 10), .ref (b 11), .ref (b 12), .ref (b 13), .ref (b 14), .ref (b 15), .ref (b 16), .ref (b 17), .ref (b 18), .int (zb hs), .ref (b 19), .ref (b 20)]))] sz)) 0 0 (va_A [(h, .inr (8, [.int th, .int (nI G), .ref (b 0), .ref (b 1), .int (nI C), .ref (b 2), .ref (b 3), .ref (b 4), .ref (b 5), .ref (b 6), .ref (b 7), .ref (b 8), .ref (b 9), .ref (b 10), .ref (b 11), .ref (b 12), .ref (b 13), .ref (b 14), .ref (b 15), .ref (b 16), .ref (b 17), .ref (b 18), .int (zb hs), .ref (b 19), .ref (b 20)]))] sz) := by
  refine Met.ofW (cc := b_MO_course) (maxL := 2) (ret := (some .int)) (by decide +kernel) rfl ?_
  intro p e s m args below meth c s₁ B hml hv
  obtain ⟨rfl, hsz, hok, hP, hK, hD0⟩ := hv
  have hx := B.exec
  have hb := B.bytes
  have hr := B.returns
  have hown : s.vm.findClass "StudyAuditModel" = some m.cls := findClass_of_methodNamed B.named
  have hlocks := B.notSynchronized
  subst hsz
  have hD := hD0.self (sz := s.heap.size)
  generalize hAe : va_A [(h, .inr (8, [.int th, .int (nI G), .ref (b 0), .ref (b 1), .int (nI C), .ref (b 2), .ref (b 3), .ref (b 4), .ref (b 5), .ref (b 6), .ref (b 7), .ref (b 8), .ref (b 9), .ref (b 10), .ref (b 11), .ref (b 12), .ref (b 13), .ref (b 14), .ref (b 15), .ref (b 16), .ref (b 17), .ref (b 18), .int (zb hs), .ref (b 19), .ref (b 20)]))] s.heap.size = A at hD ⊢
  have hA : ∀ q : Nat, s.heap.size ≤ q → A q := fun q h => by rw [← hAe]; exact Or.inr h
  have hS : va_S A s.heap s.heap [] := va_S.rf
  have hl := lv_entry ([.ref h, .int x]) (n := 2) (Nat.le_of_ble_eq_true rfl)
  rw [lg_entry_eq]
  generalize (lg_sl ([.ref h, .int x]) ++ List.replicate (2 - (lg_sl ([.ref h, .int x])).length) Slot.unset).toArray = ls at hl ⊢
  have hl : lv_has ls 2 [(0, .ref h), (1, .int x)] := hl
  refine lv_aload_n hx hb d_MO_course_0 rfl (lv_at hl 0 rfl) ?_
  refine lv_aload_n hx hb d_MO_course_1 rfl (lv_at hl 0 rfl) ?_
  refine lv_iload_n hx hb d_MO_course_2 rfl (lv_at hl 1 rfl) ?_
  refine zc_read (va_runV (Ts := []) (As := [.int x]) (rest := [.ref h]) ⟨hx, hb, hml, hown, fun _ h => absurd h List.not_mem_nil⟩ (m_MO_noGroup l D cI cJ cZ cP cS h b th G C hs x) ⟨zc_B 1 hok c_MO_noGroup_w t_10 t_790 rfl rfl (by decide +kernel) ⟨Nat.le_of_ble_eq_true rfl, Nat.le_of_ble_eq_true rfl⟩, hok _ t_792 rfl _, hok _ s_19 rfl _⟩ ⟨fun a U g mk q => by obtain ⟨q0, q2, qP, qK⟩ := q; exact ⟨q0, q2.call g mk a, qP, va_K.moved (u := U) (U := U.calling g mk a) (Vm.Alike.refl U.vm) qK⟩, va_recv hK hP (ci := 8) (q0 := 0) rfl rfl, fun U hU hW => ⟨rfl, hok.warm hW, by rw [hU]; exact hP.sub [0] rfl, va_K.moved hW.alike hK⟩⟩ rfl rfl hl.1 rfl (lv_room (Nat.le_of_ble_eq_true rfl)) d_MO_course_3 ⟨Nat.le_of_ble_eq_true rfl, Nat.le_of_ble_eq_true rfl⟩) ?_
  refine W.eq (g2 := F0 m 6 ls [.int (zb (yng G x)), .ref h]) rfl ?_
  refine lv_if_eq (tgt := 13) hx hb d_MO_course_6 (by decide) (fun h6 => ?_) (fun h6 => ?_)
  · refine lv_aload_n hx hb d_MO_course_13 rfl (lv_at hl 0 rfl) ?_
    refine va_get (D := D) (ci := 8) (v := .int (nI C)) (C := R_MO) (T := F_MO) (N := 25) hx hb (tb_in hok in_MO) (fun w h => h) hown hK hP 0 rfl rfl 4 (by decide) (hok _ t_709 rfl _) (fun _ h9 => h9) rfl d_MO_course_14 ?_
    refine lv_bipush (v := 12) hx hb d_MO_course_17 (by decide) ?_
    refine lv_icmp_ne (tgt := 26) hx hb d_MO_course_19 (by decide) (fun h19 => ?_) (fun h19 => ?_)
    · refine lv_iconst (v := 0) hx hb d_MO_course_26 (by decide) ?_
      have e9 : ytc G C x = 0 := by first | (simp [ytc, h6, h19]; done)
      exact absurd (ht.symm.trans e9) hn
    · refine lv_iconst (v := 2) hx hb d_MO_course_22 (by decide) ?_
      refine lv_goto (tgt := 27) hx hb d_MO_course_23 (by decide) ?_
      have e9 : ytc G C x = 2 := by first | (simp [ytc, h6, h19]; done)
      obtain rfl : t = 2 := ht.symm.trans e9
      refine va_put (D := D) (ci := 8) (v := .int 2) (ty := .int) (C := R_MO) (T := F_MO) (N := 25) hx hb (tb_in hok in_MO) (fun w h => h) g_MO g_MO_ok n_MO hown hK hP hD hS 0 rfl rfl 0 (by decide) (hok _ t_705 rfl _) (fun _ h9 => h9) rfl (by decide +kernel) rfl rfl (Nat.le_of_ble_eq_true rfl) d_MO_course_27 (fun H locs hP hD hS => ?_)
      have hP : va_P D cls [(h, .inr (8, [.int 2, .int (nI G), .ref (b 0), .ref (b 1), .int (nI C), .ref (b 2), .ref (b 3), .ref (b 4), .ref (b 5), .ref (b 6), .ref (b 7), .ref (b 8), .ref (b 9), .ref (b 10), .ref (b 11), .ref (b 12), .ref (b 13), .ref (b 14), .ref (b 15), .ref (b 16), .ref (b 17), .ref (b 18), .int (zb hs), .ref (b 19), .ref (b 20)]))] H := hP
      have hD : va_D A [(h, .inr (8, [.int 2, .int (nI G), .ref (b 0), .ref (b 1), .int (nI C), .ref (b 2), .ref (b 3), .ref (b 4), .ref (b 5), .ref (b 6), .ref (b 7), .ref (b 8), .ref (b 9), .ref (b 10), .ref (b 11), .ref (b 12), .ref (b 13), .ref (b 14), .ref (b 15), .ref (b 16), .ref (b 17), .ref (b 18), .int (zb hs), .ref (b 19), .ref (b 20)]))] := hD
      refine lv_aload_n hx hb d_MO_course_30 rfl (lv_at hl 0 rfl) ?_
      refine va_get (D := D) (ci := 8) (v := .int 2) (C := R_MO) (T := F_MO) (N := 25) hx hb (tb_in hok in_MO) (fun w h => h) hown hK hP 0 rfl rfl 0 (by decide) (hok _ t_705 rfl _) (fun _ h9 => h9) rfl d_MO_course_31 ?_
      refine lv_if_le (tgt := 39) hx hb d_MO_course_34 (by decide) (fun h34 => absurd h34 (show ¬ (2 : Int32) ≤ 0 by decide)) (fun h34 => ?_)
      refine lv_iconst (v := 0) hx hb d_MO_course_37 (by decide) ?_
      exact W.iret hx hb hr (fun t ht _ => ⟨⟨rfl, by rw [ht]; exact hP, hD⟩, hS.F ht⟩) hS.2.2 d_MO_course_38
  · refine lv_iconst (v := 1) hx hb d_MO_course_9 (by decide) ?_
    refine lv_goto (tgt := 27) hx hb d_MO_course_10 (by decide) ?_
    have e9 : ytc G C x = 1 := by first | (simp [ytc, h6]; done)
    obtain rfl : t = 1 := ht.symm.trans e9
    refine va_put (D := D) (ci := 8) (v := .int 1) (ty := .int) (C := R_MO) (T := F_MO) (N := 25) hx hb (tb_in hok in_MO) (fun w h => h) g_MO g_MO_ok n_MO hown hK hP hD hS 0 rfl rfl 0 (by decide) (hok _ t_705 rfl _) (fun _ h9 => h9) rfl (by decide +kernel) rfl rfl (Nat.le_of_ble_eq_true rfl) d_MO_course_27 (fun H locs hP hD hS => ?_)
    have hP : va_P D cls [(h, .inr (8, [.int 1, .int (nI G), .ref (b 0), .ref (b 1), .int (nI C), .ref (b 2), .ref (b 3), .ref (b 4), .ref (b 5), .ref (b 6), .ref (b 7), .ref (b 8), .ref (b 9), .ref (b 10), .ref (b 11), .ref (b 12), .ref (b 13), .ref (b 14), .ref (b 15), .ref (b 16), .ref (b 17), .ref (b 18), .int (zb hs), .ref (b 19), .ref (b 20)]))] H := hP
    have hD : va_D A [(h, .inr (8, [.int 1, .int (nI G), .ref (b 0), .ref (b 1), .int (nI C), .ref (b 2), .ref (b 3), .ref (b 4), .ref (b 5), .ref (b 6), .ref (b 7), .ref (b 8), .ref (b 9), .ref (b 10), .ref (b 11), .ref (b 12), .ref (b 13), .ref (b 14), .ref (b 15), .ref (b 16), .ref (b 17), .ref (b 18), .int (zb hs), .ref (b 19), .ref (b 20)]))] := hD
    refine lv_aload_n hx hb d_MO_course_30 rfl (lv_at hl 0 rfl) ?_
    refine va_get (D := D) (ci := 8) (v := .int 1) (C := R_MO) (T := F_MO) (N := 25) hx hb (tb_in hok in_MO) (fun w h => h) hown hK hP 0 rfl rfl 0 (by decide) (hok _ t_705 rfl _) (fun _ h9 => h9) rfl d_MO_course_31 ?_
    refine lv_if_le (tgt := 39) hx hb d_MO_course_34 (by decide) (fun h34 => absurd h34 (show ¬ (1 : Int32) ≤ 0 by decide)) (fun h34 => ?_)
    refine lv_iconst (v := 0) hx hb d_MO_course_37 (by decide) ?_
    exact W.iret hx hb hr (fun t ht _ => ⟨⟨rfl, by rw [ht]; exact hP, hD⟩, hS.F ht⟩) hS.2.2 d_MO_course_38
def yto (C : Nat) (x : Int32) : Int32 := if zb (yng C x) = 0 then 0 else 1
abbrev ro_MO_open : Room := { frames := 1, cells := 0, slots := 0, locals := 21 }
set_option maxHeartbeats 4000000 in
set_option maxRecDepth 100000 in
theorem m_MO_open_ok (l : Launch) (D : va_G) (cI cJ cZ cP cS : ClassId) (h : Nat) (b : Nat → Nat) (th : Int32) (G C : Nat) (hs : Bool) (c0 : Nat) (i : Bool) (op : Nat → Bool) (hc0 : c0 < 12) (ht : yto C (nI c0) = 0) (sz : Nat) : Met l y_MO_open [Cond.code y_MO_open b_MO_open 4 (some .boolean)] ro_MO_open (va_Pc [.ref h, .int (nI c0), .int (zb i)] (fun U => U.heap.size = sz ∧ tb_ok U ∧ va_P D cls [(h, .inr (8, [.int th, .int (nI G), .ref (b 0), .ref (b 1), .int (nI C), .ref (b 2), .ref (b 3), .ref (b 4), .ref (b 5), .ref (b 6), .ref (b 7), .ref (b 8), .ref (b 9), .ref (b 10), .ref (b 11), .ref (b 12), .ref (b 13), .ref (b 14), .ref (b 15), .ref (b 16), .ref (b 17), .ref (b 18), .int (zb hs), .ref (b 19), .ref (b 20)])), ((b 3), .inl (cZ, 12, .inl (fun j => zb (op j))))] U.heap ∧ va_K D cls (tyl cI cJ cZ cP cS) U ∧ va_D (fun _ => True) [(h, .inr (8, [.int th, .int (nI G), .ref (b 0), .ref (b 1), .int (nI C), .ref (b 2), .ref (b 3), .ref (b 4), .ref (b 5), .ref (b 6), .ref (b 7), .ref (b 8), .ref (b 9), .ref (b 10), .ref (b 11), .ref (b 12), .ref (b 13), .ref (b 14), .ref (b 15), .ref (b 16), .ref (b 17), .ref (b 18), .int (zb hs), .ref (b 19), .ref (b 20)])), ((b 3), .inl (cZ, 12, .inl (fun j => zb (op j))))])) (zv (some (.int (zb (op c0)))) D [(h, .inr (8, [.int 0, .int (nI G), .ref (b 0), .ref (b 1), .int (nI C), .ref (b 2), .ref (b 3), .ref (b 4), .ref (b 5), .ref (b 6), .ref (b 7), .ref (b 8), .ref (b 9), .ref (b 10), .ref (b 11), .ref (b 12), .ref (b 13), .ref (b 14), .ref (b 15), .ref (b 16), .ref (b 17), .ref (b 18), .int (zb hs), .ref (b 19), .ref (b 20)])), ((b 3), .inl (cZ, 12, .inl (fun j => zb ((mf_up op c0 i) j))))] (va_A [(h, .inr (8, [.int th, .int (nI G), .ref (b 0), .ref (b 1), .int (nI C), .ref (b 2), .ref (b 3), .ref (b 4), .ref (b 5), .ref (b 6), .ref (b 7), .ref (b 8), .ref (b 9), .ref (b 10), .ref (b 11), .ref (b 12), .ref (b 13), .ref (b 14), .ref (b 15), .ref (b 16), .ref (b 17), .ref (b 18), .int (zb hs), .ref (b 19), .ref (b 20)])), ((b 3), .inl (cZ, 12, .inl (fun j => zb (op j))))] sz)) 0 0 (va_A [(h, .inr (8, [.int th, .int (nI G), .ref (b 0), .ref (b 1), .int (nI C), .ref (b 2), .ref (b 3), .ref (b 4), .ref (b 5), .ref (b 6), .ref (b 7), .ref (b 8), .ref (b 9), .ref (b 10), .ref (b 11), .ref (b 12), .ref (b 13), .ref (b 14), .ref (b 15), .ref (b 16), .ref (b 17), .ref (b 18), .int (zb hs), .ref (b 19), .ref (b 20)])), ((b 3), .inl (cZ, 12, .inl (fun j => zb (op j))))] sz) := by
  refine Met.ofW (cc := b_MO_open) (maxL := 4) (ret := (some .boolean)) (by decide +kernel) rfl ?_
  intro p e s m args below meth c s₁ B hml hv
  obtain ⟨rfl, hsz, hok, hP, hK, hD0⟩ := hv
  have hx := B.exec
  have hb := B.bytes
  have hr := B.returns
  have hown : s.vm.findClass "StudyAuditModel" = some m.cls := findClass_of_methodNamed B.named
  have hlocks := B.notSynchronized
  subst hsz
  have hD := hD0.self (sz := s.heap.size)
  generalize hAe : va_A [(h, .inr (8, [.int th, .int (nI G), .ref (b 0), .ref (b 1), .int (nI C), .ref (b 2), .ref (b 3), .ref (b 4), .ref (b 5), .ref (b 6), .ref (b 7), .ref (b 8), .ref (b 9), .ref (b 10), .ref (b 11), .ref (b 12), .ref (b 13), .ref (b 14), .ref (b 15), .ref (b 16), .ref (b 17), .ref (b 18), .int (zb hs), .ref (b 19), .ref (b 20)])), ((b 3), .inl (cZ, 12, .inl (fun j => zb (op j))))] s.heap.size = A at hD ⊢
  have hA : ∀ q : Nat, s.heap.size ≤ q → A q := fun q h => by rw [← hAe]; exact Or.inr h
  have hS : va_S A s.heap s.heap [] := va_S.rf
  have hl := lv_entry ([.ref h, .int (nI c0), .int (zb i)]) (n := 4) (Nat.le_of_ble_eq_true rfl)
  rw [lg_entry_eq]
  generalize (lg_sl ([.ref h, .int (nI c0), .int (zb i)]) ++ List.replicate (4 - (lg_sl ([.ref h, .int (nI c0), .int (zb i)])).length) Slot.unset).toArray = ls at hl ⊢
  have hl : lv_has ls 4 [(0, .ref h), (1, .int (nI c0)), (2, .int (zb i))] := hl
  refine lv_aload_n hx hb d_MO_open_0 rfl (lv_at hl 0 rfl) ?_
  refine lv_aload_n hx hb d_MO_open_1 rfl (lv_at hl 0 rfl) ?_
  refine lv_iload_n hx hb d_MO_open_2 rfl (lv_at hl 1 rfl) ?_
  refine zc_read (va_runV (Ts := []) (As := [.int (nI c0)]) (rest := [.ref h]) ⟨hx, hb, hml, hown, fun _ h => absurd h List.not_mem_nil⟩ (m_MO_noCourse l D cI cJ cZ cP cS h b th G C hs (nI c0)) ⟨zc_B 1 hok c_MO_noCourse_w t_10 t_802 rfl rfl (by decide +kernel) ⟨Nat.le_of_ble_eq_true rfl, Nat.le_of_ble_eq_true rfl⟩, hok _ t_804 rfl _, hok _ s_20 rfl _⟩ ⟨fun a U g mk q => by obtain ⟨q0, q2, qP, qK⟩ := q; exact ⟨q0, q2.call g mk a, qP, va_K.moved (u := U) (U := U.calling g mk a) (Vm.Alike.refl U.vm) qK⟩, va_recv hK hP (ci := 8) (q0 := 0) rfl rfl, fun U hU hW => ⟨rfl, hok.warm hW, by rw [hU]; exact hP.sub [0] rfl, va_K.moved hW.alike hK⟩⟩ rfl rfl hl.1 rfl (lv_room (Nat.le_of_ble_eq_true rfl)) d_MO_open_3 ⟨Nat.le_of_ble_eq_true rfl, Nat.le_of_ble_eq_true rfl⟩) ?_
  refine W.eq (g2 := F0 m 6 ls [.int (zb (yng C (nI c0))), .ref h]) rfl ?_
  refine lv_if_eq (tgt := 13) hx hb d_MO_open_6 (by decide) (fun h6 => ?_) (fun h6 => ?_)
  · refine lv_iconst (v := 0) hx hb d_MO_open_13 (by decide) ?_
    have e9 : yto C (nI c0) = 0 := by first | (simp [yto, h6]; done)
    refine va_put (D := D) (ci := 8) (v := .int 0) (ty := .int) (C := R_MO) (T := F_MO) (N := 25) hx hb (tb_in hok in_MO) (fun w h => h) g_MO g_MO_ok n_MO hown hK hP hD hS 0 rfl rfl 0 (by decide) (hok _ t_705 rfl _) (fun _ h9 => h9) rfl (by decide +kernel) rfl rfl (Nat.le_of_ble_eq_true rfl) d_MO_open_14 (fun H locs hP hD hS => ?_)
    have hP : va_P D cls [(h, .inr (8, [.int 0, .int (nI G), .ref (b 0), .ref (b 1), .int (nI C), .ref (b 2), .ref (b 3), .ref (b 4), .ref (b 5), .ref (b 6), .ref (b 7), .ref (b 8), .ref (b 9), .ref (b 10), .ref (b 11), .ref (b 12), .ref (b 13), .ref (b 14), .ref (b 15), .ref (b 16), .ref (b 17), .ref (b 18), .int (zb hs), .ref (b 19), .ref (b 20)])), ((b 3), .inl (cZ, 12, .inl (fun j => zb (op j))))] H := hP
    have hD : va_D A [(h, .inr (8, [.int 0, .int (nI G), .ref (b 0), .ref (b 1), .int (nI C), .ref (b 2), .ref (b 3), .ref (b 4), .ref (b 5), .ref (b 6), .ref (b 7), .ref (b 8), .ref (b 9), .ref (b 10), .ref (b 11), .ref (b 12), .ref (b 13), .ref (b 14), .ref (b 15), .ref (b 16), .ref (b 17), .ref (b 18), .int (zb hs), .ref (b 19), .ref (b 20)])), ((b 3), .inl (cZ, 12, .inl (fun j => zb (op j))))] := hD
    refine lv_aload_n hx hb d_MO_open_17 rfl (lv_at hl 0 rfl) ?_
    refine va_get (D := D) (ci := 8) (v := .int 0) (C := R_MO) (T := F_MO) (N := 25) hx hb (tb_in hok in_MO) (fun w h => h) hown hK hP 0 rfl rfl 0 (by decide) (hok _ t_705 rfl _) (fun _ h9 => h9) rfl d_MO_open_18 ?_
    refine lv_if_le (tgt := 26) hx hb d_MO_open_21 (by decide) (fun h21 => ?_) (fun h21 => absurd (show (0 : Int32) ≤ 0 by decide) h21)
    refine lv_aload_n hx hb d_MO_open_26 rfl (lv_at hl 0 rfl) ?_
    refine va_get (D := D) (ci := 8) (v := .ref (b 3)) (C := R_MO) (T := F_MO) (N := 25) hx hb (tb_in hok in_MO) (fun w h => h) hown hK hP 0 rfl rfl 6 (by decide) (hok _ t_711 rfl _) (fun _ h9 => h9) rfl d_MO_open_27 ?_
    refine lv_iload_n hx hb d_MO_open_30 rfl (lv_at hl 1 rfl) ?_
    refine va_zald hx hb hK hP 1 2 rfl rfl (vp_in_nI (by omega) (by omega)) d_MO_open_31 ?_
    rw [nI_clamp (show c0 < 2 ^ 31 from by omega)]
    refine lv_istore_n hx hb d_MO_open_32 rfl hl (by decide) rfl (fun ls hl => ?_)
    have hl : lv_has ls 4 [(3, .int (zb (op c0))), (0, .ref h), (1, .int (nI c0)), (2, .int (zb i))] := hl
    refine lv_aload_n hx hb d_MO_open_33 rfl (lv_at hl 1 rfl) ?_
    refine va_get (D := D) (ci := 8) (v := .ref (b 3)) (C := R_MO) (T := F_MO) (N := 25) hx hb (tb_in hok in_MO) (fun w h => h) hown hK hP 0 rfl rfl 6 (by decide) (hok _ t_711 rfl _) (fun _ h9 => h9) rfl d_MO_open_34 ?_
    refine lv_iload_n hx hb d_MO_open_37 rfl (lv_at hl 2 rfl) ?_
    refine lv_iload_n hx hb d_MO_open_38 rfl (lv_at hl 3 rfl) ?_
    refine va_zast hx hb hK hP hD hS 1 2 rfl rfl (vp_in_nI (by omega) (by omega)) d_MO_open_39 (fun H locs hP hD hS => ?_)
    rw [nI_clamp (show c0 < 2 ^ 31 from by omega)] at hP hD
    rw [show upd (fun j => zb (op j)) c0 (vp_nar .boolean (zb i)) = fun j => zb (mf_up op c0 i j) from z_upb _ _ i] at hP hD
    have hP : va_P D cls [(h, .inr (8, [.int 0, .int (nI G), .ref (b 0), .ref (b 1), .int (nI C), .ref (b 2), .ref (b 3), .ref (b 4), .ref (b 5), .ref (b 6), .ref (b 7), .ref (b 8), .ref (b 9), .ref (b 10), .ref (b 11), .ref (b 12), .ref (b 13), .ref (b 14), .ref (b 15), .ref (b 16), .ref (b 17), .ref (b 18), .int (zb hs), .ref (b 19), .ref (b 20)])), ((b 3), .inl (cZ, 12, .inl (fun j => zb ((mf_up op c0 i) j))))] H := hP
    have hD : va_D A [(h, .inr (8, [.int 0, .int (nI G), .ref (b 0), .ref (b 1), .int (nI C), .ref (b 2), .ref (b 3), .ref (b 4), .ref (b 5), .ref (b 6), .ref (b 7), .ref (b 8), .ref (b 9), .ref (b 10), .ref (b 11), .ref (b 12), .ref (b 13), .ref (b 14), .ref (b 15), .ref (b 16), .ref (b 17), .ref (b 18), .int (zb hs), .ref (b 19), .ref (b 20)])), ((b 3), .inl (cZ, 12, .inl (fun j => zb ((mf_up op c0 i) j))))] := hD
    refine lv_iload_n hx hb d_MO_open_40 rfl (lv_at hl 0 rfl) ?_
    exact W.zret hx hb hr (z_zb _) (fun t ht _ => ⟨⟨rfl, by rw [ht]; exact hP, hD⟩, hS.F ht⟩) hS.2.2 d_MO_open_41
  · refine lv_iconst (v := 1) hx hb d_MO_open_9 (by decide) ?_
    refine lv_goto (tgt := 14) hx hb d_MO_open_10 (by decide) ?_
    have e9 : yto C (nI c0) = 1 := by first | (simp [yto, h6]; done)
    exact absurd (ht.symm.trans e9) (by decide)
set_option maxHeartbeats 4000000 in
set_option maxRecDepth 100000 in
theorem m_MO_open_bad (l : Launch) (D : va_G) (cI cJ cZ cP cS : ClassId) (h : Nat) (b : Nat → Nat) (th : Int32) (G C : Nat) (hs : Bool) (x : Int32) (i : Bool) (t : Int32) (ht : yto C x = t) (hn : ¬ t = 0) (sz : Nat) : Met l y_MO_open [Cond.code y_MO_open b_MO_open 4 (some .boolean)] ro_MO_open (va_Pc [.ref h, .int x, .int (zb i)] (fun U => U.heap.size = sz ∧ tb_ok U ∧ va_P D cls [(h, .inr (8, [.int th, .int (nI G), .ref (b 0), .ref (b 1), .int (nI C), .ref (b 2), .ref (b 3), .ref (b 4), .ref (b 5), .ref (b 6), .ref (b 7), .ref (b 8), .ref (b 9), .ref (b 10), .ref (b 11), .ref (b 12), .ref (b 13), .ref (b 14), .ref (b 15), .ref (b 16), .ref (b 17), .ref (b 18), .int (zb hs), .ref (b 19), .ref (b 20)]))] U.heap ∧ va_K D cls (tyl cI cJ cZ cP cS) U ∧ va_D (fun _ => True) [(h, .inr (8, [.int th, .int (nI G), .ref (b 0), .ref (b 1), .int (nI C), .ref (b 2), .ref (b 3), .ref (b 4), .ref (b 5), .ref (b 6), .ref (b 7), .ref (b 8), .ref (b 9), .ref (b 10), .ref (b 11), .ref (b 12), .ref (b 13), .ref (b 14), .ref (b 15), .ref (b 16), .ref (b 17), .ref (b 18), .int (zb hs), .ref (b 19), .ref (b 20)]))])) (zv (some (.int (zb false))) D [(h, .inr (8, [.int t, .int (nI G), .ref (b 0), .ref (b 1), .int (nI C), .ref (b 2), .ref (b 3), .ref (b 4), .ref (b 5), .ref (b 6), .ref (b 7), .ref (b 8), .ref (b 9), .ref (b 10), .ref (b 11), .ref (b 12), .ref (b 13), .ref (b 14), .ref (b 15), .ref (b 16), .ref (b 17), .ref (b 18), .int (zb hs), .ref (b 19), .ref (b 20)]))] (va_A [(h, .inr (8, [.int th, .int (nI G), .ref (b 0), .ref (b 1), .int (nI C), .ref (b 2), .ref (b 3), .ref (b 4), .ref (b 5), .ref (b 6), .ref (b 7), .ref (b 8), .ref (b 9), .ref (b 10), .ref (b 11), .ref (b 12), .ref (b 13), .ref (b 14), .ref (b 15), .ref (b 16), .ref (b 17), .ref (b 18), .int (zb hs), .ref (b 19), .ref (b 20)]))] sz)) 0 0 (va_A [(h, .inr (8, [.int th, .int (nI G), .ref (b 0), .ref (b 1), .int (nI C), .ref (b 2), .ref (b 3), .ref (b 4), .ref (b 5), .ref (b 6), .ref (b 7), .ref (b 8), .ref (b 9), .ref (b 10), .ref (b 11), .ref (b 12), .ref (b 13), .ref (b 14), .ref (b 15), .ref (b 16), .ref (b 17), .ref (b 18), .int (zb hs), .ref (b 19), .ref (b 20)]))] sz) := by
  refine Met.ofW (cc := b_MO_open) (maxL := 4) (ret := (some .boolean)) (by decide +kernel) rfl ?_
  intro p e s m args below meth c s₁ B hml hv
  obtain ⟨rfl, hsz, hok, hP, hK, hD0⟩ := hv
  have hx := B.exec
  have hb := B.bytes
  have hr := B.returns
  have hown : s.vm.findClass "StudyAuditModel" = some m.cls := findClass_of_methodNamed B.named
  have hlocks := B.notSynchronized
  subst hsz
  have hD := hD0.self (sz := s.heap.size)
  generalize hAe : va_A [(h, .inr (8, [.int th, .int (nI G), .ref (b 0), .ref (b 1), .int (nI C), .ref (b 2), .ref (b 3), .ref (b 4), .ref (b 5), .ref (b 6), .ref (b 7), .ref (b 8), .ref (b 9), .ref (b 10), .ref (b 11), .ref (b 12), .ref (b 13), .ref (b 14), .ref (b 15), .ref (b 16), .ref (b 17), .ref (b 18), .int (zb hs), .ref (b 19), .ref (b 20)]))] s.heap.size = A at hD ⊢
  have hA : ∀ q : Nat, s.heap.size ≤ q → A q := fun q h => by rw [← hAe]; exact Or.inr h
  have hS : va_S A s.heap s.heap [] := va_S.rf
  have hl := lv_entry ([.ref h, .int x, .int (zb i)]) (n := 4) (Nat.le_of_ble_eq_true rfl)
  rw [lg_entry_eq]
  generalize (lg_sl ([.ref h, .int x, .int (zb i)]) ++ List.replicate (4 - (lg_sl ([.ref h, .int x, .int (zb i)])).length) Slot.unset).toArray = ls at hl ⊢
  have hl : lv_has ls 4 [(0, .ref h), (1, .int x), (2, .int (zb i))] := hl
  refine lv_aload_n hx hb d_MO_open_0 rfl (lv_at hl 0 rfl) ?_
  refine lv_aload_n hx hb d_MO_open_1 rfl (lv_at hl 0 rfl) ?_
  refine lv_iload_n hx hb d_MO_open_2 rfl (lv_at hl 1 rfl) ?_
  refine zc_read (va_runV (Ts := []) (As := [.int x]) (rest := [.ref h]) ⟨hx, hb, hml, hown, fun _ h => absurd h List.not_mem_nil⟩ (m_MO_noCourse l D cI cJ cZ cP cS h b th G C hs x) ⟨zc_B 1 hok c_MO_noCourse_w t_10 t_802 rfl rfl (by decide +kernel) ⟨Nat.le_of_ble_eq_true rfl, Nat.le_of_ble_eq_true rfl⟩, hok _ t_804 rfl _, hok _ s_20 rfl _⟩ ⟨fun a U g mk q => by obtain ⟨q0, q2, qP, qK⟩ := q; exact ⟨q0, q2.call g mk a, qP, va_K.moved (u := U) (U := U.calling g mk a) (Vm.Alike.refl U.vm) qK⟩, va_recv hK hP (ci := 8) (q0 := 0) rfl rfl, fun U hU hW => ⟨rfl, hok.warm hW, by rw [hU]; exact hP.sub [0] rfl, va_K.moved hW.alike hK⟩⟩ rfl rfl hl.1 rfl (lv_room (Nat.le_of_ble_eq_true rfl)) d_MO_open_3 ⟨Nat.le_of_ble_eq_true rfl, Nat.le_of_ble_eq_true rfl⟩) ?_
  refine W.eq (g2 := F0 m 6 ls [.int (zb (yng C x)), .ref h]) rfl ?_
  refine lv_if_eq (tgt := 13) hx hb d_MO_open_6 (by decide) (fun h6 => ?_) (fun h6 => ?_)
  · refine lv_iconst (v := 0) hx hb d_MO_open_13 (by decide) ?_
    have e9 : yto C x = 0 := by first | (simp [yto, h6]; done)
    exact absurd (ht.symm.trans e9) hn
  · refine lv_iconst (v := 1) hx hb d_MO_open_9 (by decide) ?_
    refine lv_goto (tgt := 14) hx hb d_MO_open_10 (by decide) ?_
    have e9 : yto C x = 1 := by first | (simp [yto, h6]; done)
    obtain rfl : t = 1 := ht.symm.trans e9
    refine va_put (D := D) (ci := 8) (v := .int 1) (ty := .int) (C := R_MO) (T := F_MO) (N := 25) hx hb (tb_in hok in_MO) (fun w h => h) g_MO g_MO_ok n_MO hown hK hP hD hS 0 rfl rfl 0 (by decide) (hok _ t_705 rfl _) (fun _ h9 => h9) rfl (by decide +kernel) rfl rfl (Nat.le_of_ble_eq_true rfl) d_MO_open_14 (fun H locs hP hD hS => ?_)
    have hP : va_P D cls [(h, .inr (8, [.int 1, .int (nI G), .ref (b 0), .ref (b 1), .int (nI C), .ref (b 2), .ref (b 3), .ref (b 4), .ref (b 5), .ref (b 6), .ref (b 7), .ref (b 8), .ref (b 9), .ref (b 10), .ref (b 11), .ref (b 12), .ref (b 13), .ref (b 14), .ref (b 15), .ref (b 16), .ref (b 17), .ref (b 18), .int (zb hs), .ref (b 19), .ref (b 20)]))] H := hP
    have hD : va_D A [(h, .inr (8, [.int 1, .int (nI G), .ref (b 0), .ref (b 1), .int (nI C), .ref (b 2), .ref (b 3), .ref (b 4), .ref (b 5), .ref (b 6), .ref (b 7), .ref (b 8), .ref (b 9), .ref (b 10), .ref (b 11), .ref (b 12), .ref (b 13), .ref (b 14), .ref (b 15), .ref (b 16), .ref (b 17), .ref (b 18), .int (zb hs), .ref (b 19), .ref (b 20)]))] := hD
    refine lv_aload_n hx hb d_MO_open_17 rfl (lv_at hl 0 rfl) ?_
    refine va_get (D := D) (ci := 8) (v := .int 1) (C := R_MO) (T := F_MO) (N := 25) hx hb (tb_in hok in_MO) (fun w h => h) hown hK hP 0 rfl rfl 0 (by decide) (hok _ t_705 rfl _) (fun _ h9 => h9) rfl d_MO_open_18 ?_
    refine lv_if_le (tgt := 26) hx hb d_MO_open_21 (by decide) (fun h21 => absurd h21 (show ¬ (1 : Int32) ≤ 0 by decide)) (fun h21 => ?_)
    refine lv_iconst (v := 0) hx hb d_MO_open_24 (by decide) ?_
    exact W.zret hx hb hr (by decide) (fun t ht _ => ⟨⟨rfl, by rw [ht]; exact hP, hD⟩, hS.F ht⟩) hS.2.2 d_MO_open_25
def yte (C : Nat) (x y : Int32) : Int32 := if ¬ zb (yng C x) = 0 ∨ y < -1 ∨ ¬ y ≤ 40 then 1 else 0
abbrev ro_MO_expire : Room := { frames := 1, cells := 0, slots := 0, locals := 21 }
set_option maxHeartbeats 4000000 in
set_option maxRecDepth 100000 in
theorem m_MO_expire_ok (l : Launch) (D : va_G) (cI cJ cZ cP cS : ClassId) (h : Nat) (b : Nat → Nat) (th : Int32) (G C : Nat) (hs : Bool) (c0 : Nat) (y : Int32) (lf : Nat → Int32) (hc0 : c0 < 12) (ht : yte C (nI c0) y = 0) (sz : Nat) : Met l y_MO_expire [Cond.code y_MO_expire b_MO_expire 4 (some .int)] ro_MO_expire (va_Pc [.ref h, .int (nI c0), .int y] (fun U => U.heap.size = sz ∧ tb_ok U ∧ va_P D cls [(h, .inr (8, [.int th, .int (nI G), .ref (b 0), .ref (b 1), .int (nI C), .ref (b 2), .ref (b 3), .ref (b 4), .ref (b 5), .ref (b 6), .ref (b 7), .ref (b 8), .ref (b 9), .ref (b 10), .ref (b 11), .ref (b 12), .ref (b 13), .ref (b 14), .ref (b 15), .ref (b 16), .ref (b 17), .ref (b 18), .int (zb hs), .ref (b 19), .ref (b 20)])), ((b 4), .inl (cI, 12, .inl lf))] U.heap ∧ va_K D cls (tyl cI cJ cZ cP cS) U ∧ va_D (fun _ => True) [(h, .inr (8, [.int th, .int (nI G), .ref (b 0), .ref (b 1), .int (nI C), .ref (b 2), .ref (b 3), .ref (b 4), .ref (b 5), .ref (b 6), .ref (b 7), .ref (b 8), .ref (b 9), .ref (b 10), .ref (b 11), .ref (b 12), .ref (b 13), .ref (b 14), .ref (b 15), .ref (b 16), .ref (b 17), .ref (b 18), .int (zb hs), .ref (b 19), .ref (b 20)])), ((b 4), .inl (cI, 12, .inl lf))])) (zv (some (.int (lf c0))) D [(h, .inr (8, [.int 0, .int (nI G), .ref (b 0), .ref (b 1), .int (nI C), .ref (b 2), .ref (b 3), .ref (b 4), .ref (b 5), .ref (b 6), .ref (b 7), .ref (b 8), .ref (b 9), .ref (b 10), .ref (b 11), .ref (b 12), .ref (b 13), .ref (b 14), .ref (b 15), .ref (b 16), .ref (b 17), .ref (b 18), .int (zb hs), .ref (b 19), .ref (b 20)])), ((b 4), .inl (cI, 12, .inl (upd lf c0 y)))] (va_A [(h, .inr (8, [.int th, .int (nI G), .ref (b 0), .ref (b 1), .int (nI C), .ref (b 2), .ref (b 3), .ref (b 4), .ref (b 5), .ref (b 6), .ref (b 7), .ref (b 8), .ref (b 9), .ref (b 10), .ref (b 11), .ref (b 12), .ref (b 13), .ref (b 14), .ref (b 15), .ref (b 16), .ref (b 17), .ref (b 18), .int (zb hs), .ref (b 19), .ref (b 20)])), ((b 4), .inl (cI, 12, .inl lf))] sz)) 0 0 (va_A [(h, .inr (8, [.int th, .int (nI G), .ref (b 0), .ref (b 1), .int (nI C), .ref (b 2), .ref (b 3), .ref (b 4), .ref (b 5), .ref (b 6), .ref (b 7), .ref (b 8), .ref (b 9), .ref (b 10), .ref (b 11), .ref (b 12), .ref (b 13), .ref (b 14), .ref (b 15), .ref (b 16), .ref (b 17), .ref (b 18), .int (zb hs), .ref (b 19), .ref (b 20)])), ((b 4), .inl (cI, 12, .inl lf))] sz) := by
  refine Met.ofW (cc := b_MO_expire) (maxL := 4) (ret := (some .int)) (by decide +kernel) rfl ?_
  intro p e s m args below meth c s₁ B hml hv
  obtain ⟨rfl, hsz, hok, hP, hK, hD0⟩ := hv
  have hx := B.exec
  have hb := B.bytes
  have hr := B.returns
  have hown : s.vm.findClass "StudyAuditModel" = some m.cls := findClass_of_methodNamed B.named
  have hlocks := B.notSynchronized
  subst hsz
  have hD := hD0.self (sz := s.heap.size)
  generalize hAe : va_A [(h, .inr (8, [.int th, .int (nI G), .ref (b 0), .ref (b 1), .int (nI C), .ref (b 2), .ref (b 3), .ref (b 4), .ref (b 5), .ref (b 6), .ref (b 7), .ref (b 8), .ref (b 9), .ref (b 10), .ref (b 11), .ref (b 12), .ref (b 13), .ref (b 14), .ref (b 15), .ref (b 16), .ref (b 17), .ref (b 18), .int (zb hs), .ref (b 19), .ref (b 20)])), ((b 4), .inl (cI, 12, .inl lf))] s.heap.size = A at hD ⊢
  have hA : ∀ q : Nat, s.heap.size ≤ q → A q := fun q h => by rw [← hAe]; exact Or.inr h
  have hS : va_S A s.heap s.heap [] := va_S.rf
  have hl := lv_entry ([.ref h, .int (nI c0), .int y]) (n := 4) (Nat.le_of_ble_eq_true rfl)
  rw [lg_entry_eq]
  generalize (lg_sl ([.ref h, .int (nI c0), .int y]) ++ List.replicate (4 - (lg_sl ([.ref h, .int (nI c0), .int y])).length) Slot.unset).toArray = ls at hl ⊢
  have hl : lv_has ls 4 [(0, .ref h), (1, .int (nI c0)), (2, .int y)] := hl
  refine lv_aload_n hx hb d_MO_expire_0 rfl (lv_at hl 0 rfl) ?_
  refine lv_aload_n hx hb d_MO_expire_1 rfl (lv_at hl 0 rfl) ?_
  refine lv_iload_n hx hb d_MO_expire_2 rfl (lv_at hl 1 rfl) ?_
  refine zc_read (va_runV (Ts := []) (As := [.int (nI c0)]) (rest := [.ref h]) ⟨hx, hb, hml, hown, fun _ h => absurd h List.not_mem_nil⟩ (m_MO_noCourse l D cI cJ cZ cP cS h b th G C hs (nI c0)) ⟨zc_B 1 hok c_MO_noCourse_w t_10 t_802 rfl rfl (by decide +kernel) ⟨Nat.le_of_ble_eq_true rfl, Nat.le_of_ble_eq_true rfl⟩, hok _ t_804 rfl _, hok _ s_20 rfl _⟩ ⟨fun a U g mk q => by obtain ⟨q0, q2, qP, qK⟩ := q; exact ⟨q0, q2.call g mk a, qP, va_K.moved (u := U) (U := U.calling g mk a) (Vm.Alike.refl U.vm) qK⟩, va_recv hK hP (ci := 8) (q0 := 0) rfl rfl, fun U hU hW => ⟨rfl, hok.warm hW, by rw [hU]; exact hP.sub [0] rfl, va_K.moved hW.alike hK⟩⟩ rfl rfl hl.1 rfl (lv_room (Nat.le_of_ble_eq_true rfl)) d_MO_expire_3 ⟨Nat.le_of_ble_eq_true rfl, Nat.le_of_ble_eq_true rfl⟩) ?_
  refine W.eq (g2 := F0 m 6 ls [.int (zb (yng C (nI c0))), .ref h]) rfl ?_
  refine lv_if_ne (tgt := 20) hx hb d_MO_expire_6 (by decide) (fun h6 => ?_) (fun h6 => ?_)
  · refine lv_iconst (v := 1) hx hb d_MO_expire_20 (by decide) ?_
    refine lv_goto (tgt := 25) hx hb d_MO_expire_21 (by decide) ?_
    have e9 : yte C (nI c0) y = 1 := by first | (simp [yte, h6]; done)
    exact absurd (ht.symm.trans e9) (by decide)
  · refine lv_iload_n hx hb d_MO_expire_9 rfl (lv_at hl 2 rfl) ?_
    refine lv_iconst (v := (-1)) hx hb d_MO_expire_10 (by decide) ?_
    refine lv_icmp_lt (tgt := 20) hx hb d_MO_expire_11 (by decide) (fun h11 => ?_) (fun h11 => ?_)
    · refine lv_iconst (v := 1) hx hb d_MO_expire_20 (by decide) ?_
      refine lv_goto (tgt := 25) hx hb d_MO_expire_21 (by decide) ?_
      have e9 : yte C (nI c0) y = 1 := by first | (simp [yte, h6, h11]; done)
      exact absurd (ht.symm.trans e9) (by decide)
    · refine lv_iload_n hx hb d_MO_expire_14 rfl (lv_at hl 2 rfl) ?_
      refine lv_bipush (v := 40) hx hb d_MO_expire_15 (by decide) ?_
      refine lv_icmp_le (tgt := 24) hx hb d_MO_expire_17 (by decide) (fun h17 => ?_) (fun h17 => ?_)
      · refine lv_iconst (v := 0) hx hb d_MO_expire_24 (by decide) ?_
        have e9 : yte C (nI c0) y = 0 := by first | (simp [yte, h6, h11, h17]; done)
        refine va_put (D := D) (ci := 8) (v := .int 0) (ty := .int) (C := R_MO) (T := F_MO) (N := 25) hx hb (tb_in hok in_MO) (fun w h => h) g_MO g_MO_ok n_MO hown hK hP hD hS 0 rfl rfl 0 (by decide) (hok _ t_705 rfl _) (fun _ h9 => h9) rfl (by decide +kernel) rfl rfl (Nat.le_of_ble_eq_true rfl) d_MO_expire_25 (fun H locs hP hD hS => ?_)
        have hP : va_P D cls [(h, .inr (8, [.int 0, .int (nI G), .ref (b 0), .ref (b 1), .int (nI C), .ref (b 2), .ref (b 3), .ref (b 4), .ref (b 5), .ref (b 6), .ref (b 7), .ref (b 8), .ref (b 9), .ref (b 10), .ref (b 11), .ref (b 12), .ref (b 13), .ref (b 14), .ref (b 15), .ref (b 16), .ref (b 17), .ref (b 18), .int (zb hs), .ref (b 19), .ref (b 20)])), ((b 4), .inl (cI, 12, .inl lf))] H := hP
        have hD : va_D A [(h, .inr (8, [.int 0, .int (nI G), .ref (b 0), .ref (b 1), .int (nI C), .ref (b 2), .ref (b 3), .ref (b 4), .ref (b 5), .ref (b 6), .ref (b 7), .ref (b 8), .ref (b 9), .ref (b 10), .ref (b 11), .ref (b 12), .ref (b 13), .ref (b 14), .ref (b 15), .ref (b 16), .ref (b 17), .ref (b 18), .int (zb hs), .ref (b 19), .ref (b 20)])), ((b 4), .inl (cI, 12, .inl lf))] := hD
        refine lv_aload_n hx hb d_MO_expire_28 rfl (lv_at hl 0 rfl) ?_
        refine va_get (D := D) (ci := 8) (v := .int 0) (C := R_MO) (T := F_MO) (N := 25) hx hb (tb_in hok in_MO) (fun w h => h) hown hK hP 0 rfl rfl 0 (by decide) (hok _ t_705 rfl _) (fun _ h9 => h9) rfl d_MO_expire_29 ?_
        refine lv_if_le (tgt := 37) hx hb d_MO_expire_32 (by decide) (fun h32 => ?_) (fun h32 => absurd (show (0 : Int32) ≤ 0 by decide) h32)
        refine lv_aload_n hx hb d_MO_expire_37 rfl (lv_at hl 0 rfl) ?_
        refine va_get (D := D) (ci := 8) (v := .ref (b 4)) (C := R_MO) (T := F_MO) (N := 25) hx hb (tb_in hok in_MO) (fun w h => h) hown hK hP 0 rfl rfl 7 (by decide) (hok _ t_712 rfl _) (fun _ h9 => h9) rfl d_MO_expire_38 ?_
        refine lv_iload_n hx hb d_MO_expire_41 rfl (lv_at hl 1 rfl) ?_
        refine va_iald hx hb hK hP 1 0 rfl rfl (vp_in_nI (by omega) (by omega)) d_MO_expire_42 ?_
        rw [nI_clamp (show c0 < 2 ^ 31 from by omega)]
        refine lv_istore_n hx hb d_MO_expire_43 rfl hl (by decide) rfl (fun ls hl => ?_)
        have hl : lv_has ls 4 [(3, .int (lf c0)), (0, .ref h), (1, .int (nI c0)), (2, .int y)] := hl
        refine lv_aload_n hx hb d_MO_expire_44 rfl (lv_at hl 1 rfl) ?_
        refine va_get (D := D) (ci := 8) (v := .ref (b 4)) (C := R_MO) (T := F_MO) (N := 25) hx hb (tb_in hok in_MO) (fun w h => h) hown hK hP 0 rfl rfl 7 (by decide) (hok _ t_712 rfl _) (fun _ h9 => h9) rfl d_MO_expire_45 ?_
        refine lv_iload_n hx hb d_MO_expire_48 rfl (lv_at hl 2 rfl) ?_
        refine lv_iload_n hx hb d_MO_expire_49 rfl (lv_at hl 3 rfl) ?_
        refine va_iast hx hb hK hP hD hS 1 0 rfl rfl (vp_in_nI (by omega) (by omega)) d_MO_expire_50 (fun H locs hP hD hS => ?_)
        rw [nI_clamp (show c0 < 2 ^ 31 from by omega)] at hP hD
        have hP : va_P D cls [(h, .inr (8, [.int 0, .int (nI G), .ref (b 0), .ref (b 1), .int (nI C), .ref (b 2), .ref (b 3), .ref (b 4), .ref (b 5), .ref (b 6), .ref (b 7), .ref (b 8), .ref (b 9), .ref (b 10), .ref (b 11), .ref (b 12), .ref (b 13), .ref (b 14), .ref (b 15), .ref (b 16), .ref (b 17), .ref (b 18), .int (zb hs), .ref (b 19), .ref (b 20)])), ((b 4), .inl (cI, 12, .inl (upd lf c0 y)))] H := hP
        have hD : va_D A [(h, .inr (8, [.int 0, .int (nI G), .ref (b 0), .ref (b 1), .int (nI C), .ref (b 2), .ref (b 3), .ref (b 4), .ref (b 5), .ref (b 6), .ref (b 7), .ref (b 8), .ref (b 9), .ref (b 10), .ref (b 11), .ref (b 12), .ref (b 13), .ref (b 14), .ref (b 15), .ref (b 16), .ref (b 17), .ref (b 18), .int (zb hs), .ref (b 19), .ref (b 20)])), ((b 4), .inl (cI, 12, .inl (upd lf c0 y)))] := hD
        refine lv_iload_n hx hb d_MO_expire_51 rfl (lv_at hl 0 rfl) ?_
        exact W.iret hx hb hr (fun t ht _ => ⟨⟨rfl, by rw [ht]; exact hP, hD⟩, hS.F ht⟩) hS.2.2 d_MO_expire_52
      · refine lv_iconst (v := 1) hx hb d_MO_expire_20 (by decide) ?_
        refine lv_goto (tgt := 25) hx hb d_MO_expire_21 (by decide) ?_
        have e9 : yte C (nI c0) y = 1 := by first | (simp [yte, h6, h11, h17]; done)
        exact absurd (ht.symm.trans e9) (by decide)
set_option maxHeartbeats 4000000 in
set_option maxRecDepth 100000 in
theorem m_MO_expire_bad (l : Launch) (D : va_G) (cI cJ cZ cP cS : ClassId) (h : Nat) (b : Nat → Nat) (th : Int32) (G C : Nat) (hs : Bool) (x y : Int32) (t : Int32) (ht : yte C x y = t) (hn : ¬ t = 0) (sz : Nat) : Met l y_MO_expire [Cond.code y_MO_expire b_MO_expire 4 (some .int)] ro_MO_expire (va_Pc [.ref h, .int x, .int y] (fun U => U.heap.size = sz ∧ tb_ok U ∧ va_P D cls [(h, .inr (8, [.int th, .int (nI G), .ref (b 0), .ref (b 1), .int (nI C), .ref (b 2), .ref (b 3), .ref (b 4), .ref (b 5), .ref (b 6), .ref (b 7), .ref (b 8), .ref (b 9), .ref (b 10), .ref (b 11), .ref (b 12), .ref (b 13), .ref (b 14), .ref (b 15), .ref (b 16), .ref (b 17), .ref (b 18), .int (zb hs), .ref (b 19), .ref (b 20)]))] U.heap ∧ va_K D cls (tyl cI cJ cZ cP cS) U ∧ va_D (fun _ => True) [(h, .inr (8, [.int th, .int (nI G), .ref (b 0), .ref (b 1), .int (nI C), .ref (b 2), .ref (b 3), .ref (b 4), .ref (b 5), .ref (b 6), .ref (b 7), .ref (b 8), .ref (b 9), .ref (b 10), .ref (b 11), .ref (b 12), .ref (b 13), .ref (b 14), .ref (b 15), .ref (b 16), .ref (b 17), .ref (b 18), .int (zb hs), .ref (b 19), .ref (b 20)]))])) (zv (some (.int 0)) D [(h, .inr (8, [.int t, .int (nI G), .ref (b 0), .ref (b 1), .int (nI C), .ref (b 2), .ref (b 3), .ref (b 4), .ref (b 5), .ref (b 6), .ref (b 7), .ref (b 8), .ref (b 9), .ref (b 10), .ref (b 11), .ref (b 12), .ref (b 13), .ref (b 14), .ref (b 15), .ref (b 16), .ref (b 17), .ref (b 18), .int (zb hs), .ref (b 19), .ref (b 20)]))] (va_A [(h, .inr (8, [.int th, .int (nI G), .ref (b 0), .ref (b 1), .int (nI C), .ref (b 2), .ref (b 3), .ref (b 4), .ref (b 5), .ref (b 6), .ref (b 7), .ref (b 8), .ref (b 9), .ref (b 10), .ref (b 11), .ref (b 12), .ref (b 13), .ref (b 14), .ref (b 15), .ref (b 16), .ref (b 17), .ref (b 18), .int (zb hs), .ref (b 19), .ref (b 20)]))] sz)) 0 0 (va_A [(h, .inr (8, [.int th, .int (nI G), .ref (b 0), .ref (b 1), .int (nI C), .ref (b 2), .ref (b 3), .ref (b 4), .ref (b 5), .ref (b 6), .ref (b 7), .ref (b 8), .ref (b 9), .ref (b 10), .ref (b 11), .ref (b 12), .ref (b 13), .ref (b 14), .ref (b 15), .ref (b 16), .ref (b 17), .ref (b 18), .int (zb hs), .ref (b 19), .ref (b 20)]))] sz) := by
  refine Met.ofW (cc := b_MO_expire) (maxL := 4) (ret := (some .int)) (by decide +kernel) rfl ?_
  intro p e s m args below meth c s₁ B hml hv
  obtain ⟨rfl, hsz, hok, hP, hK, hD0⟩ := hv
  have hx := B.exec
  have hb := B.bytes
  have hr := B.returns
  have hown : s.vm.findClass "StudyAuditModel" = some m.cls := findClass_of_methodNamed B.named
  have hlocks := B.notSynchronized
  subst hsz
  have hD := hD0.self (sz := s.heap.size)
  generalize hAe : va_A [(h, .inr (8, [.int th, .int (nI G), .ref (b 0), .ref (b 1), .int (nI C), .ref (b 2), .ref (b 3), .ref (b 4), .ref (b 5), .ref (b 6), .ref (b 7), .ref (b 8), .ref (b 9), .ref (b 10), .ref (b 11), .ref (b 12), .ref (b 13), .ref (b 14), .ref (b 15), .ref (b 16), .ref (b 17), .ref (b 18), .int (zb hs), .ref (b 19), .ref (b 20)]))] s.heap.size = A at hD ⊢
  have hA : ∀ q : Nat, s.heap.size ≤ q → A q := fun q h => by rw [← hAe]; exact Or.inr h
  have hS : va_S A s.heap s.heap [] := va_S.rf
  have hl := lv_entry ([.ref h, .int x, .int y]) (n := 4) (Nat.le_of_ble_eq_true rfl)
  rw [lg_entry_eq]
  generalize (lg_sl ([.ref h, .int x, .int y]) ++ List.replicate (4 - (lg_sl ([.ref h, .int x, .int y])).length) Slot.unset).toArray = ls at hl ⊢
  have hl : lv_has ls 4 [(0, .ref h), (1, .int x), (2, .int y)] := hl
  refine lv_aload_n hx hb d_MO_expire_0 rfl (lv_at hl 0 rfl) ?_
  refine lv_aload_n hx hb d_MO_expire_1 rfl (lv_at hl 0 rfl) ?_
  refine lv_iload_n hx hb d_MO_expire_2 rfl (lv_at hl 1 rfl) ?_
  refine zc_read (va_runV (Ts := []) (As := [.int x]) (rest := [.ref h]) ⟨hx, hb, hml, hown, fun _ h => absurd h List.not_mem_nil⟩ (m_MO_noCourse l D cI cJ cZ cP cS h b th G C hs x) ⟨zc_B 1 hok c_MO_noCourse_w t_10 t_802 rfl rfl (by decide +kernel) ⟨Nat.le_of_ble_eq_true rfl, Nat.le_of_ble_eq_true rfl⟩, hok _ t_804 rfl _, hok _ s_20 rfl _⟩ ⟨fun a U g mk q => by obtain ⟨q0, q2, qP, qK⟩ := q; exact ⟨q0, q2.call g mk a, qP, va_K.moved (u := U) (U := U.calling g mk a) (Vm.Alike.refl U.vm) qK⟩, va_recv hK hP (ci := 8) (q0 := 0) rfl rfl, fun U hU hW => ⟨rfl, hok.warm hW, by rw [hU]; exact hP.sub [0] rfl, va_K.moved hW.alike hK⟩⟩ rfl rfl hl.1 rfl (lv_room (Nat.le_of_ble_eq_true rfl)) d_MO_expire_3 ⟨Nat.le_of_ble_eq_true rfl, Nat.le_of_ble_eq_true rfl⟩) ?_
  refine W.eq (g2 := F0 m 6 ls [.int (zb (yng C x)), .ref h]) rfl ?_
  refine lv_if_ne (tgt := 20) hx hb d_MO_expire_6 (by decide) (fun h6 => ?_) (fun h6 => ?_)
  · refine lv_iconst (v := 1) hx hb d_MO_expire_20 (by decide) ?_
    refine lv_goto (tgt := 25) hx hb d_MO_expire_21 (by decide) ?_
    have e9 : yte C x y = 1 := by first | (simp [yte, h6]; done)
    obtain rfl : t = 1 := ht.symm.trans e9
    refine va_put (D := D) (ci := 8) (v := .int 1) (ty := .int) (C := R_MO) (T := F_MO) (N := 25) hx hb (tb_in hok in_MO) (fun w h => h) g_MO g_MO_ok n_MO hown hK hP hD hS 0 rfl rfl 0 (by decide) (hok _ t_705 rfl _) (fun _ h9 => h9) rfl (by decide +kernel) rfl rfl (Nat.le_of_ble_eq_true rfl) d_MO_expire_25 (fun H locs hP hD hS => ?_)
    have hP : va_P D cls [(h, .inr (8, [.int 1, .int (nI G), .ref (b 0), .ref (b 1), .int (nI C), .ref (b 2), .ref (b 3), .ref (b 4), .ref (b 5), .ref (b 6), .ref (b 7), .ref (b 8), .ref (b 9), .ref (b 10), .ref (b 11), .ref (b 12), .ref (b 13), .ref (b 14), .ref (b 15), .ref (b 16), .ref (b 17), .ref (b 18), .int (zb hs), .ref (b 19), .ref (b 20)]))] H := hP
    have hD : va_D A [(h, .inr (8, [.int 1, .int (nI G), .ref (b 0), .ref (b 1), .int (nI C), .ref (b 2), .ref (b 3), .ref (b 4), .ref (b 5), .ref (b 6), .ref (b 7), .ref (b 8), .ref (b 9), .ref (b 10), .ref (b 11), .ref (b 12), .ref (b 13), .ref (b 14), .ref (b 15), .ref (b 16), .ref (b 17), .ref (b 18), .int (zb hs), .ref (b 19), .ref (b 20)]))] := hD
    refine lv_aload_n hx hb d_MO_expire_28 rfl (lv_at hl 0 rfl) ?_
    refine va_get (D := D) (ci := 8) (v := .int 1) (C := R_MO) (T := F_MO) (N := 25) hx hb (tb_in hok in_MO) (fun w h => h) hown hK hP 0 rfl rfl 0 (by decide) (hok _ t_705 rfl _) (fun _ h9 => h9) rfl d_MO_expire_29 ?_
    refine lv_if_le (tgt := 37) hx hb d_MO_expire_32 (by decide) (fun h32 => absurd h32 (show ¬ (1 : Int32) ≤ 0 by decide)) (fun h32 => ?_)
    refine lv_iconst (v := 0) hx hb d_MO_expire_35 (by decide) ?_
    exact W.iret hx hb hr (fun t ht _ => ⟨⟨rfl, by rw [ht]; exact hP, hD⟩, hS.F ht⟩) hS.2.2 d_MO_expire_36
  · refine lv_iload_n hx hb d_MO_expire_9 rfl (lv_at hl 2 rfl) ?_
    refine lv_iconst (v := (-1)) hx hb d_MO_expire_10 (by decide) ?_
    refine lv_icmp_lt (tgt := 20) hx hb d_MO_expire_11 (by decide) (fun h11 => ?_) (fun h11 => ?_)
    · refine lv_iconst (v := 1) hx hb d_MO_expire_20 (by decide) ?_
      refine lv_goto (tgt := 25) hx hb d_MO_expire_21 (by decide) ?_
      have e9 : yte C x y = 1 := by first | (simp [yte, h6, h11]; done)
      obtain rfl : t = 1 := ht.symm.trans e9
      refine va_put (D := D) (ci := 8) (v := .int 1) (ty := .int) (C := R_MO) (T := F_MO) (N := 25) hx hb (tb_in hok in_MO) (fun w h => h) g_MO g_MO_ok n_MO hown hK hP hD hS 0 rfl rfl 0 (by decide) (hok _ t_705 rfl _) (fun _ h9 => h9) rfl (by decide +kernel) rfl rfl (Nat.le_of_ble_eq_true rfl) d_MO_expire_25 (fun H locs hP hD hS => ?_)
      have hP : va_P D cls [(h, .inr (8, [.int 1, .int (nI G), .ref (b 0), .ref (b 1), .int (nI C), .ref (b 2), .ref (b 3), .ref (b 4), .ref (b 5), .ref (b 6), .ref (b 7), .ref (b 8), .ref (b 9), .ref (b 10), .ref (b 11), .ref (b 12), .ref (b 13), .ref (b 14), .ref (b 15), .ref (b 16), .ref (b 17), .ref (b 18), .int (zb hs), .ref (b 19), .ref (b 20)]))] H := hP
      have hD : va_D A [(h, .inr (8, [.int 1, .int (nI G), .ref (b 0), .ref (b 1), .int (nI C), .ref (b 2), .ref (b 3), .ref (b 4), .ref (b 5), .ref (b 6), .ref (b 7), .ref (b 8), .ref (b 9), .ref (b 10), .ref (b 11), .ref (b 12), .ref (b 13), .ref (b 14), .ref (b 15), .ref (b 16), .ref (b 17), .ref (b 18), .int (zb hs), .ref (b 19), .ref (b 20)]))] := hD
      refine lv_aload_n hx hb d_MO_expire_28 rfl (lv_at hl 0 rfl) ?_
      refine va_get (D := D) (ci := 8) (v := .int 1) (C := R_MO) (T := F_MO) (N := 25) hx hb (tb_in hok in_MO) (fun w h => h) hown hK hP 0 rfl rfl 0 (by decide) (hok _ t_705 rfl _) (fun _ h9 => h9) rfl d_MO_expire_29 ?_
      refine lv_if_le (tgt := 37) hx hb d_MO_expire_32 (by decide) (fun h32 => absurd h32 (show ¬ (1 : Int32) ≤ 0 by decide)) (fun h32 => ?_)
      refine lv_iconst (v := 0) hx hb d_MO_expire_35 (by decide) ?_
      exact W.iret hx hb hr (fun t ht _ => ⟨⟨rfl, by rw [ht]; exact hP, hD⟩, hS.F ht⟩) hS.2.2 d_MO_expire_36
    · refine lv_iload_n hx hb d_MO_expire_14 rfl (lv_at hl 2 rfl) ?_
      refine lv_bipush (v := 40) hx hb d_MO_expire_15 (by decide) ?_
      refine lv_icmp_le (tgt := 24) hx hb d_MO_expire_17 (by decide) (fun h17 => ?_) (fun h17 => ?_)
      · refine lv_iconst (v := 0) hx hb d_MO_expire_24 (by decide) ?_
        have e9 : yte C x y = 0 := by first | (simp [yte, h6, h11, h17]; done)
        exact absurd (ht.symm.trans e9) hn
      · refine lv_iconst (v := 1) hx hb d_MO_expire_20 (by decide) ?_
        refine lv_goto (tgt := 25) hx hb d_MO_expire_21 (by decide) ?_
        have e9 : yte C x y = 1 := by first | (simp [yte, h6, h11, h17]; done)
        obtain rfl : t = 1 := ht.symm.trans e9
        refine va_put (D := D) (ci := 8) (v := .int 1) (ty := .int) (C := R_MO) (T := F_MO) (N := 25) hx hb (tb_in hok in_MO) (fun w h => h) g_MO g_MO_ok n_MO hown hK hP hD hS 0 rfl rfl 0 (by decide) (hok _ t_705 rfl _) (fun _ h9 => h9) rfl (by decide +kernel) rfl rfl (Nat.le_of_ble_eq_true rfl) d_MO_expire_25 (fun H locs hP hD hS => ?_)
        have hP : va_P D cls [(h, .inr (8, [.int 1, .int (nI G), .ref (b 0), .ref (b 1), .int (nI C), .ref (b 2), .ref (b 3), .ref (b 4), .ref (b 5), .ref (b 6), .ref (b 7), .ref (b 8), .ref (b 9), .ref (b 10), .ref (b 11), .ref (b 12), .ref (b 13), .ref (b 14), .ref (b 15), .ref (b 16), .ref (b 17), .ref (b 18), .int (zb hs), .ref (b 19), .ref (b 20)]))] H := hP
        have hD : va_D A [(h, .inr (8, [.int 1, .int (nI G), .ref (b 0), .ref (b 1), .int (nI C), .ref (b 2), .ref (b 3), .ref (b 4), .ref (b 5), .ref (b 6), .ref (b 7), .ref (b 8), .ref (b 9), .ref (b 10), .ref (b 11), .ref (b 12), .ref (b 13), .ref (b 14), .ref (b 15), .ref (b 16), .ref (b 17), .ref (b 18), .int (zb hs), .ref (b 19), .ref (b 20)]))] := hD
        refine lv_aload_n hx hb d_MO_expire_28 rfl (lv_at hl 0 rfl) ?_
        refine va_get (D := D) (ci := 8) (v := .int 1) (C := R_MO) (T := F_MO) (N := 25) hx hb (tb_in hok in_MO) (fun w h => h) hown hK hP 0 rfl rfl 0 (by decide) (hok _ t_705 rfl _) (fun _ h9 => h9) rfl d_MO_expire_29 ?_
        refine lv_if_le (tgt := 37) hx hb d_MO_expire_32 (by decide) (fun h32 => absurd h32 (show ¬ (1 : Int32) ≤ 0 by decide)) (fun h32 => ?_)
        refine lv_iconst (v := 0) hx hb d_MO_expire_35 (by decide) ?_
        exact W.iret hx hb hr (fun t ht _ => ⟨⟨rfl, by rw [ht]; exact hP, hD⟩, hS.F ht⟩) hS.2.2 d_MO_expire_36
