/-! the reference: ways up the tree, what is most (rows by program) -/
def yfo (lm tk : Nat → Int32) (g : Nat) : Bool := decide (lm g < 0 ∨ ¬ lm g ≤ tk g)
def yfi (pa lm tk : Nat → Int32) (n g : Nat) (r : Bool) : Bool := match n with
  | 0 => r
  | k + 1 => if g = 0 then (r && yfo lm tk g) else yfi pa lm tk k (pa g).toNatClampNeg (r && yfo lm tk g)
abbrev ro_MO_fits : Room := { frames := 0, cells := 0, slots := 0, locals := 0 }
set_option maxHeartbeats 4000000 in
set_option maxRecDepth 100000 in
theorem lo_fits {l : Launch} {p : Program} {e : Env} {s : State} {m : MethodId} {args : Array Value} {below : List Frame} {meth : Method} {c : Code} {Q : State → Prop} {H : Heap} {Ls : List Loc} (D : va_G) (cI cJ cZ cP cS : ClassId) (h : Nat) (b : Nat → Nat) (th : Int32) (G C : Nat) (hs : Bool) (c0 : Nat) (pa lm go tk : Nat → Int32) (Z : Bool) (hx : p.tables.exec = Jvm.exec) (hb : c.code = b_MO_fits) (hml : c.maxLocals = 4) (hown : s.vm.findClass "StudyAuditModel" = some m.cls) (hok : tb_ok s) (hK : va_K D cls (tyl cI cJ cZ cP cS) s) (hP : va_P D cls [(h, .inr (8, [.int th, .int (nI G), .ref (b 0), .ref (b 1), .int (nI C), .ref (b 2), .ref (b 3), .ref (b 4), .ref (b 5), .ref (b 6), .ref (b 7), .ref (b 8), .ref (b 9), .ref (b 10), .ref (b 11), .ref (b 12), .ref (b 13), .ref (b 14), .ref (b 15), .ref (b 16), .ref (b 17), .ref (b 18), .int (zb hs), .ref (b 19), .ref (b 20)])), ((b 0), .inl (cI, 6, .inl pa)), ((b 1), .inl (cI, 6, .inl lm)), ((b 2), .inl (cI, 12, .inl go)), ((b 17), .inl (cI, 6, .inl tk))] H) (hG : G ≤ 6) (hp0 : 0 < G → pa 0 = -1) (htr : ∀ j, 0 < j → j < G → pa j = nI (pa j).toNatClampNeg ∧ (pa j).toNatClampNeg < j)
    (kk : ∀ (ls : Array Slot), lv_has ls 4 [(2, .int (zb Z))] → W p l e ro_MO_fits s m args below meth c H Ls 0 0 Q (F0 m 57 ls [])) :
    ∀ (k g : Nat) (r : Bool) (ls : Array Slot), g < k → g < G → yfi pa lm tk k g r = Z → lv_has ls 4 [(0, .ref h), (2, .int (zb r)), (3, .int (nI g))] → W p l e ro_MO_fits s m args below meth c H Ls 0 0 Q (F0 m 9 ls []) := by
  intro k
  induction k with
  | zero =>
    intro g r ls hgk
    omega
  | succ k ih =>
    intro g r ls hgk hgG hZ hl
    refine lv_iload_n hx hb d_MO_fits_9 rfl (lv_at hl 2 rfl) ?_
    refine lv_if_lt (tgt := 57) hx hb d_MO_fits_10 (by decide) (fun h10 => absurd h10 (nI_pos (by omega))) (fun h10 => ?_)
    refine lv_iload_n hx hb d_MO_fits_13 rfl (lv_at hl 1 rfl) ?_
    refine lv_if_eq (tgt := 45) hx hb d_MO_fits_14 (by decide) (fun h14 => ?_) (fun h14 => ?_)
    · refine lv_iconst (v := 0) hx hb d_MO_fits_45 (by decide) ?_
      refine lv_istore_n hx hb d_MO_fits_46 rfl hl (by decide) rfl (fun ls hl => ?_)
      have hl : lv_has ls 4 [(2, .int 0), (0, .ref h), (3, .int (nI g))] := hl
      refine lv_aload_n hx hb d_MO_fits_47 rfl (lv_at hl 1 rfl) ?_
      refine va_get (D := D) (ci := 8) (v := .ref (b 0)) (C := R_MO) (T := F_MO) (N := 25) hx hb (tb_in hok in_MO) (fun w h => h) hown hK hP 0 rfl rfl 2 (by decide) (hok _ t_707 rfl _) (fun _ h9 => h9) rfl d_MO_fits_48 ?_
      refine lv_iload_n hx hb d_MO_fits_51 rfl (lv_at hl 2 rfl) ?_
      refine va_iald hx hb hK hP 1 0 rfl rfl (vp_in_nI (by omega) (by omega)) d_MO_fits_52 ?_
      rw [nI_clamp (show g < 2 ^ 31 from by omega)]
      refine lv_istore_n hx hb d_MO_fits_53 rfl hl (by decide) rfl (fun ls hl => ?_)
      have hl : lv_has ls 4 [(3, .int (pa g)), (2, .int 0), (0, .ref h)] := hl
      refine lv_goto (tgt := 9) hx hb d_MO_fits_54 (by decide) ?_
      have er : (r && yfo lm tk g) = false := by rw [zb_0 h14]; rfl
      have hl : lv_has ls 4 [(3, .int (pa g)), (2, .int (zb (r && yfo lm tk g))), (0, .ref h)] := by rw [er]; exact hl
      by_cases g0 : g = 0
      · subst g0
        have hZ2 : (r && yfo lm tk 0) = Z := by rw [← hZ]; exact (if_pos rfl).symm
        have hl : lv_has ls 4 [(3, .int (-1)), (2, .int (zb Z)), (0, .ref h)] := by have h9 := lv_sub hl [0, 1, 2] rfl; rw [hp0 hgG] at h9; rw [← hZ2]; exact h9
        refine lv_iload_n hx hb d_MO_fits_9 rfl (lv_at hl 0 rfl) ?_
        refine lv_if_lt (tgt := 57) hx hb d_MO_fits_10 (by decide) (fun h10 => ?_) (fun h10 => absurd (show (-1 : Int32) < 0 by decide) h10)
        exact kk ls (lv_sub hl [1] rfl)
      · obtain ⟨e1, e2⟩ := htr g (Nat.pos_of_ne_zero g0) hgG
        have hZ2 : yfi pa lm tk k (pa g).toNatClampNeg ((r && yfo lm tk g)) = Z := by rw [← hZ]; exact (if_neg g0).symm
        have hl : lv_has ls 4 [(0, .ref h), (2, .int (zb (r && yfo lm tk g))), (3, .int (nI (pa g).toNatClampNeg))] := by have h9 : lv_has ls 4 [(0, .ref h), (2, .int (zb (r && yfo lm tk g))), (3, .int (pa g))] := lv_sub hl [2, 1, 0] rfl; rw [e1] at h9; exact h9
        exact ih (pa g).toNatClampNeg ((r && yfo lm tk g)) ls (by omega) (by omega) hZ2 hl
    · refine lv_aload_n hx hb d_MO_fits_17 rfl (lv_at hl 0 rfl) ?_
      refine va_get (D := D) (ci := 8) (v := .ref (b 1)) (C := R_MO) (T := F_MO) (N := 25) hx hb (tb_in hok in_MO) (fun w h => h) hown hK hP 0 rfl rfl 3 (by decide) (hok _ t_708 rfl _) (fun _ h9 => h9) rfl d_MO_fits_18 ?_
      refine lv_iload_n hx hb d_MO_fits_21 rfl (lv_at hl 2 rfl) ?_
      refine va_iald hx hb hK hP 2 0 rfl rfl (vp_in_nI (by omega) (by omega)) d_MO_fits_22 ?_
      rw [nI_clamp (show g < 2 ^ 31 from by omega)]
      refine lv_if_lt (tgt := 41) hx hb d_MO_fits_23 (by decide) (fun h23 => ?_) (fun h23 => ?_)
      · refine lv_iconst (v := 1) hx hb d_MO_fits_41 (by decide) ?_
        refine lv_goto (tgt := 46) hx hb d_MO_fits_42 (by decide) ?_
        refine lv_istore_n hx hb d_MO_fits_46 rfl hl (by decide) rfl (fun ls hl => ?_)
        have hl : lv_has ls 4 [(2, .int 1), (0, .ref h), (3, .int (nI g))] := hl
        refine lv_aload_n hx hb d_MO_fits_47 rfl (lv_at hl 1 rfl) ?_
        refine va_get (D := D) (ci := 8) (v := .ref (b 0)) (C := R_MO) (T := F_MO) (N := 25) hx hb (tb_in hok in_MO) (fun w h => h) hown hK hP 0 rfl rfl 2 (by decide) (hok _ t_707 rfl _) (fun _ h9 => h9) rfl d_MO_fits_48 ?_
        refine lv_iload_n hx hb d_MO_fits_51 rfl (lv_at hl 2 rfl) ?_
        refine va_iald hx hb hK hP 1 0 rfl rfl (vp_in_nI (by omega) (by omega)) d_MO_fits_52 ?_
        rw [nI_clamp (show g < 2 ^ 31 from by omega)]
        refine lv_istore_n hx hb d_MO_fits_53 rfl hl (by decide) rfl (fun ls hl => ?_)
        have hl : lv_has ls 4 [(3, .int (pa g)), (2, .int 1), (0, .ref h)] := hl
        refine lv_goto (tgt := 9) hx hb d_MO_fits_54 (by decide) ?_
        have er : (r && yfo lm tk g) = true := by rw [zb_1 h14, show yfo lm tk g = true from decide_eq_true (Or.inl h23)]; rfl
        have hl : lv_has ls 4 [(3, .int (pa g)), (2, .int (zb (r && yfo lm tk g))), (0, .ref h)] := by rw [er]; exact hl
        by_cases g0 : g = 0
        · subst g0
          have hZ2 : (r && yfo lm tk 0) = Z := by rw [← hZ]; exact (if_pos rfl).symm
          have hl : lv_has ls 4 [(3, .int (-1)), (2, .int (zb Z)), (0, .ref h)] := by have h9 := lv_sub hl [0, 1, 2] rfl; rw [hp0 hgG] at h9; rw [← hZ2]; exact h9
          refine lv_iload_n hx hb d_MO_fits_9 rfl (lv_at hl 0 rfl) ?_
          refine lv_if_lt (tgt := 57) hx hb d_MO_fits_10 (by decide) (fun h10 => ?_) (fun h10 => absurd (show (-1 : Int32) < 0 by decide) h10)
          exact kk ls (lv_sub hl [1] rfl)
        · obtain ⟨e1, e2⟩ := htr g (Nat.pos_of_ne_zero g0) hgG
          have hZ2 : yfi pa lm tk k (pa g).toNatClampNeg ((r && yfo lm tk g)) = Z := by rw [← hZ]; exact (if_neg g0).symm
          have hl : lv_has ls 4 [(0, .ref h), (2, .int (zb (r && yfo lm tk g))), (3, .int (nI (pa g).toNatClampNeg))] := by have h9 : lv_has ls 4 [(0, .ref h), (2, .int (zb (r && yfo lm tk g))), (3, .int (pa g))] := lv_sub hl [2, 1, 0] rfl; rw [e1] at h9; exact h9
          exact ih (pa g).toNatClampNeg ((r && yfo lm tk g)) ls (by omega) (by omega) hZ2 hl
      · refine lv_aload_n hx hb d_MO_fits_26 rfl (lv_at hl 0 rfl) ?_
        refine va_get (D := D) (ci := 8) (v := .ref (b 17)) (C := R_MO) (T := F_MO) (N := 25) hx hb (tb_in hok in_MO) (fun w h => h) hown hK hP 0 rfl rfl 20 (by decide) (hok _ t_725 rfl _) (fun _ h9 => h9) rfl d_MO_fits_27 ?_
        refine lv_iload_n hx hb d_MO_fits_30 rfl (lv_at hl 2 rfl) ?_
        refine va_iald hx hb hK hP 4 0 rfl rfl (vp_in_nI (by omega) (by omega)) d_MO_fits_31 ?_
        rw [nI_clamp (show g < 2 ^ 31 from by omega)]
        refine lv_aload_n hx hb d_MO_fits_32 rfl (lv_at hl 0 rfl) ?_
        refine va_get (D := D) (ci := 8) (v := .ref (b 1)) (C := R_MO) (T := F_MO) (N := 25) hx hb (tb_in hok in_MO) (fun w h => h) hown hK hP 0 rfl rfl 3 (by decide) (hok _ t_708 rfl _) (fun _ h9 => h9) rfl d_MO_fits_33 ?_
        refine lv_iload_n hx hb d_MO_fits_36 rfl (lv_at hl 2 rfl) ?_
        refine va_iald hx hb hK hP 2 0 rfl rfl (vp_in_nI (by omega) (by omega)) d_MO_fits_37 ?_
        rw [nI_clamp (show g < 2 ^ 31 from by omega)]
        refine lv_icmp_ge (tgt := 45) hx hb d_MO_fits_38 (by decide) (fun h38 => ?_) (fun h38 => ?_)
        · refine lv_iconst (v := 0) hx hb d_MO_fits_45 (by decide) ?_
          refine lv_istore_n hx hb d_MO_fits_46 rfl hl (by decide) rfl (fun ls hl => ?_)
          have hl : lv_has ls 4 [(2, .int 0), (0, .ref h), (3, .int (nI g))] := hl
          refine lv_aload_n hx hb d_MO_fits_47 rfl (lv_at hl 1 rfl) ?_
          refine va_get (D := D) (ci := 8) (v := .ref (b 0)) (C := R_MO) (T := F_MO) (N := 25) hx hb (tb_in hok in_MO) (fun w h => h) hown hK hP 0 rfl rfl 2 (by decide) (hok _ t_707 rfl _) (fun _ h9 => h9) rfl d_MO_fits_48 ?_
          refine lv_iload_n hx hb d_MO_fits_51 rfl (lv_at hl 2 rfl) ?_
          refine va_iald hx hb hK hP 1 0 rfl rfl (vp_in_nI (by omega) (by omega)) d_MO_fits_52 ?_
          rw [nI_clamp (show g < 2 ^ 31 from by omega)]
          refine lv_istore_n hx hb d_MO_fits_53 rfl hl (by decide) rfl (fun ls hl => ?_)
          have hl : lv_has ls 4 [(3, .int (pa g)), (2, .int 0), (0, .ref h)] := hl
          refine lv_goto (tgt := 9) hx hb d_MO_fits_54 (by decide) ?_
          have er : (r && yfo lm tk g) = false := by rw [show yfo lm tk g = false from decide_eq_false (fun z => z.elim h23 (fun z => z h38))]; exact Bool.and_false r
          have hl : lv_has ls 4 [(3, .int (pa g)), (2, .int (zb (r && yfo lm tk g))), (0, .ref h)] := by rw [er]; exact hl
          by_cases g0 : g = 0
          · subst g0
            have hZ2 : (r && yfo lm tk 0) = Z := by rw [← hZ]; exact (if_pos rfl).symm
            have hl : lv_has ls 4 [(3, .int (-1)), (2, .int (zb Z)), (0, .ref h)] := by have h9 := lv_sub hl [0, 1, 2] rfl; rw [hp0 hgG] at h9; rw [← hZ2]; exact h9
            refine lv_iload_n hx hb d_MO_fits_9 rfl (lv_at hl 0 rfl) ?_
            refine lv_if_lt (tgt := 57) hx hb d_MO_fits_10 (by decide) (fun h10 => ?_) (fun h10 => absurd (show (-1 : Int32) < 0 by decide) h10)
            exact kk ls (lv_sub hl [1] rfl)
          · obtain ⟨e1, e2⟩ := htr g (Nat.pos_of_ne_zero g0) hgG
            have hZ2 : yfi pa lm tk k (pa g).toNatClampNeg ((r && yfo lm tk g)) = Z := by rw [← hZ]; exact (if_neg g0).symm
            have hl : lv_has ls 4 [(0, .ref h), (2, .int (zb (r && yfo lm tk g))), (3, .int (nI (pa g).toNatClampNeg))] := by have h9 : lv_has ls 4 [(0, .ref h), (2, .int (zb (r && yfo lm tk g))), (3, .int (pa g))] := lv_sub hl [2, 1, 0] rfl; rw [e1] at h9; exact h9
            exact ih (pa g).toNatClampNeg ((r && yfo lm tk g)) ls (by omega) (by omega) hZ2 hl
        · refine lv_iconst (v := 1) hx hb d_MO_fits_41 (by decide) ?_
          refine lv_goto (tgt := 46) hx hb d_MO_fits_42 (by decide) ?_
          refine lv_istore_n hx hb d_MO_fits_46 rfl hl (by decide) rfl (fun ls hl => ?_)
          have hl : lv_has ls 4 [(2, .int 1), (0, .ref h), (3, .int (nI g))] := hl
          refine lv_aload_n hx hb d_MO_fits_47 rfl (lv_at hl 1 rfl) ?_
          refine va_get (D := D) (ci := 8) (v := .ref (b 0)) (C := R_MO) (T := F_MO) (N := 25) hx hb (tb_in hok in_MO) (fun w h => h) hown hK hP 0 rfl rfl 2 (by decide) (hok _ t_707 rfl _) (fun _ h9 => h9) rfl d_MO_fits_48 ?_
          refine lv_iload_n hx hb d_MO_fits_51 rfl (lv_at hl 2 rfl) ?_
          refine va_iald hx hb hK hP 1 0 rfl rfl (vp_in_nI (by omega) (by omega)) d_MO_fits_52 ?_
          rw [nI_clamp (show g < 2 ^ 31 from by omega)]
          refine lv_istore_n hx hb d_MO_fits_53 rfl hl (by decide) rfl (fun ls hl => ?_)
          have hl : lv_has ls 4 [(3, .int (pa g)), (2, .int 1), (0, .ref h)] := hl
          refine lv_goto (tgt := 9) hx hb d_MO_fits_54 (by decide) ?_
          have er : (r && yfo lm tk g) = true := by rw [zb_1 h14, show yfo lm tk g = true from decide_eq_true (Or.inr h38)]; rfl
          have hl : lv_has ls 4 [(3, .int (pa g)), (2, .int (zb (r && yfo lm tk g))), (0, .ref h)] := by rw [er]; exact hl
          by_cases g0 : g = 0
          · subst g0
            have hZ2 : (r && yfo lm tk 0) = Z := by rw [← hZ]; exact (if_pos rfl).symm
            have hl : lv_has ls 4 [(3, .int (-1)), (2, .int (zb Z)), (0, .ref h)] := by have h9 := lv_sub hl [0, 1, 2] rfl; rw [hp0 hgG] at h9; rw [← hZ2]; exact h9
            refine lv_iload_n hx hb d_MO_fits_9 rfl (lv_at hl 0 rfl) ?_
            refine lv_if_lt (tgt := 57) hx hb d_MO_fits_10 (by decide) (fun h10 => ?_) (fun h10 => absurd (show (-1 : Int32) < 0 by decide) h10)
            exact kk ls (lv_sub hl [1] rfl)
          · obtain ⟨e1, e2⟩ := htr g (Nat.pos_of_ne_zero g0) hgG
            have hZ2 : yfi pa lm tk k (pa g).toNatClampNeg ((r && yfo lm tk g)) = Z := by rw [← hZ]; exact (if_neg g0).symm
            have hl : lv_has ls 4 [(0, .ref h), (2, .int (zb (r && yfo lm tk g))), (3, .int (nI (pa g).toNatClampNeg))] := by have h9 : lv_has ls 4 [(0, .ref h), (2, .int (zb (r && yfo lm tk g))), (3, .int (pa g))] := lv_sub hl [2, 1, 0] rfl; rw [e1] at h9; exact h9
            exact ih (pa g).toNatClampNeg ((r && yfo lm tk g)) ls (by omega) (by omega) hZ2 hl
set_option maxHeartbeats 4000000 in
set_option maxRecDepth 100000 in
theorem m_MO_fits (l : Launch) (D : va_G) (cI cJ cZ cP cS : ClassId) (h : Nat) (b : Nat → Nat) (th : Int32) (G C : Nat) (hs : Bool) (c0 : Nat) (pa lm go tk : Nat → Int32) (hG : G ≤ 6) (hc0 : c0 < 12) (g0 : Nat) (hg0 : g0 < G) (hgo : go c0 = nI g0) (hp0 : 0 < G → pa 0 = -1) (htr : ∀ j, 0 < j → j < G → pa j = nI (pa j).toNatClampNeg ∧ (pa j).toNatClampNeg < j) : Met l y_MO_fits [Cond.code y_MO_fits b_MO_fits 4 (some .boolean)] ro_MO_fits (va_Pc [.ref h, .int (nI c0)] (fun U => tb_ok U ∧ va_P D cls [(h, .inr (8, [.int th, .int (nI G), .ref (b 0), .ref (b 1), .int (nI C), .ref (b 2), .ref (b 3), .ref (b 4), .ref (b 5), .ref (b 6), .ref (b 7), .ref (b 8), .ref (b 9), .ref (b 10), .ref (b 11), .ref (b 12), .ref (b 13), .ref (b 14), .ref (b 15), .ref (b 16), .ref (b 17), .ref (b 18), .int (zb hs), .ref (b 19), .ref (b 20)])), ((b 0), .inl (cI, 6, .inl pa)), ((b 1), .inl (cI, 6, .inl lm)), ((b 2), .inl (cI, 12, .inl go)), ((b 17), .inl (cI, 6, .inl tk))] U.heap ∧ va_K D cls (tyl cI cJ cZ cP cS) U)) (zq (some (.int (zb (yfi pa lm tk 7 g0 true))))) 0 0 (fun _ => False) := by
  refine Met.ofW (cc := b_MO_fits) (maxL := 4) (ret := (some .boolean)) (by decide +kernel) rfl ?_
  intro p e s m args below meth c s₁ B hml hv
  obtain ⟨rfl, hok, hP, hK⟩ := hv
  have hx := B.exec
  have hb := B.bytes
  have hr := B.returns
  have hown : s.vm.findClass "StudyAuditModel" = some m.cls := findClass_of_methodNamed B.named
  have hlocks := B.notSynchronized
  have hl := lv_entry ([.ref h, .int (nI c0)]) (n := 4) (Nat.le_of_ble_eq_true rfl)
  rw [lg_entry_eq]
  generalize (lg_sl ([.ref h, .int (nI c0)]) ++ List.replicate (4 - (lg_sl ([.ref h, .int (nI c0)])).length) Slot.unset).toArray = ls at hl ⊢
  have hl : lv_has ls 4 [(0, .ref h), (1, .int (nI c0))] := hl
  refine lv_iconst (v := 1) hx hb d_MO_fits_0 (by decide) ?_
  refine lv_istore_n hx hb d_MO_fits_1 rfl hl (by decide) rfl (fun ls hl => ?_)
  have hl : lv_has ls 4 [(2, .int 1), (0, .ref h), (1, .int (nI c0))] := hl
  refine lv_aload_n hx hb d_MO_fits_2 rfl (lv_at hl 1 rfl) ?_
  refine va_get (D := D) (ci := 8) (v := .ref (b 2)) (C := R_MO) (T := F_MO) (N := 25) hx hb (tb_in hok in_MO) (fun w h => h) hown hK hP 0 rfl rfl 5 (by decide) (hok _ t_710 rfl _) (fun _ h9 => h9) rfl d_MO_fits_3 ?_
  refine lv_iload_n hx hb d_MO_fits_6 rfl (lv_at hl 2 rfl) ?_
  refine va_iald hx hb hK hP 3 0 rfl rfl (vp_in_nI (by omega) (by omega)) d_MO_fits_7 ?_
  rw [nI_clamp (show c0 < 2 ^ 31 from by omega)]
  refine W.eq (g2 := F0 m 8 ls [.int (nI g0)]) (by rw [hgo]) ?_
  refine lv_istore_n hx hb d_MO_fits_8 rfl hl (by decide) rfl (fun ls hl => ?_)
  have hl : lv_has ls 4 [(3, .int (nI g0)), (2, .int 1), (0, .ref h), (1, .int (nI c0))] := hl
  have hl : lv_has ls 4 [(3, .int (nI g0)), (2, .int (zb true)), (0, .ref h), (1, .int (nI c0))] := hl
  refine lo_fits D cI cJ cZ cP cS h b th G C hs c0 pa lm go tk (yfi pa lm tk 7 g0 true) hx hb hml hown hok hK hP hG hp0 htr (fun ls hl => ?_) 7 g0 (true) ls (by omega) hg0 rfl (lv_sub hl [2, 1, 0] rfl)
  refine lv_iload_n hx hb d_MO_fits_57 rfl (lv_at hl 0 rfl) ?_
  exact W.zret hx hb hr (z_zb _) (fun t ht _ => ⟨rfl, ht⟩) (fun q h => by cases h) d_MO_fits_58
def yfx (pa : Nat → Int32) (by0 : Int32) (n g : Nat) (tk : Nat → Int32) : Nat → Int32 := match n with
  | 0 => tk
  | k + 1 => if g = 0 then upd tk g (tk g + by0) else yfx pa by0 k (pa g).toNatClampNeg (upd tk g (tk g + by0))
abbrev ro_MO_fix : Room := { frames := 0, cells := 0, slots := 0, locals := 0 }
set_option maxHeartbeats 4000000 in
set_option maxRecDepth 100000 in
theorem lo_fix {l : Launch} {p : Program} {e : Env} {s : State} {m : MethodId} {args : Array Value} {below : List Frame} {meth : Method} {c : Code} {Q : State → Prop} {H0 : Heap} {A : Nat → Prop} (D : va_G) (cI cJ cZ cP cS : ClassId) (h : Nat) (b : Nat → Nat) (th : Int32) (G C : Nat) (hs : Bool) (by0 : Int32) (pa go gv : Nat → Int32) (Z : Nat → Int32) (hx : p.tables.exec = Jvm.exec) (hb : c.code = b_MO_fix) (hml : c.maxLocals = 5) (hown : s.vm.findClass "StudyAuditModel" = some m.cls) (hok : tb_ok s) (hK : va_K D cls (tyl cI cJ cZ cP cS) s) (hA : ∀ q : Nat, H0.size ≤ q → A q) (hG : G ≤ 6) (hp0 : 0 < G → pa 0 = -1) (htr : ∀ j, 0 < j → j < G → pa j = nI (pa j).toNatClampNeg ∧ (pa j).toNatClampNeg < j)
    (kk : ∀ (ls : Array Slot) (H : Heap) (locs : List Loc), lv_has ls 5 [(0, .ref h)] → va_P D cls [(h, .inr (8, [.int th, .int (nI G), .ref (b 0), .ref (b 1), .int (nI C), .ref (b 2), .ref (b 3), .ref (b 4), .ref (b 5), .ref (b 6), .ref (b 7), .ref (b 8), .ref (b 9), .ref (b 10), .ref (b 11), .ref (b 12), .ref (b 13), .ref (b 14), .ref (b 15), .ref (b 16), .ref (b 17), .ref (b 18), .int (zb hs), .ref (b 19), .ref (b 20)])), ((b 0), .inl (cI, 6, .inl pa)), ((b 2), .inl (cI, 12, .inl go)), ((b 16), .inl (cI, 6, .inl gv)), ((b 17), .inl (cI, 6, .inl Z))] H → va_D A [(h, .inr (8, [.int th, .int (nI G), .ref (b 0), .ref (b 1), .int (nI C), .ref (b 2), .ref (b 3), .ref (b 4), .ref (b 5), .ref (b 6), .ref (b 7), .ref (b 8), .ref (b 9), .ref (b 10), .ref (b 11), .ref (b 12), .ref (b 13), .ref (b 14), .ref (b 15), .ref (b 16), .ref (b 17), .ref (b 18), .int (zb hs), .ref (b 19), .ref (b 20)])), ((b 0), .inl (cI, 6, .inl pa)), ((b 2), .inl (cI, 12, .inl go)), ((b 16), .inl (cI, 6, .inl gv)), ((b 17), .inl (cI, 6, .inl Z))] → va_S A H0 H locs → W p l e ro_MO_fix s m args below meth c H locs 0 0 Q (F0 m 55 ls [])) :
    ∀ (k g : Nat) (tk : Nat → Int32) (ls : Array Slot) (H : Heap) (locs : List Loc), g < k → g < G → yfx pa by0 k g tk = Z → lv_has ls 5 [(0, .ref h), (3, .int by0), (4, .int (nI g))] → va_P D cls [(h, .inr (8, [.int th, .int (nI G), .ref (b 0), .ref (b 1), .int (nI C), .ref (b 2), .ref (b 3), .ref (b 4), .ref (b 5), .ref (b 6), .ref (b 7), .ref (b 8), .ref (b 9), .ref (b 10), .ref (b 11), .ref (b 12), .ref (b 13), .ref (b 14), .ref (b 15), .ref (b 16), .ref (b 17), .ref (b 18), .int (zb hs), .ref (b 19), .ref (b 20)])), ((b 0), .inl (cI, 6, .inl pa)), ((b 2), .inl (cI, 12, .inl go)), ((b 16), .inl (cI, 6, .inl gv)), ((b 17), .inl (cI, 6, .inl tk))] H → va_D A [(h, .inr (8, [.int th, .int (nI G), .ref (b 0), .ref (b 1), .int (nI C), .ref (b 2), .ref (b 3), .ref (b 4), .ref (b 5), .ref (b 6), .ref (b 7), .ref (b 8), .ref (b 9), .ref (b 10), .ref (b 11), .ref (b 12), .ref (b 13), .ref (b 14), .ref (b 15), .ref (b 16), .ref (b 17), .ref (b 18), .int (zb hs), .ref (b 19), .ref (b 20)])), ((b 0), .inl (cI, 6, .inl pa)), ((b 2), .inl (cI, 12, .inl go)), ((b 16), .inl (cI, 6, .inl gv)), ((b 17), .inl (cI, 6, .inl tk))] → va_S A H0 H locs → W p l e ro_MO_fix s m args below meth c H locs 0 0 Q (F0 m 22 ls []) := by
  intro k
  induction k with
  | zero =>
    intro g tk ls H locs hgk
    omega
  | succ k ih =>
    intro g tk ls H locs hgk hgG hZ hl hP hD hS
    refine lv_iload hx hb d_MO_fix_22 (lv_at hl 2 rfl) ?_
    refine lv_if_lt (tgt := 55) hx hb d_MO_fix_24 (by decide) (fun h24 => absurd h24 (nI_pos (by omega))) (fun h24 => ?_)
    refine lv_aload_n hx hb d_MO_fix_27 rfl (lv_at hl 0 rfl) ?_
    refine va_get (D := D) (ci := 8) (v := .ref (b 17)) (C := R_MO) (T := F_MO) (N := 25) hx hb (tb_in hok in_MO) (fun w h => h) hown hK hP 0 rfl rfl 20 (by decide) (hok _ t_725 rfl _) (fun _ h9 => h9) rfl d_MO_fix_28 ?_
    refine lv_iload hx hb d_MO_fix_31 (lv_at hl 2 rfl) ?_
    refine lv_aload_n hx hb d_MO_fix_33 rfl (lv_at hl 0 rfl) ?_
    refine va_get (D := D) (ci := 8) (v := .ref (b 17)) (C := R_MO) (T := F_MO) (N := 25) hx hb (tb_in hok in_MO) (fun w h => h) hown hK hP 0 rfl rfl 20 (by decide) (hok _ t_725 rfl _) (fun _ h9 => h9) rfl d_MO_fix_34 ?_
    refine lv_iload hx hb d_MO_fix_37 (lv_at hl 2 rfl) ?_
    refine va_iald hx hb hK hP 4 0 rfl rfl (vp_in_nI (by omega) (by omega)) d_MO_fix_39 ?_
    rw [nI_clamp (show g < 2 ^ 31 from by omega)]
    refine lv_iload_n hx hb d_MO_fix_40 rfl (lv_at hl 1 rfl) ?_
    refine lv_iadd hx hb d_MO_fix_41 ?_
    refine va_iast hx hb hK hP hD hS 4 0 rfl rfl (vp_in_nI (by omega) (by omega)) d_MO_fix_42 (fun H locs hP hD hS => ?_)
    rw [nI_clamp (show g < 2 ^ 31 from by omega)] at hP hD
    have hP : va_P D cls [(h, .inr (8, [.int th, .int (nI G), .ref (b 0), .ref (b 1), .int (nI C), .ref (b 2), .ref (b 3), .ref (b 4), .ref (b 5), .ref (b 6), .ref (b 7), .ref (b 8), .ref (b 9), .ref (b 10), .ref (b 11), .ref (b 12), .ref (b 13), .ref (b 14), .ref (b 15), .ref (b 16), .ref (b 17), .ref (b 18), .int (zb hs), .ref (b 19), .ref (b 20)])), ((b 0), .inl (cI, 6, .inl pa)), ((b 2), .inl (cI, 12, .inl go)), ((b 16), .inl (cI, 6, .inl gv)), ((b 17), .inl (cI, 6, .inl (upd tk g ((tk g) + by0))))] H := hP
    have hD : va_D A [(h, .inr (8, [.int th, .int (nI G), .ref (b 0), .ref (b 1), .int (nI C), .ref (b 2), .ref (b 3), .ref (b 4), .ref (b 5), .ref (b 6), .ref (b 7), .ref (b 8), .ref (b 9), .ref (b 10), .ref (b 11), .ref (b 12), .ref (b 13), .ref (b 14), .ref (b 15), .ref (b 16), .ref (b 17), .ref (b 18), .int (zb hs), .ref (b 19), .ref (b 20)])), ((b 0), .inl (cI, 6, .inl pa)), ((b 2), .inl (cI, 12, .inl go)), ((b 16), .inl (cI, 6, .inl gv)), ((b 17), .inl (cI, 6, .inl (upd tk g ((tk g) + by0))))] := hD
    refine lv_aload_n hx hb d_MO_fix_43 rfl (lv_at hl 0 rfl) ?_
    refine va_get (D := D) (ci := 8) (v := .ref (b 0)) (C := R_MO) (T := F_MO) (N := 25) hx hb (tb_in hok in_MO) (fun w h => h) hown hK hP 0 rfl rfl 2 (by decide) (hok _ t_707 rfl _) (fun _ h9 => h9) rfl d_MO_fix_44 ?_
    refine lv_iload hx hb d_MO_fix_47 (lv_at hl 2 rfl) ?_
    refine va_iald hx hb hK hP 1 0 rfl rfl (vp_in_nI (by omega) (by omega)) d_MO_fix_49 ?_
    rw [nI_clamp (show g < 2 ^ 31 from by omega)]
    refine lv_istore hx hb d_MO_fix_50 hl (by decide) rfl (fun ls hl => ?_)
    have hl : lv_has ls 5 [(4, .int (pa g)), (0, .ref h), (3, .int by0)] := hl
    refine lv_goto (tgt := 22) hx hb d_MO_fix_52 (by decide) ?_
    by_cases g0 : g = 0
    · subst g0
      have hZ2 : upd tk 0 (tk 0 + by0) = Z := by rw [← hZ]; exact (if_pos rfl).symm
      have hl : lv_has ls 5 [(4, .int (-1)), (0, .ref h), (3, .int by0)] := by have h9 := lv_sub hl [0, 1, 2] rfl; rw [hp0 hgG] at h9; exact h9
      have hP : va_P D cls [(h, .inr (8, [.int th, .int (nI G), .ref (b 0), .ref (b 1), .int (nI C), .ref (b 2), .ref (b 3), .ref (b 4), .ref (b 5), .ref (b 6), .ref (b 7), .ref (b 8), .ref (b 9), .ref (b 10), .ref (b 11), .ref (b 12), .ref (b 13), .ref (b 14), .ref (b 15), .ref (b 16), .ref (b 17), .ref (b 18), .int (zb hs), .ref (b 19), .ref (b 20)])), ((b 0), .inl (cI, 6, .inl pa)), ((b 2), .inl (cI, 12, .inl go)), ((b 16), .inl (cI, 6, .inl gv)), ((b 17), .inl (cI, 6, .inl Z))] H := by rw [← hZ2]; exact hP
      have hD : va_D A [(h, .inr (8, [.int th, .int (nI G), .ref (b 0), .ref (b 1), .int (nI C), .ref (b 2), .ref (b 3), .ref (b 4), .ref (b 5), .ref (b 6), .ref (b 7), .ref (b 8), .ref (b 9), .ref (b 10), .ref (b 11), .ref (b 12), .ref (b 13), .ref (b 14), .ref (b 15), .ref (b 16), .ref (b 17), .ref (b 18), .int (zb hs), .ref (b 19), .ref (b 20)])), ((b 0), .inl (cI, 6, .inl pa)), ((b 2), .inl (cI, 12, .inl go)), ((b 16), .inl (cI, 6, .inl gv)), ((b 17), .inl (cI, 6, .inl Z))] := by rw [← hZ2]; exact hD
      refine lv_iload hx hb d_MO_fix_22 (lv_at hl 0 rfl) ?_
      refine lv_if_lt (tgt := 55) hx hb d_MO_fix_24 (by decide) (fun h24 => ?_) (fun h24 => absurd (show (-1 : Int32) < 0 by decide) h24)
      exact kk ls H locs (lv_sub hl [1] rfl) hP hD hS
    · obtain ⟨e1, e2⟩ := htr g (Nat.pos_of_ne_zero g0) hgG
      have hZ2 : yfx pa by0 k (pa g).toNatClampNeg (upd tk g (tk g + by0)) = Z := by rw [← hZ]; exact (if_neg g0).symm
      have hl : lv_has ls 5 [(0, .ref h), (3, .int by0), (4, .int (nI (pa g).toNatClampNeg))] := by have h9 : lv_has ls 5 [(0, .ref h), (3, .int by0), (4, .int (pa g))] := lv_sub hl [1, 2, 0] rfl; rw [e1] at h9; exact h9
      exact ih (pa g).toNatClampNeg (upd tk g (tk g + by0)) ls H locs (by omega) (by omega) hZ2 hl hP hD hS
set_option maxHeartbeats 4000000 in
set_option maxRecDepth 100000 in
theorem m_MO_fix (l : Launch) (D : va_G) (cI cJ cZ cP cS : ClassId) (h : Nat) (b : Nat → Nat) (th : Int32) (G C : Nat) (hs : Bool) (c0 r : Nat) (by0 : Int32) (pa go gv tk : Nat → Int32) (hG : G ≤ 6) (hc0 : c0 < 12) (hr6 : r < 6) (g0 : Nat) (hg0 : g0 < G) (hgo : go c0 = nI g0) (hp0 : 0 < G → pa 0 = -1) (htr : ∀ j, 0 < j → j < G → pa j = nI (pa j).toNatClampNeg ∧ (pa j).toNatClampNeg < j) (sz : Nat) : Met l y_MO_fix [Cond.code y_MO_fix b_MO_fix 5 none] ro_MO_fix (va_Pc [.ref h, .int (nI c0), .int (nI r), .int by0] (fun U => U.heap.size = sz ∧ tb_ok U ∧ va_P D cls [(h, .inr (8, [.int th, .int (nI G), .ref (b 0), .ref (b 1), .int (nI C), .ref (b 2), .ref (b 3), .ref (b 4), .ref (b 5), .ref (b 6), .ref (b 7), .ref (b 8), .ref (b 9), .ref (b 10), .ref (b 11), .ref (b 12), .ref (b 13), .ref (b 14), .ref (b 15), .ref (b 16), .ref (b 17), .ref (b 18), .int (zb hs), .ref (b 19), .ref (b 20)])), ((b 0), .inl (cI, 6, .inl pa)), ((b 2), .inl (cI, 12, .inl go)), ((b 16), .inl (cI, 6, .inl gv)), ((b 17), .inl (cI, 6, .inl tk))] U.heap ∧ va_K D cls (tyl cI cJ cZ cP cS) U ∧ va_D (fun _ => True) [(h, .inr (8, [.int th, .int (nI G), .ref (b 0), .ref (b 1), .int (nI C), .ref (b 2), .ref (b 3), .ref (b 4), .ref (b 5), .ref (b 6), .ref (b 7), .ref (b 8), .ref (b 9), .ref (b 10), .ref (b 11), .ref (b 12), .ref (b 13), .ref (b 14), .ref (b 15), .ref (b 16), .ref (b 17), .ref (b 18), .int (zb hs), .ref (b 19), .ref (b 20)])), ((b 0), .inl (cI, 6, .inl pa)), ((b 2), .inl (cI, 12, .inl go)), ((b 16), .inl (cI, 6, .inl gv)), ((b 17), .inl (cI, 6, .inl tk))])) (zv none D [(h, .inr (8, [.int th, .int (nI G), .ref (b 0), .ref (b 1), .int (nI C), .ref (b 2), .ref (b 3), .ref (b 4), .ref (b 5), .ref (b 6), .ref (b 7), .ref (b 8), .ref (b 9), .ref (b 10), .ref (b 11), .ref (b 12), .ref (b 13), .ref (b 14), .ref (b 15), .ref (b 16), .ref (b 17), .ref (b 18), .int (zb hs), .ref (b 19), .ref (b 20)])), ((b 0), .inl (cI, 6, .inl pa)), ((b 2), .inl (cI, 12, .inl go)), ((b 16), .inl (cI, 6, .inl (upd gv r (gv r + by0)))), ((b 17), .inl (cI, 6, .inl (yfx pa by0 7 g0 tk)))] (va_A [(h, .inr (8, [.int th, .int (nI G), .ref (b 0), .ref (b 1), .int (nI C), .ref (b 2), .ref (b 3), .ref (b 4), .ref (b 5), .ref (b 6), .ref (b 7), .ref (b 8), .ref (b 9), .ref (b 10), .ref (b 11), .ref (b 12), .ref (b 13), .ref (b 14), .ref (b 15), .ref (b 16), .ref (b 17), .ref (b 18), .int (zb hs), .ref (b 19), .ref (b 20)])), ((b 0), .inl (cI, 6, .inl pa)), ((b 2), .inl (cI, 12, .inl go)), ((b 16), .inl (cI, 6, .inl gv)), ((b 17), .inl (cI, 6, .inl tk))] sz)) 0 0 (va_A [(h, .inr (8, [.int th, .int (nI G), .ref (b 0), .ref (b 1), .int (nI C), .ref (b 2), .ref (b 3), .ref (b 4), .ref (b 5), .ref (b 6), .ref (b 7), .ref (b 8), .ref (b 9), .ref (b 10), .ref (b 11), .ref (b 12), .ref (b 13), .ref (b 14), .ref (b 15), .ref (b 16), .ref (b 17), .ref (b 18), .int (zb hs), .ref (b 19), .ref (b 20)])), ((b 0), .inl (cI, 6, .inl pa)), ((b 2), .inl (cI, 12, .inl go)), ((b 16), .inl (cI, 6, .inl gv)), ((b 17), .inl (cI, 6, .inl tk))] sz) := by
  refine Met.ofW (cc := b_MO_fix) (maxL := 5) (ret := none) (by decide +kernel) rfl ?_
  intro p e s m args below meth c s₁ B hml hv
  obtain ⟨rfl, hsz, hok, hP, hK, hD0⟩ := hv
  have hx := B.exec
  have hb := B.bytes
  have hr := B.returns
  have hown : s.vm.findClass "StudyAuditModel" = some m.cls := findClass_of_methodNamed B.named
  have hlocks := B.notSynchronized
  subst hsz
  have hD := hD0.self (sz := s.heap.size)
  generalize hAe : va_A [(h, .inr (8, [.int th, .int (nI G), .ref (b 0), .ref (b 1), .int (nI C), .ref (b 2), .ref (b 3), .ref (b 4), .ref (b 5), .ref (b 6), .ref (b 7), .ref (b 8), .ref (b 9), .ref (b 10), .ref (b 11), .ref (b 12), .ref (b 13), .ref (b 14), .ref (b 15), .ref (b 16), .ref (b 17), .ref (b 18), .int (zb hs), .ref (b 19), .ref (b 20)])), ((b 0), .inl (cI, 6, .inl pa)), ((b 2), .inl (cI, 12, .inl go)), ((b 16), .inl (cI, 6, .inl gv)), ((b 17), .inl (cI, 6, .inl tk))] s.heap.size = A at hD ⊢
  have hA : ∀ q : Nat, s.heap.size ≤ q → A q := fun q h => by rw [← hAe]; exact Or.inr h
  have hS : va_S A s.heap s.heap [] := va_S.rf
  have hl := lv_entry ([.ref h, .int (nI c0), .int (nI r), .int by0]) (n := 5) (Nat.le_of_ble_eq_true rfl)
  rw [lg_entry_eq]
  generalize (lg_sl ([.ref h, .int (nI c0), .int (nI r), .int by0]) ++ List.replicate (5 - (lg_sl ([.ref h, .int (nI c0), .int (nI r), .int by0])).length) Slot.unset).toArray = ls at hl ⊢
  have hl : lv_has ls 5 [(0, .ref h), (1, .int (nI c0)), (2, .int (nI r)), (3, .int by0)] := hl
  refine lv_aload_n hx hb d_MO_fix_0 rfl (lv_at hl 0 rfl) ?_
  refine va_get (D := D) (ci := 8) (v := .ref (b 16)) (C := R_MO) (T := F_MO) (N := 25) hx hb (tb_in hok in_MO) (fun w h => h) hown hK hP 0 rfl rfl 19 (by decide) (hok _ t_724 rfl _) (fun _ h9 => h9) rfl d_MO_fix_1 ?_
  refine lv_iload_n hx hb d_MO_fix_4 rfl (lv_at hl 2 rfl) ?_
  refine lv_aload_n hx hb d_MO_fix_5 rfl (lv_at hl 0 rfl) ?_
  refine va_get (D := D) (ci := 8) (v := .ref (b 16)) (C := R_MO) (T := F_MO) (N := 25) hx hb (tb_in hok in_MO) (fun w h => h) hown hK hP 0 rfl rfl 19 (by decide) (hok _ t_724 rfl _) (fun _ h9 => h9) rfl d_MO_fix_6 ?_
  refine lv_iload_n hx hb d_MO_fix_9 rfl (lv_at hl 2 rfl) ?_
  refine va_iald hx hb hK hP 3 0 rfl rfl (vp_in_nI (by omega) (by omega)) d_MO_fix_10 ?_
  rw [nI_clamp (show r < 2 ^ 31 from by omega)]
  refine lv_iload_n hx hb d_MO_fix_11 rfl (lv_at hl 3 rfl) ?_
  refine lv_iadd hx hb d_MO_fix_12 ?_
  refine va_iast hx hb hK hP hD hS 3 0 rfl rfl (vp_in_nI (by omega) (by omega)) d_MO_fix_13 (fun H locs hP hD hS => ?_)
  rw [nI_clamp (show r < 2 ^ 31 from by omega)] at hP hD
  have hP : va_P D cls [(h, .inr (8, [.int th, .int (nI G), .ref (b 0), .ref (b 1), .int (nI C), .ref (b 2), .ref (b 3), .ref (b 4), .ref (b 5), .ref (b 6), .ref (b 7), .ref (b 8), .ref (b 9), .ref (b 10), .ref (b 11), .ref (b 12), .ref (b 13), .ref (b 14), .ref (b 15), .ref (b 16), .ref (b 17), .ref (b 18), .int (zb hs), .ref (b 19), .ref (b 20)])), ((b 0), .inl (cI, 6, .inl pa)), ((b 2), .inl (cI, 12, .inl go)), ((b 16), .inl (cI, 6, .inl (upd gv r ((gv r) + by0)))), ((b 17), .inl (cI, 6, .inl tk))] H := hP
  have hD : va_D A [(h, .inr (8, [.int th, .int (nI G), .ref (b 0), .ref (b 1), .int (nI C), .ref (b 2), .ref (b 3), .ref (b 4), .ref (b 5), .ref (b 6), .ref (b 7), .ref (b 8), .ref (b 9), .ref (b 10), .ref (b 11), .ref (b 12), .ref (b 13), .ref (b 14), .ref (b 15), .ref (b 16), .ref (b 17), .ref (b 18), .int (zb hs), .ref (b 19), .ref (b 20)])), ((b 0), .inl (cI, 6, .inl pa)), ((b 2), .inl (cI, 12, .inl go)), ((b 16), .inl (cI, 6, .inl (upd gv r ((gv r) + by0)))), ((b 17), .inl (cI, 6, .inl tk))] := hD
  refine lv_aload_n hx hb d_MO_fix_14 rfl (lv_at hl 0 rfl) ?_
  refine va_get (D := D) (ci := 8) (v := .ref (b 2)) (C := R_MO) (T := F_MO) (N := 25) hx hb (tb_in hok in_MO) (fun w h => h) hown hK hP 0 rfl rfl 5 (by decide) (hok _ t_710 rfl _) (fun _ h9 => h9) rfl d_MO_fix_15 ?_
  refine lv_iload_n hx hb d_MO_fix_18 rfl (lv_at hl 1 rfl) ?_
  refine va_iald hx hb hK hP 2 0 rfl rfl (vp_in_nI (by omega) (by omega)) d_MO_fix_19 ?_
  rw [nI_clamp (show c0 < 2 ^ 31 from by omega)]
  refine W.eq (g2 := F0 m 20 ls [.int (nI g0)]) (by rw [hgo]) ?_
  refine lv_istore hx hb d_MO_fix_20 hl (by decide) rfl (fun ls hl => ?_)
  have hl : lv_has ls 5 [(4, .int (nI g0)), (0, .ref h), (1, .int (nI c0)), (2, .int (nI r)), (3, .int by0)] := hl
  refine lo_fix D cI cJ cZ cP cS h b th G C hs by0 pa go (upd gv r (gv r + by0)) (yfx pa by0 7 g0 tk) hx hb hml hown hok hK hA hG hp0 htr (fun ls H locs hl hP hD hS => ?_) 7 g0 (tk) ls _ _ (by omega) hg0 rfl (lv_sub hl [1, 4, 0] rfl) hP hD hS
  exact W.vret hx hb hr (fun t ht _ => ⟨⟨rfl, by rw [ht]; exact hP, hD⟩, hS.F ht⟩) hS.2.2 d_MO_fix_55
def yms (G C : Nat) (pa lm tk go cn nd gv : Nat → Int32) (some0 : Int32) (hv : Nat → Int32) : Nat → Int32 × (Nat → Int32)
  | 0 => (yno 62 nd gv 6, hv)
  | i + 1 => (if (yms G C pa lm tk go cn nd gv some0 hv i).1 ≤ yno (62 &&& (nI (2 * i + 2) ^^^ (-1))) nd gv 6 + yhv G C pa lm tk go cn (nI (2 * i + 2)) some0 (yms G C pa lm tk go cn nd gv some0 hv i).2 0 then (yms G C pa lm tk go cn nd gv some0 hv i).1 else yno (62 &&& (nI (2 * i + 2) ^^^ (-1))) nd gv 6 + yhv G C pa lm tk go cn (nI (2 * i + 2)) some0 (yms G C pa lm tk go cn nd gv some0 hv i).2 0, yhv G C pa lm tk go cn (nI (2 * i + 2)) some0 (yms G C pa lm tk go cn nd gv some0 hv i).2)
abbrev ro_MO_most : Room := { frames := 1, cells := 0, slots := 0, locals := 24 }
set_option maxHeartbeats 4000000 in
set_option maxRecDepth 100000 in
theorem lo_most {l : Launch} {p : Program} {e : Env} {s : State} {m : MethodId} {args : Array Value} {below : List Frame} {meth : Method} {c : Code} {H0 : Heap} {A : Nat → Prop} {Q : State → Prop} (D : va_G) (cI cJ cZ cP cS : ClassId) (h : Nat) (b : Nat → Nat) (th : Int32) (G C : Nat) (hs : Bool) (some0 : Int32) (pa lm go cn tk hv nd gv : Nat → Int32) (hx : p.tables.exec = Jvm.exec) (hb : c.code = b_MO_most) (hml : c.maxLocals = 5) (hown : s.vm.findClass "StudyAuditModel" = some m.cls) (hok : tb_ok s) (hK : va_K D cls (tyl cI cJ cZ cP cS) s) (hA : ∀ q : Nat, H0.size ≤ q → A q) (hG : G ≤ 6) (hC : C ≤ 12) (hpa : ∀ j, 0 < j → j < G → vp_in (pa j) 6) (hgo : ∀ c, c < 12 → vp_in (go c) 6)
    (kk : ∀ (ls : Array Slot) (H : Heap) (locs : List Loc), lv_has ls 5 [(0, .ref h), (1, .int some0), (2, .int (yms G C pa lm tk go cn nd gv some0 hv 31).1), (3, .int (nI (2 * 31 + 2)))] → va_P D cls [(h, .inr (8, [.int th, .int (nI G), .ref (b 0), .ref (b 1), .int (nI C), .ref (b 2), .ref (b 3), .ref (b 4), .ref (b 5), .ref (b 6), .ref (b 7), .ref (b 8), .ref (b 9), .ref (b 10), .ref (b 11), .ref (b 12), .ref (b 13), .ref (b 14), .ref (b 15), .ref (b 16), .ref (b 17), .ref (b 18), .int (zb hs), .ref (b 19), .ref (b 20)])), ((b 0), .inl (cI, 6, .inl pa)), ((b 1), .inl (cI, 6, .inl lm)), ((b 2), .inl (cI, 12, .inl go)), ((b 15), .inl (cI, 12, .inl cn)), ((b 17), .inl (cI, 6, .inl tk)), ((b 18), .inl (cI, 6, .inl ((yms G C pa lm tk go cn nd gv some0 hv 31).2))), ((b 14), .inl (cI, 6, .inl nd)), ((b 16), .inl (cI, 6, .inl gv))] H → va_D A [(h, .inr (8, [.int th, .int (nI G), .ref (b 0), .ref (b 1), .int (nI C), .ref (b 2), .ref (b 3), .ref (b 4), .ref (b 5), .ref (b 6), .ref (b 7), .ref (b 8), .ref (b 9), .ref (b 10), .ref (b 11), .ref (b 12), .ref (b 13), .ref (b 14), .ref (b 15), .ref (b 16), .ref (b 17), .ref (b 18), .int (zb hs), .ref (b 19), .ref (b 20)])), ((b 0), .inl (cI, 6, .inl pa)), ((b 1), .inl (cI, 6, .inl lm)), ((b 2), .inl (cI, 12, .inl go)), ((b 15), .inl (cI, 12, .inl cn)), ((b 17), .inl (cI, 6, .inl tk)), ((b 18), .inl (cI, 6, .inl ((yms G C pa lm tk go cn nd gv some0 hv 31).2))), ((b 14), .inl (cI, 6, .inl nd)), ((b 16), .inl (cI, 6, .inl gv))] → va_S A H0 H locs → W p l e ro_MO_most s m args below meth c H locs 0 0 Q (F0 m 54 ls [])) :
    ∀ (k i : Nat) (ls : Array Slot) (H : Heap) (locs : List Loc), 0 ≤ i → i + k = 31 → lv_has ls 5 [(0, .ref h), (1, .int some0), (2, .int (yms G C pa lm tk go cn nd gv some0 hv i).1), (3, .int (nI (2 * i + 2)))] → va_P D cls [(h, .inr (8, [.int th, .int (nI G), .ref (b 0), .ref (b 1), .int (nI C), .ref (b 2), .ref (b 3), .ref (b 4), .ref (b 5), .ref (b 6), .ref (b 7), .ref (b 8), .ref (b 9), .ref (b 10), .ref (b 11), .ref (b 12), .ref (b 13), .ref (b 14), .ref (b 15), .ref (b 16), .ref (b 17), .ref (b 18), .int (zb hs), .ref (b 19), .ref (b 20)])), ((b 0), .inl (cI, 6, .inl pa)), ((b 1), .inl (cI, 6, .inl lm)), ((b 2), .inl (cI, 12, .inl go)), ((b 15), .inl (cI, 12, .inl cn)), ((b 17), .inl (cI, 6, .inl tk)), ((b 18), .inl (cI, 6, .inl ((yms G C pa lm tk go cn nd gv some0 hv i).2))), ((b 14), .inl (cI, 6, .inl nd)), ((b 16), .inl (cI, 6, .inl gv))] H → va_D A [(h, .inr (8, [.int th, .int (nI G), .ref (b 0), .ref (b 1), .int (nI C), .ref (b 2), .ref (b 3), .ref (b 4), .ref (b 5), .ref (b 6), .ref (b 7), .ref (b 8), .ref (b 9), .ref (b 10), .ref (b 11), .ref (b 12), .ref (b 13), .ref (b 14), .ref (b 15), .ref (b 16), .ref (b 17), .ref (b 18), .int (zb hs), .ref (b 19), .ref (b 20)])), ((b 0), .inl (cI, 6, .inl pa)), ((b 1), .inl (cI, 6, .inl lm)), ((b 2), .inl (cI, 12, .inl go)), ((b 15), .inl (cI, 12, .inl cn)), ((b 17), .inl (cI, 6, .inl tk)), ((b 18), .inl (cI, 6, .inl ((yms G C pa lm tk go cn nd gv some0 hv i).2))), ((b 14), .inl (cI, 6, .inl nd)), ((b 16), .inl (cI, 6, .inl gv))] → va_S A H0 H locs → W p l e ro_MO_most s m args below meth c H locs 0 0 Q (F0 m 9 ls []) := by
  intro k
  induction k with
  | zero =>
    intro i ls H locs hi0 hik hl hP hD hS
    have hik : 31 = i := by omega
    subst hik
    refine lv_iload_n hx hb d_MO_most_9 rfl (lv_at hl 3 rfl) ?_
    refine lv_bipush (v := 64) hx hb d_MO_most_10 (by decide) ?_
    refine lv_icmp_ge (tgt := 54) hx hb d_MO_most_12 (by decide) (fun h12 => ?_) (fun h12 => absurd (show nI 64 ≤ nI (2 * 31 + 2) from Int32.le_refl _) h12)
    exact kk ls H locs (lv_sub hl [0, 1, 2, 3] rfl) hP hD hS
  | succ k ih =>
    intro i ls H locs hi0 hik hl hP hD hS
    refine lv_iload_n hx hb d_MO_most_9 rfl (lv_at hl 3 rfl) ?_
    refine lv_bipush (v := 64) hx hb d_MO_most_10 (by decide) ?_
    refine lv_icmp_ge (tgt := 54) hx hb d_MO_most_12 (by decide) (fun h12 => absurd h12 (show ¬ nI 64 ≤ nI (2 * i + 2) from nI_ge (by omega) (by omega))) (fun h12 => ?_)
    refine lv_aload_n hx hb d_MO_most_15 rfl (lv_at hl 0 rfl) ?_
    refine lv_bipush (v := 62) hx hb d_MO_most_16 (by decide) ?_
    refine lv_iload_n hx hb d_MO_most_18 rfl (lv_at hl 3 rfl) ?_
    refine lv_iconst (v := (-1)) hx hb d_MO_most_19 (by decide) ?_
    refine lv_ixor hx hb d_MO_most_20 ?_
    refine lv_iand hx hb d_MO_most_21 ?_
    refine zc_read (va_runV (Ts := []) (As := [.int ((62 : Int32) &&& ((nI (2 * i + 2)) ^^^ ((-1) : Int32)))]) (rest := []) ⟨hx, hb, hml, hown, fun _ h => absurd h List.not_mem_nil⟩ (m_MO_needOf l D cI cJ cZ cP cS h b th G C hs ((62 : Int32) &&& ((nI (2 * i + 2)) ^^^ ((-1) : Int32))) nd gv) ⟨zc_B 1 hok c_MO_needOf_w t_10 t_872 rfl rfl (by decide +kernel) ⟨Nat.le_of_ble_eq_true rfl, Nat.le_of_ble_eq_true rfl⟩, hok _ t_874 rfl _, hok _ s_27 rfl _⟩ ⟨fun a U g mk q => by obtain ⟨q0, q2, qP, qK⟩ := q; exact ⟨q0, q2.call g mk a, qP, va_K.moved (u := U) (U := U.calling g mk a) (Vm.Alike.refl U.vm) qK⟩, va_recv hK hP (ci := 8) (q0 := 0) rfl rfl, fun U hU hW => ⟨rfl, hok.warm hW, by rw [hU]; exact hP.sub [0, 7, 8] rfl, va_K.moved hW.alike hK⟩⟩ rfl rfl hl.1 rfl (lv_room (Nat.le_of_ble_eq_true rfl)) d_MO_most_22 ⟨Nat.le_of_ble_eq_true rfl, Nat.le_of_ble_eq_true rfl⟩) ?_
    refine W.eq (g2 := F0 m 25 ls [.int (yno ((62 : Int32) &&& ((nI (2 * i + 2)) ^^^ ((-1) : Int32))) nd gv 6)]) rfl ?_
    refine lv_aload_n hx hb d_MO_most_25 rfl (lv_at hl 0 rfl) ?_
    refine lv_iload_n hx hb d_MO_most_26 rfl (lv_at hl 3 rfl) ?_
    refine lv_iload_n hx hb d_MO_most_27 rfl (lv_at hl 1 rfl) ?_
    refine zc_write (wc := [(h, .inr (8, [.int th, .int (nI G), .ref (b 0), .ref (b 1), .int (nI C), .ref (b 2), .ref (b 3), .ref (b 4), .ref (b 5), .ref (b 6), .ref (b 7), .ref (b 8), .ref (b 9), .ref (b 10), .ref (b 11), .ref (b 12), .ref (b 13), .ref (b 14), .ref (b 15), .ref (b 16), .ref (b 17), .ref (b 18), .int (zb hs), .ref (b 19), .ref (b 20)])), ((b 0), .inl (cI, 6, .inl pa)), ((b 1), .inl (cI, 6, .inl lm)), ((b 2), .inl (cI, 12, .inl go)), ((b 15), .inl (cI, 12, .inl cn)), ((b 17), .inl (cI, 6, .inl tk)), ((b 18), .inl (cI, 6, .inl ((yms G C pa lm tk go cn nd gv some0 hv i).2)))]) (wc1 := [(h, .inr (8, [.int th, .int (nI G), .ref (b 0), .ref (b 1), .int (nI C), .ref (b 2), .ref (b 3), .ref (b 4), .ref (b 5), .ref (b 6), .ref (b 7), .ref (b 8), .ref (b 9), .ref (b 10), .ref (b 11), .ref (b 12), .ref (b 13), .ref (b 14), .ref (b 15), .ref (b 16), .ref (b 17), .ref (b 18), .int (zb hs), .ref (b 19), .ref (b 20)])), ((b 0), .inl (cI, 6, .inl pa)), ((b 1), .inl (cI, 6, .inl lm)), ((b 2), .inl (cI, 12, .inl go)), ((b 15), .inl (cI, 12, .inl cn)), ((b 17), .inl (cI, 6, .inl tk)), ((b 18), .inl (cI, 6, .inl (yhv G C pa lm tk go cn (nI (2 * i + 2)) some0 ((yms G C pa lm tk go cn nd gv some0 hv i).2))))]) (wr := [((b 14), .inl (cI, 6, .inl nd)), ((b 16), .inl (cI, 6, .inl gv))]) (ws1 := [(h, .inr (8, [.int th, .int (nI G), .ref (b 0), .ref (b 1), .int (nI C), .ref (b 2), .ref (b 3), .ref (b 4), .ref (b 5), .ref (b 6), .ref (b 7), .ref (b 8), .ref (b 9), .ref (b 10), .ref (b 11), .ref (b 12), .ref (b 13), .ref (b 14), .ref (b 15), .ref (b 16), .ref (b 17), .ref (b 18), .int (zb hs), .ref (b 19), .ref (b 20)])), ((b 0), .inl (cI, 6, .inl pa)), ((b 1), .inl (cI, 6, .inl lm)), ((b 2), .inl (cI, 12, .inl go)), ((b 15), .inl (cI, 12, .inl cn)), ((b 17), .inl (cI, 6, .inl tk)), ((b 18), .inl (cI, 6, .inl (yhv G C pa lm tk go cn (nI (2 * i + 2)) some0 ((yms G C pa lm tk go cn nd gv some0 hv i).2)))), ((b 14), .inl (cI, 6, .inl nd)), ((b 16), .inl (cI, 6, .inl gv))]) (va_runV (Ts := []) (As := [.int (nI (2 * i + 2)), .int some0]) (rest := [.int (yno ((62 : Int32) &&& ((nI (2 * i + 2)) ^^^ ((-1) : Int32))) nd gv 6)]) ⟨hx, hb, hml, hown, fun _ h => absurd h List.not_mem_nil⟩ (m_MO_supplyOf l D cI cJ cZ cP cS h b th G C hs (nI (2 * i + 2)) some0 pa lm go cn tk ((yms G C pa lm tk go cn nd gv some0 hv i).2) hG hC hpa hgo _) ⟨zc_B 2 hok c_MO_supplyOf_w t_10 t_880 rfl rfl (by decide +kernel) ⟨Nat.le_of_ble_eq_true rfl, Nat.le_of_ble_eq_true rfl⟩, hok _ t_882 rfl _, hok _ s_29 rfl _⟩ ⟨fun a U g mk q => by obtain ⟨q0, q1, q2, qP, qK, qD⟩ := q; exact ⟨q0, q1, q2.call g mk a, qP, va_K.moved (u := U) (U := U.calling g mk a) (Vm.Alike.refl U.vm) qK, qD⟩, va_recv hK hP (ci := 8) (q0 := 0) rfl rfl, fun U hU hW => ⟨rfl, by rw [hU], hok.warm hW, by rw [hU]; exact hP.sub [0, 1, 2, 3, 4, 5, 6] rfl, va_K.moved hW.alike hK, (hD.sub [0, 1, 2, 3, 4, 5, 6] (by decide) rfl).weaken (fun _ _ _ _ => trivial)⟩⟩ rfl rfl hl.1 rfl (lv_room (Nat.le_of_ble_eq_true rfl)) d_MO_most_28 ⟨Nat.le_of_ble_eq_true rfl, Nat.le_of_ble_eq_true rfl⟩) hS hP hD hA [0, 1, 2, 3, 4, 5, 6] [7, 8] [2, 3, 4, 5, 6, 7, 8, 0, 1] rfl rfl (by decide) (by decide) rfl rfl (by decide) (fun H locs hP hD hS => ?_)
    refine W.eq (g2 := F0 m 31 ls [.int ((yhv G C pa lm tk go cn (nI (2 * i + 2)) some0 ((yms G C pa lm tk go cn nd gv some0 hv i).2)) 0), .int (yno ((62 : Int32) &&& ((nI (2 * i + 2)) ^^^ ((-1) : Int32))) nd gv 6)]) rfl ?_
    refine lv_iadd hx hb d_MO_most_31 ?_
    refine lv_istore hx hb d_MO_most_32 hl (by decide) rfl (fun ls hl => ?_)
    have hl : lv_has ls 5 [(4, .int ((yno ((62 : Int32) &&& ((nI (2 * i + 2)) ^^^ ((-1) : Int32))) nd gv 6) + ((yhv G C pa lm tk go cn (nI (2 * i + 2)) some0 ((yms G C pa lm tk go cn nd gv some0 hv i).2)) 0))), (0, .ref h), (1, .int some0), (2, .int (yms G C pa lm tk go cn nd gv some0 hv i).1), (3, .int (nI (2 * i + 2)))] := hl
    refine lv_iload hx hb d_MO_most_34 (lv_at hl 0 rfl) ?_
    refine lv_iload_n hx hb d_MO_most_36 rfl (lv_at hl 3 rfl) ?_
    refine lv_icmp_ge (tgt := 45) hx hb d_MO_most_37 (by decide) (fun h37 => ?_) (fun h37 => ?_)
    · refine lv_iload_n hx hb d_MO_most_45 rfl (lv_at hl 3 rfl) ?_
      refine lv_istore_n hx hb d_MO_most_46 rfl hl (by decide) rfl (fun ls hl => ?_)
      have hl : lv_has ls 5 [(2, .int (yms G C pa lm tk go cn nd gv some0 hv i).1), (4, .int ((yno ((62 : Int32) &&& ((nI (2 * i + 2)) ^^^ ((-1) : Int32))) nd gv 6) + ((yhv G C pa lm tk go cn (nI (2 * i + 2)) some0 ((yms G C pa lm tk go cn nd gv some0 hv i).2)) 0))), (0, .ref h), (1, .int some0), (3, .int (nI (2 * i + 2)))] := hl
      refine lv_iload_n hx hb d_MO_most_47 rfl (lv_at hl 4 rfl) ?_
      refine lv_iconst (v := 2) hx hb d_MO_most_48 (by decide) ?_
      refine lv_iadd hx hb d_MO_most_49 ?_
      refine lv_istore_n hx hb d_MO_most_50 rfl hl (by decide) rfl (fun ls hl => ?_)
      have hl : lv_has ls 5 [(3, .int ((nI (2 * i + 2)) + (2 : Int32))), (2, .int (yms G C pa lm tk go cn nd gv some0 hv i).1), (4, .int ((yno ((62 : Int32) &&& ((nI (2 * i + 2)) ^^^ ((-1) : Int32))) nd gv 6) + ((yhv G C pa lm tk go cn (nI (2 * i + 2)) some0 ((yms G C pa lm tk go cn nd gv some0 hv i).2)) 0))), (0, .ref h), (1, .int some0)] := hl
      refine lv_goto (tgt := 9) hx hb d_MO_most_51 (by decide) ?_
      have e9 : (yms G C pa lm tk go cn nd gv some0 hv (i + 1)).1 = (yms G C pa lm tk go cn nd gv some0 hv i).1 := if_pos h37
      have e8 : (yms G C pa lm tk go cn nd gv some0 hv (i + 1)).2 = yhv G C pa lm tk go cn (nI (2 * i + 2)) some0 ((yms G C pa lm tk go cn nd gv some0 hv i).2) := rfl
      have hl : lv_has ls 5 [(3, .int ((nI (2 * i + 2)) + (2 : Int32))), (2, .int (yms G C pa lm tk go cn nd gv some0 hv (i + 1)).1), (4, .int ((yno ((62 : Int32) &&& ((nI (2 * i + 2)) ^^^ ((-1) : Int32))) nd gv 6) + ((yhv G C pa lm tk go cn (nI (2 * i + 2)) some0 ((yms G C pa lm tk go cn nd gv some0 hv i).2)) 0))), (0, .ref h), (1, .int some0)] := by rw [e9]; exact hl
      rw [show nI (2 * i + 2) + 2 = nI (2 * (i + 1) + 2) from nI_add (2 * i + 2) 2] at hl
      have hP : va_P D cls [(h, .inr (8, [.int th, .int (nI G), .ref (b 0), .ref (b 1), .int (nI C), .ref (b 2), .ref (b 3), .ref (b 4), .ref (b 5), .ref (b 6), .ref (b 7), .ref (b 8), .ref (b 9), .ref (b 10), .ref (b 11), .ref (b 12), .ref (b 13), .ref (b 14), .ref (b 15), .ref (b 16), .ref (b 17), .ref (b 18), .int (zb hs), .ref (b 19), .ref (b 20)])), ((b 0), .inl (cI, 6, .inl pa)), ((b 1), .inl (cI, 6, .inl lm)), ((b 2), .inl (cI, 12, .inl go)), ((b 15), .inl (cI, 12, .inl cn)), ((b 17), .inl (cI, 6, .inl tk)), ((b 18), .inl (cI, 6, .inl ((yms G C pa lm tk go cn nd gv some0 hv (i + 1)).2))), ((b 14), .inl (cI, 6, .inl nd)), ((b 16), .inl (cI, 6, .inl gv))] H := by rw [e8]; exact hP
      have hD : va_D A [(h, .inr (8, [.int th, .int (nI G), .ref (b 0), .ref (b 1), .int (nI C), .ref (b 2), .ref (b 3), .ref (b 4), .ref (b 5), .ref (b 6), .ref (b 7), .ref (b 8), .ref (b 9), .ref (b 10), .ref (b 11), .ref (b 12), .ref (b 13), .ref (b 14), .ref (b 15), .ref (b 16), .ref (b 17), .ref (b 18), .int (zb hs), .ref (b 19), .ref (b 20)])), ((b 0), .inl (cI, 6, .inl pa)), ((b 1), .inl (cI, 6, .inl lm)), ((b 2), .inl (cI, 12, .inl go)), ((b 15), .inl (cI, 12, .inl cn)), ((b 17), .inl (cI, 6, .inl tk)), ((b 18), .inl (cI, 6, .inl ((yms G C pa lm tk go cn nd gv some0 hv (i + 1)).2))), ((b 14), .inl (cI, 6, .inl nd)), ((b 16), .inl (cI, 6, .inl gv))] := by rw [e8]; exact hD
      exact ih (i + 1) ls H locs (by omega) (by omega) (lv_sub hl [3, 4, 1, 0] rfl) hP hD hS
    · refine lv_iload hx hb d_MO_most_40 (lv_at hl 0 rfl) ?_
      refine lv_goto (tgt := 46) hx hb d_MO_most_42 (by decide) ?_
      refine lv_istore_n hx hb d_MO_most_46 rfl hl (by decide) rfl (fun ls hl => ?_)
      have hl : lv_has ls 5 [(2, .int ((yno ((62 : Int32) &&& ((nI (2 * i + 2)) ^^^ ((-1) : Int32))) nd gv 6) + ((yhv G C pa lm tk go cn (nI (2 * i + 2)) some0 ((yms G C pa lm tk go cn nd gv some0 hv i).2)) 0))), (4, .int ((yno ((62 : Int32) &&& ((nI (2 * i + 2)) ^^^ ((-1) : Int32))) nd gv 6) + ((yhv G C pa lm tk go cn (nI (2 * i + 2)) some0 ((yms G C pa lm tk go cn nd gv some0 hv i).2)) 0))), (0, .ref h), (1, .int some0), (3, .int (nI (2 * i + 2)))] := hl
      refine lv_iload_n hx hb d_MO_most_47 rfl (lv_at hl 4 rfl) ?_
      refine lv_iconst (v := 2) hx hb d_MO_most_48 (by decide) ?_
      refine lv_iadd hx hb d_MO_most_49 ?_
      refine lv_istore_n hx hb d_MO_most_50 rfl hl (by decide) rfl (fun ls hl => ?_)
      have hl : lv_has ls 5 [(3, .int ((nI (2 * i + 2)) + (2 : Int32))), (2, .int ((yno ((62 : Int32) &&& ((nI (2 * i + 2)) ^^^ ((-1) : Int32))) nd gv 6) + ((yhv G C pa lm tk go cn (nI (2 * i + 2)) some0 ((yms G C pa lm tk go cn nd gv some0 hv i).2)) 0))), (4, .int ((yno ((62 : Int32) &&& ((nI (2 * i + 2)) ^^^ ((-1) : Int32))) nd gv 6) + ((yhv G C pa lm tk go cn (nI (2 * i + 2)) some0 ((yms G C pa lm tk go cn nd gv some0 hv i).2)) 0))), (0, .ref h), (1, .int some0)] := hl
      refine lv_goto (tgt := 9) hx hb d_MO_most_51 (by decide) ?_
      have e9 : (yms G C pa lm tk go cn nd gv some0 hv (i + 1)).1 = ((yno ((62 : Int32) &&& ((nI (2 * i + 2)) ^^^ ((-1) : Int32))) nd gv 6) + ((yhv G C pa lm tk go cn (nI (2 * i + 2)) some0 ((yms G C pa lm tk go cn nd gv some0 hv i).2)) 0)) := if_neg h37
      have e8 : (yms G C pa lm tk go cn nd gv some0 hv (i + 1)).2 = yhv G C pa lm tk go cn (nI (2 * i + 2)) some0 ((yms G C pa lm tk go cn nd gv some0 hv i).2) := rfl
      have hl : lv_has ls 5 [(3, .int ((nI (2 * i + 2)) + (2 : Int32))), (2, .int (yms G C pa lm tk go cn nd gv some0 hv (i + 1)).1), (4, .int ((yno ((62 : Int32) &&& ((nI (2 * i + 2)) ^^^ ((-1) : Int32))) nd gv 6) + ((yhv G C pa lm tk go cn (nI (2 * i + 2)) some0 ((yms G C pa lm tk go cn nd gv some0 hv i).2)) 0))), (0, .ref h), (1, .int some0)] := by rw [e9]; exact hl
      rw [show nI (2 * i + 2) + 2 = nI (2 * (i + 1) + 2) from nI_add (2 * i + 2) 2] at hl
      have hP : va_P D cls [(h, .inr (8, [.int th, .int (nI G), .ref (b 0), .ref (b 1), .int (nI C), .ref (b 2), .ref (b 3), .ref (b 4), .ref (b 5), .ref (b 6), .ref (b 7), .ref (b 8), .ref (b 9), .ref (b 10), .ref (b 11), .ref (b 12), .ref (b 13), .ref (b 14), .ref (b 15), .ref (b 16), .ref (b 17), .ref (b 18), .int (zb hs), .ref (b 19), .ref (b 20)])), ((b 0), .inl (cI, 6, .inl pa)), ((b 1), .inl (cI, 6, .inl lm)), ((b 2), .inl (cI, 12, .inl go)), ((b 15), .inl (cI, 12, .inl cn)), ((b 17), .inl (cI, 6, .inl tk)), ((b 18), .inl (cI, 6, .inl ((yms G C pa lm tk go cn nd gv some0 hv (i + 1)).2))), ((b 14), .inl (cI, 6, .inl nd)), ((b 16), .inl (cI, 6, .inl gv))] H := by rw [e8]; exact hP
      have hD : va_D A [(h, .inr (8, [.int th, .int (nI G), .ref (b 0), .ref (b 1), .int (nI C), .ref (b 2), .ref (b 3), .ref (b 4), .ref (b 5), .ref (b 6), .ref (b 7), .ref (b 8), .ref (b 9), .ref (b 10), .ref (b 11), .ref (b 12), .ref (b 13), .ref (b 14), .ref (b 15), .ref (b 16), .ref (b 17), .ref (b 18), .int (zb hs), .ref (b 19), .ref (b 20)])), ((b 0), .inl (cI, 6, .inl pa)), ((b 1), .inl (cI, 6, .inl lm)), ((b 2), .inl (cI, 12, .inl go)), ((b 15), .inl (cI, 12, .inl cn)), ((b 17), .inl (cI, 6, .inl tk)), ((b 18), .inl (cI, 6, .inl ((yms G C pa lm tk go cn nd gv some0 hv (i + 1)).2))), ((b 14), .inl (cI, 6, .inl nd)), ((b 16), .inl (cI, 6, .inl gv))] := by rw [e8]; exact hD
      exact ih (i + 1) ls H locs (by omega) (by omega) (lv_sub hl [3, 4, 1, 0] rfl) hP hD hS
set_option maxHeartbeats 4000000 in
set_option maxRecDepth 100000 in
theorem m_MO_most (l : Launch) (D : va_G) (cI cJ cZ cP cS : ClassId) (h : Nat) (b : Nat → Nat) (th : Int32) (G C : Nat) (hs : Bool) (some0 : Int32) (pa lm go cn tk hv nd gv : Nat → Int32) (hG : G ≤ 6) (hC : C ≤ 12) (hpa : ∀ j, 0 < j → j < G → vp_in (pa j) 6) (hgo : ∀ c, c < 12 → vp_in (go c) 6) (sz : Nat) : Met l y_MO_most [Cond.code y_MO_most b_MO_most 5 (some .int)] ro_MO_most (va_Pc [.ref h, .int some0] (fun U => U.heap.size = sz ∧ tb_ok U ∧ va_P D cls [(h, .inr (8, [.int th, .int (nI G), .ref (b 0), .ref (b 1), .int (nI C), .ref (b 2), .ref (b 3), .ref (b 4), .ref (b 5), .ref (b 6), .ref (b 7), .ref (b 8), .ref (b 9), .ref (b 10), .ref (b 11), .ref (b 12), .ref (b 13), .ref (b 14), .ref (b 15), .ref (b 16), .ref (b 17), .ref (b 18), .int (zb hs), .ref (b 19), .ref (b 20)])), ((b 0), .inl (cI, 6, .inl pa)), ((b 1), .inl (cI, 6, .inl lm)), ((b 2), .inl (cI, 12, .inl go)), ((b 15), .inl (cI, 12, .inl cn)), ((b 17), .inl (cI, 6, .inl tk)), ((b 18), .inl (cI, 6, .inl hv)), ((b 14), .inl (cI, 6, .inl nd)), ((b 16), .inl (cI, 6, .inl gv))] U.heap ∧ va_K D cls (tyl cI cJ cZ cP cS) U ∧ va_D (fun _ => True) [(h, .inr (8, [.int th, .int (nI G), .ref (b 0), .ref (b 1), .int (nI C), .ref (b 2), .ref (b 3), .ref (b 4), .ref (b 5), .ref (b 6), .ref (b 7), .ref (b 8), .ref (b 9), .ref (b 10), .ref (b 11), .ref (b 12), .ref (b 13), .ref (b 14), .ref (b 15), .ref (b 16), .ref (b 17), .ref (b 18), .int (zb hs), .ref (b 19), .ref (b 20)])), ((b 0), .inl (cI, 6, .inl pa)), ((b 1), .inl (cI, 6, .inl lm)), ((b 2), .inl (cI, 12, .inl go)), ((b 15), .inl (cI, 12, .inl cn)), ((b 17), .inl (cI, 6, .inl tk)), ((b 18), .inl (cI, 6, .inl hv)), ((b 14), .inl (cI, 6, .inl nd)), ((b 16), .inl (cI, 6, .inl gv))])) (zv (some (.int (yms G C pa lm tk go cn nd gv some0 hv 31).1)) D [(h, .inr (8, [.int th, .int (nI G), .ref (b 0), .ref (b 1), .int (nI C), .ref (b 2), .ref (b 3), .ref (b 4), .ref (b 5), .ref (b 6), .ref (b 7), .ref (b 8), .ref (b 9), .ref (b 10), .ref (b 11), .ref (b 12), .ref (b 13), .ref (b 14), .ref (b 15), .ref (b 16), .ref (b 17), .ref (b 18), .int (zb hs), .ref (b 19), .ref (b 20)])), ((b 0), .inl (cI, 6, .inl pa)), ((b 1), .inl (cI, 6, .inl lm)), ((b 2), .inl (cI, 12, .inl go)), ((b 15), .inl (cI, 12, .inl cn)), ((b 17), .inl (cI, 6, .inl tk)), ((b 18), .inl (cI, 6, .inl ((yms G C pa lm tk go cn nd gv some0 hv 31).2))), ((b 14), .inl (cI, 6, .inl nd)), ((b 16), .inl (cI, 6, .inl gv))] (va_A [(h, .inr (8, [.int th, .int (nI G), .ref (b 0), .ref (b 1), .int (nI C), .ref (b 2), .ref (b 3), .ref (b 4), .ref (b 5), .ref (b 6), .ref (b 7), .ref (b 8), .ref (b 9), .ref (b 10), .ref (b 11), .ref (b 12), .ref (b 13), .ref (b 14), .ref (b 15), .ref (b 16), .ref (b 17), .ref (b 18), .int (zb hs), .ref (b 19), .ref (b 20)])), ((b 0), .inl (cI, 6, .inl pa)), ((b 1), .inl (cI, 6, .inl lm)), ((b 2), .inl (cI, 12, .inl go)), ((b 15), .inl (cI, 12, .inl cn)), ((b 17), .inl (cI, 6, .inl tk)), ((b 18), .inl (cI, 6, .inl hv)), ((b 14), .inl (cI, 6, .inl nd)), ((b 16), .inl (cI, 6, .inl gv))] sz)) 0 0 (va_A [(h, .inr (8, [.int th, .int (nI G), .ref (b 0), .ref (b 1), .int (nI C), .ref (b 2), .ref (b 3), .ref (b 4), .ref (b 5), .ref (b 6), .ref (b 7), .ref (b 8), .ref (b 9), .ref (b 10), .ref (b 11), .ref (b 12), .ref (b 13), .ref (b 14), .ref (b 15), .ref (b 16), .ref (b 17), .ref (b 18), .int (zb hs), .ref (b 19), .ref (b 20)])), ((b 0), .inl (cI, 6, .inl pa)), ((b 1), .inl (cI, 6, .inl lm)), ((b 2), .inl (cI, 12, .inl go)), ((b 15), .inl (cI, 12, .inl cn)), ((b 17), .inl (cI, 6, .inl tk)), ((b 18), .inl (cI, 6, .inl hv)), ((b 14), .inl (cI, 6, .inl nd)), ((b 16), .inl (cI, 6, .inl gv))] sz) := by
  refine Met.ofW (cc := b_MO_most) (maxL := 5) (ret := (some .int)) (by decide +kernel) rfl ?_
  intro p e s m args below meth c s₁ B hml hv
  obtain ⟨rfl, hsz, hok, hP, hK, hD0⟩ := hv
  have hx := B.exec
  have hb := B.bytes
  have hr := B.returns
  have hown : s.vm.findClass "StudyAuditModel" = some m.cls := findClass_of_methodNamed B.named
  have hlocks := B.notSynchronized
  subst hsz
  have hD := hD0.self (sz := s.heap.size)
  generalize hAe : va_A [(h, .inr (8, [.int th, .int (nI G), .ref (b 0), .ref (b 1), .int (nI C), .ref (b 2), .ref (b 3), .ref (b 4), .ref (b 5), .ref (b 6), .ref (b 7), .ref (b 8), .ref (b 9), .ref (b 10), .ref (b 11), .ref (b 12), .ref (b 13), .ref (b 14), .ref (b 15), .ref (b 16), .ref (b 17), .ref (b 18), .int (zb hs), .ref (b 19), .ref (b 20)])), ((b 0), .inl (cI, 6, .inl pa)), ((b 1), .inl (cI, 6, .inl lm)), ((b 2), .inl (cI, 12, .inl go)), ((b 15), .inl (cI, 12, .inl cn)), ((b 17), .inl (cI, 6, .inl tk)), ((b 18), .inl (cI, 6, .inl hv)), ((b 14), .inl (cI, 6, .inl nd)), ((b 16), .inl (cI, 6, .inl gv))] s.heap.size = A at hD ⊢
  have hA : ∀ q : Nat, s.heap.size ≤ q → A q := fun q h => by rw [← hAe]; exact Or.inr h
  have hS : va_S A s.heap s.heap [] := va_S.rf
  have hl := lv_entry ([.ref h, .int some0]) (n := 5) (Nat.le_of_ble_eq_true rfl)
  rw [lg_entry_eq]
  generalize (lg_sl ([.ref h, .int some0]) ++ List.replicate (5 - (lg_sl ([.ref h, .int some0])).length) Slot.unset).toArray = ls at hl ⊢
  have hl : lv_has ls 5 [(0, .ref h), (1, .int some0)] := hl
  refine lv_aload_n hx hb d_MO_most_0 rfl (lv_at hl 0 rfl) ?_
  refine lv_bipush (v := 62) hx hb d_MO_most_1 (by decide) ?_
  refine zc_read (va_runV (Ts := []) (As := [.int 62]) (rest := []) ⟨hx, hb, hml, hown, fun _ h => absurd h List.not_mem_nil⟩ (m_MO_needOf l D cI cJ cZ cP cS h b th G C hs 62 nd gv) ⟨zc_B 1 hok c_MO_needOf_w t_10 t_872 rfl rfl (by decide +kernel) ⟨Nat.le_of_ble_eq_true rfl, Nat.le_of_ble_eq_true rfl⟩, hok _ t_874 rfl _, hok _ s_27 rfl _⟩ ⟨fun a U g mk q => by obtain ⟨q0, q2, qP, qK⟩ := q; exact ⟨q0, q2.call g mk a, qP, va_K.moved (u := U) (U := U.calling g mk a) (Vm.Alike.refl U.vm) qK⟩, va_recv hK hP (ci := 8) (q0 := 0) rfl rfl, fun U hU hW => ⟨rfl, hok.warm hW, by rw [hU]; exact hP.sub [0, 7, 8] rfl, va_K.moved hW.alike hK⟩⟩ rfl rfl hl.1 rfl (lv_room (Nat.le_of_ble_eq_true rfl)) d_MO_most_3 ⟨Nat.le_of_ble_eq_true rfl, Nat.le_of_ble_eq_true rfl⟩) ?_
  refine W.eq (g2 := F0 m 6 ls [.int (yno 62 nd gv 6)]) rfl ?_
  refine lv_istore_n hx hb d_MO_most_6 rfl hl (by decide) rfl (fun ls hl => ?_)
  have hl : lv_has ls 5 [(2, .int (yno 62 nd gv 6)), (0, .ref h), (1, .int some0)] := hl
  refine lv_iconst (v := 2) hx hb d_MO_most_7 (by decide) ?_
  refine lv_istore_n hx hb d_MO_most_8 rfl hl (by decide) rfl (fun ls hl => ?_)
  have hl : lv_has ls 5 [(3, .int 2), (2, .int (yno 62 nd gv 6)), (0, .ref h), (1, .int some0)] := hl
  have hP : va_P D cls [(h, .inr (8, [.int th, .int (nI G), .ref (b 0), .ref (b 1), .int (nI C), .ref (b 2), .ref (b 3), .ref (b 4), .ref (b 5), .ref (b 6), .ref (b 7), .ref (b 8), .ref (b 9), .ref (b 10), .ref (b 11), .ref (b 12), .ref (b 13), .ref (b 14), .ref (b 15), .ref (b 16), .ref (b 17), .ref (b 18), .int (zb hs), .ref (b 19), .ref (b 20)])), ((b 0), .inl (cI, 6, .inl pa)), ((b 1), .inl (cI, 6, .inl lm)), ((b 2), .inl (cI, 12, .inl go)), ((b 15), .inl (cI, 12, .inl cn)), ((b 17), .inl (cI, 6, .inl tk)), ((b 18), .inl (cI, 6, .inl ((yms G C pa lm tk go cn nd gv some0 hv 0).2))), ((b 14), .inl (cI, 6, .inl nd)), ((b 16), .inl (cI, 6, .inl gv))] s.heap := hP
  have hD : va_D A [(h, .inr (8, [.int th, .int (nI G), .ref (b 0), .ref (b 1), .int (nI C), .ref (b 2), .ref (b 3), .ref (b 4), .ref (b 5), .ref (b 6), .ref (b 7), .ref (b 8), .ref (b 9), .ref (b 10), .ref (b 11), .ref (b 12), .ref (b 13), .ref (b 14), .ref (b 15), .ref (b 16), .ref (b 17), .ref (b 18), .int (zb hs), .ref (b 19), .ref (b 20)])), ((b 0), .inl (cI, 6, .inl pa)), ((b 1), .inl (cI, 6, .inl lm)), ((b 2), .inl (cI, 12, .inl go)), ((b 15), .inl (cI, 12, .inl cn)), ((b 17), .inl (cI, 6, .inl tk)), ((b 18), .inl (cI, 6, .inl ((yms G C pa lm tk go cn nd gv some0 hv 0).2))), ((b 14), .inl (cI, 6, .inl nd)), ((b 16), .inl (cI, 6, .inl gv))] := hD
  refine lo_most D cI cJ cZ cP cS h b th G C hs some0 pa lm go cn tk hv nd gv hx hb hml hown hok hK hA hG hC hpa hgo (fun ls H locs hl hP hD hS => ?_) (31 - 0) 0 ls _ _ (by omega) (by omega) (lv_sub hl [2, 3, 1, 0] rfl) hP hD hS
  refine lv_iload_n hx hb d_MO_most_54 rfl (lv_at hl 2 rfl) ?_
  exact W.iret hx hb hr (fun t ht _ => ⟨⟨rfl, by rw [ht]; exact hP, hD⟩, hS.F ht⟩) hS.2.2 d_MO_most_55
