/-! the reference: the choice (rows by program) -/
def yan (pa : Nat → Int32) (n g j : Nat) : Bool := match n with
  | 0 => false
  | k + 1 => decide (j = g) || (if g = 0 then false else yan pa k (pa g).toNatClampNeg j)
theorem yan_le {pa : Nat → Int32} {G : Nat} (htr : ∀ j, 0 < j → j < G → pa j = nI (pa j).toNatClampNeg ∧ (pa j).toNatClampNeg < j) {j : Nat} : ∀ (n g : Nat), g < G → yan pa n g j = true → j ≤ g := by
  intro n
  induction n with
  | zero => intro g _ h; cases h
  | succ n ih =>
    intro g hg h
    unfold yan at h
    rw [Bool.or_eq_true] at h
    rcases h with h | h
    · exact Nat.le_of_eq (of_decide_eq_true h)
    · by_cases e : g = 0
      · rw [if_pos e] at h; cases h
      · rw [if_neg e] at h
        have h1 := htr g (Nat.pos_of_ne_zero e) hg
        have h2 := ih _ (by omega) h
        omega
theorem yfx_at {pa : Nat → Int32} {G : Nat} (htr : ∀ j, 0 < j → j < G → pa j = nI (pa j).toNatClampNeg ∧ (pa j).toNatClampNeg < j) {by0 : Int32} {j : Nat} : ∀ (n g : Nat) (tk : Nat → Int32), g < G → yfx pa by0 n g tk j = if yan pa n g j = true then tk j + by0 else tk j := by
  intro n
  induction n with
  | zero => intro g tk _; rfl
  | succ n ih =>
    intro g tk hg
    unfold yfx yan
    by_cases e : g = 0
    · rw [if_pos e, if_pos e, Bool.or_false]
      unfold upd
      by_cases e2 : j = g
      · rw [if_pos e2, if_pos (decide_eq_true e2), e2]
      · rw [if_neg e2, if_neg (by rw [decide_eq_false e2]; exact Bool.false_ne_true)]
    · rw [if_neg e, if_neg e]
      have h1 := htr g (Nat.pos_of_ne_zero e) hg
      rw [ih _ _ (by omega)]
      unfold upd
      by_cases e2 : j = g
      · have h3 : yan pa n (pa g).toNatClampNeg j = false := by
          cases hz : yan pa n (pa g).toNatClampNeg j with
          | false => rfl
          | true => have := yan_le htr n _ (by omega) hz; omega
        rw [h3, if_neg Bool.false_ne_true, if_pos e2, if_pos (by rw [decide_eq_true e2]; rfl), e2]
      · rw [if_neg e2, decide_eq_false e2, Bool.false_or]
theorem z_pm (x : Int32) : x + 1 + (-1) = x := by rw [Int32.add_assoc]; show x + 0 = x; exact Int32.add_zero x
theorem z_undoT {pa : Nat → Int32} {G : Nat} (htr : ∀ j, 0 < j → j < G → pa j = nI (pa j).toNatClampNeg ∧ (pa j).toNatClampNeg < j) {n g : Nat} (hg : g < G) (tk : Nat → Int32) : yfx pa (-1) n g (yfx pa 1 n g tk) = tk := by
  funext j
  rw [yfx_at htr n g _ hg, yfx_at htr n g _ hg]
  by_cases e : yan pa n g j = true
  · rw [if_pos e, if_pos e, z_pm]
  · rw [if_neg e, if_neg e]
theorem z_undoG (gv : Nat → Int32) (r : Nat) : upd (upd gv r (gv r + 1)) r (upd gv r (gv r + 1) r + (-1)) = gv := by
  rw [pk_us, z_pm, z_upu]
  funext j
  unfold upd
  split
  · rename_i h; rw [h]
  · rfl
def ych (G C : Nat) (pa lm tk go cn nd gv : Nat → Int32) (g0 c0 : Nat) (ot due : Int32) (n r : Nat) (hv : Nat → Int32) : Nat × (Nat → Int32) := match n with
  | 0 => (0, hv)
  | k + 1 => if (cn c0 >>> (nI r &&& 31)) &&& 1 = 1 ∧ ¬ nd r ≤ gv r ∧ yfi pa lm tk 7 g0 true = true then (if (yms G C pa lm (yfx pa 1 7 g0 tk) go cn nd (upd gv r (gv r + 1)) ot hv 31).1 + 1 = due then (r, (yms G C pa lm (yfx pa 1 7 g0 tk) go cn nd (upd gv r (gv r + 1)) ot hv 31).2) else ych G C pa lm tk go cn nd gv g0 c0 ot due k (r + 1) (yms G C pa lm (yfx pa 1 7 g0 tk) go cn nd (upd gv r (gv r + 1)) ot hv 31).2) else ych G C pa lm tk go cn nd gv g0 c0 ot due k (r + 1) hv
abbrev ro_MO_choice : Room := { frames := 2, cells := 0, slots := 0, locals := 48 }
set_option maxHeartbeats 4000000 in
set_option maxRecDepth 100000 in
theorem lo_choice {l : Launch} {p : Program} {e : Env} {s : State} {m : MethodId} {args : Array Value} {below : List Frame} {meth : Method} {c : Code} {H0 : Heap} {A : Nat → Prop} {Q : State → Prop} (D : va_G) (cI cJ cZ cP cS : ClassId) (h : Nat) (b : Nat → Nat) (th : Int32) (G C : Nat) (hs : Bool) (c0 g0 : Nat) (ot due : Int32) (pa lm go cn tk nd gv : Nat → Int32) (Z : Nat × (Nat → Int32)) (hx : p.tables.exec = Jvm.exec) (hb : c.code = b_MO_choice) (hml : c.maxLocals = 6) (hown : s.vm.findClass "StudyAuditModel" = some m.cls) (hok : tb_ok s) (hK : va_K D cls (tyl cI cJ cZ cP cS) s) (hA : ∀ q : Nat, H0.size ≤ q → A q) (hG : G ≤ 6) (hC : C ≤ 12) (hpa : ∀ j, 0 < j → j < G → vp_in (pa j) 6) (hgo : ∀ c, c < 12 → vp_in (go c) 6) (hp0 : 0 < G → pa 0 = -1) (htr : ∀ j, 0 < j → j < G → pa j = nI (pa j).toNatClampNeg ∧ (pa j).toNatClampNeg < j) (hc0 : c0 < 12) (hg0 : g0 < G) (hgc : go c0 = nI g0)
    (kr : ∀ (ls : Array Slot) (H : Heap) (locs : List Loc), lv_has ls 6 [(4, .int (nI Z.1))] → va_P D cls [(h, .inr (8, [.int th, .int (nI G), .ref (b 0), .ref (b 1), .int (nI C), .ref (b 2), .ref (b 3), .ref (b 4), .ref (b 5), .ref (b 6), .ref (b 7), .ref (b 8), .ref (b 9), .ref (b 10), .ref (b 11), .ref (b 12), .ref (b 13), .ref (b 14), .ref (b 15), .ref (b 16), .ref (b 17), .ref (b 18), .int (zb hs), .ref (b 19), .ref (b 20)])), ((b 0), .inl (cI, 6, .inl pa)), ((b 1), .inl (cI, 6, .inl lm)), ((b 2), .inl (cI, 12, .inl go)), ((b 15), .inl (cI, 12, .inl cn)), ((b 17), .inl (cI, 6, .inl tk)), ((b 18), .inl (cI, 6, .inl Z.2)), ((b 14), .inl (cI, 6, .inl nd)), ((b 16), .inl (cI, 6, .inl gv))] H → va_D A [(h, .inr (8, [.int th, .int (nI G), .ref (b 0), .ref (b 1), .int (nI C), .ref (b 2), .ref (b 3), .ref (b 4), .ref (b 5), .ref (b 6), .ref (b 7), .ref (b 8), .ref (b 9), .ref (b 10), .ref (b 11), .ref (b 12), .ref (b 13), .ref (b 14), .ref (b 15), .ref (b 16), .ref (b 17), .ref (b 18), .int (zb hs), .ref (b 19), .ref (b 20)])), ((b 0), .inl (cI, 6, .inl pa)), ((b 1), .inl (cI, 6, .inl lm)), ((b 2), .inl (cI, 12, .inl go)), ((b 15), .inl (cI, 12, .inl cn)), ((b 17), .inl (cI, 6, .inl tk)), ((b 18), .inl (cI, 6, .inl Z.2)), ((b 14), .inl (cI, 6, .inl nd)), ((b 16), .inl (cI, 6, .inl gv))] → va_S A H0 H locs → W p l e ro_MO_choice s m args below meth c H locs 0 0 Q (F0 m 89 ls []))
    (kk : ∀ (ls : Array Slot) (H : Heap) (locs : List Loc), Z.1 = 0 → va_P D cls [(h, .inr (8, [.int th, .int (nI G), .ref (b 0), .ref (b 1), .int (nI C), .ref (b 2), .ref (b 3), .ref (b 4), .ref (b 5), .ref (b 6), .ref (b 7), .ref (b 8), .ref (b 9), .ref (b 10), .ref (b 11), .ref (b 12), .ref (b 13), .ref (b 14), .ref (b 15), .ref (b 16), .ref (b 17), .ref (b 18), .int (zb hs), .ref (b 19), .ref (b 20)])), ((b 0), .inl (cI, 6, .inl pa)), ((b 1), .inl (cI, 6, .inl lm)), ((b 2), .inl (cI, 12, .inl go)), ((b 15), .inl (cI, 12, .inl cn)), ((b 17), .inl (cI, 6, .inl tk)), ((b 18), .inl (cI, 6, .inl Z.2)), ((b 14), .inl (cI, 6, .inl nd)), ((b 16), .inl (cI, 6, .inl gv))] H → va_D A [(h, .inr (8, [.int th, .int (nI G), .ref (b 0), .ref (b 1), .int (nI C), .ref (b 2), .ref (b 3), .ref (b 4), .ref (b 5), .ref (b 6), .ref (b 7), .ref (b 8), .ref (b 9), .ref (b 10), .ref (b 11), .ref (b 12), .ref (b 13), .ref (b 14), .ref (b 15), .ref (b 16), .ref (b 17), .ref (b 18), .int (zb hs), .ref (b 19), .ref (b 20)])), ((b 0), .inl (cI, 6, .inl pa)), ((b 1), .inl (cI, 6, .inl lm)), ((b 2), .inl (cI, 12, .inl go)), ((b 15), .inl (cI, 12, .inl cn)), ((b 17), .inl (cI, 6, .inl tk)), ((b 18), .inl (cI, 6, .inl Z.2)), ((b 14), .inl (cI, 6, .inl nd)), ((b 16), .inl (cI, 6, .inl gv))] → va_S A H0 H locs → W p l e ro_MO_choice s m args below meth c H locs 0 0 Q (F0 m 98 ls [])) :
    ∀ (k i : Nat) (hv : Nat → Int32) (ls : Array Slot) (H : Heap) (locs : List Loc), i + k = 6 → 1 ≤ i → ych G C pa lm tk go cn nd gv g0 c0 ot due k i hv = Z → lv_has ls 6 [(0, .ref h), (1, .int (nI c0)), (2, .int ot), (3, .int due), (4, .int (nI i))] → va_P D cls [(h, .inr (8, [.int th, .int (nI G), .ref (b 0), .ref (b 1), .int (nI C), .ref (b 2), .ref (b 3), .ref (b 4), .ref (b 5), .ref (b 6), .ref (b 7), .ref (b 8), .ref (b 9), .ref (b 10), .ref (b 11), .ref (b 12), .ref (b 13), .ref (b 14), .ref (b 15), .ref (b 16), .ref (b 17), .ref (b 18), .int (zb hs), .ref (b 19), .ref (b 20)])), ((b 0), .inl (cI, 6, .inl pa)), ((b 1), .inl (cI, 6, .inl lm)), ((b 2), .inl (cI, 12, .inl go)), ((b 15), .inl (cI, 12, .inl cn)), ((b 17), .inl (cI, 6, .inl tk)), ((b 18), .inl (cI, 6, .inl hv)), ((b 14), .inl (cI, 6, .inl nd)), ((b 16), .inl (cI, 6, .inl gv))] H → va_D A [(h, .inr (8, [.int th, .int (nI G), .ref (b 0), .ref (b 1), .int (nI C), .ref (b 2), .ref (b 3), .ref (b 4), .ref (b 5), .ref (b 6), .ref (b 7), .ref (b 8), .ref (b 9), .ref (b 10), .ref (b 11), .ref (b 12), .ref (b 13), .ref (b 14), .ref (b 15), .ref (b 16), .ref (b 17), .ref (b 18), .int (zb hs), .ref (b 19), .ref (b 20)])), ((b 0), .inl (cI, 6, .inl pa)), ((b 1), .inl (cI, 6, .inl lm)), ((b 2), .inl (cI, 12, .inl go)), ((b 15), .inl (cI, 12, .inl cn)), ((b 17), .inl (cI, 6, .inl tk)), ((b 18), .inl (cI, 6, .inl hv)), ((b 14), .inl (cI, 6, .inl nd)), ((b 16), .inl (cI, 6, .inl gv))] → va_S A H0 H locs → W p l e ro_MO_choice s m args below meth c H locs 0 0 Q (F0 m 3 ls []) := by
  intro k
  induction k with
  | zero =>
    intro i hv ls H locs hik hi1 hZ hl hP hD hS
    have hik : i = 6 := by omega
    subst hik
    subst hZ
    refine lv_iload hx hb d_MO_choice_3 (lv_at hl 4 rfl) ?_
    refine lv_bipush (v := 6) hx hb d_MO_choice_5 (by decide) ?_
    refine lv_icmp_ge (tgt := 98) hx hb d_MO_choice_7 (by decide) (fun h7 => ?_) (fun h7 => absurd (show nI 6 ≤ nI 6 from Int32.le_refl _) h7)
    exact kk ls H locs rfl hP hD hS
  | succ k ih =>
    intro i hv ls H locs hik hi1 hZ hl hP hD hS
    refine lv_iload hx hb d_MO_choice_3 (lv_at hl 4 rfl) ?_
    refine lv_bipush (v := 6) hx hb d_MO_choice_5 (by decide) ?_
    refine lv_icmp_ge (tgt := 98) hx hb d_MO_choice_7 (by decide) (fun h7 => absurd h7 (show ¬ nI 6 ≤ nI i from nI_ge (by omega) (by omega))) (fun h7 => ?_)
    refine lv_aload_n hx hb d_MO_choice_10 rfl (lv_at hl 0 rfl) ?_
    refine va_get (D := D) (ci := 8) (v := .ref (b 15)) (C := R_MO) (T := F_MO) (N := 25) hx hb (tb_in hok in_MO) (fun w h => h) hown hK hP 0 rfl rfl 18 (by decide) (hok _ t_723 rfl _) (fun _ h9 => h9) rfl d_MO_choice_11 ?_
    refine lv_iload_n hx hb d_MO_choice_14 rfl (lv_at hl 1 rfl) ?_
    refine va_iald hx hb hK hP 4 0 rfl rfl (vp_in_nI (by omega) (by omega)) d_MO_choice_15 ?_
    rw [nI_clamp (show c0 < 2 ^ 31 from by omega)]
    refine lv_iload hx hb d_MO_choice_16 (lv_at hl 4 rfl) ?_
    refine lv_ishr hx hb d_MO_choice_18 ?_
    refine lv_iconst (v := 1) hx hb d_MO_choice_19 (by decide) ?_
    refine lv_iand hx hb d_MO_choice_20 ?_
    refine lv_iconst (v := 1) hx hb d_MO_choice_21 (by decide) ?_
    refine lv_icmp_ne (tgt := 92) hx hb d_MO_choice_22 (by decide) (fun h22 => ?_) (fun h22 => ?_)
    · refine lv_iinc (v := (nI (i + 1))) hx hb d_MO_choice_92 hl (k := 4) rfl (by rw [nI_succ]; rfl) (by decide) rfl (fun ls hl => ?_)
      have hl : lv_has ls 6 [(4, .int (nI (i + 1))), (0, .ref h), (1, .int (nI c0)), (2, .int ot), (3, .int due)] := hl
      refine lv_goto (tgt := 3) hx hb d_MO_choice_95 (by decide) ?_
      have e8 : ych G C pa lm tk go cn nd gv g0 c0 ot due (k + 1) i hv = ych G C pa lm tk go cn nd gv g0 c0 ot due k (i + 1) hv := if_neg (fun z => h22 z.1)
      rw [e8] at hZ
      exact ih (i + 1) hv ls H locs (by omega) (by omega) hZ (lv_sub hl [1, 2, 3, 4, 0] rfl) hP hD hS
    · refine lv_aload_n hx hb d_MO_choice_25 rfl (lv_at hl 0 rfl) ?_
      refine va_get (D := D) (ci := 8) (v := .ref (b 16)) (C := R_MO) (T := F_MO) (N := 25) hx hb (tb_in hok in_MO) (fun w h => h) hown hK hP 0 rfl rfl 19 (by decide) (hok _ t_724 rfl _) (fun _ h9 => h9) rfl d_MO_choice_26 ?_
      refine lv_iload hx hb d_MO_choice_29 (lv_at hl 4 rfl) ?_
      refine va_iald hx hb hK hP 8 0 rfl rfl (vp_in_nI (by omega) (by omega)) d_MO_choice_31 ?_
      rw [nI_clamp (show i < 2 ^ 31 from by omega)]
      refine lv_aload_n hx hb d_MO_choice_32 rfl (lv_at hl 0 rfl) ?_
      refine va_get (D := D) (ci := 8) (v := .ref (b 14)) (C := R_MO) (T := F_MO) (N := 25) hx hb (tb_in hok in_MO) (fun w h => h) hown hK hP 0 rfl rfl 17 (by decide) (hok _ t_722 rfl _) (fun _ h9 => h9) rfl d_MO_choice_33 ?_
      refine lv_iload hx hb d_MO_choice_36 (lv_at hl 4 rfl) ?_
      refine va_iald hx hb hK hP 7 0 rfl rfl (vp_in_nI (by omega) (by omega)) d_MO_choice_38 ?_
      rw [nI_clamp (show i < 2 ^ 31 from by omega)]
      refine lv_icmp_ge (tgt := 92) hx hb d_MO_choice_39 (by decide) (fun h39 => ?_) (fun h39 => ?_)
      · refine lv_iinc (v := (nI (i + 1))) hx hb d_MO_choice_92 hl (k := 4) rfl (by rw [nI_succ]; rfl) (by decide) rfl (fun ls hl => ?_)
        have hl : lv_has ls 6 [(4, .int (nI (i + 1))), (0, .ref h), (1, .int (nI c0)), (2, .int ot), (3, .int due)] := hl
        refine lv_goto (tgt := 3) hx hb d_MO_choice_95 (by decide) ?_
        have e8 : ych G C pa lm tk go cn nd gv g0 c0 ot due (k + 1) i hv = ych G C pa lm tk go cn nd gv g0 c0 ot due k (i + 1) hv := if_neg (fun z => z.2.1 h39)
        rw [e8] at hZ
        exact ih (i + 1) hv ls H locs (by omega) (by omega) hZ (lv_sub hl [1, 2, 3, 4, 0] rfl) hP hD hS
      · refine lv_aload_n hx hb d_MO_choice_42 rfl (lv_at hl 0 rfl) ?_
        refine lv_iload_n hx hb d_MO_choice_43 rfl (lv_at hl 1 rfl) ?_
        refine zc_read (va_runV (Ts := []) (As := [.int (nI c0)]) (rest := []) ⟨hx, hb, hml, hown, fun _ h => absurd h List.not_mem_nil⟩ (m_MO_fits l D cI cJ cZ cP cS h b th G C hs c0 pa lm go tk hG hc0 g0 hg0 hgc hp0 htr) ⟨zc_B 1 hok c_MO_fits_w t_10 t_891 rfl rfl (by decide +kernel) ⟨Nat.le_of_ble_eq_true rfl, Nat.le_of_ble_eq_true rfl⟩, hok _ t_893 rfl _, hok _ s_31 rfl _⟩ ⟨fun a U g mk q => by obtain ⟨q0, q2, qP, qK⟩ := q; exact ⟨q0, q2.call g mk a, qP, va_K.moved (u := U) (U := U.calling g mk a) (Vm.Alike.refl U.vm) qK⟩, va_recv hK hP (ci := 8) (q0 := 0) rfl rfl, fun U hU hW => ⟨rfl, hok.warm hW, by rw [hU]; exact hP.sub [0, 1, 2, 3, 5] rfl, va_K.moved hW.alike hK⟩⟩ rfl rfl hl.1 rfl (lv_room (Nat.le_of_ble_eq_true rfl)) d_MO_choice_44 ⟨Nat.le_of_ble_eq_true rfl, Nat.le_of_ble_eq_true rfl⟩) ?_
        refine W.eq (g2 := F0 m 47 ls [.int (zb (yfi pa lm tk 7 g0 true))]) rfl ?_
        refine lv_if_eq (tgt := 92) hx hb d_MO_choice_47 (by decide) (fun h47 => ?_) (fun h47 => ?_)
        · refine lv_iinc (v := (nI (i + 1))) hx hb d_MO_choice_92 hl (k := 4) rfl (by rw [nI_succ]; rfl) (by decide) rfl (fun ls hl => ?_)
          have hl : lv_has ls 6 [(4, .int (nI (i + 1))), (0, .ref h), (1, .int (nI c0)), (2, .int ot), (3, .int due)] := hl
          refine lv_goto (tgt := 3) hx hb d_MO_choice_95 (by decide) ?_
          have e8 : ych G C pa lm tk go cn nd gv g0 c0 ot due (k + 1) i hv = ych G C pa lm tk go cn nd gv g0 c0 ot due k (i + 1) hv := if_neg (fun z => by rw [zb_0 h47] at z; cases z.2.2)
          rw [e8] at hZ
          exact ih (i + 1) hv ls H locs (by omega) (by omega) hZ (lv_sub hl [1, 2, 3, 4, 0] rfl) hP hD hS
        · refine lv_aload_n hx hb d_MO_choice_50 rfl (lv_at hl 0 rfl) ?_
          refine lv_iload_n hx hb d_MO_choice_51 rfl (lv_at hl 1 rfl) ?_
          refine lv_iload hx hb d_MO_choice_52 (lv_at hl 4 rfl) ?_
          refine lv_iconst (v := 1) hx hb d_MO_choice_54 (by decide) ?_
          refine zc_write (wc := [(h, .inr (8, [.int th, .int (nI G), .ref (b 0), .ref (b 1), .int (nI C), .ref (b 2), .ref (b 3), .ref (b 4), .ref (b 5), .ref (b 6), .ref (b 7), .ref (b 8), .ref (b 9), .ref (b 10), .ref (b 11), .ref (b 12), .ref (b 13), .ref (b 14), .ref (b 15), .ref (b 16), .ref (b 17), .ref (b 18), .int (zb hs), .ref (b 19), .ref (b 20)])), ((b 0), .inl (cI, 6, .inl pa)), ((b 2), .inl (cI, 12, .inl go)), ((b 16), .inl (cI, 6, .inl gv)), ((b 17), .inl (cI, 6, .inl tk))]) (wc1 := [(h, .inr (8, [.int th, .int (nI G), .ref (b 0), .ref (b 1), .int (nI C), .ref (b 2), .ref (b 3), .ref (b 4), .ref (b 5), .ref (b 6), .ref (b 7), .ref (b 8), .ref (b 9), .ref (b 10), .ref (b 11), .ref (b 12), .ref (b 13), .ref (b 14), .ref (b 15), .ref (b 16), .ref (b 17), .ref (b 18), .int (zb hs), .ref (b 19), .ref (b 20)])), ((b 0), .inl (cI, 6, .inl pa)), ((b 2), .inl (cI, 12, .inl go)), ((b 16), .inl (cI, 6, .inl (upd gv i (gv i + 1)))), ((b 17), .inl (cI, 6, .inl (yfx pa 1 7 g0 tk)))]) (wr := [((b 1), .inl (cI, 6, .inl lm)), ((b 15), .inl (cI, 12, .inl cn)), ((b 18), .inl (cI, 6, .inl hv)), ((b 14), .inl (cI, 6, .inl nd))]) (ws1 := [(h, .inr (8, [.int th, .int (nI G), .ref (b 0), .ref (b 1), .int (nI C), .ref (b 2), .ref (b 3), .ref (b 4), .ref (b 5), .ref (b 6), .ref (b 7), .ref (b 8), .ref (b 9), .ref (b 10), .ref (b 11), .ref (b 12), .ref (b 13), .ref (b 14), .ref (b 15), .ref (b 16), .ref (b 17), .ref (b 18), .int (zb hs), .ref (b 19), .ref (b 20)])), ((b 0), .inl (cI, 6, .inl pa)), ((b 1), .inl (cI, 6, .inl lm)), ((b 2), .inl (cI, 12, .inl go)), ((b 15), .inl (cI, 12, .inl cn)), ((b 17), .inl (cI, 6, .inl (yfx pa 1 7 g0 tk))), ((b 18), .inl (cI, 6, .inl hv)), ((b 14), .inl (cI, 6, .inl nd)), ((b 16), .inl (cI, 6, .inl (upd gv i (gv i + 1))))]) (va_runV (Ts := []) (As := [.int (nI c0), .int (nI i), .int 1]) (rest := []) ⟨hx, hb, hml, hown, fun _ h => absurd h List.not_mem_nil⟩ (m_MO_fix l D cI cJ cZ cP cS h b th G C hs c0 i 1 pa go gv tk hG hc0 (by omega) g0 hg0 hgc hp0 htr _) ⟨zc_B 3 hok c_MO_fix_w t_10 t_895 rfl rfl (by decide +kernel) ⟨Nat.le_of_ble_eq_true rfl, Nat.le_of_ble_eq_true rfl⟩, hok _ t_897 rfl _, hok _ s_32 rfl _⟩ ⟨fun a U g mk q => by obtain ⟨q0, q1, q2, qP, qK, qD⟩ := q; exact ⟨q0, q1, q2.call g mk a, qP, va_K.moved (u := U) (U := U.calling g mk a) (Vm.Alike.refl U.vm) qK, qD⟩, va_recv hK hP (ci := 8) (q0 := 0) rfl rfl, fun U hU hW => ⟨rfl, by rw [hU], hok.warm hW, by rw [hU]; exact hP.sub [0, 1, 3, 8, 5] rfl, va_K.moved hW.alike hK, (hD.sub [0, 1, 3, 8, 5] (by decide) rfl).weaken (fun _ _ _ _ => trivial)⟩⟩ rfl rfl hl.1 rfl (lv_room (Nat.le_of_ble_eq_true rfl)) d_MO_choice_55 ⟨Nat.le_of_ble_eq_true rfl, Nat.le_of_ble_eq_true rfl⟩) hS hP hD hA [0, 1, 3, 8, 5] [2, 4, 6, 7] [4, 5, 0, 6, 1, 8, 2, 3, 7] rfl rfl (by decide) (by decide) rfl rfl (by decide) (fun H locs hP hD hS => ?_)
          refine W.eq (g2 := F0 m 58 ls []) rfl ?_
          refine lv_aload_n hx hb d_MO_choice_58 rfl (lv_at hl 0 rfl) ?_
          refine lv_iload_n hx hb d_MO_choice_59 rfl (lv_at hl 2 rfl) ?_
          refine zc_write (wc := [(h, .inr (8, [.int th, .int (nI G), .ref (b 0), .ref (b 1), .int (nI C), .ref (b 2), .ref (b 3), .ref (b 4), .ref (b 5), .ref (b 6), .ref (b 7), .ref (b 8), .ref (b 9), .ref (b 10), .ref (b 11), .ref (b 12), .ref (b 13), .ref (b 14), .ref (b 15), .ref (b 16), .ref (b 17), .ref (b 18), .int (zb hs), .ref (b 19), .ref (b 20)])), ((b 0), .inl (cI, 6, .inl pa)), ((b 1), .inl (cI, 6, .inl lm)), ((b 2), .inl (cI, 12, .inl go)), ((b 15), .inl (cI, 12, .inl cn)), ((b 17), .inl (cI, 6, .inl (yfx pa 1 7 g0 tk))), ((b 18), .inl (cI, 6, .inl hv)), ((b 14), .inl (cI, 6, .inl nd)), ((b 16), .inl (cI, 6, .inl (upd gv i (gv i + 1))))]) (wc1 := [(h, .inr (8, [.int th, .int (nI G), .ref (b 0), .ref (b 1), .int (nI C), .ref (b 2), .ref (b 3), .ref (b 4), .ref (b 5), .ref (b 6), .ref (b 7), .ref (b 8), .ref (b 9), .ref (b 10), .ref (b 11), .ref (b 12), .ref (b 13), .ref (b 14), .ref (b 15), .ref (b 16), .ref (b 17), .ref (b 18), .int (zb hs), .ref (b 19), .ref (b 20)])), ((b 0), .inl (cI, 6, .inl pa)), ((b 1), .inl (cI, 6, .inl lm)), ((b 2), .inl (cI, 12, .inl go)), ((b 15), .inl (cI, 12, .inl cn)), ((b 17), .inl (cI, 6, .inl (yfx pa 1 7 g0 tk))), ((b 18), .inl (cI, 6, .inl ((yms G C pa lm (yfx pa 1 7 g0 tk) go cn nd (upd gv i (gv i + 1)) ot hv 31).2))), ((b 14), .inl (cI, 6, .inl nd)), ((b 16), .inl (cI, 6, .inl (upd gv i (gv i + 1))))]) (wr := []) (ws1 := [(h, .inr (8, [.int th, .int (nI G), .ref (b 0), .ref (b 1), .int (nI C), .ref (b 2), .ref (b 3), .ref (b 4), .ref (b 5), .ref (b 6), .ref (b 7), .ref (b 8), .ref (b 9), .ref (b 10), .ref (b 11), .ref (b 12), .ref (b 13), .ref (b 14), .ref (b 15), .ref (b 16), .ref (b 17), .ref (b 18), .int (zb hs), .ref (b 19), .ref (b 20)])), ((b 0), .inl (cI, 6, .inl pa)), ((b 1), .inl (cI, 6, .inl lm)), ((b 2), .inl (cI, 12, .inl go)), ((b 15), .inl (cI, 12, .inl cn)), ((b 17), .inl (cI, 6, .inl (yfx pa 1 7 g0 tk))), ((b 18), .inl (cI, 6, .inl ((yms G C pa lm (yfx pa 1 7 g0 tk) go cn nd (upd gv i (gv i + 1)) ot hv 31).2))), ((b 14), .inl (cI, 6, .inl nd)), ((b 16), .inl (cI, 6, .inl (upd gv i (gv i + 1))))]) (va_runV (Ts := []) (As := [.int ot]) (rest := []) ⟨hx, hb, hml, hown, fun _ h => absurd h List.not_mem_nil⟩ (m_MO_most l D cI cJ cZ cP cS h b th G C hs ot pa lm go cn (yfx pa 1 7 g0 tk) hv nd (upd gv i (gv i + 1)) hG hC hpa hgo _) ⟨zc_B 1 hok c_MO_most_w t_10 t_876 rfl rfl (by decide +kernel) ⟨Nat.le_of_ble_eq_true rfl, Nat.le_of_ble_eq_true rfl⟩, hok _ t_878 rfl _, hok _ s_28 rfl _⟩ ⟨fun a U g mk q => by obtain ⟨q0, q1, q2, qP, qK, qD⟩ := q; exact ⟨q0, q1, q2.call g mk a, qP, va_K.moved (u := U) (U := U.calling g mk a) (Vm.Alike.refl U.vm) qK, qD⟩, va_recv hK hP (ci := 8) (q0 := 0) rfl rfl, fun U hU hW => ⟨rfl, by rw [hU], hok.warm hW, by rw [hU]; exact hP.sub [0, 1, 2, 3, 4, 5, 6, 7, 8] rfl, va_K.moved hW.alike hK, (hD.sub [0, 1, 2, 3, 4, 5, 6, 7, 8] (by decide) rfl).weaken (fun _ _ _ _ => trivial)⟩⟩ rfl rfl hl.1 rfl (lv_room (Nat.le_of_ble_eq_true rfl)) d_MO_choice_60 ⟨Nat.le_of_ble_eq_true rfl, Nat.le_of_ble_eq_true rfl⟩) hS hP hD hA [0, 1, 2, 3, 4, 5, 6, 7, 8] [] [0, 1, 2, 3, 4, 5, 6, 7, 8] rfl rfl (by decide) (by decide) rfl rfl (by decide) (fun H locs hP hD hS => ?_)
          refine W.eq (g2 := F0 m 63 ls [.int (yms G C pa lm (yfx pa 1 7 g0 tk) go cn nd (upd gv i (gv i + 1)) ot hv 31).1]) rfl ?_
          refine lv_iconst (v := 1) hx hb d_MO_choice_63 (by decide) ?_
          refine lv_iadd hx hb d_MO_choice_64 ?_
          refine lv_iload_n hx hb d_MO_choice_65 rfl (lv_at hl 3 rfl) ?_
          refine lv_icmp_ne (tgt := 73) hx hb d_MO_choice_66 (by decide) (fun h66 => ?_) (fun h66 => ?_)
          · refine lv_iconst (v := 0) hx hb d_MO_choice_73 (by decide) ?_
            refine lv_istore hx hb d_MO_choice_74 hl (by decide) rfl (fun ls hl => ?_)
            have hl : lv_has ls 6 [(5, .int 0), (0, .ref h), (1, .int (nI c0)), (2, .int ot), (3, .int due), (4, .int (nI i))] := hl
            refine lv_aload_n hx hb d_MO_choice_76 rfl (lv_at hl 1 rfl) ?_
            refine lv_iload_n hx hb d_MO_choice_77 rfl (lv_at hl 2 rfl) ?_
            refine lv_iload hx hb d_MO_choice_78 (lv_at hl 5 rfl) ?_
            refine lv_iconst (v := (-1)) hx hb d_MO_choice_80 (by decide) ?_
            refine zc_write (wc := [(h, .inr (8, [.int th, .int (nI G), .ref (b 0), .ref (b 1), .int (nI C), .ref (b 2), .ref (b 3), .ref (b 4), .ref (b 5), .ref (b 6), .ref (b 7), .ref (b 8), .ref (b 9), .ref (b 10), .ref (b 11), .ref (b 12), .ref (b 13), .ref (b 14), .ref (b 15), .ref (b 16), .ref (b 17), .ref (b 18), .int (zb hs), .ref (b 19), .ref (b 20)])), ((b 0), .inl (cI, 6, .inl pa)), ((b 2), .inl (cI, 12, .inl go)), ((b 16), .inl (cI, 6, .inl (upd gv i (gv i + 1)))), ((b 17), .inl (cI, 6, .inl (yfx pa 1 7 g0 tk)))]) (wc1 := [(h, .inr (8, [.int th, .int (nI G), .ref (b 0), .ref (b 1), .int (nI C), .ref (b 2), .ref (b 3), .ref (b 4), .ref (b 5), .ref (b 6), .ref (b 7), .ref (b 8), .ref (b 9), .ref (b 10), .ref (b 11), .ref (b 12), .ref (b 13), .ref (b 14), .ref (b 15), .ref (b 16), .ref (b 17), .ref (b 18), .int (zb hs), .ref (b 19), .ref (b 20)])), ((b 0), .inl (cI, 6, .inl pa)), ((b 2), .inl (cI, 12, .inl go)), ((b 16), .inl (cI, 6, .inl (upd (upd gv i (gv i + 1)) i ((upd gv i (gv i + 1)) i + (-1))))), ((b 17), .inl (cI, 6, .inl (yfx pa (-1) 7 g0 (yfx pa 1 7 g0 tk))))]) (wr := [((b 1), .inl (cI, 6, .inl lm)), ((b 15), .inl (cI, 12, .inl cn)), ((b 18), .inl (cI, 6, .inl ((yms G C pa lm (yfx pa 1 7 g0 tk) go cn nd (upd gv i (gv i + 1)) ot hv 31).2))), ((b 14), .inl (cI, 6, .inl nd))]) (ws1 := [(h, .inr (8, [.int th, .int (nI G), .ref (b 0), .ref (b 1), .int (nI C), .ref (b 2), .ref (b 3), .ref (b 4), .ref (b 5), .ref (b 6), .ref (b 7), .ref (b 8), .ref (b 9), .ref (b 10), .ref (b 11), .ref (b 12), .ref (b 13), .ref (b 14), .ref (b 15), .ref (b 16), .ref (b 17), .ref (b 18), .int (zb hs), .ref (b 19), .ref (b 20)])), ((b 0), .inl (cI, 6, .inl pa)), ((b 1), .inl (cI, 6, .inl lm)), ((b 2), .inl (cI, 12, .inl go)), ((b 15), .inl (cI, 12, .inl cn)), ((b 17), .inl (cI, 6, .inl (yfx pa (-1) 7 g0 (yfx pa 1 7 g0 tk)))), ((b 18), .inl (cI, 6, .inl ((yms G C pa lm (yfx pa 1 7 g0 tk) go cn nd (upd gv i (gv i + 1)) ot hv 31).2))), ((b 14), .inl (cI, 6, .inl nd)), ((b 16), .inl (cI, 6, .inl (upd (upd gv i (gv i + 1)) i ((upd gv i (gv i + 1)) i + (-1)))))]) (va_runV (Ts := []) (As := [.int (nI c0), .int (nI i), .int (-1)]) (rest := []) ⟨hx, hb, hml, hown, fun _ h => absurd h List.not_mem_nil⟩ (m_MO_fix l D cI cJ cZ cP cS h b th G C hs c0 i (-1) pa go (upd gv i (gv i + 1)) (yfx pa 1 7 g0 tk) hG hc0 (by omega) g0 hg0 hgc hp0 htr _) ⟨zc_B 3 hok c_MO_fix_w t_10 t_895 rfl rfl (by decide +kernel) ⟨Nat.le_of_ble_eq_true rfl, Nat.le_of_ble_eq_true rfl⟩, hok _ t_897 rfl _, hok _ s_32 rfl _⟩ ⟨fun a U g mk q => by obtain ⟨q0, q1, q2, qP, qK, qD⟩ := q; exact ⟨q0, q1, q2.call g mk a, qP, va_K.moved (u := U) (U := U.calling g mk a) (Vm.Alike.refl U.vm) qK, qD⟩, va_recv hK hP (ci := 8) (q0 := 0) rfl rfl, fun U hU hW => ⟨rfl, by rw [hU], hok.warm hW, by rw [hU]; exact hP.sub [0, 1, 3, 8, 5] rfl, va_K.moved hW.alike hK, (hD.sub [0, 1, 3, 8, 5] (by decide) rfl).weaken (fun _ _ _ _ => trivial)⟩⟩ rfl rfl hl.1 rfl (lv_room (Nat.le_of_ble_eq_true rfl)) d_MO_choice_81 ⟨Nat.le_of_ble_eq_true rfl, Nat.le_of_ble_eq_true rfl⟩) hS hP hD hA [0, 1, 3, 8, 5] [2, 4, 6, 7] [4, 5, 0, 6, 1, 8, 2, 3, 7] rfl rfl (by decide) (by decide) rfl rfl (by decide) (fun H locs hP hD hS => ?_)
            refine W.eq (g2 := F0 m 84 ls []) rfl ?_
            rw [z_undoG, z_undoT htr hg0] at hP hD
            have hP : va_P D cls [(h, .inr (8, [.int th, .int (nI G), .ref (b 0), .ref (b 1), .int (nI C), .ref (b 2), .ref (b 3), .ref (b 4), .ref (b 5), .ref (b 6), .ref (b 7), .ref (b 8), .ref (b 9), .ref (b 10), .ref (b 11), .ref (b 12), .ref (b 13), .ref (b 14), .ref (b 15), .ref (b 16), .ref (b 17), .ref (b 18), .int (zb hs), .ref (b 19), .ref (b 20)])), ((b 0), .inl (cI, 6, .inl pa)), ((b 1), .inl (cI, 6, .inl lm)), ((b 2), .inl (cI, 12, .inl go)), ((b 15), .inl (cI, 12, .inl cn)), ((b 17), .inl (cI, 6, .inl tk)), ((b 18), .inl (cI, 6, .inl ((yms G C pa lm (yfx pa 1 7 g0 tk) go cn nd (upd gv i (gv i + 1)) ot hv 31).2))), ((b 14), .inl (cI, 6, .inl nd)), ((b 16), .inl (cI, 6, .inl gv))] H := hP
            have hD : va_D A [(h, .inr (8, [.int th, .int (nI G), .ref (b 0), .ref (b 1), .int (nI C), .ref (b 2), .ref (b 3), .ref (b 4), .ref (b 5), .ref (b 6), .ref (b 7), .ref (b 8), .ref (b 9), .ref (b 10), .ref (b 11), .ref (b 12), .ref (b 13), .ref (b 14), .ref (b 15), .ref (b 16), .ref (b 17), .ref (b 18), .int (zb hs), .ref (b 19), .ref (b 20)])), ((b 0), .inl (cI, 6, .inl pa)), ((b 1), .inl (cI, 6, .inl lm)), ((b 2), .inl (cI, 12, .inl go)), ((b 15), .inl (cI, 12, .inl cn)), ((b 17), .inl (cI, 6, .inl tk)), ((b 18), .inl (cI, 6, .inl ((yms G C pa lm (yfx pa 1 7 g0 tk) go cn nd (upd gv i (gv i + 1)) ot hv 31).2))), ((b 14), .inl (cI, 6, .inl nd)), ((b 16), .inl (cI, 6, .inl gv))] := hD
            refine lv_iload hx hb d_MO_choice_84 (lv_at hl 0 rfl) ?_
            refine lv_if_eq (tgt := 92) hx hb d_MO_choice_86 (by decide) (fun h86 => ?_) (fun h86 => absurd (show (0 : Int32) = 0 from rfl) h86)
            refine lv_iinc (v := (nI (i + 1))) hx hb d_MO_choice_92 hl (k := 5) rfl (by rw [nI_succ]; rfl) (by decide) rfl (fun ls hl => ?_)
            have hl : lv_has ls 6 [(4, .int (nI (i + 1))), (5, .int 0), (0, .ref h), (1, .int (nI c0)), (2, .int ot), (3, .int due)] := hl
            refine lv_goto (tgt := 3) hx hb d_MO_choice_95 (by decide) ?_
            have e8 : ych G C pa lm tk go cn nd gv g0 c0 ot due (k + 1) i hv = ych G C pa lm tk go cn nd gv g0 c0 ot due k (i + 1) ((yms G C pa lm (yfx pa 1 7 g0 tk) go cn nd (upd gv i (gv i + 1)) ot hv 31).2) := (if_pos ⟨h22, h39, zb_1 h47⟩).trans (if_neg h66)
            rw [e8] at hZ
            exact ih (i + 1) ((yms G C pa lm (yfx pa 1 7 g0 tk) go cn nd (upd gv i (gv i + 1)) ot hv 31).2) ls H locs (by omega) (by omega) hZ (lv_sub hl [2, 3, 4, 5, 0] rfl) hP hD hS
          · refine lv_iconst (v := 1) hx hb d_MO_choice_69 (by decide) ?_
            refine lv_goto (tgt := 74) hx hb d_MO_choice_70 (by decide) ?_
            refine lv_istore hx hb d_MO_choice_74 hl (by decide) rfl (fun ls hl => ?_)
            have hl : lv_has ls 6 [(5, .int 1), (0, .ref h), (1, .int (nI c0)), (2, .int ot), (3, .int due), (4, .int (nI i))] := hl
            refine lv_aload_n hx hb d_MO_choice_76 rfl (lv_at hl 1 rfl) ?_
            refine lv_iload_n hx hb d_MO_choice_77 rfl (lv_at hl 2 rfl) ?_
            refine lv_iload hx hb d_MO_choice_78 (lv_at hl 5 rfl) ?_
            refine lv_iconst (v := (-1)) hx hb d_MO_choice_80 (by decide) ?_
            refine zc_write (wc := [(h, .inr (8, [.int th, .int (nI G), .ref (b 0), .ref (b 1), .int (nI C), .ref (b 2), .ref (b 3), .ref (b 4), .ref (b 5), .ref (b 6), .ref (b 7), .ref (b 8), .ref (b 9), .ref (b 10), .ref (b 11), .ref (b 12), .ref (b 13), .ref (b 14), .ref (b 15), .ref (b 16), .ref (b 17), .ref (b 18), .int (zb hs), .ref (b 19), .ref (b 20)])), ((b 0), .inl (cI, 6, .inl pa)), ((b 2), .inl (cI, 12, .inl go)), ((b 16), .inl (cI, 6, .inl (upd gv i (gv i + 1)))), ((b 17), .inl (cI, 6, .inl (yfx pa 1 7 g0 tk)))]) (wc1 := [(h, .inr (8, [.int th, .int (nI G), .ref (b 0), .ref (b 1), .int (nI C), .ref (b 2), .ref (b 3), .ref (b 4), .ref (b 5), .ref (b 6), .ref (b 7), .ref (b 8), .ref (b 9), .ref (b 10), .ref (b 11), .ref (b 12), .ref (b 13), .ref (b 14), .ref (b 15), .ref (b 16), .ref (b 17), .ref (b 18), .int (zb hs), .ref (b 19), .ref (b 20)])), ((b 0), .inl (cI, 6, .inl pa)), ((b 2), .inl (cI, 12, .inl go)), ((b 16), .inl (cI, 6, .inl (upd (upd gv i (gv i + 1)) i ((upd gv i (gv i + 1)) i + (-1))))), ((b 17), .inl (cI, 6, .inl (yfx pa (-1) 7 g0 (yfx pa 1 7 g0 tk))))]) (wr := [((b 1), .inl (cI, 6, .inl lm)), ((b 15), .inl (cI, 12, .inl cn)), ((b 18), .inl (cI, 6, .inl ((yms G C pa lm (yfx pa 1 7 g0 tk) go cn nd (upd gv i (gv i + 1)) ot hv 31).2))), ((b 14), .inl (cI, 6, .inl nd))]) (ws1 := [(h, .inr (8, [.int th, .int (nI G), .ref (b 0), .ref (b 1), .int (nI C), .ref (b 2), .ref (b 3), .ref (b 4), .ref (b 5), .ref (b 6), .ref (b 7), .ref (b 8), .ref (b 9), .ref (b 10), .ref (b 11), .ref (b 12), .ref (b 13), .ref (b 14), .ref (b 15), .ref (b 16), .ref (b 17), .ref (b 18), .int (zb hs), .ref (b 19), .ref (b 20)])), ((b 0), .inl (cI, 6, .inl pa)), ((b 1), .inl (cI, 6, .inl lm)), ((b 2), .inl (cI, 12, .inl go)), ((b 15), .inl (cI, 12, .inl cn)), ((b 17), .inl (cI, 6, .inl (yfx pa (-1) 7 g0 (yfx pa 1 7 g0 tk)))), ((b 18), .inl (cI, 6, .inl ((yms G C pa lm (yfx pa 1 7 g0 tk) go cn nd (upd gv i (gv i + 1)) ot hv 31).2))), ((b 14), .inl (cI, 6, .inl nd)), ((b 16), .inl (cI, 6, .inl (upd (upd gv i (gv i + 1)) i ((upd gv i (gv i + 1)) i + (-1)))))]) (va_runV (Ts := []) (As := [.int (nI c0), .int (nI i), .int (-1)]) (rest := []) ⟨hx, hb, hml, hown, fun _ h => absurd h List.not_mem_nil⟩ (m_MO_fix l D cI cJ cZ cP cS h b th G C hs c0 i (-1) pa go (upd gv i (gv i + 1)) (yfx pa 1 7 g0 tk) hG hc0 (by omega) g0 hg0 hgc hp0 htr _) ⟨zc_B 3 hok c_MO_fix_w t_10 t_895 rfl rfl (by decide +kernel) ⟨Nat.le_of_ble_eq_true rfl, Nat.le_of_ble_eq_true rfl⟩, hok _ t_897 rfl _, hok _ s_32 rfl _⟩ ⟨fun a U g mk q => by obtain ⟨q0, q1, q2, qP, qK, qD⟩ := q; exact ⟨q0, q1, q2.call g mk a, qP, va_K.moved (u := U) (U := U.calling g mk a) (Vm.Alike.refl U.vm) qK, qD⟩, va_recv hK hP (ci := 8) (q0 := 0) rfl rfl, fun U hU hW => ⟨rfl, by rw [hU], hok.warm hW, by rw [hU]; exact hP.sub [0, 1, 3, 8, 5] rfl, va_K.moved hW.alike hK, (hD.sub [0, 1, 3, 8, 5] (by decide) rfl).weaken (fun _ _ _ _ => trivial)⟩⟩ rfl rfl hl.1 rfl (lv_room (Nat.le_of_ble_eq_true rfl)) d_MO_choice_81 ⟨Nat.le_of_ble_eq_true rfl, Nat.le_of_ble_eq_true rfl⟩) hS hP hD hA [0, 1, 3, 8, 5] [2, 4, 6, 7] [4, 5, 0, 6, 1, 8, 2, 3, 7] rfl rfl (by decide) (by decide) rfl rfl (by decide) (fun H locs hP hD hS => ?_)
            refine W.eq (g2 := F0 m 84 ls []) rfl ?_
            rw [z_undoG, z_undoT htr hg0] at hP hD
            have hP : va_P D cls [(h, .inr (8, [.int th, .int (nI G), .ref (b 0), .ref (b 1), .int (nI C), .ref (b 2), .ref (b 3), .ref (b 4), .ref (b 5), .ref (b 6), .ref (b 7), .ref (b 8), .ref (b 9), .ref (b 10), .ref (b 11), .ref (b 12), .ref (b 13), .ref (b 14), .ref (b 15), .ref (b 16), .ref (b 17), .ref (b 18), .int (zb hs), .ref (b 19), .ref (b 20)])), ((b 0), .inl (cI, 6, .inl pa)), ((b 1), .inl (cI, 6, .inl lm)), ((b 2), .inl (cI, 12, .inl go)), ((b 15), .inl (cI, 12, .inl cn)), ((b 17), .inl (cI, 6, .inl tk)), ((b 18), .inl (cI, 6, .inl ((yms G C pa lm (yfx pa 1 7 g0 tk) go cn nd (upd gv i (gv i + 1)) ot hv 31).2))), ((b 14), .inl (cI, 6, .inl nd)), ((b 16), .inl (cI, 6, .inl gv))] H := hP
            have hD : va_D A [(h, .inr (8, [.int th, .int (nI G), .ref (b 0), .ref (b 1), .int (nI C), .ref (b 2), .ref (b 3), .ref (b 4), .ref (b 5), .ref (b 6), .ref (b 7), .ref (b 8), .ref (b 9), .ref (b 10), .ref (b 11), .ref (b 12), .ref (b 13), .ref (b 14), .ref (b 15), .ref (b 16), .ref (b 17), .ref (b 18), .int (zb hs), .ref (b 19), .ref (b 20)])), ((b 0), .inl (cI, 6, .inl pa)), ((b 1), .inl (cI, 6, .inl lm)), ((b 2), .inl (cI, 12, .inl go)), ((b 15), .inl (cI, 12, .inl cn)), ((b 17), .inl (cI, 6, .inl tk)), ((b 18), .inl (cI, 6, .inl ((yms G C pa lm (yfx pa 1 7 g0 tk) go cn nd (upd gv i (gv i + 1)) ot hv 31).2))), ((b 14), .inl (cI, 6, .inl nd)), ((b 16), .inl (cI, 6, .inl gv))] := hD
            refine lv_iload hx hb d_MO_choice_84 (lv_at hl 0 rfl) ?_
            refine lv_if_eq (tgt := 92) hx hb d_MO_choice_86 (by decide) (fun h86 => absurd h86 (show ¬ (1 : Int32) = 0 by decide)) (fun h86 => ?_)
            have e8 : ych G C pa lm tk go cn nd gv g0 c0 ot due (k + 1) i hv = (i, (yms G C pa lm (yfx pa 1 7 g0 tk) go cn nd (upd gv i (gv i + 1)) ot hv 31).2) := (if_pos ⟨h22, h39, zb_1 h47⟩).trans (if_pos h66)
            rw [e8] at hZ
            subst hZ
            exact kr ls H locs (lv_sub hl [5] rfl) hP hD hS
set_option maxHeartbeats 4000000 in
set_option maxRecDepth 100000 in
theorem m_MO_choice (l : Launch) (D : va_G) (cI cJ cZ cP cS : ClassId) (h : Nat) (b : Nat → Nat) (th : Int32) (G C : Nat) (hs : Bool) (c0 g0 : Nat) (ot due : Int32) (pa lm go cn tk nd gv hv : Nat → Int32) (hG : G ≤ 6) (hC : C ≤ 12) (hpa : ∀ j, 0 < j → j < G → vp_in (pa j) 6) (hgo : ∀ c, c < 12 → vp_in (go c) 6) (hp0 : 0 < G → pa 0 = -1) (htr : ∀ j, 0 < j → j < G → pa j = nI (pa j).toNatClampNeg ∧ (pa j).toNatClampNeg < j) (hc0 : c0 < 12) (hg0 : g0 < G) (hgc : go c0 = nI g0) (sz : Nat) : Met l y_MO_choice [Cond.code y_MO_choice b_MO_choice 6 (some .int)] ro_MO_choice (va_Pc [.ref h, .int (nI c0), .int ot, .int due] (fun U => U.heap.size = sz ∧ tb_ok U ∧ va_P D cls [(h, .inr (8, [.int th, .int (nI G), .ref (b 0), .ref (b 1), .int (nI C), .ref (b 2), .ref (b 3), .ref (b 4), .ref (b 5), .ref (b 6), .ref (b 7), .ref (b 8), .ref (b 9), .ref (b 10), .ref (b 11), .ref (b 12), .ref (b 13), .ref (b 14), .ref (b 15), .ref (b 16), .ref (b 17), .ref (b 18), .int (zb hs), .ref (b 19), .ref (b 20)])), ((b 0), .inl (cI, 6, .inl pa)), ((b 1), .inl (cI, 6, .inl lm)), ((b 2), .inl (cI, 12, .inl go)), ((b 15), .inl (cI, 12, .inl cn)), ((b 17), .inl (cI, 6, .inl tk)), ((b 18), .inl (cI, 6, .inl hv)), ((b 14), .inl (cI, 6, .inl nd)), ((b 16), .inl (cI, 6, .inl gv))] U.heap ∧ va_K D cls (tyl cI cJ cZ cP cS) U ∧ va_D (fun _ => True) [(h, .inr (8, [.int th, .int (nI G), .ref (b 0), .ref (b 1), .int (nI C), .ref (b 2), .ref (b 3), .ref (b 4), .ref (b 5), .ref (b 6), .ref (b 7), .ref (b 8), .ref (b 9), .ref (b 10), .ref (b 11), .ref (b 12), .ref (b 13), .ref (b 14), .ref (b 15), .ref (b 16), .ref (b 17), .ref (b 18), .int (zb hs), .ref (b 19), .ref (b 20)])), ((b 0), .inl (cI, 6, .inl pa)), ((b 1), .inl (cI, 6, .inl lm)), ((b 2), .inl (cI, 12, .inl go)), ((b 15), .inl (cI, 12, .inl cn)), ((b 17), .inl (cI, 6, .inl tk)), ((b 18), .inl (cI, 6, .inl hv)), ((b 14), .inl (cI, 6, .inl nd)), ((b 16), .inl (cI, 6, .inl gv))])) (zv (some (.int (nI (ych G C pa lm tk go cn nd gv g0 c0 ot due 5 1 hv).1))) D [(h, .inr (8, [.int th, .int (nI G), .ref (b 0), .ref (b 1), .int (nI C), .ref (b 2), .ref (b 3), .ref (b 4), .ref (b 5), .ref (b 6), .ref (b 7), .ref (b 8), .ref (b 9), .ref (b 10), .ref (b 11), .ref (b 12), .ref (b 13), .ref (b 14), .ref (b 15), .ref (b 16), .ref (b 17), .ref (b 18), .int (zb hs), .ref (b 19), .ref (b 20)])), ((b 0), .inl (cI, 6, .inl pa)), ((b 1), .inl (cI, 6, .inl lm)), ((b 2), .inl (cI, 12, .inl go)), ((b 15), .inl (cI, 12, .inl cn)), ((b 17), .inl (cI, 6, .inl tk)), ((b 18), .inl (cI, 6, .inl ((ych G C pa lm tk go cn nd gv g0 c0 ot due 5 1 hv).2))), ((b 14), .inl (cI, 6, .inl nd)), ((b 16), .inl (cI, 6, .inl gv))] (va_A [(h, .inr (8, [.int th, .int (nI G), .ref (b 0), .ref (b 1), .int (nI C), .ref (b 2), .ref (b 3), .ref (b 4), .ref (b 5), .ref (b 6), .ref (b 7), .ref (b 8), .ref (b 9), .ref (b 10), .ref (b 11), .ref (b 12), .ref (b 13), .ref (b 14), .ref (b 15), .ref (b 16), .ref (b 17), .ref (b 18), .int (zb hs), .ref (b 19), .ref (b 20)])), ((b 0), .inl (cI, 6, .inl pa)), ((b 1), .inl (cI, 6, .inl lm)), ((b 2), .inl (cI, 12, .inl go)), ((b 15), .inl (cI, 12, .inl cn)), ((b 17), .inl (cI, 6, .inl tk)), ((b 18), .inl (cI, 6, .inl hv)), ((b 14), .inl (cI, 6, .inl nd)), ((b 16), .inl (cI, 6, .inl gv))] sz)) 0 0 (va_A [(h, .inr (8, [.int th, .int (nI G), .ref (b 0), .ref (b 1), .int (nI C), .ref (b 2), .ref (b 3), .ref (b 4), .ref (b 5), .ref (b 6), .ref (b 7), .ref (b 8), .ref (b 9), .ref (b 10), .ref (b 11), .ref (b 12), .ref (b 13), .ref (b 14), .ref (b 15), .ref (b 16), .ref (b 17), .ref (b 18), .int (zb hs), .ref (b 19), .ref (b 20)])), ((b 0), .inl (cI, 6, .inl pa)), ((b 1), .inl (cI, 6, .inl lm)), ((b 2), .inl (cI, 12, .inl go)), ((b 15), .inl (cI, 12, .inl cn)), ((b 17), .inl (cI, 6, .inl tk)), ((b 18), .inl (cI, 6, .inl hv)), ((b 14), .inl (cI, 6, .inl nd)), ((b 16), .inl (cI, 6, .inl gv))] sz) := by
  refine Met.ofW (cc := b_MO_choice) (maxL := 6) (ret := (some .int)) (by decide +kernel) rfl ?_
  intro p e s m args below meth c s₁ B hml hv
  obtain ⟨rfl, hsz, hok, hP, hK, hD0⟩ := hv
  have hx := B.exec
  have hb := B.bytes
  have hr := B.returns
  have hown : s.vm.findClass "StudyAuditModel" = some m.cls := findClass_of_methodNamed B.named
  have hlocks := B.notSynchronized
  subst hsz
  have hD := hD0.self (sz := s.heap.size)
  generalize hAe : va_A [(h, .inr (8, [.int th, .int (nI G), .ref (b 0), .ref (b 1), .int (nI C), .ref (b 2), .ref (b 3), .ref (b 4), .ref (b 5), .ref (b 6), .ref (b 7), .ref (b 8), .ref (b 9), .ref (b 10), .ref (b 11), .ref (b 12), .ref (b 13), .ref (b 14), .ref (b 15), .ref (b 16), .ref (b 17), .ref (b 18), .int (zb hs), .ref (b 19), .ref (b 20)])), ((b 0), .inl (cI, 6, .inl pa)), ((b 1), .inl (cI, 6, .inl lm)), ((b 2), .inl (cI, 12, .inl go)), ((b 15), .inl (cI, 12, .inl cn)), ((b 17), .inl (cI, 6, .inl tk)), ((b 18), .inl (cI, 6, .inl hv)), ((b 14), .inl (cI, 6, .inl nd)), ((b 16), .inl (cI, 6, .inl gv))] s.heap.size = A at hD ⊢
  have hA : ∀ q : Nat, s.heap.size ≤ q → A q := fun q h => by rw [← hAe]; exact Or.inr h
  have hS : va_S A s.heap s.heap [] := va_S.rf
  have hl := lv_entry ([.ref h, .int (nI c0), .int ot, .int due]) (n := 6) (Nat.le_of_ble_eq_true rfl)
  rw [lg_entry_eq]
  generalize (lg_sl ([.ref h, .int (nI c0), .int ot, .int due]) ++ List.replicate (6 - (lg_sl ([.ref h, .int (nI c0), .int ot, .int due])).length) Slot.unset).toArray = ls at hl ⊢
  have hl : lv_has ls 6 [(0, .ref h), (1, .int (nI c0)), (2, .int ot), (3, .int due)] := hl
  refine lv_iconst (v := 1) hx hb d_MO_choice_0 (by decide) ?_
  refine lv_istore hx hb d_MO_choice_1 hl (by decide) rfl (fun ls hl => ?_)
  have hl : lv_has ls 6 [(4, .int 1), (0, .ref h), (1, .int (nI c0)), (2, .int ot), (3, .int due)] := hl
  refine lo_choice D cI cJ cZ cP cS h b th G C hs c0 g0 ot due pa lm go cn tk nd gv (ych G C pa lm tk go cn nd gv g0 c0 ot due 5 1 hv) hx hb hml hown hok hK hA hG hC hpa hgo hp0 htr hc0 hg0 hgc (fun ls H locs hl hP hD hS => ?_) (fun ls H locs hz hP hD hS => ?_) 5 1 hv ls _ _ (by omega) (by omega) rfl (lv_sub hl [1, 2, 3, 4, 0] rfl) hP hD hS
  · refine lv_iload hx hb d_MO_choice_89 (lv_at hl 0 rfl) ?_
    exact W.iret hx hb hr (fun t ht _ => ⟨⟨rfl, by rw [ht]; exact hP, hD⟩, hS.F ht⟩) hS.2.2 d_MO_choice_91
  · refine lv_iconst (v := 0) hx hb d_MO_choice_98 (by decide) ?_
    refine W.eq (g2 := F0 m 99 ls [.int (nI (ych G C pa lm tk go cn nd gv g0 c0 ot due 5 1 hv).1)]) (by rw [hz]; rfl) ?_
    exact W.iret hx hb hr (fun t ht _ => ⟨⟨rfl, by rw [ht]; exact hP, hD⟩, hS.F ht⟩) hS.2.2 d_MO_choice_99
