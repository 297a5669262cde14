/-! the network, rest (rows by program) -/
abbrev ro_NE_lay : Room := { frames := 1, cells := 0, slots := 0, locals := 25 }
set_option maxHeartbeats 4000000 in
set_option maxRecDepth 100000 in
theorem m_NE_lay (l : Launch) (D : va_G) (cI cJ cZ cP cS : ClassId) (h af at0 ar ap ad av k : Nat) (pd : Int64) (x y z : Int32) (w : Int64) (fr to rm : Nat → Int32) (pr : Nat → Int64) (hk : k < 165) (sz : Nat) : Met l y_NE_lay [Cond.code y_NE_lay b_NE_lay 6 none] ro_NE_lay (va_Pc [.ref h, .int x, .int y, .int z, .long w] (fun U => U.heap.size = sz ∧ tb_ok U ∧ va_P D cls [(h, .inr (3, [.int (nI k), .ref af, .ref at0, .ref ar, .long pd, .ref ap, .ref ad, .ref av])), (af, .inl (cI, 166, .inl fr)), (at0, .inl (cI, 166, .inl to)), (ar, .inl (cI, 166, .inl rm)), (ap, .inl (cJ, 166, .inr (.inl pr)))] U.heap ∧ va_K D cls (tyl cI cJ cZ cP cS) U ∧ va_D (fun _ => True) [(h, .inr (3, [.int (nI k), .ref af, .ref at0, .ref ar, .long pd, .ref ap, .ref ad, .ref av])), (af, .inl (cI, 166, .inl fr)), (at0, .inl (cI, 166, .inl to)), (ar, .inl (cI, 166, .inl rm)), (ap, .inl (cJ, 166, .inr (.inl pr)))])) (zv none D [(h, .inr (3, [.int (nI (k + 2)), .ref af, .ref at0, .ref ar, .long pd, .ref ap, .ref ad, .ref av])), (af, .inl (cI, 166, .inl (upd (upd fr k x) (k + 1) y))), (at0, .inl (cI, 166, .inl (upd (upd to k y) (k + 1) x))), (ar, .inl (cI, 166, .inl (upd (upd rm k z) (k + 1) 0))), (ap, .inl (cJ, 166, .inr (.inl (vp_updL (vp_updL pr k w) (k + 1) (-w)))))] (va_A [(h, .inr (3, [.int (nI k), .ref af, .ref at0, .ref ar, .long pd, .ref ap, .ref ad, .ref av])), (af, .inl (cI, 166, .inl fr)), (at0, .inl (cI, 166, .inl to)), (ar, .inl (cI, 166, .inl rm)), (ap, .inl (cJ, 166, .inr (.inl pr)))] sz)) 0 0 (va_A [(h, .inr (3, [.int (nI k), .ref af, .ref at0, .ref ar, .long pd, .ref ap, .ref ad, .ref av])), (af, .inl (cI, 166, .inl fr)), (at0, .inl (cI, 166, .inl to)), (ar, .inl (cI, 166, .inl rm)), (ap, .inl (cJ, 166, .inr (.inl pr)))] sz) := by
  refine Met.ofW (cc := b_NE_lay) (maxL := 6) (ret := none) (by decide +kernel) rfl ?_
  intro p e s m args below meth c s₁ B hml hv
  obtain ⟨rfl, hsz, hok, hP, hK, hD0⟩ := hv
  have hx := B.exec
  have hb := B.bytes
  have hr := B.returns
  have hown : s.vm.findClass "StudyAudit$Network" = some m.cls := findClass_of_methodNamed B.named
  have hlocks := B.notSynchronized
  subst hsz
  have hD := hD0.self (sz := s.heap.size)
  generalize hAe : va_A [(h, .inr (3, [.int (nI k), .ref af, .ref at0, .ref ar, .long pd, .ref ap, .ref ad, .ref av])), (af, .inl (cI, 166, .inl fr)), (at0, .inl (cI, 166, .inl to)), (ar, .inl (cI, 166, .inl rm)), (ap, .inl (cJ, 166, .inr (.inl pr)))] s.heap.size = A at hD ⊢
  have hA : ∀ q : Nat, s.heap.size ≤ q → A q := fun q h => by rw [← hAe]; exact Or.inr h
  have hS : va_S A s.heap s.heap [] := va_S.rf
  have hl := lv_entry ([.ref h, .int x, .int y, .int z, .long w]) (n := 6) (Nat.le_of_ble_eq_true rfl)
  rw [lg_entry_eq]
  generalize (lg_sl ([.ref h, .int x, .int y, .int z, .long w]) ++ List.replicate (6 - (lg_sl ([.ref h, .int x, .int y, .int z, .long w])).length) Slot.unset).toArray = ls at hl ⊢
  have hl : lv_has ls 6 [(0, .ref h), (1, .int x), (2, .int y), (3, .int z), (4, .long w)] := hl
  refine lv_aload_n hx hb d_NE_lay_0 rfl (lv_at hl 0 rfl) ?_
  refine lv_iload_n hx hb d_NE_lay_1 rfl (lv_at hl 1 rfl) ?_
  refine lv_iload_n hx hb d_NE_lay_2 rfl (lv_at hl 2 rfl) ?_
  refine lv_iload_n hx hb d_NE_lay_3 rfl (lv_at hl 3 rfl) ?_
  refine lv_lload hx hb d_NE_lay_4 (lv_at hl 4 rfl) ?_
  refine zc_write (wc := [(h, .inr (3, [.int (nI k), .ref af, .ref at0, .ref ar, .long pd, .ref ap, .ref ad, .ref av])), (af, .inl (cI, 166, .inl fr)), (at0, .inl (cI, 166, .inl to)), (ar, .inl (cI, 166, .inl rm)), (ap, .inl (cJ, 166, .inr (.inl pr)))]) (wc1 := [(h, .inr (3, [.int (nI k + 1), .ref af, .ref at0, .ref ar, .long pd, .ref ap, .ref ad, .ref av])), (af, .inl (cI, 166, .inl (upd fr k x))), (at0, .inl (cI, 166, .inl (upd to k y))), (ar, .inl (cI, 166, .inl (upd rm k z))), (ap, .inl (cJ, 166, .inr (.inl (vp_updL pr k w))))]) (wr := []) (ws1 := [(h, .inr (3, [.int (nI k + 1), .ref af, .ref at0, .ref ar, .long pd, .ref ap, .ref ad, .ref av])), (af, .inl (cI, 166, .inl (upd fr k x))), (at0, .inl (cI, 166, .inl (upd to k y))), (ar, .inl (cI, 166, .inl (upd rm k z))), (ap, .inl (cJ, 166, .inr (.inl (vp_updL pr k w))))]) (va_runV (Ts := []) (As := [.int x, .int y, .int z, .long w]) (rest := []) ⟨hx, hb, hml, hown, fun _ h => absurd h List.not_mem_nil⟩ (m_NE_addArc l D cI cJ cZ cP cS h af at0 ar ap ad av k pd x y z w fr to rm pr (by omega) _) ⟨zc_B 4 hok c_NE_addArc_w t_8 t_541 rfl rfl (by decide +kernel) ⟨Nat.le_of_ble_eq_true rfl, Nat.le_of_ble_eq_true rfl⟩, hok _ t_543 rfl _, hok _ s_9 rfl _⟩ ⟨fun a U g mk q => by obtain ⟨q0, q1, q2, qP, qK, qD⟩ := q; exact ⟨q0, q1, q2.call g mk a, qP, va_K.moved (u := U) (U := U.calling g mk a) (Vm.Alike.refl U.vm) qK, qD⟩, va_recv hK hP (ci := 3) (q0 := 0) rfl rfl, fun U hU hW => ⟨rfl, by rw [hU], hok.warm hW, by rw [hU]; exact hP.sub [0, 1, 2, 3, 4] rfl, va_K.moved hW.alike hK, (hD.sub [0, 1, 2, 3, 4] (by decide) rfl).weaken (fun _ _ _ _ => trivial)⟩⟩ rfl rfl hl.1 rfl (lv_room (Nat.le_of_ble_eq_true rfl)) d_NE_lay_6 ⟨Nat.le_of_ble_eq_true rfl, Nat.le_of_ble_eq_true rfl⟩) hS hP hD hA [0, 1, 2, 3, 4] [] [0, 1, 2, 3, 4] rfl rfl (by decide) (by decide) rfl rfl (by decide) (fun H locs hP hD hS => ?_)
  refine W.eq (g2 := F0 m 9 ls []) rfl ?_
  have hP : va_P D cls [(h, .inr (3, [.int (nI (k + 1)), .ref af, .ref at0, .ref ar, .long pd, .ref ap, .ref ad, .ref av])), (af, .inl (cI, 166, .inl (upd fr k x))), (at0, .inl (cI, 166, .inl (upd to k y))), (ar, .inl (cI, 166, .inl (upd rm k z))), (ap, .inl (cJ, 166, .inr (.inl (vp_updL pr k w))))] H := by rw [nI_succ k]; exact hP
  have hD : va_D A [(h, .inr (3, [.int (nI (k + 1)), .ref af, .ref at0, .ref ar, .long pd, .ref ap, .ref ad, .ref av])), (af, .inl (cI, 166, .inl (upd fr k x))), (at0, .inl (cI, 166, .inl (upd to k y))), (ar, .inl (cI, 166, .inl (upd rm k z))), (ap, .inl (cJ, 166, .inr (.inl (vp_updL pr k w))))] := by rw [nI_succ k]; exact hD
  refine lv_aload_n hx hb d_NE_lay_9 rfl (lv_at hl 0 rfl) ?_
  refine lv_iload_n hx hb d_NE_lay_10 rfl (lv_at hl 2 rfl) ?_
  refine lv_iload_n hx hb d_NE_lay_11 rfl (lv_at hl 1 rfl) ?_
  refine lv_iconst (v := 0) hx hb d_NE_lay_12 (by decide) ?_
  refine lv_lload hx hb d_NE_lay_13 (lv_at hl 4 rfl) ?_
  refine lv_lneg hx hb d_NE_lay_15 ?_
  refine zc_write (wc := [(h, .inr (3, [.int (nI (k + 1)), .ref af, .ref at0, .ref ar, .long pd, .ref ap, .ref ad, .ref av])), (af, .inl (cI, 166, .inl (upd fr k x))), (at0, .inl (cI, 166, .inl (upd to k y))), (ar, .inl (cI, 166, .inl (upd rm k z))), (ap, .inl (cJ, 166, .inr (.inl (vp_updL pr k w))))]) (wc1 := [(h, .inr (3, [.int (nI (k + 1) + 1), .ref af, .ref at0, .ref ar, .long pd, .ref ap, .ref ad, .ref av])), (af, .inl (cI, 166, .inl (upd (upd fr k x) (k + 1) y))), (at0, .inl (cI, 166, .inl (upd (upd to k y) (k + 1) x))), (ar, .inl (cI, 166, .inl (upd (upd rm k z) (k + 1) 0))), (ap, .inl (cJ, 166, .inr (.inl (vp_updL (vp_updL pr k w) (k + 1) (-w)))))]) (wr := []) (ws1 := [(h, .inr (3, [.int (nI (k + 1) + 1), .ref af, .ref at0, .ref ar, .long pd, .ref ap, .ref ad, .ref av])), (af, .inl (cI, 166, .inl (upd (upd fr k x) (k + 1) y))), (at0, .inl (cI, 166, .inl (upd (upd to k y) (k + 1) x))), (ar, .inl (cI, 166, .inl (upd (upd rm k z) (k + 1) 0))), (ap, .inl (cJ, 166, .inr (.inl (vp_updL (vp_updL pr k w) (k + 1) (-w)))))]) (va_runV (Ts := []) (As := [.int y, .int x, .int 0, .long (-w)]) (rest := []) ⟨hx, hb, hml, hown, fun _ h => absurd h List.not_mem_nil⟩ (m_NE_addArc l D cI cJ cZ cP cS h af at0 ar ap ad av (k + 1) pd y x 0 (-w) (upd fr k x) (upd to k y) (upd rm k z) (vp_updL pr k w) (by omega) _) ⟨zc_B 4 hok c_NE_addArc_w t_8 t_541 rfl rfl (by decide +kernel) ⟨Nat.le_of_ble_eq_true rfl, Nat.le_of_ble_eq_true rfl⟩, hok _ t_543 rfl _, hok _ s_9 rfl _⟩ ⟨fun a U g mk q => by obtain ⟨q0, q1, q2, qP, qK, qD⟩ := q; exact ⟨q0, q1, q2.call g mk a, qP, va_K.moved (u := U) (U := U.calling g mk a) (Vm.Alike.refl U.vm) qK, qD⟩, va_recv hK hP (ci := 3) (q0 := 0) rfl rfl, fun U hU hW => ⟨rfl, by rw [hU], hok.warm hW, by rw [hU]; exact hP.sub [0, 1, 2, 3, 4] rfl, va_K.moved hW.alike hK, (hD.sub [0, 1, 2, 3, 4] (by decide) rfl).weaken (fun _ _ _ _ => trivial)⟩⟩ rfl rfl hl.1 rfl (lv_room (Nat.le_of_ble_eq_true rfl)) d_NE_lay_16 ⟨Nat.le_of_ble_eq_true rfl, Nat.le_of_ble_eq_true rfl⟩) hS hP hD hA [0, 1, 2, 3, 4] [] [0, 1, 2, 3, 4] rfl rfl (by decide) (by decide) rfl rfl (by decide) (fun H locs hP hD hS => ?_)
  refine W.eq (g2 := F0 m 19 ls []) rfl ?_
  have hP : va_P D cls [(h, .inr (3, [.int (nI (k + 2)), .ref af, .ref at0, .ref ar, .long pd, .ref ap, .ref ad, .ref av])), (af, .inl (cI, 166, .inl (upd (upd fr k x) (k + 1) y))), (at0, .inl (cI, 166, .inl (upd (upd to k y) (k + 1) x))), (ar, .inl (cI, 166, .inl (upd (upd rm k z) (k + 1) 0))), (ap, .inl (cJ, 166, .inr (.inl (vp_updL (vp_updL pr k w) (k + 1) (-w)))))] H := by rw [show nI (k + 2) = nI (k + 1) + 1 from nI_succ (k + 1)]; exact hP
  have hD : va_D A [(h, .inr (3, [.int (nI (k + 2)), .ref af, .ref at0, .ref ar, .long pd, .ref ap, .ref ad, .ref av])), (af, .inl (cI, 166, .inl (upd (upd fr k x) (k + 1) y))), (at0, .inl (cI, 166, .inl (upd (upd to k y) (k + 1) x))), (ar, .inl (cI, 166, .inl (upd (upd rm k z) (k + 1) 0))), (ap, .inl (cJ, 166, .inr (.inl (vp_updL (vp_updL pr k w) (k + 1) (-w)))))] := by rw [show nI (k + 2) = nI (k + 1) + 1 from nI_succ (k + 1)]; exact hD
  exact W.vret hx hb hr (fun t ht _ => ⟨⟨rfl, by rw [ht]; exact hP, hD⟩, hS.F ht⟩) hS.2.2 d_NE_lay_19
def zbf (A0 : Nat) (fn tn : Nat → Nat) (pr : Nat → Int64) (rm : Nat → Int32) (n : Nat) (q : (Nat → Int64) × (Nat → Nat) × Bool) : (Nat → Int64) × (Nat → Nat) × Bool := match n with
  | 0 => q
  | k + 1 => if q.2.2 = true then zbf A0 fn tn pr rm k (zso fn tn pr rm (q.1, q.2.1, false) A0) else q
def zfc (A0 : Nat) (fn tn : Nat → Nat) (pr : Nat → Int64) (rm : Nat → Int32) (d : Nat → Int64) (vn : Nat → Nat) (s0 : Nat) : (Nat → Int64) × (Nat → Nat) × Bool := zbf A0 fn tn pr rm 25 (vp_updL (zfL d zFAR 25) s0 0, vn, true)
abbrev ro_NE_findCheapestWay : Room := { frames := 2, cells := 0, slots := 0, locals := 45 }
set_option maxHeartbeats 4000000 in
set_option maxRecDepth 100000 in
theorem lo_fc {l : Launch} {p : Program} {e : Env} {s : State} {m : MethodId} {args : Array Value} {below : List Frame} {meth : Method} {c : Code} {H0 : Heap} {A : Nat → Prop} {Q : State → Prop} (D : va_G) (cI cJ cZ cP cS : ClassId) (h af at0 ar ap ad av A0 : Nat) (pd : Int64) (s0 t0 : Nat) (fn tn : Nat → Nat) (pr : Nat → Int64) (rm : Nat → Int32) (Z : (Nat → Int64) × (Nat → Nat) × Bool) (hx : p.tables.exec = Jvm.exec) (hb : c.code = b_NE_findCheapestWay) (hml : c.maxLocals = 5) (hown : s.vm.findClass "StudyAudit$Network" = some m.cls) (hok : tb_ok s) (hK : va_K D cls (tyl cI cJ cZ cP cS) s) (hA : ∀ q : Nat, H0.size ≤ q → A q) (hfn : ∀ j, j < 166 → fn j < 25 ∧ tn j < 25) (hA0 : A0 ≤ 166)
    (kk : ∀ (ls : Array Slot) (H : Heap) (locs : List Loc), lv_has ls 5 [(0, .ref h), (2, .int (nI t0))] → va_P D cls [(h, .inr (3, [.int (nI A0), .ref af, .ref at0, .ref ar, .long pd, .ref ap, .ref ad, .ref av])), (af, .inl (cI, 166, .inl (fun j => nI (fn j)))), (at0, .inl (cI, 166, .inl (fun j => nI (tn j)))), (ar, .inl (cI, 166, .inl rm)), (ap, .inl (cJ, 166, .inr (.inl pr))), (ad, .inl (cJ, 25, .inr (.inl Z.1))), (av, .inl (cI, 25, .inl (fun j => nI (Z.2.1 j))))] H → va_D A [(h, .inr (3, [.int (nI A0), .ref af, .ref at0, .ref ar, .long pd, .ref ap, .ref ad, .ref av])), (af, .inl (cI, 166, .inl (fun j => nI (fn j)))), (at0, .inl (cI, 166, .inl (fun j => nI (tn j)))), (ar, .inl (cI, 166, .inl rm)), (ap, .inl (cJ, 166, .inr (.inl pr))), (ad, .inl (cJ, 25, .inr (.inl Z.1))), (av, .inl (cI, 25, .inl (fun j => nI (Z.2.1 j))))] → va_S A H0 H locs → W p l e ro_NE_findCheapestWay s m args below meth c H locs 0 0 Q (F0 m 47 ls [])) :
    ∀ (k i : Nat) (d : Nat → Int64) (vn : Nat → Nat) (b : Bool) (ls : Array Slot) (H : Heap) (locs : List Loc), i + k = 25 → zbf A0 fn tn pr rm k (d, vn, b) = Z → lv_has ls 5 [(0, .ref h), (1, .int (nI s0)), (2, .int (nI t0)), (3, .int (zb b)), (4, .int (nI i))] → va_P D cls [(h, .inr (3, [.int (nI A0), .ref af, .ref at0, .ref ar, .long pd, .ref ap, .ref ad, .ref av])), (af, .inl (cI, 166, .inl (fun j => nI (fn j)))), (at0, .inl (cI, 166, .inl (fun j => nI (tn j)))), (ar, .inl (cI, 166, .inl rm)), (ap, .inl (cJ, 166, .inr (.inl pr))), (ad, .inl (cJ, 25, .inr (.inl d))), (av, .inl (cI, 25, .inl (fun j => nI (vn j))))] H → va_D A [(h, .inr (3, [.int (nI A0), .ref af, .ref at0, .ref ar, .long pd, .ref ap, .ref ad, .ref av])), (af, .inl (cI, 166, .inl (fun j => nI (fn j)))), (at0, .inl (cI, 166, .inl (fun j => nI (tn j)))), (ar, .inl (cI, 166, .inl rm)), (ap, .inl (cJ, 166, .inr (.inl pr))), (ad, .inl (cJ, 25, .inr (.inl d))), (av, .inl (cI, 25, .inl (fun j => nI (vn j))))] → va_S A H0 H locs → W p l e ro_NE_findCheapestWay s m args below meth c H locs 0 0 Q (F0 m 22 ls []) := by
  intro k
  induction k with
  | zero =>
    intro i d vn b ls H locs hik hZ hl hP hD hS
    have hik : 25 = i := by omega
    subst hik
    subst hZ
    refine lv_iload hx hb d_NE_findCheapestWay_22 (lv_at hl 4 rfl) ?_
    refine lv_aload_n hx hb d_NE_findCheapestWay_24 rfl (lv_at hl 0 rfl) ?_
    refine va_get (D := D) (ci := 3) (v := .ref ad) (C := R_NE) (T := F_NE) (N := 8) hx hb (tb_in hok in_NE) (fun w h => h) hown hK hP 0 rfl rfl 6 (by decide) (hok _ t_167 rfl _) (fun _ h9 => h9) rfl d_NE_findCheapestWay_25 ?_
    refine va_alen (v := nI 25) hx hb hK hP 5 1 rfl rfl rfl d_NE_findCheapestWay_28 ?_
    refine lv_icmp_ge (tgt := 47) hx hb d_NE_findCheapestWay_29 (by decide) (fun h29 => ?_) (fun h29 => absurd (show nI 25 ≤ nI 25 from Int32.le_refl _) h29)
    exact kk ls H locs (lv_sub hl [0, 2] rfl) hP hD hS
  | succ k ih =>
    intro i d vn b ls H locs hik hZ hl hP hD hS
    refine lv_iload hx hb d_NE_findCheapestWay_22 (lv_at hl 4 rfl) ?_
    refine lv_aload_n hx hb d_NE_findCheapestWay_24 rfl (lv_at hl 0 rfl) ?_
    refine va_get (D := D) (ci := 3) (v := .ref ad) (C := R_NE) (T := F_NE) (N := 8) hx hb (tb_in hok in_NE) (fun w h => h) hown hK hP 0 rfl rfl 6 (by decide) (hok _ t_167 rfl _) (fun _ h9 => h9) rfl d_NE_findCheapestWay_25 ?_
    refine va_alen (v := nI 25) hx hb hK hP 5 1 rfl rfl rfl d_NE_findCheapestWay_28 ?_
    refine lv_icmp_ge (tgt := 47) hx hb d_NE_findCheapestWay_29 (by decide) (fun h29 => absurd h29 (show ¬ nI 25 ≤ nI i from nI_ge (by omega) (by omega))) (fun h29 => ?_)
    refine lv_iload_n hx hb d_NE_findCheapestWay_32 rfl (lv_at hl 3 rfl) ?_
    refine lv_if_eq (tgt := 47) hx hb d_NE_findCheapestWay_33 (by decide) (fun h33 => ?_) (fun h33 => ?_)
    · have e9 : b = false := by cases b with | false => rfl | true => exact absurd h33 (by decide)
      have e8 : zbf A0 fn tn pr rm (k + 1) (d, vn, b) = (d, vn, b) := if_neg (by show ¬ b = true; rw [e9]; exact Bool.false_ne_true)
      rw [e8] at hZ
      subst hZ
      exact kk ls H locs (lv_sub hl [0, 2] rfl) hP hD hS
    · refine lv_aload_n hx hb d_NE_findCheapestWay_36 rfl (lv_at hl 0 rfl) ?_
      refine zc_write (wc := [(h, .inr (3, [.int (nI A0), .ref af, .ref at0, .ref ar, .long pd, .ref ap, .ref ad, .ref av])), (af, .inl (cI, 166, .inl (fun j => nI (fn j)))), (at0, .inl (cI, 166, .inl (fun j => nI (tn j)))), (ar, .inl (cI, 166, .inl rm)), (ap, .inl (cJ, 166, .inr (.inl pr))), (ad, .inl (cJ, 25, .inr (.inl d))), (av, .inl (cI, 25, .inl (fun j => nI (vn j))))]) (wc1 := [(h, .inr (3, [.int (nI A0), .ref af, .ref at0, .ref ar, .long pd, .ref ap, .ref ad, .ref av])), (af, .inl (cI, 166, .inl (fun j => nI (fn j)))), (at0, .inl (cI, 166, .inl (fun j => nI (tn j)))), (ar, .inl (cI, 166, .inl rm)), (ap, .inl (cJ, 166, .inr (.inl pr))), (ad, .inl (cJ, 25, .inr (.inl ((zso fn tn pr rm (d, vn, false) A0).1)))), (av, .inl (cI, 25, .inl (fun j => nI ((zso fn tn pr rm (d, vn, false) A0).2.1 j))))]) (wr := []) (ws1 := [(h, .inr (3, [.int (nI A0), .ref af, .ref at0, .ref ar, .long pd, .ref ap, .ref ad, .ref av])), (af, .inl (cI, 166, .inl (fun j => nI (fn j)))), (at0, .inl (cI, 166, .inl (fun j => nI (tn j)))), (ar, .inl (cI, 166, .inl rm)), (ap, .inl (cJ, 166, .inr (.inl pr))), (ad, .inl (cJ, 25, .inr (.inl ((zso fn tn pr rm (d, vn, false) A0).1)))), (av, .inl (cI, 25, .inl (fun j => nI ((zso fn tn pr rm (d, vn, false) A0).2.1 j))))]) (va_runV (Ts := []) (As := []) (rest := []) ⟨hx, hb, hml, hown, fun _ h => absurd h List.not_mem_nil⟩ (m_NE_shortenOnce l D cI cJ cZ cP cS h af at0 ar ap ad av A0 pd fn tn pr rm d vn hfn hA0 _) ⟨zc_B 0 hok c_NE_shortenOnce_w t_8 t_566 rfl rfl (by decide +kernel) ⟨Nat.le_of_ble_eq_true rfl, Nat.le_of_ble_eq_true rfl⟩, hok _ t_568 rfl _, hok _ s_13 rfl _⟩ ⟨fun a U g mk q => by obtain ⟨q0, q1, q2, qP, qK, qD⟩ := q; exact ⟨q0, q1, q2.call g mk a, qP, va_K.moved (u := U) (U := U.calling g mk a) (Vm.Alike.refl U.vm) qK, qD⟩, va_recv hK hP (ci := 3) (q0 := 0) rfl rfl, fun U hU hW => ⟨rfl, by rw [hU], hok.warm hW, by rw [hU]; exact hP.sub [0, 1, 2, 3, 4, 5, 6] rfl, va_K.moved hW.alike hK, (hD.sub [0, 1, 2, 3, 4, 5, 6] (by decide) rfl).weaken (fun _ _ _ _ => trivial)⟩⟩ rfl rfl hl.1 rfl (lv_room (Nat.le_of_ble_eq_true rfl)) d_NE_findCheapestWay_37 ⟨Nat.le_of_ble_eq_true rfl, Nat.le_of_ble_eq_true rfl⟩) hS hP hD hA [0, 1, 2, 3, 4, 5, 6] [] [0, 1, 2, 3, 4, 5, 6] rfl rfl (by decide) (by decide) rfl rfl (by decide) (fun H locs hP hD hS => ?_)
      refine W.eq (g2 := F0 m 40 ls [.int (zb (zso fn tn pr rm (d, vn, false) A0).2.2)]) rfl ?_
      refine lv_istore_n hx hb d_NE_findCheapestWay_40 rfl hl (by decide) rfl (fun ls hl => ?_)
      have hl : lv_has ls 5 [(3, .int (zb (zso fn tn pr rm (d, vn, false) A0).2.2)), (0, .ref h), (1, .int (nI s0)), (2, .int (nI t0)), (4, .int (nI i))] := hl
      refine lv_iinc (v := (nI (i + 1))) hx hb d_NE_findCheapestWay_41 hl (k := 4) rfl (by rw [nI_succ]; rfl) (by decide) rfl (fun ls hl => ?_)
      have hl : lv_has ls 5 [(4, .int (nI (i + 1))), (3, .int (zb (zso fn tn pr rm (d, vn, false) A0).2.2)), (0, .ref h), (1, .int (nI s0)), (2, .int (nI t0))] := hl
      refine lv_goto (tgt := 22) hx hb d_NE_findCheapestWay_44 (by decide) ?_
      have e9 : b = true := by cases b with | true => rfl | false => exact absurd rfl h33
      have e8 : zbf A0 fn tn pr rm (k + 1) (d, vn, b) = zbf A0 fn tn pr rm k (zso fn tn pr rm (d, vn, false) A0) := if_pos e9
      rw [e8] at hZ
      exact ih (i + 1) ((zso fn tn pr rm (d, vn, false) A0).1) ((zso fn tn pr rm (d, vn, false) A0).2.1) ((zso fn tn pr rm (d, vn, false) A0).2.2) ls H locs (by omega) hZ (lv_sub hl [2, 3, 4, 1, 0] rfl) hP hD hS
set_option maxHeartbeats 4000000 in
set_option maxRecDepth 100000 in
theorem m_NE_findCheapestWay (l : Launch) (D : va_G) (cI cJ cZ cP cS : ClassId) (h af at0 ar ap ad av A0 : Nat) (pd : Int64) (s0 t0 : Nat) (fn tn : Nat → Nat) (pr : Nat → Int64) (rm : Nat → Int32) (d : Nat → Int64) (vn : Nat → Nat) (hfn : ∀ j, j < 166 → fn j < 25 ∧ tn j < 25) (hA0 : A0 ≤ 166) (hs0 : s0 < 25) (ht0 : t0 < 25) (sz : Nat) : Met l y_NE_findCheapestWay [Cond.code y_NE_findCheapestWay b_NE_findCheapestWay 5 (some .boolean)] ro_NE_findCheapestWay (va_Pc [.ref h, .int (nI s0), .int (nI t0)] (fun U => U.heap.size = sz ∧ tb_ok U ∧ va_P D cls [(h, .inr (3, [.int (nI A0), .ref af, .ref at0, .ref ar, .long pd, .ref ap, .ref ad, .ref av])), (af, .inl (cI, 166, .inl (fun j => nI (fn j)))), (at0, .inl (cI, 166, .inl (fun j => nI (tn j)))), (ar, .inl (cI, 166, .inl rm)), (ap, .inl (cJ, 166, .inr (.inl pr))), (ad, .inl (cJ, 25, .inr (.inl d))), (av, .inl (cI, 25, .inl (fun j => nI (vn j))))] U.heap ∧ va_K D cls (tyl cI cJ cZ cP cS) U ∧ va_D (fun _ => True) [(h, .inr (3, [.int (nI A0), .ref af, .ref at0, .ref ar, .long pd, .ref ap, .ref ad, .ref av])), (af, .inl (cI, 166, .inl (fun j => nI (fn j)))), (at0, .inl (cI, 166, .inl (fun j => nI (tn j)))), (ar, .inl (cI, 166, .inl rm)), (ap, .inl (cJ, 166, .inr (.inl pr))), (ad, .inl (cJ, 25, .inr (.inl d))), (av, .inl (cI, 25, .inl (fun j => nI (vn j))))])) (zv (some (.int (zb (decide (¬ lg_cmp ((zfc A0 fn tn pr rm d vn s0).1 t0) zFAR = 0))))) D [(h, .inr (3, [.int (nI A0), .ref af, .ref at0, .ref ar, .long pd, .ref ap, .ref ad, .ref av])), (af, .inl (cI, 166, .inl (fun j => nI (fn j)))), (at0, .inl (cI, 166, .inl (fun j => nI (tn j)))), (ar, .inl (cI, 166, .inl rm)), (ap, .inl (cJ, 166, .inr (.inl pr))), (ad, .inl (cJ, 25, .inr (.inl ((zfc A0 fn tn pr rm d vn s0).1)))), (av, .inl (cI, 25, .inl (fun j => nI ((zfc A0 fn tn pr rm d vn s0).2.1 j))))] (va_A [(h, .inr (3, [.int (nI A0), .ref af, .ref at0, .ref ar, .long pd, .ref ap, .ref ad, .ref av])), (af, .inl (cI, 166, .inl (fun j => nI (fn j)))), (at0, .inl (cI, 166, .inl (fun j => nI (tn j)))), (ar, .inl (cI, 166, .inl rm)), (ap, .inl (cJ, 166, .inr (.inl pr))), (ad, .inl (cJ, 25, .inr (.inl d))), (av, .inl (cI, 25, .inl (fun j => nI (vn j))))] sz)) 0 0 (va_A [(h, .inr (3, [.int (nI A0), .ref af, .ref at0, .ref ar, .long pd, .ref ap, .ref ad, .ref av])), (af, .inl (cI, 166, .inl (fun j => nI (fn j)))), (at0, .inl (cI, 166, .inl (fun j => nI (tn j)))), (ar, .inl (cI, 166, .inl rm)), (ap, .inl (cJ, 166, .inr (.inl pr))), (ad, .inl (cJ, 25, .inr (.inl d))), (av, .inl (cI, 25, .inl (fun j => nI (vn j))))] sz) := by
  refine Met.ofW (cc := b_NE_findCheapestWay) (maxL := 5) (ret := (some .boolean)) (by decide +kernel) rfl ?_
  intro p e s m args below meth c s₁ B hml hv
  obtain ⟨rfl, hsz, hok, hP, hK, hD0⟩ := hv
  have hx := B.exec
  have hb := B.bytes
  have hr := B.returns
  have hown : s.vm.findClass "StudyAudit$Network" = some m.cls := findClass_of_methodNamed B.named
  have hlocks := B.notSynchronized
  subst hsz
  have hD := hD0.self (sz := s.heap.size)
  generalize hAe : va_A [(h, .inr (3, [.int (nI A0), .ref af, .ref at0, .ref ar, .long pd, .ref ap, .ref ad, .ref av])), (af, .inl (cI, 166, .inl (fun j => nI (fn j)))), (at0, .inl (cI, 166, .inl (fun j => nI (tn j)))), (ar, .inl (cI, 166, .inl rm)), (ap, .inl (cJ, 166, .inr (.inl pr))), (ad, .inl (cJ, 25, .inr (.inl d))), (av, .inl (cI, 25, .inl (fun j => nI (vn j))))] s.heap.size = A at hD ⊢
  have hA : ∀ q : Nat, s.heap.size ≤ q → A q := fun q h => by rw [← hAe]; exact Or.inr h
  have hS : va_S A s.heap s.heap [] := va_S.rf
  have hl := lv_entry ([.ref h, .int (nI s0), .int (nI t0)]) (n := 5) (Nat.le_of_ble_eq_true rfl)
  rw [lg_entry_eq]
  generalize (lg_sl ([.ref h, .int (nI s0), .int (nI t0)]) ++ List.replicate (5 - (lg_sl ([.ref h, .int (nI s0), .int (nI t0)])).length) Slot.unset).toArray = ls at hl ⊢
  have hl : lv_has ls 5 [(0, .ref h), (1, .int (nI s0)), (2, .int (nI t0))] := hl
  refine lv_aload_n hx hb d_NE_findCheapestWay_0 rfl (lv_at hl 0 rfl) ?_
  refine va_get (D := D) (ci := 3) (v := .ref ad) (C := R_NE) (T := F_NE) (N := 8) hx hb (tb_in hok in_NE) (fun w h => h) hown hK hP 0 rfl rfl 6 (by decide) (hok _ t_167 rfl _) (fun _ h9 => h9) rfl d_NE_findCheapestWay_1 ?_
  refine lv_ldc2 (v := 4611686018427387904) hx hb hown (hok _ t_562 rfl _) d_NE_findCheapestWay_4 ?_
  refine zc_write (wc := [(ad, .inl (cJ, 25, .inr (.inl d)))]) (wc1 := [(ad, .inl (cJ, 25, .inr (.inl (zfL d 4611686018427387904 25))))]) (wr := [(h, .inr (3, [.int (nI A0), .ref af, .ref at0, .ref ar, .long pd, .ref ap, .ref ad, .ref av])), (af, .inl (cI, 166, .inl (fun j => nI (fn j)))), (at0, .inl (cI, 166, .inl (fun j => nI (tn j)))), (ar, .inl (cI, 166, .inl rm)), (ap, .inl (cJ, 166, .inr (.inl pr))), (av, .inl (cI, 25, .inl (fun j => nI (vn j))))]) (ws1 := [(h, .inr (3, [.int (nI A0), .ref af, .ref at0, .ref ar, .long pd, .ref ap, .ref ad, .ref av])), (af, .inl (cI, 166, .inl (fun j => nI (fn j)))), (at0, .inl (cI, 166, .inl (fun j => nI (tn j)))), (ar, .inl (cI, 166, .inl rm)), (ap, .inl (cJ, 166, .inr (.inl pr))), (ad, .inl (cJ, 25, .inr (.inl (zfL d 4611686018427387904 25)))), (av, .inl (cI, 25, .inl (fun j => nI (vn j))))]) (va_runS (Ts := []) (As := [.ref ad, .long 4611686018427387904]) (rest := []) ⟨hx, hb, hml, hown, fun _ h => absurd h List.not_mem_nil⟩ (m_AR_filll l D cI cJ cZ cP cS ad 25 4611686018427387904 d (by omega) _) ⟨zc_B 2 hok c_AR_filll_w t_5 t_563 rfl rfl (by decide +kernel) ⟨Nat.le_of_ble_eq_true rfl, Nat.le_of_ble_eq_true rfl⟩, hok _ t_564 rfl _⟩ ⟨fun a U g mk q => by obtain ⟨q0, q1, q2, qP, qK, qD⟩ := q; exact ⟨q0, q1, q2.call g mk a, qP, va_K.moved (u := U) (U := U.calling g mk a) (Vm.Alike.refl U.vm) qK, qD⟩, fun U hU hW => ⟨rfl, by rw [hU], hok.warm hW, by rw [hU]; exact hP.sub [5] rfl, va_K.moved hW.alike hK, (hD.sub [5] (by decide) rfl).weaken (fun _ _ _ _ => trivial)⟩⟩ rfl rfl hl.1 rfl (lv_room (Nat.le_of_ble_eq_true rfl)) d_NE_findCheapestWay_7 ⟨Nat.le_of_ble_eq_true rfl, Nat.le_of_ble_eq_true rfl⟩) hS hP hD hA [5] [0, 1, 2, 3, 4, 6] [0, 1, 2, 3, 4, 6, 5] rfl rfl (by decide) (by decide) rfl rfl (by decide) (fun H locs hP hD hS => ?_)
  refine W.eq (g2 := F0 m 10 ls []) rfl ?_
  refine lv_aload_n hx hb d_NE_findCheapestWay_10 rfl (lv_at hl 0 rfl) ?_
  refine va_get (D := D) (ci := 3) (v := .ref ad) (C := R_NE) (T := F_NE) (N := 8) hx hb (tb_in hok in_NE) (fun w h => h) hown hK hP 0 rfl rfl 6 (by decide) (hok _ t_167 rfl _) (fun _ h9 => h9) rfl d_NE_findCheapestWay_11 ?_
  refine lv_iload_n hx hb d_NE_findCheapestWay_14 rfl (lv_at hl 1 rfl) ?_
  refine lv_lconst (v := 0) hx hb d_NE_findCheapestWay_15 (by decide) ?_
  refine va_last hx hb hK hP hD hS 5 1 rfl rfl (vp_in_nI (by omega) (by omega)) d_NE_findCheapestWay_16 (fun H locs hP hD hS => ?_)
  rw [nI_clamp (show s0 < 2 ^ 31 from by omega)] at hP hD
  have hP : va_P D cls [(h, .inr (3, [.int (nI A0), .ref af, .ref at0, .ref ar, .long pd, .ref ap, .ref ad, .ref av])), (af, .inl (cI, 166, .inl (fun j => nI (fn j)))), (at0, .inl (cI, 166, .inl (fun j => nI (tn j)))), (ar, .inl (cI, 166, .inl rm)), (ap, .inl (cJ, 166, .inr (.inl pr))), (ad, .inl (cJ, 25, .inr (.inl (vp_updL (zfL d 4611686018427387904 25) s0 0)))), (av, .inl (cI, 25, .inl (fun j => nI (vn j))))] H := hP
  have hD : va_D A [(h, .inr (3, [.int (nI A0), .ref af, .ref at0, .ref ar, .long pd, .ref ap, .ref ad, .ref av])), (af, .inl (cI, 166, .inl (fun j => nI (fn j)))), (at0, .inl (cI, 166, .inl (fun j => nI (tn j)))), (ar, .inl (cI, 166, .inl rm)), (ap, .inl (cJ, 166, .inr (.inl pr))), (ad, .inl (cJ, 25, .inr (.inl (vp_updL (zfL d 4611686018427387904 25) s0 0)))), (av, .inl (cI, 25, .inl (fun j => nI (vn j))))] := hD
  refine lv_iconst (v := 1) hx hb d_NE_findCheapestWay_17 (by decide) ?_
  refine lv_istore_n hx hb d_NE_findCheapestWay_18 rfl hl (by decide) rfl (fun ls hl => ?_)
  have hl : lv_has ls 5 [(3, .int 1), (0, .ref h), (1, .int (nI s0)), (2, .int (nI t0))] := hl
  refine lv_iconst (v := 0) hx hb d_NE_findCheapestWay_19 (by decide) ?_
  refine lv_istore hx hb d_NE_findCheapestWay_20 hl (by decide) rfl (fun ls hl => ?_)
  have hl : lv_has ls 5 [(4, .int 0), (3, .int 1), (0, .ref h), (1, .int (nI s0)), (2, .int (nI t0))] := hl
  refine lo_fc D cI cJ cZ cP cS h af at0 ar ap ad av A0 pd s0 t0 fn tn pr rm (zfc A0 fn tn pr rm d vn s0) hx hb hml hown hok hK hA hfn hA0 (fun ls H locs hl hP hD hS => ?_) 25 0 (vp_updL (zfL d zFAR 25) s0 0) vn true ls _ _ (by omega) rfl (lv_sub hl [2, 3, 4, 1, 0] rfl) hP hD hS
  refine lv_aload_n hx hb d_NE_findCheapestWay_47 rfl (lv_at hl 0 rfl) ?_
  refine va_get (D := D) (ci := 3) (v := .ref ad) (C := R_NE) (T := F_NE) (N := 8) hx hb (tb_in hok in_NE) (fun w h => h) hown hK hP 0 rfl rfl 6 (by decide) (hok _ t_167 rfl _) (fun _ h9 => h9) rfl d_NE_findCheapestWay_48 ?_
  refine lv_iload_n hx hb d_NE_findCheapestWay_51 rfl (lv_at hl 1 rfl) ?_
  refine va_lald hx hb hK hP 5 1 rfl rfl (vp_in_nI (by omega) (by omega)) d_NE_findCheapestWay_52 ?_
  rw [nI_clamp (show t0 < 2 ^ 31 from by omega)]
  refine lv_ldc2 (v := 4611686018427387904) hx hb hown (hok _ t_562 rfl _) d_NE_findCheapestWay_53 ?_
  refine W.lcmp hx hb d_NE_findCheapestWay_56 ?_
  refine lv_if_eq (tgt := 64) hx hb d_NE_findCheapestWay_57 (by decide) (fun h57 => ?_) (fun h57 => ?_)
  · refine lv_iconst (v := 0) hx hb d_NE_findCheapestWay_64 (by decide) ?_
    refine W.eq (g2 := F0 m 65 ls [.int (zb (decide (¬ lg_cmp ((zfc A0 fn tn pr rm d vn s0).1 t0) zFAR = 0)))]) (by simp [zb, h57]) ?_
    exact W.zret hx hb hr (z_zb _) (fun t ht _ => ⟨⟨rfl, by rw [ht]; exact hP, hD⟩, hS.F ht⟩) hS.2.2 d_NE_findCheapestWay_65
  · refine lv_iconst (v := 1) hx hb d_NE_findCheapestWay_60 (by decide) ?_
    refine lv_goto (tgt := 65) hx hb d_NE_findCheapestWay_61 (by decide) ?_
    refine W.eq (g2 := F0 m 65 ls [.int (zb (decide (¬ lg_cmp ((zfc A0 fn tn pr rm d vn s0).1 t0) zFAR = 0)))]) (by simp [zb, h57]) ?_
    exact W.zret hx hb hr (z_zb _) (fun t ht _ => ⟨⟨rfl, by rw [ht]; exact hP, hD⟩, hS.F ht⟩) hS.2.2 d_NE_findCheapestWay_65
def zon (rm : Nat → Int32) (a : Nat) : Nat → Int32 := upd (upd rm a (rm a - 1)) (mf_mt a) (upd rm a (rm a - 1) (mf_mt a) + 1)
def ztk (fn vn : Nat → Nat) (s0 : Nat) (n : Nat) (q : (Nat → Int32) × Nat) : (Nat → Int32) × Nat := match n with
  | 0 => q
  | k + 1 => if q.2 ≠ s0 then ztk fn vn s0 k (zon q.1 (vn q.2), fn (vn q.2)) else q
theorem z_xor1 : ∀ a, a < 166 → nI a ^^^ 1 = nI (mf_mt a) := by decide +kernel
theorem z_mt {a : Nat} (h : a < 166) : mf_mt a < 166 := by unfold mf_mt; split <;> omega
abbrev ro_NE_takeWay : Room := { frames := 0, cells := 0, slots := 0, locals := 0 }
set_option maxHeartbeats 4000000 in
set_option maxRecDepth 100000 in
theorem lo_tk {l : Launch} {p : Program} {e : Env} {s : State} {m : MethodId} {args : Array Value} {below : List Frame} {meth : Method} {c : Code} {H0 : Heap} {A : Nat → Prop} {Q : State → Prop} (D : va_G) (cI cJ cZ cP cS : ClassId) (h af at0 ar ap ad av A0 : Nat) (pd : Int64) (s0 t0 : Nat) (fn vn : Nat → Nat) (d : Nat → Int64) (Z : (Nat → Int32) × Nat) (hx : p.tables.exec = Jvm.exec) (hb : c.code = b_NE_takeWay) (hml : c.maxLocals = 6) (hown : s.vm.findClass "StudyAudit$Network" = some m.cls) (hok : tb_ok s) (hK : va_K D cls (tyl cI cJ cZ cP cS) s) (hA : ∀ q : Nat, H0.size ≤ q → A q) (hfn : ∀ j, j < 166 → fn j < 25) (hvn : ∀ j, vn j < 166) (hs0 : s0 < 25)
    (kk : ∀ (ls : Array Slot) (H : Heap) (locs : List Loc), lv_has ls 6 [(0, .ref h)] → va_P D cls [(h, .inr (3, [.int (nI A0), .ref af, .ref at0, .ref ar, .long pd, .ref ap, .ref ad, .ref av])), (af, .inl (cI, 166, .inl (fun j => nI (fn j)))), (ar, .inl (cI, 166, .inl Z.1)), (ad, .inl (cJ, 25, .inr (.inl d))), (av, .inl (cI, 25, .inl (fun j => nI (vn j))))] H → va_D A [(h, .inr (3, [.int (nI A0), .ref af, .ref at0, .ref ar, .long pd, .ref ap, .ref ad, .ref av])), (af, .inl (cI, 166, .inl (fun j => nI (fn j)))), (ar, .inl (cI, 166, .inl Z.1)), (ad, .inl (cJ, 25, .inr (.inl d))), (av, .inl (cI, 25, .inl (fun j => nI (vn j))))] → va_S A H0 H locs → W p l e ro_NE_takeWay s m args below meth c H locs 0 0 Q (F0 m 81 ls [])) :
    ∀ (k i : Nat) (rm : Nat → Int32) (v : Nat) (ls : Array Slot) (H : Heap) (locs : List Loc), i + k = 25 → ztk fn vn s0 k (rm, v) = Z → v < 25 → lv_has ls 6 [(0, .ref h), (1, .int (nI s0)), (2, .int (nI t0)), (3, .int (nI v)), (4, .int (nI i))] → va_P D cls [(h, .inr (3, [.int (nI A0), .ref af, .ref at0, .ref ar, .long pd, .ref ap, .ref ad, .ref av])), (af, .inl (cI, 166, .inl (fun j => nI (fn j)))), (ar, .inl (cI, 166, .inl rm)), (ad, .inl (cJ, 25, .inr (.inl d))), (av, .inl (cI, 25, .inl (fun j => nI (vn j))))] H → va_D A [(h, .inr (3, [.int (nI A0), .ref af, .ref at0, .ref ar, .long pd, .ref ap, .ref ad, .ref av])), (af, .inl (cI, 166, .inl (fun j => nI (fn j)))), (ar, .inl (cI, 166, .inl rm)), (ad, .inl (cJ, 25, .inr (.inl d))), (av, .inl (cI, 25, .inl (fun j => nI (vn j))))] → va_S A H0 H locs → W p l e ro_NE_takeWay s m args below meth c H locs 0 0 Q (F0 m 20 ls []) := by
  intro k
  induction k with
  | zero =>
    intro i rm v ls H locs hik hZ hv hl hP hD hS
    have hik : 25 = i := by omega
    subst hik
    subst hZ
    refine lv_iload hx hb d_NE_takeWay_20 (lv_at hl 4 rfl) ?_
    refine lv_aload_n hx hb d_NE_takeWay_22 rfl (lv_at hl 0 rfl) ?_
    refine va_get (D := D) (ci := 3) (v := .ref ad) (C := R_NE) (T := F_NE) (N := 8) hx hb (tb_in hok in_NE) (fun w h => h) hown hK hP 0 rfl rfl 6 (by decide) (hok _ t_167 rfl _) (fun _ h9 => h9) rfl d_NE_takeWay_23 ?_
    refine va_alen (v := nI 25) hx hb hK hP 3 1 rfl rfl rfl d_NE_takeWay_26 ?_
    refine lv_icmp_ge (tgt := 81) hx hb d_NE_takeWay_27 (by decide) (fun h27 => ?_) (fun h27 => absurd (show nI 25 ≤ nI 25 from Int32.le_refl _) h27)
    exact kk ls H locs (lv_sub hl [0] rfl) hP hD hS
  | succ k ih =>
    intro i rm v ls H locs hik hZ hv hl hP hD hS
    refine lv_iload hx hb d_NE_takeWay_20 (lv_at hl 4 rfl) ?_
    refine lv_aload_n hx hb d_NE_takeWay_22 rfl (lv_at hl 0 rfl) ?_
    refine va_get (D := D) (ci := 3) (v := .ref ad) (C := R_NE) (T := F_NE) (N := 8) hx hb (tb_in hok in_NE) (fun w h => h) hown hK hP 0 rfl rfl 6 (by decide) (hok _ t_167 rfl _) (fun _ h9 => h9) rfl d_NE_takeWay_23 ?_
    refine va_alen (v := nI 25) hx hb hK hP 3 1 rfl rfl rfl d_NE_takeWay_26 ?_
    refine lv_icmp_ge (tgt := 81) hx hb d_NE_takeWay_27 (by decide) (fun h27 => absurd h27 (show ¬ nI 25 ≤ nI i from nI_ge (by omega) (by omega))) (fun h27 => ?_)
    refine lv_iload_n hx hb d_NE_takeWay_30 rfl (lv_at hl 3 rfl) ?_
    refine lv_iload_n hx hb d_NE_takeWay_31 rfl (lv_at hl 1 rfl) ?_
    refine lv_icmp_eq (tgt := 81) hx hb d_NE_takeWay_32 (by decide) (fun h32 => ?_) (fun h32 => ?_)
    · have e8 : ztk fn vn s0 (k + 1) (rm, v) = (rm, v) := if_neg (fun z => z ((nI_eq (show v < 2 ^ 31 by omega) (show s0 < 2 ^ 31 by omega)).mp h32))
      rw [e8] at hZ
      subst hZ
      exact kk ls H locs (lv_sub hl [0] rfl) hP hD hS
    · refine lv_aload_n hx hb d_NE_takeWay_35 rfl (lv_at hl 0 rfl) ?_
      refine va_get (D := D) (ci := 3) (v := .ref av) (C := R_NE) (T := F_NE) (N := 8) hx hb (tb_in hok in_NE) (fun w h => h) hown hK hP 0 rfl rfl 7 (by decide) (hok _ t_168 rfl _) (fun _ h9 => h9) rfl d_NE_takeWay_36 ?_
      refine lv_iload_n hx hb d_NE_takeWay_39 rfl (lv_at hl 3 rfl) ?_
      refine va_iald hx hb hK hP 4 0 rfl rfl (vp_in_nI (by omega) (by omega)) d_NE_takeWay_40 ?_
      rw [nI_clamp (show v < 2 ^ 31 from by omega)]
      refine lv_istore hx hb d_NE_takeWay_41 hl (by decide) rfl (fun ls hl => ?_)
      have hl : lv_has ls 6 [(5, .int (nI (vn v))), (0, .ref h), (1, .int (nI s0)), (2, .int (nI t0)), (3, .int (nI v)), (4, .int (nI i))] := hl
      refine lv_aload_n hx hb d_NE_takeWay_43 rfl (lv_at hl 1 rfl) ?_
      refine va_get (D := D) (ci := 3) (v := .ref ar) (C := R_NE) (T := F_NE) (N := 8) hx hb (tb_in hok in_NE) (fun w h => h) hown hK hP 0 rfl rfl 3 (by decide) (hok _ t_162 rfl _) (fun _ h9 => h9) rfl d_NE_takeWay_44 ?_
      refine lv_iload hx hb d_NE_takeWay_47 (lv_at hl 0 rfl) ?_
      refine lv_dup2_11 hx hb d_NE_takeWay_49 rfl rfl ?_
      refine va_iald hx hb hK hP 2 0 rfl rfl (vp_in_nI (hvn v) (by omega)) d_NE_takeWay_50 ?_
      rw [nI_clamp (show (vn v) < 2 ^ 31 from Nat.lt_trans (hvn v) (by omega))]
      refine lv_iconst (v := 1) hx hb d_NE_takeWay_51 (by decide) ?_
      refine lv_isub hx hb d_NE_takeWay_52 ?_
      refine va_iast hx hb hK hP hD hS 2 0 rfl rfl (vp_in_nI (hvn v) (by omega)) d_NE_takeWay_53 (fun H locs hP hD hS => ?_)
      rw [nI_clamp (show (vn v) < 2 ^ 31 from Nat.lt_trans (hvn v) (by omega))] at hP hD
      have hP : va_P D cls [(h, .inr (3, [.int (nI A0), .ref af, .ref at0, .ref ar, .long pd, .ref ap, .ref ad, .ref av])), (af, .inl (cI, 166, .inl (fun j => nI (fn j)))), (ar, .inl (cI, 166, .inl (upd rm (vn v) ((rm (vn v)) - (1 : Int32))))), (ad, .inl (cJ, 25, .inr (.inl d))), (av, .inl (cI, 25, .inl (fun j => nI (vn j))))] H := hP
      have hD : va_D A [(h, .inr (3, [.int (nI A0), .ref af, .ref at0, .ref ar, .long pd, .ref ap, .ref ad, .ref av])), (af, .inl (cI, 166, .inl (fun j => nI (fn j)))), (ar, .inl (cI, 166, .inl (upd rm (vn v) ((rm (vn v)) - (1 : Int32))))), (ad, .inl (cJ, 25, .inr (.inl d))), (av, .inl (cI, 25, .inl (fun j => nI (vn j))))] := hD
      refine lv_aload_n hx hb d_NE_takeWay_54 rfl (lv_at hl 1 rfl) ?_
      refine va_get (D := D) (ci := 3) (v := .ref ar) (C := R_NE) (T := F_NE) (N := 8) hx hb (tb_in hok in_NE) (fun w h => h) hown hK hP 0 rfl rfl 3 (by decide) (hok _ t_162 rfl _) (fun _ h9 => h9) rfl d_NE_takeWay_55 ?_
      refine lv_iload hx hb d_NE_takeWay_58 (lv_at hl 0 rfl) ?_
      refine lv_iconst (v := 1) hx hb d_NE_takeWay_60 (by decide) ?_
      refine lv_ixor hx hb d_NE_takeWay_61 ?_
      rw [z_xor1 (vn v) (hvn v)]
      refine lv_dup2_11 hx hb d_NE_takeWay_62 rfl rfl ?_
      refine va_iald hx hb hK hP 2 0 rfl rfl (vp_in_nI (z_mt (hvn v)) (by omega)) d_NE_takeWay_63 ?_
      rw [nI_clamp (show (mf_mt (vn v)) < 2 ^ 31 from Nat.lt_trans (z_mt (hvn v)) (by omega))]
      refine lv_iconst (v := 1) hx hb d_NE_takeWay_64 (by decide) ?_
      refine lv_iadd hx hb d_NE_takeWay_65 ?_
      refine va_iast hx hb hK hP hD hS 2 0 rfl rfl (vp_in_nI (z_mt (hvn v)) (by omega)) d_NE_takeWay_66 (fun H locs hP hD hS => ?_)
      rw [nI_clamp (show (mf_mt (vn v)) < 2 ^ 31 from Nat.lt_trans (z_mt (hvn v)) (by omega))] at hP hD
      have hP : va_P D cls [(h, .inr (3, [.int (nI A0), .ref af, .ref at0, .ref ar, .long pd, .ref ap, .ref ad, .ref av])), (af, .inl (cI, 166, .inl (fun j => nI (fn j)))), (ar, .inl (cI, 166, .inl (upd (upd rm (vn v) ((rm (vn v)) - (1 : Int32))) (mf_mt (vn v)) (((upd rm (vn v) ((rm (vn v)) - (1 : Int32))) (mf_mt (vn v))) + (1 : Int32))))), (ad, .inl (cJ, 25, .inr (.inl d))), (av, .inl (cI, 25, .inl (fun j => nI (vn j))))] H := hP
      have hD : va_D A [(h, .inr (3, [.int (nI A0), .ref af, .ref at0, .ref ar, .long pd, .ref ap, .ref ad, .ref av])), (af, .inl (cI, 166, .inl (fun j => nI (fn j)))), (ar, .inl (cI, 166, .inl (upd (upd rm (vn v) ((rm (vn v)) - (1 : Int32))) (mf_mt (vn v)) (((upd rm (vn v) ((rm (vn v)) - (1 : Int32))) (mf_mt (vn v))) + (1 : Int32))))), (ad, .inl (cJ, 25, .inr (.inl d))), (av, .inl (cI, 25, .inl (fun j => nI (vn j))))] := hD
      refine lv_aload_n hx hb d_NE_takeWay_67 rfl (lv_at hl 1 rfl) ?_
      refine va_get (D := D) (ci := 3) (v := .ref af) (C := R_NE) (T := F_NE) (N := 8) hx hb (tb_in hok in_NE) (fun w h => h) hown hK hP 0 rfl rfl 1 (by decide) (hok _ t_158 rfl _) (fun _ h9 => h9) rfl d_NE_takeWay_68 ?_
      refine lv_iload hx hb d_NE_takeWay_71 (lv_at hl 0 rfl) ?_
      refine va_iald hx hb hK hP 1 0 rfl rfl (vp_in_nI (hvn v) (by omega)) d_NE_takeWay_73 ?_
      rw [nI_clamp (show (vn v) < 2 ^ 31 from Nat.lt_trans (hvn v) (by omega))]
      refine lv_istore_n hx hb d_NE_takeWay_74 rfl hl (by decide) rfl (fun ls hl => ?_)
      have hl : lv_has ls 6 [(3, .int (nI (fn (vn v)))), (5, .int (nI (vn v))), (0, .ref h), (1, .int (nI s0)), (2, .int (nI t0)), (4, .int (nI i))] := hl
      refine lv_iinc (v := (nI (i + 1))) hx hb d_NE_takeWay_75 hl (k := 5) rfl (by rw [nI_succ]; rfl) (by decide) rfl (fun ls hl => ?_)
      have hl : lv_has ls 6 [(4, .int (nI (i + 1))), (3, .int (nI (fn (vn v)))), (5, .int (nI (vn v))), (0, .ref h), (1, .int (nI s0)), (2, .int (nI t0))] := hl
      refine lv_goto (tgt := 20) hx hb d_NE_takeWay_78 (by decide) ?_
      have e8 : ztk fn vn s0 (k + 1) (rm, v) = ztk fn vn s0 k (zon rm (vn v), fn (vn v)) := if_pos (fun z => h32 (congrArg nI z))
      rw [e8] at hZ
      exact ih (i + 1) (zon rm (vn v)) (fn (vn v)) ls H locs (by omega) hZ (hfn (vn v) (hvn v)) (lv_sub hl [3, 4, 5, 1, 0] rfl) hP hD hS
set_option maxHeartbeats 4000000 in
set_option maxRecDepth 100000 in
theorem m_NE_takeWay (l : Launch) (D : va_G) (cI cJ cZ cP cS : ClassId) (h af at0 ar ap ad av A0 : Nat) (pd : Int64) (s0 t0 : Nat) (fn vn : Nat → Nat) (d : Nat → Int64) (rm : Nat → Int32) (hfn : ∀ j, j < 166 → fn j < 25) (hvn : ∀ j, vn j < 166) (hs0 : s0 < 25) (ht0 : t0 < 25) (sz : Nat) : Met l y_NE_takeWay [Cond.code y_NE_takeWay b_NE_takeWay 6 none] ro_NE_takeWay (va_Pc [.ref h, .int (nI s0), .int (nI t0)] (fun U => U.heap.size = sz ∧ tb_ok U ∧ va_P D cls [(h, .inr (3, [.int (nI A0), .ref af, .ref at0, .ref ar, .long pd, .ref ap, .ref ad, .ref av])), (af, .inl (cI, 166, .inl (fun j => nI (fn j)))), (ar, .inl (cI, 166, .inl rm)), (ad, .inl (cJ, 25, .inr (.inl d))), (av, .inl (cI, 25, .inl (fun j => nI (vn j))))] U.heap ∧ va_K D cls (tyl cI cJ cZ cP cS) U ∧ va_D (fun _ => True) [(h, .inr (3, [.int (nI A0), .ref af, .ref at0, .ref ar, .long pd, .ref ap, .ref ad, .ref av])), (af, .inl (cI, 166, .inl (fun j => nI (fn j)))), (ar, .inl (cI, 166, .inl rm)), (ad, .inl (cJ, 25, .inr (.inl d))), (av, .inl (cI, 25, .inl (fun j => nI (vn j))))])) (zv none D [(h, .inr (3, [.int (nI A0), .ref af, .ref at0, .ref ar, .long (pd + d t0), .ref ap, .ref ad, .ref av])), (af, .inl (cI, 166, .inl (fun j => nI (fn j)))), (ar, .inl (cI, 166, .inl ((ztk fn vn s0 25 (rm, t0)).1))), (ad, .inl (cJ, 25, .inr (.inl d))), (av, .inl (cI, 25, .inl (fun j => nI (vn j))))] (va_A [(h, .inr (3, [.int (nI A0), .ref af, .ref at0, .ref ar, .long pd, .ref ap, .ref ad, .ref av])), (af, .inl (cI, 166, .inl (fun j => nI (fn j)))), (ar, .inl (cI, 166, .inl rm)), (ad, .inl (cJ, 25, .inr (.inl d))), (av, .inl (cI, 25, .inl (fun j => nI (vn j))))] sz)) 0 0 (va_A [(h, .inr (3, [.int (nI A0), .ref af, .ref at0, .ref ar, .long pd, .ref ap, .ref ad, .ref av])), (af, .inl (cI, 166, .inl (fun j => nI (fn j)))), (ar, .inl (cI, 166, .inl rm)), (ad, .inl (cJ, 25, .inr (.inl d))), (av, .inl (cI, 25, .inl (fun j => nI (vn j))))] sz) := by
  refine Met.ofW (cc := b_NE_takeWay) (maxL := 6) (ret := none) (by decide +kernel) rfl ?_
  intro p e s m args below meth c s₁ B hml hv
  obtain ⟨rfl, hsz, hok, hP, hK, hD0⟩ := hv
  have hx := B.exec
  have hb := B.bytes
  have hr := B.returns
  have hown : s.vm.findClass "StudyAudit$Network" = some m.cls := findClass_of_methodNamed B.named
  have hlocks := B.notSynchronized
  subst hsz
  have hD := hD0.self (sz := s.heap.size)
  generalize hAe : va_A [(h, .inr (3, [.int (nI A0), .ref af, .ref at0, .ref ar, .long pd, .ref ap, .ref ad, .ref av])), (af, .inl (cI, 166, .inl (fun j => nI (fn j)))), (ar, .inl (cI, 166, .inl rm)), (ad, .inl (cJ, 25, .inr (.inl d))), (av, .inl (cI, 25, .inl (fun j => nI (vn j))))] s.heap.size = A at hD ⊢
  have hA : ∀ q : Nat, s.heap.size ≤ q → A q := fun q h => by rw [← hAe]; exact Or.inr h
  have hS : va_S A s.heap s.heap [] := va_S.rf
  have hl := lv_entry ([.ref h, .int (nI s0), .int (nI t0)]) (n := 6) (Nat.le_of_ble_eq_true rfl)
  rw [lg_entry_eq]
  generalize (lg_sl ([.ref h, .int (nI s0), .int (nI t0)]) ++ List.replicate (6 - (lg_sl ([.ref h, .int (nI s0), .int (nI t0)])).length) Slot.unset).toArray = ls at hl ⊢
  have hl : lv_has ls 6 [(0, .ref h), (1, .int (nI s0)), (2, .int (nI t0))] := hl
  refine lv_aload_n hx hb d_NE_takeWay_0 rfl (lv_at hl 0 rfl) ?_
  refine lv_dup hx hb d_NE_takeWay_1 rfl ?_
  refine va_get (D := D) (ci := 3) (v := .long pd) (C := R_NE) (T := F_NE) (N := 8) hx hb (tb_in hok in_NE) (fun w h => h) hown hK hP 0 rfl rfl 4 (by decide) (hok _ t_164 rfl _) (fun _ h9 => h9) rfl d_NE_takeWay_2 ?_
  refine lv_aload_n hx hb d_NE_takeWay_5 rfl (lv_at hl 0 rfl) ?_
  refine va_get (D := D) (ci := 3) (v := .ref ad) (C := R_NE) (T := F_NE) (N := 8) hx hb (tb_in hok in_NE) (fun w h => h) hown hK hP 0 rfl rfl 6 (by decide) (hok _ t_167 rfl _) (fun _ h9 => h9) rfl d_NE_takeWay_6 ?_
  refine lv_iload_n hx hb d_NE_takeWay_9 rfl (lv_at hl 2 rfl) ?_
  refine va_lald hx hb hK hP 3 1 rfl rfl (vp_in_nI (by omega) (by omega)) d_NE_takeWay_10 ?_
  rw [nI_clamp (show t0 < 2 ^ 31 from by omega)]
  refine lv_ladd hx hb d_NE_takeWay_11 ?_
  refine va_put (D := D) (ci := 3) (v := .long (pd + (d t0))) (ty := .long) (C := R_NE) (T := F_NE) (N := 8) hx hb (tb_in hok in_NE) (fun w h => h) g_NE g_NE_ok n_NE hown hK hP hD hS 0 rfl rfl 4 (by decide) (hok _ t_164 rfl _) (fun _ h9 => h9) rfl (by decide +kernel) rfl rfl (Nat.le_of_ble_eq_true rfl) d_NE_takeWay_12 (fun H locs hP hD hS => ?_)
  have hP : va_P D cls [(h, .inr (3, [.int (nI A0), .ref af, .ref at0, .ref ar, .long (pd + (d t0)), .ref ap, .ref ad, .ref av])), (af, .inl (cI, 166, .inl (fun j => nI (fn j)))), (ar, .inl (cI, 166, .inl rm)), (ad, .inl (cJ, 25, .inr (.inl d))), (av, .inl (cI, 25, .inl (fun j => nI (vn j))))] H := hP
  have hD : va_D A [(h, .inr (3, [.int (nI A0), .ref af, .ref at0, .ref ar, .long (pd + (d t0)), .ref ap, .ref ad, .ref av])), (af, .inl (cI, 166, .inl (fun j => nI (fn j)))), (ar, .inl (cI, 166, .inl rm)), (ad, .inl (cJ, 25, .inr (.inl d))), (av, .inl (cI, 25, .inl (fun j => nI (vn j))))] := hD
  refine lv_iload_n hx hb d_NE_takeWay_15 rfl (lv_at hl 2 rfl) ?_
  refine lv_istore_n hx hb d_NE_takeWay_16 rfl hl (by decide) rfl (fun ls hl => ?_)
  have hl : lv_has ls 6 [(3, .int (nI t0)), (0, .ref h), (1, .int (nI s0)), (2, .int (nI t0))] := hl
  refine lv_iconst (v := 0) hx hb d_NE_takeWay_17 (by decide) ?_
  refine lv_istore hx hb d_NE_takeWay_18 hl (by decide) rfl (fun ls hl => ?_)
  have hl : lv_has ls 6 [(4, .int 0), (3, .int (nI t0)), (0, .ref h), (1, .int (nI s0)), (2, .int (nI t0))] := hl
  refine lo_tk D cI cJ cZ cP cS h af at0 ar ap ad av A0 (pd + d t0) s0 t0 fn vn d (ztk fn vn s0 25 (rm, t0)) hx hb hml hown hok hK hA hfn hvn hs0 (fun ls H locs hl hP hD hS => ?_) 25 0 rm t0 ls _ _ (by omega) rfl ht0 (lv_sub hl [2, 3, 4, 1, 0] rfl) hP hD hS
  exact W.vret hx hb hr (fun t ht _ => ⟨⟨rfl, by rw [ht]; exact hP, hD⟩, hS.F ht⟩) hS.2.2 d_NE_takeWay_81
def zsd (A0 : Nat) (fn tn : Nat → Nat) (pr : Nat → Int64) (s0 t0 : Nat) (n : Nat) (q : (Nat → Int32) × (Nat → Int64) × (Nat → Nat) × Int64 × Nat) : (Nat → Int32) × (Nat → Int64) × (Nat → Nat) × Int64 × Nat := match n with
  | 0 => q
  | k + 1 => if lg_cmp ((zfc A0 fn tn pr q.1 q.2.1 q.2.2.1 s0).1 t0) zFAR = 0 then (q.1, (zfc A0 fn tn pr q.1 q.2.1 q.2.2.1 s0).1, (zfc A0 fn tn pr q.1 q.2.1 q.2.2.1 s0).2.1, q.2.2.2.1, q.2.2.2.2) else zsd A0 fn tn pr s0 t0 k ((ztk fn (zfc A0 fn tn pr q.1 q.2.1 q.2.2.1 s0).2.1 s0 25 (q.1, t0)).1, (zfc A0 fn tn pr q.1 q.2.1 q.2.2.1 s0).1, (zfc A0 fn tn pr q.1 q.2.1 q.2.2.1 s0).2.1, q.2.2.2.1 + (zfc A0 fn tn pr q.1 q.2.1 q.2.2.1 s0).1 t0, q.2.2.2.2 + 1)
theorem zso_lt {fn tn : Nat → Nat} {pr : Nat → Int64} {rm : Nat → Int32} {q : (Nat → Int64) × (Nat → Nat) × Bool} (h : ∀ j, q.2.1 j < 166) : ∀ n, n ≤ 166 → ∀ j, (zso fn tn pr rm q n).2.1 j < 166 := by
  intro n
  induction n with
  | zero => intro _ j; exact h j
  | succ n ih =>
    intro hn j
    show (if _ then _ else _ : (Nat → Int64) × (Nat → Nat) × Bool).2.1 j < 166
    split
    · show mf_up _ _ _ j < 166
      unfold mf_up
      split
      · omega
      · exact ih (by omega) j
    · exact ih (by omega) j
theorem zbf_lt {A0 : Nat} {fn tn : Nat → Nat} {pr : Nat → Int64} {rm : Nat → Int32} (hA0 : A0 ≤ 166) : ∀ (n : Nat) (q : (Nat → Int64) × (Nat → Nat) × Bool), (∀ j, q.2.1 j < 166) → ∀ j, (zbf A0 fn tn pr rm n q).2.1 j < 166 := by
  intro n
  induction n with
  | zero => intro q h; exact h
  | succ n ih =>
    intro q h j
    show (if _ then _ else _ : (Nat → Int64) × (Nat → Nat) × Bool).2.1 j < 166
    split
    · exact ih _ (zso_lt (q := (q.1, q.2.1, false)) h A0 hA0) j
    · exact h j
theorem zfc_lt {A0 : Nat} {fn tn : Nat → Nat} {pr : Nat → Int64} {rm : Nat → Int32} {d : Nat → Int64} {vn : Nat → Nat} {s0 : Nat} (hA0 : A0 ≤ 166) (h : ∀ j, vn j < 166) : ∀ j, (zfc A0 fn tn pr rm d vn s0).2.1 j < 166 := zbf_lt hA0 25 _ h
abbrev ro_NE_send : Room := { frames := 3, cells := 0, slots := 0, locals := 69 }
set_option maxHeartbeats 4000000 in
set_option maxRecDepth 100000 in
theorem lo_sd {l : Launch} {p : Program} {e : Env} {s : State} {m : MethodId} {args : Array Value} {below : List Frame} {meth : Method} {c : Code} {H0 : Heap} {A : Nat → Prop} {Q : State → Prop} (D : va_G) (cI cJ cZ cP cS : ClassId) (h af at0 ar ap ad av A0 : Nat) (s0 t0 : Nat) (fn tn : Nat → Nat) (pr : Nat → Int64) (Z : (Nat → Int32) × (Nat → Int64) × (Nat → Nat) × Int64 × Nat) (hx : p.tables.exec = Jvm.exec) (hb : c.code = b_NE_send) (hml : c.maxLocals = 5) (hown : s.vm.findClass "StudyAudit$Network" = some m.cls) (hok : tb_ok s) (hK : va_K D cls (tyl cI cJ cZ cP cS) s) (hA : ∀ q : Nat, H0.size ≤ q → A q) (hfn : ∀ j, j < 166 → fn j < 25 ∧ tn j < 25) (hA0 : A0 ≤ 166) (hs0 : s0 < 25) (ht0 : t0 < 25)
    (kk : ∀ (ls : Array Slot) (H : Heap) (locs : List Loc), lv_has ls 5 [(4, .int (nI Z.2.2.2.2))] → va_P D cls [(h, .inr (3, [.int (nI A0), .ref af, .ref at0, .ref ar, .long Z.2.2.2.1, .ref ap, .ref ad, .ref av])), (af, .inl (cI, 166, .inl (fun j => nI (fn j)))), (at0, .inl (cI, 166, .inl (fun j => nI (tn j)))), (ar, .inl (cI, 166, .inl Z.1)), (ap, .inl (cJ, 166, .inr (.inl pr))), (ad, .inl (cJ, 25, .inr (.inl Z.2.1))), (av, .inl (cI, 25, .inl (fun j => nI (Z.2.2.1 j))))] H → va_D A [(h, .inr (3, [.int (nI A0), .ref af, .ref at0, .ref ar, .long Z.2.2.2.1, .ref ap, .ref ad, .ref av])), (af, .inl (cI, 166, .inl (fun j => nI (fn j)))), (at0, .inl (cI, 166, .inl (fun j => nI (tn j)))), (ar, .inl (cI, 166, .inl Z.1)), (ap, .inl (cJ, 166, .inr (.inl pr))), (ad, .inl (cJ, 25, .inr (.inl Z.2.1))), (av, .inl (cI, 25, .inl (fun j => nI (Z.2.2.1 j))))] → va_S A H0 H locs → W p l e ro_NE_send s m args below meth c H locs 0 0 Q (F0 m 30 ls [])) :
    ∀ (k i : Nat) (rm : Nat → Int32) (d : Nat → Int64) (vn : Nat → Nat) (pd : Int64) (n : Nat) (ls : Array Slot) (H : Heap) (locs : List Loc), i + k = 12 → zsd A0 fn tn pr s0 t0 k (rm, d, vn, pd, n) = Z → (∀ j, vn j < 166) → n = i → lv_has ls 5 [(0, .ref h), (1, .int (nI s0)), (2, .int (nI t0)), (3, .int 12), (4, .int (nI n))] → va_P D cls [(h, .inr (3, [.int (nI A0), .ref af, .ref at0, .ref ar, .long pd, .ref ap, .ref ad, .ref av])), (af, .inl (cI, 166, .inl (fun j => nI (fn j)))), (at0, .inl (cI, 166, .inl (fun j => nI (tn j)))), (ar, .inl (cI, 166, .inl rm)), (ap, .inl (cJ, 166, .inr (.inl pr))), (ad, .inl (cJ, 25, .inr (.inl d))), (av, .inl (cI, 25, .inl (fun j => nI (vn j))))] H → va_D A [(h, .inr (3, [.int (nI A0), .ref af, .ref at0, .ref ar, .long pd, .ref ap, .ref ad, .ref av])), (af, .inl (cI, 166, .inl (fun j => nI (fn j)))), (at0, .inl (cI, 166, .inl (fun j => nI (tn j)))), (ar, .inl (cI, 166, .inl rm)), (ap, .inl (cJ, 166, .inr (.inl pr))), (ad, .inl (cJ, 25, .inr (.inl d))), (av, .inl (cI, 25, .inl (fun j => nI (vn j))))] → va_S A H0 H locs → W p l e ro_NE_send s m args below meth c H locs 0 0 Q (F0 m 3 ls []) := by
  intro k
  induction k with
  | zero =>
    intro i rm d vn pd n ls H locs hik hZ hvn hn hl hP hD hS
    have hik : 12 = i := by omega
    subst hik
    subst hZ
    refine lv_iload hx hb d_NE_send_3 (lv_at hl 4 rfl) ?_
    refine lv_iload_n hx hb d_NE_send_5 rfl (lv_at hl 3 rfl) ?_
    refine lv_icmp_ge (tgt := 30) hx hb d_NE_send_6 (by decide) (fun h6 => ?_) (fun h6 => absurd (show (12 : Int32) ≤ nI n by rw [hn]; exact Int32.le_refl _) h6)
    exact kk ls H locs (lv_sub hl [4] rfl) hP hD hS
  | succ k ih =>
    intro i rm d vn pd n ls H locs hik hZ hvn hn hl hP hD hS
    refine lv_iload hx hb d_NE_send_3 (lv_at hl 4 rfl) ?_
    refine lv_iload_n hx hb d_NE_send_5 rfl (lv_at hl 3 rfl) ?_
    refine lv_icmp_ge (tgt := 30) hx hb d_NE_send_6 (by decide) (fun h6 => absurd h6 (show ¬ nI 12 ≤ nI n from nI_ge (by omega) (by omega))) (fun h6 => ?_)
    refine lv_aload_n hx hb d_NE_send_9 rfl (lv_at hl 0 rfl) ?_
    refine lv_iload_n hx hb d_NE_send_10 rfl (lv_at hl 1 rfl) ?_
    refine lv_iload_n hx hb d_NE_send_11 rfl (lv_at hl 2 rfl) ?_
    refine zc_write (wc := [(h, .inr (3, [.int (nI A0), .ref af, .ref at0, .ref ar, .long pd, .ref ap, .ref ad, .ref av])), (af, .inl (cI, 166, .inl (fun j => nI (fn j)))), (at0, .inl (cI, 166, .inl (fun j => nI (tn j)))), (ar, .inl (cI, 166, .inl rm)), (ap, .inl (cJ, 166, .inr (.inl pr))), (ad, .inl (cJ, 25, .inr (.inl d))), (av, .inl (cI, 25, .inl (fun j => nI (vn j))))]) (wc1 := [(h, .inr (3, [.int (nI A0), .ref af, .ref at0, .ref ar, .long pd, .ref ap, .ref ad, .ref av])), (af, .inl (cI, 166, .inl (fun j => nI (fn j)))), (at0, .inl (cI, 166, .inl (fun j => nI (tn j)))), (ar, .inl (cI, 166, .inl rm)), (ap, .inl (cJ, 166, .inr (.inl pr))), (ad, .inl (cJ, 25, .inr (.inl ((zfc A0 fn tn pr rm d vn s0).1)))), (av, .inl (cI, 25, .inl (fun j => nI ((zfc A0 fn tn pr rm d vn s0).2.1 j))))]) (wr := []) (ws1 := [(h, .inr (3, [.int (nI A0), .ref af, .ref at0, .ref ar, .long pd, .ref ap, .ref ad, .ref av])), (af, .inl (cI, 166, .inl (fun j => nI (fn j)))), (at0, .inl (cI, 166, .inl (fun j => nI (tn j)))), (ar, .inl (cI, 166, .inl rm)), (ap, .inl (cJ, 166, .inr (.inl pr))), (ad, .inl (cJ, 25, .inr (.inl ((zfc A0 fn tn pr rm d vn s0).1)))), (av, .inl (cI, 25, .inl (fun j => nI ((zfc A0 fn tn pr rm d vn s0).2.1 j))))]) (va_runV (Ts := []) (As := [.int (nI s0), .int (nI t0)]) (rest := []) ⟨hx, hb, hml, hown, fun _ h => absurd h List.not_mem_nil⟩ (m_NE_findCheapestWay l D cI cJ cZ cP cS h af at0 ar ap ad av A0 pd s0 t0 fn tn pr rm d vn hfn hA0 hs0 ht0 _) ⟨zc_B 2 hok c_NE_findCheapestWay_w t_8 t_558 rfl rfl (by decide +kernel) ⟨Nat.le_of_ble_eq_true rfl, Nat.le_of_ble_eq_true rfl⟩, hok _ t_560 rfl _, hok _ s_12 rfl _⟩ ⟨fun a U g mk q => by obtain ⟨q0, q1, q2, qP, qK, qD⟩ := q; exact ⟨q0, q1, q2.call g mk a, qP, va_K.moved (u := U) (U := U.calling g mk a) (Vm.Alike.refl U.vm) qK, qD⟩, va_recv hK hP (ci := 3) (q0 := 0) rfl rfl, fun U hU hW => ⟨rfl, by rw [hU], hok.warm hW, by rw [hU]; exact hP.sub [0, 1, 2, 3, 4, 5, 6] rfl, va_K.moved hW.alike hK, (hD.sub [0, 1, 2, 3, 4, 5, 6] (by decide) rfl).weaken (fun _ _ _ _ => trivial)⟩⟩ rfl rfl hl.1 rfl (lv_room (Nat.le_of_ble_eq_true rfl)) d_NE_send_12 ⟨Nat.le_of_ble_eq_true rfl, Nat.le_of_ble_eq_true rfl⟩) hS hP hD hA [0, 1, 2, 3, 4, 5, 6] [] [0, 1, 2, 3, 4, 5, 6] rfl rfl (by decide) (by decide) rfl rfl (by decide) (fun H locs hP hD hS => ?_)
    refine W.eq (g2 := F0 m 15 ls [.int (zb (decide (¬ lg_cmp ((zfc A0 fn tn pr rm d vn s0).1 t0) zFAR = 0)))]) rfl ?_
    refine lv_if_eq (tgt := 30) hx hb d_NE_send_15 (by decide) (fun h15 => ?_) (fun h15 => ?_)
    · have e9 : lg_cmp ((zfc A0 fn tn pr rm d vn s0).1 t0) zFAR = 0 := by refine Classical.byContradiction (fun z => ?_); rw [show decide (¬ lg_cmp ((zfc A0 fn tn pr rm d vn s0).1 t0) zFAR = 0) = true from decide_eq_true z] at h15; exact absurd h15 (by decide)
      have e8 : zsd A0 fn tn pr s0 t0 (k + 1) (rm, d, vn, pd, n) = (rm, (zfc A0 fn tn pr rm d vn s0).1, (zfc A0 fn tn pr rm d vn s0).2.1, pd, n) := if_pos e9
      rw [e8] at hZ
      subst hZ
      exact kk ls H locs (lv_sub hl [4] rfl) hP hD hS
    · refine lv_aload_n hx hb d_NE_send_18 rfl (lv_at hl 0 rfl) ?_
      refine lv_iload_n hx hb d_NE_send_19 rfl (lv_at hl 1 rfl) ?_
      refine lv_iload_n hx hb d_NE_send_20 rfl (lv_at hl 2 rfl) ?_
      refine zc_write (wc := [(h, .inr (3, [.int (nI A0), .ref af, .ref at0, .ref ar, .long pd, .ref ap, .ref ad, .ref av])), (af, .inl (cI, 166, .inl (fun j => nI (fn j)))), (ar, .inl (cI, 166, .inl rm)), (ad, .inl (cJ, 25, .inr (.inl ((zfc A0 fn tn pr rm d vn s0).1)))), (av, .inl (cI, 25, .inl (fun j => nI ((zfc A0 fn tn pr rm d vn s0).2.1 j))))]) (wc1 := [(h, .inr (3, [.int (nI A0), .ref af, .ref at0, .ref ar, .long (pd + (zfc A0 fn tn pr rm d vn s0).1 t0), .ref ap, .ref ad, .ref av])), (af, .inl (cI, 166, .inl (fun j => nI (fn j)))), (ar, .inl (cI, 166, .inl ((ztk fn (zfc A0 fn tn pr rm d vn s0).2.1 s0 25 (rm, t0)).1))), (ad, .inl (cJ, 25, .inr (.inl ((zfc A0 fn tn pr rm d vn s0).1)))), (av, .inl (cI, 25, .inl (fun j => nI ((zfc A0 fn tn pr rm d vn s0).2.1 j))))]) (wr := [(at0, .inl (cI, 166, .inl (fun j => nI (tn j)))), (ap, .inl (cJ, 166, .inr (.inl pr)))]) (ws1 := [(h, .inr (3, [.int (nI A0), .ref af, .ref at0, .ref ar, .long (pd + (zfc A0 fn tn pr rm d vn s0).1 t0), .ref ap, .ref ad, .ref av])), (af, .inl (cI, 166, .inl (fun j => nI (fn j)))), (at0, .inl (cI, 166, .inl (fun j => nI (tn j)))), (ar, .inl (cI, 166, .inl ((ztk fn (zfc A0 fn tn pr rm d vn s0).2.1 s0 25 (rm, t0)).1))), (ap, .inl (cJ, 166, .inr (.inl pr))), (ad, .inl (cJ, 25, .inr (.inl ((zfc A0 fn tn pr rm d vn s0).1)))), (av, .inl (cI, 25, .inl (fun j => nI ((zfc A0 fn tn pr rm d vn s0).2.1 j))))]) (va_runV (Ts := []) (As := [.int (nI s0), .int (nI t0)]) (rest := []) ⟨hx, hb, hml, hown, fun _ h => absurd h List.not_mem_nil⟩ (m_NE_takeWay l D cI cJ cZ cP cS h af at0 ar ap ad av A0 pd s0 t0 fn (zfc A0 fn tn pr rm d vn s0).2.1 (zfc A0 fn tn pr rm d vn s0).1 rm (fun j hj => (hfn j hj).1) (zfc_lt hA0 hvn) hs0 ht0 _) ⟨zc_B 2 hok c_NE_takeWay_w t_8 t_574 rfl rfl (by decide +kernel) ⟨Nat.le_of_ble_eq_true rfl, Nat.le_of_ble_eq_true rfl⟩, hok _ t_576 rfl _, hok _ s_15 rfl _⟩ ⟨fun a U g mk q => by obtain ⟨q0, q1, q2, qP, qK, qD⟩ := q; exact ⟨q0, q1, q2.call g mk a, qP, va_K.moved (u := U) (U := U.calling g mk a) (Vm.Alike.refl U.vm) qK, qD⟩, va_recv hK hP (ci := 3) (q0 := 0) rfl rfl, fun U hU hW => ⟨rfl, by rw [hU], hok.warm hW, by rw [hU]; exact hP.sub [0, 1, 3, 5, 6] rfl, va_K.moved hW.alike hK, (hD.sub [0, 1, 3, 5, 6] (by decide) rfl).weaken (fun _ _ _ _ => trivial)⟩⟩ rfl rfl hl.1 rfl (lv_room (Nat.le_of_ble_eq_true rfl)) d_NE_send_21 ⟨Nat.le_of_ble_eq_true rfl, Nat.le_of_ble_eq_true rfl⟩) hS hP hD hA [0, 1, 3, 5, 6] [2, 4] [2, 3, 0, 4, 1, 5, 6] rfl rfl (by decide) (by decide) rfl rfl (by decide) (fun H locs hP hD hS => ?_)
      refine W.eq (g2 := F0 m 24 ls []) rfl ?_
      refine lv_iinc (v := (nI (n + 1))) hx hb d_NE_send_24 hl (k := 4) rfl (by rw [nI_succ]; rfl) (by decide) rfl (fun ls hl => ?_)
      have hl : lv_has ls 5 [(4, .int (nI (n + 1))), (0, .ref h), (1, .int (nI s0)), (2, .int (nI t0)), (3, .int 12)] := hl
      refine lv_goto (tgt := 3) hx hb d_NE_send_27 (by decide) ?_
      have e9 : ¬ lg_cmp ((zfc A0 fn tn pr rm d vn s0).1 t0) zFAR = 0 := fun z => h15 (by rw [z]; rfl)
      have e8 : zsd A0 fn tn pr s0 t0 (k + 1) (rm, d, vn, pd, n) = zsd A0 fn tn pr s0 t0 k ((ztk fn (zfc A0 fn tn pr rm d vn s0).2.1 s0 25 (rm, t0)).1, (zfc A0 fn tn pr rm d vn s0).1, (zfc A0 fn tn pr rm d vn s0).2.1, pd + (zfc A0 fn tn pr rm d vn s0).1 t0, n + 1) := if_neg e9
      rw [e8] at hZ
      exact ih (i + 1) ((ztk fn (zfc A0 fn tn pr rm d vn s0).2.1 s0 25 (rm, t0)).1) ((zfc A0 fn tn pr rm d vn s0).1) ((zfc A0 fn tn pr rm d vn s0).2.1) (pd + (zfc A0 fn tn pr rm d vn s0).1 t0) (n + 1) ls H locs (by omega) hZ (zfc_lt hA0 hvn) (by omega) (lv_sub hl [1, 2, 3, 4, 0] rfl) hP hD hS
set_option maxHeartbeats 4000000 in
set_option maxRecDepth 100000 in
theorem m_NE_send (l : Launch) (D : va_G) (cI cJ cZ cP cS : ClassId) (h af at0 ar ap ad av A0 : Nat) (pd : Int64) (s0 t0 : Nat) (fn tn : Nat → Nat) (pr : Nat → Int64) (rm : Nat → Int32) (d : Nat → Int64) (vn : Nat → Nat) (hfn : ∀ j, j < 166 → fn j < 25 ∧ tn j < 25) (hA0 : A0 ≤ 166) (hvn : ∀ j, vn j < 166) (hs0 : s0 < 25) (ht0 : t0 < 25) (sz : Nat) : Met l y_NE_send [Cond.code y_NE_send b_NE_send 5 (some .int)] ro_NE_send (va_Pc [.ref h, .int (nI s0), .int (nI t0), .int 12] (fun U => U.heap.size = sz ∧ tb_ok U ∧ va_P D cls [(h, .inr (3, [.int (nI A0), .ref af, .ref at0, .ref ar, .long pd, .ref ap, .ref ad, .ref av])), (af, .inl (cI, 166, .inl (fun j => nI (fn j)))), (at0, .inl (cI, 166, .inl (fun j => nI (tn j)))), (ar, .inl (cI, 166, .inl rm)), (ap, .inl (cJ, 166, .inr (.inl pr))), (ad, .inl (cJ, 25, .inr (.inl d))), (av, .inl (cI, 25, .inl (fun j => nI (vn j))))] U.heap ∧ va_K D cls (tyl cI cJ cZ cP cS) U ∧ va_D (fun _ => True) [(h, .inr (3, [.int (nI A0), .ref af, .ref at0, .ref ar, .long pd, .ref ap, .ref ad, .ref av])), (af, .inl (cI, 166, .inl (fun j => nI (fn j)))), (at0, .inl (cI, 166, .inl (fun j => nI (tn j)))), (ar, .inl (cI, 166, .inl rm)), (ap, .inl (cJ, 166, .inr (.inl pr))), (ad, .inl (cJ, 25, .inr (.inl d))), (av, .inl (cI, 25, .inl (fun j => nI (vn j))))])) (zv (some (.int (nI (zsd A0 fn tn pr s0 t0 12 (rm, d, vn, pd, 0)).2.2.2.2))) D [(h, .inr (3, [.int (nI A0), .ref af, .ref at0, .ref ar, .long ((zsd A0 fn tn pr s0 t0 12 (rm, d, vn, pd, 0)).2.2.2.1), .ref ap, .ref ad, .ref av])), (af, .inl (cI, 166, .inl (fun j => nI (fn j)))), (at0, .inl (cI, 166, .inl (fun j => nI (tn j)))), (ar, .inl (cI, 166, .inl ((zsd A0 fn tn pr s0 t0 12 (rm, d, vn, pd, 0)).1))), (ap, .inl (cJ, 166, .inr (.inl pr))), (ad, .inl (cJ, 25, .inr (.inl ((zsd A0 fn tn pr s0 t0 12 (rm, d, vn, pd, 0)).2.1)))), (av, .inl (cI, 25, .inl (fun j => nI ((zsd A0 fn tn pr s0 t0 12 (rm, d, vn, pd, 0)).2.2.1 j))))] (va_A [(h, .inr (3, [.int (nI A0), .ref af, .ref at0, .ref ar, .long pd, .ref ap, .ref ad, .ref av])), (af, .inl (cI, 166, .inl (fun j => nI (fn j)))), (at0, .inl (cI, 166, .inl (fun j => nI (tn j)))), (ar, .inl (cI, 166, .inl rm)), (ap, .inl (cJ, 166, .inr (.inl pr))), (ad, .inl (cJ, 25, .inr (.inl d))), (av, .inl (cI, 25, .inl (fun j => nI (vn j))))] sz)) 0 0 (va_A [(h, .inr (3, [.int (nI A0), .ref af, .ref at0, .ref ar, .long pd, .ref ap, .ref ad, .ref av])), (af, .inl (cI, 166, .inl (fun j => nI (fn j)))), (at0, .inl (cI, 166, .inl (fun j => nI (tn j)))), (ar, .inl (cI, 166, .inl rm)), (ap, .inl (cJ, 166, .inr (.inl pr))), (ad, .inl (cJ, 25, .inr (.inl d))), (av, .inl (cI, 25, .inl (fun j => nI (vn j))))] sz) := by
  refine Met.ofW (cc := b_NE_send) (maxL := 5) (ret := (some .int)) (by decide +kernel) rfl ?_
  intro p e s m args below meth c s₁ B hml hv
  obtain ⟨rfl, hsz, hok, hP, hK, hD0⟩ := hv
  have hx := B.exec
  have hb := B.bytes
  have hr := B.returns
  have hown : s.vm.findClass "StudyAudit$Network" = some m.cls := findClass_of_methodNamed B.named
  have hlocks := B.notSynchronized
  subst hsz
  have hD := hD0.self (sz := s.heap.size)
  generalize hAe : va_A [(h, .inr (3, [.int (nI A0), .ref af, .ref at0, .ref ar, .long pd, .ref ap, .ref ad, .ref av])), (af, .inl (cI, 166, .inl (fun j => nI (fn j)))), (at0, .inl (cI, 166, .inl (fun j => nI (tn j)))), (ar, .inl (cI, 166, .inl rm)), (ap, .inl (cJ, 166, .inr (.inl pr))), (ad, .inl (cJ, 25, .inr (.inl d))), (av, .inl (cI, 25, .inl (fun j => nI (vn j))))] s.heap.size = A at hD ⊢
  have hA : ∀ q : Nat, s.heap.size ≤ q → A q := fun q h => by rw [← hAe]; exact Or.inr h
  have hS : va_S A s.heap s.heap [] := va_S.rf
  have hl := lv_entry ([.ref h, .int (nI s0), .int (nI t0), .int 12]) (n := 5) (Nat.le_of_ble_eq_true rfl)
  rw [lg_entry_eq]
  generalize (lg_sl ([.ref h, .int (nI s0), .int (nI t0), .int 12]) ++ List.replicate (5 - (lg_sl ([.ref h, .int (nI s0), .int (nI t0), .int 12])).length) Slot.unset).toArray = ls at hl ⊢
  have hl : lv_has ls 5 [(0, .ref h), (1, .int (nI s0)), (2, .int (nI t0)), (3, .int 12)] := hl
  refine lv_iconst (v := 0) hx hb d_NE_send_0 (by decide) ?_
  refine lv_istore hx hb d_NE_send_1 hl (by decide) rfl (fun ls hl => ?_)
  have hl : lv_has ls 5 [(4, .int 0), (0, .ref h), (1, .int (nI s0)), (2, .int (nI t0)), (3, .int 12)] := hl
  refine lo_sd D cI cJ cZ cP cS h af at0 ar ap ad av A0 s0 t0 fn tn pr (zsd A0 fn tn pr s0 t0 12 (rm, d, vn, pd, 0)) hx hb hml hown hok hK hA hfn hA0 hs0 ht0 (fun ls H locs hl hP hD hS => ?_) 12 0 rm d vn pd 0 ls _ _ (by omega) rfl hvn rfl (lv_sub hl [1, 2, 3, 4, 0] rfl) hP hD hS
  refine lv_iload hx hb d_NE_send_30 (lv_at hl 0 rfl) ?_
  exact W.iret hx hb hr (fun t ht _ => ⟨⟨rfl, by rw [ht]; exact hP, hD⟩, hS.F ht⟩) hS.2.2 d_NE_send_32
