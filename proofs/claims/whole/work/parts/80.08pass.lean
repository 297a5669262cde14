/-! the law: pass (rows by program) -/
set_option maxHeartbeats 4000000 in
set_option maxRecDepth 100000 in
theorem lw_pass {p : Program} {l : Launch} {e : Env} {s : State} {m : MethodId} {args : Array Value} {below : List Frame} {meth : Method} {c : Code} {Q : State → Prop} {b L : Nat} {xs : Nat → Int32} {D : va_G} {cI cJ cZ cP cS : ClassId} {a : Nat → Nat} {ao h : Nat} {bb : Nat → Nat} (J : zJ p l s m c b L xs D cI cJ cZ cP cS) {k : Nat} (hk : 4 * k + 4 ≤ L)
    {X : XS} {M : MS} {ov : Nat → Int64} {H : Heap} {locs : List Loc} {ls : Array Slot} {cells slots : Nat} (hLI : LI X M) (hP : va_P D cls (zxo cI cJ cP cS a X ao ov ++ ymc cI cZ h bb M) H) (hD : va_D (va_A [] s.heap.size) (zxo cI cJ cP cS a X ao ov ++ ymc cI cZ h bb M)) (hS : va_S (va_A [] s.heap.size) s.heap H locs) (hl : lv_has ls 7 [(4, .int (nI (4 * k))), (3, .ref ao), (2, .ref h), (1, .ref (a 0)), (0, .ref b)])
    (hc1 : cells + 4 ≤ 601024) (hc2 : slots + 24 ≤ 7293034) (kk : zKK p l e s m args below meth c Q D cI cJ cZ cP cS a ao h bb b k cells slots) : W p l e room_1 s m args below meth c H locs cells slots Q (F0 m 626 ls []) := by
  obtain ⟨hx, hb, hml, hown, hok, hs, hno, hK, hX, hbl, htr, hL⟩ := J
  have hA := zj_A (s := s)
  obtain ⟨s1, hs1, hb1⟩ := zj_s (xs (4 * k + 1))
  refine lv_aload_n hx hb d_LA_law_626 rfl (lv_at hl 3 rfl) ?_
  refine lv_aload_n hx hb d_LA_law_627 rfl (lv_at hl 4 rfl) ?_
  refine lv_iload hx hb d_LA_law_628 (lv_at hl 0 rfl) ?_
  refine lv_iconst (v := 1) hx hb d_LA_law_630 (by decide) ?_
  refine lv_iadd hx hb d_LA_law_631 ?_
  refine W.eq (g2 := F0 m 632 ls [.int (nI (4 * k + 1)), .ref b, .ref (a 0)]) (by rw [show ((nI (4 * k)) + (1 : Int32)) = nI (4 * k + 1) from zj_ad (4 * k) 1]) ?_
  refine va_sld hx hb hX hbl (zj_bA hbl) hS (vp_in_nI (show 4 * k + 1 < L by omega) (by omega)) d_LA_law_632 ?_
  rw [nI_clamp (show 4 * k + 1 < 2 ^ 31 by omega)]
  refine lv_aload_n hx hb d_LA_law_633 rfl (lv_at hl 4 rfl) ?_
  refine lv_iload hx hb d_LA_law_634 (lv_at hl 0 rfl) ?_
  refine lv_iconst (v := 2) hx hb d_LA_law_636 (by decide) ?_
  refine lv_iadd hx hb d_LA_law_637 ?_
  refine W.eq (g2 := F0 m 638 ls [.int (nI (4 * k + 2)), .ref b, .int (xs (4 * k + 1)), .ref (a 0)]) (by rw [show ((nI (4 * k)) + (2 : Int32)) = nI (4 * k + 2) from zj_ad (4 * k) 2]) ?_
  refine va_sld hx hb hX hbl (zj_bA hbl) hS (vp_in_nI (show 4 * k + 2 < L by omega) (by omega)) d_LA_law_638 ?_
  rw [nI_clamp (show 4 * k + 2 < 2 ^ 31 by omega)]
  refine lv_aload_n hx hb d_LA_law_639 rfl (lv_at hl 4 rfl) ?_
  refine lv_iload hx hb d_LA_law_640 (lv_at hl 0 rfl) ?_
  refine lv_iconst (v := 3) hx hb d_LA_law_642 (by decide) ?_
  refine lv_iadd hx hb d_LA_law_643 ?_
  refine W.eq (g2 := F0 m 644 ls [.int (nI (4 * k + 3)), .ref b, .int (xs (4 * k + 2)), .int (xs (4 * k + 1)), .ref (a 0)]) (by rw [show ((nI (4 * k)) + (3 : Int32)) = nI (4 * k + 3) from zj_ad (4 * k) 3]) ?_
  refine va_sld hx hb hX hbl (zj_bA hbl) hS (vp_in_nI (show 4 * k + 3 < L by omega) (by omega)) d_LA_law_644 ?_
  rw [nI_clamp (show 4 * k + 3 < 2 ^ 31 by omega)]
  refine lv_aload_n hx hb d_LA_law_645 rfl (lv_at hl 1 rfl) ?_
  refine zl_call (wc := zxo cI cJ cP cS a X ao ov) (wc1 := zxo cI cJ cP cS a (X_pass X s1 (xs (4 * k + 1)) (xs (4 * k + 2)) (xs (4 * k + 3))) ao (vp_updL ov 0 (V_pass X s1 (xs (4 * k + 1)) (xs (4 * k + 2)) (xs (4 * k + 3))))) (wr := ymc cI cZ h bb M) (zl_runS (n := 5) (Ts := []) (As := [.ref (a 0), .int (xs (4 * k + 1)), .int (xs (4 * k + 2)), .int (xs (4 * k + 3)), .ref ao]) (rest := []) ⟨hx, hb, hml, hown, fun _ h => absurd h List.not_mem_nil⟩ (M_LA_pass l htr D cI cJ cZ cP cS a X s1 (xs (4 * k + 1)) (xs (4 * k + 2)) (xs (4 * k + 3)) hs1 hb1 (zj_C hLI) ao ov _) hok t_440 t_0 t_438 t_439 rfl rfl (by decide +kernel) ⟨Nat.le_of_ble_eq_true rfl, Nat.le_of_ble_eq_true rfl⟩ ⟨fun a U g mk q => by obtain ⟨q0, q1, q2, q3, q4, qP, qK, qD⟩ := q; exact ⟨q0, q1, q2.call g mk a, q3.moved (Vm.Alike.refl _), q4.moved (Vm.Alike.refl _), qP, va_K.moved (u := U) (U := U.calling g mk a) (Vm.Alike.refl U.vm) qK, qD⟩, fun U hU hW => ⟨rfl, by rw [hU], hok.warm hW, by rw [hU]; exact zs_ok.kept hs (zj_nil (D := D) (cl := cls)) hS hW.alike, hno.moved hW.alike, by rw [hU]; exact zj_Pl hP, va_K.moved hW.alike hK, zj_Dl hD⟩⟩ rfl rfl hl.1 rfl (lv_room (Nat.le_of_ble_eq_true rfl)) d_LA_law_646 ⟨by show cells + 3 ≤ 601024; omega, by show slots + 18 ≤ 7293034; omega⟩) hS hP hD hA (fun hk9 H locs hP hD hS => ?_) (fun Y H locs hE hP hD hS => ?_)
  · obtain ⟨e1, e2, h12, ht, hV, hN⟩ := ra_pass_ok hLI hs1 hb1 hk9
    refine lv_istore hx hb d_LA_law_649 hl (by decide) rfl (fun ls hl => ?_)
    have hl : lv_has ls 7 [(5, .int 0), (4, .int (nI (4 * k))), (3, .ref ao), (2, .ref h), (1, .ref (a 0)), (0, .ref b)] := hl
    refine lv_aload_n hx hb d_LA_law_651 rfl (lv_at hl 3 rfl) ?_
    refine lv_aload_n hx hb d_LA_law_652 rfl (lv_at hl 5 rfl) ?_
    refine lv_iload hx hb d_LA_law_653 (lv_at hl 1 rfl) ?_
    refine lv_iconst (v := 1) hx hb d_LA_law_655 (by decide) ?_
    refine lv_iadd hx hb d_LA_law_656 ?_
    refine W.eq (g2 := F0 m 657 ls [.int (nI (4 * k + 1)), .ref b, .ref h]) (by rw [show ((nI (4 * k)) + (1 : Int32)) = nI (4 * k + 1) from zj_ad (4 * k) 1]) ?_
    refine va_sld hx hb hX hbl (zj_bA hbl) hS (vp_in_nI (show 4 * k + 1 < L by omega) (by omega)) d_LA_law_657 ?_
    rw [nI_clamp (show 4 * k + 1 < 2 ^ 31 by omega)]
    refine lv_aload_n hx hb d_LA_law_658 rfl (lv_at hl 5 rfl) ?_
    refine lv_iload hx hb d_LA_law_659 (lv_at hl 1 rfl) ?_
    refine lv_iconst (v := 2) hx hb d_LA_law_661 (by decide) ?_
    refine lv_iadd hx hb d_LA_law_662 ?_
    refine W.eq (g2 := F0 m 663 ls [.int (nI (4 * k + 2)), .ref b, .int (xs (4 * k + 1)), .ref h]) (by rw [show ((nI (4 * k)) + (2 : Int32)) = nI (4 * k + 2) from zj_ad (4 * k) 2]) ?_
    refine va_sld hx hb hX hbl (zj_bA hbl) hS (vp_in_nI (show 4 * k + 2 < L by omega) (by omega)) d_LA_law_663 ?_
    rw [nI_clamp (show 4 * k + 2 < 2 ^ 31 by omega)]
    refine lv_aload_n hx hb d_LA_law_664 rfl (lv_at hl 5 rfl) ?_
    refine lv_iload hx hb d_LA_law_665 (lv_at hl 1 rfl) ?_
    refine lv_iconst (v := 3) hx hb d_LA_law_667 (by decide) ?_
    refine lv_iadd hx hb d_LA_law_668 ?_
    refine W.eq (g2 := F0 m 669 ls [.int (nI (4 * k + 3)), .ref b, .int (xs (4 * k + 2)), .int (xs (4 * k + 1)), .ref h]) (by rw [show ((nI (4 * k)) + (3 : Int32)) = nI (4 * k + 3) from zj_ad (4 * k) 3]) ?_
    refine va_sld hx hb hX hbl (zj_bA hbl) hS (vp_in_nI (show 4 * k + 3 < L by omega) (by omega)) d_LA_law_669 ?_
    rw [nI_clamp (show 4 * k + 3 < 2 ^ 31 by omega)]
    refine zm_call (wc := ymc cI cZ h bb M) (wc1 := ymc cI cZ h bb (Y_pass_ok M s1 (xs (4 * k + 2)).toNatClampNeg (xs (4 * k + 3)))) (wr := zxo cI cJ cP cS a (X_pass X s1 (xs (4 * k + 1)) (xs (4 * k + 2)) (xs (4 * k + 3))) ao (vp_updL ov 0 (V_pass X s1 (xs (4 * k + 1)) (xs (4 * k + 2)) (xs (4 * k + 3))))) (va_runV (Ts := []) (As := [.int (xs (4 * k + 1)), .int (xs (4 * k + 2)), .int (xs (4 * k + 3))]) (rest := []) ⟨hx, hb, hml, hown, fun _ h => absurd h List.not_mem_nil⟩ (N_pass_ok l D cI cJ cZ cP cS h bb M s1 (xs (4 * k + 2)).toNatClampNeg (xs (4 * k + 3)) hs1 h12 ht _) ⟨zc_B 3 hok c_MO_pass_w t_10 t_832 rfl rfl (by decide +kernel) ⟨Nat.le_of_ble_eq_true rfl, Nat.le_of_ble_eq_true rfl⟩, hok _ t_833 rfl _, hok _ t_834 rfl _⟩ ⟨fun a U g mk q => by obtain ⟨q0, q1, q2, qP, qK, qD⟩ := q; exact ⟨q0, q1, q2.call g mk a, qP, va_K.moved (u := U) (U := U.calling g mk a) (Vm.Alike.refl U.vm) qK, qD⟩, va_recv hK hP (ci := 8) (q0 := 49) rfl rfl, fun U hU hW => ⟨(by rw [← e1, ← e2]), by rw [hU], hok.warm hW, by rw [hU]; exact zj_Pr hP, va_K.moved hW.alike hK, zj_Dr hD⟩⟩ rfl rfl hl.1 rfl (lv_room (Nat.le_of_ble_eq_true rfl)) d_LA_law_670 ⟨by show cells + 3 + 0 ≤ 601024; omega, by show slots + 18 + 0 ≤ 7293034; omega⟩) hS hP hD hA (fun H locs hP hD hS => ?_)
    refine lv_istore hx hb d_LA_law_673 hl (by decide) rfl (fun ls hl => ?_)
    have hl : lv_has ls 7 [(6, .int (U_pass_ok M s1 (xs (4 * k + 2)).toNatClampNeg (xs (4 * k + 3)))), (5, .int 0), (4, .int (nI (4 * k))), (3, .ref ao), (2, .ref h), (1, .ref (a 0)), (0, .ref b)] := hl
    refine lv_aload_n hx hb d_LA_law_675 rfl (lv_at hl 4 rfl) ?_
    refine zc_read (va_runV (Ts := []) (As := []) (rest := []) ⟨hx, hb, hml, hown, fun _ h => absurd h List.not_mem_nil⟩ (m_MO_thrown l D cI cJ cZ cP cS h bb (Y_pass_ok M s1 (xs (4 * k + 2)).toNatClampNeg (xs (4 * k + 3))).1 (Y_pass_ok M s1 (xs (4 * k + 2)).toNatClampNeg (xs (4 * k + 3))).2.1 (Y_pass_ok M s1 (xs (4 * k + 2)).toNatClampNeg (xs (4 * k + 3))).2.2.1 (Y_pass_ok M s1 (xs (4 * k + 2)).toNatClampNeg (xs (4 * k + 3))).2.2.2.1) ⟨zc_B 0 hok c_MO_thrown_w t_10 t_782 rfl rfl (by decide +kernel) ⟨Nat.le_of_ble_eq_true rfl, Nat.le_of_ble_eq_true rfl⟩, hok _ t_783 rfl _, hok _ t_784 rfl _⟩ ⟨fun a U g mk q => by obtain ⟨q0, q2, qP, qK⟩ := q; exact ⟨q0, q2.call g mk a, qP, va_K.moved (u := U) (U := U.calling g mk a) (Vm.Alike.refl U.vm) qK⟩, va_recv hK hP (ci := 8) (q0 := 49) rfl rfl, fun U hU hW => ⟨rfl, hok.warm hW, by rw [hU]; exact hP.sub [49] rfl, va_K.moved hW.alike hK⟩⟩ rfl rfl hl.1 rfl (lv_room (Nat.le_of_ble_eq_true rfl)) d_LA_law_676 ⟨by show cells + 3 + 0 ≤ 601024; omega, by show slots + 18 + 0 ≤ 7293034; omega⟩) ?_
    refine W.eq (g2 := F0 m 679 ls [.int 0]) rfl ?_
    refine lv_iload hx hb d_LA_law_679 (lv_at hl 1 rfl) ?_
    refine lv_icmp_eq (tgt := 686) hx hb d_LA_law_681 (by decide) (fun h681 => ?_) (fun h681 => absurd (rfl) h681)
    refine lv_iload hx hb d_LA_law_686 (lv_at hl 1 rfl) ?_
    refine lv_if_ne (tgt := 703) hx hb d_LA_law_688 (by decide) (fun h688 => absurd ((rfl : (0 : Int32) = 0)) h688) (fun h688 => ?_)
    refine lv_aload_n hx hb d_LA_law_691 rfl (lv_at hl 3 rfl) ?_
    refine lv_iconst (v := 0) hx hb d_LA_law_692 (by decide) ?_
    refine va_lald hx hb hK hP 48 1 rfl rfl (show vp_in (nI 0) 1 from vp_in_nI (by decide) (by decide)) d_LA_law_693 ?_
    refine W.eq (g2 := F0 m 694 ls [.long (V_pass X s1 (xs (4 * k + 1)) (xs (4 * k + 2)) (xs (4 * k + 3)))]) rfl ?_
    refine lv_iload hx hb d_LA_law_694 (lv_at hl 0 rfl) ?_
    refine lv_i2l (v := Int32.toInt64 (U_pass_ok M s1 (xs (4 * k + 2)).toNatClampNeg (xs (4 * k + 3)))) hx hb d_LA_law_696 rfl ?_
    refine W.lcmp hx hb d_LA_law_697 ?_
    refine lv_if_eq (tgt := 703) hx hb d_LA_law_698 (by decide) (fun h698 => ?_) (fun h698 => absurd (zj_lg hV) h698)
    refine lv_goto (tgt := 1344) hx hb d_LA_law_703 (by decide) ?_
    exact W.widen (by omega) (by omega) (kk (X_pass X s1 (xs (4 * k + 1)) (xs (4 * k + 2)) (xs (4 * k + 3))) (Y_pass_ok M s1 (xs (4 * k + 2)).toNatClampNeg (xs (4 * k + 3))) (vp_updL ov 0 (V_pass X s1 (xs (4 * k + 1)) (xs (4 * k + 2)) (xs (4 * k + 3)))) H locs ls hN hP hD hS (lv_sub hl [2, 3, 4, 5, 6] rfl))
  · refine lv_istore hx hb d_LA_law_649 hl (by decide) rfl (fun ls hl => ?_)
    have hl : lv_has ls 7 [(5, .int (if Y = zx_iae then 1 else 2)), (4, .int (nI (4 * k))), (3, .ref ao), (2, .ref h), (1, .ref (a 0)), (0, .ref b)] := hl
    refine lv_aload_n hx hb d_LA_law_651 rfl (lv_at hl 3 rfl) ?_
    refine lv_aload_n hx hb d_LA_law_652 rfl (lv_at hl 5 rfl) ?_
    refine lv_iload hx hb d_LA_law_653 (lv_at hl 1 rfl) ?_
    refine lv_iconst (v := 1) hx hb d_LA_law_655 (by decide) ?_
    refine lv_iadd hx hb d_LA_law_656 ?_
    refine W.eq (g2 := F0 m 657 ls [.int (nI (4 * k + 1)), .ref b, .ref h]) (by rw [show ((nI (4 * k)) + (1 : Int32)) = nI (4 * k + 1) from zj_ad (4 * k) 1]) ?_
    refine va_sld hx hb hX hbl (zj_bA hbl) hS (vp_in_nI (show 4 * k + 1 < L by omega) (by omega)) d_LA_law_657 ?_
    rw [nI_clamp (show 4 * k + 1 < 2 ^ 31 by omega)]
    refine lv_aload_n hx hb d_LA_law_658 rfl (lv_at hl 5 rfl) ?_
    refine lv_iload hx hb d_LA_law_659 (lv_at hl 1 rfl) ?_
    refine lv_iconst (v := 2) hx hb d_LA_law_661 (by decide) ?_
    refine lv_iadd hx hb d_LA_law_662 ?_
    refine W.eq (g2 := F0 m 663 ls [.int (nI (4 * k + 2)), .ref b, .int (xs (4 * k + 1)), .ref h]) (by rw [show ((nI (4 * k)) + (2 : Int32)) = nI (4 * k + 2) from zj_ad (4 * k) 2]) ?_
    refine va_sld hx hb hX hbl (zj_bA hbl) hS (vp_in_nI (show 4 * k + 2 < L by omega) (by omega)) d_LA_law_663 ?_
    rw [nI_clamp (show 4 * k + 2 < 2 ^ 31 by omega)]
    refine lv_aload_n hx hb d_LA_law_664 rfl (lv_at hl 5 rfl) ?_
    refine lv_iload hx hb d_LA_law_665 (lv_at hl 1 rfl) ?_
    refine lv_iconst (v := 3) hx hb d_LA_law_667 (by decide) ?_
    refine lv_iadd hx hb d_LA_law_668 ?_
    refine W.eq (g2 := F0 m 669 ls [.int (nI (4 * k + 3)), .ref b, .int (xs (4 * k + 2)), .int (xs (4 * k + 1)), .ref h]) (by rw [show ((nI (4 * k)) + (3 : Int32)) = nI (4 * k + 3) from zj_ad (4 * k) 3]) ?_
    refine va_sld hx hb hX hbl (zj_bA hbl) hS (vp_in_nI (show 4 * k + 3 < L by omega) (by omega)) d_LA_law_669 ?_
    rw [nI_clamp (show 4 * k + 3 < 2 ^ 31 by omega)]
    refine zm_call (wc := ymc cI cZ h bb M) (wc1 := ymc cI cZ h bb (Y_pass_bad M (xs (4 * k + 1)) (xs (4 * k + 2)) (xs (4 * k + 3)) (if Y = zx_iae then 1 else 2))) (wr := zxo cI cJ cP cS a X ao ov) (va_runV (Ts := []) (As := [.int (xs (4 * k + 1)), .int (xs (4 * k + 2)), .int (xs (4 * k + 3))]) (rest := []) ⟨hx, hb, hml, hown, fun _ h => absurd h List.not_mem_nil⟩ (N_pass_bad l D cI cJ cZ cP cS h bb M (xs (4 * k + 1)) (xs (4 * k + 2)) (xs (4 * k + 3)) (if Y = zx_iae then 1 else 2) (ra_pass_bad hLI hE) (zj_t0 Y) _) ⟨zc_B 3 hok c_MO_pass_w t_10 t_832 rfl rfl (by decide +kernel) ⟨Nat.le_of_ble_eq_true rfl, Nat.le_of_ble_eq_true rfl⟩, hok _ t_833 rfl _, hok _ t_834 rfl _⟩ ⟨fun a U g mk q => by obtain ⟨q0, q1, q2, qP, qK, qD⟩ := q; exact ⟨q0, q1, q2.call g mk a, qP, va_K.moved (u := U) (U := U.calling g mk a) (Vm.Alike.refl U.vm) qK, qD⟩, va_recv hK hP (ci := 8) (q0 := 49) rfl rfl, fun U hU hW => ⟨rfl, by rw [hU], hok.warm hW, by rw [hU]; exact zj_Pr hP, va_K.moved hW.alike hK, zj_Dr hD⟩⟩ rfl rfl hl.1 rfl (lv_room (Nat.le_of_ble_eq_true rfl)) d_LA_law_670 ⟨by show cells + 3 + 0 ≤ 601024; omega, by show slots + 18 + 0 ≤ 7293034; omega⟩) hS hP hD hA (fun H locs hP hD hS => ?_)
    refine lv_istore hx hb d_LA_law_673 hl (by decide) rfl (fun ls hl => ?_)
    have hl : lv_has ls 7 [(6, .int (U_pass_bad M (xs (4 * k + 1)) (xs (4 * k + 2)) (xs (4 * k + 3)) (if Y = zx_iae then 1 else 2))), (5, .int (if Y = zx_iae then 1 else 2)), (4, .int (nI (4 * k))), (3, .ref ao), (2, .ref h), (1, .ref (a 0)), (0, .ref b)] := hl
    refine lv_aload_n hx hb d_LA_law_675 rfl (lv_at hl 4 rfl) ?_
    refine zc_read (va_runV (Ts := []) (As := []) (rest := []) ⟨hx, hb, hml, hown, fun _ h => absurd h List.not_mem_nil⟩ (m_MO_thrown l D cI cJ cZ cP cS h bb (Y_pass_bad M (xs (4 * k + 1)) (xs (4 * k + 2)) (xs (4 * k + 3)) (if Y = zx_iae then 1 else 2)).1 (Y_pass_bad M (xs (4 * k + 1)) (xs (4 * k + 2)) (xs (4 * k + 3)) (if Y = zx_iae then 1 else 2)).2.1 (Y_pass_bad M (xs (4 * k + 1)) (xs (4 * k + 2)) (xs (4 * k + 3)) (if Y = zx_iae then 1 else 2)).2.2.1 (Y_pass_bad M (xs (4 * k + 1)) (xs (4 * k + 2)) (xs (4 * k + 3)) (if Y = zx_iae then 1 else 2)).2.2.2.1) ⟨zc_B 0 hok c_MO_thrown_w t_10 t_782 rfl rfl (by decide +kernel) ⟨Nat.le_of_ble_eq_true rfl, Nat.le_of_ble_eq_true rfl⟩, hok _ t_783 rfl _, hok _ t_784 rfl _⟩ ⟨fun a U g mk q => by obtain ⟨q0, q2, qP, qK⟩ := q; exact ⟨q0, q2.call g mk a, qP, va_K.moved (u := U) (U := U.calling g mk a) (Vm.Alike.refl U.vm) qK⟩, va_recv hK hP (ci := 8) (q0 := 49) rfl rfl, fun U hU hW => ⟨rfl, hok.warm hW, by rw [hU]; exact hP.sub [49] rfl, va_K.moved hW.alike hK⟩⟩ rfl rfl hl.1 rfl (lv_room (Nat.le_of_ble_eq_true rfl)) d_LA_law_676 ⟨by show cells + 3 + 0 ≤ 601024; omega, by show slots + 18 + 0 ≤ 7293034; omega⟩) ?_
    refine W.eq (g2 := F0 m 679 ls [.int (if Y = zx_iae then 1 else 2)]) rfl ?_
    refine lv_iload hx hb d_LA_law_679 (lv_at hl 1 rfl) ?_
    refine lv_icmp_eq (tgt := 686) hx hb d_LA_law_681 (by decide) (fun h681 => ?_) (fun h681 => absurd (rfl) h681)
    refine lv_iload hx hb d_LA_law_686 (lv_at hl 1 rfl) ?_
    refine lv_if_ne (tgt := 703) hx hb d_LA_law_688 (by decide) (fun h688 => ?_) (fun h688 => absurd h688 (zj_t0 Y))
    refine lv_goto (tgt := 1344) hx hb d_LA_law_703 (by decide) ?_
    exact W.widen (by omega) (by omega) (kk X (Y_pass_bad M (xs (4 * k + 1)) (xs (4 * k + 2)) (xs (4 * k + 3)) (if Y = zx_iae then 1 else 2)) ov H locs ls (hLI.th (if Y = zx_iae then 1 else 2)) hP hD hS (lv_sub hl [2, 3, 4, 5, 6] rfl))
