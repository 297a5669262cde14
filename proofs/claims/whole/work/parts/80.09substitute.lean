/-! the law: substitute (rows by program) -/
set_option maxHeartbeats 4000000 in
set_option maxRecDepth 100000 in
theorem lw_substitute {p : Program} {l : Launch} {e : Env} {s : State} {m : MethodId} {args : Array Value} {below : List Frame} {meth : Method} {c : Code} {Q : State → Prop} {b L : Nat} {xs : Nat → Int32} {D : va_G} {cI cJ cZ cP cS : ClassId} {a : Nat → Nat} {ao h : Nat} {bb : Nat → Nat} (J : zJ p l s m c b L xs D cI cJ cZ cP cS) {k : Nat} (hk : 4 * k + 4 ≤ L)
    {X : XS} {M : MS} {ov : Nat → Int64} {H : Heap} {locs : List Loc} {ls : Array Slot} {cells slots : Nat} (hLI : LI X M) (hP : va_P D cls (zxo cI cJ cP cS a X ao ov ++ ymc cI cZ h bb M) H) (hD : va_D (va_A [] s.heap.size) (zxo cI cJ cP cS a X ao ov ++ ymc cI cZ h bb M)) (hS : va_S (va_A [] s.heap.size) s.heap H locs) (hl : lv_has ls 7 [(4, .int (nI (4 * k))), (3, .ref ao), (2, .ref h), (1, .ref (a 0)), (0, .ref b)])
    (hc1 : cells + 4 ≤ 601024) (hc2 : slots + 24 ≤ 7293034) (kk : zKK p l e s m args below meth c Q D cI cJ cZ cP cS a ao h bb b k cells slots) : W p l e room_1 s m args below meth c H locs cells slots Q (F0 m 706 ls []) := by
  obtain ⟨hx, hb, hml, hown, hok, hs, hno, hK, hX, hbl, htr, hL⟩ := J
  have hA := zj_A (s := s)
  obtain ⟨s1, hs1, hb1⟩ := zj_s (xs (4 * k + 1))
  refine lv_aload_n hx hb d_LA_law_706 rfl (lv_at hl 3 rfl) ?_
  refine lv_aload_n hx hb d_LA_law_707 rfl (lv_at hl 4 rfl) ?_
  refine lv_iload hx hb d_LA_law_708 (lv_at hl 0 rfl) ?_
  refine lv_iconst (v := 1) hx hb d_LA_law_710 (by decide) ?_
  refine lv_iadd hx hb d_LA_law_711 ?_
  refine W.eq (g2 := F0 m 712 ls [.int (nI (4 * k + 1)), .ref b, .ref (a 0)]) (by rw [show ((nI (4 * k)) + (1 : Int32)) = nI (4 * k + 1) from zj_ad (4 * k) 1]) ?_
  refine va_sld hx hb hX hbl (zj_bA hbl) hS (vp_in_nI (show 4 * k + 1 < L by omega) (by omega)) d_LA_law_712 ?_
  rw [nI_clamp (show 4 * k + 1 < 2 ^ 31 by omega)]
  refine lv_aload_n hx hb d_LA_law_713 rfl (lv_at hl 4 rfl) ?_
  refine lv_iload hx hb d_LA_law_714 (lv_at hl 0 rfl) ?_
  refine lv_iconst (v := 2) hx hb d_LA_law_716 (by decide) ?_
  refine lv_iadd hx hb d_LA_law_717 ?_
  refine W.eq (g2 := F0 m 718 ls [.int (nI (4 * k + 2)), .ref b, .int (xs (4 * k + 1)), .ref (a 0)]) (by rw [show ((nI (4 * k)) + (2 : Int32)) = nI (4 * k + 2) from zj_ad (4 * k) 2]) ?_
  refine va_sld hx hb hX hbl (zj_bA hbl) hS (vp_in_nI (show 4 * k + 2 < L by omega) (by omega)) d_LA_law_718 ?_
  rw [nI_clamp (show 4 * k + 2 < 2 ^ 31 by omega)]
  refine lv_aload_n hx hb d_LA_law_719 rfl (lv_at hl 4 rfl) ?_
  refine lv_iload hx hb d_LA_law_720 (lv_at hl 0 rfl) ?_
  refine lv_iconst (v := 3) hx hb d_LA_law_722 (by decide) ?_
  refine lv_iadd hx hb d_LA_law_723 ?_
  refine W.eq (g2 := F0 m 724 ls [.int (nI (4 * k + 3)), .ref b, .int (xs (4 * k + 2)), .int (xs (4 * k + 1)), .ref (a 0)]) (by rw [show ((nI (4 * k)) + (3 : Int32)) = nI (4 * k + 3) from zj_ad (4 * k) 3]) ?_
  refine va_sld hx hb hX hbl (zj_bA hbl) hS (vp_in_nI (show 4 * k + 3 < L by omega) (by omega)) d_LA_law_724 ?_
  rw [nI_clamp (show 4 * k + 3 < 2 ^ 31 by omega)]
  refine lv_aload_n hx hb d_LA_law_725 rfl (lv_at hl 1 rfl) ?_
  refine zl_call (wc := zxo cI cJ cP cS a X ao ov) (wc1 := zxo cI cJ cP cS a (X_substitute X s1 (xs (4 * k + 1)) (xs (4 * k + 2)) (xs (4 * k + 3))) ao (vp_updL ov 0 (V_substitute X s1 (xs (4 * k + 1)) (xs (4 * k + 2)) (xs (4 * k + 3))))) (wr := ymc cI cZ h bb M) (zl_runS (n := 5) (Ts := []) (As := [.ref (a 0), .int (xs (4 * k + 1)), .int (xs (4 * k + 2)), .int (xs (4 * k + 3)), .ref ao]) (rest := []) ⟨hx, hb, hml, hown, fun _ h => absurd h List.not_mem_nil⟩ (M_LA_substitute l htr D cI cJ cZ cP cS a X s1 (xs (4 * k + 1)) (xs (4 * k + 2)) (xs (4 * k + 3)) hs1 hb1 (zj_C hLI) ao ov _) hok t_450 t_0 t_448 t_449 rfl rfl (by decide +kernel) ⟨Nat.le_of_ble_eq_true rfl, Nat.le_of_ble_eq_true rfl⟩ ⟨fun a U g mk q => by obtain ⟨q0, q1, q2, q3, q4, qP, qK, qD⟩ := q; exact ⟨q0, q1, q2.call g mk a, q3.moved (Vm.Alike.refl _), q4.moved (Vm.Alike.refl _), qP, va_K.moved (u := U) (U := U.calling g mk a) (Vm.Alike.refl U.vm) qK, qD⟩, fun U hU hW => ⟨rfl, by rw [hU], hok.warm hW, by rw [hU]; exact zs_ok.kept hs (zj_nil (D := D) (cl := cls)) hS hW.alike, hno.moved hW.alike, by rw [hU]; exact zj_Pl hP, va_K.moved hW.alike hK, zj_Dl hD⟩⟩ rfl rfl hl.1 rfl (lv_room (Nat.le_of_ble_eq_true rfl)) d_LA_law_726 ⟨by show cells + 4 ≤ 601024; omega, by show slots + 24 ≤ 7293034; omega⟩) hS hP hD hA (fun hk9 H locs hP hD hS => ?_) (fun Y H locs hE hP hD hS => ?_)
  · obtain ⟨e1, e2, e3, hc12, hd12, ht, hcd⟩ := rs_args hLI hb1 hk9.1
    by_cases hsame : (xs (4 * k + 2)) = (xs (4 * k + 3))
    · have hV : (V_substitute X s1 (xs (4 * k + 1)) (xs (4 * k + 2)) (xs (4 * k + 3))) = zbL false := by unfold V_substitute; rw [decide_eq_false (fun z => z (Or.inl hsame))]
      have hN := ra_substitute_keep hLI hs1 (b := (xs (4 * k + 1))) (Or.inl hsame) 0
      refine lv_istore hx hb d_LA_law_729 hl (by decide) rfl (fun ls hl => ?_)
      have hl : lv_has ls 7 [(5, .int 0), (4, .int (nI (4 * k))), (3, .ref ao), (2, .ref h), (1, .ref (a 0)), (0, .ref b)] := hl
      refine lv_aload_n hx hb d_LA_law_731 rfl (lv_at hl 3 rfl) ?_
      refine lv_aload_n hx hb d_LA_law_732 rfl (lv_at hl 5 rfl) ?_
      refine lv_iload hx hb d_LA_law_733 (lv_at hl 1 rfl) ?_
      refine lv_iconst (v := 1) hx hb d_LA_law_735 (by decide) ?_
      refine lv_iadd hx hb d_LA_law_736 ?_
      refine W.eq (g2 := F0 m 737 ls [.int (nI (4 * k + 1)), .ref b, .ref h]) (by rw [show ((nI (4 * k)) + (1 : Int32)) = nI (4 * k + 1) from zj_ad (4 * k) 1]) ?_
      refine va_sld hx hb hX hbl (zj_bA hbl) hS (vp_in_nI (show 4 * k + 1 < L by omega) (by omega)) d_LA_law_737 ?_
      rw [nI_clamp (show 4 * k + 1 < 2 ^ 31 by omega)]
      refine lv_aload_n hx hb d_LA_law_738 rfl (lv_at hl 5 rfl) ?_
      refine lv_iload hx hb d_LA_law_739 (lv_at hl 1 rfl) ?_
      refine lv_iconst (v := 2) hx hb d_LA_law_741 (by decide) ?_
      refine lv_iadd hx hb d_LA_law_742 ?_
      refine W.eq (g2 := F0 m 743 ls [.int (nI (4 * k + 2)), .ref b, .int (xs (4 * k + 1)), .ref h]) (by rw [show ((nI (4 * k)) + (2 : Int32)) = nI (4 * k + 2) from zj_ad (4 * k) 2]) ?_
      refine va_sld hx hb hX hbl (zj_bA hbl) hS (vp_in_nI (show 4 * k + 2 < L by omega) (by omega)) d_LA_law_743 ?_
      rw [nI_clamp (show 4 * k + 2 < 2 ^ 31 by omega)]
      refine lv_aload_n hx hb d_LA_law_744 rfl (lv_at hl 5 rfl) ?_
      refine lv_iload hx hb d_LA_law_745 (lv_at hl 1 rfl) ?_
      refine lv_iconst (v := 3) hx hb d_LA_law_747 (by decide) ?_
      refine lv_iadd hx hb d_LA_law_748 ?_
      refine W.eq (g2 := F0 m 749 ls [.int (nI (4 * k + 3)), .ref b, .int (xs (4 * k + 2)), .int (xs (4 * k + 1)), .ref h]) (by rw [show ((nI (4 * k)) + (3 : Int32)) = nI (4 * k + 3) from zj_ad (4 * k) 3]) ?_
      refine va_sld hx hb hX hbl (zj_bA hbl) hS (vp_in_nI (show 4 * k + 3 < L by omega) (by omega)) d_LA_law_749 ?_
      rw [nI_clamp (show 4 * k + 3 < 2 ^ 31 by omega)]
      refine zm_call (wc := ymc cI cZ h bb M) (wc1 := ymc cI cZ h bb (Y_substitute_same M s1 (xs (4 * k + 2)).toNatClampNeg (xs (4 * k + 3)).toNatClampNeg)) (wr := zxo cI cJ cP cS a (X_substitute X s1 (xs (4 * k + 1)) (xs (4 * k + 2)) (xs (4 * k + 3))) ao (vp_updL ov 0 (V_substitute X s1 (xs (4 * k + 1)) (xs (4 * k + 2)) (xs (4 * k + 3))))) (va_runV (Ts := []) (As := [.int (xs (4 * k + 1)), .int (xs (4 * k + 2)), .int (xs (4 * k + 3))]) (rest := []) ⟨hx, hb, hml, hown, fun _ h => absurd h List.not_mem_nil⟩ (N_substitute_same l D cI cJ cZ cP cS h bb M s1 (xs (4 * k + 2)).toNatClampNeg (xs (4 * k + 3)).toNatClampNeg (hcd.1 hsame) ht _) ⟨zc_B 3 hok c_MO_substitute_w t_10 t_836 rfl rfl (by decide +kernel) ⟨Nat.le_of_ble_eq_true rfl, Nat.le_of_ble_eq_true rfl⟩, hok _ t_837 rfl _, hok _ t_838 rfl _⟩ ⟨fun a U g mk q => by obtain ⟨q0, q1, q2, qP, qK, qD⟩ := q; exact ⟨q0, q1, q2.call g mk a, qP, va_K.moved (u := U) (U := U.calling g mk a) (Vm.Alike.refl U.vm) qK, qD⟩, va_recv hK hP (ci := 8) (q0 := 49) rfl rfl, fun U hU hW => ⟨(by rw [← e1, ← e2, ← e3]), by rw [hU], hok.warm hW, by rw [hU]; exact zj_Pr hP, va_K.moved hW.alike hK, zj_Dr hD⟩⟩ rfl rfl hl.1 rfl (lv_room (Nat.le_of_ble_eq_true rfl)) d_LA_law_750 ⟨by show cells + 4 + 0 ≤ 601024; omega, by show slots + 24 + 0 ≤ 7293034; omega⟩) hS hP hD hA (fun H locs hP hD hS => ?_)
      refine lv_istore hx hb d_LA_law_753 hl (by decide) rfl (fun ls hl => ?_)
      have hl : lv_has ls 7 [(6, .int (U_substitute_same M s1 (xs (4 * k + 2)).toNatClampNeg (xs (4 * k + 3)).toNatClampNeg)), (5, .int 0), (4, .int (nI (4 * k))), (3, .ref ao), (2, .ref h), (1, .ref (a 0)), (0, .ref b)] := hl
      refine lv_aload_n hx hb d_LA_law_755 rfl (lv_at hl 4 rfl) ?_
      refine zc_read (va_runV (Ts := []) (As := []) (rest := []) ⟨hx, hb, hml, hown, fun _ h => absurd h List.not_mem_nil⟩ (m_MO_thrown l D cI cJ cZ cP cS h bb (Y_substitute_same M s1 (xs (4 * k + 2)).toNatClampNeg (xs (4 * k + 3)).toNatClampNeg).1 (Y_substitute_same M s1 (xs (4 * k + 2)).toNatClampNeg (xs (4 * k + 3)).toNatClampNeg).2.1 (Y_substitute_same M s1 (xs (4 * k + 2)).toNatClampNeg (xs (4 * k + 3)).toNatClampNeg).2.2.1 (Y_substitute_same M s1 (xs (4 * k + 2)).toNatClampNeg (xs (4 * k + 3)).toNatClampNeg).2.2.2.1) ⟨zc_B 0 hok c_MO_thrown_w t_10 t_782 rfl rfl (by decide +kernel) ⟨Nat.le_of_ble_eq_true rfl, Nat.le_of_ble_eq_true rfl⟩, hok _ t_783 rfl _, hok _ t_784 rfl _⟩ ⟨fun a U g mk q => by obtain ⟨q0, q2, qP, qK⟩ := q; exact ⟨q0, q2.call g mk a, qP, va_K.moved (u := U) (U := U.calling g mk a) (Vm.Alike.refl U.vm) qK⟩, va_recv hK hP (ci := 8) (q0 := 49) rfl rfl, fun U hU hW => ⟨rfl, hok.warm hW, by rw [hU]; exact hP.sub [49] rfl, va_K.moved hW.alike hK⟩⟩ rfl rfl hl.1 rfl (lv_room (Nat.le_of_ble_eq_true rfl)) d_LA_law_756 ⟨by show cells + 4 + 0 ≤ 601024; omega, by show slots + 24 + 0 ≤ 7293034; omega⟩) ?_
      refine W.eq (g2 := F0 m 759 ls [.int 0]) rfl ?_
      refine lv_iload hx hb d_LA_law_759 (lv_at hl 1 rfl) ?_
      refine lv_icmp_eq (tgt := 766) hx hb d_LA_law_761 (by decide) (fun h761 => ?_) (fun h761 => absurd (rfl) h761)
      refine lv_iload hx hb d_LA_law_766 (lv_at hl 1 rfl) ?_
      refine lv_if_ne (tgt := 790) hx hb d_LA_law_768 (by decide) (fun h768 => absurd ((rfl : (0 : Int32) = 0)) h768) (fun h768 => ?_)
      refine lv_aload_n hx hb d_LA_law_771 rfl (lv_at hl 3 rfl) ?_
      refine lv_iconst (v := 0) hx hb d_LA_law_772 (by decide) ?_
      refine va_lald hx hb hK hP 48 1 rfl rfl (show vp_in (nI 0) 1 from vp_in_nI (by decide) (by decide)) d_LA_law_773 ?_
      refine W.eq (g2 := F0 m 774 ls [.long (V_substitute X s1 (xs (4 * k + 1)) (xs (4 * k + 2)) (xs (4 * k + 3)))]) rfl ?_
      refine lv_iload hx hb d_LA_law_774 (lv_at hl 0 rfl) ?_
      refine lv_if_eq (tgt := 783) hx hb d_LA_law_776 (by decide) (fun hz => ?_) (fun hz => ?_)
      · have hv0 : false = false := (rz_zb _).1 hz
        have hVb : zbL false = 0 := by rw [hv0]; rfl
        refine lv_lconst (v := 0) hx hb d_LA_law_783 (by decide) ?_
        refine W.lcmp hx hb d_LA_law_784 ?_
        refine lv_if_eq (tgt := 790) hx hb d_LA_law_785 (by decide) (fun h785 => ?_) (fun h785 => absurd (zj_lg (by rw [hV]; exact hVb)) h785)
        refine lv_goto (tgt := 1344) hx hb d_LA_law_790 (by decide) ?_
        exact W.widen (by omega) (by omega) (kk (X_substitute X s1 (xs (4 * k + 1)) (xs (4 * k + 2)) (xs (4 * k + 3))) (Y_substitute_same M s1 (xs (4 * k + 2)).toNatClampNeg (xs (4 * k + 3)).toNatClampNeg) (vp_updL ov 0 (V_substitute X s1 (xs (4 * k + 1)) (xs (4 * k + 2)) (xs (4 * k + 3)))) H locs ls hN hP hD hS (lv_sub hl [2, 3, 4, 5, 6] rfl))
      · have hv1 : false = true := by
          cases hv9 : false
          · exact absurd ((rz_zb _).2 hv9) hz
          · rfl
        have hVb : zbL false = 1 := by rw [hv1]; rfl
        refine lv_lconst (v := 1) hx hb d_LA_law_779 (by decide) ?_
        refine lv_goto (tgt := 784) hx hb d_LA_law_780 (by decide) ?_
        refine W.lcmp hx hb d_LA_law_784 ?_
        refine lv_if_eq (tgt := 790) hx hb d_LA_law_785 (by decide) (fun h785 => ?_) (fun h785 => absurd (zj_lg (by rw [hV]; exact hVb)) h785)
        refine lv_goto (tgt := 1344) hx hb d_LA_law_790 (by decide) ?_
        exact W.widen (by omega) (by omega) (kk (X_substitute X s1 (xs (4 * k + 1)) (xs (4 * k + 2)) (xs (4 * k + 3))) (Y_substitute_same M s1 (xs (4 * k + 2)).toNatClampNeg (xs (4 * k + 3)).toNatClampNeg) (vp_updL ov 0 (V_substitute X s1 (xs (4 * k + 1)) (xs (4 * k + 2)) (xs (4 * k + 3)))) H locs ls hN hP hD hS (lv_sub hl [2, 3, 4, 5, 6] rfl))
    by_cases hfound : zh (X.2.2.1 (16 + s1) (xs (4 * k + 2)).toNatClampNeg) (xs (4 * k + 3)) = true
    · have hV : (V_substitute X s1 (xs (4 * k + 1)) (xs (4 * k + 2)) (xs (4 * k + 3))) = zbL false := by unfold V_substitute; rw [decide_eq_false (fun z => z (Or.inr hfound))]
      have hN := ra_substitute_keep hLI hs1 (b := (xs (4 * k + 1))) (Or.inr hfound) 0
      refine lv_istore hx hb d_LA_law_729 hl (by decide) rfl (fun ls hl => ?_)
      have hl : lv_has ls 7 [(5, .int 0), (4, .int (nI (4 * k))), (3, .ref ao), (2, .ref h), (1, .ref (a 0)), (0, .ref b)] := hl
      refine lv_aload_n hx hb d_LA_law_731 rfl (lv_at hl 3 rfl) ?_
      refine lv_aload_n hx hb d_LA_law_732 rfl (lv_at hl 5 rfl) ?_
      refine lv_iload hx hb d_LA_law_733 (lv_at hl 1 rfl) ?_
      refine lv_iconst (v := 1) hx hb d_LA_law_735 (by decide) ?_
      refine lv_iadd hx hb d_LA_law_736 ?_
      refine W.eq (g2 := F0 m 737 ls [.int (nI (4 * k + 1)), .ref b, .ref h]) (by rw [show ((nI (4 * k)) + (1 : Int32)) = nI (4 * k + 1) from zj_ad (4 * k) 1]) ?_
      refine va_sld hx hb hX hbl (zj_bA hbl) hS (vp_in_nI (show 4 * k + 1 < L by omega) (by omega)) d_LA_law_737 ?_
      rw [nI_clamp (show 4 * k + 1 < 2 ^ 31 by omega)]
      refine lv_aload_n hx hb d_LA_law_738 rfl (lv_at hl 5 rfl) ?_
      refine lv_iload hx hb d_LA_law_739 (lv_at hl 1 rfl) ?_
      refine lv_iconst (v := 2) hx hb d_LA_law_741 (by decide) ?_
      refine lv_iadd hx hb d_LA_law_742 ?_
      refine W.eq (g2 := F0 m 743 ls [.int (nI (4 * k + 2)), .ref b, .int (xs (4 * k + 1)), .ref h]) (by rw [show ((nI (4 * k)) + (2 : Int32)) = nI (4 * k + 2) from zj_ad (4 * k) 2]) ?_
      refine va_sld hx hb hX hbl (zj_bA hbl) hS (vp_in_nI (show 4 * k + 2 < L by omega) (by omega)) d_LA_law_743 ?_
      rw [nI_clamp (show 4 * k + 2 < 2 ^ 31 by omega)]
      refine lv_aload_n hx hb d_LA_law_744 rfl (lv_at hl 5 rfl) ?_
      refine lv_iload hx hb d_LA_law_745 (lv_at hl 1 rfl) ?_
      refine lv_iconst (v := 3) hx hb d_LA_law_747 (by decide) ?_
      refine lv_iadd hx hb d_LA_law_748 ?_
      refine W.eq (g2 := F0 m 749 ls [.int (nI (4 * k + 3)), .ref b, .int (xs (4 * k + 2)), .int (xs (4 * k + 1)), .ref h]) (by rw [show ((nI (4 * k)) + (3 : Int32)) = nI (4 * k + 3) from zj_ad (4 * k) 3]) ?_
      refine va_sld hx hb hX hbl (zj_bA hbl) hS (vp_in_nI (show 4 * k + 3 < L by omega) (by omega)) d_LA_law_749 ?_
      rw [nI_clamp (show 4 * k + 3 < 2 ^ 31 by omega)]
      refine zm_call (wc := ymc cI cZ h bb M) (wc1 := ymc cI cZ h bb (Y_substitute_found M s1 (xs (4 * k + 2)).toNatClampNeg (xs (4 * k + 3)).toNatClampNeg)) (wr := zxo cI cJ cP cS a (X_substitute X s1 (xs (4 * k + 1)) (xs (4 * k + 2)) (xs (4 * k + 3))) ao (vp_updL ov 0 (V_substitute X s1 (xs (4 * k + 1)) (xs (4 * k + 2)) (xs (4 * k + 3))))) (va_runV (Ts := []) (As := [.int (xs (4 * k + 1)), .int (xs (4 * k + 2)), .int (xs (4 * k + 3))]) (rest := []) ⟨hx, hb, hml, hown, fun _ h => absurd h List.not_mem_nil⟩ (N_substitute_found l D cI cJ cZ cP cS h bb M s1 (xs (4 * k + 2)).toNatClampNeg (xs (4 * k + 3)).toNatClampNeg hs1 (fun z => hsame (hcd.2 z)) hc12 hd12 (hLI.c.pe s1 hs1).2 ht ((rs_has hLI hs1 hc12 hd12).1 (by rw [← e3]; exact hfound)) _) ⟨zc_B 3 hok c_MO_substitute_w t_10 t_836 rfl rfl (by decide +kernel) ⟨Nat.le_of_ble_eq_true rfl, Nat.le_of_ble_eq_true rfl⟩, hok _ t_837 rfl _, hok _ t_838 rfl _⟩ ⟨fun a U g mk q => by obtain ⟨q0, q1, q2, qP, qK, qD⟩ := q; exact ⟨q0, q1, q2.call g mk a, qP, va_K.moved (u := U) (U := U.calling g mk a) (Vm.Alike.refl U.vm) qK, qD⟩, va_recv hK hP (ci := 8) (q0 := 49) rfl rfl, fun U hU hW => ⟨(by rw [← e1, ← e2, ← e3]), by rw [hU], hok.warm hW, by rw [hU]; exact zj_Pr hP, va_K.moved hW.alike hK, zj_Dr hD⟩⟩ rfl rfl hl.1 rfl (lv_room (Nat.le_of_ble_eq_true rfl)) d_LA_law_750 ⟨by show cells + 4 + 0 ≤ 601024; omega, by show slots + 24 + 0 ≤ 7293034; omega⟩) hS hP hD hA (fun H locs hP hD hS => ?_)
      refine lv_istore hx hb d_LA_law_753 hl (by decide) rfl (fun ls hl => ?_)
      have hl : lv_has ls 7 [(6, .int (U_substitute_found M s1 (xs (4 * k + 2)).toNatClampNeg (xs (4 * k + 3)).toNatClampNeg)), (5, .int 0), (4, .int (nI (4 * k))), (3, .ref ao), (2, .ref h), (1, .ref (a 0)), (0, .ref b)] := hl
      refine lv_aload_n hx hb d_LA_law_755 rfl (lv_at hl 4 rfl) ?_
      refine zc_read (va_runV (Ts := []) (As := []) (rest := []) ⟨hx, hb, hml, hown, fun _ h => absurd h List.not_mem_nil⟩ (m_MO_thrown l D cI cJ cZ cP cS h bb (Y_substitute_found M s1 (xs (4 * k + 2)).toNatClampNeg (xs (4 * k + 3)).toNatClampNeg).1 (Y_substitute_found M s1 (xs (4 * k + 2)).toNatClampNeg (xs (4 * k + 3)).toNatClampNeg).2.1 (Y_substitute_found M s1 (xs (4 * k + 2)).toNatClampNeg (xs (4 * k + 3)).toNatClampNeg).2.2.1 (Y_substitute_found M s1 (xs (4 * k + 2)).toNatClampNeg (xs (4 * k + 3)).toNatClampNeg).2.2.2.1) ⟨zc_B 0 hok c_MO_thrown_w t_10 t_782 rfl rfl (by decide +kernel) ⟨Nat.le_of_ble_eq_true rfl, Nat.le_of_ble_eq_true rfl⟩, hok _ t_783 rfl _, hok _ t_784 rfl _⟩ ⟨fun a U g mk q => by obtain ⟨q0, q2, qP, qK⟩ := q; exact ⟨q0, q2.call g mk a, qP, va_K.moved (u := U) (U := U.calling g mk a) (Vm.Alike.refl U.vm) qK⟩, va_recv hK hP (ci := 8) (q0 := 49) rfl rfl, fun U hU hW => ⟨rfl, hok.warm hW, by rw [hU]; exact hP.sub [49] rfl, va_K.moved hW.alike hK⟩⟩ rfl rfl hl.1 rfl (lv_room (Nat.le_of_ble_eq_true rfl)) d_LA_law_756 ⟨by show cells + 4 + 0 ≤ 601024; omega, by show slots + 24 + 0 ≤ 7293034; omega⟩) ?_
      refine W.eq (g2 := F0 m 759 ls [.int 0]) rfl ?_
      refine lv_iload hx hb d_LA_law_759 (lv_at hl 1 rfl) ?_
      refine lv_icmp_eq (tgt := 766) hx hb d_LA_law_761 (by decide) (fun h761 => ?_) (fun h761 => absurd (rfl) h761)
      refine lv_iload hx hb d_LA_law_766 (lv_at hl 1 rfl) ?_
      refine lv_if_ne (tgt := 790) hx hb d_LA_law_768 (by decide) (fun h768 => absurd ((rfl : (0 : Int32) = 0)) h768) (fun h768 => ?_)
      refine lv_aload_n hx hb d_LA_law_771 rfl (lv_at hl 3 rfl) ?_
      refine lv_iconst (v := 0) hx hb d_LA_law_772 (by decide) ?_
      refine va_lald hx hb hK hP 48 1 rfl rfl (show vp_in (nI 0) 1 from vp_in_nI (by decide) (by decide)) d_LA_law_773 ?_
      refine W.eq (g2 := F0 m 774 ls [.long (V_substitute X s1 (xs (4 * k + 1)) (xs (4 * k + 2)) (xs (4 * k + 3)))]) rfl ?_
      refine lv_iload hx hb d_LA_law_774 (lv_at hl 0 rfl) ?_
      refine lv_if_eq (tgt := 783) hx hb d_LA_law_776 (by decide) (fun hz => ?_) (fun hz => ?_)
      · have hv0 : false = false := (rz_zb _).1 hz
        have hVb : zbL false = 0 := by rw [hv0]; rfl
        refine lv_lconst (v := 0) hx hb d_LA_law_783 (by decide) ?_
        refine W.lcmp hx hb d_LA_law_784 ?_
        refine lv_if_eq (tgt := 790) hx hb d_LA_law_785 (by decide) (fun h785 => ?_) (fun h785 => absurd (zj_lg (by rw [hV]; exact hVb)) h785)
        refine lv_goto (tgt := 1344) hx hb d_LA_law_790 (by decide) ?_
        exact W.widen (by omega) (by omega) (kk (X_substitute X s1 (xs (4 * k + 1)) (xs (4 * k + 2)) (xs (4 * k + 3))) (Y_substitute_found M s1 (xs (4 * k + 2)).toNatClampNeg (xs (4 * k + 3)).toNatClampNeg) (vp_updL ov 0 (V_substitute X s1 (xs (4 * k + 1)) (xs (4 * k + 2)) (xs (4 * k + 3)))) H locs ls hN hP hD hS (lv_sub hl [2, 3, 4, 5, 6] rfl))
      · have hv1 : false = true := by
          cases hv9 : false
          · exact absurd ((rz_zb _).2 hv9) hz
          · rfl
        have hVb : zbL false = 1 := by rw [hv1]; rfl
        refine lv_lconst (v := 1) hx hb d_LA_law_779 (by decide) ?_
        refine lv_goto (tgt := 784) hx hb d_LA_law_780 (by decide) ?_
        refine W.lcmp hx hb d_LA_law_784 ?_
        refine lv_if_eq (tgt := 790) hx hb d_LA_law_785 (by decide) (fun h785 => ?_) (fun h785 => absurd (zj_lg (by rw [hV]; exact hVb)) h785)
        refine lv_goto (tgt := 1344) hx hb d_LA_law_790 (by decide) ?_
        exact W.widen (by omega) (by omega) (kk (X_substitute X s1 (xs (4 * k + 1)) (xs (4 * k + 2)) (xs (4 * k + 3))) (Y_substitute_found M s1 (xs (4 * k + 2)).toNatClampNeg (xs (4 * k + 3)).toNatClampNeg) (vp_updL ov 0 (V_substitute X s1 (xs (4 * k + 1)) (xs (4 * k + 2)) (xs (4 * k + 3)))) H locs ls hN hP hD hS (lv_sub hl [2, 3, 4, 5, 6] rfl))
    have hnew : ¬ ((xs (4 * k + 2)) = (xs (4 * k + 3)) ∨ zh (X.2.2.1 (16 + s1) (xs (4 * k + 2)).toNatClampNeg) (xs (4 * k + 3)) = true) := fun z => z.elim hsame hfound
    have h8 : ¬ M.2.2.2.2.2.1 s1 = 8 := fun z => hk9.2 hnew (by rw [(hLI.c.pe s1 hs1).1, z]; rfl)
    have hV : (V_substitute X s1 (xs (4 * k + 1)) (xs (4 * k + 2)) (xs (4 * k + 3))) = zbL true := by unfold V_substitute; rw [decide_eq_true hnew]
    have hN := ra_substitute_new hLI hs1 (b := (xs (4 * k + 1))) e2 e3 hc12 hd12 hnew h8
    refine lv_istore hx hb d_LA_law_729 hl (by decide) rfl (fun ls hl => ?_)
    have hl : lv_has ls 7 [(5, .int 0), (4, .int (nI (4 * k))), (3, .ref ao), (2, .ref h), (1, .ref (a 0)), (0, .ref b)] := hl
    refine lv_aload_n hx hb d_LA_law_731 rfl (lv_at hl 3 rfl) ?_
    refine lv_aload_n hx hb d_LA_law_732 rfl (lv_at hl 5 rfl) ?_
    refine lv_iload hx hb d_LA_law_733 (lv_at hl 1 rfl) ?_
    refine lv_iconst (v := 1) hx hb d_LA_law_735 (by decide) ?_
    refine lv_iadd hx hb d_LA_law_736 ?_
    refine W.eq (g2 := F0 m 737 ls [.int (nI (4 * k + 1)), .ref b, .ref h]) (by rw [show ((nI (4 * k)) + (1 : Int32)) = nI (4 * k + 1) from zj_ad (4 * k) 1]) ?_
    refine va_sld hx hb hX hbl (zj_bA hbl) hS (vp_in_nI (show 4 * k + 1 < L by omega) (by omega)) d_LA_law_737 ?_
    rw [nI_clamp (show 4 * k + 1 < 2 ^ 31 by omega)]
    refine lv_aload_n hx hb d_LA_law_738 rfl (lv_at hl 5 rfl) ?_
    refine lv_iload hx hb d_LA_law_739 (lv_at hl 1 rfl) ?_
    refine lv_iconst (v := 2) hx hb d_LA_law_741 (by decide) ?_
    refine lv_iadd hx hb d_LA_law_742 ?_
    refine W.eq (g2 := F0 m 743 ls [.int (nI (4 * k + 2)), .ref b, .int (xs (4 * k + 1)), .ref h]) (by rw [show ((nI (4 * k)) + (2 : Int32)) = nI (4 * k + 2) from zj_ad (4 * k) 2]) ?_
    refine va_sld hx hb hX hbl (zj_bA hbl) hS (vp_in_nI (show 4 * k + 2 < L by omega) (by omega)) d_LA_law_743 ?_
    rw [nI_clamp (show 4 * k + 2 < 2 ^ 31 by omega)]
    refine lv_aload_n hx hb d_LA_law_744 rfl (lv_at hl 5 rfl) ?_
    refine lv_iload hx hb d_LA_law_745 (lv_at hl 1 rfl) ?_
    refine lv_iconst (v := 3) hx hb d_LA_law_747 (by decide) ?_
    refine lv_iadd hx hb d_LA_law_748 ?_
    refine W.eq (g2 := F0 m 749 ls [.int (nI (4 * k + 3)), .ref b, .int (xs (4 * k + 2)), .int (xs (4 * k + 1)), .ref h]) (by rw [show ((nI (4 * k)) + (3 : Int32)) = nI (4 * k + 3) from zj_ad (4 * k) 3]) ?_
    refine va_sld hx hb hX hbl (zj_bA hbl) hS (vp_in_nI (show 4 * k + 3 < L by omega) (by omega)) d_LA_law_749 ?_
    rw [nI_clamp (show 4 * k + 3 < 2 ^ 31 by omega)]
    refine zm_call (wc := ymc cI cZ h bb M) (wc1 := ymc cI cZ h bb (Y_substitute_ok M s1 (xs (4 * k + 2)).toNatClampNeg (xs (4 * k + 3)).toNatClampNeg)) (wr := zxo cI cJ cP cS a (X_substitute X s1 (xs (4 * k + 1)) (xs (4 * k + 2)) (xs (4 * k + 3))) ao (vp_updL ov 0 (V_substitute X s1 (xs (4 * k + 1)) (xs (4 * k + 2)) (xs (4 * k + 3))))) (va_runV (Ts := []) (As := [.int (xs (4 * k + 1)), .int (xs (4 * k + 2)), .int (xs (4 * k + 3))]) (rest := []) ⟨hx, hb, hml, hown, fun _ h => absurd h List.not_mem_nil⟩ (N_substitute_ok l D cI cJ cZ cP cS h bb M s1 (xs (4 * k + 2)).toNatClampNeg (xs (4 * k + 3)).toNatClampNeg hs1 (fun z => hsame (hcd.2 z)) hc12 hd12 (hLI.c.pe s1 hs1).2 ht (fun j hj hz => hfound (by have := (rs_has hLI hs1 hc12 hd12).2 ⟨j, hj, hz⟩; rw [← e3] at this; exact this)) h8 _) ⟨zc_B 3 hok c_MO_substitute_w t_10 t_836 rfl rfl (by decide +kernel) ⟨Nat.le_of_ble_eq_true rfl, Nat.le_of_ble_eq_true rfl⟩, hok _ t_837 rfl _, hok _ t_838 rfl _⟩ ⟨fun a U g mk q => by obtain ⟨q0, q1, q2, qP, qK, qD⟩ := q; exact ⟨q0, q1, q2.call g mk a, qP, va_K.moved (u := U) (U := U.calling g mk a) (Vm.Alike.refl U.vm) qK, qD⟩, va_recv hK hP (ci := 8) (q0 := 49) rfl rfl, fun U hU hW => ⟨(by rw [← e1, ← e2, ← e3]), by rw [hU], hok.warm hW, by rw [hU]; exact zj_Pr hP, va_K.moved hW.alike hK, zj_Dr hD⟩⟩ rfl rfl hl.1 rfl (lv_room (Nat.le_of_ble_eq_true rfl)) d_LA_law_750 ⟨by show cells + 4 + 0 ≤ 601024; omega, by show slots + 24 + 0 ≤ 7293034; omega⟩) hS hP hD hA (fun H locs hP hD hS => ?_)
    refine lv_istore hx hb d_LA_law_753 hl (by decide) rfl (fun ls hl => ?_)
    have hl : lv_has ls 7 [(6, .int (U_substitute_ok M s1 (xs (4 * k + 2)).toNatClampNeg (xs (4 * k + 3)).toNatClampNeg)), (5, .int 0), (4, .int (nI (4 * k))), (3, .ref ao), (2, .ref h), (1, .ref (a 0)), (0, .ref b)] := hl
    refine lv_aload_n hx hb d_LA_law_755 rfl (lv_at hl 4 rfl) ?_
    refine zc_read (va_runV (Ts := []) (As := []) (rest := []) ⟨hx, hb, hml, hown, fun _ h => absurd h List.not_mem_nil⟩ (m_MO_thrown l D cI cJ cZ cP cS h bb (Y_substitute_ok M s1 (xs (4 * k + 2)).toNatClampNeg (xs (4 * k + 3)).toNatClampNeg).1 (Y_substitute_ok M s1 (xs (4 * k + 2)).toNatClampNeg (xs (4 * k + 3)).toNatClampNeg).2.1 (Y_substitute_ok M s1 (xs (4 * k + 2)).toNatClampNeg (xs (4 * k + 3)).toNatClampNeg).2.2.1 (Y_substitute_ok M s1 (xs (4 * k + 2)).toNatClampNeg (xs (4 * k + 3)).toNatClampNeg).2.2.2.1) ⟨zc_B 0 hok c_MO_thrown_w t_10 t_782 rfl rfl (by decide +kernel) ⟨Nat.le_of_ble_eq_true rfl, Nat.le_of_ble_eq_true rfl⟩, hok _ t_783 rfl _, hok _ t_784 rfl _⟩ ⟨fun a U g mk q => by obtain ⟨q0, q2, qP, qK⟩ := q; exact ⟨q0, q2.call g mk a, qP, va_K.moved (u := U) (U := U.calling g mk a) (Vm.Alike.refl U.vm) qK⟩, va_recv hK hP (ci := 8) (q0 := 49) rfl rfl, fun U hU hW => ⟨rfl, hok.warm hW, by rw [hU]; exact hP.sub [49] rfl, va_K.moved hW.alike hK⟩⟩ rfl rfl hl.1 rfl (lv_room (Nat.le_of_ble_eq_true rfl)) d_LA_law_756 ⟨by show cells + 4 + 0 ≤ 601024; omega, by show slots + 24 + 0 ≤ 7293034; omega⟩) ?_
    refine W.eq (g2 := F0 m 759 ls [.int 0]) rfl ?_
    refine lv_iload hx hb d_LA_law_759 (lv_at hl 1 rfl) ?_
    refine lv_icmp_eq (tgt := 766) hx hb d_LA_law_761 (by decide) (fun h761 => ?_) (fun h761 => absurd (rfl) h761)
    refine lv_iload hx hb d_LA_law_766 (lv_at hl 1 rfl) ?_
    refine lv_if_ne (tgt := 790) hx hb d_LA_law_768 (by decide) (fun h768 => absurd ((rfl : (0 : Int32) = 0)) h768) (fun h768 => ?_)
    refine lv_aload_n hx hb d_LA_law_771 rfl (lv_at hl 3 rfl) ?_
    refine lv_iconst (v := 0) hx hb d_LA_law_772 (by decide) ?_
    refine va_lald hx hb hK hP 48 1 rfl rfl (show vp_in (nI 0) 1 from vp_in_nI (by decide) (by decide)) d_LA_law_773 ?_
    refine W.eq (g2 := F0 m 774 ls [.long (V_substitute X s1 (xs (4 * k + 1)) (xs (4 * k + 2)) (xs (4 * k + 3)))]) rfl ?_
    refine lv_iload hx hb d_LA_law_774 (lv_at hl 0 rfl) ?_
    refine lv_if_eq (tgt := 783) hx hb d_LA_law_776 (by decide) (fun hz => ?_) (fun hz => ?_)
    · have hv0 : true = false := (rz_zb _).1 hz
      have hVb : zbL true = 0 := by rw [hv0]; rfl
      refine lv_lconst (v := 0) hx hb d_LA_law_783 (by decide) ?_
      refine W.lcmp hx hb d_LA_law_784 ?_
      refine lv_if_eq (tgt := 790) hx hb d_LA_law_785 (by decide) (fun h785 => ?_) (fun h785 => absurd (zj_lg (by rw [hV]; exact hVb)) h785)
      refine lv_goto (tgt := 1344) hx hb d_LA_law_790 (by decide) ?_
      exact W.widen (by omega) (by omega) (kk (X_substitute X s1 (xs (4 * k + 1)) (xs (4 * k + 2)) (xs (4 * k + 3))) (Y_substitute_ok M s1 (xs (4 * k + 2)).toNatClampNeg (xs (4 * k + 3)).toNatClampNeg) (vp_updL ov 0 (V_substitute X s1 (xs (4 * k + 1)) (xs (4 * k + 2)) (xs (4 * k + 3)))) H locs ls hN hP hD hS (lv_sub hl [2, 3, 4, 5, 6] rfl))
    · have hv1 : true = true := by
        cases hv9 : true
        · exact absurd ((rz_zb _).2 hv9) hz
        · rfl
      have hVb : zbL true = 1 := by rw [hv1]; rfl
      refine lv_lconst (v := 1) hx hb d_LA_law_779 (by decide) ?_
      refine lv_goto (tgt := 784) hx hb d_LA_law_780 (by decide) ?_
      refine W.lcmp hx hb d_LA_law_784 ?_
      refine lv_if_eq (tgt := 790) hx hb d_LA_law_785 (by decide) (fun h785 => ?_) (fun h785 => absurd (zj_lg (by rw [hV]; exact hVb)) h785)
      refine lv_goto (tgt := 1344) hx hb d_LA_law_790 (by decide) ?_
      exact W.widen (by omega) (by omega) (kk (X_substitute X s1 (xs (4 * k + 1)) (xs (4 * k + 2)) (xs (4 * k + 3))) (Y_substitute_ok M s1 (xs (4 * k + 2)).toNatClampNeg (xs (4 * k + 3)).toNatClampNeg) (vp_updL ov 0 (V_substitute X s1 (xs (4 * k + 1)) (xs (4 * k + 2)) (xs (4 * k + 3)))) H locs ls hN hP hD hS (lv_sub hl [2, 3, 4, 5, 6] rfl))
  · rcases hE with ⟨rfl, hE⟩ | ⟨rfl, hE, hnew, h8⟩
    · refine W.eq (g2 := F0 m 729 ls [.int 1]) (by rw [if_pos rfl]) ?_
      refine lv_istore hx hb d_LA_law_729 hl (by decide) rfl (fun ls hl => ?_)
      have hl : lv_has ls 7 [(5, .int 1), (4, .int (nI (4 * k))), (3, .ref ao), (2, .ref h), (1, .ref (a 0)), (0, .ref b)] := hl
      refine lv_aload_n hx hb d_LA_law_731 rfl (lv_at hl 3 rfl) ?_
      refine lv_aload_n hx hb d_LA_law_732 rfl (lv_at hl 5 rfl) ?_
      refine lv_iload hx hb d_LA_law_733 (lv_at hl 1 rfl) ?_
      refine lv_iconst (v := 1) hx hb d_LA_law_735 (by decide) ?_
      refine lv_iadd hx hb d_LA_law_736 ?_
      refine W.eq (g2 := F0 m 737 ls [.int (nI (4 * k + 1)), .ref b, .ref h]) (by rw [show ((nI (4 * k)) + (1 : Int32)) = nI (4 * k + 1) from zj_ad (4 * k) 1]) ?_
      refine va_sld hx hb hX hbl (zj_bA hbl) hS (vp_in_nI (show 4 * k + 1 < L by omega) (by omega)) d_LA_law_737 ?_
      rw [nI_clamp (show 4 * k + 1 < 2 ^ 31 by omega)]
      refine lv_aload_n hx hb d_LA_law_738 rfl (lv_at hl 5 rfl) ?_
      refine lv_iload hx hb d_LA_law_739 (lv_at hl 1 rfl) ?_
      refine lv_iconst (v := 2) hx hb d_LA_law_741 (by decide) ?_
      refine lv_iadd hx hb d_LA_law_742 ?_
      refine W.eq (g2 := F0 m 743 ls [.int (nI (4 * k + 2)), .ref b, .int (xs (4 * k + 1)), .ref h]) (by rw [show ((nI (4 * k)) + (2 : Int32)) = nI (4 * k + 2) from zj_ad (4 * k) 2]) ?_
      refine va_sld hx hb hX hbl (zj_bA hbl) hS (vp_in_nI (show 4 * k + 2 < L by omega) (by omega)) d_LA_law_743 ?_
      rw [nI_clamp (show 4 * k + 2 < 2 ^ 31 by omega)]
      refine lv_aload_n hx hb d_LA_law_744 rfl (lv_at hl 5 rfl) ?_
      refine lv_iload hx hb d_LA_law_745 (lv_at hl 1 rfl) ?_
      refine lv_iconst (v := 3) hx hb d_LA_law_747 (by decide) ?_
      refine lv_iadd hx hb d_LA_law_748 ?_
      refine W.eq (g2 := F0 m 749 ls [.int (nI (4 * k + 3)), .ref b, .int (xs (4 * k + 2)), .int (xs (4 * k + 1)), .ref h]) (by rw [show ((nI (4 * k)) + (3 : Int32)) = nI (4 * k + 3) from zj_ad (4 * k) 3]) ?_
      refine va_sld hx hb hX hbl (zj_bA hbl) hS (vp_in_nI (show 4 * k + 3 < L by omega) (by omega)) d_LA_law_749 ?_
      rw [nI_clamp (show 4 * k + 3 < 2 ^ 31 by omega)]
      refine zm_call (wc := ymc cI cZ h bb M) (wc1 := ymc cI cZ h bb (Y_substitute_bad M (xs (4 * k + 1)) (xs (4 * k + 2)) (xs (4 * k + 3)) 1)) (wr := zxo cI cJ cP cS a X ao ov) (va_runV (Ts := []) (As := [.int (xs (4 * k + 1)), .int (xs (4 * k + 2)), .int (xs (4 * k + 3))]) (rest := []) ⟨hx, hb, hml, hown, fun _ h => absurd h List.not_mem_nil⟩ (N_substitute_bad l D cI cJ cZ cP cS h bb M (xs (4 * k + 1)) (xs (4 * k + 2)) (xs (4 * k + 3)) 1 (ra_substitute_bad (s1 := s1) hLI hE) (by decide) _) ⟨zc_B 3 hok c_MO_substitute_w t_10 t_836 rfl rfl (by decide +kernel) ⟨Nat.le_of_ble_eq_true rfl, Nat.le_of_ble_eq_true rfl⟩, hok _ t_837 rfl _, hok _ t_838 rfl _⟩ ⟨fun a U g mk q => by obtain ⟨q0, q1, q2, qP, qK, qD⟩ := q; exact ⟨q0, q1, q2.call g mk a, qP, va_K.moved (u := U) (U := U.calling g mk a) (Vm.Alike.refl U.vm) qK, qD⟩, va_recv hK hP (ci := 8) (q0 := 49) rfl rfl, fun U hU hW => ⟨rfl, by rw [hU], hok.warm hW, by rw [hU]; exact zj_Pr hP, va_K.moved hW.alike hK, zj_Dr hD⟩⟩ rfl rfl hl.1 rfl (lv_room (Nat.le_of_ble_eq_true rfl)) d_LA_law_750 ⟨by show cells + 4 + 0 ≤ 601024; omega, by show slots + 24 + 0 ≤ 7293034; omega⟩) hS hP hD hA (fun H locs hP hD hS => ?_)
      refine lv_istore hx hb d_LA_law_753 hl (by decide) rfl (fun ls hl => ?_)
      have hl : lv_has ls 7 [(6, .int (U_substitute_bad M (xs (4 * k + 1)) (xs (4 * k + 2)) (xs (4 * k + 3)) 1)), (5, .int 1), (4, .int (nI (4 * k))), (3, .ref ao), (2, .ref h), (1, .ref (a 0)), (0, .ref b)] := hl
      refine lv_aload_n hx hb d_LA_law_755 rfl (lv_at hl 4 rfl) ?_
      refine zc_read (va_runV (Ts := []) (As := []) (rest := []) ⟨hx, hb, hml, hown, fun _ h => absurd h List.not_mem_nil⟩ (m_MO_thrown l D cI cJ cZ cP cS h bb (Y_substitute_bad M (xs (4 * k + 1)) (xs (4 * k + 2)) (xs (4 * k + 3)) 1).1 (Y_substitute_bad M (xs (4 * k + 1)) (xs (4 * k + 2)) (xs (4 * k + 3)) 1).2.1 (Y_substitute_bad M (xs (4 * k + 1)) (xs (4 * k + 2)) (xs (4 * k + 3)) 1).2.2.1 (Y_substitute_bad M (xs (4 * k + 1)) (xs (4 * k + 2)) (xs (4 * k + 3)) 1).2.2.2.1) ⟨zc_B 0 hok c_MO_thrown_w t_10 t_782 rfl rfl (by decide +kernel) ⟨Nat.le_of_ble_eq_true rfl, Nat.le_of_ble_eq_true rfl⟩, hok _ t_783 rfl _, hok _ t_784 rfl _⟩ ⟨fun a U g mk q => by obtain ⟨q0, q2, qP, qK⟩ := q; exact ⟨q0, q2.call g mk a, qP, va_K.moved (u := U) (U := U.calling g mk a) (Vm.Alike.refl U.vm) qK⟩, va_recv hK hP (ci := 8) (q0 := 49) rfl rfl, fun U hU hW => ⟨rfl, hok.warm hW, by rw [hU]; exact hP.sub [49] rfl, va_K.moved hW.alike hK⟩⟩ rfl rfl hl.1 rfl (lv_room (Nat.le_of_ble_eq_true rfl)) d_LA_law_756 ⟨by show cells + 4 + 0 ≤ 601024; omega, by show slots + 24 + 0 ≤ 7293034; omega⟩) ?_
      refine W.eq (g2 := F0 m 759 ls [.int 1]) rfl ?_
      refine lv_iload hx hb d_LA_law_759 (lv_at hl 1 rfl) ?_
      refine lv_icmp_eq (tgt := 766) hx hb d_LA_law_761 (by decide) (fun h761 => ?_) (fun h761 => absurd (rfl) h761)
      refine lv_iload hx hb d_LA_law_766 (lv_at hl 1 rfl) ?_
      refine lv_if_ne (tgt := 790) hx hb d_LA_law_768 (by decide) (fun h768 => ?_) (fun h768 => absurd h768 (by decide))
      refine lv_goto (tgt := 1344) hx hb d_LA_law_790 (by decide) ?_
      exact W.widen (by omega) (by omega) (kk X (Y_substitute_bad M (xs (4 * k + 1)) (xs (4 * k + 2)) (xs (4 * k + 3)) 1) ov H locs ls (hLI.th 1) hP hD hS (lv_sub hl [2, 3, 4, 5, 6] rfl))
    · refine W.eq (g2 := F0 m 729 ls [.int 2]) (by rw [if_neg rz_ise]) ?_
      obtain ⟨e1, e2, e3, hc12, hd12, ht, hcd⟩ := rs_args hLI hb1 hE
      have h8m : M.2.2.2.2.2.1 s1 = 8 := by
        have h9 := hLI.c.pe s1 hs1
        rw [h9.1, rz_eq, rf_nI (by omega), rz_8] at h8
        omega
      refine lv_istore hx hb d_LA_law_729 hl (by decide) rfl (fun ls hl => ?_)
      have hl : lv_has ls 7 [(5, .int 2), (4, .int (nI (4 * k))), (3, .ref ao), (2, .ref h), (1, .ref (a 0)), (0, .ref b)] := hl
      refine lv_aload_n hx hb d_LA_law_731 rfl (lv_at hl 3 rfl) ?_
      refine lv_aload_n hx hb d_LA_law_732 rfl (lv_at hl 5 rfl) ?_
      refine lv_iload hx hb d_LA_law_733 (lv_at hl 1 rfl) ?_
      refine lv_iconst (v := 1) hx hb d_LA_law_735 (by decide) ?_
      refine lv_iadd hx hb d_LA_law_736 ?_
      refine W.eq (g2 := F0 m 737 ls [.int (nI (4 * k + 1)), .ref b, .ref h]) (by rw [show ((nI (4 * k)) + (1 : Int32)) = nI (4 * k + 1) from zj_ad (4 * k) 1]) ?_
      refine va_sld hx hb hX hbl (zj_bA hbl) hS (vp_in_nI (show 4 * k + 1 < L by omega) (by omega)) d_LA_law_737 ?_
      rw [nI_clamp (show 4 * k + 1 < 2 ^ 31 by omega)]
      refine lv_aload_n hx hb d_LA_law_738 rfl (lv_at hl 5 rfl) ?_
      refine lv_iload hx hb d_LA_law_739 (lv_at hl 1 rfl) ?_
      refine lv_iconst (v := 2) hx hb d_LA_law_741 (by decide) ?_
      refine lv_iadd hx hb d_LA_law_742 ?_
      refine W.eq (g2 := F0 m 743 ls [.int (nI (4 * k + 2)), .ref b, .int (xs (4 * k + 1)), .ref h]) (by rw [show ((nI (4 * k)) + (2 : Int32)) = nI (4 * k + 2) from zj_ad (4 * k) 2]) ?_
      refine va_sld hx hb hX hbl (zj_bA hbl) hS (vp_in_nI (show 4 * k + 2 < L by omega) (by omega)) d_LA_law_743 ?_
      rw [nI_clamp (show 4 * k + 2 < 2 ^ 31 by omega)]
      refine lv_aload_n hx hb d_LA_law_744 rfl (lv_at hl 5 rfl) ?_
      refine lv_iload hx hb d_LA_law_745 (lv_at hl 1 rfl) ?_
      refine lv_iconst (v := 3) hx hb d_LA_law_747 (by decide) ?_
      refine lv_iadd hx hb d_LA_law_748 ?_
      refine W.eq (g2 := F0 m 749 ls [.int (nI (4 * k + 3)), .ref b, .int (xs (4 * k + 2)), .int (xs (4 * k + 1)), .ref h]) (by rw [show ((nI (4 * k)) + (3 : Int32)) = nI (4 * k + 3) from zj_ad (4 * k) 3]) ?_
      refine va_sld hx hb hX hbl (zj_bA hbl) hS (vp_in_nI (show 4 * k + 3 < L by omega) (by omega)) d_LA_law_749 ?_
      rw [nI_clamp (show 4 * k + 3 < 2 ^ 31 by omega)]
      refine zm_call (wc := ymc cI cZ h bb M) (wc1 := ymc cI cZ h bb (Y_substitute_full M s1 (xs (4 * k + 2)).toNatClampNeg (xs (4 * k + 3)).toNatClampNeg)) (wr := zxo cI cJ cP cS a X ao ov) (va_runV (Ts := []) (As := [.int (xs (4 * k + 1)), .int (xs (4 * k + 2)), .int (xs (4 * k + 3))]) (rest := []) ⟨hx, hb, hml, hown, fun _ h => absurd h List.not_mem_nil⟩ (N_substitute_full l D cI cJ cZ cP cS h bb M s1 (xs (4 * k + 2)).toNatClampNeg (xs (4 * k + 3)).toNatClampNeg hs1 (fun z => hnew (Or.inl (hcd.2 z))) hc12 hd12 (hLI.c.pe s1 hs1).2 ht (fun j hj hz => hnew (Or.inr (by have := (rs_has hLI hs1 hc12 hd12).2 ⟨j, hj, hz⟩; rw [← e3] at this; exact this))) h8m _) ⟨zc_B 3 hok c_MO_substitute_w t_10 t_836 rfl rfl (by decide +kernel) ⟨Nat.le_of_ble_eq_true rfl, Nat.le_of_ble_eq_true rfl⟩, hok _ t_837 rfl _, hok _ t_838 rfl _⟩ ⟨fun a U g mk q => by obtain ⟨q0, q1, q2, qP, qK, qD⟩ := q; exact ⟨q0, q1, q2.call g mk a, qP, va_K.moved (u := U) (U := U.calling g mk a) (Vm.Alike.refl U.vm) qK, qD⟩, va_recv hK hP (ci := 8) (q0 := 49) rfl rfl, fun U hU hW => ⟨(by rw [← e1, ← e2, ← e3]), by rw [hU], hok.warm hW, by rw [hU]; exact zj_Pr hP, va_K.moved hW.alike hK, zj_Dr hD⟩⟩ rfl rfl hl.1 rfl (lv_room (Nat.le_of_ble_eq_true rfl)) d_LA_law_750 ⟨by show cells + 4 + 0 ≤ 601024; omega, by show slots + 24 + 0 ≤ 7293034; omega⟩) hS hP hD hA (fun H locs hP hD hS => ?_)
      refine lv_istore hx hb d_LA_law_753 hl (by decide) rfl (fun ls hl => ?_)
      have hl : lv_has ls 7 [(6, .int (U_substitute_full M s1 (xs (4 * k + 2)).toNatClampNeg (xs (4 * k + 3)).toNatClampNeg)), (5, .int 2), (4, .int (nI (4 * k))), (3, .ref ao), (2, .ref h), (1, .ref (a 0)), (0, .ref b)] := hl
      refine lv_aload_n hx hb d_LA_law_755 rfl (lv_at hl 4 rfl) ?_
      refine zc_read (va_runV (Ts := []) (As := []) (rest := []) ⟨hx, hb, hml, hown, fun _ h => absurd h List.not_mem_nil⟩ (m_MO_thrown l D cI cJ cZ cP cS h bb (Y_substitute_full M s1 (xs (4 * k + 2)).toNatClampNeg (xs (4 * k + 3)).toNatClampNeg).1 (Y_substitute_full M s1 (xs (4 * k + 2)).toNatClampNeg (xs (4 * k + 3)).toNatClampNeg).2.1 (Y_substitute_full M s1 (xs (4 * k + 2)).toNatClampNeg (xs (4 * k + 3)).toNatClampNeg).2.2.1 (Y_substitute_full M s1 (xs (4 * k + 2)).toNatClampNeg (xs (4 * k + 3)).toNatClampNeg).2.2.2.1) ⟨zc_B 0 hok c_MO_thrown_w t_10 t_782 rfl rfl (by decide +kernel) ⟨Nat.le_of_ble_eq_true rfl, Nat.le_of_ble_eq_true rfl⟩, hok _ t_783 rfl _, hok _ t_784 rfl _⟩ ⟨fun a U g mk q => by obtain ⟨q0, q2, qP, qK⟩ := q; exact ⟨q0, q2.call g mk a, qP, va_K.moved (u := U) (U := U.calling g mk a) (Vm.Alike.refl U.vm) qK⟩, va_recv hK hP (ci := 8) (q0 := 49) rfl rfl, fun U hU hW => ⟨rfl, hok.warm hW, by rw [hU]; exact hP.sub [49] rfl, va_K.moved hW.alike hK⟩⟩ rfl rfl hl.1 rfl (lv_room (Nat.le_of_ble_eq_true rfl)) d_LA_law_756 ⟨by show cells + 4 + 0 ≤ 601024; omega, by show slots + 24 + 0 ≤ 7293034; omega⟩) ?_
      refine W.eq (g2 := F0 m 759 ls [.int 2]) rfl ?_
      refine lv_iload hx hb d_LA_law_759 (lv_at hl 1 rfl) ?_
      refine lv_icmp_eq (tgt := 766) hx hb d_LA_law_761 (by decide) (fun h761 => ?_) (fun h761 => absurd (rfl) h761)
      refine lv_iload hx hb d_LA_law_766 (lv_at hl 1 rfl) ?_
      refine lv_if_ne (tgt := 790) hx hb d_LA_law_768 (by decide) (fun h768 => ?_) (fun h768 => absurd h768 (by decide))
      refine lv_goto (tgt := 1344) hx hb d_LA_law_790 (by decide) ?_
      exact W.widen (by omega) (by omega) (kk X (Y_substitute_full M s1 (xs (4 * k + 2)).toNatClampNeg (xs (4 * k + 3)).toNatClampNeg) ov H locs ls (hLI.th 2) hP hD hS (lv_sub hl [2, 3, 4, 5, 6] rfl))
