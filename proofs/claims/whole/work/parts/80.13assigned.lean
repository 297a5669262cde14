/-! the law: assigned (rows by program) -/
set_option maxHeartbeats 4000000 in
set_option maxRecDepth 100000 in
theorem lw_assigned {p : Program} {l : Launch} {e : Env} {s : State} {m : MethodId} {args : Array Value} {below : List Frame} {meth : Method} {c : Code} {Q : State → Prop} {b L : Nat} {xs : Nat → Int32} {D : va_G} {cI cJ cZ cP cS : ClassId} {a : Nat → Nat} {ao h : Nat} {bb : Nat → Nat} (J : zJ p l s m c b L xs D cI cJ cZ cP cS) {k : Nat} (hk : 4 * k + 4 ≤ L)
    {X : XS} {M : MS} {ov : Nat → Int64} {H : Heap} {locs : List Loc} {ls : Array Slot} {cells slots : Nat} (hLI : LI X M) (hP : va_P D cls (zxo cI cJ cP cS a X ao ov ++ ymc cI cZ h bb M) H) (hD : va_D (va_A [] s.heap.size) (zxo cI cJ cP cS a X ao ov ++ ymc cI cZ h bb M)) (hS : va_S (va_A [] s.heap.size) s.heap H locs) (hl : lv_has ls 7 [(4, .int (nI (4 * k))), (3, .ref ao), (2, .ref h), (1, .ref (a 0)), (0, .ref b)])
    (hc1 : cells + 4 ≤ 601024) (hc2 : slots + 24 ≤ 7293034) (kk : zKK p l e s m args below meth c Q D cI cJ cZ cP cS a ao h bb b k cells slots) : W p l e room_1 s m args below meth c H locs cells slots Q (F0 m 1028 ls []) := by
  obtain ⟨hx, hb, hml, hown, hok, hs, hno, hK, hX, hbl, htr, hL⟩ := J
  have hA := zj_A (s := s)
  refine lv_aload_n hx hb d_LA_law_1028 rfl (lv_at hl 3 rfl) ?_
  refine lv_aload_n hx hb d_LA_law_1029 rfl (lv_at hl 4 rfl) ?_
  refine lv_iload hx hb d_LA_law_1030 (lv_at hl 0 rfl) ?_
  refine lv_iconst (v := 1) hx hb d_LA_law_1032 (by decide) ?_
  refine lv_iadd hx hb d_LA_law_1033 ?_
  refine W.eq (g2 := F0 m 1034 ls [.int (nI (4 * k + 1)), .ref b, .ref (a 0)]) (by rw [show ((nI (4 * k)) + (1 : Int32)) = nI (4 * k + 1) from zj_ad (4 * k) 1]) ?_
  refine va_sld hx hb hX hbl (zj_bA hbl) hS (vp_in_nI (show 4 * k + 1 < L by omega) (by omega)) d_LA_law_1034 ?_
  rw [nI_clamp (show 4 * k + 1 < 2 ^ 31 by omega)]
  refine lv_aload_n hx hb d_LA_law_1035 rfl (lv_at hl 1 rfl) ?_
  refine zl_call (wc := zxo cI cJ cP cS a X ao ov) (wc1 := zxo cI cJ cP cS a X ao (vp_updL ov 0 (V_assigned X (xs (4 * k + 1))))) (wr := ymc cI cZ h bb M) (zl_runS (n := 3) (Ts := []) (As := [.ref (a 0), .int (xs (4 * k + 1)), .ref ao]) (rest := []) ⟨hx, hb, hml, hown, fun _ h => absurd h List.not_mem_nil⟩ (M_LA_assigned l htr D cI cJ cZ cP cS a X (xs (4 * k + 1)) (zj_C hLI) ao ov _) hok t_626 t_0 t_624 t_625 rfl rfl (by decide +kernel) ⟨Nat.le_of_ble_eq_true rfl, Nat.le_of_ble_eq_true rfl⟩ ⟨fun a U g mk q => by obtain ⟨q0, q1, q2, q3, q4, qP, qK, qD⟩ := q; exact ⟨q0, q1, q2.call g mk a, q3.moved (Vm.Alike.refl _), q4.moved (Vm.Alike.refl _), qP, va_K.moved (u := U) (U := U.calling g mk a) (Vm.Alike.refl U.vm) qK, qD⟩, fun U hU hW => ⟨rfl, by rw [hU], hok.warm hW, by rw [hU]; exact zs_ok.kept hs (zj_nil (D := D) (cl := cls)) hS hW.alike, hno.moved hW.alike, by rw [hU]; exact zj_Pl hP, va_K.moved hW.alike hK, zj_Dl hD⟩⟩ rfl rfl hl.1 rfl (lv_room (Nat.le_of_ble_eq_true rfl)) d_LA_law_1036 ⟨by show cells + 2 ≤ 601024; omega, by show slots + 12 ≤ 7293034; omega⟩) hS hP hD hA (fun hk9 H locs hP hD hS => ?_) (fun Y H locs hE hP hD hS => ?_)
  · obtain ⟨e1, h12, ht, hV, hN⟩ := ra_assigned_ok hLI hk9
    refine lv_istore hx hb d_LA_law_1039 hl (by decide) rfl (fun ls hl => ?_)
    have hl : lv_has ls 7 [(5, .int 0), (4, .int (nI (4 * k))), (3, .ref ao), (2, .ref h), (1, .ref (a 0)), (0, .ref b)] := hl
    refine lv_aload_n hx hb d_LA_law_1041 rfl (lv_at hl 3 rfl) ?_
    refine lv_aload_n hx hb d_LA_law_1042 rfl (lv_at hl 5 rfl) ?_
    refine lv_iload hx hb d_LA_law_1043 (lv_at hl 1 rfl) ?_
    refine lv_iconst (v := 1) hx hb d_LA_law_1045 (by decide) ?_
    refine lv_iadd hx hb d_LA_law_1046 ?_
    refine W.eq (g2 := F0 m 1047 ls [.int (nI (4 * k + 1)), .ref b, .ref h]) (by rw [show ((nI (4 * k)) + (1 : Int32)) = nI (4 * k + 1) from zj_ad (4 * k) 1]) ?_
    refine va_sld hx hb hX hbl (zj_bA hbl) hS (vp_in_nI (show 4 * k + 1 < L by omega) (by omega)) d_LA_law_1047 ?_
    rw [nI_clamp (show 4 * k + 1 < 2 ^ 31 by omega)]
    refine zm_call (wc := ymc cI cZ h bb M) (wc1 := ymc cI cZ h bb (Y_assigned_ok M (xs (4 * k + 1)).toNatClampNeg)) (wr := zxo cI cJ cP cS a X ao (vp_updL ov 0 (V_assigned X (xs (4 * k + 1))))) (va_runV (Ts := []) (As := [.int (xs (4 * k + 1))]) (rest := []) ⟨hx, hb, hml, hown, fun _ h => absurd h List.not_mem_nil⟩ (N_assigned_ok l D cI cJ cZ cP cS h bb M (xs (4 * k + 1)).toNatClampNeg h12 ht _) ⟨zc_B 1 hok c_MO_assigned_w t_10 t_899 rfl rfl (by decide +kernel) ⟨Nat.le_of_ble_eq_true rfl, Nat.le_of_ble_eq_true rfl⟩, hok _ t_900 rfl _, hok _ t_901 rfl _⟩ ⟨fun a U g mk q => by obtain ⟨q0, q1, q2, qP, qK, qD⟩ := q; exact ⟨q0, q1, q2.call g mk a, qP, va_K.moved (u := U) (U := U.calling g mk a) (Vm.Alike.refl U.vm) qK, qD⟩, va_recv hK hP (ci := 8) (q0 := 49) rfl rfl, fun U hU hW => ⟨(by rw [← e1]), by rw [hU], hok.warm hW, by rw [hU]; exact zj_Pr hP, va_K.moved hW.alike hK, zj_Dr hD⟩⟩ rfl rfl hl.1 rfl (lv_room (Nat.le_of_ble_eq_true rfl)) d_LA_law_1048 ⟨by show cells + 2 + 0 ≤ 601024; omega, by show slots + 12 + 0 ≤ 7293034; omega⟩) hS hP hD hA (fun H locs hP hD hS => ?_)
    refine lv_istore hx hb d_LA_law_1051 hl (by decide) rfl (fun ls hl => ?_)
    have hl : lv_has ls 7 [(6, .int (U_assigned_ok M (xs (4 * k + 1)).toNatClampNeg)), (5, .int 0), (4, .int (nI (4 * k))), (3, .ref ao), (2, .ref h), (1, .ref (a 0)), (0, .ref b)] := hl
    refine lv_aload_n hx hb d_LA_law_1053 rfl (lv_at hl 4 rfl) ?_
    refine zc_read (va_runV (Ts := []) (As := []) (rest := []) ⟨hx, hb, hml, hown, fun _ h => absurd h List.not_mem_nil⟩ (m_MO_thrown l D cI cJ cZ cP cS h bb (Y_assigned_ok M (xs (4 * k + 1)).toNatClampNeg).1 (Y_assigned_ok M (xs (4 * k + 1)).toNatClampNeg).2.1 (Y_assigned_ok M (xs (4 * k + 1)).toNatClampNeg).2.2.1 (Y_assigned_ok M (xs (4 * k + 1)).toNatClampNeg).2.2.2.1) ⟨zc_B 0 hok c_MO_thrown_w t_10 t_782 rfl rfl (by decide +kernel) ⟨Nat.le_of_ble_eq_true rfl, Nat.le_of_ble_eq_true rfl⟩, hok _ t_783 rfl _, hok _ t_784 rfl _⟩ ⟨fun a U g mk q => by obtain ⟨q0, q2, qP, qK⟩ := q; exact ⟨q0, q2.call g mk a, qP, va_K.moved (u := U) (U := U.calling g mk a) (Vm.Alike.refl U.vm) qK⟩, va_recv hK hP (ci := 8) (q0 := 49) rfl rfl, fun U hU hW => ⟨rfl, hok.warm hW, by rw [hU]; exact hP.sub [49] rfl, va_K.moved hW.alike hK⟩⟩ rfl rfl hl.1 rfl (lv_room (Nat.le_of_ble_eq_true rfl)) d_LA_law_1054 ⟨by show cells + 2 + 0 ≤ 601024; omega, by show slots + 12 + 0 ≤ 7293034; omega⟩) ?_
    refine W.eq (g2 := F0 m 1057 ls [.int 0]) rfl ?_
    refine lv_iload hx hb d_LA_law_1057 (lv_at hl 1 rfl) ?_
    refine lv_icmp_eq (tgt := 1064) hx hb d_LA_law_1059 (by decide) (fun h1059 => ?_) (fun h1059 => absurd (rfl) h1059)
    refine lv_iload hx hb d_LA_law_1064 (lv_at hl 1 rfl) ?_
    refine lv_if_ne (tgt := 1081) hx hb d_LA_law_1066 (by decide) (fun h1066 => absurd ((rfl : (0 : Int32) = 0)) h1066) (fun h1066 => ?_)
    refine lv_aload_n hx hb d_LA_law_1069 rfl (lv_at hl 3 rfl) ?_
    refine lv_iconst (v := 0) hx hb d_LA_law_1070 (by decide) ?_
    refine va_lald hx hb hK hP 48 1 rfl rfl (show vp_in (nI 0) 1 from vp_in_nI (by decide) (by decide)) d_LA_law_1071 ?_
    refine W.eq (g2 := F0 m 1072 ls [.long (V_assigned X (xs (4 * k + 1)))]) rfl ?_
    refine lv_iload hx hb d_LA_law_1072 (lv_at hl 0 rfl) ?_
    refine lv_i2l (v := Int32.toInt64 (U_assigned_ok M (xs (4 * k + 1)).toNatClampNeg)) hx hb d_LA_law_1074 rfl ?_
    refine W.lcmp hx hb d_LA_law_1075 ?_
    refine lv_if_eq (tgt := 1081) hx hb d_LA_law_1076 (by decide) (fun h1076 => ?_) (fun h1076 => absurd (zj_lg hV) h1076)
    refine lv_goto (tgt := 1344) hx hb d_LA_law_1081 (by decide) ?_
    exact W.widen (by omega) (by omega) (kk X (Y_assigned_ok M (xs (4 * k + 1)).toNatClampNeg) (vp_updL ov 0 (V_assigned X (xs (4 * k + 1)))) H locs ls hN hP hD hS (lv_sub hl [2, 3, 4, 5, 6] rfl))
  · refine lv_istore hx hb d_LA_law_1039 hl (by decide) rfl (fun ls hl => ?_)
    have hl : lv_has ls 7 [(5, .int (if Y = zx_iae then 1 else 2)), (4, .int (nI (4 * k))), (3, .ref ao), (2, .ref h), (1, .ref (a 0)), (0, .ref b)] := hl
    refine lv_aload_n hx hb d_LA_law_1041 rfl (lv_at hl 3 rfl) ?_
    refine lv_aload_n hx hb d_LA_law_1042 rfl (lv_at hl 5 rfl) ?_
    refine lv_iload hx hb d_LA_law_1043 (lv_at hl 1 rfl) ?_
    refine lv_iconst (v := 1) hx hb d_LA_law_1045 (by decide) ?_
    refine lv_iadd hx hb d_LA_law_1046 ?_
    refine W.eq (g2 := F0 m 1047 ls [.int (nI (4 * k + 1)), .ref b, .ref h]) (by rw [show ((nI (4 * k)) + (1 : Int32)) = nI (4 * k + 1) from zj_ad (4 * k) 1]) ?_
    refine va_sld hx hb hX hbl (zj_bA hbl) hS (vp_in_nI (show 4 * k + 1 < L by omega) (by omega)) d_LA_law_1047 ?_
    rw [nI_clamp (show 4 * k + 1 < 2 ^ 31 by omega)]
    refine zm_call (wc := ymc cI cZ h bb M) (wc1 := ymc cI cZ h bb (Y_assigned_bad M (xs (4 * k + 1)) (if Y = zx_iae then 1 else 2))) (wr := zxo cI cJ cP cS a X ao ov) (va_runV (Ts := []) (As := [.int (xs (4 * k + 1))]) (rest := []) ⟨hx, hb, hml, hown, fun _ h => absurd h List.not_mem_nil⟩ (N_assigned_bad l D cI cJ cZ cP cS h bb M (xs (4 * k + 1)) (if Y = zx_iae then 1 else 2) (ra_assigned_bad hLI hE) (zj_t0 Y) _) ⟨zc_B 1 hok c_MO_assigned_w t_10 t_899 rfl rfl (by decide +kernel) ⟨Nat.le_of_ble_eq_true rfl, Nat.le_of_ble_eq_true rfl⟩, hok _ t_900 rfl _, hok _ t_901 rfl _⟩ ⟨fun a U g mk q => by obtain ⟨q0, q1, q2, qP, qK, qD⟩ := q; exact ⟨q0, q1, q2.call g mk a, qP, va_K.moved (u := U) (U := U.calling g mk a) (Vm.Alike.refl U.vm) qK, qD⟩, va_recv hK hP (ci := 8) (q0 := 49) rfl rfl, fun U hU hW => ⟨rfl, by rw [hU], hok.warm hW, by rw [hU]; exact zj_Pr hP, va_K.moved hW.alike hK, zj_Dr hD⟩⟩ rfl rfl hl.1 rfl (lv_room (Nat.le_of_ble_eq_true rfl)) d_LA_law_1048 ⟨by show cells + 2 + 0 ≤ 601024; omega, by show slots + 12 + 0 ≤ 7293034; omega⟩) hS hP hD hA (fun H locs hP hD hS => ?_)
    refine lv_istore hx hb d_LA_law_1051 hl (by decide) rfl (fun ls hl => ?_)
    have hl : lv_has ls 7 [(6, .int (U_assigned_bad M (xs (4 * k + 1)) (if Y = zx_iae then 1 else 2))), (5, .int (if Y = zx_iae then 1 else 2)), (4, .int (nI (4 * k))), (3, .ref ao), (2, .ref h), (1, .ref (a 0)), (0, .ref b)] := hl
    refine lv_aload_n hx hb d_LA_law_1053 rfl (lv_at hl 4 rfl) ?_
    refine zc_read (va_runV (Ts := []) (As := []) (rest := []) ⟨hx, hb, hml, hown, fun _ h => absurd h List.not_mem_nil⟩ (m_MO_thrown l D cI cJ cZ cP cS h bb (Y_assigned_bad M (xs (4 * k + 1)) (if Y = zx_iae then 1 else 2)).1 (Y_assigned_bad M (xs (4 * k + 1)) (if Y = zx_iae then 1 else 2)).2.1 (Y_assigned_bad M (xs (4 * k + 1)) (if Y = zx_iae then 1 else 2)).2.2.1 (Y_assigned_bad M (xs (4 * k + 1)) (if Y = zx_iae then 1 else 2)).2.2.2.1) ⟨zc_B 0 hok c_MO_thrown_w t_10 t_782 rfl rfl (by decide +kernel) ⟨Nat.le_of_ble_eq_true rfl, Nat.le_of_ble_eq_true rfl⟩, hok _ t_783 rfl _, hok _ t_784 rfl _⟩ ⟨fun a U g mk q => by obtain ⟨q0, q2, qP, qK⟩ := q; exact ⟨q0, q2.call g mk a, qP, va_K.moved (u := U) (U := U.calling g mk a) (Vm.Alike.refl U.vm) qK⟩, va_recv hK hP (ci := 8) (q0 := 49) rfl rfl, fun U hU hW => ⟨rfl, hok.warm hW, by rw [hU]; exact hP.sub [49] rfl, va_K.moved hW.alike hK⟩⟩ rfl rfl hl.1 rfl (lv_room (Nat.le_of_ble_eq_true rfl)) d_LA_law_1054 ⟨by show cells + 2 + 0 ≤ 601024; omega, by show slots + 12 + 0 ≤ 7293034; omega⟩) ?_
    refine W.eq (g2 := F0 m 1057 ls [.int (if Y = zx_iae then 1 else 2)]) rfl ?_
    refine lv_iload hx hb d_LA_law_1057 (lv_at hl 1 rfl) ?_
    refine lv_icmp_eq (tgt := 1064) hx hb d_LA_law_1059 (by decide) (fun h1059 => ?_) (fun h1059 => absurd (rfl) h1059)
    refine lv_iload hx hb d_LA_law_1064 (lv_at hl 1 rfl) ?_
    refine lv_if_ne (tgt := 1081) hx hb d_LA_law_1066 (by decide) (fun h1066 => ?_) (fun h1066 => absurd h1066 (zj_t0 Y))
    refine lv_goto (tgt := 1344) hx hb d_LA_law_1081 (by decide) ?_
    exact W.widen (by omega) (by omega) (kk X (Y_assigned_bad M (xs (4 * k + 1)) (if Y = zx_iae then 1 else 2)) ov H locs ls (hLI.th (if Y = zx_iae then 1 else 2)) hP hD hS (lv_sub hl [2, 3, 4, 5, 6] rfl))
