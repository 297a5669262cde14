/-! the law: allow (rows by program) -/
set_option maxHeartbeats 4000000 in
set_option maxRecDepth 100000 in
theorem lw_allow {p : Program} {l : Launch} {e : Env} {s : State} {m : MethodId} {args : Array Value} {below : List Frame} {meth : Method} {c : Code} {Q : State → Prop} {b L : Nat} {xs : Nat → Int32} {D : va_G} {cI cJ cZ cP cS : ClassId} {a : Nat → Nat} {ao h : Nat} {bb : Nat → Nat} (J : zJ p l s m c b L xs D cI cJ cZ cP cS) {k : Nat} (hk : 4 * k + 4 ≤ L)
    {X : XS} {M : MS} {ov : Nat → Int64} {H : Heap} {locs : List Loc} {ls : Array Slot} {cells slots : Nat} (hLI : LI X M) (hP : va_P D cls (zxo cI cJ cP cS a X ao ov ++ ymc cI cZ h bb M) H) (hD : va_D (va_A [] s.heap.size) (zxo cI cJ cP cS a X ao ov ++ ymc cI cZ h bb M)) (hS : va_S (va_A [] s.heap.size) s.heap H locs) (hl : lv_has ls 7 [(4, .int (nI (4 * k))), (3, .ref ao), (2, .ref h), (1, .ref (a 0)), (0, .ref b)])
    (hc1 : cells + 4 ≤ 601024) (hc2 : slots + 24 ≤ 7293034) (kk : zKK p l e s m args below meth c Q D cI cJ cZ cP cS a ao h bb b k cells slots) : W p l e room_1 s m args below meth c H locs cells slots Q (F0 m 471 ls []) := by
  obtain ⟨hx, hb, hml, hown, hok, hs, hno, hK, hX, hbl, htr, hL⟩ := J
  have hA := zj_A (s := s)
  obtain ⟨p1, hp1, hb1⟩ := zj_q (xs (4 * k + 1))
  refine lv_aload_n hx hb d_LA_law_471 rfl (lv_at hl 3 rfl) ?_
  refine lv_aload_n hx hb d_LA_law_472 rfl (lv_at hl 4 rfl) ?_
  refine lv_iload hx hb d_LA_law_473 (lv_at hl 0 rfl) ?_
  refine lv_iconst (v := 1) hx hb d_LA_law_475 (by decide) ?_
  refine lv_iadd hx hb d_LA_law_476 ?_
  refine W.eq (g2 := F0 m 477 ls [.int (nI (4 * k + 1)), .ref b, .ref (a 0)]) (by rw [show ((nI (4 * k)) + (1 : Int32)) = nI (4 * k + 1) from zj_ad (4 * k) 1]) ?_
  refine va_sld hx hb hX hbl (zj_bA hbl) hS (vp_in_nI (show 4 * k + 1 < L by omega) (by omega)) d_LA_law_477 ?_
  rw [nI_clamp (show 4 * k + 1 < 2 ^ 31 by omega)]
  refine lv_aload_n hx hb d_LA_law_478 rfl (lv_at hl 4 rfl) ?_
  refine lv_iload hx hb d_LA_law_479 (lv_at hl 0 rfl) ?_
  refine lv_iconst (v := 2) hx hb d_LA_law_481 (by decide) ?_
  refine lv_iadd hx hb d_LA_law_482 ?_
  refine W.eq (g2 := F0 m 483 ls [.int (nI (4 * k + 2)), .ref b, .int (xs (4 * k + 1)), .ref (a 0)]) (by rw [show ((nI (4 * k)) + (2 : Int32)) = nI (4 * k + 2) from zj_ad (4 * k) 2]) ?_
  refine va_sld hx hb hX hbl (zj_bA hbl) hS (vp_in_nI (show 4 * k + 2 < L by omega) (by omega)) d_LA_law_483 ?_
  rw [nI_clamp (show 4 * k + 2 < 2 ^ 31 by omega)]
  refine lv_aload_n hx hb d_LA_law_484 rfl (lv_at hl 4 rfl) ?_
  refine lv_iload hx hb d_LA_law_485 (lv_at hl 0 rfl) ?_
  refine lv_iconst (v := 3) hx hb d_LA_law_487 (by decide) ?_
  refine lv_iadd hx hb d_LA_law_488 ?_
  refine W.eq (g2 := F0 m 489 ls [.int (nI (4 * k + 3)), .ref b, .int (xs (4 * k + 2)), .int (xs (4 * k + 1)), .ref (a 0)]) (by rw [show ((nI (4 * k)) + (3 : Int32)) = nI (4 * k + 3) from zj_ad (4 * k) 3]) ?_
  refine va_sld hx hb hX hbl (zj_bA hbl) hS (vp_in_nI (show 4 * k + 3 < L by omega) (by omega)) d_LA_law_489 ?_
  rw [nI_clamp (show 4 * k + 3 < 2 ^ 31 by omega)]
  refine lv_aload_n hx hb d_LA_law_490 rfl (lv_at hl 1 rfl) ?_
  refine zl_call (wc := zxo cI cJ cP cS a X ao ov) (wc1 := zxo cI cJ cP cS a (X_allow X p1 (xs (4 * k + 1)) (xs (4 * k + 2)) (xs (4 * k + 3))) ao (vp_updL ov 0 (V_allow X p1 (xs (4 * k + 1)) (xs (4 * k + 2)) (xs (4 * k + 3))))) (wr := ymc cI cZ h bb M) (zl_runS (n := 5) (Ts := []) (As := [.ref (a 0), .int (xs (4 * k + 1)), .int (xs (4 * k + 2)), .int (xs (4 * k + 3)), .ref ao]) (rest := []) ⟨hx, hb, hml, hown, fun _ h => absurd h List.not_mem_nil⟩ (M_LA_allow l htr D cI cJ cZ cP cS a X p1 (xs (4 * k + 1)) (xs (4 * k + 2)) (xs (4 * k + 3)) hp1 hb1 (zj_r5 hLI hp1) (zj_C hLI) ao ov _) hok t_414 t_0 t_412 t_413 rfl rfl (by decide +kernel) ⟨Nat.le_of_ble_eq_true rfl, Nat.le_of_ble_eq_true rfl⟩ ⟨fun a U g mk q => by obtain ⟨q0, q1, q2, q3, q4, qP, qK, qD⟩ := q; exact ⟨q0, q1, q2.call g mk a, q3.moved (Vm.Alike.refl _), q4.moved (Vm.Alike.refl _), qP, va_K.moved (u := U) (U := U.calling g mk a) (Vm.Alike.refl U.vm) qK, qD⟩, fun U hU hW => ⟨rfl, by rw [hU], hok.warm hW, by rw [hU]; exact zs_ok.kept hs (zj_nil (D := D) (cl := cls)) hS hW.alike, hno.moved hW.alike, by rw [hU]; exact zj_Pl hP, va_K.moved hW.alike hK, zj_Dl hD⟩⟩ rfl rfl hl.1 rfl (lv_room (Nat.le_of_ble_eq_true rfl)) d_LA_law_491 ⟨by show cells + 3 ≤ 601024; omega, by show slots + 18 ≤ 7293034; omega⟩) hS hP hD hA (fun hk9 H locs hP hD hS => ?_) (fun Y H locs hE hP hD hS => ?_)
  · obtain ⟨e1, e2, e3, h6, ht, hV, hN⟩ := ra_allow_ok hLI hp1 hb1 hk9
    refine lv_istore hx hb d_LA_law_494 hl (by decide) rfl (fun ls hl => ?_)
    have hl : lv_has ls 7 [(5, .int 0), (4, .int (nI (4 * k))), (3, .ref ao), (2, .ref h), (1, .ref (a 0)), (0, .ref b)] := hl
    refine lv_aload_n hx hb d_LA_law_496 rfl (lv_at hl 3 rfl) ?_
    refine lv_aload_n hx hb d_LA_law_497 rfl (lv_at hl 5 rfl) ?_
    refine lv_iload hx hb d_LA_law_498 (lv_at hl 1 rfl) ?_
    refine lv_iconst (v := 1) hx hb d_LA_law_500 (by decide) ?_
    refine lv_iadd hx hb d_LA_law_501 ?_
    refine W.eq (g2 := F0 m 502 ls [.int (nI (4 * k + 1)), .ref b, .ref h]) (by rw [show ((nI (4 * k)) + (1 : Int32)) = nI (4 * k + 1) from zj_ad (4 * k) 1]) ?_
    refine va_sld hx hb hX hbl (zj_bA hbl) hS (vp_in_nI (show 4 * k + 1 < L by omega) (by omega)) d_LA_law_502 ?_
    rw [nI_clamp (show 4 * k + 1 < 2 ^ 31 by omega)]
    refine lv_aload_n hx hb d_LA_law_503 rfl (lv_at hl 5 rfl) ?_
    refine lv_iload hx hb d_LA_law_504 (lv_at hl 1 rfl) ?_
    refine lv_iconst (v := 2) hx hb d_LA_law_506 (by decide) ?_
    refine lv_iadd hx hb d_LA_law_507 ?_
    refine W.eq (g2 := F0 m 508 ls [.int (nI (4 * k + 2)), .ref b, .int (xs (4 * k + 1)), .ref h]) (by rw [show ((nI (4 * k)) + (2 : Int32)) = nI (4 * k + 2) from zj_ad (4 * k) 2]) ?_
    refine va_sld hx hb hX hbl (zj_bA hbl) hS (vp_in_nI (show 4 * k + 2 < L by omega) (by omega)) d_LA_law_508 ?_
    rw [nI_clamp (show 4 * k + 2 < 2 ^ 31 by omega)]
    refine lv_aload_n hx hb d_LA_law_509 rfl (lv_at hl 5 rfl) ?_
    refine lv_iload hx hb d_LA_law_510 (lv_at hl 1 rfl) ?_
    refine lv_iconst (v := 3) hx hb d_LA_law_512 (by decide) ?_
    refine lv_iadd hx hb d_LA_law_513 ?_
    refine W.eq (g2 := F0 m 514 ls [.int (nI (4 * k + 3)), .ref b, .int (xs (4 * k + 2)), .int (xs (4 * k + 1)), .ref h]) (by rw [show ((nI (4 * k)) + (3 : Int32)) = nI (4 * k + 3) from zj_ad (4 * k) 3]) ?_
    refine va_sld hx hb hX hbl (zj_bA hbl) hS (vp_in_nI (show 4 * k + 3 < L by omega) (by omega)) d_LA_law_514 ?_
    rw [nI_clamp (show 4 * k + 3 < 2 ^ 31 by omega)]
    refine zm_call (wc := ymc cI cZ h bb M) (wc1 := ymc cI cZ h bb (Y_allow_ok M p1 (xs (4 * k + 2)).toNatClampNeg (xs (4 * k + 3)).toNatClampNeg)) (wr := zxo cI cJ cP cS a (X_allow X p1 (xs (4 * k + 1)) (xs (4 * k + 2)) (xs (4 * k + 3))) ao (vp_updL ov 0 (V_allow X p1 (xs (4 * k + 1)) (xs (4 * k + 2)) (xs (4 * k + 3))))) (va_runV (Ts := []) (As := [.int (xs (4 * k + 1)), .int (xs (4 * k + 2)), .int (xs (4 * k + 3))]) (rest := []) ⟨hx, hb, hml, hown, fun _ h => absurd h List.not_mem_nil⟩ (N_allow_ok l D cI cJ cZ cP cS h bb M p1 (xs (4 * k + 2)).toNatClampNeg (xs (4 * k + 3)).toNatClampNeg hp1 h6 ht _) ⟨zc_B 3 hok c_MO_allow_w t_10 t_817 rfl rfl (by decide +kernel) ⟨Nat.le_of_ble_eq_true rfl, Nat.le_of_ble_eq_true rfl⟩, hok _ t_818 rfl _, hok _ t_819 rfl _⟩ ⟨fun a U g mk q => by obtain ⟨q0, q1, q2, qP, qK, qD⟩ := q; exact ⟨q0, q1, q2.call g mk a, qP, va_K.moved (u := U) (U := U.calling g mk a) (Vm.Alike.refl U.vm) qK, qD⟩, va_recv hK hP (ci := 8) (q0 := 49) rfl rfl, fun U hU hW => ⟨(by rw [← e1, ← e2, ← e3]), by rw [hU], hok.warm hW, by rw [hU]; exact zj_Pr hP, va_K.moved hW.alike hK, zj_Dr hD⟩⟩ rfl rfl hl.1 rfl (lv_room (Nat.le_of_ble_eq_true rfl)) d_LA_law_515 ⟨by show cells + 3 + 0 ≤ 601024; omega, by show slots + 18 + 0 ≤ 7293034; omega⟩) hS hP hD hA (fun H locs hP hD hS => ?_)
    refine lv_istore hx hb d_LA_law_518 hl (by decide) rfl (fun ls hl => ?_)
    have hl : lv_has ls 7 [(6, .int (U_allow_ok M p1 (xs (4 * k + 2)).toNatClampNeg (xs (4 * k + 3)).toNatClampNeg)), (5, .int 0), (4, .int (nI (4 * k))), (3, .ref ao), (2, .ref h), (1, .ref (a 0)), (0, .ref b)] := hl
    refine lv_aload_n hx hb d_LA_law_520 rfl (lv_at hl 4 rfl) ?_
    refine zc_read (va_runV (Ts := []) (As := []) (rest := []) ⟨hx, hb, hml, hown, fun _ h => absurd h List.not_mem_nil⟩ (m_MO_thrown l D cI cJ cZ cP cS h bb (Y_allow_ok M p1 (xs (4 * k + 2)).toNatClampNeg (xs (4 * k + 3)).toNatClampNeg).1 (Y_allow_ok M p1 (xs (4 * k + 2)).toNatClampNeg (xs (4 * k + 3)).toNatClampNeg).2.1 (Y_allow_ok M p1 (xs (4 * k + 2)).toNatClampNeg (xs (4 * k + 3)).toNatClampNeg).2.2.1 (Y_allow_ok M p1 (xs (4 * k + 2)).toNatClampNeg (xs (4 * k + 3)).toNatClampNeg).2.2.2.1) ⟨zc_B 0 hok c_MO_thrown_w t_10 t_782 rfl rfl (by decide +kernel) ⟨Nat.le_of_ble_eq_true rfl, Nat.le_of_ble_eq_true rfl⟩, hok _ t_783 rfl _, hok _ t_784 rfl _⟩ ⟨fun a U g mk q => by obtain ⟨q0, q2, qP, qK⟩ := q; exact ⟨q0, q2.call g mk a, qP, va_K.moved (u := U) (U := U.calling g mk a) (Vm.Alike.refl U.vm) qK⟩, va_recv hK hP (ci := 8) (q0 := 49) rfl rfl, fun U hU hW => ⟨rfl, hok.warm hW, by rw [hU]; exact hP.sub [49] rfl, va_K.moved hW.alike hK⟩⟩ rfl rfl hl.1 rfl (lv_room (Nat.le_of_ble_eq_true rfl)) d_LA_law_521 ⟨by show cells + 3 + 0 ≤ 601024; omega, by show slots + 18 + 0 ≤ 7293034; omega⟩) ?_
    refine W.eq (g2 := F0 m 524 ls [.int 0]) rfl ?_
    refine lv_iload hx hb d_LA_law_524 (lv_at hl 1 rfl) ?_
    refine lv_icmp_eq (tgt := 531) hx hb d_LA_law_526 (by decide) (fun h526 => ?_) (fun h526 => absurd (rfl) h526)
    refine lv_iload hx hb d_LA_law_531 (lv_at hl 1 rfl) ?_
    refine lv_if_ne (tgt := 555) hx hb d_LA_law_533 (by decide) (fun h533 => absurd ((rfl : (0 : Int32) = 0)) h533) (fun h533 => ?_)
    refine lv_aload_n hx hb d_LA_law_536 rfl (lv_at hl 3 rfl) ?_
    refine lv_iconst (v := 0) hx hb d_LA_law_537 (by decide) ?_
    refine va_lald hx hb hK hP 48 1 rfl rfl (show vp_in (nI 0) 1 from vp_in_nI (by decide) (by decide)) d_LA_law_538 ?_
    refine W.eq (g2 := F0 m 539 ls [.long (V_allow X p1 (xs (4 * k + 1)) (xs (4 * k + 2)) (xs (4 * k + 3)))]) rfl ?_
    refine lv_iload hx hb d_LA_law_539 (lv_at hl 0 rfl) ?_
    refine lv_if_eq (tgt := 548) hx hb d_LA_law_541 (by decide) (fun hz => ?_) (fun hz => ?_)
    · have hv0 : (! zh (M.2.2.2.2.2.2.2 7 (6 * p1 + (xs (4 * k + 2)).toNatClampNeg)) (nI (xs (4 * k + 3)).toNatClampNeg)) = false := (rz_zb _).1 hz
      have hVb : zbL (! zh (M.2.2.2.2.2.2.2 7 (6 * p1 + (xs (4 * k + 2)).toNatClampNeg)) (nI (xs (4 * k + 3)).toNatClampNeg)) = 0 := by rw [hv0]; rfl
      refine lv_lconst (v := 0) hx hb d_LA_law_548 (by decide) ?_
      refine W.lcmp hx hb d_LA_law_549 ?_
      refine lv_if_eq (tgt := 555) hx hb d_LA_law_550 (by decide) (fun h550 => ?_) (fun h550 => absurd (zj_lg (by rw [hV]; exact hVb)) h550)
      refine lv_goto (tgt := 1344) hx hb d_LA_law_555 (by decide) ?_
      exact W.widen (by omega) (by omega) (kk (X_allow X p1 (xs (4 * k + 1)) (xs (4 * k + 2)) (xs (4 * k + 3))) (Y_allow_ok M p1 (xs (4 * k + 2)).toNatClampNeg (xs (4 * k + 3)).toNatClampNeg) (vp_updL ov 0 (V_allow X p1 (xs (4 * k + 1)) (xs (4 * k + 2)) (xs (4 * k + 3)))) H locs ls hN hP hD hS (lv_sub hl [2, 3, 4, 5, 6] rfl))
    · have hv1 : (! zh (M.2.2.2.2.2.2.2 7 (6 * p1 + (xs (4 * k + 2)).toNatClampNeg)) (nI (xs (4 * k + 3)).toNatClampNeg)) = true := by
        cases hv9 : (! zh (M.2.2.2.2.2.2.2 7 (6 * p1 + (xs (4 * k + 2)).toNatClampNeg)) (nI (xs (4 * k + 3)).toNatClampNeg))
        · exact absurd ((rz_zb _).2 hv9) hz
        · rfl
      have hVb : zbL (! zh (M.2.2.2.2.2.2.2 7 (6 * p1 + (xs (4 * k + 2)).toNatClampNeg)) (nI (xs (4 * k + 3)).toNatClampNeg)) = 1 := by rw [hv1]; rfl
      refine lv_lconst (v := 1) hx hb d_LA_law_544 (by decide) ?_
      refine lv_goto (tgt := 549) hx hb d_LA_law_545 (by decide) ?_
      refine W.lcmp hx hb d_LA_law_549 ?_
      refine lv_if_eq (tgt := 555) hx hb d_LA_law_550 (by decide) (fun h550 => ?_) (fun h550 => absurd (zj_lg (by rw [hV]; exact hVb)) h550)
      refine lv_goto (tgt := 1344) hx hb d_LA_law_555 (by decide) ?_
      exact W.widen (by omega) (by omega) (kk (X_allow X p1 (xs (4 * k + 1)) (xs (4 * k + 2)) (xs (4 * k + 3))) (Y_allow_ok M p1 (xs (4 * k + 2)).toNatClampNeg (xs (4 * k + 3)).toNatClampNeg) (vp_updL ov 0 (V_allow X p1 (xs (4 * k + 1)) (xs (4 * k + 2)) (xs (4 * k + 3)))) H locs ls hN hP hD hS (lv_sub hl [2, 3, 4, 5, 6] rfl))
  · refine lv_istore hx hb d_LA_law_494 hl (by decide) rfl (fun ls hl => ?_)
    have hl : lv_has ls 7 [(5, .int (if Y = zx_iae then 1 else 2)), (4, .int (nI (4 * k))), (3, .ref ao), (2, .ref h), (1, .ref (a 0)), (0, .ref b)] := hl
    refine lv_aload_n hx hb d_LA_law_496 rfl (lv_at hl 3 rfl) ?_
    refine lv_aload_n hx hb d_LA_law_497 rfl (lv_at hl 5 rfl) ?_
    refine lv_iload hx hb d_LA_law_498 (lv_at hl 1 rfl) ?_
    refine lv_iconst (v := 1) hx hb d_LA_law_500 (by decide) ?_
    refine lv_iadd hx hb d_LA_law_501 ?_
    refine W.eq (g2 := F0 m 502 ls [.int (nI (4 * k + 1)), .ref b, .ref h]) (by rw [show ((nI (4 * k)) + (1 : Int32)) = nI (4 * k + 1) from zj_ad (4 * k) 1]) ?_
    refine va_sld hx hb hX hbl (zj_bA hbl) hS (vp_in_nI (show 4 * k + 1 < L by omega) (by omega)) d_LA_law_502 ?_
    rw [nI_clamp (show 4 * k + 1 < 2 ^ 31 by omega)]
    refine lv_aload_n hx hb d_LA_law_503 rfl (lv_at hl 5 rfl) ?_
    refine lv_iload hx hb d_LA_law_504 (lv_at hl 1 rfl) ?_
    refine lv_iconst (v := 2) hx hb d_LA_law_506 (by decide) ?_
    refine lv_iadd hx hb d_LA_law_507 ?_
    refine W.eq (g2 := F0 m 508 ls [.int (nI (4 * k + 2)), .ref b, .int (xs (4 * k + 1)), .ref h]) (by rw [show ((nI (4 * k)) + (2 : Int32)) = nI (4 * k + 2) from zj_ad (4 * k) 2]) ?_
    refine va_sld hx hb hX hbl (zj_bA hbl) hS (vp_in_nI (show 4 * k + 2 < L by omega) (by omega)) d_LA_law_508 ?_
    rw [nI_clamp (show 4 * k + 2 < 2 ^ 31 by omega)]
    refine lv_aload_n hx hb d_LA_law_509 rfl (lv_at hl 5 rfl) ?_
    refine lv_iload hx hb d_LA_law_510 (lv_at hl 1 rfl) ?_
    refine lv_iconst (v := 3) hx hb d_LA_law_512 (by decide) ?_
    refine lv_iadd hx hb d_LA_law_513 ?_
    refine W.eq (g2 := F0 m 514 ls [.int (nI (4 * k + 3)), .ref b, .int (xs (4 * k + 2)), .int (xs (4 * k + 1)), .ref h]) (by rw [show ((nI (4 * k)) + (3 : Int32)) = nI (4 * k + 3) from zj_ad (4 * k) 3]) ?_
    refine va_sld hx hb hX hbl (zj_bA hbl) hS (vp_in_nI (show 4 * k + 3 < L by omega) (by omega)) d_LA_law_514 ?_
    rw [nI_clamp (show 4 * k + 3 < 2 ^ 31 by omega)]
    refine zm_call (wc := ymc cI cZ h bb M) (wc1 := ymc cI cZ h bb (Y_allow_bad M (xs (4 * k + 1)) (xs (4 * k + 2)) (xs (4 * k + 3)) (if Y = zx_iae then 1 else 2))) (wr := zxo cI cJ cP cS a X ao ov) (va_runV (Ts := []) (As := [.int (xs (4 * k + 1)), .int (xs (4 * k + 2)), .int (xs (4 * k + 3))]) (rest := []) ⟨hx, hb, hml, hown, fun _ h => absurd h List.not_mem_nil⟩ (N_allow_bad l D cI cJ cZ cP cS h bb M (xs (4 * k + 1)) (xs (4 * k + 2)) (xs (4 * k + 3)) (if Y = zx_iae then 1 else 2) (ra_allow_bad hLI hp1 hb1 hE) (zj_t0 Y) _) ⟨zc_B 3 hok c_MO_allow_w t_10 t_817 rfl rfl (by decide +kernel) ⟨Nat.le_of_ble_eq_true rfl, Nat.le_of_ble_eq_true rfl⟩, hok _ t_818 rfl _, hok _ t_819 rfl _⟩ ⟨fun a U g mk q => by obtain ⟨q0, q1, q2, qP, qK, qD⟩ := q; exact ⟨q0, q1, q2.call g mk a, qP, va_K.moved (u := U) (U := U.calling g mk a) (Vm.Alike.refl U.vm) qK, qD⟩, va_recv hK hP (ci := 8) (q0 := 49) rfl rfl, fun U hU hW => ⟨rfl, by rw [hU], hok.warm hW, by rw [hU]; exact zj_Pr hP, va_K.moved hW.alike hK, zj_Dr hD⟩⟩ rfl rfl hl.1 rfl (lv_room (Nat.le_of_ble_eq_true rfl)) d_LA_law_515 ⟨by show cells + 3 + 0 ≤ 601024; omega, by show slots + 18 + 0 ≤ 7293034; omega⟩) hS hP hD hA (fun H locs hP hD hS => ?_)
    refine lv_istore hx hb d_LA_law_518 hl (by decide) rfl (fun ls hl => ?_)
    have hl : lv_has ls 7 [(6, .int (U_allow_bad M (xs (4 * k + 1)) (xs (4 * k + 2)) (xs (4 * k + 3)) (if Y = zx_iae then 1 else 2))), (5, .int (if Y = zx_iae then 1 else 2)), (4, .int (nI (4 * k))), (3, .ref ao), (2, .ref h), (1, .ref (a 0)), (0, .ref b)] := hl
    refine lv_aload_n hx hb d_LA_law_520 rfl (lv_at hl 4 rfl) ?_
    refine zc_read (va_runV (Ts := []) (As := []) (rest := []) ⟨hx, hb, hml, hown, fun _ h => absurd h List.not_mem_nil⟩ (m_MO_thrown l D cI cJ cZ cP cS h bb (Y_allow_bad M (xs (4 * k + 1)) (xs (4 * k + 2)) (xs (4 * k + 3)) (if Y = zx_iae then 1 else 2)).1 (Y_allow_bad M (xs (4 * k + 1)) (xs (4 * k + 2)) (xs (4 * k + 3)) (if Y = zx_iae then 1 else 2)).2.1 (Y_allow_bad M (xs (4 * k + 1)) (xs (4 * k + 2)) (xs (4 * k + 3)) (if Y = zx_iae then 1 else 2)).2.2.1 (Y_allow_bad M (xs (4 * k + 1)) (xs (4 * k + 2)) (xs (4 * k + 3)) (if Y = zx_iae then 1 else 2)).2.2.2.1) ⟨zc_B 0 hok c_MO_thrown_w t_10 t_782 rfl rfl (by decide +kernel) ⟨Nat.le_of_ble_eq_true rfl, Nat.le_of_ble_eq_true rfl⟩, hok _ t_783 rfl _, hok _ t_784 rfl _⟩ ⟨fun a U g mk q => by obtain ⟨q0, q2, qP, qK⟩ := q; exact ⟨q0, q2.call g mk a, qP, va_K.moved (u := U) (U := U.calling g mk a) (Vm.Alike.refl U.vm) qK⟩, va_recv hK hP (ci := 8) (q0 := 49) rfl rfl, fun U hU hW => ⟨rfl, hok.warm hW, by rw [hU]; exact hP.sub [49] rfl, va_K.moved hW.alike hK⟩⟩ rfl rfl hl.1 rfl (lv_room (Nat.le_of_ble_eq_true rfl)) d_LA_law_521 ⟨by show cells + 3 + 0 ≤ 601024; omega, by show slots + 18 + 0 ≤ 7293034; omega⟩) ?_
    refine W.eq (g2 := F0 m 524 ls [.int (if Y = zx_iae then 1 else 2)]) rfl ?_
    refine lv_iload hx hb d_LA_law_524 (lv_at hl 1 rfl) ?_
    refine lv_icmp_eq (tgt := 531) hx hb d_LA_law_526 (by decide) (fun h526 => ?_) (fun h526 => absurd (rfl) h526)
    refine lv_iload hx hb d_LA_law_531 (lv_at hl 1 rfl) ?_
    refine lv_if_ne (tgt := 555) hx hb d_LA_law_533 (by decide) (fun h533 => ?_) (fun h533 => absurd h533 (zj_t0 Y))
    refine lv_goto (tgt := 1344) hx hb d_LA_law_555 (by decide) ?_
    exact W.widen (by omega) (by omega) (kk X (Y_allow_bad M (xs (4 * k + 1)) (xs (4 * k + 2)) (xs (4 * k + 3)) (if Y = zx_iae then 1 else 2)) ov H locs ls (hLI.th (if Y = zx_iae then 1 else 2)) hP hD hS (lv_sub hl [2, 3, 4, 5, 6] rfl))
