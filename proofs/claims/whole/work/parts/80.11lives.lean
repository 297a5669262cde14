/-! the law: lives (rows by program) -/
set_option maxHeartbeats 4000000 in
set_option maxRecDepth 100000 in
theorem lw_lives {p : Program} {l : Launch} {e : Env} {s : State} {m : MethodId} {args : Array Value} {below : List Frame} {meth : Method} {c : Code} {Q : State → Prop} {b L : Nat} {xs : Nat → Int32} {D : va_G} {cI cJ cZ cP cS : ClassId} {a : Nat → Nat} {ao h : Nat} {bb : Nat → Nat} (J : zJ p l s m c b L xs D cI cJ cZ cP cS) {k : Nat} (hk : 4 * k + 4 ≤ L)
    {X : XS} {M : MS} {ov : Nat → Int64} {H : Heap} {locs : List Loc} {ls : Array Slot} {cells slots : Nat} (hLI : LI X M) (hP : va_P D cls (zxo cI cJ cP cS a X ao ov ++ ymc cI cZ h bb M) H) (hD : va_D (va_A [] s.heap.size) (zxo cI cJ cP cS a X ao ov ++ ymc cI cZ h bb M)) (hS : va_S (va_A [] s.heap.size) s.heap H locs) (hl : lv_has ls 7 [(4, .int (nI (4 * k))), (3, .ref ao), (2, .ref h), (1, .ref (a 0)), (0, .ref b)])
    (hc1 : cells + 4 ≤ 601024) (hc2 : slots + 24 ≤ 7293034) (kk : zKK p l e s m args below meth c Q D cI cJ cZ cP cS a ao h bb b k cells slots) : W p l e room_1 s m args below meth c H locs cells slots Q (F0 m 873 ls []) := by
  obtain ⟨hx, hb, hml, hown, hok, hs, hno, hK, hX, hbl, htr, hL⟩ := J
  have hA := zj_A (s := s)
  obtain ⟨s1, hs1, hb1⟩ := zj_s (xs (4 * k + 1))
  refine lv_aload_n hx hb d_LA_law_873 rfl (lv_at hl 3 rfl) ?_
  refine lv_aload_n hx hb d_LA_law_874 rfl (lv_at hl 4 rfl) ?_
  refine lv_iload hx hb d_LA_law_875 (lv_at hl 0 rfl) ?_
  refine lv_iconst (v := 1) hx hb d_LA_law_877 (by decide) ?_
  refine lv_iadd hx hb d_LA_law_878 ?_
  refine W.eq (g2 := F0 m 879 ls [.int (nI (4 * k + 1)), .ref b, .ref (a 0)]) (by rw [show ((nI (4 * k)) + (1 : Int32)) = nI (4 * k + 1) from zj_ad (4 * k) 1]) ?_
  refine va_sld hx hb hX hbl (zj_bA hbl) hS (vp_in_nI (show 4 * k + 1 < L by omega) (by omega)) d_LA_law_879 ?_
  rw [nI_clamp (show 4 * k + 1 < 2 ^ 31 by omega)]
  refine lv_aload_n hx hb d_LA_law_880 rfl (lv_at hl 4 rfl) ?_
  refine lv_iload hx hb d_LA_law_881 (lv_at hl 0 rfl) ?_
  refine lv_iconst (v := 2) hx hb d_LA_law_883 (by decide) ?_
  refine lv_iadd hx hb d_LA_law_884 ?_
  refine W.eq (g2 := F0 m 885 ls [.int (nI (4 * k + 2)), .ref b, .int (xs (4 * k + 1)), .ref (a 0)]) (by rw [show ((nI (4 * k)) + (2 : Int32)) = nI (4 * k + 2) from zj_ad (4 * k) 2]) ?_
  refine va_sld hx hb hX hbl (zj_bA hbl) hS (vp_in_nI (show 4 * k + 2 < L by omega) (by omega)) d_LA_law_885 ?_
  rw [nI_clamp (show 4 * k + 2 < 2 ^ 31 by omega)]
  refine lv_aload_n hx hb d_LA_law_886 rfl (lv_at hl 4 rfl) ?_
  refine lv_iload hx hb d_LA_law_887 (lv_at hl 0 rfl) ?_
  refine lv_iconst (v := 3) hx hb d_LA_law_889 (by decide) ?_
  refine lv_iadd hx hb d_LA_law_890 ?_
  refine W.eq (g2 := F0 m 891 ls [.int (nI (4 * k + 3)), .ref b, .int (xs (4 * k + 2)), .int (xs (4 * k + 1)), .ref (a 0)]) (by rw [show ((nI (4 * k)) + (3 : Int32)) = nI (4 * k + 3) from zj_ad (4 * k) 3]) ?_
  refine va_sld hx hb hX hbl (zj_bA hbl) hS (vp_in_nI (show 4 * k + 3 < L by omega) (by omega)) d_LA_law_891 ?_
  rw [nI_clamp (show 4 * k + 3 < 2 ^ 31 by omega)]
  refine lv_aload_n hx hb d_LA_law_892 rfl (lv_at hl 1 rfl) ?_
  refine zl_call (wc := zxo cI cJ cP cS a X ao ov) (wc1 := zxo cI cJ cP cS a X ao (vp_updL ov 0 (V_lives X s1 (xs (4 * k + 1)) (xs (4 * k + 2)) (xs (4 * k + 3))))) (wr := ymc cI cZ h bb M) (zl_runS (n := 5) (Ts := []) (As := [.ref (a 0), .int (xs (4 * k + 1)), .int (xs (4 * k + 2)), .int (xs (4 * k + 3)), .ref ao]) (rest := []) ⟨hx, hb, hml, hown, fun _ h => absurd h List.not_mem_nil⟩ (M_LA_lives l htr D cI cJ cZ cP cS a X s1 (xs (4 * k + 1)) (xs (4 * k + 2)) (xs (4 * k + 3)) hs1 hb1 (zj_C hLI) ao ov _) hok t_482 t_0 t_480 t_481 rfl rfl (by decide +kernel) ⟨Nat.le_of_ble_eq_true rfl, Nat.le_of_ble_eq_true rfl⟩ ⟨fun a U g mk q => by obtain ⟨q0, q1, q2, q3, q4, qP, qK, qD⟩ := q; exact ⟨q0, q1, q2.call g mk a, q3.moved (Vm.Alike.refl _), q4.moved (Vm.Alike.refl _), qP, va_K.moved (u := U) (U := U.calling g mk a) (Vm.Alike.refl U.vm) qK, qD⟩, fun U hU hW => ⟨rfl, by rw [hU], hok.warm hW, by rw [hU]; exact zs_ok.kept hs (zj_nil (D := D) (cl := cls)) hS hW.alike, hno.moved hW.alike, by rw [hU]; exact zj_Pl hP, va_K.moved hW.alike hK, zj_Dl hD⟩⟩ rfl rfl hl.1 rfl (lv_room (Nat.le_of_ble_eq_true rfl)) d_LA_law_893 ⟨by show cells + 2 ≤ 601024; omega, by show slots + 12 ≤ 7293034; omega⟩) hS hP hD hA (fun hk9 H locs hP hD hS => ?_) (fun Y H locs hE hP hD hS => ?_)
  · obtain ⟨e1, e2, h12, ht, hV, hN⟩ := ra_lives_ok hLI hs1 hb1 hk9
    refine lv_istore hx hb d_LA_law_896 hl (by decide) rfl (fun ls hl => ?_)
    have hl : lv_has ls 7 [(5, .int 0), (4, .int (nI (4 * k))), (3, .ref ao), (2, .ref h), (1, .ref (a 0)), (0, .ref b)] := hl
    refine lv_aload_n hx hb d_LA_law_898 rfl (lv_at hl 3 rfl) ?_
    refine lv_aload_n hx hb d_LA_law_899 rfl (lv_at hl 5 rfl) ?_
    refine lv_iload hx hb d_LA_law_900 (lv_at hl 1 rfl) ?_
    refine lv_iconst (v := 1) hx hb d_LA_law_902 (by decide) ?_
    refine lv_iadd hx hb d_LA_law_903 ?_
    refine W.eq (g2 := F0 m 904 ls [.int (nI (4 * k + 1)), .ref b, .ref h]) (by rw [show ((nI (4 * k)) + (1 : Int32)) = nI (4 * k + 1) from zj_ad (4 * k) 1]) ?_
    refine va_sld hx hb hX hbl (zj_bA hbl) hS (vp_in_nI (show 4 * k + 1 < L by omega) (by omega)) d_LA_law_904 ?_
    rw [nI_clamp (show 4 * k + 1 < 2 ^ 31 by omega)]
    refine lv_aload_n hx hb d_LA_law_905 rfl (lv_at hl 5 rfl) ?_
    refine lv_iload hx hb d_LA_law_906 (lv_at hl 1 rfl) ?_
    refine lv_iconst (v := 2) hx hb d_LA_law_908 (by decide) ?_
    refine lv_iadd hx hb d_LA_law_909 ?_
    refine W.eq (g2 := F0 m 910 ls [.int (nI (4 * k + 2)), .ref b, .int (xs (4 * k + 1)), .ref h]) (by rw [show ((nI (4 * k)) + (2 : Int32)) = nI (4 * k + 2) from zj_ad (4 * k) 2]) ?_
    refine va_sld hx hb hX hbl (zj_bA hbl) hS (vp_in_nI (show 4 * k + 2 < L by omega) (by omega)) d_LA_law_910 ?_
    rw [nI_clamp (show 4 * k + 2 < 2 ^ 31 by omega)]
    refine lv_aload_n hx hb d_LA_law_911 rfl (lv_at hl 5 rfl) ?_
    refine lv_iload hx hb d_LA_law_912 (lv_at hl 1 rfl) ?_
    refine lv_iconst (v := 3) hx hb d_LA_law_914 (by decide) ?_
    refine lv_iadd hx hb d_LA_law_915 ?_
    refine W.eq (g2 := F0 m 916 ls [.int (nI (4 * k + 3)), .ref b, .int (xs (4 * k + 2)), .int (xs (4 * k + 1)), .ref h]) (by rw [show ((nI (4 * k)) + (3 : Int32)) = nI (4 * k + 3) from zj_ad (4 * k) 3]) ?_
    refine va_sld hx hb hX hbl (zj_bA hbl) hS (vp_in_nI (show 4 * k + 3 < L by omega) (by omega)) d_LA_law_916 ?_
    rw [nI_clamp (show 4 * k + 3 < 2 ^ 31 by omega)]
    refine zm_call (wc := ymc cI cZ h bb M) (wc1 := ymc cI cZ h bb (Y_lives_ok M s1 (xs (4 * k + 2)).toNatClampNeg (xs (4 * k + 3)))) (wr := zxo cI cJ cP cS a X ao (vp_updL ov 0 (V_lives X s1 (xs (4 * k + 1)) (xs (4 * k + 2)) (xs (4 * k + 3))))) (va_runV (Ts := []) (As := [.int (xs (4 * k + 1)), .int (xs (4 * k + 2)), .int (xs (4 * k + 3))]) (rest := []) ⟨hx, hb, hml, hown, fun _ h => absurd h List.not_mem_nil⟩ (N_lives_ok l D cI cJ cZ cP cS h bb M s1 (xs (4 * k + 2)).toNatClampNeg (xs (4 * k + 3)) hs1 h12 ht _) ⟨zc_B 3 hok c_MO_lives_w t_10 t_848 rfl rfl (by decide +kernel) ⟨Nat.le_of_ble_eq_true rfl, Nat.le_of_ble_eq_true rfl⟩, hok _ t_849 rfl _, hok _ t_850 rfl _⟩ ⟨fun a U g mk q => by obtain ⟨q0, q1, q2, qP, qK, qD⟩ := q; exact ⟨q0, q1, q2.call g mk a, qP, va_K.moved (u := U) (U := U.calling g mk a) (Vm.Alike.refl U.vm) qK, qD⟩, va_recv hK hP (ci := 8) (q0 := 49) rfl rfl, fun U hU hW => ⟨(by rw [← e1, ← e2]), by rw [hU], hok.warm hW, by rw [hU]; exact zj_Pr hP, va_K.moved hW.alike hK, zj_Dr hD⟩⟩ rfl rfl hl.1 rfl (lv_room (Nat.le_of_ble_eq_true rfl)) d_LA_law_917 ⟨by show cells + 2 + 0 ≤ 601024; omega, by show slots + 12 + 0 ≤ 7293034; omega⟩) hS hP hD hA (fun H locs hP hD hS => ?_)
    refine lv_istore hx hb d_LA_law_920 hl (by decide) rfl (fun ls hl => ?_)
    have hl : lv_has ls 7 [(6, .int (U_lives_ok M s1 (xs (4 * k + 2)).toNatClampNeg (xs (4 * k + 3)))), (5, .int 0), (4, .int (nI (4 * k))), (3, .ref ao), (2, .ref h), (1, .ref (a 0)), (0, .ref b)] := hl
    refine lv_aload_n hx hb d_LA_law_922 rfl (lv_at hl 4 rfl) ?_
    refine zc_read (va_runV (Ts := []) (As := []) (rest := []) ⟨hx, hb, hml, hown, fun _ h => absurd h List.not_mem_nil⟩ (m_MO_thrown l D cI cJ cZ cP cS h bb (Y_lives_ok M s1 (xs (4 * k + 2)).toNatClampNeg (xs (4 * k + 3))).1 (Y_lives_ok M s1 (xs (4 * k + 2)).toNatClampNeg (xs (4 * k + 3))).2.1 (Y_lives_ok M s1 (xs (4 * k + 2)).toNatClampNeg (xs (4 * k + 3))).2.2.1 (Y_lives_ok M s1 (xs (4 * k + 2)).toNatClampNeg (xs (4 * k + 3))).2.2.2.1) ⟨zc_B 0 hok c_MO_thrown_w t_10 t_782 rfl rfl (by decide +kernel) ⟨Nat.le_of_ble_eq_true rfl, Nat.le_of_ble_eq_true rfl⟩, hok _ t_783 rfl _, hok _ t_784 rfl _⟩ ⟨fun a U g mk q => by obtain ⟨q0, q2, qP, qK⟩ := q; exact ⟨q0, q2.call g mk a, qP, va_K.moved (u := U) (U := U.calling g mk a) (Vm.Alike.refl U.vm) qK⟩, va_recv hK hP (ci := 8) (q0 := 49) rfl rfl, fun U hU hW => ⟨rfl, hok.warm hW, by rw [hU]; exact hP.sub [49] rfl, va_K.moved hW.alike hK⟩⟩ rfl rfl hl.1 rfl (lv_room (Nat.le_of_ble_eq_true rfl)) d_LA_law_923 ⟨by show cells + 2 + 0 ≤ 601024; omega, by show slots + 12 + 0 ≤ 7293034; omega⟩) ?_
    refine W.eq (g2 := F0 m 926 ls [.int 0]) rfl ?_
    refine lv_iload hx hb d_LA_law_926 (lv_at hl 1 rfl) ?_
    refine lv_icmp_eq (tgt := 933) hx hb d_LA_law_928 (by decide) (fun h928 => ?_) (fun h928 => absurd (rfl) h928)
    refine lv_iload hx hb d_LA_law_933 (lv_at hl 1 rfl) ?_
    refine lv_if_ne (tgt := 957) hx hb d_LA_law_935 (by decide) (fun h935 => absurd ((rfl : (0 : Int32) = 0)) h935) (fun h935 => ?_)
    refine lv_aload_n hx hb d_LA_law_938 rfl (lv_at hl 3 rfl) ?_
    refine lv_iconst (v := 0) hx hb d_LA_law_939 (by decide) ?_
    refine va_lald hx hb hK hP 48 1 rfl rfl (show vp_in (nI 0) 1 from vp_in_nI (by decide) (by decide)) d_LA_law_940 ?_
    refine W.eq (g2 := F0 m 941 ls [.long (V_lives X s1 (xs (4 * k + 1)) (xs (4 * k + 2)) (xs (4 * k + 3)))]) rfl ?_
    refine lv_iload hx hb d_LA_law_941 (lv_at hl 0 rfl) ?_
    refine lv_if_eq (tgt := 950) hx hb d_LA_law_943 (by decide) (fun hz => ?_) (fun hz => ?_)
    · have hv0 : (yli (M.2.2.2.2.2.2.2 9 (12 * s1 + (xs (4 * k + 2)).toNatClampNeg)) (M.2.2.2.2.2.2.2 4 (xs (4 * k + 2)).toNatClampNeg) (xs (4 * k + 3))) = false := (rz_zb _).1 hz
      have hVb : zbL (yli (M.2.2.2.2.2.2.2 9 (12 * s1 + (xs (4 * k + 2)).toNatClampNeg)) (M.2.2.2.2.2.2.2 4 (xs (4 * k + 2)).toNatClampNeg) (xs (4 * k + 3))) = 0 := by rw [hv0]; rfl
      refine lv_lconst (v := 0) hx hb d_LA_law_950 (by decide) ?_
      refine W.lcmp hx hb d_LA_law_951 ?_
      refine lv_if_eq (tgt := 957) hx hb d_LA_law_952 (by decide) (fun h952 => ?_) (fun h952 => absurd (zj_lg (by rw [hV]; exact hVb)) h952)
      refine lv_goto (tgt := 1344) hx hb d_LA_law_957 (by decide) ?_
      exact W.widen (by omega) (by omega) (kk X (Y_lives_ok M s1 (xs (4 * k + 2)).toNatClampNeg (xs (4 * k + 3))) (vp_updL ov 0 (V_lives X s1 (xs (4 * k + 1)) (xs (4 * k + 2)) (xs (4 * k + 3)))) H locs ls hN hP hD hS (lv_sub hl [2, 3, 4, 5, 6] rfl))
    · have hv1 : (yli (M.2.2.2.2.2.2.2 9 (12 * s1 + (xs (4 * k + 2)).toNatClampNeg)) (M.2.2.2.2.2.2.2 4 (xs (4 * k + 2)).toNatClampNeg) (xs (4 * k + 3))) = true := by
        cases hv9 : (yli (M.2.2.2.2.2.2.2 9 (12 * s1 + (xs (4 * k + 2)).toNatClampNeg)) (M.2.2.2.2.2.2.2 4 (xs (4 * k + 2)).toNatClampNeg) (xs (4 * k + 3)))
        · exact absurd ((rz_zb _).2 hv9) hz
        · rfl
      have hVb : zbL (yli (M.2.2.2.2.2.2.2 9 (12 * s1 + (xs (4 * k + 2)).toNatClampNeg)) (M.2.2.2.2.2.2.2 4 (xs (4 * k + 2)).toNatClampNeg) (xs (4 * k + 3))) = 1 := by rw [hv1]; rfl
      refine lv_lconst (v := 1) hx hb d_LA_law_946 (by decide) ?_
      refine lv_goto (tgt := 951) hx hb d_LA_law_947 (by decide) ?_
      refine W.lcmp hx hb d_LA_law_951 ?_
      refine lv_if_eq (tgt := 957) hx hb d_LA_law_952 (by decide) (fun h952 => ?_) (fun h952 => absurd (zj_lg (by rw [hV]; exact hVb)) h952)
      refine lv_goto (tgt := 1344) hx hb d_LA_law_957 (by decide) ?_
      exact W.widen (by omega) (by omega) (kk X (Y_lives_ok M s1 (xs (4 * k + 2)).toNatClampNeg (xs (4 * k + 3))) (vp_updL ov 0 (V_lives X s1 (xs (4 * k + 1)) (xs (4 * k + 2)) (xs (4 * k + 3)))) H locs ls hN hP hD hS (lv_sub hl [2, 3, 4, 5, 6] rfl))
  · refine lv_istore hx hb d_LA_law_896 hl (by decide) rfl (fun ls hl => ?_)
    have hl : lv_has ls 7 [(5, .int (if Y = zx_iae then 1 else 2)), (4, .int (nI (4 * k))), (3, .ref ao), (2, .ref h), (1, .ref (a 0)), (0, .ref b)] := hl
    refine lv_aload_n hx hb d_LA_law_898 rfl (lv_at hl 3 rfl) ?_
    refine lv_aload_n hx hb d_LA_law_899 rfl (lv_at hl 5 rfl) ?_
    refine lv_iload hx hb d_LA_law_900 (lv_at hl 1 rfl) ?_
    refine lv_iconst (v := 1) hx hb d_LA_law_902 (by decide) ?_
    refine lv_iadd hx hb d_LA_law_903 ?_
    refine W.eq (g2 := F0 m 904 ls [.int (nI (4 * k + 1)), .ref b, .ref h]) (by rw [show ((nI (4 * k)) + (1 : Int32)) = nI (4 * k + 1) from zj_ad (4 * k) 1]) ?_
    refine va_sld hx hb hX hbl (zj_bA hbl) hS (vp_in_nI (show 4 * k + 1 < L by omega) (by omega)) d_LA_law_904 ?_
    rw [nI_clamp (show 4 * k + 1 < 2 ^ 31 by omega)]
    refine lv_aload_n hx hb d_LA_law_905 rfl (lv_at hl 5 rfl) ?_
    refine lv_iload hx hb d_LA_law_906 (lv_at hl 1 rfl) ?_
    refine lv_iconst (v := 2) hx hb d_LA_law_908 (by decide) ?_
    refine lv_iadd hx hb d_LA_law_909 ?_
    refine W.eq (g2 := F0 m 910 ls [.int (nI (4 * k + 2)), .ref b, .int (xs (4 * k + 1)), .ref h]) (by rw [show ((nI (4 * k)) + (2 : Int32)) = nI (4 * k + 2) from zj_ad (4 * k) 2]) ?_
    refine va_sld hx hb hX hbl (zj_bA hbl) hS (vp_in_nI (show 4 * k + 2 < L by omega) (by omega)) d_LA_law_910 ?_
    rw [nI_clamp (show 4 * k + 2 < 2 ^ 31 by omega)]
    refine lv_aload_n hx hb d_LA_law_911 rfl (lv_at hl 5 rfl) ?_
    refine lv_iload hx hb d_LA_law_912 (lv_at hl 1 rfl) ?_
    refine lv_iconst (v := 3) hx hb d_LA_law_914 (by decide) ?_
    refine lv_iadd hx hb d_LA_law_915 ?_
    refine W.eq (g2 := F0 m 916 ls [.int (nI (4 * k + 3)), .ref b, .int (xs (4 * k + 2)), .int (xs (4 * k + 1)), .ref h]) (by rw [show ((nI (4 * k)) + (3 : Int32)) = nI (4 * k + 3) from zj_ad (4 * k) 3]) ?_
    refine va_sld hx hb hX hbl (zj_bA hbl) hS (vp_in_nI (show 4 * k + 3 < L by omega) (by omega)) d_LA_law_916 ?_
    rw [nI_clamp (show 4 * k + 3 < 2 ^ 31 by omega)]
    refine zm_call (wc := ymc cI cZ h bb M) (wc1 := ymc cI cZ h bb (Y_lives_bad M (xs (4 * k + 1)) (xs (4 * k + 2)) (xs (4 * k + 3)) (if Y = zx_iae then 1 else 2))) (wr := zxo cI cJ cP cS a X ao ov) (va_runV (Ts := []) (As := [.int (xs (4 * k + 1)), .int (xs (4 * k + 2)), .int (xs (4 * k + 3))]) (rest := []) ⟨hx, hb, hml, hown, fun _ h => absurd h List.not_mem_nil⟩ (N_lives_bad l D cI cJ cZ cP cS h bb M (xs (4 * k + 1)) (xs (4 * k + 2)) (xs (4 * k + 3)) (if Y = zx_iae then 1 else 2) (ra_lives_bad hLI hE) (zj_t0 Y) _) ⟨zc_B 3 hok c_MO_lives_w t_10 t_848 rfl rfl (by decide +kernel) ⟨Nat.le_of_ble_eq_true rfl, Nat.le_of_ble_eq_true rfl⟩, hok _ t_849 rfl _, hok _ t_850 rfl _⟩ ⟨fun a U g mk q => by obtain ⟨q0, q1, q2, qP, qK, qD⟩ := q; exact ⟨q0, q1, q2.call g mk a, qP, va_K.moved (u := U) (U := U.calling g mk a) (Vm.Alike.refl U.vm) qK, qD⟩, va_recv hK hP (ci := 8) (q0 := 49) rfl rfl, fun U hU hW => ⟨rfl, by rw [hU], hok.warm hW, by rw [hU]; exact zj_Pr hP, va_K.moved hW.alike hK, zj_Dr hD⟩⟩ rfl rfl hl.1 rfl (lv_room (Nat.le_of_ble_eq_true rfl)) d_LA_law_917 ⟨by show cells + 2 + 0 ≤ 601024; omega, by show slots + 12 + 0 ≤ 7293034; omega⟩) hS hP hD hA (fun H locs hP hD hS => ?_)
    refine lv_istore hx hb d_LA_law_920 hl (by decide) rfl (fun ls hl => ?_)
    have hl : lv_has ls 7 [(6, .int (U_lives_bad M (xs (4 * k + 1)) (xs (4 * k + 2)) (xs (4 * k + 3)) (if Y = zx_iae then 1 else 2))), (5, .int (if Y = zx_iae then 1 else 2)), (4, .int (nI (4 * k))), (3, .ref ao), (2, .ref h), (1, .ref (a 0)), (0, .ref b)] := hl
    refine lv_aload_n hx hb d_LA_law_922 rfl (lv_at hl 4 rfl) ?_
    refine zc_read (va_runV (Ts := []) (As := []) (rest := []) ⟨hx, hb, hml, hown, fun _ h => absurd h List.not_mem_nil⟩ (m_MO_thrown l D cI cJ cZ cP cS h bb (Y_lives_bad M (xs (4 * k + 1)) (xs (4 * k + 2)) (xs (4 * k + 3)) (if Y = zx_iae then 1 else 2)).1 (Y_lives_bad M (xs (4 * k + 1)) (xs (4 * k + 2)) (xs (4 * k + 3)) (if Y = zx_iae then 1 else 2)).2.1 (Y_lives_bad M (xs (4 * k + 1)) (xs (4 * k + 2)) (xs (4 * k + 3)) (if Y = zx_iae then 1 else 2)).2.2.1 (Y_lives_bad M (xs (4 * k + 1)) (xs (4 * k + 2)) (xs (4 * k + 3)) (if Y = zx_iae then 1 else 2)).2.2.2.1) ⟨zc_B 0 hok c_MO_thrown_w t_10 t_782 rfl rfl (by decide +kernel) ⟨Nat.le_of_ble_eq_true rfl, Nat.le_of_ble_eq_true rfl⟩, hok _ t_783 rfl _, hok _ t_784 rfl _⟩ ⟨fun a U g mk q => by obtain ⟨q0, q2, qP, qK⟩ := q; exact ⟨q0, q2.call g mk a, qP, va_K.moved (u := U) (U := U.calling g mk a) (Vm.Alike.refl U.vm) qK⟩, va_recv hK hP (ci := 8) (q0 := 49) rfl rfl, fun U hU hW => ⟨rfl, hok.warm hW, by rw [hU]; exact hP.sub [49] rfl, va_K.moved hW.alike hK⟩⟩ rfl rfl hl.1 rfl (lv_room (Nat.le_of_ble_eq_true rfl)) d_LA_law_923 ⟨by show cells + 2 + 0 ≤ 601024; omega, by show slots + 12 + 0 ≤ 7293034; omega⟩) ?_
    refine W.eq (g2 := F0 m 926 ls [.int (if Y = zx_iae then 1 else 2)]) rfl ?_
    refine lv_iload hx hb d_LA_law_926 (lv_at hl 1 rfl) ?_
    refine lv_icmp_eq (tgt := 933) hx hb d_LA_law_928 (by decide) (fun h928 => ?_) (fun h928 => absurd (rfl) h928)
    refine lv_iload hx hb d_LA_law_933 (lv_at hl 1 rfl) ?_
    refine lv_if_ne (tgt := 957) hx hb d_LA_law_935 (by decide) (fun h935 => ?_) (fun h935 => absurd h935 (zj_t0 Y))
    refine lv_goto (tgt := 1344) hx hb d_LA_law_957 (by decide) ?_
    exact W.widen (by omega) (by omega) (kk X (Y_lives_bad M (xs (4 * k + 1)) (xs (4 * k + 2)) (xs (4 * k + 3)) (if Y = zx_iae then 1 else 2)) ov H locs ls (hLI.th (if Y = zx_iae then 1 else 2)) hP hD hS (lv_sub hl [2, 3, 4, 5, 6] rfl))
