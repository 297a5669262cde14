/-! the law: supply (rows by program) -/
set_option maxHeartbeats 4000000 in
set_option maxRecDepth 100000 in
theorem lw_supply {p : Program} {l : Launch} {e : Env} {s : State} {m : MethodId} {args : Array Value} {below : List Frame} {meth : Method} {c : Code} {Q : State → Prop} {b L : Nat} {xs : Nat → Int32} {D : va_G} {cI cJ cZ cP cS : ClassId} {a : Nat → Nat} {ao h : Nat} {bb : Nat → Nat} (J : zJ p l s m c b L xs D cI cJ cZ cP cS) {k : Nat} (hk : 4 * k + 4 ≤ L)
    {X : XS} {M : MS} {ov : Nat → Int64} {H : Heap} {locs : List Loc} {ls : Array Slot} {cells slots : Nat} (hLI : LI X M) (hP : va_P D cls (zxo cI cJ cP cS a X ao ov ++ ymc cI cZ h bb M) H) (hD : va_D (va_A [] s.heap.size) (zxo cI cJ cP cS a X ao ov ++ ymc cI cZ h bb M)) (hS : va_S (va_A [] s.heap.size) s.heap H locs) (hl : lv_has ls 7 [(4, .int (nI (4 * k))), (3, .ref ao), (2, .ref h), (1, .ref (a 0)), (0, .ref b)])
    (hc1 : cells + 4 ≤ 601024) (hc2 : slots + 24 ≤ 7293034) (kk : zKK p l e s m args below meth c Q D cI cJ cZ cP cS a ao h bb b k cells slots) : W p l e room_1 s m args below meth c H locs cells slots Q (F0 m 1196 ls []) := by
  obtain ⟨hx, hb, hml, hown, hok, hs, hno, hK, hX, hbl, htr, hL⟩ := J
  have hA := zj_A (s := s)
  obtain ⟨s1, hs1, hb1⟩ := zj_s (xs (4 * k + 1))
  obtain ⟨p1, hp1, hg1⟩ := zj_p hLI hs1
  refine lv_aload_n hx hb d_LA_law_1196 rfl (lv_at hl 3 rfl) ?_
  refine lv_aload_n hx hb d_LA_law_1197 rfl (lv_at hl 4 rfl) ?_
  refine lv_iload hx hb d_LA_law_1198 (lv_at hl 0 rfl) ?_
  refine lv_iconst (v := 1) hx hb d_LA_law_1200 (by decide) ?_
  refine lv_iadd hx hb d_LA_law_1201 ?_
  refine W.eq (g2 := F0 m 1202 ls [.int (nI (4 * k + 1)), .ref b, .ref (a 0)]) (by rw [show ((nI (4 * k)) + (1 : Int32)) = nI (4 * k + 1) from zj_ad (4 * k) 1]) ?_
  refine va_sld hx hb hX hbl (zj_bA hbl) hS (vp_in_nI (show 4 * k + 1 < L by omega) (by omega)) d_LA_law_1202 ?_
  rw [nI_clamp (show 4 * k + 1 < 2 ^ 31 by omega)]
  refine lv_aload_n hx hb d_LA_law_1203 rfl (lv_at hl 4 rfl) ?_
  refine lv_iload hx hb d_LA_law_1204 (lv_at hl 0 rfl) ?_
  refine lv_iconst (v := 2) hx hb d_LA_law_1206 (by decide) ?_
  refine lv_iadd hx hb d_LA_law_1207 ?_
  refine W.eq (g2 := F0 m 1208 ls [.int (nI (4 * k + 2)), .ref b, .int (xs (4 * k + 1)), .ref (a 0)]) (by rw [show ((nI (4 * k)) + (2 : Int32)) = nI (4 * k + 2) from zj_ad (4 * k) 2]) ?_
  refine va_sld hx hb hX hbl (zj_bA hbl) hS (vp_in_nI (show 4 * k + 2 < L by omega) (by omega)) d_LA_law_1208 ?_
  rw [nI_clamp (show 4 * k + 2 < 2 ^ 31 by omega)]
  refine lv_aload_n hx hb d_LA_law_1209 rfl (lv_at hl 4 rfl) ?_
  refine lv_iload hx hb d_LA_law_1210 (lv_at hl 0 rfl) ?_
  refine lv_iconst (v := 3) hx hb d_LA_law_1212 (by decide) ?_
  refine lv_iadd hx hb d_LA_law_1213 ?_
  refine W.eq (g2 := F0 m 1214 ls [.int (nI (4 * k + 3)), .ref b, .int (xs (4 * k + 2)), .int (xs (4 * k + 1)), .ref (a 0)]) (by rw [show ((nI (4 * k)) + (3 : Int32)) = nI (4 * k + 3) from zj_ad (4 * k) 3]) ?_
  refine va_sld hx hb hX hbl (zj_bA hbl) hS (vp_in_nI (show 4 * k + 3 < L by omega) (by omega)) d_LA_law_1214 ?_
  rw [nI_clamp (show 4 * k + 3 < 2 ^ 31 by omega)]
  refine lv_aload_n hx hb d_LA_law_1215 rfl (lv_at hl 1 rfl) ?_
  refine zl_call (wc := zxo cI cJ cP cS a X ao ov) (wc1 := zxo cI cJ cP cS a (X_supply X s1 p1 (xs (4 * k + 1)) (xs (4 * k + 2)) (xs (4 * k + 3))) ao (vp_updL ov 0 (V_supply X s1 p1 (xs (4 * k + 1)) (xs (4 * k + 2)) (xs (4 * k + 3))))) (wr := ymc cI cZ h bb M) (zl_runS (n := 5) (Ts := []) (As := [.ref (a 0), .int (xs (4 * k + 1)), .int (xs (4 * k + 2)), .int (xs (4 * k + 3)), .ref ao]) (rest := []) ⟨hx, hb, hml, hown, fun _ h => absurd h List.not_mem_nil⟩ (M_LA_supply l htr D cI cJ cZ cP cS a X s1 p1 (xs (4 * k + 1)) (xs (4 * k + 2)) (xs (4 * k + 3)) hs1 hb1 hp1 hg1 (zj_r5 hLI hp1) (zj_C hLI) (zj_G hLI) (zj_pa hLI) ao ov _) hok t_679 t_0 t_677 t_678 rfl rfl (by decide +kernel) ⟨Nat.le_of_ble_eq_true rfl, Nat.le_of_ble_eq_true rfl⟩ ⟨fun a U g mk q => by obtain ⟨q0, q1, q2, q3, q4, qP, qK, qD⟩ := q; exact ⟨q0, q1, q2.call g mk a, q3.moved (Vm.Alike.refl _), q4.moved (Vm.Alike.refl _), qP, va_K.moved (u := U) (U := U.calling g mk a) (Vm.Alike.refl U.vm) qK, qD⟩, fun U hU hW => ⟨rfl, by rw [hU], hok.warm hW, by rw [hU]; exact zs_ok.kept hs (zj_nil (D := D) (cl := cls)) hS hW.alike, hno.moved hW.alike, by rw [hU]; exact zj_Pl hP, va_K.moved hW.alike hK, zj_Dl hD⟩⟩ rfl rfl hl.1 rfl (lv_room (Nat.le_of_ble_eq_true rfl)) d_LA_law_1216 ⟨by show cells + 3 ≤ 601024; omega, by show slots + 18 ≤ 7293034; omega⟩) hS hP hD hA (fun hk9 H locs hP hD hS => ?_) (fun Y H locs hE hP hD hS => ?_)
  · obtain ⟨e1, hpg, ht, hV, hN⟩ := ra_supply_ok hLI hs1 hp1 hb1 hg1 hk9
    refine lv_istore hx hb d_LA_law_1219 hl (by decide) rfl (fun ls hl => ?_)
    have hl : lv_has ls 7 [(5, .int 0), (4, .int (nI (4 * k))), (3, .ref ao), (2, .ref h), (1, .ref (a 0)), (0, .ref b)] := hl
    refine lv_aload_n hx hb d_LA_law_1221 rfl (lv_at hl 3 rfl) ?_
    refine lv_aload_n hx hb d_LA_law_1222 rfl (lv_at hl 5 rfl) ?_
    refine lv_iload hx hb d_LA_law_1223 (lv_at hl 1 rfl) ?_
    refine lv_iconst (v := 1) hx hb d_LA_law_1225 (by decide) ?_
    refine lv_iadd hx hb d_LA_law_1226 ?_
    refine W.eq (g2 := F0 m 1227 ls [.int (nI (4 * k + 1)), .ref b, .ref h]) (by rw [show ((nI (4 * k)) + (1 : Int32)) = nI (4 * k + 1) from zj_ad (4 * k) 1]) ?_
    refine va_sld hx hb hX hbl (zj_bA hbl) hS (vp_in_nI (show 4 * k + 1 < L by omega) (by omega)) d_LA_law_1227 ?_
    rw [nI_clamp (show 4 * k + 1 < 2 ^ 31 by omega)]
    refine lv_aload_n hx hb d_LA_law_1228 rfl (lv_at hl 5 rfl) ?_
    refine lv_iload hx hb d_LA_law_1229 (lv_at hl 1 rfl) ?_
    refine lv_iconst (v := 2) hx hb d_LA_law_1231 (by decide) ?_
    refine lv_iadd hx hb d_LA_law_1232 ?_
    refine W.eq (g2 := F0 m 1233 ls [.int (nI (4 * k + 2)), .ref b, .int (xs (4 * k + 1)), .ref h]) (by rw [show ((nI (4 * k)) + (2 : Int32)) = nI (4 * k + 2) from zj_ad (4 * k) 2]) ?_
    refine va_sld hx hb hX hbl (zj_bA hbl) hS (vp_in_nI (show 4 * k + 2 < L by omega) (by omega)) d_LA_law_1233 ?_
    rw [nI_clamp (show 4 * k + 2 < 2 ^ 31 by omega)]
    refine lv_aload_n hx hb d_LA_law_1234 rfl (lv_at hl 5 rfl) ?_
    refine lv_iload hx hb d_LA_law_1235 (lv_at hl 1 rfl) ?_
    refine lv_iconst (v := 3) hx hb d_LA_law_1237 (by decide) ?_
    refine lv_iadd hx hb d_LA_law_1238 ?_
    refine W.eq (g2 := F0 m 1239 ls [.int (nI (4 * k + 3)), .ref b, .int (xs (4 * k + 2)), .int (xs (4 * k + 1)), .ref h]) (by rw [show ((nI (4 * k)) + (3 : Int32)) = nI (4 * k + 3) from zj_ad (4 * k) 3]) ?_
    refine va_sld hx hb hX hbl (zj_bA hbl) hS (vp_in_nI (show 4 * k + 3 < L by omega) (by omega)) d_LA_law_1239 ?_
    rw [nI_clamp (show 4 * k + 3 < 2 ^ 31 by omega)]
    refine zm_call (wc := ymc cI cZ h bb M) (wc1 := ymc cI cZ h bb (Y_supply_ok M s1 p1 (xs (4 * k + 2)) (xs (4 * k + 3)))) (wr := zxo cI cJ cP cS a (X_supply X s1 p1 (xs (4 * k + 1)) (xs (4 * k + 2)) (xs (4 * k + 3))) ao (vp_updL ov 0 (V_supply X s1 p1 (xs (4 * k + 1)) (xs (4 * k + 2)) (xs (4 * k + 3))))) (va_runV (Ts := []) (As := [.int (xs (4 * k + 1)), .int (xs (4 * k + 2)), .int (xs (4 * k + 3))]) (rest := []) ⟨hx, hb, hml, hown, fun _ h => absurd h List.not_mem_nil⟩ (N_supply_ok l D cI cJ cZ cP cS h bb M s1 p1 (xs (4 * k + 2)) (xs (4 * k + 3)) hs1 hp1 hpg (hLI.b.rq p1 hp1).2 hLI.a.hC (hLI.c.pe s1 hs1).2 hLI.a.hG (zj_paM hLI) (zj_goM hLI) ht _) ⟨zc_B 3 hok c_MO_supply_w t_10 t_911 rfl rfl (by decide +kernel) ⟨Nat.le_of_ble_eq_true rfl, Nat.le_of_ble_eq_true rfl⟩, hok _ t_912 rfl _, hok _ t_913 rfl _⟩ ⟨fun a U g mk q => by obtain ⟨q0, q1, q2, qP, qK, qD⟩ := q; exact ⟨q0, q1, q2.call g mk a, qP, va_K.moved (u := U) (U := U.calling g mk a) (Vm.Alike.refl U.vm) qK, qD⟩, va_recv hK hP (ci := 8) (q0 := 49) rfl rfl, fun U hU hW => ⟨(by rw [← e1]), by rw [hU], hok.warm hW, by rw [hU]; exact zj_Pr hP, va_K.moved hW.alike hK, zj_Dr hD⟩⟩ rfl rfl hl.1 rfl (lv_room (Nat.le_of_ble_eq_true rfl)) d_LA_law_1240 ⟨by show cells + 3 + 0 ≤ 601024; omega, by show slots + 18 + 0 ≤ 7293034; omega⟩) hS hP hD hA (fun H locs hP hD hS => ?_)
    refine lv_istore hx hb d_LA_law_1243 hl (by decide) rfl (fun ls hl => ?_)
    have hl : lv_has ls 7 [(6, .int (U_supply_ok M s1 p1 (xs (4 * k + 2)) (xs (4 * k + 3)))), (5, .int 0), (4, .int (nI (4 * k))), (3, .ref ao), (2, .ref h), (1, .ref (a 0)), (0, .ref b)] := hl
    refine lv_aload_n hx hb d_LA_law_1245 rfl (lv_at hl 4 rfl) ?_
    refine zc_read (va_runV (Ts := []) (As := []) (rest := []) ⟨hx, hb, hml, hown, fun _ h => absurd h List.not_mem_nil⟩ (m_MO_thrown l D cI cJ cZ cP cS h bb (Y_supply_ok M s1 p1 (xs (4 * k + 2)) (xs (4 * k + 3))).1 (Y_supply_ok M s1 p1 (xs (4 * k + 2)) (xs (4 * k + 3))).2.1 (Y_supply_ok M s1 p1 (xs (4 * k + 2)) (xs (4 * k + 3))).2.2.1 (Y_supply_ok M s1 p1 (xs (4 * k + 2)) (xs (4 * k + 3))).2.2.2.1) ⟨zc_B 0 hok c_MO_thrown_w t_10 t_782 rfl rfl (by decide +kernel) ⟨Nat.le_of_ble_eq_true rfl, Nat.le_of_ble_eq_true rfl⟩, hok _ t_783 rfl _, hok _ t_784 rfl _⟩ ⟨fun a U g mk q => by obtain ⟨q0, q2, qP, qK⟩ := q; exact ⟨q0, q2.call g mk a, qP, va_K.moved (u := U) (U := U.calling g mk a) (Vm.Alike.refl U.vm) qK⟩, va_recv hK hP (ci := 8) (q0 := 49) rfl rfl, fun U hU hW => ⟨rfl, hok.warm hW, by rw [hU]; exact hP.sub [49] rfl, va_K.moved hW.alike hK⟩⟩ rfl rfl hl.1 rfl (lv_room (Nat.le_of_ble_eq_true rfl)) d_LA_law_1246 ⟨by show cells + 3 + 0 ≤ 601024; omega, by show slots + 18 + 0 ≤ 7293034; omega⟩) ?_
    refine W.eq (g2 := F0 m 1249 ls [.int 0]) rfl ?_
    refine lv_iload hx hb d_LA_law_1249 (lv_at hl 1 rfl) ?_
    refine lv_icmp_eq (tgt := 1256) hx hb d_LA_law_1251 (by decide) (fun h1251 => ?_) (fun h1251 => absurd (rfl) h1251)
    refine lv_iload hx hb d_LA_law_1256 (lv_at hl 1 rfl) ?_
    refine lv_if_ne (tgt := 1273) hx hb d_LA_law_1258 (by decide) (fun h1258 => absurd ((rfl : (0 : Int32) = 0)) h1258) (fun h1258 => ?_)
    refine lv_aload_n hx hb d_LA_law_1261 rfl (lv_at hl 3 rfl) ?_
    refine lv_iconst (v := 0) hx hb d_LA_law_1262 (by decide) ?_
    refine va_lald hx hb hK hP 48 1 rfl rfl (show vp_in (nI 0) 1 from vp_in_nI (by decide) (by decide)) d_LA_law_1263 ?_
    refine W.eq (g2 := F0 m 1264 ls [.long (V_supply X s1 p1 (xs (4 * k + 1)) (xs (4 * k + 2)) (xs (4 * k + 3)))]) rfl ?_
    refine lv_iload hx hb d_LA_law_1264 (lv_at hl 0 rfl) ?_
    refine lv_i2l (v := Int32.toInt64 (U_supply_ok M s1 p1 (xs (4 * k + 2)) (xs (4 * k + 3)))) hx hb d_LA_law_1266 rfl ?_
    refine W.lcmp hx hb d_LA_law_1267 ?_
    refine lv_if_eq (tgt := 1273) hx hb d_LA_law_1268 (by decide) (fun h1268 => ?_) (fun h1268 => absurd (zj_lg hV) h1268)
    refine lv_goto (tgt := 1344) hx hb d_LA_law_1273 (by decide) ?_
    exact W.widen (by omega) (by omega) (kk (X_supply X s1 p1 (xs (4 * k + 1)) (xs (4 * k + 2)) (xs (4 * k + 3))) (Y_supply_ok M s1 p1 (xs (4 * k + 2)) (xs (4 * k + 3))) (vp_updL ov 0 (V_supply X s1 p1 (xs (4 * k + 1)) (xs (4 * k + 2)) (xs (4 * k + 3)))) H locs ls hN hP hD hS (lv_sub hl [2, 3, 4, 5, 6] rfl))
  · refine lv_istore hx hb d_LA_law_1219 hl (by decide) rfl (fun ls hl => ?_)
    have hl : lv_has ls 7 [(5, .int (if Y = zx_iae then 1 else 2)), (4, .int (nI (4 * k))), (3, .ref ao), (2, .ref h), (1, .ref (a 0)), (0, .ref b)] := hl
    refine lv_aload_n hx hb d_LA_law_1221 rfl (lv_at hl 3 rfl) ?_
    refine lv_aload_n hx hb d_LA_law_1222 rfl (lv_at hl 5 rfl) ?_
    refine lv_iload hx hb d_LA_law_1223 (lv_at hl 1 rfl) ?_
    refine lv_iconst (v := 1) hx hb d_LA_law_1225 (by decide) ?_
    refine lv_iadd hx hb d_LA_law_1226 ?_
    refine W.eq (g2 := F0 m 1227 ls [.int (nI (4 * k + 1)), .ref b, .ref h]) (by rw [show ((nI (4 * k)) + (1 : Int32)) = nI (4 * k + 1) from zj_ad (4 * k) 1]) ?_
    refine va_sld hx hb hX hbl (zj_bA hbl) hS (vp_in_nI (show 4 * k + 1 < L by omega) (by omega)) d_LA_law_1227 ?_
    rw [nI_clamp (show 4 * k + 1 < 2 ^ 31 by omega)]
    refine lv_aload_n hx hb d_LA_law_1228 rfl (lv_at hl 5 rfl) ?_
    refine lv_iload hx hb d_LA_law_1229 (lv_at hl 1 rfl) ?_
    refine lv_iconst (v := 2) hx hb d_LA_law_1231 (by decide) ?_
    refine lv_iadd hx hb d_LA_law_1232 ?_
    refine W.eq (g2 := F0 m 1233 ls [.int (nI (4 * k + 2)), .ref b, .int (xs (4 * k + 1)), .ref h]) (by rw [show ((nI (4 * k)) + (2 : Int32)) = nI (4 * k + 2) from zj_ad (4 * k) 2]) ?_
    refine va_sld hx hb hX hbl (zj_bA hbl) hS (vp_in_nI (show 4 * k + 2 < L by omega) (by omega)) d_LA_law_1233 ?_
    rw [nI_clamp (show 4 * k + 2 < 2 ^ 31 by omega)]
    refine lv_aload_n hx hb d_LA_law_1234 rfl (lv_at hl 5 rfl) ?_
    refine lv_iload hx hb d_LA_law_1235 (lv_at hl 1 rfl) ?_
    refine lv_iconst (v := 3) hx hb d_LA_law_1237 (by decide) ?_
    refine lv_iadd hx hb d_LA_law_1238 ?_
    refine W.eq (g2 := F0 m 1239 ls [.int (nI (4 * k + 3)), .ref b, .int (xs (4 * k + 2)), .int (xs (4 * k + 1)), .ref h]) (by rw [show ((nI (4 * k)) + (3 : Int32)) = nI (4 * k + 3) from zj_ad (4 * k) 3]) ?_
    refine va_sld hx hb hX hbl (zj_bA hbl) hS (vp_in_nI (show 4 * k + 3 < L by omega) (by omega)) d_LA_law_1239 ?_
    rw [nI_clamp (show 4 * k + 3 < 2 ^ 31 by omega)]
    refine zm_call (wc := ymc cI cZ h bb M) (wc1 := ymc cI cZ h bb (Y_supply_bad M (xs (4 * k + 1)) (xs (4 * k + 2)) (xs (4 * k + 3)) (if Y = zx_iae then 1 else 2))) (wr := zxo cI cJ cP cS a X ao ov) (va_runV (Ts := []) (As := [.int (xs (4 * k + 1)), .int (xs (4 * k + 2)), .int (xs (4 * k + 3))]) (rest := []) ⟨hx, hb, hml, hown, fun _ h => absurd h List.not_mem_nil⟩ (N_supply_bad l D cI cJ cZ cP cS h bb M (xs (4 * k + 1)) (xs (4 * k + 2)) (xs (4 * k + 3)) (if Y = zx_iae then 1 else 2) (rq_bad hLI hs1 hb1 hE) (zj_tp Y) _) ⟨zc_B 3 hok c_MO_supply_w t_10 t_911 rfl rfl (by decide +kernel) ⟨Nat.le_of_ble_eq_true rfl, Nat.le_of_ble_eq_true rfl⟩, hok _ t_912 rfl _, hok _ t_913 rfl _⟩ ⟨fun a U g mk q => by obtain ⟨q0, q1, q2, qP, qK, qD⟩ := q; exact ⟨q0, q1, q2.call g mk a, qP, va_K.moved (u := U) (U := U.calling g mk a) (Vm.Alike.refl U.vm) qK, qD⟩, va_recv hK hP (ci := 8) (q0 := 49) rfl rfl, fun U hU hW => ⟨rfl, by rw [hU], hok.warm hW, by rw [hU]; exact zj_Pr hP, va_K.moved hW.alike hK, zj_Dr hD⟩⟩ rfl rfl hl.1 rfl (lv_room (Nat.le_of_ble_eq_true rfl)) d_LA_law_1240 ⟨by show cells + 3 + 0 ≤ 601024; omega, by show slots + 18 + 0 ≤ 7293034; omega⟩) hS hP hD hA (fun H locs hP hD hS => ?_)
    refine lv_istore hx hb d_LA_law_1243 hl (by decide) rfl (fun ls hl => ?_)
    have hl : lv_has ls 7 [(6, .int (U_supply_bad M (xs (4 * k + 1)) (xs (4 * k + 2)) (xs (4 * k + 3)) (if Y = zx_iae then 1 else 2))), (5, .int (if Y = zx_iae then 1 else 2)), (4, .int (nI (4 * k))), (3, .ref ao), (2, .ref h), (1, .ref (a 0)), (0, .ref b)] := hl
    refine lv_aload_n hx hb d_LA_law_1245 rfl (lv_at hl 4 rfl) ?_
    refine zc_read (va_runV (Ts := []) (As := []) (rest := []) ⟨hx, hb, hml, hown, fun _ h => absurd h List.not_mem_nil⟩ (m_MO_thrown l D cI cJ cZ cP cS h bb (Y_supply_bad M (xs (4 * k + 1)) (xs (4 * k + 2)) (xs (4 * k + 3)) (if Y = zx_iae then 1 else 2)).1 (Y_supply_bad M (xs (4 * k + 1)) (xs (4 * k + 2)) (xs (4 * k + 3)) (if Y = zx_iae then 1 else 2)).2.1 (Y_supply_bad M (xs (4 * k + 1)) (xs (4 * k + 2)) (xs (4 * k + 3)) (if Y = zx_iae then 1 else 2)).2.2.1 (Y_supply_bad M (xs (4 * k + 1)) (xs (4 * k + 2)) (xs (4 * k + 3)) (if Y = zx_iae then 1 else 2)).2.2.2.1) ⟨zc_B 0 hok c_MO_thrown_w t_10 t_782 rfl rfl (by decide +kernel) ⟨Nat.le_of_ble_eq_true rfl, Nat.le_of_ble_eq_true rfl⟩, hok _ t_783 rfl _, hok _ t_784 rfl _⟩ ⟨fun a U g mk q => by obtain ⟨q0, q2, qP, qK⟩ := q; exact ⟨q0, q2.call g mk a, qP, va_K.moved (u := U) (U := U.calling g mk a) (Vm.Alike.refl U.vm) qK⟩, va_recv hK hP (ci := 8) (q0 := 49) rfl rfl, fun U hU hW => ⟨rfl, hok.warm hW, by rw [hU]; exact hP.sub [49] rfl, va_K.moved hW.alike hK⟩⟩ rfl rfl hl.1 rfl (lv_room (Nat.le_of_ble_eq_true rfl)) d_LA_law_1246 ⟨by show cells + 3 + 0 ≤ 601024; omega, by show slots + 18 + 0 ≤ 7293034; omega⟩) ?_
    refine W.eq (g2 := F0 m 1249 ls [.int (if Y = zx_iae then 1 else 2)]) rfl ?_
    refine lv_iload hx hb d_LA_law_1249 (lv_at hl 1 rfl) ?_
    refine lv_icmp_eq (tgt := 1256) hx hb d_LA_law_1251 (by decide) (fun h1251 => ?_) (fun h1251 => absurd (rfl) h1251)
    refine lv_iload hx hb d_LA_law_1256 (lv_at hl 1 rfl) ?_
    refine lv_if_ne (tgt := 1273) hx hb d_LA_law_1258 (by decide) (fun h1258 => ?_) (fun h1258 => absurd h1258 (zj_t0 Y))
    refine lv_goto (tgt := 1344) hx hb d_LA_law_1273 (by decide) ?_
    exact W.widen (by omega) (by omega) (kk X (Y_supply_bad M (xs (4 * k + 1)) (xs (4 * k + 2)) (xs (4 * k + 3)) (if Y = zx_iae then 1 else 2)) ov H locs ls (hLI.th (if Y = zx_iae then 1 else 2)) hP hD hS (lv_sub hl [2, 3, 4, 5, 6] rfl))
