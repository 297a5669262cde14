/-! the law: open (rows by program) -/
set_option maxHeartbeats 4000000 in
set_option maxRecDepth 100000 in
theorem lw_open {p : Program} {l : Launch} {e : Env} {s : State} {m : MethodId} {args : Array Value} {below : List Frame} {meth : Method} {c : Code} {Q : State → Prop} {b L : Nat} {xs : Nat → Int32} {D : va_G} {cI cJ cZ cP cS : ClassId} {a : Nat → Nat} {ao h : Nat} {bb : Nat → Nat} (J : zJ p l s m c b L xs D cI cJ cZ cP cS) {k : Nat} (hk : 4 * k + 4 ≤ L)
    {X : XS} {M : MS} {ov : Nat → Int64} {H : Heap} {locs : List Loc} {ls : Array Slot} {cells slots : Nat} (hLI : LI X M) (hP : va_P D cls (zxo cI cJ cP cS a X ao ov ++ ymc cI cZ h bb M) H) (hD : va_D (va_A [] s.heap.size) (zxo cI cJ cP cS a X ao ov ++ ymc cI cZ h bb M)) (hS : va_S (va_A [] s.heap.size) s.heap H locs) (hl : lv_has ls 7 [(4, .int (nI (4 * k))), (3, .ref ao), (2, .ref h), (1, .ref (a 0)), (0, .ref b)])
    (hc1 : cells + 4 ≤ 601024) (hc2 : slots + 24 ≤ 7293034) (kk : zKK p l e s m args below meth c Q D cI cJ cZ cP cS a ao h bb b k cells slots) : W p l e room_1 s m args below meth c H locs cells slots Q (F0 m 244 ls []) := by
  obtain ⟨hx, hb, hml, hown, hok, hs, hno, hK, hX, hbl, htr, hL⟩ := J
  have hA := zj_A (s := s)
  refine lv_aload_n hx hb d_LA_law_244 rfl (lv_at hl 3 rfl) ?_
  refine lv_aload_n hx hb d_LA_law_245 rfl (lv_at hl 4 rfl) ?_
  refine lv_iload hx hb d_LA_law_246 (lv_at hl 0 rfl) ?_
  refine lv_iconst (v := 1) hx hb d_LA_law_248 (by decide) ?_
  refine lv_iadd hx hb d_LA_law_249 ?_
  refine W.eq (g2 := F0 m 250 ls [.int (nI (4 * k + 1)), .ref b, .ref (a 0)]) (by rw [show ((nI (4 * k)) + (1 : Int32)) = nI (4 * k + 1) from zj_ad (4 * k) 1]) ?_
  refine va_sld hx hb hX hbl (zj_bA hbl) hS (vp_in_nI (show 4 * k + 1 < L by omega) (by omega)) d_LA_law_250 ?_
  rw [nI_clamp (show 4 * k + 1 < 2 ^ 31 by omega)]
  refine lv_aload_n hx hb d_LA_law_251 rfl (lv_at hl 4 rfl) ?_
  refine lv_iload hx hb d_LA_law_252 (lv_at hl 0 rfl) ?_
  refine lv_iconst (v := 2) hx hb d_LA_law_254 (by decide) ?_
  refine lv_iadd hx hb d_LA_law_255 ?_
  refine W.eq (g2 := F0 m 256 ls [.int (nI (4 * k + 2)), .ref b, .int (xs (4 * k + 1)), .ref (a 0)]) (by rw [show ((nI (4 * k)) + (2 : Int32)) = nI (4 * k + 2) from zj_ad (4 * k) 2]) ?_
  refine va_sld hx hb hX hbl (zj_bA hbl) hS (vp_in_nI (show 4 * k + 2 < L by omega) (by omega)) d_LA_law_256 ?_
  rw [nI_clamp (show 4 * k + 2 < 2 ^ 31 by omega)]
  refine lv_if_eq (tgt := 264) hx hb d_LA_law_257 (by decide) (fun hz0 => ?_) (fun hz0 => ?_)
  · refine lv_iconst (v := 0) hx hb d_LA_law_264 (by decide) ?_
    refine lv_aload_n hx hb d_LA_law_265 rfl (lv_at hl 1 rfl) ?_
    refine zl_call (wc := zxo cI cJ cP cS a X ao ov) (wc1 := zxo cI cJ cP cS a (X_open X (xs (4 * k + 1)) false) ao (vp_updL ov 0 (V_open X (xs (4 * k + 1)) false))) (wr := ymc cI cZ h bb M) (zl_runS (n := 4) (Ts := []) (As := [.ref (a 0), .int (xs (4 * k + 1)), .int 0, .ref ao]) (rest := []) ⟨hx, hb, hml, hown, fun _ h => absurd h List.not_mem_nil⟩ (M_LA_open l htr D cI cJ cZ cP cS a X (xs (4 * k + 1)) false ao ov _) hok t_373 t_0 t_371 t_372 rfl rfl (by decide +kernel) ⟨Nat.le_of_ble_eq_true rfl, Nat.le_of_ble_eq_true rfl⟩ ⟨fun a U g mk q => by obtain ⟨q0, q1, q2, q3, q4, qP, qK, qD⟩ := q; exact ⟨q0, q1, q2.call g mk a, q3.moved (Vm.Alike.refl _), q4.moved (Vm.Alike.refl _), qP, va_K.moved (u := U) (U := U.calling g mk a) (Vm.Alike.refl U.vm) qK, qD⟩, fun U hU hW => ⟨rfl, by rw [hU], hok.warm hW, by rw [hU]; exact zs_ok.kept hs (zj_nil (D := D) (cl := cls)) hS hW.alike, hno.moved hW.alike, by rw [hU]; exact zj_Pl hP, va_K.moved hW.alike hK, zj_Dl hD⟩⟩ rfl rfl hl.1 rfl (lv_room (Nat.le_of_ble_eq_true rfl)) d_LA_law_266 ⟨by show cells + 1 ≤ 601024; omega, by show slots + 6 ≤ 7293034; omega⟩) hS hP hD hA (fun hk9 H locs hP hD hS => ?_) (fun Y H locs hE hP hD hS => ?_)
    · obtain ⟨e1, h12, ht, hV, hN⟩ := ra_open_ok hLI hk9
      refine lv_istore hx hb d_LA_law_269 hl (by decide) rfl (fun ls hl => ?_)
      have hl : lv_has ls 7 [(5, .int 0), (4, .int (nI (4 * k))), (3, .ref ao), (2, .ref h), (1, .ref (a 0)), (0, .ref b)] := hl
      refine lv_aload_n hx hb d_LA_law_271 rfl (lv_at hl 3 rfl) ?_
      refine lv_aload_n hx hb d_LA_law_272 rfl (lv_at hl 5 rfl) ?_
      refine lv_iload hx hb d_LA_law_273 (lv_at hl 1 rfl) ?_
      refine lv_iconst (v := 1) hx hb d_LA_law_275 (by decide) ?_
      refine lv_iadd hx hb d_LA_law_276 ?_
      refine W.eq (g2 := F0 m 277 ls [.int (nI (4 * k + 1)), .ref b, .ref h]) (by rw [show ((nI (4 * k)) + (1 : Int32)) = nI (4 * k + 1) from zj_ad (4 * k) 1]) ?_
      refine va_sld hx hb hX hbl (zj_bA hbl) hS (vp_in_nI (show 4 * k + 1 < L by omega) (by omega)) d_LA_law_277 ?_
      rw [nI_clamp (show 4 * k + 1 < 2 ^ 31 by omega)]
      refine lv_aload_n hx hb d_LA_law_278 rfl (lv_at hl 5 rfl) ?_
      refine lv_iload hx hb d_LA_law_279 (lv_at hl 1 rfl) ?_
      refine lv_iconst (v := 2) hx hb d_LA_law_281 (by decide) ?_
      refine lv_iadd hx hb d_LA_law_282 ?_
      refine W.eq (g2 := F0 m 283 ls [.int (nI (4 * k + 2)), .ref b, .int (xs (4 * k + 1)), .ref h]) (by rw [show ((nI (4 * k)) + (2 : Int32)) = nI (4 * k + 2) from zj_ad (4 * k) 2]) ?_
      refine va_sld hx hb hX hbl (zj_bA hbl) hS (vp_in_nI (show 4 * k + 2 < L by omega) (by omega)) d_LA_law_283 ?_
      rw [nI_clamp (show 4 * k + 2 < 2 ^ 31 by omega)]
      refine lv_if_eq (tgt := 291) hx hb d_LA_law_284 (by decide) (fun h284 => ?_) (fun h284 => absurd (hz0) h284)
      refine lv_iconst (v := 0) hx hb d_LA_law_291 (by decide) ?_
      refine zm_call (wc := ymc cI cZ h bb M) (wc1 := ymc cI cZ h bb (Y_open_ok M (xs (4 * k + 1)).toNatClampNeg false)) (wr := zxo cI cJ cP cS a (X_open X (xs (4 * k + 1)) false) ao (vp_updL ov 0 (V_open X (xs (4 * k + 1)) false))) (va_runV (Ts := []) (As := [.int (xs (4 * k + 1)), .int 0]) (rest := []) ⟨hx, hb, hml, hown, fun _ h => absurd h List.not_mem_nil⟩ (N_open_ok l D cI cJ cZ cP cS h bb M (xs (4 * k + 1)).toNatClampNeg false h12 ht _) ⟨zc_B 2 hok c_MO_open_w t_10 t_798 rfl rfl (by decide +kernel) ⟨Nat.le_of_ble_eq_true rfl, Nat.le_of_ble_eq_true rfl⟩, hok _ t_799 rfl _, hok _ t_800 rfl _⟩ ⟨fun a U g mk q => by obtain ⟨q0, q1, q2, qP, qK, qD⟩ := q; exact ⟨q0, q1, q2.call g mk a, qP, va_K.moved (u := U) (U := U.calling g mk a) (Vm.Alike.refl U.vm) qK, qD⟩, va_recv hK hP (ci := 8) (q0 := 49) rfl rfl, fun U hU hW => ⟨(by rw [← e1]; rfl), by rw [hU], hok.warm hW, by rw [hU]; exact zj_Pr hP, va_K.moved hW.alike hK, zj_Dr hD⟩⟩ rfl rfl hl.1 rfl (lv_room (Nat.le_of_ble_eq_true rfl)) d_LA_law_292 ⟨by show cells + 1 + 0 ≤ 601024; omega, by show slots + 6 + 0 ≤ 7293034; omega⟩) hS hP hD hA (fun H locs hP hD hS => ?_)
      refine lv_istore hx hb d_LA_law_295 hl (by decide) rfl (fun ls hl => ?_)
      have hl : lv_has ls 7 [(6, .int (U_open_ok M (xs (4 * k + 1)).toNatClampNeg false)), (5, .int 0), (4, .int (nI (4 * k))), (3, .ref ao), (2, .ref h), (1, .ref (a 0)), (0, .ref b)] := hl
      refine lv_aload_n hx hb d_LA_law_297 rfl (lv_at hl 4 rfl) ?_
      refine zc_read (va_runV (Ts := []) (As := []) (rest := []) ⟨hx, hb, hml, hown, fun _ h => absurd h List.not_mem_nil⟩ (m_MO_thrown l D cI cJ cZ cP cS h bb (Y_open_ok M (xs (4 * k + 1)).toNatClampNeg false).1 (Y_open_ok M (xs (4 * k + 1)).toNatClampNeg false).2.1 (Y_open_ok M (xs (4 * k + 1)).toNatClampNeg false).2.2.1 (Y_open_ok M (xs (4 * k + 1)).toNatClampNeg false).2.2.2.1) ⟨zc_B 0 hok c_MO_thrown_w t_10 t_782 rfl rfl (by decide +kernel) ⟨Nat.le_of_ble_eq_true rfl, Nat.le_of_ble_eq_true rfl⟩, hok _ t_783 rfl _, hok _ t_784 rfl _⟩ ⟨fun a U g mk q => by obtain ⟨q0, q2, qP, qK⟩ := q; exact ⟨q0, q2.call g mk a, qP, va_K.moved (u := U) (U := U.calling g mk a) (Vm.Alike.refl U.vm) qK⟩, va_recv hK hP (ci := 8) (q0 := 49) rfl rfl, fun U hU hW => ⟨rfl, hok.warm hW, by rw [hU]; exact hP.sub [49] rfl, va_K.moved hW.alike hK⟩⟩ rfl rfl hl.1 rfl (lv_room (Nat.le_of_ble_eq_true rfl)) d_LA_law_298 ⟨by show cells + 1 + 0 ≤ 601024; omega, by show slots + 6 + 0 ≤ 7293034; omega⟩) ?_
      refine W.eq (g2 := F0 m 301 ls [.int 0]) rfl ?_
      refine lv_iload hx hb d_LA_law_301 (lv_at hl 1 rfl) ?_
      refine lv_icmp_eq (tgt := 308) hx hb d_LA_law_303 (by decide) (fun h303 => ?_) (fun h303 => absurd (rfl) h303)
      refine lv_iload hx hb d_LA_law_308 (lv_at hl 1 rfl) ?_
      refine lv_if_ne (tgt := 332) hx hb d_LA_law_310 (by decide) (fun h310 => absurd ((rfl : (0 : Int32) = 0)) h310) (fun h310 => ?_)
      refine lv_aload_n hx hb d_LA_law_313 rfl (lv_at hl 3 rfl) ?_
      refine lv_iconst (v := 0) hx hb d_LA_law_314 (by decide) ?_
      refine va_lald hx hb hK hP 48 1 rfl rfl (show vp_in (nI 0) 1 from vp_in_nI (by decide) (by decide)) d_LA_law_315 ?_
      refine W.eq (g2 := F0 m 316 ls [.long (V_open X (xs (4 * k + 1)) false)]) rfl ?_
      refine lv_iload hx hb d_LA_law_316 (lv_at hl 0 rfl) ?_
      refine lv_if_eq (tgt := 325) hx hb d_LA_law_318 (by decide) (fun hz => ?_) (fun hz => ?_)
      · have hv0 : (M.2.2.2.2.2.2.1 (xs (4 * k + 1)).toNatClampNeg) = false := (rz_zb _).1 hz
        have hVb : zbL (M.2.2.2.2.2.2.1 (xs (4 * k + 1)).toNatClampNeg) = 0 := by rw [hv0]; rfl
        refine lv_lconst (v := 0) hx hb d_LA_law_325 (by decide) ?_
        refine W.lcmp hx hb d_LA_law_326 ?_
        refine lv_if_eq (tgt := 332) hx hb d_LA_law_327 (by decide) (fun h327 => ?_) (fun h327 => absurd (zj_lg (by rw [hV]; exact hVb)) h327)
        refine lv_goto (tgt := 1344) hx hb d_LA_law_332 (by decide) ?_
        exact W.widen (by omega) (by omega) (kk (X_open X (xs (4 * k + 1)) false) (Y_open_ok M (xs (4 * k + 1)).toNatClampNeg false) (vp_updL ov 0 (V_open X (xs (4 * k + 1)) false)) H locs ls hN hP hD hS (lv_sub hl [2, 3, 4, 5, 6] rfl))
      · have hv1 : (M.2.2.2.2.2.2.1 (xs (4 * k + 1)).toNatClampNeg) = true := by
          cases hv9 : (M.2.2.2.2.2.2.1 (xs (4 * k + 1)).toNatClampNeg)
          · exact absurd ((rz_zb _).2 hv9) hz
          · rfl
        have hVb : zbL (M.2.2.2.2.2.2.1 (xs (4 * k + 1)).toNatClampNeg) = 1 := by rw [hv1]; rfl
        refine lv_lconst (v := 1) hx hb d_LA_law_321 (by decide) ?_
        refine lv_goto (tgt := 326) hx hb d_LA_law_322 (by decide) ?_
        refine W.lcmp hx hb d_LA_law_326 ?_
        refine lv_if_eq (tgt := 332) hx hb d_LA_law_327 (by decide) (fun h327 => ?_) (fun h327 => absurd (zj_lg (by rw [hV]; exact hVb)) h327)
        refine lv_goto (tgt := 1344) hx hb d_LA_law_332 (by decide) ?_
        exact W.widen (by omega) (by omega) (kk (X_open X (xs (4 * k + 1)) false) (Y_open_ok M (xs (4 * k + 1)).toNatClampNeg false) (vp_updL ov 0 (V_open X (xs (4 * k + 1)) false)) H locs ls hN hP hD hS (lv_sub hl [2, 3, 4, 5, 6] rfl))
    · refine lv_istore hx hb d_LA_law_269 hl (by decide) rfl (fun ls hl => ?_)
      have hl : lv_has ls 7 [(5, .int (if Y = zx_iae then 1 else 2)), (4, .int (nI (4 * k))), (3, .ref ao), (2, .ref h), (1, .ref (a 0)), (0, .ref b)] := hl
      refine lv_aload_n hx hb d_LA_law_271 rfl (lv_at hl 3 rfl) ?_
      refine lv_aload_n hx hb d_LA_law_272 rfl (lv_at hl 5 rfl) ?_
      refine lv_iload hx hb d_LA_law_273 (lv_at hl 1 rfl) ?_
      refine lv_iconst (v := 1) hx hb d_LA_law_275 (by decide) ?_
      refine lv_iadd hx hb d_LA_law_276 ?_
      refine W.eq (g2 := F0 m 277 ls [.int (nI (4 * k + 1)), .ref b, .ref h]) (by rw [show ((nI (4 * k)) + (1 : Int32)) = nI (4 * k + 1) from zj_ad (4 * k) 1]) ?_
      refine va_sld hx hb hX hbl (zj_bA hbl) hS (vp_in_nI (show 4 * k + 1 < L by omega) (by omega)) d_LA_law_277 ?_
      rw [nI_clamp (show 4 * k + 1 < 2 ^ 31 by omega)]
      refine lv_aload_n hx hb d_LA_law_278 rfl (lv_at hl 5 rfl) ?_
      refine lv_iload hx hb d_LA_law_279 (lv_at hl 1 rfl) ?_
      refine lv_iconst (v := 2) hx hb d_LA_law_281 (by decide) ?_
      refine lv_iadd hx hb d_LA_law_282 ?_
      refine W.eq (g2 := F0 m 283 ls [.int (nI (4 * k + 2)), .ref b, .int (xs (4 * k + 1)), .ref h]) (by rw [show ((nI (4 * k)) + (2 : Int32)) = nI (4 * k + 2) from zj_ad (4 * k) 2]) ?_
      refine va_sld hx hb hX hbl (zj_bA hbl) hS (vp_in_nI (show 4 * k + 2 < L by omega) (by omega)) d_LA_law_283 ?_
      rw [nI_clamp (show 4 * k + 2 < 2 ^ 31 by omega)]
      refine lv_if_eq (tgt := 291) hx hb d_LA_law_284 (by decide) (fun h284 => ?_) (fun h284 => absurd (hz0) h284)
      refine lv_iconst (v := 0) hx hb d_LA_law_291 (by decide) ?_
      refine zm_call (wc := ymc cI cZ h bb M) (wc1 := ymc cI cZ h bb (Y_open_bad M (xs (4 * k + 1)) false (if Y = zx_iae then 1 else 2))) (wr := zxo cI cJ cP cS a X ao ov) (va_runV (Ts := []) (As := [.int (xs (4 * k + 1)), .int 0]) (rest := []) ⟨hx, hb, hml, hown, fun _ h => absurd h List.not_mem_nil⟩ (N_open_bad l D cI cJ cZ cP cS h bb M (xs (4 * k + 1)) false (if Y = zx_iae then 1 else 2) (ra_open_bad hLI hE) (zj_t0 Y) _) ⟨zc_B 2 hok c_MO_open_w t_10 t_798 rfl rfl (by decide +kernel) ⟨Nat.le_of_ble_eq_true rfl, Nat.le_of_ble_eq_true rfl⟩, hok _ t_799 rfl _, hok _ t_800 rfl _⟩ ⟨fun a U g mk q => by obtain ⟨q0, q1, q2, qP, qK, qD⟩ := q; exact ⟨q0, q1, q2.call g mk a, qP, va_K.moved (u := U) (U := U.calling g mk a) (Vm.Alike.refl U.vm) qK, qD⟩, va_recv hK hP (ci := 8) (q0 := 49) rfl rfl, fun U hU hW => ⟨rfl, by rw [hU], hok.warm hW, by rw [hU]; exact zj_Pr hP, va_K.moved hW.alike hK, zj_Dr hD⟩⟩ rfl rfl hl.1 rfl (lv_room (Nat.le_of_ble_eq_true rfl)) d_LA_law_292 ⟨by show cells + 1 + 0 ≤ 601024; omega, by show slots + 6 + 0 ≤ 7293034; omega⟩) hS hP hD hA (fun H locs hP hD hS => ?_)
      refine lv_istore hx hb d_LA_law_295 hl (by decide) rfl (fun ls hl => ?_)
      have hl : lv_has ls 7 [(6, .int (U_open_bad M (xs (4 * k + 1)) false (if Y = zx_iae then 1 else 2))), (5, .int (if Y = zx_iae then 1 else 2)), (4, .int (nI (4 * k))), (3, .ref ao), (2, .ref h), (1, .ref (a 0)), (0, .ref b)] := hl
      refine lv_aload_n hx hb d_LA_law_297 rfl (lv_at hl 4 rfl) ?_
      refine zc_read (va_runV (Ts := []) (As := []) (rest := []) ⟨hx, hb, hml, hown, fun _ h => absurd h List.not_mem_nil⟩ (m_MO_thrown l D cI cJ cZ cP cS h bb (Y_open_bad M (xs (4 * k + 1)) false (if Y = zx_iae then 1 else 2)).1 (Y_open_bad M (xs (4 * k + 1)) false (if Y = zx_iae then 1 else 2)).2.1 (Y_open_bad M (xs (4 * k + 1)) false (if Y = zx_iae then 1 else 2)).2.2.1 (Y_open_bad M (xs (4 * k + 1)) false (if Y = zx_iae then 1 else 2)).2.2.2.1) ⟨zc_B 0 hok c_MO_thrown_w t_10 t_782 rfl rfl (by decide +kernel) ⟨Nat.le_of_ble_eq_true rfl, Nat.le_of_ble_eq_true rfl⟩, hok _ t_783 rfl _, hok _ t_784 rfl _⟩ ⟨fun a U g mk q => by obtain ⟨q0, q2, qP, qK⟩ := q; exact ⟨q0, q2.call g mk a, qP, va_K.moved (u := U) (U := U.calling g mk a) (Vm.Alike.refl U.vm) qK⟩, va_recv hK hP (ci := 8) (q0 := 49) rfl rfl, fun U hU hW => ⟨rfl, hok.warm hW, by rw [hU]; exact hP.sub [49] rfl, va_K.moved hW.alike hK⟩⟩ rfl rfl hl.1 rfl (lv_room (Nat.le_of_ble_eq_true rfl)) d_LA_law_298 ⟨by show cells + 1 + 0 ≤ 601024; omega, by show slots + 6 + 0 ≤ 7293034; omega⟩) ?_
      refine W.eq (g2 := F0 m 301 ls [.int (if Y = zx_iae then 1 else 2)]) rfl ?_
      refine lv_iload hx hb d_LA_law_301 (lv_at hl 1 rfl) ?_
      refine lv_icmp_eq (tgt := 308) hx hb d_LA_law_303 (by decide) (fun h303 => ?_) (fun h303 => absurd (rfl) h303)
      refine lv_iload hx hb d_LA_law_308 (lv_at hl 1 rfl) ?_
      refine lv_if_ne (tgt := 332) hx hb d_LA_law_310 (by decide) (fun h310 => ?_) (fun h310 => absurd h310 (zj_t0 Y))
      refine lv_goto (tgt := 1344) hx hb d_LA_law_332 (by decide) ?_
      exact W.widen (by omega) (by omega) (kk X (Y_open_bad M (xs (4 * k + 1)) false (if Y = zx_iae then 1 else 2)) ov H locs ls (hLI.th (if Y = zx_iae then 1 else 2)) hP hD hS (lv_sub hl [2, 3, 4, 5, 6] rfl))
  · refine lv_iconst (v := 1) hx hb d_LA_law_260 (by decide) ?_
    refine lv_goto (tgt := 265) hx hb d_LA_law_261 (by decide) ?_
    refine lv_aload_n hx hb d_LA_law_265 rfl (lv_at hl 1 rfl) ?_
    refine zl_call (wc := zxo cI cJ cP cS a X ao ov) (wc1 := zxo cI cJ cP cS a (X_open X (xs (4 * k + 1)) true) ao (vp_updL ov 0 (V_open X (xs (4 * k + 1)) true))) (wr := ymc cI cZ h bb M) (zl_runS (n := 4) (Ts := []) (As := [.ref (a 0), .int (xs (4 * k + 1)), .int 1, .ref ao]) (rest := []) ⟨hx, hb, hml, hown, fun _ h => absurd h List.not_mem_nil⟩ (M_LA_open l htr D cI cJ cZ cP cS a X (xs (4 * k + 1)) true ao ov _) hok t_373 t_0 t_371 t_372 rfl rfl (by decide +kernel) ⟨Nat.le_of_ble_eq_true rfl, Nat.le_of_ble_eq_true rfl⟩ ⟨fun a U g mk q => by obtain ⟨q0, q1, q2, q3, q4, qP, qK, qD⟩ := q; exact ⟨q0, q1, q2.call g mk a, q3.moved (Vm.Alike.refl _), q4.moved (Vm.Alike.refl _), qP, va_K.moved (u := U) (U := U.calling g mk a) (Vm.Alike.refl U.vm) qK, qD⟩, fun U hU hW => ⟨rfl, by rw [hU], hok.warm hW, by rw [hU]; exact zs_ok.kept hs (zj_nil (D := D) (cl := cls)) hS hW.alike, hno.moved hW.alike, by rw [hU]; exact zj_Pl hP, va_K.moved hW.alike hK, zj_Dl hD⟩⟩ rfl rfl hl.1 rfl (lv_room (Nat.le_of_ble_eq_true rfl)) d_LA_law_266 ⟨by show cells + 1 ≤ 601024; omega, by show slots + 6 ≤ 7293034; omega⟩) hS hP hD hA (fun hk9 H locs hP hD hS => ?_) (fun Y H locs hE hP hD hS => ?_)
    · obtain ⟨e1, h12, ht, hV, hN⟩ := ra_open_ok hLI hk9
      refine lv_istore hx hb d_LA_law_269 hl (by decide) rfl (fun ls hl => ?_)
      have hl : lv_has ls 7 [(5, .int 0), (4, .int (nI (4 * k))), (3, .ref ao), (2, .ref h), (1, .ref (a 0)), (0, .ref b)] := hl
      refine lv_aload_n hx hb d_LA_law_271 rfl (lv_at hl 3 rfl) ?_
      refine lv_aload_n hx hb d_LA_law_272 rfl (lv_at hl 5 rfl) ?_
      refine lv_iload hx hb d_LA_law_273 (lv_at hl 1 rfl) ?_
      refine lv_iconst (v := 1) hx hb d_LA_law_275 (by decide) ?_
      refine lv_iadd hx hb d_LA_law_276 ?_
      refine W.eq (g2 := F0 m 277 ls [.int (nI (4 * k + 1)), .ref b, .ref h]) (by rw [show ((nI (4 * k)) + (1 : Int32)) = nI (4 * k + 1) from zj_ad (4 * k) 1]) ?_
      refine va_sld hx hb hX hbl (zj_bA hbl) hS (vp_in_nI (show 4 * k + 1 < L by omega) (by omega)) d_LA_law_277 ?_
      rw [nI_clamp (show 4 * k + 1 < 2 ^ 31 by omega)]
      refine lv_aload_n hx hb d_LA_law_278 rfl (lv_at hl 5 rfl) ?_
      refine lv_iload hx hb d_LA_law_279 (lv_at hl 1 rfl) ?_
      refine lv_iconst (v := 2) hx hb d_LA_law_281 (by decide) ?_
      refine lv_iadd hx hb d_LA_law_282 ?_
      refine W.eq (g2 := F0 m 283 ls [.int (nI (4 * k + 2)), .ref b, .int (xs (4 * k + 1)), .ref h]) (by rw [show ((nI (4 * k)) + (2 : Int32)) = nI (4 * k + 2) from zj_ad (4 * k) 2]) ?_
      refine va_sld hx hb hX hbl (zj_bA hbl) hS (vp_in_nI (show 4 * k + 2 < L by omega) (by omega)) d_LA_law_283 ?_
      rw [nI_clamp (show 4 * k + 2 < 2 ^ 31 by omega)]
      refine lv_if_eq (tgt := 291) hx hb d_LA_law_284 (by decide) (fun h284 => absurd h284 (hz0)) (fun h284 => ?_)
      refine lv_iconst (v := 1) hx hb d_LA_law_287 (by decide) ?_
      refine lv_goto (tgt := 292) hx hb d_LA_law_288 (by decide) ?_
      refine zm_call (wc := ymc cI cZ h bb M) (wc1 := ymc cI cZ h bb (Y_open_ok M (xs (4 * k + 1)).toNatClampNeg true)) (wr := zxo cI cJ cP cS a (X_open X (xs (4 * k + 1)) true) ao (vp_updL ov 0 (V_open X (xs (4 * k + 1)) true))) (va_runV (Ts := []) (As := [.int (xs (4 * k + 1)), .int 1]) (rest := []) ⟨hx, hb, hml, hown, fun _ h => absurd h List.not_mem_nil⟩ (N_open_ok l D cI cJ cZ cP cS h bb M (xs (4 * k + 1)).toNatClampNeg true h12 ht _) ⟨zc_B 2 hok c_MO_open_w t_10 t_798 rfl rfl (by decide +kernel) ⟨Nat.le_of_ble_eq_true rfl, Nat.le_of_ble_eq_true rfl⟩, hok _ t_799 rfl _, hok _ t_800 rfl _⟩ ⟨fun a U g mk q => by obtain ⟨q0, q1, q2, qP, qK, qD⟩ := q; exact ⟨q0, q1, q2.call g mk a, qP, va_K.moved (u := U) (U := U.calling g mk a) (Vm.Alike.refl U.vm) qK, qD⟩, va_recv hK hP (ci := 8) (q0 := 49) rfl rfl, fun U hU hW => ⟨(by rw [← e1]; rfl), by rw [hU], hok.warm hW, by rw [hU]; exact zj_Pr hP, va_K.moved hW.alike hK, zj_Dr hD⟩⟩ rfl rfl hl.1 rfl (lv_room (Nat.le_of_ble_eq_true rfl)) d_LA_law_292 ⟨by show cells + 1 + 0 ≤ 601024; omega, by show slots + 6 + 0 ≤ 7293034; omega⟩) hS hP hD hA (fun H locs hP hD hS => ?_)
      refine lv_istore hx hb d_LA_law_295 hl (by decide) rfl (fun ls hl => ?_)
      have hl : lv_has ls 7 [(6, .int (U_open_ok M (xs (4 * k + 1)).toNatClampNeg true)), (5, .int 0), (4, .int (nI (4 * k))), (3, .ref ao), (2, .ref h), (1, .ref (a 0)), (0, .ref b)] := hl
      refine lv_aload_n hx hb d_LA_law_297 rfl (lv_at hl 4 rfl) ?_
      refine zc_read (va_runV (Ts := []) (As := []) (rest := []) ⟨hx, hb, hml, hown, fun _ h => absurd h List.not_mem_nil⟩ (m_MO_thrown l D cI cJ cZ cP cS h bb (Y_open_ok M (xs (4 * k + 1)).toNatClampNeg true).1 (Y_open_ok M (xs (4 * k + 1)).toNatClampNeg true).2.1 (Y_open_ok M (xs (4 * k + 1)).toNatClampNeg true).2.2.1 (Y_open_ok M (xs (4 * k + 1)).toNatClampNeg true).2.2.2.1) ⟨zc_B 0 hok c_MO_thrown_w t_10 t_782 rfl rfl (by decide +kernel) ⟨Nat.le_of_ble_eq_true rfl, Nat.le_of_ble_eq_true rfl⟩, hok _ t_783 rfl _, hok _ t_784 rfl _⟩ ⟨fun a U g mk q => by obtain ⟨q0, q2, qP, qK⟩ := q; exact ⟨q0, q2.call g mk a, qP, va_K.moved (u := U) (U := U.calling g mk a) (Vm.Alike.refl U.vm) qK⟩, va_recv hK hP (ci := 8) (q0 := 49) rfl rfl, fun U hU hW => ⟨rfl, hok.warm hW, by rw [hU]; exact hP.sub [49] rfl, va_K.moved hW.alike hK⟩⟩ rfl rfl hl.1 rfl (lv_room (Nat.le_of_ble_eq_true rfl)) d_LA_law_298 ⟨by show cells + 1 + 0 ≤ 601024; omega, by show slots + 6 + 0 ≤ 7293034; omega⟩) ?_
      refine W.eq (g2 := F0 m 301 ls [.int 0]) rfl ?_
      refine lv_iload hx hb d_LA_law_301 (lv_at hl 1 rfl) ?_
      refine lv_icmp_eq (tgt := 308) hx hb d_LA_law_303 (by decide) (fun h303 => ?_) (fun h303 => absurd (rfl) h303)
      refine lv_iload hx hb d_LA_law_308 (lv_at hl 1 rfl) ?_
      refine lv_if_ne (tgt := 332) hx hb d_LA_law_310 (by decide) (fun h310 => absurd ((rfl : (0 : Int32) = 0)) h310) (fun h310 => ?_)
      refine lv_aload_n hx hb d_LA_law_313 rfl (lv_at hl 3 rfl) ?_
      refine lv_iconst (v := 0) hx hb d_LA_law_314 (by decide) ?_
      refine va_lald hx hb hK hP 48 1 rfl rfl (show vp_in (nI 0) 1 from vp_in_nI (by decide) (by decide)) d_LA_law_315 ?_
      refine W.eq (g2 := F0 m 316 ls [.long (V_open X (xs (4 * k + 1)) true)]) rfl ?_
      refine lv_iload hx hb d_LA_law_316 (lv_at hl 0 rfl) ?_
      refine lv_if_eq (tgt := 325) hx hb d_LA_law_318 (by decide) (fun hz => ?_) (fun hz => ?_)
      · have hv0 : (M.2.2.2.2.2.2.1 (xs (4 * k + 1)).toNatClampNeg) = false := (rz_zb _).1 hz
        have hVb : zbL (M.2.2.2.2.2.2.1 (xs (4 * k + 1)).toNatClampNeg) = 0 := by rw [hv0]; rfl
        refine lv_lconst (v := 0) hx hb d_LA_law_325 (by decide) ?_
        refine W.lcmp hx hb d_LA_law_326 ?_
        refine lv_if_eq (tgt := 332) hx hb d_LA_law_327 (by decide) (fun h327 => ?_) (fun h327 => absurd (zj_lg (by rw [hV]; exact hVb)) h327)
        refine lv_goto (tgt := 1344) hx hb d_LA_law_332 (by decide) ?_
        exact W.widen (by omega) (by omega) (kk (X_open X (xs (4 * k + 1)) true) (Y_open_ok M (xs (4 * k + 1)).toNatClampNeg true) (vp_updL ov 0 (V_open X (xs (4 * k + 1)) true)) H locs ls hN hP hD hS (lv_sub hl [2, 3, 4, 5, 6] rfl))
      · have hv1 : (M.2.2.2.2.2.2.1 (xs (4 * k + 1)).toNatClampNeg) = true := by
          cases hv9 : (M.2.2.2.2.2.2.1 (xs (4 * k + 1)).toNatClampNeg)
          · exact absurd ((rz_zb _).2 hv9) hz
          · rfl
        have hVb : zbL (M.2.2.2.2.2.2.1 (xs (4 * k + 1)).toNatClampNeg) = 1 := by rw [hv1]; rfl
        refine lv_lconst (v := 1) hx hb d_LA_law_321 (by decide) ?_
        refine lv_goto (tgt := 326) hx hb d_LA_law_322 (by decide) ?_
        refine W.lcmp hx hb d_LA_law_326 ?_
        refine lv_if_eq (tgt := 332) hx hb d_LA_law_327 (by decide) (fun h327 => ?_) (fun h327 => absurd (zj_lg (by rw [hV]; exact hVb)) h327)
        refine lv_goto (tgt := 1344) hx hb d_LA_law_332 (by decide) ?_
        exact W.widen (by omega) (by omega) (kk (X_open X (xs (4 * k + 1)) true) (Y_open_ok M (xs (4 * k + 1)).toNatClampNeg true) (vp_updL ov 0 (V_open X (xs (4 * k + 1)) true)) H locs ls hN hP hD hS (lv_sub hl [2, 3, 4, 5, 6] rfl))
    · refine lv_istore hx hb d_LA_law_269 hl (by decide) rfl (fun ls hl => ?_)
      have hl : lv_has ls 7 [(5, .int (if Y = zx_iae then 1 else 2)), (4, .int (nI (4 * k))), (3, .ref ao), (2, .ref h), (1, .ref (a 0)), (0, .ref b)] := hl
      refine lv_aload_n hx hb d_LA_law_271 rfl (lv_at hl 3 rfl) ?_
      refine lv_aload_n hx hb d_LA_law_272 rfl (lv_at hl 5 rfl) ?_
      refine lv_iload hx hb d_LA_law_273 (lv_at hl 1 rfl) ?_
      refine lv_iconst (v := 1) hx hb d_LA_law_275 (by decide) ?_
      refine lv_iadd hx hb d_LA_law_276 ?_
      refine W.eq (g2 := F0 m 277 ls [.int (nI (4 * k + 1)), .ref b, .ref h]) (by rw [show ((nI (4 * k)) + (1 : Int32)) = nI (4 * k + 1) from zj_ad (4 * k) 1]) ?_
      refine va_sld hx hb hX hbl (zj_bA hbl) hS (vp_in_nI (show 4 * k + 1 < L by omega) (by omega)) d_LA_law_277 ?_
      rw [nI_clamp (show 4 * k + 1 < 2 ^ 31 by omega)]
      refine lv_aload_n hx hb d_LA_law_278 rfl (lv_at hl 5 rfl) ?_
      refine lv_iload hx hb d_LA_law_279 (lv_at hl 1 rfl) ?_
      refine lv_iconst (v := 2) hx hb d_LA_law_281 (by decide) ?_
      refine lv_iadd hx hb d_LA_law_282 ?_
      refine W.eq (g2 := F0 m 283 ls [.int (nI (4 * k + 2)), .ref b, .int (xs (4 * k + 1)), .ref h]) (by rw [show ((nI (4 * k)) + (2 : Int32)) = nI (4 * k + 2) from zj_ad (4 * k) 2]) ?_
      refine va_sld hx hb hX hbl (zj_bA hbl) hS (vp_in_nI (show 4 * k + 2 < L by omega) (by omega)) d_LA_law_283 ?_
      rw [nI_clamp (show 4 * k + 2 < 2 ^ 31 by omega)]
      refine lv_if_eq (tgt := 291) hx hb d_LA_law_284 (by decide) (fun h284 => absurd h284 (hz0)) (fun h284 => ?_)
      refine lv_iconst (v := 1) hx hb d_LA_law_287 (by decide) ?_
      refine lv_goto (tgt := 292) hx hb d_LA_law_288 (by decide) ?_
      refine zm_call (wc := ymc cI cZ h bb M) (wc1 := ymc cI cZ h bb (Y_open_bad M (xs (4 * k + 1)) true (if Y = zx_iae then 1 else 2))) (wr := zxo cI cJ cP cS a X ao ov) (va_runV (Ts := []) (As := [.int (xs (4 * k + 1)), .int 1]) (rest := []) ⟨hx, hb, hml, hown, fun _ h => absurd h List.not_mem_nil⟩ (N_open_bad l D cI cJ cZ cP cS h bb M (xs (4 * k + 1)) true (if Y = zx_iae then 1 else 2) (ra_open_bad hLI hE) (zj_t0 Y) _) ⟨zc_B 2 hok c_MO_open_w t_10 t_798 rfl rfl (by decide +kernel) ⟨Nat.le_of_ble_eq_true rfl, Nat.le_of_ble_eq_true rfl⟩, hok _ t_799 rfl _, hok _ t_800 rfl _⟩ ⟨fun a U g mk q => by obtain ⟨q0, q1, q2, qP, qK, qD⟩ := q; exact ⟨q0, q1, q2.call g mk a, qP, va_K.moved (u := U) (U := U.calling g mk a) (Vm.Alike.refl U.vm) qK, qD⟩, va_recv hK hP (ci := 8) (q0 := 49) rfl rfl, fun U hU hW => ⟨rfl, by rw [hU], hok.warm hW, by rw [hU]; exact zj_Pr hP, va_K.moved hW.alike hK, zj_Dr hD⟩⟩ rfl rfl hl.1 rfl (lv_room (Nat.le_of_ble_eq_true rfl)) d_LA_law_292 ⟨by show cells + 1 + 0 ≤ 601024; omega, by show slots + 6 + 0 ≤ 7293034; omega⟩) hS hP hD hA (fun H locs hP hD hS => ?_)
      refine lv_istore hx hb d_LA_law_295 hl (by decide) rfl (fun ls hl => ?_)
      have hl : lv_has ls 7 [(6, .int (U_open_bad M (xs (4 * k + 1)) true (if Y = zx_iae then 1 else 2))), (5, .int (if Y = zx_iae then 1 else 2)), (4, .int (nI (4 * k))), (3, .ref ao), (2, .ref h), (1, .ref (a 0)), (0, .ref b)] := hl
      refine lv_aload_n hx hb d_LA_law_297 rfl (lv_at hl 4 rfl) ?_
      refine zc_read (va_runV (Ts := []) (As := []) (rest := []) ⟨hx, hb, hml, hown, fun _ h => absurd h List.not_mem_nil⟩ (m_MO_thrown l D cI cJ cZ cP cS h bb (Y_open_bad M (xs (4 * k + 1)) true (if Y = zx_iae then 1 else 2)).1 (Y_open_bad M (xs (4 * k + 1)) true (if Y = zx_iae then 1 else 2)).2.1 (Y_open_bad M (xs (4 * k + 1)) true (if Y = zx_iae then 1 else 2)).2.2.1 (Y_open_bad M (xs (4 * k + 1)) true (if Y = zx_iae then 1 else 2)).2.2.2.1) ⟨zc_B 0 hok c_MO_thrown_w t_10 t_782 rfl rfl (by decide +kernel) ⟨Nat.le_of_ble_eq_true rfl, Nat.le_of_ble_eq_true rfl⟩, hok _ t_783 rfl _, hok _ t_784 rfl _⟩ ⟨fun a U g mk q => by obtain ⟨q0, q2, qP, qK⟩ := q; exact ⟨q0, q2.call g mk a, qP, va_K.moved (u := U) (U := U.calling g mk a) (Vm.Alike.refl U.vm) qK⟩, va_recv hK hP (ci := 8) (q0 := 49) rfl rfl, fun U hU hW => ⟨rfl, hok.warm hW, by rw [hU]; exact hP.sub [49] rfl, va_K.moved hW.alike hK⟩⟩ rfl rfl hl.1 rfl (lv_room (Nat.le_of_ble_eq_true rfl)) d_LA_law_298 ⟨by show cells + 1 + 0 ≤ 601024; omega, by show slots + 6 + 0 ≤ 7293034; omega⟩) ?_
      refine W.eq (g2 := F0 m 301 ls [.int (if Y = zx_iae then 1 else 2)]) rfl ?_
      refine lv_iload hx hb d_LA_law_301 (lv_at hl 1 rfl) ?_
      refine lv_icmp_eq (tgt := 308) hx hb d_LA_law_303 (by decide) (fun h303 => ?_) (fun h303 => absurd (rfl) h303)
      refine lv_iload hx hb d_LA_law_308 (lv_at hl 1 rfl) ?_
      refine lv_if_ne (tgt := 332) hx hb d_LA_law_310 (by decide) (fun h310 => ?_) (fun h310 => absurd h310 (zj_t0 Y))
      refine lv_goto (tgt := 1344) hx hb d_LA_law_332 (by decide) ?_
      exact W.widen (by omega) (by omega) (kk X (Y_open_bad M (xs (4 * k + 1)) true (if Y = zx_iae then 1 else 2)) ov H locs ls (hLI.th (if Y = zx_iae then 1 else 2)) hP hD hS (lv_sub hl [2, 3, 4, 5, 6] rfl))
