/-! group over the whole class (rows by program) -/
set_option maxHeartbeats 4000000 in
set_option maxRecDepth 100000 in
theorem M_LA_group (l : Launch) (htr : l.stackTraces = false) (D : va_G) (cI cJ cZ cP cS : ClassId) (a : Nat → Nat) (X : XS) (b : Int32) (d : Int32) (hG : X.1 0 ≤ 6) (ao9 : Nat) (ov : Nat → Int64) (sz : Nat) : Met l y_LA_group [w_LA_group] ro_LA_group (va_Pc [.ref (a 0), .int b, .int d, .ref ao9] (zl_P D (tyl cI cJ cZ cP cS) sz (zxo cI cJ cP cS a X ao9 ov))) (zl_Q (K_group X b d) (E_group X b d) D (zxo cI cJ cP cS a X ao9 ov) (zxo cI cJ cP cS a (X_group X b d) ao9 (vp_updL ov 0 (V_group X b d))) sz) 3 18 (va_A (zxo cI cJ cP cS a X ao9 ov) sz) := by
  exact zl_frameF (fp_0 _ _ _ _ _ _ _ _ _ _ _ _ _ _ _ _ _ _ _ _ _ _ _ _ _ _ _ _ _ _ _ _ _ _ _ _ _ _ _ _ _ _ _ _ _ _ _ _ _ _ _ _ _ _) (m_LA_group l htr D cI cJ cZ cP cS (a 0) (a 1) (a 8) (a 18) (a 35) (a 38) (a 46) (a 2) (a 3) (a 4) (a 5) (a 6) (a 7) (X.1 0) (X.1 1) (X.2.1 0) b d (X.2.2.1 0) (X.2.2.1 1) hG ao9 ov sz)
