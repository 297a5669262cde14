/-! receipt over the whole class (rows by program) -/
set_option maxHeartbeats 4000000 in
set_option maxRecDepth 100000 in
theorem M_LA_receipt (l : Launch) (htr : l.stackTraces = false) (D : va_G) (cI cJ cZ cP cS : ClassId) (a : Nat → Nat) (X : XS) (b : Int32) (ao9 : Nat) (ov : Nat → Int64) (sz : Nat) : Met l y_LA_receipt [w_LA_receipt] ro_LA_receipt (va_Pc [.ref (a 0), .int b, .ref ao9] (zl_P D (tyl cI cJ cZ cP cS) sz (zxo cI cJ cP cS a X ao9 ov))) (zl_Q (K_receipt X b) (E_receipt X b) D (zxo cI cJ cP cS a X ao9 ov) (zxo cI cJ cP cS a X ao9 (vp_updL ov 0 (V_receipt X b))) sz) 2 12 (va_A (zxo cI cJ cP cS a X ao9 ov) sz) := by
  exact zl_frameF (fp_52 _ _ _ _ _ _ _ _ _ _ _ _ _ _ _ _ _ _ _ _ _ _ _ _ _ _ _ _ _ _ _ _ _ _ _ _ _ _ _ _ _ _ _ _ _ _ _ _ _ _ _ _) (m_LA_receipt l htr D cI cJ cZ cP cS (a 0) (a 1) (a 8) (a 18) (a 35) (a 38) (a 46) (a 47) X.2.2.2.1 (X.2.1 10) (X.2.1 11) (X.2.1 12) (X.2.1 13) (X.2.1 14) (X.2.1 15) (X.2.1 16) b ao9 ov sz)
