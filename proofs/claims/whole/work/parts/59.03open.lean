/-! open over the whole class (rows by program) -/
set_option maxHeartbeats 4000000 in
set_option maxRecDepth 100000 in
theorem M_LA_open (l : Launch) (htr : l.stackTraces = false) (D : va_G) (cI cJ cZ cP cS : ClassId) (a : Nat → Nat) (X : XS) (b : Int32) (i : Bool) (ao9 : Nat) (ov : Nat → Int64) (sz : Nat) : Met l y_LA_open [w_LA_open] ro_LA_open (va_Pc [.ref (a 0), .int b, .int (zb i), .ref ao9] (zl_P D (tyl cI cJ cZ cP cS) sz (zxo cI cJ cP cS a X ao9 ov))) (zl_Q (K_open X b i) (E_open X b i) D (zxo cI cJ cP cS a X ao9 ov) (zxo cI cJ cP cS a (X_open X b i) ao9 (vp_updL ov 0 (V_open X b i))) sz) 1 6 (va_A (zxo cI cJ cP cS a X ao9 ov) sz) := by
  exact zl_frameF (fp_2 _ _ _ _ _ _ _ _ _ _ _ _ _ _ _ _ _ _ _ _ _ _ _ _ _ _ _ _ _ _ _ _ _ _ _ _ _ _ _ _ _ _ _ _ _ _ _ _ _ _ _ _) (m_LA_open l htr D cI cJ cZ cP cS (a 0) (a 1) (a 8) (a 18) (a 35) (a 38) (a 46) (a 2) (a 3) (a 4) (a 5) (a 6) (a 7) (X.1 0) (X.1 1) (X.2.1 0) b i ao9 ov sz)
