/-! each call: programmes, students, what is read -/
section
variable {X : XS} {M : MS}
theorem rz_clamp {b : Int32} {n : Nat} (h : 0 ≤ b.toInt) (h2 : b.toInt < n) : b.toNatClampNeg < n := by have := (rz_of h).2; omega
theorem ra_requirement_ok (h : LI X M) {p1 : Nat} (hp1 : p1 < 3) {b d : Int32} (hb1 : zi 0 b 2 → b.toNatClampNeg = p1) (k : K_requirement X p1 b d) : b = nI p1 ∧ M.2.2.2.2.1 p1 ≤ 5 ∧ ytr (nI (M.2.2.2.2.1 p1)) (nI p1) d = 0 ∧ V_requirement X p1 b d = Int32.toInt64 (U_requirement_ok M p1 d) ∧ LI (X_requirement X p1 b d) (Y_requirement_ok M p1 d) := by
  have hq := h.b.rq p1 hp1
  unfold K_requirement at k
  have e1 := hb1 k.1.1
  rw [hq.1, rz_zk, rz_zk, rz_eq, rf_nI (by omega), rf_i0, rz_1, rz_2, rz_6, rz_5] at k
  have kb := rz_of (b := b) k.1.1.1
  rw [e1] at kb
  refine ⟨kb.1, hq.2, ?_, ?_, ⟨?_, ?_, ?_, ?_, ?_⟩⟩
  · unfold ytr; rw [← kb.1, if_neg, if_neg]
    · rw [rz_eq, rf_nI (by omega), rz_5]; omega
    · rw [rz_ynp, rf_lt, rf_le, rz_1, rz_6]; omega
  · show Int32.toInt64 (nI (X.1 (2 + p1) + 1)) = Int32.toInt64 (nI (M.2.2.2.2.1 p1 + 1)); rw [hq.1]
  · exact h.a.congr (mf_up_n _ _ (by omega)) (mf_up_n _ _ (by omega)) rfl (fun k hk => mf_up_n _ _ (by omega)) rfl rfl rfl (fun k hk => mf_up_n _ _ (by omega))
  · have r1 : (Y_requirement_ok M p1 d).2.2.2.2.1 = mf_up M.2.2.2.2.1 p1 (M.2.2.2.2.1 p1 + 1) := rfl
    have b6 : (Y_requirement_ok M p1 d).2.2.2.2.2.2.2 6 = upd (M.2.2.2.2.2.2.2 6) (6 * p1 + (M.2.2.2.2.1 p1 + 1)) d := rfl
    have b7 : (Y_requirement_ok M p1 d).2.2.2.2.2.2.2 7 = M.2.2.2.2.2.2.2 7 := rfl
    refine ⟨fun p hp => ?_, fun p hp r h1 h2 => ?_, fun p hp r hr => ?_⟩
    · rw [r1]
      show mf_up X.1 (2 + p1) (X.1 (2 + p1) + 1) (2 + p) = _ ∧ _
      by_cases e : p = p1
      · subst e; rw [mf_up_s, mf_up_s, hq.1]; exact ⟨rfl, by omega⟩
      · rw [mf_up_n _ _ (by omega), mf_up_n _ _ e]; exact h.b.rq p hp
    · rw [r1] at h2
      rw [b6]
      show mf_up X.2.2.1 (6 + p1) (upd (X.2.2.1 (6 + p1)) (X.1 (2 + p1) + 1) d) (6 + p) r = _ ∧ _
      have hqp := h.b.rq p hp
      by_cases e : p = p1
      · subst e
        rw [mf_up_s] at h2
        rw [mf_up_s, hq.1]
        by_cases er : r = M.2.2.2.2.1 p + 1
        · rw [er, rf_upd_s, rf_upd_s]; exact ⟨rfl, by omega, by omega⟩
        · rw [rf_upd_n _ _ er, rf_upd_n _ _ (by omega)]; exact h.b.dm p hp r h1 (by omega)
      · rw [mf_up_n _ _ e] at h2
        rw [mf_up_n _ _ (by omega), rf_upd_n _ _ (by omega)]; exact h.b.dm p hp r h1 h2
    · rw [b7]
      show mf_up X.2.2.1 (6 + p1) _ (9 + p) r = _
      rw [mf_up_n _ _ (by omega)]; exact h.b.al p hp r hr
  · exact h.c.congr (fun _ _ _ => rfl) (fun k h1 h2 => mf_up_n _ _ (by omega)) rfl rfl rfl rfl rfl rfl
  · exact h.d.congr rfl (fun _ _ _ => rfl) (mf_up_n _ _ (by omega)) rfl rfl rfl
  · exact h.e.congr rfl rfl
theorem ra_requirement_bad (h : LI X M) {p1 : Nat} (hp1 : p1 < 3) {b d : Int32} (hb1 : zi 0 b 2 → b.toNatClampNeg = p1) {Y : String} (k : E_requirement X p1 b d Y) : ytr (nI (M.2.2.2.2.1 b.toNatClampNeg)) b d = if Y = zx_iae then 1 else 2 := by
  have hq := h.b.rq p1 hp1
  unfold E_requirement at k
  rw [hq.1] at k
  have e1 : (zi 0 b 2 ∧ zi 1 d 6) ↔ ¬ (¬ zb (ynp b) = 0 ∨ d < 1 ∨ ¬ d ≤ 6) := by
    rw [rz_ynp, rz_zk, rz_zk, rf_lt, rf_le, rf_i0, rz_1, rz_2, rz_6]; omega
  rcases k with ⟨rfl, k⟩ | ⟨rfl, k, k2⟩
  · rw [if_pos rfl]; unfold ytr; rw [if_pos (Classical.byContradiction (fun z => k (e1.2 z)))]
  · rw [if_neg rz_ise]; unfold ytr; rw [if_neg (e1.1 k), hb1 k.1, if_pos k2]
theorem ra_allow_ok (h : LI X M) {p1 : Nat} (hp1 : p1 < 3) {b d c0 : Int32} (hb1 : zi 0 b 2 → b.toNatClampNeg = p1) (k : K_allow X p1 b d c0) : b = nI p1 ∧ d = nI d.toNatClampNeg ∧ c0 = nI c0.toNatClampNeg ∧ d.toNatClampNeg < 6 ∧ yta M.2.2.2.2.1 M.2.2.1 (nI p1) (nI d.toNatClampNeg) (nI c0.toNatClampNeg) = 0 ∧
    V_allow X p1 b d c0 = zbL (! zh (M.2.2.2.2.2.2.2 7 (6 * p1 + d.toNatClampNeg)) (nI c0.toNatClampNeg)) ∧ LI (X_allow X p1 b d c0) (Y_allow_ok M p1 d.toNatClampNeg c0.toNatClampNeg) := by
  have hq := h.b.rq p1 hp1
  have hC := h.a.hC
  unfold K_allow at k
  have e1 := hb1 k.1
  rw [hq.1, h.a.eC, rz_zi (by omega), rz_zk, rz_zk, rf_nI (by omega), rf_i0, rz_1, rz_2] at k
  have kb := rz_of (b := b) k.1.1
  have kd := rz_of (b := d) (by omega)
  have kc := rz_of (b := c0) k.2.2.1
  rw [e1] at kb
  refine ⟨kb.1, kd.1, kc.1, by omega, ?_, ?_, ⟨?_, ?_, ?_, ?_, ?_⟩⟩
  · unfold yta; rw [← kb.1, ← kd.1, ← kc.1, if_neg]
    rw [rz_ynr (fun p hp => (h.b.rq p hp).2), rz_yng (by omega), e1]; omega
  · show zbL (! zh (X.2.2.1 (9 + p1) d.toNatClampNeg) c0) = _
    rw [h.b.al p1 hp1 _ (by omega), ← kc.1]
  · exact h.a.congr rfl rfl rfl (fun k hk => mf_up_n _ _ (by omega)) rfl rfl rfl (fun k hk => mf_up_n _ _ (by omega))
  · have b7 : (Y_allow_ok M p1 d.toNatClampNeg c0.toNatClampNeg).2.2.2.2.2.2.2 7 = upd (M.2.2.2.2.2.2.2 7) (6 * p1 + d.toNatClampNeg) (M.2.2.2.2.2.2.2 7 (6 * p1 + d.toNatClampNeg) ||| (1 <<< (nI c0.toNatClampNeg &&& 31))) := rfl
    refine ⟨fun p hp => h.b.rq p hp, fun p hp r h1 h2 => ?_, fun p hp r hr => ?_⟩
    · show mf_up X.2.2.1 (9 + p1) _ (6 + p) r = _ ∧ _
      rw [mf_up_n _ _ (by omega)]; exact h.b.dm p hp r h1 h2
    · rw [b7]
      show mf_up X.2.2.1 (9 + p1) (upd (X.2.2.1 (9 + p1)) d.toNatClampNeg (X.2.2.1 (9 + p1) d.toNatClampNeg ||| (1 <<< (c0 &&& 31)))) (9 + p) r = _
      by_cases e : p = p1
      · subst e; rw [mf_up_s]
        by_cases er : r = d.toNatClampNeg
        · rw [er, rf_upd_s, rf_upd_s, h.b.al p hp _ (by omega), ← kc.1]
        · rw [rf_upd_n _ _ er, rf_upd_n _ _ (by omega)]; exact h.b.al p hp r hr
      · rw [mf_up_n _ _ (by omega), rf_upd_n _ _ (by omega)]; exact h.b.al p hp r hr
  · exact h.c.congr (fun _ _ _ => rfl) (fun k h1 h2 => mf_up_n _ _ (by omega)) rfl rfl rfl rfl rfl rfl
  · exact h.d.congr rfl (fun _ _ _ => rfl) (mf_up_n _ _ (by omega)) rfl rfl rfl
  · exact h.e.congr rfl rfl
theorem ra_allow_bad (h : LI X M) {p1 : Nat} (hp1 : p1 < 3) {b d c0 : Int32} (hb1 : zi 0 b 2 → b.toNatClampNeg = p1) {Y : String} (k : E_allow X p1 b d c0 Y) : yta M.2.2.2.2.1 M.2.2.1 b d c0 = if Y = zx_iae then 1 else 2 := by
  have hq := h.b.rq p1 hp1
  have hC := h.a.hC
  unfold E_allow at k
  rw [if_pos k.1]; unfold yta; rw [if_pos]
  have k2 := k.2
  rw [rz_ynr (fun p hp => (h.b.rq p hp).2), rz_yng (by omega)]
  rw [hq.1, h.a.eC, rz_zi (by omega), rz_zk, rz_zk, rf_nI (by omega), rf_i0, rz_1, rz_2] at k2
  rw [rz_zk, rf_i0, rz_2] at hb1
  by_cases e : 0 ≤ b.toInt ∧ b.toInt ≤ 2
  · rw [hb1 e]; omega
  · omega
theorem ra_student_ok (h : LI X M) {s1 : Nat} (hs1 : s1 < 4) {b d : Int32} (hb1 : zi 0 b 3 → b.toNatClampNeg = s1) (k : K_student X s1 b d) : b = nI s1 ∧ yts (nI s1) d = 0 ∧ V_student X s1 b d = Int32.toInt64 (U_student_ok M s1 d) ∧ LI (X_student X s1 b d) (Y_student_ok M s1 d) := by
  unfold K_student at k
  have e1 := hb1 k.1
  rw [rz_zk, rz_zk, rf_i0, rz_2, rz_3] at k
  have kb := rz_of (b := b) k.1.1
  have kd := rz_of (b := d) k.2.1
  rw [e1] at kb
  refine ⟨kb.1, ?_, ?_, ⟨?_, ?_, ?_, ?_, ?_⟩⟩
  · unfold yts; rw [← kb.1, if_neg]; rw [rz_yns, rz_ynp]; omega
  · show Int32.toInt64 (X.2.1 (1 + s1)) = Int32.toInt64 (M.2.2.2.2.2.2.2 8 s1); rw [(h.c.pg s1 hs1).1]
  · exact h.a.congr rfl rfl (mf_up_n _ _ (by omega)) (fun k hk => mf_up_n _ _ (by omega)) rfl rfl rfl (fun k hk => by show mf_up (mf_up _ _ _) _ _ k = _; rw [mf_up_n _ _ (by omega), mf_up_n _ _ (by omega)])
  · exact h.b.congr (fun _ _ => rfl) (fun k h1 h2 => mf_up_n _ _ (by omega)) rfl rfl rfl
  · have b8 : (Y_student_ok M s1 d).2.2.2.2.2.2.2 8 = upd (M.2.2.2.2.2.2.2 8) s1 d := rfl
    have b9 : (Y_student_ok M s1 d).2.2.2.2.2.2.2 9 = M.2.2.2.2.2.2.2 9 := rfl
    have b11 : (Y_student_ok M s1 d).2.2.2.2.2.2.2 11 = M.2.2.2.2.2.2.2 11 := rfl
    have b12 : (Y_student_ok M s1 d).2.2.2.2.2.2.2 12 = M.2.2.2.2.2.2.2 12 := rfl
    have b13 : (Y_student_ok M s1 d).2.2.2.2.2.2.2 13 = yex (M.2.2.2.2.2.2.2 13) s1 6 := rfl
    have hyex : ∀ n, n ≤ 6 → ∀ j, yex (M.2.2.2.2.2.2.2 13) s1 n j = if 6 * s1 ≤ j ∧ j < 6 * s1 + n then 0 else M.2.2.2.2.2.2.2 13 j := by
      intro n; induction n with
      | zero => intro _ j; rw [if_neg (by omega)]; rfl
      | succ m ih =>
        intro hm j
        show upd (yex (M.2.2.2.2.2.2.2 13) s1 m) (6 * s1 + m) 0 j = _
        by_cases e : j = 6 * s1 + m
        · rw [e, rf_upd_s, if_pos (by omega)]
        · rw [rf_upd_n _ _ e, ih (by omega)]
          by_cases e2 : 6 * s1 ≤ j ∧ j < 6 * s1 + m
          · rw [if_pos e2, if_pos (by omega)]
          · rw [if_neg e2, if_neg (by omega)]
    refine ⟨fun s hs => ?_, fun s hs c hc => ?_, fun s hs => ?_, fun s hs => ?_, fun s hs => h.c.pt s hs, fun s hs r hr => ?_⟩
    · rw [b8]
      show mf_up X.2.1 (1 + s1) d (1 + s) = _ ∧ _
      by_cases e : s = s1
      · subst e; rw [mf_up_s, rf_upd_s]; exact ⟨rfl, Or.inr ⟨d.toNatClampNeg, by omega, kd.1⟩⟩
      · rw [mf_up_n _ _ (by omega), rf_upd_n _ _ e]; exact h.c.pg s hs
    · rw [b9]; show mf_up X.2.2.1 (20 + s1) _ (12 + s) c = _ ∧ _
      rw [mf_up_n _ _ (by omega)]; exact h.c.ps s hs c hc
    · show mf_up X.2.1 (1 + s1) d (5 + s) = nI (M.2.2.2.2.2.1 s) ∧ _
      rw [mf_up_n _ _ (by omega)]; exact h.c.pe s hs
    · rw [b11, b12]; show rpt (mf_up X.2.2.1 (20 + s1) _ (16 + s)) _ _ s (M.2.2.2.2.2.1 s)
      rw [mf_up_n _ _ (by omega)]; exact h.c.sf s hs
    · rw [b13, hyex 6 (Nat.le_refl _)]
      show _ ∧ _ ∧ (mf_up X.2.2.1 (20 + s1) (zfl (X.2.2.1 (20 + s1)) 0 6) (20 + s) r).toInt = _
      by_cases e : s = s1
      · subst e; rw [mf_up_s, rf_zfl _ _ 6 r hr, if_pos (by omega), rf_i0]; exact ⟨by omega, by omega, by decide⟩
      · rw [mf_up_n _ _ (by omega), if_neg (by omega)]; exact h.c.ex s hs r hr
  · exact h.d.congr rfl (fun k h1 h2 => mf_up_n _ _ (by omega)) (mf_up_n _ _ (by omega)) rfl rfl rfl
  · exact h.e.congr rfl rfl
theorem ra_student_bad (h : LI X M) {s1 : Nat} {b d : Int32} {Y : String} (k : E_student X s1 b d Y) : yts b d = if Y = zx_iae then 1 else 2 := by
  unfold E_student at k
  rw [rz_zk, rz_zk, rf_i0, rz_2, rz_3] at k
  rw [if_pos k.1]; unfold yts; rw [if_pos]; rw [rz_yns, rz_ynp]; omega
theorem rz_zmax (a b : Int32) : (zmax a b).toInt = if a.toInt < b.toInt then b.toInt else a.toInt := by
  unfold zmax
  by_cases h : a < b
  · rw [if_pos h, if_pos (rf_lt.1 h)]
  · rw [if_neg h, if_neg (fun z => h (rf_lt.2 z))]
theorem rz_ymx (d p : Int32) : ymx d p = zmax p d := by
  apply rf_ext; rw [rz_zmax]; unfold ymx
  by_cases h : d ≤ p
  · have := rf_le.1 h; rw [if_pos h, if_neg (by omega)]
  · have : ¬ d.toInt ≤ p.toInt := fun z => h (rf_le.2 z)
    rw [if_neg h, if_pos (by omega)]
theorem ra_pass_ok (h : LI X M) {s1 : Nat} (hs1 : s1 < 4) {b c0 d : Int32} (hb1 : zi 0 b 3 → b.toNatClampNeg = s1) (k : K_pass X s1 b c0 d) : b = nI s1 ∧ c0 = nI c0.toNatClampNeg ∧ c0.toNatClampNeg < 12 ∧ ytp M.2.2.1 (nI s1) (nI c0.toNatClampNeg) d = 0 ∧ V_pass X s1 b c0 d = Int32.toInt64 (U_pass_ok M s1 c0.toNatClampNeg d) ∧ LI (X_pass X s1 b c0 d) (Y_pass_ok M s1 c0.toNatClampNeg d) := by
  have hC := h.a.hC
  unfold K_pass at k
  have e1 := hb1 k.1
  rw [h.a.eC, rz_zi (by omega), rz_zk, rz_zk, rf_i0, rz_3, rz_99] at k
  have kb := rz_of (b := b) k.1.1
  have kc := rz_of (b := c0) k.2.1.1
  rw [e1] at kb
  have hps := h.c.ps s1 hs1 c0.toNatClampNeg (by omega)
  refine ⟨kb.1, kc.1, by omega, ?_, ?_, ⟨?_, ?_, ?_, ?_, ?_⟩⟩
  · unfold ytp; rw [← kb.1, ← kc.1, if_neg]; rw [rz_yns, rz_yng (by omega), rf_lt, rf_le, rf_i0, rz_99]; omega
  · show Int32.toInt64 (zmax (X.2.2.1 (12 + s1) c0.toNatClampNeg) d) = Int32.toInt64 (ymx d (M.2.2.2.2.2.2.2 9 (12 * s1 + c0.toNatClampNeg))); rw [rz_ymx, hps.1]
  · exact h.a.congr rfl rfl rfl (fun k hk => mf_up_n _ _ (by omega)) rfl rfl rfl (fun k hk => mf_up_n _ _ (by omega))
  · exact h.b.congr (fun _ _ => rfl) (fun k h1 h2 => mf_up_n _ _ (by omega)) rfl rfl rfl
  · have b9 : (Y_pass_ok M s1 c0.toNatClampNeg d).2.2.2.2.2.2.2 9 = upd (M.2.2.2.2.2.2.2 9) (12 * s1 + c0.toNatClampNeg) (ymx d (M.2.2.2.2.2.2.2 9 (12 * s1 + c0.toNatClampNeg))) := rfl
    refine ⟨fun s hs => h.c.pg s hs, fun s hs c hc => ?_, fun s hs => h.c.pe s hs, fun s hs => ?_, fun s hs => h.c.pt s hs, fun s hs r hr => ?_⟩
    · rw [b9]
      show mf_up X.2.2.1 (12 + s1) (upd (X.2.2.1 (12 + s1)) c0.toNatClampNeg (zmax (X.2.2.1 (12 + s1) c0.toNatClampNeg) d)) (12 + s) c = _ ∧ _
      by_cases e : s = s1
      · subst e; rw [mf_up_s]
        by_cases ec : c = c0.toNatClampNeg
        · rw [ec, rf_upd_s, rf_upd_s, rz_ymx, hps.1]; refine ⟨rfl, ?_⟩
          rw [rz_zmax]; split <;> omega
        · rw [rf_upd_n _ _ ec, rf_upd_n _ _ (by omega)]; exact h.c.ps s hs c hc
      · rw [mf_up_n _ _ (by omega), rf_upd_n _ _ (by omega)]; exact h.c.ps s hs c hc
    · show rpt (mf_up X.2.2.1 (12 + s1) _ (16 + s)) (M.2.2.2.2.2.2.2 11) (M.2.2.2.2.2.2.2 12) s (M.2.2.2.2.2.1 s)
      rw [mf_up_n _ _ (by omega)]; exact h.c.sf s hs
    · show _ ∧ _ ∧ (mf_up X.2.2.1 (12 + s1) _ (20 + s) r).toInt = _
      rw [mf_up_n _ _ (by omega)]; exact h.c.ex s hs r hr
  · exact h.d.congr rfl (fun _ _ _ => rfl) (mf_up_n _ _ (by omega)) rfl rfl rfl
  · exact h.e.congr rfl rfl
theorem ra_pass_bad (h : LI X M) {s1 : Nat} {b c0 d : Int32} {Y : String} (k : E_pass X s1 b c0 d Y) : ytp M.2.2.1 b c0 d = if Y = zx_iae then 1 else 2 := by
  have hC := h.a.hC
  unfold E_pass at k
  rw [h.a.eC, rz_zi (by omega), rz_zk, rz_zk, rf_i0, rz_3, rz_99] at k
  rw [if_pos k.1]; unfold ytp; rw [if_pos]; rw [rz_yns, rz_yng (by omega), rf_lt, rf_le, rf_i0, rz_99]; omega
theorem rf_zlv2 {t life : Int32} (d : Int32) (h1 : -1 ≤ t.toInt ∧ t.toInt ≤ 99) (h2 : -1 ≤ life.toInt ∧ life.toInt ≤ 40) : zlv t life d = yli t life d := by
  unfold zlv yli
  have b1 := Int32.le_toInt d
  have b2 := Int32.toInt_lt d
  rw [Bool.eq_iff_iff, decide_eq_true_eq, decide_eq_true_eq, rz_eq, rz_eq, rf_lt, rf_lt, rf_lt, rf_lt, rf_cmpp, rf_sub64 (by rw [rf_toInt64, rf_toInt64]; omega) (by rw [rf_toInt64, rf_toInt64]; omega), rf_toInt64, rf_toInt64, rf_toInt64, rf_i0, rf_m1]
  by_cases e : t.toInt = -1 ∨ d.toInt < t.toInt
  · omega
  · rw [rf_sub (by omega) (by omega)]; omega
theorem ra_lives_ok (h : LI X M) {s1 : Nat} (hs1 : s1 < 4) {b c0 d : Int32} (hb1 : zi 0 b 3 → b.toNatClampNeg = s1) (k : K_lives X s1 b c0 d) : b = nI s1 ∧ c0 = nI c0.toNatClampNeg ∧ c0.toNatClampNeg < 12 ∧ ytl M.2.2.1 (nI s1) (nI c0.toNatClampNeg) = 0 ∧ V_lives X s1 b c0 d = zbL (yli (M.2.2.2.2.2.2.2 9 (12 * s1 + c0.toNatClampNeg)) (M.2.2.2.2.2.2.2 4 c0.toNatClampNeg) d) ∧ LI X (Y_lives_ok M s1 c0.toNatClampNeg d) := by
  have hC := h.a.hC
  unfold K_lives at k
  have e1 := hb1 k.1
  rw [h.a.eC, rz_zi (by omega), rz_zk, rf_i0, rz_3] at k
  have kb := rz_of (b := b) k.1.1
  have kc := rz_of (b := c0) k.2.1
  rw [e1] at kb
  have hps := h.c.ps s1 hs1 c0.toNatClampNeg (by omega)
  refine ⟨kb.1, kc.1, by omega, ?_, ?_, h.th 0⟩
  · unfold ytl; rw [← kb.1, ← kc.1, if_neg]; rw [rz_yns, rz_yng (by omega)]; omega
  · show zbL (zlv (X.2.2.1 (12 + s1) c0.toNatClampNeg) (X.2.2.1 4 c0.toNatClampNeg) d) = _
    rw [hps.1, h.a.lf, rf_zlv2 d hps.2 (h.a.lfb _ (by omega))]
theorem ra_lives_bad (h : LI X M) {s1 : Nat} {b c0 d : Int32} {Y : String} (k : E_lives X s1 b c0 d Y) : ytl M.2.2.1 b c0 = if Y = zx_iae then 1 else 2 := by
  have hC := h.a.hC
  unfold E_lives at k
  rw [h.a.eC, rz_zi (by omega), rz_zk, rf_i0, rz_3] at k
  rw [if_pos k.1]; unfold ytl; rw [if_pos]; rw [rz_yns, rz_yng (by omega)]; omega
theorem ra_exempt_ok (h : LI X M) {s1 p1 : Nat} (hs1 : s1 < 4) (hp1 : p1 < 3) {b d c0 : Int32} (hb1 : zi 0 b 3 → b.toNatClampNeg = s1) (hg1 : X.2.1 (1 + s1) = -1 ∨ X.2.1 (1 + s1) = nI p1) (k : K_exempt X s1 p1 b d c0) : b = nI s1 ∧ d = nI d.toNatClampNeg ∧ d.toNatClampNeg < 6 ∧ M.2.2.2.2.2.2.2 8 s1 = nI p1 ∧ ytx M.2.2.2.2.1 (M.2.2.2.2.2.2.2 8 s1) (nI s1) (nI d.toNatClampNeg) c0 = 0 ∧
    V_exempt X s1 p1 b d c0 = Int32.toInt64 (U_exempt_ok M s1 d.toNatClampNeg p1 c0) ∧ LI (X_exempt X s1 p1 b d c0) (Y_exempt_ok M s1 d.toNatClampNeg p1 c0) := by
  have hq := h.b.rq p1 hp1
  have hpg := h.c.pg s1 hs1
  unfold K_exempt at k
  have e1 := hb1 k.1
  have hne : ¬ X.2.1 (1 + s1) = -1 := fun z => by
    have := k.2.1; rw [if_pos z, rz_zk, rz_1, rf_i0] at this; omega
  have hpn : X.2.1 (1 + s1) = nI p1 := hg1.resolve_left hne
  rw [if_neg hne, hq.1, rz_zk, rz_zk, rz_zk, rf_nI (by omega), rf_i0, rz_1, rz_3, rz_9] at k
  have kb := rz_of (b := b) k.1.1
  have kd := rz_of (b := d) (by omega)
  rw [e1] at kb
  rw [hpg.1] at hpn
  have hex := h.c.ex s1 hs1 d.toNatClampNeg (by omega)
  have hdm := h.b.dm p1 hp1 d.toNatClampNeg (by omega) (by omega)
  have hmn : (X.2.2.1 (20 + s1) d.toNatClampNeg).toInt ≤ 6 ∧ 0 ≤ (X.2.2.1 (20 + s1) d.toNatClampNeg).toInt ∧ ((X.2.2.1 (20 + s1) d.toNatClampNeg).toInt = (M.2.2.2.2.2.2.2 13 (6 * s1 + d.toNatClampNeg)).toInt ∨ ((X.2.2.1 (20 + s1) d.toNatClampNeg).toInt = 6 ∧ 6 ≤ (M.2.2.2.2.2.2.2 13 (6 * s1 + d.toNatClampNeg)).toInt)) := by
    rw [hex.2.2]; unfold mf_mn; split <;> omega
  have n1 : (zmin 6 (X.2.2.1 (20 + s1) d.toNatClampNeg + c0)).toInt = mf_mn 6 ((X.2.2.1 (20 + s1) d.toNatClampNeg).toInt + c0.toInt) := by
    rw [rf_zmin, rz_6, rf_add (by omega) (by omega)]
  have n2 : (ym9 (M.2.2.2.2.2.2.2 13 (6 * s1 + d.toNatClampNeg) + c0)).toInt = mf_mn 9 ((M.2.2.2.2.2.2.2 13 (6 * s1 + d.toNatClampNeg)).toInt + c0.toInt) := by
    have ha : (M.2.2.2.2.2.2.2 13 (6 * s1 + d.toNatClampNeg) + c0).toInt = (M.2.2.2.2.2.2.2 13 (6 * s1 + d.toNatClampNeg)).toInt + c0.toInt := rf_add (by omega) (by omega)
    unfold ym9 mf_mn
    by_cases e : M.2.2.2.2.2.2.2 13 (6 * s1 + d.toNatClampNeg) + c0 ≤ 9
    · have := rf_le.1 e; rw [ha, rz_9] at this
      rw [if_pos e, ha]; split <;> omega
    · have : ¬ (M.2.2.2.2.2.2.2 13 (6 * s1 + d.toNatClampNeg) + c0).toInt ≤ (9 : Int32).toInt := fun z => e (rf_le.2 z)
      rw [ha, rz_9] at this
      rw [if_neg e, rz_9, if_pos (by omega)]
  have n3 : mf_mn 6 ((X.2.2.1 (20 + s1) d.toNatClampNeg).toInt + c0.toInt) = mf_mn 6 (mf_mn 9 ((M.2.2.2.2.2.2.2 13 (6 * s1 + d.toNatClampNeg)).toInt + c0.toInt)) := by
    unfold mf_mn; split <;> split <;> (try split) <;> omega
  have n4 : 0 ≤ mf_mn 9 ((M.2.2.2.2.2.2.2 13 (6 * s1 + d.toNatClampNeg)).toInt + c0.toInt) ∧ mf_mn 9 ((M.2.2.2.2.2.2.2 13 (6 * s1 + d.toNatClampNeg)).toInt + c0.toInt) ≤ 9 := by unfold mf_mn; split <;> omega
  refine ⟨kb.1, kd.1, by omega, hpn, ?_, ?_, ⟨?_, ?_, ?_, ?_, ?_⟩⟩
  · unfold ytx; rw [← kb.1, ← kd.1, hpn, if_neg]
    rw [rz_yns, rz_ynr (fun p hp => (h.b.rq p hp).2), rf_lt, rf_lt, rf_le, rf_nI (by omega), rf_nI_clamp (by omega), rf_i0, rz_9]; omega
  · show Int32.toInt64 (zmax 0 (X.2.2.1 (6 + p1) d.toNatClampNeg - zmin 6 (X.2.2.1 (20 + s1) d.toNatClampNeg + c0))) = Int32.toInt64 (yne (M.2.2.2.2.2.2.2 6 (6 * p1 + d.toNatClampNeg) - ym9 (M.2.2.2.2.2.2.2 13 (6 * s1 + d.toNatClampNeg) + c0)))
    rw [← rf_zmax]
    congr 1; apply rf_ext
    rw [rz_zmax, rz_zmax, hdm.1, rf_i0]
    have m1 : 0 ≤ mf_mn 6 (mf_mn 9 ((M.2.2.2.2.2.2.2 13 (6 * s1 + d.toNatClampNeg)).toInt + c0.toInt)) ∧ mf_mn 6 (mf_mn 9 ((M.2.2.2.2.2.2.2 13 (6 * s1 + d.toNatClampNeg)).toInt + c0.toInt)) ≤ 6 := by
      generalize mf_mn 9 _ = z at n4; unfold mf_mn; split <;> omega
    have m2 : mf_mn 6 (mf_mn 9 ((M.2.2.2.2.2.2.2 13 (6 * s1 + d.toNatClampNeg)).toInt + c0.toInt)) = mf_mn 9 ((M.2.2.2.2.2.2.2 13 (6 * s1 + d.toNatClampNeg)).toInt + c0.toInt) ∨ (mf_mn 6 (mf_mn 9 ((M.2.2.2.2.2.2.2 13 (6 * s1 + d.toNatClampNeg)).toInt + c0.toInt)) = 6 ∧ 6 ≤ mf_mn 9 ((M.2.2.2.2.2.2.2 13 (6 * s1 + d.toNatClampNeg)).toInt + c0.toInt)) := by
      generalize mf_mn 9 _ = z; unfold mf_mn; split <;> omega
    rw [rf_sub (by rw [n1, n3]; omega) (by rw [n1, n3]; omega), rf_sub (by rw [n2]; omega) (by rw [n2]; omega), n1, n2, n3]
    split <;> split <;> omega
  · exact h.a.congr rfl rfl rfl (fun k hk => mf_up_n _ _ (by omega)) rfl rfl rfl (fun k hk => mf_up_n _ _ (by omega))
  · exact h.b.congr (fun _ _ => rfl) (fun k h1 h2 => mf_up_n _ _ (by omega)) rfl rfl rfl
  · have b13 : (Y_exempt_ok M s1 d.toNatClampNeg p1 c0).2.2.2.2.2.2.2 13 = upd (M.2.2.2.2.2.2.2 13) (6 * s1 + d.toNatClampNeg) (ym9 (M.2.2.2.2.2.2.2 13 (6 * s1 + d.toNatClampNeg) + c0)) := rfl
    refine ⟨fun s hs => h.c.pg s hs, fun s hs c hc => ?_, fun s hs => h.c.pe s hs, fun s hs => ?_, fun s hs => h.c.pt s hs, fun s hs r hr => ?_⟩
    · show mf_up X.2.2.1 (20 + s1) _ (12 + s) c = _ ∧ _
      rw [mf_up_n _ _ (by omega)]; exact h.c.ps s hs c hc
    · show rpt (mf_up X.2.2.1 (20 + s1) _ (16 + s)) (M.2.2.2.2.2.2.2 11) (M.2.2.2.2.2.2.2 12) s (M.2.2.2.2.2.1 s)
      rw [mf_up_n _ _ (by omega)]; exact h.c.sf s hs
    · rw [b13]
      show _ ∧ _ ∧ (mf_up X.2.2.1 (20 + s1) (upd (X.2.2.1 (20 + s1)) d.toNatClampNeg (zmin 6 (X.2.2.1 (20 + s1) d.toNatClampNeg + c0))) (20 + s) r).toInt = _
      by_cases e : s = s1
      · subst e; rw [mf_up_s]
        by_cases er : r = d.toNatClampNeg
        · rw [er, rf_upd_s, rf_upd_s, n1, n2]; exact ⟨n4.1, n4.2, n3⟩
        · rw [rf_upd_n _ _ er, rf_upd_n _ _ (by omega)]; exact h.c.ex s hs r hr
      · rw [mf_up_n _ _ (by omega), rf_upd_n _ _ (by omega)]; exact h.c.ex s hs r hr
  · exact h.d.congr rfl (fun _ _ _ => rfl) (mf_up_n _ _ (by omega)) rfl rfl rfl
  · exact h.e.congr rfl rfl
theorem ra_exempt_bad (h : LI X M) {s1 p1 : Nat} (hs1 : s1 < 4) (hp1 : p1 < 3) {b d c0 : Int32} (hb1 : zi 0 b 3 → b.toNatClampNeg = s1) (hg1 : X.2.1 (1 + s1) = -1 ∨ X.2.1 (1 + s1) = nI p1) {Y : String} (k : E_exempt X s1 p1 b d c0 Y) : ytx M.2.2.2.2.1 (M.2.2.2.2.2.2.2 8 b.toNatClampNeg) b d c0 = if Y = zx_iae then 1 else 2 := by
  have hq := h.b.rq p1 hp1
  have hpg := h.c.pg s1 hs1
  unfold E_exempt at k
  rw [if_pos k.1]; unfold ytx; rw [if_pos]
  have k2 := k.2
  by_cases e0 : zi 0 b 3
  · have e1 := hb1 e0
    rw [e1]
    by_cases e2 : X.2.1 (1 + s1) = -1
    · refine Or.inr (Or.inl ?_); rw [← hpg.1, e2]; decide
    · have hpn := hg1.resolve_left e2
      rw [if_neg e2, hq.1, rz_zk, rz_zk, rz_zk, rf_nI (by omega), rf_i0, rz_1, rz_3, rz_9] at k2
      rw [rz_zk, rf_i0, rz_3] at e0
      rw [← hpg.1, hpn, rz_yns, rz_ynr (fun p hp => (h.b.rq p hp).2), rf_lt, rf_lt, rf_le, rf_nI (by omega), rf_nI_clamp (by omega), rf_i0, rz_9]; omega
  · refine Or.inl ?_
    rw [rz_zk, rf_i0, rz_3] at e0
    rw [rz_yns]; exact e0
theorem ra_assigned_ok (h : LI X M) {b : Int32} (k : K_assigned X b) : b = nI b.toNatClampNeg ∧ b.toNatClampNeg < 12 ∧ yt2 (yng M.2.2.1 (nI b.toNatClampNeg)) M.2.2.2.1 = 0 ∧ V_assigned X b = Int32.toInt64 (U_assigned_ok M b.toNatClampNeg) ∧ LI X (Y_assigned_ok M b.toNatClampNeg) := by
  have hC := h.a.hC
  unfold K_assigned at k
  rw [h.a.eC, rz_zi (by omega), h.d.it] at k
  have kb := rz_of (b := b) k.1.1
  refine ⟨kb.1, by omega, ?_, ?_, h.th 0⟩
  · unfold yt2; rw [← kb.1, if_pos (by rw [rz_yng (by omega)]; exact k.1), k.2]; decide
  · show Int32.toInt64 (X.2.2.1 26 b.toNatClampNeg) = Int32.toInt64 (M.2.2.2.2.2.2.2 20 b.toNatClampNeg); rw [(h.d.ro k.2 _ (by omega)).1]
theorem ra_assigned_bad (h : LI X M) {b : Int32} {Y : String} (k : E_assigned X b Y) : yt2 (yng M.2.2.1 b) M.2.2.2.1 = if Y = zx_iae then 1 else 2 := by
  have hC := h.a.hC
  unfold E_assigned at k
  rw [h.a.eC, rz_zi (by omega), ← rz_yng (by omega), h.d.it] at k
  rcases k with ⟨rfl, k⟩ | ⟨rfl, k, k2⟩
  · rw [if_pos rfl]; unfold yt2; rw [if_neg k]
  · rw [if_neg rz_nse]; unfold yt2; rw [if_pos k, k2]; decide
theorem ra_used_ok (h : LI X M) {b : Int32} (k : K_used X b) : b = nI b.toNatClampNeg ∧ b.toNatClampNeg < 12 ∧ yt2 (yng M.2.1 (nI b.toNatClampNeg)) M.2.2.2.1 = 0 ∧ V_used X b = Int32.toInt64 (U_used_ok M b.toNatClampNeg) ∧ LI X (Y_used_ok M b.toNatClampNeg) := by
  have hG := h.a.hG
  have hC := h.a.hC
  unfold K_used at k
  rw [h.a.eG, rz_zi (by omega), h.d.it] at k
  have kb := rz_of (b := b) k.1.1
  refine ⟨kb.1, by omega, ?_, ?_, h.th 0⟩
  · unfold yt2; rw [← kb.1, if_pos (by rw [rz_yng (by omega)]; exact k.1), k.2]; decide
  · show Int32.toInt64 (zbc (zgc (X.2.2.1 26) 12 &&& (zcw (X.2.2.1 0) (X.2.2.1 2) b.toNatClampNeg (X.1 0 - (b.toNatClampNeg + 1))).2)) = Int32.toInt64 (yuc (M.2.2.2.2.2.2.2 0) (M.2.2.2.2.2.2.2 2) (M.2.2.2.2.2.2.2 20) b.toNatClampNeg M.2.2.1)
    rw [h.a.pa, h.a.eG]
    congr 1
    exact rf_used hG hC (fun g h1 h2 => (h.a.tr g h1 h2).2) (fun g h1 h2 => (h.a.tr g h1 h2).1) h.a.ci (fun c hc => (h.a.gol c hc).2) (by omega) (fun c hc => h.d.ro k.2 c (by omega))
theorem ra_used_bad (h : LI X M) {b : Int32} {Y : String} (k : E_used X b Y) : yt2 (yng M.2.1 b) M.2.2.2.1 = if Y = zx_iae then 1 else 2 := by
  have hG := h.a.hG
  unfold E_used at k
  rw [h.a.eG, rz_zi (by omega), ← rz_yng (by omega), h.d.it] at k
  rcases k with ⟨rfl, k⟩ | ⟨rfl, k, k2⟩
  · rw [if_pos rfl]; unfold yt2; rw [if_neg k]
  · rw [if_neg rz_nse]; unfold yt2; rw [if_pos k, k2]; decide
theorem ra_receipt_ok (h : LI X M) {b : Int32} (k : K_receipt X b) : b = nI b.toNatClampNeg ∧ b.toNatClampNeg < 7 ∧ yt3 (nI b.toNatClampNeg) M.2.2.2.1 = 0 ∧ V_receipt X b = Int32.toInt64 (U_receipt_ok M b.toNatClampNeg) ∧ LI X (Y_receipt_ok M b.toNatClampNeg) := by
  unfold K_receipt at k
  rw [rz_zk, rf_i0, rz_6, h.d.it] at k
  have kb := rz_of (b := b) k.1.1
  have hr := h.d.rcp k.2
  refine ⟨kb.1, by omega, ?_, ?_, h.th 0⟩
  · unfold yt3; rw [← kb.1, if_neg (by rw [rf_lt, rf_le, rf_i0, rz_6]; omega), k.2]; decide
  · show Int32.toInt64 (zrc (X.2.1 12) (X.2.1 13) (X.2.1 14) (X.2.1 15) (X.2.1 16) (X.2.1 10) (X.2.1 11) b.toNatClampNeg) = Int32.toInt64 (M.2.2.2.2.2.2.2 19 b.toNatClampNeg)
    congr 1
    obtain ⟨r0, r1, r2, r3, r4, r5, r6⟩ := hr
    have hlt : b.toNatClampNeg < 7 := by omega
    generalize b.toNatClampNeg = n at hlt
    match n, hlt with
    | 0, _ => exact r0
    | 1, _ => exact r1
    | 2, _ => exact r2
    | 3, _ => exact r3
    | 4, _ => exact r4
    | 5, _ => exact r5
    | 6, _ => exact r6
theorem ra_receipt_bad (h : LI X M) {b : Int32} {Y : String} (k : E_receipt X b Y) : yt3 b M.2.2.2.1 = if Y = zx_iae then 1 else 2 := by
  unfold E_receipt at k
  rw [h.d.it] at k
  have e1 : zi 0 b 6 ↔ ¬ (b < 0 ∨ ¬ b ≤ 6) := by rw [rz_zk, rf_lt, rf_le, rf_i0, rz_6]; omega
  rcases k with ⟨rfl, k⟩ | ⟨rfl, k, k2⟩
  · rw [if_pos rfl]; unfold yt3; rw [if_pos (Classical.byContradiction (fun z => k (e1.2 z)))]
  · rw [if_neg rz_nse]; unfold yt3; rw [if_neg (e1.1 k), k2]; decide
end
