/-! each call, the class's and the reference's: the catalogue -/
theorem rz_eq (a b : Int32) : a = b ↔ a.toInt = b.toInt := ⟨fun h => by rw [h], rf_ext⟩
theorem rz_1 : (1 : Int32).toInt = 1 := by decide
theorem rz_2 : (2 : Int32).toInt = 2 := by decide
theorem rz_3 : (3 : Int32).toInt = 3 := by decide
theorem rz_5 : (5 : Int32).toInt = 5 := by decide
theorem rz_6 : (6 : Int32).toInt = 6 := by decide
theorem rz_8 : (8 : Int32).toInt = 8 := by decide
theorem rz_9 : (9 : Int32).toInt = 9 := by decide
theorem rz_12 : (12 : Int32).toInt = 12 := by decide
theorem rz_40 : (40 : Int32).toInt = 40 := by decide
theorem rz_99 : (99 : Int32).toInt = 99 := by decide
theorem rz_nm {n : Nat} (h : n ≤ 1000) : (nI n - 1).toInt = n - 1 := by rw [rf_sub (by rw [rf_nI (by omega), rz_1]; omega) (by rw [rf_nI (by omega), rz_1]; omega), rf_nI (by omega), rz_1]
theorem rz_zi {n : Nat} (h : n ≤ 1000) (b : Int32) : zi 0 b (nI n - 1) ↔ 0 ≤ b.toInt ∧ b.toInt < n := by
  unfold zi; rw [rf_lt, rf_le, rz_nm h, rf_i0]; omega
theorem rz_zk {a b d : Int32} : zi a b d ↔ a.toInt ≤ b.toInt ∧ b.toInt ≤ d.toInt := by unfold zi; rw [rf_lt, rf_le]; omega
theorem rz_zb (x : Bool) : zb x = 0 ↔ x = false := by cases x <;> decide
theorem rz_yng {n : Nat} (h : n ≤ 1000) (x : Int32) : zb (yng n x) = 0 ↔ 0 ≤ x.toInt ∧ x.toInt < n := by
  rw [rz_zb]; unfold yng; rw [decide_eq_false_iff_not, rf_lt, rf_lt, rf_nI (by omega), rf_i0]; omega
theorem rz_ynp (x : Int32) : zb (ynp x) = 0 ↔ 0 ≤ x.toInt ∧ x.toInt ≤ 2 := by
  rw [rz_zb]; unfold ynp; rw [decide_eq_false_iff_not, rf_lt, rf_le, rz_2, rf_i0]; omega
theorem rz_yns (x : Int32) : zb (yns x) = 0 ↔ 0 ≤ x.toInt ∧ x.toInt ≤ 3 := by
  rw [rz_zb]; unfold yns; rw [decide_eq_false_iff_not, rf_lt, rf_le, rz_3, rf_i0]; omega
theorem rz_ynr {rq : Nat → Nat} (hq : ∀ p, p < 3 → rq p ≤ 5) (x r : Int32) : zb (ynr rq x r) = 0 ↔ (0 ≤ x.toInt ∧ x.toInt ≤ 2) ∧ 1 ≤ r.toInt ∧ r.toInt ≤ rq x.toNatClampNeg := by
  rw [rz_zb]; unfold ynr; rw [decide_eq_false_iff_not]
  have h1 := rz_ynp x
  rw [rz_zb] at h1
  constructor
  · intro h
    have a : ynp x = false := by
      cases e : ynp x with
      | false => rfl
      | true => exact absurd (Or.inl e) h
    have a1 := h1.1 a
    have hc : x.toNatClampNeg < 3 := by have := rf_clamp x; rw [if_pos a1.1] at this; omega
    have b := hq _ hc
    refine ⟨a1, ?_, ?_⟩
    · have : ¬ r < 1 := fun z => h (Or.inr (Or.inl z))
      rw [rf_lt, rz_1] at this; omega
    · apply Classical.byContradiction; intro z
      refine h (Or.inr (Or.inr (fun y => ?_)))
      have := rf_le.1 y; rw [rf_nI (by omega)] at this; omega
  · rintro ⟨h2, h3, h4⟩ h
    have hc : x.toNatClampNeg < 3 := by have := rf_clamp x; rw [if_pos h2.1] at this; omega
    have b := hq _ hc
    rcases h with h | h | h
    · rw [h1.2 h2] at h; exact absurd h (by decide)
    · have := rf_lt.1 h; rw [rz_1] at this; omega
    · exact h (rf_le.2 (by rw [rf_nI (by omega)]; omega))
theorem rz_of {b : Int32} (h : 0 ≤ b.toInt) : b = nI b.toNatClampNeg ∧ (b.toNatClampNeg : Int) = b.toInt := by
  have := rf_clamp b; rw [if_pos h] at this; exact ⟨rf_of_nn h, this⟩
theorem rz_ise : ¬ zx_ise = zx_iae := by decide
theorem rz_nse : ¬ zx_nse = zx_iae := by decide
section
variable {X : XS} {M : MS}
theorem ra_group_ok (h : LI X M) {b d : Int32} (k : K_group X b d) : ytg M.2.1 b d = 0 ∧ V_group X b d = Int32.toInt64 (U_group_ok M b d) ∧ LI (X_group X b d) (Y_group_ok M b d) := by
  have hG := h.a.hG
  have eG := h.a.eG
  unfold K_group at k
  rw [eG] at k
  rw [rz_zi (by omega), rz_zk, rz_eq, rz_eq, rz_eq, rf_le, rf_nI (by omega), rf_m1, rf_i0, rz_12, rz_6] at k
  have kb := rz_of (b := b)
  refine ⟨?_, ?_, ⟨?_, ?_, ?_, ?_, ?_⟩⟩
  · unfold ytg
    rw [if_neg, if_neg]
    · rw [rz_eq, rz_eq, rf_le, rf_nI (by omega), rf_m1, rf_i0, rz_6]; omega
    · rw [rz_yng (by omega), rz_eq, rf_lt, rf_le, rf_m1, rz_12]; omega
  · show Int32.toInt64 (nI (X.1 0)) = Int32.toInt64 (nI M.2.1); rw [eG]
  · have hp : M.2.1 ≠ 0 → 0 ≤ b.toInt ∧ b.toInt < M.2.1 := fun z => by omega
    have a0 : (X_group X b d).2.2.1 0 = upd (M.2.2.2.2.2.2.2 0) M.2.1 b := by show upd (X.2.2.1 0) (X.1 0) b = _; rw [h.a.pa, eG]
    have a1 : (X_group X b d).2.2.1 1 = upd (M.2.2.2.2.2.2.2 1) M.2.1 d := by show upd (X.2.2.1 1) (X.1 0) d = _; rw [h.a.lm, eG]
    have b0 : (Y_group_ok M b d).2.2.2.2.2.2.2 0 = upd (M.2.2.2.2.2.2.2 0) M.2.1 b := rfl
    have b1 : (Y_group_ok M b d).2.2.2.2.2.2.2 1 = upd (M.2.2.2.2.2.2.2 1) M.2.1 d := rfl
    have b2 : (Y_group_ok M b d).2.2.2.2.2.2.2 2 = M.2.2.2.2.2.2.2 2 := rfl
    have g1 : (Y_group_ok M b d).2.1 = M.2.1 + 1 := rfl
    have c1 : (Y_group_ok M b d).2.2.1 = M.2.2.1 := rfl
    refine ⟨?_, ?_, ?_, ?_, ?_, ?_, ?_, ?_, ?_, ?_, ?_, ?_, ?_, ?_, ?_, ?_, ?_, ?_⟩
    · show X.1 0 + 1 = _; rw [g1, eG]
    · exact h.a.eC
    · rw [g1]; omega
    · exact h.a.hC
    · rw [g1]; intro z; omega
    · rw [a0, b0]
    · rw [a1, b1]
    · exact h.a.go
    · exact h.a.lf
    · intro _; rw [b0]
      by_cases e : M.2.1 = 0
      · rw [e, rf_upd_s]; rw [rz_eq, rf_m1]; omega
      · rw [rf_upd_n _ _ (by omega)]; exact h.a.pa0 (by omega)
    · intro j h1 h2; rw [g1] at h2; rw [b0]
      by_cases e : j = M.2.1
      · subst e; rw [rf_upd_s]
        have := hp (by omega)
        have kk := kb this.1
        exact ⟨kk.1, by omega⟩
      · rw [rf_upd_n _ _ e]; exact h.a.tr j h1 (by omega)
    · intro j h2; rw [g1] at h2; rw [b1]
      by_cases e : j = M.2.1
      · subst e; rw [rf_upd_s]; omega
      · rw [rf_upd_n _ _ e]; exact h.a.lmb j (by omega)
    · intro c hc; rw [b2, g1]; have := h.a.gol c hc; exact ⟨this.1, by omega⟩
    · exact h.a.goz
    · intro g hg c; rw [g1] at hg; rw [c1, b2]
      show rb (X.2.2.1 2 g) c = _
      by_cases e : g = M.2.1
      · subst e; rw [h.a.ciz _ (Nat.le_refl _), rb_0]
        by_cases ec : c < M.2.2.1
        · have := (h.a.gol c ec).2
          have : ¬ rp (M.2.2.2.2.2.2.2 2) c = M.2.1 := fun z => by unfold rp at z; omega
          rw [decide_eq_false this, Bool.and_false]
        · rw [decide_eq_false ec, Bool.false_and]
      · exact h.a.ci g (by omega) c
    · intro g hg; rw [g1] at hg; exact h.a.ciz g (by omega)
    · exact h.a.oc
    · exact h.a.lfb
  · refine h.b.congr (fun p _ => ?_) (fun k h1 h2 => ?_) rfl rfl rfl
    · exact mf_up_n _ _ (by omega)
    · show mf_up (mf_up _ _ _) _ _ k = _; rw [mf_up_n _ _ (by omega), mf_up_n _ _ (by omega)]
  · refine h.c.congr (fun k _ _ => rfl) (fun k h1 h2 => ?_) rfl rfl rfl rfl rfl rfl
    show mf_up (mf_up _ _ _) _ _ k = _; rw [mf_up_n _ _ (by omega), mf_up_n _ _ (by omega)]
  · exact h.d.congr rfl (fun _ _ _ => rfl) rfl rfl rfl rfl
  · exact h.e.congr rfl rfl
theorem ra_group_bad (h : LI X M) {b d : Int32} {Y : String} (k : E_group X b d Y) : ytg M.2.1 b d = if Y = zx_iae then 1 else 2 := by
  have hG := h.a.hG
  unfold E_group at k
  rw [h.a.eG] at k
  have e1 : ((b = -1 ∨ zi 0 b (nI M.2.1 - 1)) ∧ (d = -1 ∨ zi 0 d 12)) ↔ ¬ ((¬ b = -1 ∧ ¬ zb (yng M.2.1 b) = 0) ∨ d < -1 ∨ ¬ d ≤ 12) := by
    rw [rz_yng (by omega), rz_zi (by omega), rz_zk, rz_eq, rz_eq, rf_lt, rf_le, rf_m1, rf_i0, rz_12]; omega
  rcases k with ⟨rfl, k⟩ | ⟨rfl, k, k2⟩
  · rw [if_pos rfl]; unfold ytg; rw [if_pos (Classical.byContradiction (fun z => k (e1.2 z)))]
  · rw [if_neg rz_ise]; unfold ytg; rw [if_neg (e1.1 k), if_pos k2]
theorem ra_course_ok (h : LI X M) {b : Int32} (k : K_course X b) : ytc M.2.1 M.2.2.1 b = 0 ∧ V_course X b = Int32.toInt64 (U_course_ok M b) ∧ LI (X_course X b) (Y_course_ok M b) := by
  have hG := h.a.hG
  have hC := h.a.hC
  have eG := h.a.eG
  have eC := h.a.eC
  unfold K_course at k
  rw [eG, eC] at k
  rw [rz_zi (by omega), rz_eq, rf_nI (by omega), rz_12] at k
  have kb := rz_of (b := b) k.1.1
  refine ⟨?_, ?_, ⟨?_, ?_, ?_, ?_, ?_⟩⟩
  · unfold ytc
    rw [if_pos, if_neg]
    · rw [rz_eq, rf_nI (by omega), rz_12]; omega
    · rw [rz_yng (by omega)]; exact k.1
  · show Int32.toInt64 (nI (X.1 1)) = Int32.toInt64 (nI M.2.2.1); rw [eC]
  · have a2 : (X_course X b).2.2.1 2 = upd (X.2.2.1 2) b.toNatClampNeg (X.2.2.1 2 b.toNatClampNeg ||| (1 <<< (nI M.2.2.1 &&& 31))) := by show upd (X.2.2.1 2) b.toNatClampNeg (X.2.2.1 2 b.toNatClampNeg ||| (1 <<< (nI (X.1 1) &&& 31))) = _; rw [eC]
    have a3 : (X_course X b).2.2.1 3 = upd (M.2.2.2.2.2.2.2 2) M.2.2.1 b := by show upd (X.2.2.1 3) (X.1 1) b = _; rw [h.a.go, eC]
    have a4 : (X_course X b).2.2.1 4 = upd (M.2.2.2.2.2.2.2 4) M.2.2.1 (-1) := by show upd (X.2.2.1 4) (X.1 1) (-1) = _; rw [h.a.lf, eC]
    have s0 : (X_course X b).2.1 0 = zw (X.2.1 0) M.2.2.1 := by show X.2.1 0 ||| (1 <<< (nI (X.1 1) &&& 31)) = _; rw [eC]; rfl
    have b2 : (Y_course_ok M b).2.2.2.2.2.2.2 2 = upd (M.2.2.2.2.2.2.2 2) M.2.2.1 b := rfl
    have b4 : (Y_course_ok M b).2.2.2.2.2.2.2 4 = upd (M.2.2.2.2.2.2.2 4) M.2.2.1 (-1) := rfl
    have o : (Y_course_ok M b).2.2.2.2.2.2.1 = mf_up M.2.2.2.2.2.2.1 M.2.2.1 true := rfl
    have g1 : (Y_course_ok M b).2.1 = M.2.1 := rfl
    have c1 : (Y_course_ok M b).2.2.1 = M.2.2.1 + 1 := rfl
    refine ⟨?_, ?_, ?_, ?_, ?_, ?_, ?_, ?_, ?_, ?_, ?_, ?_, ?_, ?_, ?_, ?_, ?_, ?_⟩
    · exact eG
    · show X.1 1 + 1 = _; rw [c1, eC]
    · exact hG
    · rw [c1]; omega
    · rw [c1, g1]; intro z; omega
    · exact h.a.pa
    · exact h.a.lm
    · rw [a3, b2]
    · rw [a4, b4]
    · exact h.a.pa0
    · exact h.a.tr
    · exact h.a.lmb
    · intro c hc; rw [c1] at hc; rw [b2, g1]
      by_cases e : c = M.2.2.1
      · subst e; rw [rf_upd_s]; exact ⟨kb.1, by omega⟩
      · rw [rf_upd_n _ _ e]; exact h.a.gol c (by omega)
    · intro c hc; rw [c1] at hc; rw [b2, rf_upd_n _ _ (by omega)]; exact h.a.goz c (by omega)
    · intro g hg c; rw [g1] at hg; rw [c1, b2, a2]
      have hci := h.a.ci g hg c
      have hrp : rp (upd (M.2.2.2.2.2.2.2 2) M.2.2.1 b) c = if c = M.2.2.1 then b.toNatClampNeg else rp (M.2.2.2.2.2.2.2 2) c := by
        unfold rp upd; split <;> rfl
      rw [hrp]
      by_cases e : g = b.toNatClampNeg
      · subst e
        rw [rf_upd_s, rb_or, rb_1 (by omega), hci]
        by_cases ec : c = M.2.2.1
        · subst ec; rw [if_pos rfl]; simp
        · rw [if_neg ec, decide_eq_false (p := M.2.2.1 = c) (fun z => ec z.symm), Bool.or_false]
          by_cases el : c < M.2.2.1
          · rw [decide_eq_true el, decide_eq_true (by omega : c < M.2.2.1 + 1)]
          · rw [decide_eq_false el, decide_eq_false (by omega : ¬ c < M.2.2.1 + 1)]
      · rw [rf_upd_n _ _ e, hci]
        by_cases ec : c = M.2.2.1
        · subst ec; rw [if_pos rfl, decide_eq_false (p := b.toNatClampNeg = g) (fun z => e z.symm), decide_eq_false (by omega : ¬ M.2.2.1 < M.2.2.1)]; simp
        · rw [if_neg ec]
          by_cases el : c < M.2.2.1
          · rw [decide_eq_true el, decide_eq_true (by omega : c < M.2.2.1 + 1)]
          · rw [decide_eq_false el, decide_eq_false (by omega : ¬ c < M.2.2.1 + 1)]
    · intro g hg; rw [g1] at hg; rw [a2, rf_upd_n _ _ (by omega)]; exact h.a.ciz g hg
    · intro c; rw [s0, c1, o, rb_zw (by omega), h.a.oc c]
      by_cases ec : c = M.2.2.1
      · subst ec; rw [mf_up_s]; simp
      · rw [mf_up_n _ _ ec, decide_eq_false (p := M.2.2.1 = c) (fun z => ec z.symm), Bool.or_false]
        by_cases el : c < M.2.2.1
        · rw [decide_eq_true el, decide_eq_true (by omega : c < M.2.2.1 + 1)]
        · rw [decide_eq_false el, decide_eq_false (by omega : ¬ c < M.2.2.1 + 1)]
    · intro c hc; rw [b4]
      by_cases e : c = M.2.2.1
      · subst e; rw [rf_upd_s, rf_m1]; omega
      · rw [rf_upd_n _ _ e]; exact h.a.lfb c hc
  · refine h.b.congr (fun p _ => ?_) (fun k h1 h2 => ?_) rfl rfl rfl
    · exact mf_up_n _ _ (by omega)
    · show mf_up (mf_up (mf_up _ _ _) _ _) _ _ k = _; rw [mf_up_n _ _ (by omega), mf_up_n _ _ (by omega), mf_up_n _ _ (by omega)]
  · refine h.c.congr (fun k h1 h2 => ?_) (fun k h1 h2 => ?_) rfl rfl rfl rfl rfl rfl
    · exact mf_up_n _ _ (by omega)
    · show mf_up (mf_up (mf_up _ _ _) _ _) _ _ k = _; rw [mf_up_n _ _ (by omega), mf_up_n _ _ (by omega), mf_up_n _ _ (by omega)]
  · exact h.d.congr rfl (fun k h1 h2 => mf_up_n _ _ (by omega)) rfl rfl rfl rfl
  · exact h.e.congr rfl rfl
theorem ra_course_bad (h : LI X M) {b : Int32} {Y : String} (k : E_course X b Y) : ytc M.2.1 M.2.2.1 b = if Y = zx_iae then 1 else 2 := by
  have hG := h.a.hG
  unfold E_course at k
  rw [h.a.eG, h.a.eC, rz_zi (by omega), ← rz_yng (by omega)] at k
  rcases k with ⟨rfl, k⟩ | ⟨rfl, k, k2⟩
  · rw [if_pos rfl]; unfold ytc; rw [if_neg k]
  · rw [if_neg rz_ise]; unfold ytc; rw [if_pos k, if_pos k2]
theorem rz_sh {b : Int32} {n : Nat} (hb : b = nI n) (hn : n < 32) (i : Nat) : rb (1 <<< (b &&& 31)) i = decide (n = i) := by rw [hb]; exact rb_1 hn
theorem ra_open_ok (h : LI X M) {b : Int32} {i : Bool} (k : K_open X b i) : b = nI b.toNatClampNeg ∧ b.toNatClampNeg < 12 ∧ yto M.2.2.1 (nI b.toNatClampNeg) = 0 ∧ V_open X b i = zbL (M.2.2.2.2.2.2.1 b.toNatClampNeg) ∧ LI (X_open X b i) (Y_open_ok M b.toNatClampNeg i) := by
  have hC := h.a.hC
  have eC := h.a.eC
  unfold K_open at k
  rw [eC, rz_zi (by omega)] at k
  have kb := rz_of (b := b) k.1
  have hlt : b.toNatClampNeg < 32 := by omega
  refine ⟨kb.1, by omega, ?_, ?_, ⟨?_, ?_, ?_, ?_, ?_⟩⟩
  · unfold yto; rw [← kb.1, if_pos]; rw [rz_yng (by omega)]; exact k
  · show zbL (zh (X.2.1 0) b) = _
    have : zh (X.2.1 0) b = M.2.2.2.2.2.2.1 b.toNatClampNeg := by
      rw [show zh (X.2.1 0) b = zh (X.2.1 0) (nI b.toNatClampNeg) by rw [← kb.1], rb_zh hlt, h.a.oc, decide_eq_true (by omega), Bool.true_and]
    rw [this]
  · have s0 : (X_open X b i).2.1 0 = zop (X.2.1 0) b i := rfl
    have o : (Y_open_ok M b.toNatClampNeg i).2.2.2.2.2.2.1 = mf_up M.2.2.2.2.2.2.1 b.toNatClampNeg i := rfl
    have hz : ∀ c, rb (zop (X.2.1 0) b i) c = if c = b.toNatClampNeg then i else rb (X.2.1 0) c := fun c => by
      unfold zop
      by_cases ei : i = true
      · rw [if_pos ei, rb_or, rz_sh kb.1 hlt]
        by_cases ec : c = b.toNatClampNeg
        · rw [if_pos ec, ec, ei]; simp
        · rw [if_neg ec, decide_eq_false (fun z => ec z.symm), Bool.or_false]
      · rw [if_neg ei, rb_and]
        by_cases hc : c < 32
        · rw [rb_not hc, rz_sh kb.1 hlt]
          by_cases ec : c = b.toNatClampNeg
          · rw [if_pos ec, ec, Bool.eq_false_iff.2 ei]; simp
          · rw [if_neg ec, decide_eq_false (fun z => ec z.symm)]; simp
        · rw [rb_out (by omega), if_neg (by omega)]; rfl
    have hh := h.a
    exact ⟨hh.eG, hh.eC, hh.hG, hh.hC, hh.hC0, hh.pa, hh.lm, hh.go, hh.lf, hh.pa0, hh.tr, hh.lmb, hh.gol, hh.goz, hh.ci, hh.ciz, fun c => by
      rw [s0, hz, o]
      show _ = (decide (c < M.2.2.1) && _)
      by_cases ec : c = b.toNatClampNeg
      · rw [if_pos ec, ec, mf_up_s, decide_eq_true (by omega), Bool.true_and]
      · rw [if_neg ec, mf_up_n _ _ ec]; exact hh.oc c, hh.lfb⟩
  · exact h.b.congr (fun _ _ => rfl) (fun _ _ _ => rfl) rfl rfl rfl
  · exact h.c.congr (fun k h1 h2 => mf_up_n _ _ (by omega)) (fun _ _ _ => rfl) rfl rfl rfl rfl rfl rfl
  · exact h.d.congr rfl (fun k h1 h2 => mf_up_n _ _ (by omega)) rfl rfl rfl rfl
  · exact h.e.congr rfl rfl
theorem ra_open_bad (h : LI X M) {b : Int32} {i : Bool} {Y : String} (k : E_open X b i Y) : yto M.2.2.1 b = if Y = zx_iae then 1 else 2 := by
  have hC := h.a.hC
  unfold E_open at k
  rw [h.a.eC, rz_zi (by omega), ← rz_yng (by omega)] at k
  rw [if_pos k.1]; unfold yto; rw [if_neg k.2]
theorem ra_expire_ok (h : LI X M) {b d : Int32} (k : K_expire X b d) : b = nI b.toNatClampNeg ∧ b.toNatClampNeg < 12 ∧ yte M.2.2.1 (nI b.toNatClampNeg) d = 0 ∧ V_expire X b d = Int32.toInt64 (U_expire_ok M b.toNatClampNeg d) ∧ LI (X_expire X b d) (Y_expire_ok M b.toNatClampNeg d) := by
  have hC := h.a.hC
  have eC := h.a.eC
  unfold K_expire at k
  rw [eC, rz_zi (by omega), rz_eq, rz_zk, rf_m1, rf_i0, rz_40] at k
  have kb := rz_of (b := b) k.1.1
  refine ⟨kb.1, by omega, ?_, ?_, ⟨?_, ?_, ?_, ?_, ?_⟩⟩
  · unfold yte; rw [← kb.1, if_neg]; rw [rz_yng (by omega), rf_lt, rf_le, rf_m1, rz_40]; omega
  · show Int32.toInt64 (X.2.2.1 4 b.toNatClampNeg) = Int32.toInt64 (M.2.2.2.2.2.2.2 4 b.toNatClampNeg); rw [h.a.lf]
  · have hh := h.a
    exact ⟨hh.eG, hh.eC, hh.hG, hh.hC, hh.hC0, hh.pa, hh.lm, hh.go, by show upd (X.2.2.1 4) _ _ = upd (M.2.2.2.2.2.2.2 4) _ _; rw [hh.lf], hh.pa0, hh.tr, hh.lmb, hh.gol, hh.goz, hh.ci, hh.ciz, hh.oc, fun c hc => by
      show -1 ≤ (upd (M.2.2.2.2.2.2.2 4) b.toNatClampNeg d c).toInt ∧ (upd (M.2.2.2.2.2.2.2 4) b.toNatClampNeg d c).toInt ≤ 40
      by_cases e : c = b.toNatClampNeg
      · rw [e, rf_upd_s]; omega
      · rw [rf_upd_n _ _ e]; exact hh.lfb c hc⟩
  · exact h.b.congr (fun _ _ => rfl) (fun k h1 h2 => mf_up_n _ _ (by omega)) rfl rfl rfl
  · exact h.c.congr (fun _ _ _ => rfl) (fun k h1 h2 => mf_up_n _ _ (by omega)) rfl rfl rfl rfl rfl rfl
  · exact h.d.congr rfl (fun _ _ _ => rfl) rfl rfl rfl rfl
  · exact h.e.congr rfl rfl
theorem ra_expire_bad (h : LI X M) {b d : Int32} {Y : String} (k : E_expire X b d Y) : yte M.2.2.1 b d = if Y = zx_iae then 1 else 2 := by
  have hC := h.a.hC
  unfold E_expire at k
  rw [h.a.eC, rz_zi (by omega), rz_eq, rz_zk, rf_m1, rf_i0, rz_40] at k
  rw [if_pos k.1]; unfold yte; rw [if_pos]
  rw [rz_yng (by omega), rf_lt, rf_le, rf_m1, rz_40]; omega
end
