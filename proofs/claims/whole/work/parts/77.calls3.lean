/-! each call: petitions, and the three that search -/
section
variable {X : XS} {M : MS}
theorem rq_live (h : LI X M) {s1 : Nat} (hs1 : s1 < 4) {d : Int32} (hd : 0 ≤ d.toInt ∧ d.toInt ≤ 99) : zlc (X.2.2.1 (12 + s1)) (X.2.2.1 4) d (X.1 1) = yl1 (M.2.2.2.2.2.2.2 9) (M.2.2.2.2.2.2.2 4) s1 d M.2.2.1 := by
  rw [h.a.eC, h.a.lf]
  exact rf_live hd (fun c hc => (h.c.ps s1 hs1 c hc).1) (fun c hc => by rw [(h.c.ps s1 hs1 c hc).1]; exact (h.c.ps s1 hs1 c hc).2) h.a.lfb _ h.a.hC
theorem rq_need (h : LI X M) {s1 p1 : Nat} (hs1 : s1 < 4) (hp1 : p1 < 3) (ndc ndr : Nat → Int32) :
    (∀ r, r < M.2.2.2.2.1 p1 → znr ndc (X.2.2.1 (6 + p1)) (X.2.2.1 (20 + s1)) (M.2.2.2.2.1 p1 + 1) (r + 1) = ypn (M.2.2.2.2.2.2.2 6) (M.2.2.2.2.2.2.2 13) p1 s1 (M.2.2.2.2.1 p1) ndr 6 (r + 1)) ∧
    (∀ r, 0 < r → r < 6 → 0 ≤ (ypn (M.2.2.2.2.2.2.2 6) (M.2.2.2.2.2.2.2 13) p1 s1 (M.2.2.2.2.1 p1) ndr 6 r).toInt ∧ (ypn (M.2.2.2.2.2.2.2 6) (M.2.2.2.2.2.2.2 13) p1 s1 (M.2.2.2.2.1 p1) ndr 6 r).toInt ≤ 12) ∧
    (∀ r, M.2.2.2.2.1 p1 ≤ r → r < 5 → ypn (M.2.2.2.2.2.2.2 6) (M.2.2.2.2.2.2.2 13) p1 s1 (M.2.2.2.2.1 p1) ndr 6 (r + 1) = 0) :=
  rf_needs (h.b.rq p1 hp1).2 (fun r h1 h2 => h.b.dm p1 hp1 r h1 h2) (fun r h1 h2 => by
    have e := h.c.ex s1 hs1 r h2
    refine ⟨e.1, e.2.1, ?_⟩
    rw [e.2.2]; unfold mf_mn; split <;> omega)
theorem rq_Q (h : LI X M) {s1 p1 : Nat} (hs1 : s1 < 4) (hp1 : p1 < 3) {d : Int32} (hd : 0 ≤ d.toInt ∧ d.toInt ≤ 99) (ctc ndr cnr : Nat → Int32) :
    rf_Q M.2.1 M.2.2.1 (M.2.2.2.2.1 p1) (M.2.2.2.2.2.2.2 0) (M.2.2.2.2.2.2.2 1) (M.2.2.2.2.2.2.2 2) (zcr ctc (X.2.2.1 (9 + p1)) (X.2.2.1 (16 + s1)) (M.2.2.2.2.1 p1 + 1))
      (ycn (M.2.2.2.2.2.2.2 7) (M.2.2.2.2.2.2.2 11) (M.2.2.2.2.2.2.2 12) p1 s1 (M.2.2.2.2.1 p1) (M.2.2.2.2.2.1 s1) cnr M.2.2.1) (ypn (M.2.2.2.2.2.2.2 6) (M.2.2.2.2.2.2.2 13) p1 s1 (M.2.2.2.2.1 p1) ndr 6) (yl1 (M.2.2.2.2.2.2.2 9) (M.2.2.2.2.2.2.2 4) s1 d M.2.2.1) := by
  have hn := rq_need h hs1 hp1 (fun _ => 0) ndr
  have hq := h.b.rq p1 hp1
  refine ⟨h.a.hG, h.a.hC, hq.2, h.a.hC0, fun g h1 h2 => (h.a.tr g h1 h2).2, fun c hc => (h.a.gol c hc).2, rf_counts h.a.hC hq.2 (fun r h1 h2 => h.b.al p1 hp1 r (by omega)) (h.c.sf s1 hs1) (h.c.pt s1 hs1), h.a.lmb, hn.2.1, hn.2.2, fun c hc => ?_⟩
  rw [← rq_live h hs1 hd, h.a.eC]; exact rf_live_out _ h.a.hC c hc
theorem rq_hgo (h : LI X M) : ∀ c, c < 12 → rp (M.2.2.2.2.2.2.2 2) c < 6 := fun c _ => by
  have hG := h.a.hG
  by_cases e : c < M.2.2.1
  · have := (h.a.gol c e).2; unfold rp; omega
  · unfold rp; rw [h.a.goz c (by omega)]; decide
theorem rq_lk (h : LI X M) {s1 p1 : Nat} (hs1 : s1 < 4) (hp1 : p1 < 3) {d : Int32} (hd : 0 ≤ d.toInt ∧ d.toInt ≤ 99) (hpg : M.2.2.2.2.2.2.2 8 s1 = nI p1) : ylk (M.2.2.2.2.2.2.2 8) (nI s1) d = 0 := by
  unfold ylk
  have h3 : yns (nI s1) = false := (rz_zb _).1 ((rz_yns _).2 (by rw [rf_nI (by omega)]; omega))
  rw [if_neg, if_pos]
  · rw [rf_nI_clamp (by omega), hpg, rf_le, rf_nI (by omega), rf_i0]; omega
  · rw [h3, rf_lt, rf_le, rf_i0, rz_99]; intro z; rcases z with z | z | z
    · exact absurd z (by decide)
    · omega
    · omega
theorem rq_bad (h : LI X M) {s1 : Nat} (hs1 : s1 < 4) {b d : Int32} (hb1 : zi 0 b 3 → b.toNatClampNeg = s1) {Y : String} (k : (Y = zx_iae ∧ ¬ (zi 0 b 3 ∧ zi 0 d 99)) ∨ (Y = zx_ise ∧ zi 0 b 3 ∧ zi 0 d 99 ∧ X.2.1 (1 + s1) = -1)) : ylk (M.2.2.2.2.2.2.2 8) b d = if Y = zx_iae then 1 else 2 := by
  have e1 : (zi 0 b 3 ∧ zi 0 d 99) ↔ ¬ (yns b = true ∨ d < 0 ∨ ¬ d ≤ 99) := by
    have h1 := rz_yns b
    rw [rz_zb] at h1
    rw [rz_zk, rz_zk, rf_lt, rf_le, rf_i0, rz_3, rz_99, ← h1]
    cases yns b <;> simp <;> omega
  rcases k with ⟨rfl, k⟩ | ⟨rfl, k1, k2, k3⟩
  · rw [if_pos rfl]; unfold ylk; rw [if_pos (Classical.byContradiction (fun z => k (e1.2 z)))]
  · rw [if_neg rz_ise]; unfold ylk
    rw [if_neg (e1.1 ⟨k1, k2⟩), hb1 k1, ← (h.c.pg s1 hs1).1, k3]; decide
theorem rq_start (h : LI X M) {s1 p1 : Nat} (hs1 : s1 < 4) {b d : Int32} (hb1 : zi 0 b 3 → b.toNatClampNeg = s1) (hg1 : X.2.1 (1 + s1) = -1 ∨ X.2.1 (1 + s1) = nI p1) (k : zi 0 b 3 ∧ zi 0 d 99 ∧ ¬ X.2.1 (1 + s1) = -1) : b = nI s1 ∧ (0 ≤ d.toInt ∧ d.toInt ≤ 99) ∧ M.2.2.2.2.2.2.2 8 s1 = nI p1 := by
  have e1 := hb1 k.1
  have k1 := k.1
  have k2 := k.2.1
  rw [rz_zk, rf_i0, rz_3] at k1
  rw [rz_zk, rf_i0, rz_99] at k2
  have kb := rz_of (b := b) k1.1
  rw [e1] at kb
  exact ⟨kb.1, k2, by rw [← (h.c.pg s1 hs1).1]; exact hg1.resolve_left k.2.2⟩
theorem ra_supply_ok (h : LI X M) {s1 p1 : Nat} (hs1 : s1 < 4) (hp1 : p1 < 3) {b d set : Int32} (hb1 : zi 0 b 3 → b.toNatClampNeg = s1) (hg1 : X.2.1 (1 + s1) = -1 ∨ X.2.1 (1 + s1) = nI p1) (k : K_supply X s1 p1 b d set) :
    b = nI s1 ∧ M.2.2.2.2.2.2.2 8 s1 = nI p1 ∧ ylk (M.2.2.2.2.2.2.2 8) (nI s1) d = 0 ∧ V_supply X s1 p1 b d set = Int32.toInt64 (U_supply_ok M s1 p1 d set) ∧ LI (X_supply X s1 p1 b d set) (Y_supply_ok M s1 p1 d set) := by
  obtain ⟨e1, hd, hpg⟩ := rq_start h hs1 hb1 hg1 k
  have hq := h.b.rq p1 hp1
  refine ⟨e1, hpg, rq_lk h hs1 hp1 hd hpg, ?_, ⟨?_, ?_, ?_, ?_, ?_⟩⟩
  · unfold V_supply U_supply_ok
    rw [rq_live h hs1 hd, hq.1, h.a.eG, h.a.pa, h.a.lm]
    congr 1
    exact rf_supply (rq_Q h hs1 hp1 hd _ (M.2.2.2.2.2.2.2 14) _) h.a.ci _ (fun g hg => rf_zfl _ _ 6 g hg) _ set
  · exact h.a.congr rfl rfl rfl (fun k hk => by show mf_up (mf_up (mf_up _ _ _) _ _) _ _ k = _; rw [mf_up_n _ _ (by omega), mf_up_n _ _ (by omega), mf_up_n _ _ (by omega)]) rfl rfl rfl (fun k hk => by
      show mf_up (mf_up (mf_up (mf_up (mf_up _ _ _) _ _) _ _) _ _) _ _ k = _; rw [mf_up_n _ _ (by omega), mf_up_n _ _ (by omega), mf_up_n _ _ (by omega), mf_up_n _ _ (by omega), mf_up_n _ _ (by omega)])
  · exact h.b.congr (fun _ _ => rfl) (fun k h1 h2 => by show mf_up (mf_up (mf_up _ _ _) _ _) _ _ k = _; rw [mf_up_n _ _ (by omega), mf_up_n _ _ (by omega), mf_up_n _ _ (by omega)]) rfl rfl rfl
  · exact h.c.congr (fun k h1 h2 => mf_up_n _ _ (by omega)) (fun k h1 h2 => by show mf_up (mf_up (mf_up _ _ _) _ _) _ _ k = _; rw [mf_up_n _ _ (by omega), mf_up_n _ _ (by omega), mf_up_n _ _ (by omega)]) rfl rfl rfl rfl rfl rfl
  · exact h.d.congr rfl (fun k h1 h2 => mf_up_n _ _ (by omega)) rfl rfl rfl rfl
  · exact h.e.congr rfl rfl
theorem rf_yfr {op : Nat → Bool} {lv : Int32} : ∀ n, n ≤ 12 → ∀ c, rb (yfr op lv n) c = (decide (c < n) && (op c && !rb lv c))
  | 0, _, c => by show rb 0 c = _; rw [rb_0]; simp
  | n + 1, hn, c => by
    have ih := rf_yfr (op := op) (lv := lv) n (by omega) c
    have e0 : yfr op lv (n + 1) = if op n = true ∧ (lv >>> (nI n &&& 31)) &&& 1 = 0 then zw (yfr op lv n) n else yfr op lv n := rfl
    have hz : (lv >>> (nI n &&& 31)) &&& 1 = 0 ↔ rb lv n = false := by rw [rb_sr (by omega)]; cases rb lv n <;> decide
    rw [e0]
    by_cases e : op n = true ∧ (lv >>> (nI n &&& 31)) &&& 1 = 0
    · rw [if_pos e, rb_zw (by omega), ih]
      by_cases ec : c = n
      · subst ec; rw [e.1, hz.1 e.2]; simp
      · rw [decide_eq_false (p := n = c) (fun z => ec z.symm), Bool.or_false]
        by_cases el : c < n
        · rw [decide_eq_true el, decide_eq_true (by omega : c < n + 1)]
        · rw [decide_eq_false el, decide_eq_false (by omega : ¬ c < n + 1)]
    · rw [if_neg e, ih]
      by_cases ec : c = n
      · subst ec
        have : (op c && !rb lv c) = false := Bool.eq_false_iff.2 (fun z => by
          rw [Bool.and_eq_true, Bool.not_eq_true'] at z; exact e ⟨z.1, hz.2 z.2⟩)
        rw [this]; simp
      · by_cases el : c < n
        · rw [decide_eq_true el, decide_eq_true (by omega : c < n + 1)]
        · rw [decide_eq_false el, decide_eq_false (by omega : ¬ c < n + 1)]
theorem ra_fewestMore_ok (h : LI X M) {s1 p1 : Nat} (hs1 : s1 < 4) (hp1 : p1 < 3) {b d : Int32} (hb1 : zi 0 b 3 → b.toNatClampNeg = s1) (hg1 : X.2.1 (1 + s1) = -1 ∨ X.2.1 (1 + s1) = nI p1) (k : K_fewestMore X s1 p1 b d) :
    b = nI s1 ∧ M.2.2.2.2.2.2.2 8 s1 = nI p1 ∧ ylk (M.2.2.2.2.2.2.2 8) (nI s1) d = 0 ∧ V_fewestMore X s1 p1 b d = Int32.toInt64 (U_fewestMore_ok M s1 p1 d) ∧ LI (X_fewestMore X s1 p1 b d) (Y_fewestMore_ok M s1 p1 d) := by
  obtain ⟨e1, hd, hpg⟩ := rq_start h hs1 hb1 hg1 k
  have hq := h.b.rq p1 hp1
  have Q := fun ctc => rq_Q h hs1 hp1 hd ctc (M.2.2.2.2.2.2.2 14) (M.2.2.2.2.2.2.2 15)
  have hfr : X.2.1 0 &&& (yl1 (M.2.2.2.2.2.2.2 9) (M.2.2.2.2.2.2.2 4) s1 d M.2.2.1 ^^^ (-1)) = yfr M.2.2.2.2.2.2.1 (yl1 (M.2.2.2.2.2.2.2 9) (M.2.2.2.2.2.2.2 4) s1 d M.2.2.1) M.2.2.1 := by
    apply rb_ext; intro c hc
    rw [rb_and, h.a.oc, rb_not hc, rf_yfr _ h.a.hC, Bool.and_assoc]
  refine ⟨e1, hpg, rq_lk h hs1 hp1 hd hpg, ?_, ⟨?_, ?_, ?_, ?_, ?_⟩⟩
  · unfold V_fewestMore U_fewestMore_ok
    rw [rq_live h hs1 hd, hq.1, h.a.eG, h.a.eC, h.a.pa, h.a.lm, h.a.go, hfr]
    congr 1
    exact rf_fewest (Q _) (rq_need h hs1 hp1 _ _).1 _ _ _ (fun g hg => rf_zfl _ _ 6 g hg) (fun r hr => rf_zfl _ _ 6 r hr) (fun c hc => by rw [rf_yfr _ h.a.hC, decide_eq_false (by omega)]; rfl) (fun c hc => by
      rw [rf_yfr _ h.a.hC, Bool.and_eq_true, Bool.and_eq_true, Bool.not_eq_true'] at hc; exact hc.2.2) _
  · exact h.a.congr rfl rfl rfl (fun k hk => by show mf_up (mf_up _ _ _) _ _ k = _; rw [mf_up_n _ _ (by omega), mf_up_n _ _ (by omega)]) rfl rfl rfl (fun k hk => by
      show mf_up (mf_up (mf_up (mf_up (mf_up _ _ _) _ _) _ _) _ _) _ _ k = _; rw [mf_up_n _ _ (by omega), mf_up_n _ _ (by omega), mf_up_n _ _ (by omega), mf_up_n _ _ (by omega), mf_up_n _ _ (by omega)])
  · exact h.b.congr (fun _ _ => rfl) (fun k h1 h2 => by show mf_up (mf_up _ _ _) _ _ k = _; rw [mf_up_n _ _ (by omega), mf_up_n _ _ (by omega)]) rfl rfl rfl
  · exact h.c.congr (fun k h1 h2 => mf_up_n _ _ (by omega)) (fun k h1 h2 => by show mf_up (mf_up _ _ _) _ _ k = _; rw [mf_up_n _ _ (by omega), mf_up_n _ _ (by omega)]) rfl rfl rfl rfl rfl rfl
  · exact h.d.congr rfl (fun k h1 h2 => mf_up_n _ _ (by omega)) rfl rfl rfl rfl
  · refine ⟨fun j => ?_, ?_⟩
    · unfold X_fewestMore
      rw [rq_live h hs1 hd, hq.1, h.a.eG, h.a.eC, h.a.pa, h.a.lm, h.a.go]
      exact rf_znkF h.e.wk h.a.hG h.a.hC hq.2 (fun g h1 h2 => (h.a.tr g h1 h2).2) (rq_hgo h) j
    · unfold X_fewestMore
      rw [rq_live h hs1 hd, hq.1, h.a.eG, h.a.eC, h.a.pa, h.a.lm, h.a.go]
      exact rf_vnF (Q _) _ _ _ h.e.vn
theorem ra_audit_ok (h : LI X M) {s1 p1 : Nat} (hs1 : s1 < 4) (hp1 : p1 < 3) {b d : Int32} (hb1 : zi 0 b 3 → b.toNatClampNeg = s1) (hg1 : X.2.1 (1 + s1) = -1 ∨ X.2.1 (1 + s1) = nI p1) (k : K_audit X s1 p1 b d) :
    b = nI s1 ∧ M.2.2.2.2.2.2.2 8 s1 = nI p1 ∧ ylk (M.2.2.2.2.2.2.2 8) (nI s1) d = 0 ∧ V_audit X s1 p1 b d = Int32.toInt64 (U_audit_ok M s1 p1 d) ∧ LI (X_audit X s1 p1 b d) (Y_audit_ok M s1 p1 d) := by
  obtain ⟨e1, hd, hpg⟩ := rq_start h hs1 hb1 hg1 k
  have hq := h.b.rq p1 hp1
  have Q := rq_Q h hs1 hp1 hd (X.2.2.1 25) (M.2.2.2.2.2.2.2 14) (M.2.2.2.2.2.2.2 15)
  have hn := (rq_need h hs1 hp1 (X.2.2.1 24) (M.2.2.2.2.2.2.2 14)).1
  have htk : ∀ g, g < 6 → zfl (M.2.2.2.2.2.2.2 17) 0 6 g = 0 := fun g hg => rf_zfl _ _ 6 g hg
  have hgv : ∀ g, g < 6 → zfl (M.2.2.2.2.2.2.2 16) 0 6 g = 0 := fun g hg => rf_zfl _ _ 6 g hg
  have hall := rf_need_all Q hn hgv
  have hA := fun hv' => rf_audit Q hn X.2.2.2.2.1 X.2.2.2.2.2.2.1 X.2.2.2.2.2.2.2 htk hgv (M.2.2.2.2.2.2.2 18) hv' (M.2.2.2.2.2.2.2 20) (X.2.2.1 26)
  refine ⟨e1, hpg, rq_lk h hs1 hp1 hd hpg, ?_, ⟨?_, ?_, ?_, ?_, ?_⟩⟩
  · unfold V_audit U_audit_ok
    rw [rq_live h hs1 hd, hq.1, h.a.eG, h.a.pa, h.a.lm, h.a.go, hall, (hA (fun _ => 0)).1]
  · exact h.a.congr rfl rfl rfl (fun k hk => by show mf_up (mf_up (mf_up (mf_up _ _ _) _ _) _ _) _ _ k = _; rw [mf_up_n _ _ (by omega), mf_up_n _ _ (by omega), mf_up_n _ _ (by omega), mf_up_n _ _ (by omega)]) rfl rfl rfl (fun k hk => by
      show mf_up (mf_up (mf_up (mf_up (mf_up (mf_up (mf_up _ _ _) _ _) _ _) _ _) _ _) _ _) _ _ k = _
      rw [mf_up_n _ _ (by omega), mf_up_n _ _ (by omega), mf_up_n _ _ (by omega), mf_up_n _ _ (by omega), mf_up_n _ _ (by omega), mf_up_n _ _ (by omega), mf_up_n _ _ (by omega)])
  · exact h.b.congr (fun _ _ => rfl) (fun k h1 h2 => by show mf_up (mf_up (mf_up (mf_up _ _ _) _ _) _ _) _ _ k = _; rw [mf_up_n _ _ (by omega), mf_up_n _ _ (by omega), mf_up_n _ _ (by omega), mf_up_n _ _ (by omega)]) rfl rfl rfl
  · exact h.c.congr (fun k h1 h2 => by
      show mf_up (mf_up (mf_up (mf_up (mf_up (mf_up (mf_up (mf_up _ _ _) _ _) _ _) _ _) _ _) _ _) _ _) _ _ k = _
      rw [mf_up_n _ _ (by omega), mf_up_n _ _ (by omega), mf_up_n _ _ (by omega), mf_up_n _ _ (by omega), mf_up_n _ _ (by omega), mf_up_n _ _ (by omega), mf_up_n _ _ (by omega), mf_up_n _ _ (by omega)]) (fun k h1 h2 => by show mf_up (mf_up (mf_up (mf_up _ _ _) _ _) _ _) _ _ k = _; rw [mf_up_n _ _ (by omega), mf_up_n _ _ (by omega), mf_up_n _ _ (by omega), mf_up_n _ _ (by omega)]) rfl rfl rfl rfl rfl rfl
  · have hU := rf_unmet Q hn h.a.ci htk hgv (X.2.2.1 5) (yms M.2.1 M.2.2.1 (M.2.2.2.2.2.2.2 0) (M.2.2.2.2.2.2.2 1) (zfl (M.2.2.2.2.2.2.2 17) 0 6) (M.2.2.2.2.2.2.2 2) (ycn (M.2.2.2.2.2.2.2 7) (M.2.2.2.2.2.2.2 11) (M.2.2.2.2.2.2.2 12) p1 s1 (M.2.2.2.2.1 p1) (M.2.2.2.2.2.1 s1) (M.2.2.2.2.2.2.2 15) M.2.2.1) (ypn (M.2.2.2.2.2.2.2 6) (M.2.2.2.2.2.2.2 13) p1 s1 (M.2.2.2.2.1 p1) (M.2.2.2.2.2.2.2 14) 6) (zfl (M.2.2.2.2.2.2.2 16) 0 6) (yl1 (M.2.2.2.2.2.2.2 9) (M.2.2.2.2.2.2.2 4) s1 d M.2.2.1) (M.2.2.2.2.2.2.2 18) 31).2
    refine ⟨rfl, fun _ => ⟨?_, ?_, ?_, ?_, ?_, ?_, ?_⟩, fun _ c hc => ?_⟩
    · show zns ((2 <<< (nI (X.1 (2 + p1)) &&& 31)) - 2) (znr (X.2.2.1 24) (X.2.2.1 (6 + p1)) (X.2.2.1 (20 + s1)) (X.1 (2 + p1) + 1)) (X.1 (2 + p1) + 1) = _
      rw [hq.1, hall]; rfl
    · unfold X_audit
      show nI _ = _
      rw [rq_live h hs1 hd, hq.1, h.a.eG, h.a.pa, h.a.lm, h.a.go, (hA (fun _ => 0)).1]; rfl
    · unfold X_audit
      show (zfu _ _ _ _ _ _ _ _ _ _).1 = _
      rw [rq_live h hs1 hd, hq.1, h.a.eG, h.a.pa, h.a.lm, (hU (fun _ => 0)).1]; rfl
    · unfold X_audit
      show (zfu _ _ _ _ _ _ _ _ _ _).2.1 = _
      rw [rq_live h hs1 hd, hq.1, h.a.eG, h.a.pa, h.a.lm, (hU (fun _ => 0)).2.1]; rfl
    · unfold X_audit
      show (zfu _ _ _ _ _ _ _ _ _ _).2.2.1 = _
      rw [rq_live h hs1 hd, hq.1, h.a.eG, h.a.pa, h.a.lm]
      exact (hU _).2.2
    · exact e1
    · rfl
    · unfold X_audit
      show zwa _ _ _ _ _ c = _ ∧ _
      rw [rq_live h hs1 hd, hq.1, h.a.eG, h.a.pa, h.a.lm, h.a.go]
      refine ⟨(hA _).2 c hc, ?_⟩
      have e9 : (Y_audit_ok M s1 p1 d).2.2.2.2.2.2.2 20 c = _ := ((hA _).2 c hc).symm
      rw [e9]
      obtain ⟨as, hO⟩ := rf_best Q hn X.2.2.2.2.1 X.2.2.2.2.2.2.1 X.2.2.2.2.2.2.2
      rw [rf_written hO h.a.hC hq.2 _ hc]
      split
      · rename_i hcc
        have : as c ≤ 5 := by
          by_cases z : as c = 0
          · omega
          · have := hO.ok.1 c hcc z; omega
        rw [rf_nI (by omega)]; omega
      · rw [rf_i0]; exact Int.le_refl _
  · refine ⟨fun j => ?_, ?_⟩
    · unfold X_audit
      rw [rq_live h hs1 hd, hq.1, h.a.eG, h.a.pa, h.a.lm, h.a.go]
      exact rf_znkA h.e.wk h.a.hG hq.2 (fun g h1 h2 => (h.a.tr g h1 h2).2) (rq_hgo h) j
    · unfold X_audit
      rw [rq_live h hs1 hd, hq.1, h.a.eG, h.a.pa, h.a.lm, h.a.go]
      exact rf_vnA Q _ _ h.e.vn
end
