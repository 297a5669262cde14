/-! petitions -/
section
variable {X : XS} {M : MS}
theorem rs_has (h : LI X M) {s1 : Nat} (hs1 : s1 < 4) {c d : Nat} (hc : c < 12) (hd : d < 12) : zh (X.2.2.1 (16 + s1) c) (nI d) = true ↔ ∃ j, j < M.2.2.2.2.2.1 s1 ∧ M.2.2.2.2.2.2.2 11 (8 * s1 + j) = nI c ∧ M.2.2.2.2.2.2.2 12 (8 * s1 + j) = nI d := by
  rw [rb_zh (by omega), h.c.sf s1 hs1 c hc d (by omega), List.any_eq_true]
  constructor
  · rintro ⟨j, h1, h2⟩
    rw [Bool.and_eq_true, decide_eq_true_eq, decide_eq_true_eq] at h2
    exact ⟨j, List.mem_range.1 h1, h2.1, h2.2⟩
  · rintro ⟨j, h1, h2, h3⟩
    exact ⟨j, List.mem_range.2 h1, by rw [Bool.and_eq_true, decide_eq_true_eq, decide_eq_true_eq]; exact ⟨h2, h3⟩⟩
/-- the arguments of a petition that is not refused -/
theorem rs_args (h : LI X M) {s1 : Nat} {b c0 d : Int32} (hb1 : zi 0 b 3 → b.toNatClampNeg = s1) (k : zi 0 b 3 ∧ zi 0 c0 (nI (X.1 1) - 1) ∧ zi 0 d (nI (X.1 1) - 1)) :
    b = nI s1 ∧ c0 = nI c0.toNatClampNeg ∧ d = nI d.toNatClampNeg ∧ c0.toNatClampNeg < 12 ∧ d.toNatClampNeg < 12 ∧ ytu M.2.2.1 (nI s1) (nI c0.toNatClampNeg) (nI d.toNatClampNeg) = 0 ∧ (c0 = d ↔ c0.toNatClampNeg = d.toNatClampNeg) := by
  have hC := h.a.hC
  have e1 := hb1 k.1
  rw [h.a.eC, rz_zi (by omega), rz_zi (by omega), rz_zk, rf_i0, rz_3] at k
  have kb := rz_of (b := b) k.1.1
  have kc := rz_of (b := c0) k.2.1.1
  have kd := rz_of (b := d) k.2.2.1
  rw [e1] at kb
  refine ⟨kb.1, kc.1, kd.1, by omega, by omega, ?_, ⟨fun z => by rw [z], fun z => by rw [kc.1, kd.1, z]⟩⟩
  unfold ytu; rw [← kb.1, ← kc.1, ← kd.1, if_neg]; rw [rz_yns, rz_yng (by omega), rz_yng (by omega)]; omega
theorem ra_substitute_bad (h : LI X M) {s1 : Nat} {b c0 d : Int32} (k : ¬ (zi 0 b 3 ∧ zi 0 c0 (nI (X.1 1) - 1) ∧ zi 0 d (nI (X.1 1) - 1))) : ytu M.2.2.1 b c0 d = 1 := by
  have hC := h.a.hC
  rw [h.a.eC, rz_zi (by omega), rz_zi (by omega), rz_zk, rf_i0, rz_3] at k
  unfold ytu; rw [if_pos]; rw [rz_yns, rz_yng (by omega), rz_yng (by omega)]; omega
theorem ra_substitute_keep (h : LI X M) {s1 : Nat} (hs1 : s1 < 4) {b c0 d : Int32} (hc : c0 = d ∨ zh (X.2.2.1 (16 + s1) c0.toNatClampNeg) d = true) (t : Int32) : LI (X_substitute X s1 b c0 d) (t, M.2.1, M.2.2.1, M.2.2.2.1, M.2.2.2.2.1, M.2.2.2.2.2.1, M.2.2.2.2.2.2.1, M.2.2.2.2.2.2.2) := by
  have h' := h.th t
  have s0 : (X_substitute X s1 b c0 d).2.1 = X.2.1 := by
    unfold X_substitute; show mf_up _ _ _ = _; rw [if_pos hc]; funext j; unfold mf_up; split
    · rename_i z; rw [z]
    · rfl
  have a0 : (X_substitute X s1 b c0 d).2.2.1 = X.2.2.1 := by
    unfold X_substitute; show mf_up _ _ _ = _; rw [if_pos hc]; funext j; unfold mf_up; split
    · rename_i z; rw [z]
    · rfl
  exact ⟨h'.a.congr rfl rfl (by rw [s0]) (fun k _ => by rw [a0]) rfl rfl rfl (fun _ _ => rfl), h'.b.congr (fun _ _ => rfl) (fun k _ _ => by rw [a0]) rfl rfl rfl, h'.c.congr (fun k _ _ => by rw [s0]) (fun k _ _ => by rw [a0]) rfl rfl rfl rfl rfl rfl, h'.d.congr rfl (fun k _ _ => by rw [s0]) (by rw [a0]) rfl rfl rfl, h'.e.congr rfl rfl⟩
theorem ra_substitute_new (h : LI X M) {s1 : Nat} (hs1 : s1 < 4) {b c0 d : Int32} (kc : c0 = nI c0.toNatClampNeg) (kd : d = nI d.toNatClampNeg) (hc12 : c0.toNatClampNeg < 12) (hd12 : d.toNatClampNeg < 12) (hc : ¬ (c0 = d ∨ zh (X.2.2.1 (16 + s1) c0.toNatClampNeg) d = true)) (h8 : ¬ M.2.2.2.2.2.1 s1 = 8) : LI (X_substitute X s1 b c0 d) (Y_substitute_ok M s1 c0.toNatClampNeg d.toNatClampNeg) := by
  have hpe := h.c.pe s1 hs1
  refine ⟨?_, ?_, ?_, ?_, ?_⟩
  · exact h.a.congr rfl rfl (mf_up_n _ _ (by omega)) (fun k hk => mf_up_n _ _ (by omega)) rfl rfl rfl (fun k hk => by show mf_up (mf_up _ _ _) _ _ k = _; rw [mf_up_n _ _ (by omega), mf_up_n _ _ (by omega)])
  · exact h.b.congr (fun _ _ => rfl) (fun k h1 h2 => mf_up_n _ _ (by omega)) rfl rfl rfl
  · have p1 : (Y_substitute_ok M s1 c0.toNatClampNeg d.toNatClampNeg).2.2.2.2.2.1 = mf_up M.2.2.2.2.2.1 s1 (M.2.2.2.2.2.1 s1 + 1) := rfl
    have b11 : (Y_substitute_ok M s1 c0.toNatClampNeg d.toNatClampNeg).2.2.2.2.2.2.2 11 = upd (M.2.2.2.2.2.2.2 11) (8 * s1 + M.2.2.2.2.2.1 s1) (nI c0.toNatClampNeg) := rfl
    have b12 : (Y_substitute_ok M s1 c0.toNatClampNeg d.toNatClampNeg).2.2.2.2.2.2.2 12 = upd (M.2.2.2.2.2.2.2 12) (8 * s1 + M.2.2.2.2.2.1 s1) (nI d.toNatClampNeg) := rfl
    have a16 : ∀ s, s < 4 → (X_substitute X s1 b c0 d).2.2.1 (16 + s) = if s = s1 then upd (X.2.2.1 (16 + s1)) c0.toNatClampNeg (X.2.2.1 (16 + s1) c0.toNatClampNeg ||| (1 <<< (d &&& 31))) else X.2.2.1 (16 + s) := fun s _ => by
      unfold X_substitute; show mf_up _ _ _ _ = _; rw [if_neg hc]
      by_cases e : s = s1
      · subst e; rw [mf_up_s, if_pos rfl]
      · rw [mf_up_n _ _ (by omega), if_neg e]
    refine ⟨fun s hs => ?_, fun s hs c hcc => ?_, fun s hs => ?_, fun s hs c hcc i hi => ?_, fun s hs j hj => ?_, fun s hs r hr => ?_⟩
    · show mf_up X.2.1 (5 + s1) _ (1 + s) = M.2.2.2.2.2.2.2 8 s ∧ _
      rw [mf_up_n _ _ (by omega)]; exact h.c.pg s hs
    · show mf_up X.2.2.1 (16 + s1) _ (12 + s) c = _ ∧ _
      rw [mf_up_n _ _ (by omega)]; exact h.c.ps s hs c hcc
    · rw [p1]
      unfold X_substitute
      show mf_up X.2.1 (5 + s1) _ (5 + s) = _ ∧ _
      rw [if_neg hc]
      by_cases e : s = s1
      · subst e; rw [mf_up_s, mf_up_s, hpe.1]
        refine ⟨?_, by omega⟩
        apply rf_ext; rw [rf_add (by rw [rf_nI (by omega), rz_1]; omega) (by rw [rf_nI (by omega), rz_1]; omega), rf_nI (by omega), rz_1, rf_nI (by omega)]; omega
      · rw [mf_up_n _ _ (by omega), mf_up_n _ _ e]; exact h.c.pe s hs
    · rw [a16 s hs, p1, b11, b12]
      have old := h.c.sf s hs c hcc i hi
      by_cases e : s = s1
      · subst e
        rw [if_pos rfl, mf_up_s, List.range_succ, List.any_append]
        have hkeep : (List.range (M.2.2.2.2.2.1 s)).any (fun j => decide (upd (M.2.2.2.2.2.2.2 11) (8 * s + M.2.2.2.2.2.1 s) (nI c0.toNatClampNeg) (8 * s + j) = nI c) && decide (upd (M.2.2.2.2.2.2.2 12) (8 * s + M.2.2.2.2.2.1 s) (nI d.toNatClampNeg) (8 * s + j) = nI i)) = rb (X.2.2.1 (16 + s) c) i := by
          rw [old, Bool.eq_iff_iff, List.any_eq_true, List.any_eq_true]
          constructor
          · rintro ⟨j, h1, h2⟩
            have hj := List.mem_range.1 h1
            rw [rf_upd_n _ _ (by omega), rf_upd_n _ _ (by omega)] at h2
            exact ⟨j, h1, h2⟩
          · rintro ⟨j, h1, h2⟩
            have hj := List.mem_range.1 h1
            exact ⟨j, h1, by rw [rf_upd_n _ _ (by omega), rf_upd_n _ _ (by omega)]; exact h2⟩
        rw [hkeep]
        have hlast : ([M.2.2.2.2.2.1 s].any fun j => decide (upd (M.2.2.2.2.2.2.2 11) (8 * s + M.2.2.2.2.2.1 s) (nI c0.toNatClampNeg) (8 * s + j) = nI c) && decide (upd (M.2.2.2.2.2.2.2 12) (8 * s + M.2.2.2.2.2.1 s) (nI d.toNatClampNeg) (8 * s + j) = nI i)) = (decide (c0.toNatClampNeg = c) && decide (d.toNatClampNeg = i)) := by
          show ((decide _ && decide _) || false) = _
          rw [rf_upd_s, rf_upd_s, Bool.or_false]
          have q : ∀ m n : Nat, m < 32 → n < 32 → decide (nI m = nI n) = decide (m = n) := fun m n h1 h2 => by
            by_cases z : m = n
            · rw [z]; simp
            · rw [decide_eq_false z, decide_eq_false (fun y => z (rf_nI_inj (by omega) (by omega) y))]
          rw [q _ _ (by omega) (by omega), q _ _ (by omega) hi]
        rw [hlast]
        by_cases ec : c = c0.toNatClampNeg
        · rw [ec, rf_upd_s, rb_or, rz_sh kd (by omega), decide_eq_true rfl, Bool.true_and]
        · rw [rf_upd_n _ _ ec, decide_eq_false (p := c0.toNatClampNeg = c) (fun z => ec z.symm), Bool.false_and, Bool.or_false]
      · rw [if_neg e, mf_up_n _ _ e, old, Bool.eq_iff_iff, List.any_eq_true, List.any_eq_true]
        have h9 := h.c.pe s hs
        constructor
        · rintro ⟨j, h1, h2⟩
          have hj := List.mem_range.1 h1
          exact ⟨j, h1, by rw [rf_upd_n _ _ (by omega), rf_upd_n _ _ (by omega)]; exact h2⟩
        · rintro ⟨j, h1, h2⟩
          have hj := List.mem_range.1 h1
          rw [rf_upd_n _ _ (by omega), rf_upd_n _ _ (by omega)] at h2
          exact ⟨j, h1, h2⟩
    · rw [p1] at hj; rw [b12]
      have h9 := h.c.pe s hs
      by_cases e : s = s1
      · subst e; rw [mf_up_s] at hj
        by_cases ej : j = M.2.2.2.2.2.1 s
        · rw [ej, rf_upd_s]; exact ⟨d.toNatClampNeg, hd12, rfl⟩
        · rw [rf_upd_n _ _ (by omega)]; exact h.c.pt s hs j (by omega)
      · rw [mf_up_n _ _ e] at hj
        rw [rf_upd_n _ _ (by omega)]; exact h.c.pt s hs j hj
    · show _ ∧ _ ∧ (mf_up X.2.2.1 (16 + s1) _ (20 + s) r).toInt = _
      rw [mf_up_n _ _ (by omega)]; exact h.c.ex s hs r hr
  · exact h.d.congr rfl (fun k h1 h2 => mf_up_n _ _ (by omega)) (mf_up_n _ _ (by omega)) rfl rfl rfl
  · exact h.e.congr rfl rfl
end
