/-! the fewest further courses -/
section
variable {G C R : Nat} {pa lm go ct cn nd ndc : Nat → Int32} {lv : Int32}
def rfull (G C R : Nat) (pa lm go ct nd : Nat → Int32) (X : Int32) : Prop := ∃ as, mf_aok G R C (rp pa) (rp go) (rb X) (rc ct) (rL lm) (rN nd) as ∧ mf_asz C as = mf_nd0 R (rN nd) (rT 62)
theorem rf_aszall (Q : rf_Q G C R pa lm go ct cn nd lv) {X : Int32} {as : Nat → Nat} (h : mf_aok G R C (rp pa) (rp go) (rb X) (rc ct) (rL lm) (rN nd) as) : mf_asz C as ≤ mf_nd0 R (rN nd) (rT 62) := by
  have h1 := mf_a_le Q.hgo Q.hp h (fun _ => false)
  have hH := rf_Q_H Q (tk := fun _ => 0) (gv := fun _ => 0) (fun _ _ => rfl) (fun _ _ => rfl) X
  rw [← rf_cv_0 hH, rf_yno_nd hH] at h1; exact h1
theorem rf_full (Q : rf_Q G C R pa lm go ct cn nd lv) {tk gv : Nat → Int32} (htk : ∀ h, h < 6 → tk h = 0) (hgv : ∀ r, r < 6 → gv r = 0) (X : Int32) (hv : Nat → Int32) : (yms G C pa lm tk go cn nd gv X hv 31).1 = yno 62 nd gv 6 ↔ rfull G C R pa lm go ct nd X := by
  obtain ⟨⟨b, hb1, hb2⟩, hb3⟩ := rf_is_uq Q (rf_most (rf_Q_H Q htk hgv X) hv)
  have hn := rf_nd_ref Q htk hgv 62
  constructor
  · intro h; exact ⟨b, hb1, by rw [hb2, h, hn]⟩
  · rintro ⟨as, h1, h2⟩
    apply rf_ext
    have h3 := hb3 as h1
    have h4 := rf_aszall Q hb1
    omega
theorem rf_ybt_nn (n : Nat) : 0 ≤ (ybt (nI n) 12).toInt ∧ (ybt (nI n) 12).toInt ≤ 12 := by
  rw [rf_ybt _ 12 (by omega)]; exact rf_sm_b (n := 12) (fun c => rb (nI n) c)
def rval (G C R : Nat) (pa lm go ct nd : Nat → Int32) (lv fr : Int32) (j : Nat) : Prop := nI j &&& (fr ^^^ (-1)) = 0 ∧ rfull G C R pa lm go ct nd (lv ||| nI j)
theorem rf_yfm (Q : rf_Q G C R pa lm go ct cn nd lv) {tk gv : Nat → Int32} (htk : ∀ h, h < 6 → tk h = 0) (hgv : ∀ r, r < 6 → gv r = 0) (fr : Int32) (hv : Nat → Int32) : ∀ i,
    ((yfm G C pa lm tk go cn nd gv lv fr (yno 62 nd gv 6) hv i).1.toInt = -1 ∧ ∀ j, j < i → ¬ rval G C R pa lm go ct nd lv fr j) ∨
    (0 ≤ (yfm G C pa lm tk go cn nd gv lv fr (yno 62 nd gv 6) hv i).1.toInt ∧ (∃ j, j < i ∧ rval G C R pa lm go ct nd lv fr j ∧ (yfm G C pa lm tk go cn nd gv lv fr (yno 62 nd gv 6) hv i).1.toInt = (ybt (nI j) 12).toInt) ∧
      ∀ j, j < i → rval G C R pa lm go ct nd lv fr j → (yfm G C pa lm tk go cn nd gv lv fr (yno 62 nd gv 6) hv i).1.toInt ≤ (ybt (nI j) 12).toInt)
  | 0 => Or.inl ⟨by show (-1 : Int32).toInt = -1; decide, fun j h => absurd h (Nat.not_lt_zero j)⟩
  | i + 1 => by
    have ih := rf_yfm Q htk hgv fr hv i
    have e0 : yfm G C pa lm tk go cn nd gv lv fr (yno 62 nd gv 6) hv (i + 1) = if nI i &&& (fr ^^^ (-1)) = 0 ∧ ((yfm G C pa lm tk go cn nd gv lv fr (yno 62 nd gv 6) hv i).1 < 0 ∨ ¬ (yfm G C pa lm tk go cn nd gv lv fr (yno 62 nd gv 6) hv i).1 ≤ ybt (nI i) 12) then (if (yms G C pa lm tk go cn nd gv (lv ||| nI i) (yfm G C pa lm tk go cn nd gv lv fr (yno 62 nd gv 6) hv i).2 31).1 = yno 62 nd gv 6 then ybt (nI i) 12 else (yfm G C pa lm tk go cn nd gv lv fr (yno 62 nd gv 6) hv i).1, (yms G C pa lm tk go cn nd gv (lv ||| nI i) (yfm G C pa lm tk go cn nd gv lv fr (yno 62 nd gv 6) hv i).2 31).2) else yfm G C pa lm tk go cn nd gv lv fr (yno 62 nd gv 6) hv i := rfl
    have hf := rf_full Q htk hgv (lv ||| nI i) (yfm G C pa lm tk go cn nd gv lv fr (yno 62 nd gv 6) hv i).2
    have hb := rf_ybt_nn i
    rw [e0]
    generalize yfm G C pa lm tk go cn nd gv lv fr (yno 62 nd gv 6) hv i = p at ih hf ⊢
    by_cases hc : nI i &&& (fr ^^^ (-1)) = 0 ∧ (p.1 < 0 ∨ ¬ p.1 ≤ ybt (nI i) 12)
    · rw [if_pos hc]
      have hc2 := hc.2
      rw [rf_lt, rf_le, rf_i0] at hc2
      by_cases hy : rfull G C R pa lm go ct nd (lv ||| nI i)
      · rw [if_pos (hf.2 hy)]
        refine Or.inr ⟨hb.1, ⟨i, by omega, ⟨hc.1, hy⟩, rfl⟩, fun j hj hv => ?_⟩
        show (ybt (nI i) 12).toInt ≤ _
        by_cases e : j = i
        · subst e; exact Int.le_refl _
        · rcases ih with ⟨h1, h2⟩ | ⟨h1, h2, h3⟩
          · exact absurd hv (h2 j (by omega))
          · have := h3 j (by omega) hv; omega
      · rw [if_neg (fun z => hy (hf.1 z))]
        rcases ih with ⟨h1, h2⟩ | ⟨h1, ⟨j0, h2, h2', h2''⟩, h3⟩
        · refine Or.inl ⟨h1, fun j hj hv => ?_⟩
          by_cases e : j = i
          · subst e; exact hy hv.2
          · exact h2 j (by omega) hv
        · refine Or.inr ⟨h1, ⟨j0, by omega, h2', h2''⟩, fun j hj hv => ?_⟩
          by_cases e : j = i
          · subst e; exact absurd hv.2 hy
          · exact h3 j (by omega) hv
    · rw [if_neg hc]
      rcases ih with ⟨h1, h2⟩ | ⟨h1, ⟨j0, h2, h2', h2''⟩, h3⟩
      · refine Or.inl ⟨h1, fun j hj hv => ?_⟩
        by_cases e : j = i
        · subst e; exact hc ⟨hv.1, Or.inl (rf_lt.2 (by rw [rf_i0]; omega))⟩
        · exact h2 j (by omega) hv
      · refine Or.inr ⟨h1, ⟨j0, by omega, h2', h2''⟩, fun j hj hv => ?_⟩
        by_cases e : j = i
        · subst e
          by_cases hle : p.1 ≤ ybt (nI j) 12
          · exact rf_le.1 hle
          · exact absurd ⟨hv.1, Or.inr hle⟩ hc
        · exact h3 j (by omega) hv
theorem rf_sub_bits {j : Nat} {fr : Int32} : nI j &&& (fr ^^^ (-1)) = 0 ↔ ∀ c, rb (nI j) c = true → rb fr c = true := by
  rw [rb_and0]
  constructor
  · intro h c hc
    have hl : c < 32 := Nat.lt_of_not_le (fun z => by rw [rb_out z] at hc; exact absurd hc (by decide))
    apply Classical.byContradiction; intro hn
    refine h c hl ⟨hc, ?_⟩
    rw [rb_not hl, Bool.eq_false_iff.2 hn]; rfl
  · intro h c hc hx
    rw [rb_not hc, h c hx.1] at hx; exact absurd hx.2 (by decide)
/-- a set of courses as a number -/
def rset (f : Nat → Bool) : Nat → Nat
  | 0 => 0
  | n + 1 => rset f n + (if f n = true then 2 ^ n else 0)
theorem rset_lt (f : Nat → Bool) : ∀ n, rset f n < 2 ^ n
  | 0 => by show 0 < 1; omega
  | n + 1 => by
    have ih := rset_lt f n
    show rset f n + (if f n = true then 2 ^ n else 0) < 2 ^ (n + 1)
    rw [Nat.pow_succ]; split <;> omega
theorem rset_bit (f : Nat → Bool) : ∀ n i, (rset f n).testBit i = (decide (i < n) && f i)
  | 0, i => by show (0 : Nat).testBit i = _; simp
  | n + 1, i => by
    have ih := rset_bit f n
    have hl := rset_lt f n
    show (rset f n + (if f n = true then 2 ^ n else 0)).testBit i = _
    by_cases e : f n = true
    · rw [if_pos e]
      by_cases ei : i = n
      · subst ei
        rw [Nat.add_comm, Nat.testBit_two_pow_add_eq, Nat.testBit_lt_two_pow hl, e]; simp
      · by_cases el : i < n
        · rw [Nat.add_comm, Nat.testBit_two_pow_add_gt el, ih, decide_eq_true el, decide_eq_true (by omega : i < n + 1)]
        · rw [Nat.testBit_lt_two_pow, decide_eq_false (by omega : ¬ i < n + 1)]
          · rfl
          · have h1 : 2 ^ (n + 1) ≤ 2 ^ i := Nat.pow_le_pow_right (by omega) (by omega)
            rw [Nat.pow_succ] at h1; omega
    · rw [if_neg e, Nat.add_zero, ih]
      by_cases ei : i = n
      · subst ei; rw [Bool.eq_false_iff.2 e]; simp
      · by_cases el : i < n
        · rw [decide_eq_true el, decide_eq_true (by omega : i < n + 1)]
        · rw [decide_eq_false el, decide_eq_false (by omega : ¬ i < n + 1)]
theorem rf_aok_X {X X' : Nat → Bool} {par grp : Nat → Nat} {cnt : Nat → Nat → Bool} {lim need : Nat → Int} {as : Nat → Nat} (h : mf_aok G R C par grp X cnt lim need as) (hx : ∀ c, c < C → as c ≠ 0 → X c = true → X' c = true) : mf_aok G R C par grp X' cnt lim need as :=
  ⟨fun c hc ha => ⟨(h.1 c hc ha).1, hx c hc ha (h.1 c hc ha).2.1, (h.1 c hc ha).2.2⟩, h.2⟩
set_option linter.unusedVariables false in
theorem rf_fewest (Q : rf_Q G C R pa lm go ct cn nd lv) (hnc : ∀ r, r < R → ndc (r + 1) = nd (r + 1)) (w : zN) (d : Nat → Int64) (vn : Nat → Nat) {tk gv : Nat → Int32} (htk : ∀ h, h < 6 → tk h = 0) (hgv : ∀ r, r < 6 → gv r = 0) {fr : Int32} (hf1 : ∀ c, C ≤ c → rb fr c = false) (hf2 : ∀ c, rb fr c = true → rb lv c = false) (hv : Nat → Int32) :
    (if nI (zsn (zQF G C R pa lm go ndc ct lv fr w) d vn).2.2.2.2 = zns ((2 <<< (nI R &&& 31)) - 2) ndc (R + 1) then Int64.toInt32 (zsn (zQF G C R pa lm go ndc ct lv fr w) d vn).2.2.2.1 else -1) =
      (yfm G C pa lm tk go cn nd gv lv fr (yno 62 nd gv 6) hv 4096).1 := by
  have hC := Q.hC
  have hR := Q.hR
  obtain ⟨h1, h2⟩ := rf_layF (G := G) pa lm go ndc ct lv fr w hC hR
  obtain ⟨as, hO⟩ := rf_solve (need := rN nd) h1 (fun F => by rw [h2 F]; exact mf_bs_need (fun r hr => by unfold rN; rw [hnc r hr]) F) Q.hG hC hR Q.hgo Q.hp (fun g hg => ⟨(rL_of (Q.hlm g hg)).1, (rL_of (Q.hlm g hg)).2.1⟩) (fun r hr => Q.hnd (r + 1) (by omega) (by omega)) (fun c hc r hr => by have := mf_b_01 (rb fr c); omega) d vn
  have hm := rf_yfm Q htk hgv fr hv 4096
  have hall := rf_aszall Q hO.ok
  have hle := rf_asz_le (C := C) as
  have hsz := hO.sz
  have hnd := rf_nd0_b Q (rT 62)
  have hm1 : (-1 : Int32).toInt = -1 := by decide
  have hcond : nI (zsn (zQF G C R pa lm go ndc ct lv fr w) d vn).2.2.2.2 = zns ((2 <<< (nI R &&& 31)) - 2) ndc (R + 1) ↔ mf_asz C as = mf_nd0 R (rN nd) (rT 62) := by
    rw [rf_need_all Q hnc hgv]
    have e := rf_nd_ref Q htk hgv 62
    constructor
    · intro h
      have := congrArg Int32.toInt h
      rw [rf_nI (by omega), e] at this; omega
    · intro h; apply rf_ext; rw [rf_nI (by omega), e]; omega
  have hval : ∀ j, j < 4096 → rval G C R pa lm go ct nd lv fr j → mf_asz C as = mf_nd0 R (rN nd) (rT 62) ∧ mf_act C (fun c _ => mf_b (rb fr c)) as ≤ (ybt (nI j) 12).toInt := fun j hj hv => by
    obtain ⟨hs, b, hb1, hb2⟩ := hv
    have hs' := rf_sub_bits.1 hs
    have hb : mf_aok G R C (rp pa) (rp go) (rb (lv ||| fr)) (rc ct) (rL lm) (rN nd) b := rf_aok_X hb1 (fun c hc _ hx => by
      rw [rb_or, Bool.or_eq_true] at hx ⊢
      rcases hx with hx | hx
      · exact Or.inl hx
      · exact Or.inr (hs' c hx))
    have h3 := hO.mx b hb
    have h4 : mf_asz C as = mf_nd0 R (rN nd) (rT 62) := by omega
    refine ⟨h4, Int.le_trans (hO.mn b hb (by omega)) ?_⟩
    rw [rf_ybt _ 12 (by omega)]
    have h5 : mf_act C (fun c _ => mf_b (rb fr c)) b ≤ mf_sm C (fun c => mf_b (rb (nI j) c)) := mf_sm_le (fun c hc => by
      by_cases e : b c = 0
      · rw [if_neg (fun z => z e)]; exact (mf_b_01 _).1
      · rw [if_pos e]
        show mf_b (rb fr c) ≤ mf_b (rb (nI j) c)
        by_cases ef : rb fr c = true
        · have hx := (hb1.1 c hc e).2.1
          rw [rb_or, hf2 c ef, Bool.false_or] at hx
          rw [hx, ef]; exact Int.le_refl _
        · rw [Bool.eq_false_iff.2 ef]; exact (mf_b_01 _).1)
    refine Int.le_trans h5 ?_
    obtain ⟨m, hm⟩ : ∃ m, 12 = C + m := ⟨12 - C, by omega⟩
    rw [hm, mf_sm_split]
    have := (rf_sm_b (n := m) (fun k => rb (nI j) (C + k))).1
    omega
  by_cases hfull : mf_asz C as = mf_nd0 R (rN nd) (rT 62)
  · rw [if_pos (hcond.2 hfull)]
    -- the set of the further courses that are used
    obtain ⟨j, hj⟩ : ∃ j, j = rset (fun c => decide (c < C) && (decide (as c ≠ 0) && rb fr c)) 12 := ⟨_, rfl⟩
    have hjl : j < 4096 := by rw [hj]; exact rset_lt _ 12
    have hjb : ∀ c, rb (nI j) c = (decide (c < C) && (decide (as c ≠ 0) && rb fr c)) := fun c => by
      by_cases hc : c < 32
      · rw [rb_nI (by omega) hc, hj, rset_bit]
        by_cases e : c < 12
        · rw [decide_eq_true e, Bool.true_and]
        · rw [decide_eq_false e, decide_eq_false (by omega : ¬ c < C)]; rfl
      · rw [rb_out (by omega), decide_eq_false (by omega : ¬ c < C)]; rfl
    have hv1 : rval G C R pa lm go ct nd lv fr j := by
      refine ⟨rf_sub_bits.2 (fun c hc => ?_), as, rf_aok_X hO.ok (fun c hc ha hx => ?_), hfull⟩
      · rw [hjb, Bool.and_eq_true, Bool.and_eq_true] at hc; exact hc.2.2
      · rw [rb_or, Bool.or_eq_true] at hx ⊢
        rcases hx with hx | hx
        · exact Or.inl hx
        · refine Or.inr ?_
          rw [hjb, hx, decide_eq_true hc, decide_eq_true ha]; rfl
    have hpc : (ybt (nI j) 12).toInt = mf_act C (fun c _ => mf_b (rb fr c)) as := by
      rw [rf_ybt _ 12 (by omega), mf_sm_ext hC (fun c h1 h2 => by rw [hjb, decide_eq_false (by omega : ¬ c < C)]; rfl)]
      refine mf_sm_congr (fun c hc => ?_)
      rw [hjb, decide_eq_true hc, Bool.true_and]
      by_cases e : as c = 0
      · rw [if_neg (fun z => z e), decide_eq_false (fun z => z e)]; rfl
      · rw [if_pos e, decide_eq_true e, Bool.true_and]
    have hb := rf_ybt_nn j
    apply rf_ext
    rw [hO.pd, Int64.toInt32_ofInt, rf_toInt_ofInt (by omega) (by omega)]
    rcases hm with ⟨m1, m2⟩ | ⟨m1, ⟨j0, m2, m3, m4⟩, m5⟩
    · exact absurd hv1 (m2 j hjl)
    · have k1 := m5 j hjl hv1
      have k2 := (hval j0 m2 m3).2
      omega
  · rw [if_neg (fun z => hfull (hcond.1 z))]
    apply rf_ext
    rw [hm1]
    rcases hm with ⟨m1, m2⟩ | ⟨m1, ⟨j0, m2, m3, m4⟩, m5⟩
    · exact m1.symm
    · exact absurd (hval j0 m2 m3).1 hfull
end
