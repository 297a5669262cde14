/-! sets of requirements -/
def rT (set : Int32) (r : Nat) : Bool := rb set (r + 1)
def rc (ct : Nat → Int32) (c r : Nat) : Bool := rb (ct r) c
theorem rf_zcs (set : Int32) (ct : Nat → Int32) (c : Nat) : ∀ n, n ≤ 31 → rb (zcs set ct (n + 1)) c = (List.range n).any (fun r => rT set r && rc ct c (r + 1))
  | 0, _ => rb_0 c
  | n + 1, h => by
    have ih := rf_zcs set ct c n (by omega)
    rw [List.range_succ, List.any_append, ← ih]
    show rb (if zh set (nI (n + 1)) = true then zcs set ct (n + 1) ||| ct (n + 1) else zcs set ct (n + 1)) c = _
    rw [rb_zh (by omega)]
    by_cases e : rb set (n + 1) = true
    · rw [if_pos e, rb_or]; simp [rT, rc, e]
    · rw [if_neg e]; simp [rT, rc, e]
theorem rf_zns {set : Int32} {nd : Nat → Int32} (hb : ∀ r, 0 < r → 0 ≤ (nd r).toInt ∧ (nd r).toInt ≤ 12) : ∀ n, n ≤ 31 → (zns set nd (n + 1)).toInt = mf_sm n (fun r => if rT set r = true then (nd (r + 1)).toInt else 0) ∧ 0 ≤ (zns set nd (n + 1)).toInt ∧ (zns set nd (n + 1)).toInt ≤ 12 * n
  | 0, _ => by have : zns set nd (0 + 1) = 0 := rfl
               rw [this, rf_i0]; exact ⟨rfl, Int.le_refl _, Int.le_refl _⟩
  | n + 1, h => by
    have ih := rf_zns (set := set) hb n (by omega)
    have hn := hb (n + 1) (by omega)
    rw [mf_sm_s]
    have e0 : zns set nd (n + 1 + 1) = if zh set (nI (n + 1)) = true then zns set nd (n + 1) + nd (n + 1) else zns set nd (n + 1) := rfl
    rw [e0, rb_zh (by omega)]
    by_cases e : rb set (n + 1) = true
    · have e' : rT set n = true := e
      rw [if_pos e, if_pos e', rf_add (by omega) (by omega)]; omega
    · have e' : ¬ rT set n = true := e
      rw [if_neg e, if_neg e']; omega
theorem rf_yno {set : Int32} {nd gv : Nat → Int32} (hb : ∀ r, 0 < r → r < 6 → 0 ≤ (nd r).toInt ∧ (nd r).toInt ≤ 12) (hg : ∀ r, 0 < r → r < 6 → 0 ≤ (gv r).toInt ∧ (gv r).toInt ≤ 12) : ∀ n, n ≤ 5 → (yno set nd gv (n + 1)).toInt = mf_sm n (fun r => if rT set r = true then (nd (r + 1)).toInt - (gv (r + 1)).toInt else 0) ∧ - (12 * n) ≤ (yno set nd gv (n + 1)).toInt ∧ (yno set nd gv (n + 1)).toInt ≤ 12 * n
  | 0, _ => by have : yno set nd gv (0 + 1) = 0 := rfl
               rw [this, rf_i0]; exact ⟨rfl, Int.le_refl _, Int.le_refl _⟩
  | n + 1, h => by
    have ih := rf_yno (set := set) hb hg n (by omega)
    have hn := hb (n + 1) (by omega) (by omega)
    have hn2 := hg (n + 1) (by omega) (by omega)
    rw [mf_sm_s]
    have e0 : yno set nd gv (n + 1 + 1) = if (set >>> (nI (n + 1) &&& 31)) &&& 1 = 1 then yno set nd gv (n + 1) + nd (n + 1) - gv (n + 1) else yno set nd gv (n + 1) := rfl
    rw [e0]
    by_cases e : rb set (n + 1) = true
    · have e' : rT set n = true := e
      have e1 : (yno set nd gv (n + 1) + nd (n + 1)).toInt = (yno set nd gv (n + 1)).toInt + (nd (n + 1)).toInt := rf_add (by omega) (by omega)
      rw [if_pos ((rb_ref (by omega)).2 e), if_pos e', rf_sub (by omega) (by omega), e1]; omega
    · have e' : ¬ rT set n = true := e
      rw [if_neg (fun z => e ((rb_ref (by omega)).1 z)), if_neg e']; omega
/-- both sides count the same courses for a set -/
def rf_cn (C R : Nat) (ct cn : Nat → Int32) : Prop := ∀ c, c < C → ∀ i, rb (cn c) i = (decide (1 ≤ i ∧ i ≤ R) && rc ct c i)
theorem rf_sel_ct {C R : Nat} {ct cn : Nat → Int32} (hR : R ≤ 5) (h : rf_cn C R ct cn) {set some0 : Int32} {c : Nat} (hc : c < C) : rf_sel cn set some0 c = mf_ct R (rb some0) (rc ct) (rT set) c := by
  unfold rf_sel mf_ct
  congr 1
  rw [Bool.eq_iff_iff, decide_eq_true_eq, List.any_eq_true, rb_and0]
  constructor
  · intro hx
    apply Classical.byContradiction; intro hn; apply hx; intro i hi hb
    rw [h c hc i, Bool.and_eq_true, decide_eq_true_eq] at hb
    apply hn; refine ⟨i - 1, List.mem_range.2 (by omega), ?_⟩
    have e : i - 1 + 1 = i := by omega
    rw [e, Bool.and_eq_true]; refine ⟨?_, hb.1.2⟩
    unfold rT; rw [e]; exact hb.2
  · rintro ⟨r, hr, hb⟩ hx
    have hr' := List.mem_range.1 hr
    rw [Bool.and_eq_true] at hb
    refine hx (r + 1) (by omega) ⟨?_, hb.1⟩
    rw [h c hc, hb.2, decide_eq_true (by omega)]; rfl
theorem rf_own_eq {C R : Nat} {ct cn : Nat → Int32} (hR : R ≤ 5) (h : rf_cn C R ct cn) {set some0 : Int32} {grp : Nat → Nat} : mf_own C grp (fun c => mf_b (rf_sel cn set some0 c)) = mf_so R C grp (rb some0) (rc ct) (rT set) := by
  funext g; unfold mf_so mf_own
  refine mf_sm_congr (fun c hc => ?_)
  show (if grp c = g then mf_b (rf_sel cn set some0 c) else 0) = _
  rw [rf_sel_ct hR h hc]
/-- which courses lie in a group -/
def rf_ci (G C : Nat) (go ci : Nat → Int32) : Prop := ∀ g, g < G → ∀ c, rb (ci g) c = (decide (c < C) && decide (rp go c = g))
theorem mf_sm_ext {n m : Nat} {F : Nat → Int} (h : n ≤ m) (hz : ∀ k, n ≤ k → k < m → F k = 0) : mf_sm m F = mf_sm n F := by
  obtain ⟨d, rfl⟩ : ∃ d, m = n + d := ⟨m - n, by omega⟩
  rw [mf_sm_split, mf_sm_z (n := d) (fun k hk => hz (n + k) (by omega) (by omega))]; omega
theorem rf_cls_own {G C R : Nat} {go ci ct : Nat → Int32} {set lv : Int32} (hC : C ≤ 12) (hR : R ≤ 5) (hci : rf_ci G C go ci) (hlv : ∀ c, C ≤ c → rb lv c = false) {g : Nat} (hg : g < G) :
    (zbc ((lv &&& zcs set ct (R + 1)) &&& ci g)).toInt = mf_so R C (rp go) (rb lv) (rc ct) (rT set) g := by
  have hb : ∀ c, rb ((lv &&& zcs set ct (R + 1)) &&& ci g) c = (mf_ct R (rb lv) (rc ct) (rT set) c && (decide (c < C) && decide (rp go c = g))) := fun c => by
    rw [rb_and, rb_and, rf_zcs set ct c R (by omega), hci g hg]; rfl
  rw [rf_zbc (fun c hc => by rw [rb_and, rb_and, hlv c (by omega)]; rfl)]
  rw [mf_sm_ext hC (fun c h1 h2 => by rw [hb c, decide_eq_false (by omega : ¬ c < C)]; simp [mf_b])]
  unfold mf_so mf_own
  refine mf_sm_congr (fun c hc => ?_)
  rw [hb c, decide_eq_true hc]
  by_cases e : rp go c = g
  · rw [if_pos e, decide_eq_true e]; simp
  · rw [if_neg e, decide_eq_false e]; simp [mf_b]
theorem rf_so_nn {R C : Nat} {grp : Nat → Nat} {X : Nat → Bool} {cnt : Nat → Nat → Bool} {T : Nat → Bool} (g : Nat) : 0 ≤ mf_so R C grp X cnt T g := mf_own_nn (fun c _ => (mf_b_01 _).1) g
theorem rf_so_sum {G R C : Nat} {grp : Nat → Nat} {X : Nat → Bool} {cnt : Nat → Nat → Bool} {T : Nat → Bool} (hgo : ∀ c, c < C → grp c < G) : mf_sm G (mf_so R C grp X cnt T) = mf_sm C (fun c => mf_b (mf_ct R X cnt T c)) := mf_own_sum (fun c hc _ => hgo c hc)
def rL (lm : Nat → Int32) (g : Nat) : Int := (zro (lm g)).toInt
theorem rL_of {lm : Nat → Int32} {g : Nat} (h : -1 ≤ (lm g).toInt ∧ (lm g).toInt ≤ 12) : 0 ≤ rL lm g ∧ rL lm g ≤ 12 ∧ (((lm g).toInt < 0 ∧ rL lm g = 12) ∨ (0 ≤ (lm g).toInt ∧ rL lm g = (lm g).toInt)) := by
  unfold rL zro
  have hm : (-1 : Int32).toInt = -1 := by decide
  by_cases e : lm g = -1
  · rw [if_pos e, e, hm]; exact ⟨by decide, by decide, Or.inl ⟨by decide, by decide⟩⟩
  · rw [if_neg e]
    have : (lm g).toInt ≠ -1 := fun z => e (rf_ext (by rw [z, hm]))
    exact ⟨by omega, by omega, Or.inr ⟨by omega, rfl⟩⟩
theorem rf_class_supply {G C R : Nat} {pa lm go ci ct : Nat → Int32} (tb : Nat → Int32) {set lv : Int32} (hG : G ≤ 6) (hC : C ≤ 12) (hR : R ≤ 5) (hp : mf_tr G (rp pa)) (hgo : ∀ c, c < C → rp go c < G) (hlm : ∀ g, g < G → -1 ≤ (lm g).toInt ∧ (lm g).toInt ≤ 12)
    (hci : rf_ci G C go ci) (hlv : ∀ c, C ≤ c → rb lv c = false) : (zsu G pa lm ci tb (lv &&& zcs set ct (R + 1))).toInt = mf_sup G (rp pa) (rL lm) (mf_so R C (rp go) (rb lv) (rc ct) (rT set)) := by
  refine rf_zsu tb hG hp (fun g hg => ⟨rfl, (rL_of (hlm g hg)).1⟩) (fun g hg => ⟨(rf_cls_own hC hR hci hlv hg).symm, rf_so_nn g⟩) ?_
  rw [rf_so_sum hgo]; have := rf_sm_b (n := C) (fun c => mf_ct R (rb lv) (rc ct) (rT set) c); omega
theorem rf_ref_supply {G C R : Nat} {pa lm tk go ct cn : Nat → Int32} (hv : Nat → Int32) {set some0 : Int32} {lim : Nat → Int} (hG : G ≤ 6) (hC : C ≤ 12) (hR : R ≤ 5) (hC0 : G = 0 → C = 0) (hp : mf_tr G (rp pa)) (hgo : ∀ c, c < C → rp go c < G) (hcn : rf_cn C R ct cn)
    (hl : ∀ g, g < G → rf_lm lm tk (mf_sm C (fun c => mf_b (rb some0 c))) lim g) : (yhv G C pa lm tk go cn set some0 hv 0).toInt = mf_sup G (rp pa) lim (mf_so R C (rp go) (rb some0) (rc ct) (rT set)) := by
  rw [← rf_own_eq hR hcn]
  refine rf_yhv hv hG hC hC0 hp hgo (fun g hg => ⟨(hl g hg).1, ?_⟩)
  rcases (hl g hg).2 with ⟨h1, h2⟩ | h
  · refine Or.inl ⟨h1, Int.le_trans (mf_sm_le (fun c _ => ?_)) h2⟩
    unfold rf_sel; cases rb some0 c
    · exact Int.le_refl _
    · exact (mf_b_01 _).2
  · exact Or.inr h
theorem rf_lm_0 {C : Nat} {lm tk : Nat → Int32} {some0 : Int32} (hC : C ≤ 12) {g : Nat} (htk : tk g = 0) (h : -1 ≤ (lm g).toInt ∧ (lm g).toInt ≤ 12) : rf_lm lm tk (mf_sm C (fun c => mf_b (rb some0 c))) (rL lm) g := by
  have h1 := rL_of h
  refine ⟨h1.1, ?_⟩
  rcases h1.2.2 with ⟨h2, h3⟩ | ⟨h2, h3⟩
  · refine Or.inl ⟨h2, ?_⟩
    have := rf_sm_b (n := C) (fun c => rb some0 c); omega
  · refine Or.inr ⟨h2, ?_⟩
    rw [htk, rf_sub (by rw [rf_i0]; omega) (by rw [rf_i0]; omega), rf_i0]; omega
