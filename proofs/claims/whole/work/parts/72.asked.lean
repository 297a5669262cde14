/-! what is asked: live courses, needs, which course counts for what; and what is used -/
def rps (x : Int32) : Prop := -1 ≤ x.toInt ∧ x.toInt ≤ 99
theorem rf_toInt64 (x : Int32) : (Int32.toInt64 x).toInt = x.toInt := Int32.toInt_toInt64 x
theorem rf_sub64 {a b : Int64} (h1 : -9223372036854775808 ≤ a.toInt - b.toInt) (h2 : a.toInt - b.toInt < 9223372036854775808) : (a - b).toInt = a.toInt - b.toInt := by
  rw [← Int64.ofInt_toInt a, ← Int64.ofInt_toInt b, ← Int64.ofInt_sub, Int64.ofInt_toInt, Int64.ofInt_toInt]; exact Int64.toInt_ofInt_of_le (by omega) (by omega)
theorem rf_cmpp (x y : Int64) : (¬ 0 < lg_cmp x y) ↔ x.toInt ≤ y.toInt := by
  unfold lg_cmp
  by_cases h1 : x > y
  · rw [if_pos h1]; have : y.toInt < x.toInt := Int64.lt_iff_toInt_lt.1 h1
    exact ⟨fun h => absurd (by decide) h, fun h => by omega⟩
  · have h1' : ¬ y.toInt < x.toInt := fun z => h1 (Int64.lt_iff_toInt_lt.2 z)
    rw [if_neg h1]
    by_cases h2 : x = y
    · rw [if_pos h2, h2]; exact ⟨fun _ => Int.le_refl _, fun _ => by decide⟩
    · rw [if_neg h2]; exact ⟨fun _ => by omega, fun _ => by decide⟩
theorem rf_zlv {t life d : Int32} (h1 : -1 ≤ t.toInt ∧ t.toInt ≤ 99) (h2 : -1 ≤ life.toInt ∧ life.toInt ≤ 40) (h3 : 0 ≤ d.toInt ∧ d.toInt ≤ 99) : zlv t life d = yli t life d := by
  unfold zlv yli
  have hm : (-1 : Int32).toInt = -1 := by decide
  have z : ∀ x : Int32, x = -1 ↔ x.toInt = -1 := fun x => ⟨fun h => by rw [h]; exact hm, fun h => rf_ext (by rw [h]; exact hm.symm)⟩
  rw [Bool.eq_iff_iff, decide_eq_true_eq, decide_eq_true_eq, z, z, rf_lt, rf_lt, rf_lt, rf_lt, rf_cmpp, rf_sub64 (by rw [rf_toInt64, rf_toInt64]; omega) (by rw [rf_toInt64, rf_toInt64]; omega), rf_toInt64, rf_toInt64, rf_toInt64, rf_sub (by omega) (by omega), rf_i0]
  omega
theorem rf_live {ps lf ps' : Nat → Int32} {s0 : Nat} {d : Int32} (hd : 0 ≤ d.toInt ∧ d.toInt ≤ 99) (he : ∀ c, c < 12 → ps c = ps' (12 * s0 + c)) (h1 : ∀ c, c < 12 → -1 ≤ (ps c).toInt ∧ (ps c).toInt ≤ 99) (h2 : ∀ c, c < 12 → -1 ≤ (lf c).toInt ∧ (lf c).toInt ≤ 40) : ∀ n, n ≤ 12 → zlc ps lf d n = yl1 ps' lf s0 d n
  | 0, _ => rfl
  | n + 1, h => by
    have ih := rf_live hd he h1 h2 n (by omega)
    have e1 : zlc ps lf d (n + 1) = if zlv (ps n) (lf n) d = true then zw (zlc ps lf d n) n else zlc ps lf d n := rfl
    have e2 : yl1 ps' lf s0 d (n + 1) = if yli (ps' (12 * s0 + n)) (lf n) d = true then zw (yl1 ps' lf s0 d n) n else yl1 ps' lf s0 d n := rfl
    rw [e1, e2, ih, rf_zlv (h1 n (by omega)) (h2 n (by omega)) hd, he n (by omega)]
theorem rf_live_out {ps lf : Nat → Int32} {d : Int32} : ∀ n, n ≤ 12 → ∀ c, n ≤ c → rb (zlc ps lf d n) c = false
  | 0, _, c, _ => rb_0 c
  | n + 1, h, c, hc => by
    have ih := rf_live_out (ps := ps) (lf := lf) (d := d) n (by omega) c (by omega)
    have e1 : zlc ps lf d (n + 1) = if zlv (ps n) (lf n) d = true then zw (zlc ps lf d n) n else zlc ps lf d n := rfl
    rw [e1]; split
    · rw [rb_zw (by omega), ih, decide_eq_false (by omega)]; rfl
    · exact ih
theorem rf_zmax (a : Int32) : zmax 0 a = yne a := by
  unfold zmax yne
  have : (0 : Int32) < a ↔ (0 ≤ a ∧ ¬ a = 0) := by
    rw [rf_lt, rf_le]
    have z : a = 0 ↔ a.toInt = 0 := ⟨fun h => by rw [h]; exact rf_i0, fun h => rf_ext (by rw [h]; exact rf_i0.symm)⟩
    rw [z, rf_i0]; omega
  by_cases h : 0 ≤ a
  · rw [if_pos h]
    by_cases h0 : a = 0
    · rw [h0]; decide
    · rw [if_pos (this.2 ⟨h, h0⟩)]
  · rw [if_neg h, if_neg (fun z => h (this.1 z).1)]
theorem rf_znr (nd dm ex : Nat → Int32) : ∀ n j, 0 < j → j < n → znr nd dm ex n j = zmax 0 (dm j - ex j)
  | 0, j, _, h => absurd h (Nat.not_lt_zero j)
  | 1, j, h0, h => by omega
  | n + 2, j, h0, h => by
    show upd (znr nd dm ex (n + 1)) (n + 1) (zmax 0 (dm (n + 1) - ex (n + 1))) j = _
    by_cases e : j = n + 1
    · subst e; rw [rf_upd_s]
    · rw [rf_upd_n _ _ e]; exact rf_znr nd dm ex (n + 1) j h0 (by omega)
theorem rf_ypn (dm ex : Nat → Int32) (p0 s0 m : Nat) (nd : Nat → Int32) : ∀ n j, j < n → ypn dm ex p0 s0 m nd n j = ynv dm ex p0 s0 m j
  | 0, j, h => absurd h (Nat.not_lt_zero j)
  | n + 1, j, h => by
    show upd (ypn dm ex p0 s0 m nd n) n (ynv dm ex p0 s0 m n) j = _
    by_cases e : j = n
    · subst e; rw [rf_upd_s]
    · rw [rf_upd_n _ _ e]; exact rf_ypn dm ex p0 s0 m nd n j (by omega)
theorem rf_zcr (ct al sf : Nat → Int32) : ∀ n j, 0 < j → j < n → zcr ct al sf n j = zcf (al j) sf 12
  | 0, j, _, h => absurd h (Nat.not_lt_zero j)
  | 1, j, h0, h => by omega
  | n + 2, j, h0, h => by
    show upd (zcr ct al sf (n + 1)) (n + 1) (zcf (al (n + 1)) sf 12) j = _
    by_cases e : j = n + 1
    · subst e; rw [rf_upd_s]
    · rw [rf_upd_n _ _ e]; exact rf_zcr ct al sf (n + 1) j h0 (by omega)
theorem rf_zcf (a : Int32) (sf : Nat → Int32) : ∀ n, n ≤ 12 → ∀ c, rb (zcf a sf n) c = (rb a c || (decide (c < n) && decide (¬ sf c &&& a = 0)))
  | 0, _, c => by show rb a c = _; simp
  | n + 1, h, c => by
    have ih := rf_zcf a sf n (by omega) c
    have e0 : zcf a sf (n + 1) = if sf n &&& a = 0 then zcf a sf n else zw (zcf a sf n) n := rfl
    rw [e0]
    by_cases e : sf n &&& a = 0
    · rw [if_pos e, ih]
      by_cases ec : c = n
      · subst ec; simp [e]
      · by_cases el : c < n
        · rw [decide_eq_true el, decide_eq_true (by omega : c < n + 1)]
        · rw [decide_eq_false el, decide_eq_false (by omega : ¬ c < n + 1)]
    · rw [if_neg e, rb_zw (by omega), ih]
      by_cases ec : c = n
      · subst ec; simp [e]
      · rw [decide_eq_false (p := n = c) (fun z => ec z.symm), Bool.or_false]
        by_cases el : c < n
        · rw [decide_eq_true el, decide_eq_true (by omega : c < n + 1)]
        · rw [decide_eq_false el, decide_eq_false (by omega : ¬ c < n + 1)]
/-- petitions: the class keeps sets, the reference a list -/
def rpt (sf pf pt : Nat → Int32) (s0 k : Nat) : Prop := ∀ c, c < 12 → ∀ i, i < 32 → rb (sf c) i = (List.range k).any (fun j => decide (pf (8 * s0 + j) = nI c) && decide (pt (8 * s0 + j) = nI i))
theorem rf_yas {pf pt : Nat → Int32} {s0 c : Nat} (hc : c < 32) : ∀ k, (∀ j, j < k → ∃ i, i < 12 ∧ pt (8 * s0 + j) = nI i) → ∀ i, i < 32 → rb (yas pf pt s0 c k) i = (decide (c = i) || (List.range k).any (fun j => decide (pf (8 * s0 + j) = nI c) && decide (pt (8 * s0 + j) = nI i)))
  | 0, _, i, _ => by show rb (1 <<< (nI c &&& 31)) i = _; rw [rb_1 hc]; simp
  | k + 1, hk, i, hi => by
    have ih := rf_yas (pf := pf) hc k (fun j hj => hk j (by omega)) i hi
    obtain ⟨m, hm, em⟩ := hk k (by omega)
    have e0 : yas pf pt s0 c (k + 1) = if pf (8 * s0 + k) = nI c then yas pf pt s0 c k ||| (1 <<< (pt (8 * s0 + k) &&& 31)) else yas pf pt s0 c k := rfl
    rw [e0, List.range_succ, List.any_append]
    by_cases e : pf (8 * s0 + k) = nI c
    · rw [if_pos e, rb_or, ih, em, rb_1 (by omega)]
      have h : decide (nI m = nI i) = decide (m = i) := by
        by_cases z : m = i
        · rw [z]; simp
        · rw [decide_eq_false z, decide_eq_false (fun y => z (rf_nI_inj (by omega) (by omega) y))]
      simp [e, em, h, Bool.or_assoc]
    · rw [if_neg e, ih]; simp [e]
theorem rf_ycb (al : Nat → Int32) (p0 : Nat) (as : Int32) : ∀ n, n ≤ 31 → ∀ i, rb (ycb al p0 as (n + 1)) i = (decide (1 ≤ i ∧ i ≤ n) && decide (¬ al (6 * p0 + i) &&& as = 0))
  | 0, _, i => by show rb 0 i = _; rw [rb_0, decide_eq_false (by omega : ¬ (1 ≤ i ∧ i ≤ 0))]; rfl
  | n + 1, h, i => by
    have ih := rf_ycb al p0 as n (by omega) i
    have e0 : ycb al p0 as (n + 1 + 1) = if al (6 * p0 + (n + 1)) &&& as = 0 then ycb al p0 as (n + 1) else ycb al p0 as (n + 1) ||| (1 <<< (nI (n + 1) &&& 31)) := rfl
    rw [e0]
    by_cases e : al (6 * p0 + (n + 1)) &&& as = 0
    · rw [if_pos e, ih]
      by_cases ei : i = n + 1
      · subst ei; simp [e]
      · by_cases el : 1 ≤ i ∧ i ≤ n
        · rw [decide_eq_true el, decide_eq_true (by omega : 1 ≤ i ∧ i ≤ n + 1)]
        · rw [decide_eq_false el, decide_eq_false (by omega : ¬ (1 ≤ i ∧ i ≤ n + 1))]
    · rw [if_neg e, rb_or, ih, rb_1 (by omega)]
      by_cases ei : i = n + 1
      · subst ei; simp [e]
      · rw [decide_eq_false (p := n + 1 = i) (fun z => ei z.symm), Bool.or_false]
        by_cases el : 1 ≤ i ∧ i ≤ n
        · rw [decide_eq_true el, decide_eq_true (by omega : 1 ≤ i ∧ i ≤ n + 1)]
        · rw [decide_eq_false el, decide_eq_false (by omega : ¬ (1 ≤ i ∧ i ≤ n + 1))]
theorem rf_ycn (al pf pt : Nat → Int32) (p0 s0 n k : Nat) (cn : Nat → Int32) : ∀ m c, c < m → ycn al pf pt p0 s0 n k cn m c = ycb al p0 (yas pf pt s0 c k) (n + 1)
  | 0, c, h => absurd h (Nat.not_lt_zero c)
  | m + 1, c, h => by
    show upd (ycn al pf pt p0 s0 n k cn m) m (ycb al p0 (yas pf pt s0 m k) (n + 1)) c = _
    by_cases e : c = m
    · subst e; rw [rf_upd_s]
    · rw [rf_upd_n _ _ e]; exact rf_ycn al pf pt p0 s0 n k cn m c (by omega)
/-- both sides count the same courses for the same requirements -/
theorem rf_counts {C R p0 s0 k : Nat} {ct alc sf al pf pt cn : Nat → Int32} (hC : C ≤ 12) (hR : R ≤ 5) (hal : ∀ r, 0 < r → r ≤ R → alc r = al (6 * p0 + r)) (hsf : rpt sf pf pt s0 k) (hpt : ∀ j, j < k → ∃ i, i < 12 ∧ pt (8 * s0 + j) = nI i) :
    rf_cn C R (zcr ct alc sf (R + 1)) (ycn al pf pt p0 s0 R k cn C) := fun c hc i => by
  rw [rf_ycn al pf pt p0 s0 R k cn C c hc, rf_ycb al p0 _ R (by omega) i]
  by_cases h : 1 ≤ i ∧ i ≤ R
  · rw [decide_eq_true h, Bool.true_and, Bool.true_and]
    unfold rc
    rw [rf_zcr ct alc sf (R + 1) i (by omega) (by omega), rf_zcf _ _ 12 (Nat.le_refl _), hal i (by omega) (by omega), decide_eq_true (by omega : c < 12), Bool.true_and]
    rw [Bool.eq_iff_iff, decide_eq_true_eq, Bool.or_eq_true, decide_eq_true_eq, rb_and0, rb_and0]
    constructor
    · intro hx
      apply Classical.byContradiction; intro hn
      apply hx; intro j hj hb
      rw [rf_yas (by omega) k hpt j hj, ← hsf c (by omega) j hj, Bool.or_eq_true, decide_eq_true_eq] at hb
      rcases hb.2 with hb2 | hb2
      · subst hb2; exact hn (Or.inl hb.1)
      · exact hn (Or.inr (fun z => z j hj ⟨hb2, hb.1⟩))
    · rintro (hx | hx) hz
      · refine hz c (by omega) ⟨hx, ?_⟩
        rw [rf_yas (by omega) k hpt c (by omega)]; simp
      · apply hx; intro j hj hb
        refine hz j hj ⟨hb.2, ?_⟩
        rw [rf_yas (by omega) k hpt j hj, ← hsf c (by omega) j hj, hb.1, Bool.or_true]
  · rw [decide_eq_false h]; rfl
/-! what is used within a group -/
theorem rf_zgc (ro : Nat → Int32) : ∀ n, n ≤ 12 → ∀ c, rb (zgc ro n) c = (decide (c < n) && decide (¬ ro c = 0))
  | 0, _, c => by show rb 0 c = _; rw [rb_0]; simp
  | n + 1, h, c => by
    have ih := rf_zgc ro n (by omega) c
    have e0 : zgc ro (n + 1) = if ro n = 0 then zgc ro n else zw (zgc ro n) n := rfl
    rw [e0]
    by_cases e : ro n = 0
    · rw [if_pos e, ih]
      by_cases ec : c = n
      · subst ec; simp [e]
      · by_cases el : c < n
        · rw [decide_eq_true el, decide_eq_true (by omega : c < n + 1)]
        · rw [decide_eq_false el, decide_eq_false (by omega : ¬ c < n + 1)]
    · rw [if_neg e, rb_zw (by omega), ih]
      by_cases ec : c = n
      · subst ec; simp [e]
      · rw [decide_eq_false (p := n = c) (fun z => ec z.symm), Bool.or_false]
        by_cases el : c < n
        · rw [decide_eq_true el, decide_eq_true (by omega : c < n + 1)]
        · rw [decide_eq_false el, decide_eq_false (by omega : ¬ c < n + 1)]
theorem rf_zcw {G C : Nat} {pa go ci : Nat → Int32} {t : Nat} (hG : G ≤ 6) (hp : mf_tr G (rp pa)) (hpa : ∀ g, 0 < g → g < G → pa g = nI (rp pa g)) (hci : rf_ci G C go ci) (ht : t < G) : ∀ j, t + 1 + j ≤ G →
    (∀ h, h < 32 → rb (zcw pa ci t j).1 h = (decide (t ≤ h ∧ h < t + 1 + j) && mf_an (rp pa) h t)) ∧ (∀ c, rb (zcw pa ci t j).2 c = (decide (c < C) && (decide (rp go c < t + 1 + j) && (decide (t ≤ rp go c) && mf_an (rp pa) (rp go c) t))))
  | 0, _ => by
    refine ⟨fun h hh => ?_, fun c => ?_⟩
    · show rb (zw 0 t) h = _
      rw [rb_zw (by omega), rb_0, Bool.false_or]
      by_cases e : t = h
      · subst e; rw [mf_an_self, decide_eq_true rfl, decide_eq_true (by omega : t ≤ t ∧ t < t + 1 + 0)]; rfl
      · rw [decide_eq_false e, decide_eq_false (by omega : ¬ (t ≤ h ∧ h < t + 1 + 0))]; rfl
    · show rb (ci t) c = _
      rw [hci t ht]
      by_cases e : rp go c = t
      · rw [e, mf_an_self, decide_eq_true rfl, decide_eq_true (by omega : t < t + 1 + 0), decide_eq_true (Nat.le_refl t)]; rfl
      · rw [decide_eq_false e]
        by_cases e2 : rp go c < t + 1 + 0
        · rw [decide_eq_false (by omega : ¬ t ≤ rp go c)]; simp
        · rw [decide_eq_false e2]; simp
  | j + 1, hj => by
    obtain ⟨i1, i2⟩ := rf_zcw hG hp hpa hci ht j (by omega)
    have hgl : t + 1 + j < G := by omega
    have hpg := hp (t + 1 + j) (by omega) hgl
    have e0 : zcw pa ci t (j + 1) = if zh (zcw pa ci t j).1 (pa (t + 1 + j)) = true then (zw (zcw pa ci t j).1 (t + 1 + j), (zcw pa ci t j).2 ||| ci (t + 1 + j)) else zcw pa ci t j := rfl
    have hin : zh (zcw pa ci t j).1 (pa (t + 1 + j)) = mf_an (rp pa) (t + 1 + j) t := by
      rw [hpa (t + 1 + j) (by omega) hgl, rb_zh (by omega), i1 _ (by omega), mf_an_s hp (by omega) hgl, decide_eq_false (by omega : ¬ t + 1 + j = t), Bool.false_or]
      by_cases e : t ≤ rp pa (t + 1 + j)
      · rw [decide_eq_true (by omega : t ≤ rp pa (t + 1 + j) ∧ rp pa (t + 1 + j) < t + 1 + j)]; rfl
      · have : mf_an (rp pa) (rp pa (t + 1 + j)) t = false := Bool.eq_false_iff.2 (fun z => by have := mf_an_le hp _ _ (Nat.le_refl _) (by omega) z; omega)
        rw [this, Bool.and_false]
    rw [e0, hin]
    by_cases e : mf_an (rp pa) (t + 1 + j) t = true
    · rw [if_pos e]
      refine ⟨fun h hh => ?_, fun c => ?_⟩
      · rw [rb_zw (by omega), i1 h hh]
        by_cases eh : t + 1 + j = h
        · subst eh; rw [e, decide_eq_true rfl, decide_eq_true (by omega : t ≤ t + 1 + j ∧ t + 1 + j < t + 1 + (j + 1))]; simp
        · rw [decide_eq_false eh, Bool.or_false]
          by_cases eh2 : t ≤ h ∧ h < t + 1 + j
          · rw [decide_eq_true eh2, decide_eq_true (by omega : t ≤ h ∧ h < t + 1 + (j + 1))]
          · rw [decide_eq_false eh2, decide_eq_false (by omega : ¬ (t ≤ h ∧ h < t + 1 + (j + 1)))]
      · rw [rb_or, i2 c, hci _ hgl]
        by_cases ec : rp go c = t + 1 + j
        · rw [ec, e, decide_eq_true rfl, decide_eq_true (by omega : t + 1 + j < t + 1 + (j + 1)), decide_eq_true (by omega : t ≤ t + 1 + j)]; simp
        · rw [decide_eq_false ec]
          by_cases e2 : rp go c < t + 1 + j
          · rw [decide_eq_true e2, decide_eq_true (by omega : rp go c < t + 1 + (j + 1))]; simp
          · rw [decide_eq_false e2, decide_eq_false (by omega : ¬ rp go c < t + 1 + (j + 1))]; simp
    · rw [if_neg e]
      refine ⟨fun h hh => ?_, fun c => ?_⟩
      · rw [i1 h hh]
        by_cases eh : h = t + 1 + j
        · subst eh; rw [Bool.eq_false_iff.2 e]; simp
        · by_cases eh2 : t ≤ h ∧ h < t + 1 + j
          · rw [decide_eq_true eh2, decide_eq_true (by omega : t ≤ h ∧ h < t + 1 + (j + 1))]
          · rw [decide_eq_false eh2, decide_eq_false (by omega : ¬ (t ≤ h ∧ h < t + 1 + (j + 1)))]
      · rw [i2 c]
        by_cases ec : rp go c = t + 1 + j
        · rw [ec, Bool.eq_false_iff.2 e]; simp
        · by_cases e2 : rp go c < t + 1 + j
          · rw [decide_eq_true e2, decide_eq_true (by omega : rp go c < t + 1 + (j + 1))]
          · rw [decide_eq_false e2, decide_eq_false (by omega : ¬ rp go c < t + 1 + (j + 1))]
theorem rf_yus {G : Nat} {pa : Nat → Int32} {t : Nat} (hp : mf_tr G (rp pa)) : ∀ (n g : Nat) (w : Bool), g < n → g < G → yus pa t n g w = (w || mf_an (rp pa) g t)
  | 0, g, w, h, _ => absurd h (Nat.not_lt_zero g)
  | n + 1, g, w, h1, h2 => by
    have e0 : yus pa t (n + 1) g w = if g = 0 then (w || decide (g = t)) else yus pa t n (rp pa g) (w || decide (g = t)) := rfl
    rw [e0]
    by_cases e : g = 0
    · subst e; rw [if_pos rfl, mf_an_0]
    · have hpg := hp g (by omega) h2
      rw [if_neg e, rf_yus hp n (rp pa g) _ (by omega) (by omega), mf_an_s hp (by omega) h2, Bool.or_assoc]
theorem rf_yuc {G : Nat} {pa go gs : Nat → Int32} {t : Nat} (hG : G ≤ 6) (hp : mf_tr G (rp pa)) : ∀ n, n ≤ 12 → (∀ c, c < n → rp go c < G) → (yuc pa go gs t n).toInt = mf_sm n (fun c => mf_b (mf_an (rp pa) (rp go c) t && decide (¬ gs c ≤ 0)))
  | 0, _, _ => rf_i0
  | n + 1, h, hgo => by
    have ih := rf_yuc (gs := gs) (t := t) hG hp n (by omega) (fun c hc => hgo c (by omega))
    have hb := rf_sm_b (n := n) (fun c => mf_an (rp pa) (rp go c) t && decide (¬ gs c ≤ 0))
    have e0 : yuc pa go gs t (n + 1) = if yus pa t 7 (rp go n) false = true ∧ ¬ gs n ≤ 0 then yuc pa go gs t n + 1 else yuc pa go gs t n := rfl
    rw [e0, mf_sm_s, rf_yus hp 7 (rp go n) false (by have := hgo n (by omega); omega) (hgo n (by omega)), Bool.false_or]
    by_cases e : mf_an (rp pa) (rp go n) t = true ∧ ¬ gs n ≤ 0
    · rw [if_pos e, rf_add (by rw [rf_i1]; omega) (by rw [rf_i1]; omega), rf_i1, ih, e.1, decide_eq_true e.2]; rfl
    · rw [if_neg e, ih]
      have : (mf_an (rp pa) (rp go n) t && decide (¬ gs n ≤ 0)) = false := Bool.eq_false_iff.2 (fun z => by rw [Bool.and_eq_true, decide_eq_true_eq] at z; exact e z)
      rw [this]; show _ = _ + (0 : Int); omega
theorem rf_used {G C : Nat} {pa go ci ro gs : Nat → Int32} {t : Nat} (hG : G ≤ 6) (hC : C ≤ 12) (hp : mf_tr G (rp pa)) (hpa : ∀ g, 0 < g → g < G → pa g = nI (rp pa g)) (hci : rf_ci G C go ci) (hgo : ∀ c, c < C → rp go c < G) (ht : t < G)
    (hro : ∀ c, c < C → ro c = gs c ∧ 0 ≤ (gs c).toInt) : zbc (zgc ro 12 &&& (zcw pa ci t (G - (t + 1))).2) = yuc pa go gs t C := by
  apply rf_ext
  obtain ⟨_, h2⟩ := rf_zcw hG hp hpa hci ht (G - (t + 1)) (by omega)
  have hb : ∀ c, rb (zgc ro 12 &&& (zcw pa ci t (G - (t + 1))).2) c = (decide (c < C) && (mf_an (rp pa) (rp go c) t && decide (¬ gs c ≤ 0))) := fun c => by
    rw [rb_and, rf_zgc ro 12 (Nat.le_refl _), h2 c]
    by_cases e : c < C
    · have hg := hgo c e
      have h3 : (decide (t ≤ rp go c) && mf_an (rp pa) (rp go c) t) = mf_an (rp pa) (rp go c) t := by
        by_cases el : t ≤ rp go c
        · rw [decide_eq_true el, Bool.true_and]
        · have : mf_an (rp pa) (rp go c) t = false := Bool.eq_false_iff.2 (fun z => by have := mf_an_le hp _ _ (Nat.le_refl _) hg z; omega)
          rw [this, Bool.and_false]
      have h4 : decide (¬ ro c = 0) = decide (¬ gs c ≤ 0) := by
        rw [(hro c e).1]
        have z : gs c = 0 ↔ gs c ≤ 0 := by
          rw [rf_le, rf_i0]
          have := (hro c e).2
          exact ⟨fun h => by rw [h, rf_i0]; omega, fun h => rf_ext (by rw [rf_i0]; omega)⟩
        simp only [z]
      rw [decide_eq_true e, decide_eq_true (by omega : c < 12), decide_eq_true (by omega : rp go c < t + 1 + (G - (t + 1))), h3, h4]
      simp [Bool.and_comm]
    · rw [decide_eq_false e]; simp
  rw [rf_zbc (fun c hc => by rw [hb, decide_eq_false (by omega : ¬ c < C)]; rfl), rf_yuc hG hp C hC hgo]
  rw [mf_sm_ext hC (fun c h1 h2 => by rw [hb, decide_eq_false (by omega : ¬ c < C)]; rfl)]
  exact mf_sm_congr (fun c hc => by rw [hb, decide_eq_true hc, Bool.true_and])
/-- the needs -/
theorem rf_needs {R p0 s0 : Nat} {ndc ndr dmc exc dm ex : Nat → Int32} (hR : R ≤ 5) (hdm : ∀ r, 0 < r → r ≤ R → dmc r = dm (6 * p0 + r) ∧ 1 ≤ (dm (6 * p0 + r)).toInt ∧ (dm (6 * p0 + r)).toInt ≤ 6)
    (hex : ∀ r, 0 < r → r < 6 → 0 ≤ (ex (6 * s0 + r)).toInt ∧ (ex (6 * s0 + r)).toInt ≤ 9 ∧ ((exc r).toInt = (ex (6 * s0 + r)).toInt ∨ (6 ≤ (exc r).toInt ∧ (exc r).toInt ≤ 9 ∧ 6 ≤ (ex (6 * s0 + r)).toInt))) :
    (∀ r, r < R → znr ndc dmc exc (R + 1) (r + 1) = ypn dm ex p0 s0 R ndr 6 (r + 1)) ∧ (∀ r, 0 < r → r < 6 → 0 ≤ (ypn dm ex p0 s0 R ndr 6 r).toInt ∧ (ypn dm ex p0 s0 R ndr 6 r).toInt ≤ 12) ∧ (∀ r, R ≤ r → r < 5 → ypn dm ex p0 s0 R ndr 6 (r + 1) = 0) := by
  have hyne : ∀ x : Int32, (yne x).toInt = if 0 ≤ x.toInt then x.toInt else 0 := fun x => by
    unfold yne
    by_cases h : 0 ≤ x
    · have := rf_le.1 h; rw [rf_i0] at this
      rw [if_pos h, if_pos this]
    · have : ¬ 0 ≤ x.toInt := fun z => h (rf_le.2 (by rw [rf_i0]; exact z))
      rw [if_neg h, if_neg this]; exact rf_i0
  refine ⟨fun r hr => ?_, fun r h1 h2 => ?_, fun r h1 h2 => ?_⟩
  · rw [rf_znr ndc dmc exc (R + 1) (r + 1) (by omega) (by omega), rf_ypn dm ex p0 s0 R ndr 6 (r + 1) (by omega), rf_zmax]
    unfold ynv; rw [if_pos (by omega)]
    have d1 := hdm (r + 1) (by omega) (by omega)
    have d2 := hex (r + 1) (by omega) (by omega)
    apply rf_ext
    rw [hyne, hyne, d1.1, rf_sub (by omega) (by omega), rf_sub (by omega) (by omega)]
    split <;> split <;> omega
  · rw [rf_ypn dm ex p0 s0 R ndr 6 r (by omega)]
    unfold ynv
    by_cases e : 0 < r ∧ r ≤ R
    · have d1 := hdm r (by omega) (by omega)
      have d2 := hex r (by omega) (by omega)
      rw [if_pos e, hyne, rf_sub (by omega) (by omega)]
      split <;> omega
    · rw [if_neg e, rf_i0]; omega
  · rw [rf_ypn dm ex p0 s0 R ndr 6 (r + 1) (by omega)]
    unfold ynv; rw [if_neg (by omega)]
