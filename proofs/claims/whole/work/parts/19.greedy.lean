/-! the best assignment is found course by course -/
def mf_pre (as : Nat → Nat) (n : Nat) (c : Nat) : Nat := if c < n then as c else 0
def mf_nr (C : Nat) (as : Nat → Nat) (r : Nat) : Int := mf_sm C (fun c => if as c = r then 1 else 0)
def mf_is (C : Nat) (G R : Nat) (par grp : Nat → Nat) (X : Nat → Bool) (cnt : Nat → Nat → Bool) (lim need : Nat → Int) (M : Int) : Prop :=
  (∃ T, M = mf_cv G R C par grp X cnt lim need T) ∧ ∀ T, M ≤ mf_cv G R C par grp X cnt lim need T
section Gr
variable {G R C : Nat} {par grp : Nat → Nat} {X : Nat → Bool} {cnt : Nat → Nat → Bool} {lim need : Nat → Int}
theorem mf_is_max (hG : G ≤ 6) (hC : C ≤ 12) (hR : R ≤ 5) (hg : ∀ c, c < C → grp c < G) (hp : mf_tr G par) (h1 : ∀ g, g < G → 0 ≤ lim g) (h2 : ∀ r, r < R → 0 ≤ need (r + 1)) {M : Int} (hM : mf_is C G R par grp X cnt lim need M) :
    (∃ as, mf_aok G R C par grp X cnt lim need as ∧ mf_asz C as = M) ∧ ∀ as, mf_aok G R C par grp X cnt lim need as → mf_asz C as ≤ M := by
  obtain ⟨⟨T0, hT0⟩, hle⟩ := hM
  obtain ⟨as, T, a1, a2⟩ := mf_a_minmax (X := X) (cnt := cnt) hG hC hR hg hp h1 h2
  have a3 := mf_a_le hg hp a1 T0
  have a4 := hle T
  refine ⟨⟨as, a1, by omega⟩, fun as' h => by have := mf_a_le hg hp h T0; omega⟩
theorem mf_add1 {n : Nat} {f g h : Nat → Int} (e : ∀ k, k < n → f k = g k + h k) : mf_sm n f = mf_sm n g + mf_sm n h := by
  rw [mf_sm_congr e, mf_sm_add]
/-- two halves: the courses up to c, and those behind it -/
theorem mf_halves (hg : ∀ c, c < C → grp c < G) {as suf q : Nat → Nat} {n : Nat} (hq : ∀ c, q c = if c < n then as c else suf c) (hs : ∀ c, c < n → suf c = 0) :
    (∀ r, 0 < r → mf_nr C q r = mf_nr C (mf_pre as n) r + mf_nr C suf r) ∧ (∀ h, mf_ld C par grp (mf_1 q) h = mf_ld C par grp (mf_1 (mf_pre as n)) h + mf_ld C par grp (mf_1 suf) h) ∧ mf_asz C q = mf_asz C (mf_pre as n) + mf_asz C suf := by
  have e1 : ∀ c, mf_1 q c = mf_1 (mf_pre as n) c + mf_1 suf c := by
    intro c
    unfold mf_1 mf_pre
    rw [hq c]
    by_cases e : c < n
    · simp [e, hs c e]
    · simp [e]
  refine ⟨fun r hr => mf_add1 (fun c _ => ?_), fun h => mf_add1 (fun c _ => ?_), mf_add1 (fun c _ => e1 c)⟩
  · unfold mf_pre
    rw [hq c]
    by_cases e : c < n
    · rw [if_pos e, if_pos e, hs c e, if_neg (show ¬ 0 = r by omega)]; omega
    · rw [if_neg e, if_neg e, if_neg (show ¬ 0 = r by omega)]; omega
  · rw [e1 c]; split <;> omega
theorem mf_pre_s (as : Nat → Nat) (n : Nat) (c : Nat) : mf_pre as (n + 1) c = if c < n then mf_pre as n c else if c = n then as n else 0 := by
  unfold mf_pre
  by_cases e : c < n
  · rw [if_pos (by omega), if_pos e, if_pos e]
  · by_cases e2 : c = n
    · subst e2; rw [if_pos (by omega), if_neg e, if_pos rfl]
    · rw [if_neg (by omega), if_neg e, if_neg e2]
/-- one course more in the first half -/
theorem mf_pre_one {as : Nat → Nat} {n : Nat} (hn : n < C) (x : Nat) {p : Nat → Nat} (hp : ∀ c, p c = if c = n then x else mf_pre as n c) :
    (∀ r, 0 < r → mf_nr C p r = mf_nr C (mf_pre as n) r + (if x = r then 1 else 0)) ∧ (∀ h, mf_ld C par grp (mf_1 p) h = mf_ld C par grp (mf_1 (mf_pre as n)) h + (if mf_an par (grp n) h = true then (if x ≠ 0 then 1 else 0) else 0)) ∧
    mf_asz C p = mf_asz C (mf_pre as n) + (if x ≠ 0 then 1 else 0) := by
  have h0 : mf_pre as n n = 0 := by unfold mf_pre; rw [if_neg (by omega)]
  refine ⟨fun r hr => ?_, fun h => ?_, ?_⟩
  · rw [← mf_sm_one hn (fun _ => if x = r then (1 : Int) else 0)]
    refine mf_add1 (fun c _ => ?_)
    rw [hp c]
    by_cases e : c = n
    · subst e; rw [if_pos rfl, if_pos rfl, h0, if_neg (show ¬ 0 = r by omega)]; omega
    · rw [if_neg e, if_neg (show ¬ n = c from fun z => e z.symm)]; omega
  · rw [← mf_sm_one hn (fun c => if mf_an par (grp c) h = true then (if x ≠ 0 then (1 : Int) else 0) else 0)]
    refine mf_add1 (fun c _ => ?_)
    unfold mf_1
    rw [hp c]
    by_cases e : c = n
    · subst e; rw [if_pos rfl, if_pos rfl, h0]; split <;> simp
    · rw [if_neg e, if_neg (show ¬ n = c from fun z => e z.symm)]; omega
  · rw [← mf_sm_one hn (fun _ => if x ≠ 0 then (1 : Int) else 0)]
    refine mf_add1 (fun c _ => ?_)
    unfold mf_1
    rw [hp c]
    by_cases e : c = n
    · subst e; rw [if_pos rfl, if_pos rfl, h0]; simp
    · rw [if_neg e, if_neg (show ¬ n = c from fun z => e z.symm)]; omega
theorem mf_ld_nn {x : Nat → Int} (hx : ∀ c, c < C → 0 ≤ x c) (h : Nat) : 0 ≤ mf_ld C par grp x h := mf_sm_nn (fun c hc => by
  have := hx c hc
  split <;> omega)
theorem mf_1_nn (as : Nat → Nat) (c : Nat) : 0 ≤ mf_1 as c := by unfold mf_1; split <;> omega
theorem mf_nr_nn (as : Nat → Nat) (r : Nat) : 0 ≤ mf_nr C as r := mf_sm_nn (fun c _ => by split <;> omega)
/-- the test of one requirement for one course -/
theorem mf_greedy (hG : G ≤ 6) (hC : C ≤ 12) (hR : R ≤ 5) (hg : ∀ c, c < C → grp c < G) (hp : mf_tr G par) {as : Nat → Nat} (ha : mf_aok G R C par grp X cnt lim need as)
    (hmax : ∀ b, mf_aok G R C par grp X cnt lim need b → mf_asz C b ≤ mf_asz C as) (hbest : ∀ b, mf_aok G R C par grp X cnt lim need b → mf_asz C b = mf_asz C as → mf_act C mf_bc as ≤ mf_act C mf_bc b)
    {c : Nat} (hc : c < C) (hX : X c = true) {r : Nat} (hr : 0 < r) (hrR : r ≤ R) (M : Int) (X' : Nat → Bool) (hX' : ∀ i, i < C → X' i = (X i && decide (c < i)))
    (lim' need' : Nat → Int) (hlim' : ∀ h, h < G → lim' h = lim h - mf_ld C par grp (mf_1 (mf_pre as c)) h - (if mf_an par (grp c) h = true then 1 else 0))
    (hneed' : ∀ i, i < R → need' (i + 1) = need (i + 1) - mf_nr C (mf_pre as c) (i + 1) - (if r = i + 1 then 1 else 0))
    (hM : (mf_nr C (mf_pre as c) r < need r ∧ ∀ h, h < G → mf_an par (grp c) h = true → mf_ld C par grp (mf_1 (mf_pre as c)) h < lim h) → mf_is C G R par grp X' cnt lim' need' M) :
    ((as c = r → cnt c r = true ∧ mf_nr C (mf_pre as c) r < need r ∧ (∀ h, h < G → mf_an par (grp c) h = true → mf_ld C par grp (mf_1 (mf_pre as c)) h < lim h) ∧ M + 1 = mf_asz C as - mf_asz C (mf_pre as c)) ∧
     (cnt c r = true → mf_nr C (mf_pre as c) r < need r → (∀ h, h < G → mf_an par (grp c) h = true → mf_ld C par grp (mf_1 (mf_pre as c)) h < lim h) → M + 1 = mf_asz C as - mf_asz C (mf_pre as c) → as c ≠ 0 ∧ as c ≤ r)) := by
  obtain ⟨a1, a2, a3⟩ := ha
  have ale : ∀ i, i < C → as i ≤ 5 := fun i hi => by
    by_cases e : as i = 0
    · omega
    · have := (a1 i hi e).1; omega
  -- the whole as a first half and a second half
  have hw := mf_halves (par := par) (grp := grp) (C := C) hg (as := as) (suf := fun i => if i < c then 0 else as i) (q := as) (n := c) (fun i => by split <;> rfl) (fun i hi => if_pos hi)
  -- that the prefix leaves room
  have lim0 : ∀ h, h < G → mf_ld C par grp (mf_1 (mf_pre as c)) h ≤ lim h := fun h hh => by
    have e1 := hw.2.1 h
    have e2 := a3 h hh
    have e3 := mf_ld_nn (C := C) (par := par) (grp := grp) (x := mf_1 (fun i => if i < c then 0 else as i)) (fun i _ => mf_1_nn _ i) h
    omega
  have need0 : ∀ i, i < R → mf_nr C (mf_pre as c) (i + 1) ≤ need (i + 1) := fun i hi => by
    have e1 := hw.1 (i + 1) (by omega)
    have e2 := a2 i hi
    have e3 := mf_nr_nn (C := C) (fun i => if i < c then 0 else as i) (i + 1)
    have e4 : mf_nr C as (i + 1) = mf_sm C (fun c => if as c = i + 1 then 1 else 0) := rfl
    omega
  have key : (mf_nr C (mf_pre as c) r < need r ∧ ∀ h, h < G → mf_an par (grp c) h = true → mf_ld C par grp (mf_1 (mf_pre as c)) h < lim h) → (∃ b, mf_aok G R C par grp X' cnt lim' need' b ∧ mf_asz C b = M) ∧ ∀ b, mf_aok G R C par grp X' cnt lim' need' b → mf_asz C b ≤ M := by
    intro hh
    refine mf_is_max hG hC hR hg hp (fun h hh2 => ?_) (fun i hi => ?_) (hM hh)
    · rw [hlim' h hh2]
      have := lim0 h hh2
      by_cases e : mf_an par (grp c) h = true
      · have := hh.2 h hh2 e; rw [if_pos e]; omega
      · rw [if_neg e]; omega
    · rw [hneed' i hi]
      have := need0 i hi
      by_cases e : r = i + 1
      · have := hh.1; rw [if_pos e]; rw [e] at this; omega
      · rw [if_neg e]; omega
  -- a second half gives an assignment of the whole
  have glue : ∀ b, mf_aok G R C par grp X' cnt lim' need' b → cnt c r = true → ∃ q, mf_aok G R C par grp X cnt lim need q ∧ mf_asz C q = mf_asz C (mf_pre as c) + 1 + mf_asz C b ∧ (∀ i, i < c → q i = as i) ∧ q c = r := by
    intro b hb hcr
    have b0 : ∀ i, i < C → i ≤ c → b i = 0 := fun i hi hle => Classical.byContradiction (fun e => by
      have := (hb.1 i hi e).2.1
      rw [hX' i hi, Bool.and_eq_true] at this
      have := of_decide_eq_true this.2
      omega)
    -- b, cut off beyond C so that it is 0 up to c everywhere
    have hp1 := mf_pre_one (C := C) (par := par) (grp := grp) (as := as) hc r (p := fun i => if i = c then r else mf_pre as c i) (fun i => rfl)
    have hsf : ∀ i, i < c + 1 → (fun i => if i < c + 1 then 0 else b i) i = 0 := fun i hi => if_pos hi
    have hh := mf_halves (par := par) (grp := grp) (C := C) hg (as := fun i => if i = c then r else mf_pre as c i) (suf := fun i => if i < c + 1 then 0 else b i) (q := fun i => if i < c + 1 then (if i = c then r else mf_pre as c i) else b i) (n := c + 1)
      (fun i => by by_cases e : i < c + 1 <;> simp [e]) hsf
    have hpp : ∀ i, mf_pre (fun i => if i = c then r else mf_pre as c i) (c + 1) i = (if i = c then r else mf_pre as c i) := by
      intro i
      by_cases e : i < c + 1
      · show (if i < c + 1 then (if i = c then r else mf_pre as c i) else 0) = _; rw [if_pos e]
      · show (if i < c + 1 then (if i = c then r else mf_pre as c i) else 0) = _
        rw [if_neg e, if_neg (by omega)]
        unfold mf_pre
        rw [if_neg (by omega)]
    have hpe : mf_pre (fun i => if i = c then r else mf_pre as c i) (c + 1) = (fun i => if i = c then r else mf_pre as c i) := funext hpp
    rw [hpe] at hh
    have hbe1 : ∀ x, mf_nr C (fun i => if i < c + 1 then 0 else b i) (x + 1) = mf_nr C b (x + 1) := fun x => mf_sm_congr (fun i hi => by
      by_cases e : i < c + 1
      · simp [e, b0 i hi (by omega)]
      · simp [e])
    have hb1 : ∀ i, i < C → mf_1 (fun i => if i < c + 1 then 0 else b i) i = mf_1 b i := fun i hi => by
      unfold mf_1
      by_cases e : i < c + 1
      · simp [e, b0 i hi (by omega)]
      · simp [e]
    have hbe2 : ∀ h, mf_ld C par grp (mf_1 (fun i => if i < c + 1 then 0 else b i)) h = mf_ld C par grp (mf_1 b) h := fun h => mf_sm_congr (fun i hi => by rw [hb1 i hi])
    have hbe3 : mf_asz C (fun i => if i < c + 1 then 0 else b i) = mf_asz C b := mf_sm_congr (fun i hi => hb1 i hi)
    refine ⟨fun i => if i < c + 1 then (if i = c then r else mf_pre as c i) else b i, ⟨fun i hi => ?_, fun x hx => ?_, fun h hh2 => ?_⟩, ?_, fun i hi => ?_, ?_⟩
    · dsimp only
      by_cases e : i < c + 1
      · rw [if_pos e]
        by_cases e2 : i = c
        · subst e2; rw [if_pos rfl]; intro _; exact ⟨hrR, hX, hcr⟩
        · rw [if_neg e2]; unfold mf_pre; rw [if_pos (by omega)]; exact a1 i hi
      · rw [if_neg e]
        intro h0
        obtain ⟨q1, q2, q3⟩ := hb.1 i hi h0
        rw [hX' i hi, Bool.and_eq_true] at q2
        exact ⟨q1, q2.1, q3⟩
    · have e1 := hh.1 (x + 1) (by omega)
      have e2 := hp1.1 (x + 1) (by omega)
      have e3 := hb.2.1 x hx
      rw [hneed' x hx] at e3
      rw [hbe1] at e1
      show mf_nr C _ (x + 1) ≤ _
      have e4 : mf_nr C b (x + 1) = mf_sm C (fun c => if b c = x + 1 then 1 else 0) := rfl
      omega
    · have e1 := hh.2.1 h
      have e2 := hp1.2.1 h
      have e3 := hb.2.2 h hh2
      rw [hlim' h hh2] at e3
      rw [hbe2] at e1
      rw [if_pos (show r ≠ 0 by omega)] at e2
      omega
    · have e1 := hh.2.2
      have e2 := hp1.2.2
      rw [if_pos (show r ≠ 0 by omega)] at e2
      rw [hbe3] at e1
      omega
    · dsimp only
      rw [if_pos (by omega), if_neg (by omega)]
      unfold mf_pre
      rw [if_pos hi]
    · dsimp only
      rw [if_pos (by omega), if_pos rfl]
  refine ⟨fun hcr => ?_, fun k1 k2 k3 k4 => ?_⟩
  · -- it is the one of the best
    have h0 : as c ≠ 0 := by omega
    obtain ⟨q1, q2, q3⟩ := a1 c hc h0
    rw [hcr] at q3
    have hp1 := mf_pre_one (C := C) (par := par) (grp := grp) (as := as) hc r (p := mf_pre as (c + 1)) (fun i => by
      rw [mf_pre_s]
      by_cases e : i < c
      · rw [if_pos e, if_neg (by omega)]
      · rw [if_neg e]
        by_cases e2 : i = c
        · rw [if_pos e2, if_pos e2, hcr]
        · rw [if_neg e2, if_neg e2]; unfold mf_pre; rw [if_neg e])
    have hw2 := mf_halves (par := par) (grp := grp) (C := C) hg (as := as) (suf := fun i => if i < c + 1 then 0 else as i) (q := as) (n := c + 1) (fun i => by split <;> rfl) (fun i hi => if_pos hi)
    have g1 : mf_nr C (mf_pre as c) r < need r := by
      have e1 := hw2.1 r hr
      have e2 := hp1.1 r hr
      rw [if_pos rfl] at e2
      have e3 := a2 (r - 1) (by omega)
      rw [show r - 1 + 1 = r from by omega] at e3
      have e4 := mf_nr_nn (C := C) (fun i => if i < c + 1 then 0 else as i) r
      have e5 : mf_nr C as r = mf_sm C (fun c => if as c = r then 1 else 0) := rfl
      omega
    have g2 : ∀ h, h < G → mf_an par (grp c) h = true → mf_ld C par grp (mf_1 (mf_pre as c)) h < lim h := by
      intro h hh han
      have e1 := hw2.2.1 h
      have e2 := hp1.2.1 h
      rw [if_pos han, if_pos (show r ≠ 0 by omega)] at e2
      have e3 := a3 h hh
      have e4 := mf_ld_nn (C := C) (par := par) (grp := grp) (x := mf_1 (fun i => if i < c + 1 then 0 else as i)) (fun i _ => mf_1_nn _ i) h
      omega
    obtain ⟨⟨b, b1, b2⟩, b3⟩ := key ⟨g1, g2⟩
    refine ⟨q3, g1, g2, ?_⟩
    -- at least: the rest of the best
    have l1 := b3 (fun i => if i < c + 1 then 0 else as i) ⟨fun i hi h => by
        dsimp only at h ⊢
        by_cases e : i < c + 1
        · rw [if_pos e] at h; exact absurd rfl h
        · rw [if_neg e] at h ⊢
          obtain ⟨w1, w2, w3⟩ := a1 i hi h
          refine ⟨w1, ?_, w3⟩
          rw [hX' i hi, w2, decide_eq_true (by omega)]; rfl, fun x hx => by
        have e1 := hw2.1 (x + 1) (by omega)
        have e2 := hp1.1 (x + 1) (by omega)
        have e3 := a2 x hx
        rw [hneed' x hx]
        have e5 : mf_nr C as (x + 1) = mf_sm C (fun c => if as c = x + 1 then 1 else 0) := rfl
        show mf_nr C (fun i => if i < c + 1 then 0 else as i) (x + 1) ≤ _
        omega, fun h hh => by
        have e1 := hw2.2.1 h
        have e2 := hp1.2.1 h
        rw [if_pos (show r ≠ 0 by omega)] at e2
        have e3 := a3 h hh
        rw [hlim' h hh]
        omega⟩
    obtain ⟨q, w1, w2, -, -⟩ := glue b b1 q3
    have l2 := hmax q w1
    have e1 := hw2.2.2
    have e2 := hp1.2.2
    rw [if_pos (show r ≠ 0 by omega)] at e2
    omega
  · obtain ⟨⟨b, b1, b2⟩, b3⟩ := key ⟨k2, k3⟩
    obtain ⟨q, w1, w2, w3, w4⟩ := glue b b1 k1
    have hs : mf_asz C q = mf_asz C as := by omega
    have hle := hbest q w1 hs
    have qle : ∀ i, i < C → q i ≤ 5 := fun i hi => by
      by_cases e : q i = 0
      · omega
      · have := (w1.1 i hi e).1; omega
    refine Classical.byContradiction (fun hn => ?_)
    have := mf_lex hC qle ale hc w3 (by
      rw [w4]
      unfold mf_dg
      rw [if_pos (show r ≠ 0 by omega)]
      by_cases e : as c = 0
      · rw [e, if_neg (fun z => z rfl)]; omega
      · rw [if_pos e]; omega)
    omega
end Gr
