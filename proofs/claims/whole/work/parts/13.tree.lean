/-! the tree of groups: 'mf_an par k h': h is k or lies above it -/
def mf_anf (par : Nat → Nat) (n k h : Nat) : Bool := match n with
  | 0 => decide (k = h)
  | m + 1 => decide (k = h) || (decide (k ≠ 0) && mf_anf par m (par k) h)
def mf_an (par : Nat → Nat) (k h : Nat) : Bool := mf_anf par k k h
def mf_tr (G : Nat) (par : Nat → Nat) : Prop := ∀ g, 0 < g → g < G → par g < g
theorem mf_anf_fuel {G : Nat} {par : Nat → Nat} (ht : mf_tr G par) (h : Nat) : ∀ (b k : Nat), k ≤ b → k < G → ∀ n m, k ≤ n → k ≤ m → mf_anf par n k h = mf_anf par m k h := by
  intro b
  induction b with
  | zero =>
    intro k hk hG n m _ _
    have : k = 0 := by omega
    subst this
    cases n <;> cases m <;> simp [mf_anf]
  | succ b ih =>
    intro k hk hG n m hn hm
    by_cases e : k = 0
    · subst e
      cases n <;> cases m <;> simp [mf_anf]
    · have hp := ht k (by omega) hG
      cases n with
      | zero => omega
      | succ n =>
        cases m with
        | zero => omega
        | succ m =>
          show (decide (k = h) || (decide (k ≠ 0) && mf_anf par n (par k) h)) = (decide (k = h) || (decide (k ≠ 0) && mf_anf par m (par k) h))
          rw [ih (par k) (by omega) (by omega) n m (by omega) (by omega)]
theorem mf_an_0 (par : Nat → Nat) (h : Nat) : mf_an par 0 h = decide (0 = h) := rfl
theorem mf_an_s {G : Nat} {par : Nat → Nat} (ht : mf_tr G par) {k : Nat} (h0 : 0 < k) (hk : k < G) (h : Nat) : mf_an par k h = (decide (k = h) || mf_an par (par k) h) := by
  have hp := ht k h0 hk
  unfold mf_an
  cases k with
  | zero => omega
  | succ k =>
    show (decide (k + 1 = h) || (decide (k + 1 ≠ 0) && mf_anf par k (par (k + 1)) h)) = _
    rw [mf_anf_fuel ht h k (par (k + 1)) (by omega) (by omega) k (par (k + 1)) (by omega) (Nat.le_refl _)]
    simp
theorem mf_an_le {G : Nat} {par : Nat → Nat} (ht : mf_tr G par) {h : Nat} : ∀ (b k : Nat), k ≤ b → k < G → mf_an par k h = true → h ≤ k := by
  intro b
  induction b with
  | zero =>
    intro k hk _ ha
    have : k = 0 := by omega
    subst this
    rw [mf_an_0] at ha
    have := of_decide_eq_true ha
    omega
  | succ b ih =>
    intro k hk hG ha
    by_cases e : k = 0
    · subst e
      rw [mf_an_0] at ha
      have := of_decide_eq_true ha
      omega
    · rw [mf_an_s ht (by omega) hG, Bool.or_eq_true] at ha
      have hp := ht k (by omega) hG
      rcases ha with ha | ha
      · have := of_decide_eq_true ha; omega
      · have := ih (par k) (by omega) (by omega) ha; omega
theorem mf_an_self (par : Nat → Nat) (k : Nat) : mf_an par k k = true := by
  unfold mf_an
  cases k <;> simp [mf_anf]
theorem mf_an_root {G : Nat} {par : Nat → Nat} (ht : mf_tr G par) : ∀ (b k : Nat), k ≤ b → k < G → mf_an par k 0 = true := by
  intro b
  induction b with
  | zero =>
    intro k hk _
    have : k = 0 := by omega
    subst this
    rfl
  | succ b ih =>
    intro k hk hG
    by_cases e : k = 0
    · subst e; rfl
    · have hp := ht k (by omega) hG
      rw [mf_an_s ht (by omega) hG, ih (par k) (by omega) (by omega)]
      simp
def mf_b (x : Bool) : Int := if x = true then 1 else 0
theorem mf_b_t : mf_b true = 1 := rfl
theorem mf_b_f : mf_b false = 0 := rfl
theorem mf_b_nn (x : Bool) : 0 ≤ mf_b x := by cases x <;> simp [mf_b]
theorem mf_b_le (x : Bool) : mf_b x ≤ 1 := by cases x <;> simp [mf_b]
/-- the children of h, of those below which k lies: just one, if k is strictly below h -/
theorem mf_an_sum {G : Nat} {par : Nat → Nat} (ht : mf_tr G par) {h : Nat} : ∀ (b k : Nat), k ≤ b → k < G →
    mf_sm G (fun g => if 0 < g ∧ par g = h then mf_b (mf_an par k g) else 0) = mf_b (mf_an par k h) - mf_b (decide (k = h)) := by
  intro b
  induction b with
  | zero =>
    intro k hk _
    have : k = 0 := by omega
    subst this
    rw [mf_an_0]
    rw [mf_sm_z (fun g _ => by
      by_cases e : 0 < g ∧ par g = h
      · rw [if_pos e, mf_an_0, decide_eq_false (by omega)]; rfl
      · rw [if_neg e])]
    omega
  | succ b ih =>
    intro k hk hG
    by_cases e : k = 0
    · subst e
      rw [mf_an_0]
      rw [mf_sm_z (fun g _ => by
        by_cases e : 0 < g ∧ par g = h
        · rw [if_pos e, mf_an_0, decide_eq_false (by omega)]; rfl
        · rw [if_neg e])]
      omega
    · have hp := ht k (by omega) hG
      have hi := ih (par k) (by omega) (by omega)
      have e2 : ∀ g, g < G → (if 0 < g ∧ par g = h then mf_b (mf_an par k g) else 0) = (if k = g then (if par g = h then 1 else 0) else 0) + (if 0 < g ∧ par g = h then mf_b (mf_an par (par k) g) else 0) := by
        intro g hg
        by_cases c : 0 < g ∧ par g = h
        · rw [if_pos c, if_pos c, if_pos c.2, mf_an_s ht (by omega) hG]
          by_cases e3 : k = g
          · subst e3
            have hn : mf_an par (par k) k = false := by
              cases hx : mf_an par (par k) k with
              | false => rfl
              | true => have := mf_an_le ht (par k) (par k) (Nat.le_refl _) (by omega) hx; omega
            rw [if_pos rfl, hn, decide_eq_true rfl]; rfl
          · rw [if_neg e3, decide_eq_false e3, Bool.false_or]; omega
        · rw [if_neg c, if_neg c]
          by_cases e3 : k = g
          · subst e3
            rw [if_pos rfl, if_neg (fun z => c ⟨by omega, z⟩)]; rfl
          · rw [if_neg e3]; rfl
      rw [mf_sm_congr e2, mf_sm_add, mf_sm_one hG (fun g => if par g = h then 1 else 0), hi, mf_an_s ht (by omega) hG]
      by_cases c1 : k = h
      · subst c1
        have hn : mf_an par (par k) k = false := by
          cases hx : mf_an par (par k) k with
          | false => rfl
          | true => have := mf_an_le ht (par k) (par k) (Nat.le_refl _) (by omega) hx; omega
        rw [hn, decide_eq_true rfl, decide_eq_false (by omega), if_neg (by omega)]; rfl
      · rw [decide_eq_false c1, Bool.false_or]
        by_cases c2 : par k = h
        · rw [if_pos c2, decide_eq_true c2]; show 1 + (_ - 1) = _ - 0; omega
        · rw [if_neg c2, decide_eq_false c2]; show 0 + (_ - 0) = _ - 0; omega
/-- how much lies within h: by its own courses and its children -/
def mf_ld (C : Nat) (par grp : Nat → Nat) (x : Nat → Int) (h : Nat) : Int := mf_sm C (fun c => if mf_an par (grp c) h = true then x c else 0)
def mf_own (C : Nat) (grp : Nat → Nat) (x : Nat → Int) (h : Nat) : Int := mf_sm C (fun c => if grp c = h then x c else 0)
theorem mf_ld_rec {G C : Nat} {par grp : Nat → Nat} (ht : mf_tr G par) (hg : ∀ c, c < C → grp c < G) (x : Nat → Int) (h : Nat) :
    mf_ld C par grp x h = mf_own C grp x h + mf_sm G (fun g => if 0 < g ∧ par g = h then mf_ld C par grp x g else 0) := by
  have e1 : ∀ g, g < G → (if 0 < g ∧ par g = h then mf_ld C par grp x g else 0) = mf_sm C (fun c => x c * (if 0 < g ∧ par g = h then mf_b (mf_an par (grp c) g) else 0)) := by
    intro g _
    by_cases c : 0 < g ∧ par g = h
    · rw [if_pos c]
      refine mf_sm_congr (fun i _ => ?_)
      rw [if_pos c]
      cases mf_an par (grp i) g <;> simp [mf_b]
    · rw [if_neg c]
      exact (mf_sm_z (fun i _ => by rw [if_neg c]; simp)).symm
  rw [mf_sm_congr e1, mf_sm_swap]
  unfold mf_ld mf_own
  rw [← mf_sm_add]
  refine mf_sm_congr (fun c hc => ?_)
  rw [mf_sm_mul, mf_an_sum ht (grp c) (grp c) (Nat.le_refl _) (hg c hc), Int.mul_sub]
  by_cases e : grp c = h
  · have ha : mf_an par (grp c) h = true := by rw [e]; exact mf_an_self par h
    rw [if_pos e, if_pos ha, ha, decide_eq_true e]; simp [mf_b]
  · rw [if_neg e, decide_eq_false e]
    cases mf_an par (grp c) h <;> simp [mf_b]
theorem mf_ld_root {G C : Nat} {par grp : Nat → Nat} (ht : mf_tr G par) (hg : ∀ c, c < C → grp c < G) (x : Nat → Int) : mf_ld C par grp x 0 = mf_sm C x :=
  mf_sm_congr (fun c hc => by rw [if_pos (mf_an_root ht (grp c) (grp c) (Nat.le_refl _) (hg c hc))])
/-! the supply: what is within a group is cut down to its limit, from the last group to the first -/
def mf_mn (a b : Int) : Int := if a ≤ b then a else b
def mf_sp (par : Nat → Nat) (lim own : Nat → Int) (n : Nat) (acc : Nat → Int) : Nat → Int := match n with
  | 0 => acc
  | k + 1 => mf_sp par lim own k (mf_up acc (par (k + 1)) (acc (par (k + 1)) + mf_mn (lim (k + 1)) (acc (k + 1) + own (k + 1))))
def mf_sup (G : Nat) (par : Nat → Nat) (lim own : Nat → Int) : Int := if G = 0 then 0 else mf_mn (lim 0) (mf_sp par lim own (G - 1) (fun _ => 0) 0 + own 0)
theorem mf_mn_l (a b : Int) : mf_mn a b ≤ a := by unfold mf_mn; split <;> omega
theorem mf_mn_r (a b : Int) : mf_mn a b ≤ b := by unfold mf_mn; split <;> omega
theorem mf_mn_g {a b c : Int} (h1 : c ≤ a) (h2 : c ≤ b) : c ≤ mf_mn a b := by unfold mf_mn; split <;> omega
theorem mf_mn_m {a b b' : Int} (h : b ≤ b') : mf_mn a b ≤ mf_mn a b' := mf_mn_g (mf_mn_l a b) (Int.le_trans (mf_mn_r a b) h)
/-- sums of children beyond n -/
def mf_kd (G : Nat) (par : Nat → Nat) (L : Nat → Int) (n h : Nat) : Int := mf_sm G (fun g => if n < g ∧ par g = h then L g else 0)
theorem mf_kd_s {G : Nat} {par : Nat → Nat} {L : Nat → Int} {n h : Nat} (hn : n + 1 < G) : mf_kd G par L n h = (if par (n + 1) = h then L (n + 1) else 0) + mf_kd G par L (n + 1) h := by
  unfold mf_kd
  have e : ∀ g, g < G → (if n < g ∧ par g = h then L g else 0) = (if n + 1 = g then (if par g = h then L g else 0) else 0) + (if n + 1 < g ∧ par g = h then L g else 0) := by
    intro g _
    by_cases c1 : n + 1 = g
    · subst c1
      rw [if_pos rfl, if_neg (show ¬ (n + 1 < n + 1 ∧ par (n + 1) = h) from fun z => absurd z.1 (Nat.lt_irrefl _))]
      by_cases c2 : par (n + 1) = h
      · rw [if_pos ⟨by omega, c2⟩, if_pos c2]; omega
      · rw [if_neg (fun z => c2 z.2), if_neg c2]; omega
    · rw [if_neg c1]
      by_cases c2 : n < g ∧ par g = h
      · rw [if_pos c2, if_pos ⟨by omega, c2.2⟩]; omega
      · rw [if_neg c2, if_neg (fun z => c2 ⟨by omega, z.2⟩)]; omega
  rw [mf_sm_congr e, mf_sm_add, mf_sm_one hn (fun g => if par g = h then L g else 0)]
theorem mf_sp_le {G : Nat} {par : Nat → Nat} {lim own L : Nat → Int} (ht : mf_tr G par) (hL : ∀ h, h < G → L h ≤ mf_mn (lim h) (own h + mf_kd G par L 0 h)) :
    ∀ (n : Nat) (acc : Nat → Int), n < G → (∀ h, h ≤ n → mf_kd G par L n h ≤ acc h) → mf_kd G par L 0 0 ≤ mf_sp par lim own n acc 0 := by
  intro n
  induction n with
  | zero => intro acc _ h; exact h 0 (Nat.le_refl _)
  | succ n ih =>
    intro acc hn h
    refine ih _ (by omega) (fun i hi => ?_)
    have hp := ht (n + 1) (by omega) hn
    have h1 := h (n + 1) (Nat.le_refl _)
    have h2 := hL (n + 1) hn
    have hk : mf_kd G par L 0 (n + 1) = mf_kd G par L (n + 1) (n + 1) := by
      refine mf_sm_congr (fun g hg => ?_)
      by_cases c : 0 < g ∧ par g = n + 1
      · have := ht g c.1 hg
        rw [if_pos c, if_pos ⟨by omega, c.2⟩]
      · rw [if_neg c, if_neg (fun z => c ⟨by omega, z.2⟩)]
    rw [hk] at h2
    have h3 : mf_mn (lim (n + 1)) (own (n + 1) + mf_kd G par L (n + 1) (n + 1)) ≤ mf_mn (lim (n + 1)) (acc (n + 1) + own (n + 1)) := mf_mn_m (by omega)
    rw [mf_kd_s hn]
    have h4 := h i (by omega)
    by_cases c : par (n + 1) = i
    · rw [if_pos c, ← c, mf_up_s]
      rw [← c] at h4
      omega
    · rw [if_neg c, mf_up_n _ _ (fun z => c z.symm)]; omega
theorem mf_sup_ge {G : Nat} {par : Nat → Nat} {lim own L : Nat → Int} (h0 : 0 < G) (ht : mf_tr G par) (hL : ∀ h, h < G → L h ≤ mf_mn (lim h) (own h + mf_kd G par L 0 h)) : L 0 ≤ mf_sup G par lim own := by
  unfold mf_sup
  rw [if_neg (by omega)]
  have h1 := mf_sp_le ht hL (G - 1) (fun _ => 0) (by omega) (fun h _ => by
    rw [mf_kd, mf_sm_z (fun g hg => if_neg (fun z => by omega))]; exact Int.le_refl _)
  refine Int.le_trans (hL 0 h0) (mf_mn_m ?_)
  omega
theorem mf_sp_ge {G : Nat} {par : Nat → Nat} {lim own L : Nat → Int} (ht : mf_tr G par) (hL : ∀ h, h < G → mf_mn (lim h) (own h + mf_kd G par L 0 h) ≤ L h) :
    ∀ (n : Nat) (acc : Nat → Int), n < G → (∀ h, h ≤ n → acc h ≤ mf_kd G par L n h) → mf_sp par lim own n acc 0 ≤ mf_kd G par L 0 0 := by
  intro n
  induction n with
  | zero => intro acc _ h; exact h 0 (Nat.le_refl _)
  | succ n ih =>
    intro acc hn h
    refine ih _ (by omega) (fun i hi => ?_)
    have hp := ht (n + 1) (by omega) hn
    have h1 := h (n + 1) (Nat.le_refl _)
    have h2 := hL (n + 1) hn
    have hk : mf_kd G par L 0 (n + 1) = mf_kd G par L (n + 1) (n + 1) := by
      refine mf_sm_congr (fun g hg => ?_)
      by_cases c : 0 < g ∧ par g = n + 1
      · have := ht g c.1 hg
        rw [if_pos c, if_pos ⟨by omega, c.2⟩]
      · rw [if_neg c, if_neg (fun z => c ⟨by omega, z.2⟩)]
    rw [hk] at h2
    have h3 : mf_mn (lim (n + 1)) (acc (n + 1) + own (n + 1)) ≤ mf_mn (lim (n + 1)) (own (n + 1) + mf_kd G par L (n + 1) (n + 1)) := mf_mn_m (by omega)
    rw [mf_kd_s hn]
    have h4 := h i (by omega)
    by_cases c : par (n + 1) = i
    · rw [if_pos c, ← c, mf_up_s]
      rw [← c] at h4
      omega
    · rw [if_neg c, mf_up_n _ _ (fun z => c z.symm)]; omega
theorem mf_sup_le {G : Nat} {par : Nat → Nat} {lim own L : Nat → Int} (h0 : 0 < G) (ht : mf_tr G par) (hL : ∀ h, h < G → mf_mn (lim h) (own h + mf_kd G par L 0 h) ≤ L h) : mf_sup G par lim own ≤ L 0 := by
  unfold mf_sup
  rw [if_neg (by omega)]
  have h1 := mf_sp_ge ht hL (G - 1) (fun _ => 0) (by omega) (fun h _ => by
    rw [mf_kd, mf_sm_z (fun g hg => if_neg (fun z => by omega))]; exact Int.le_refl _)
  refine Int.le_trans (mf_mn_m ?_) (hL 0 h0)
  omega
