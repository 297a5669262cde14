/-! assignments as functions: as c is the requirement of course c, 0 for none -/
def mf_zas (as : Nat → Nat) (c r : Nat) : Int := if as c = r + 1 then 1 else 0
def mf_1 (as : Nat → Nat) (c : Nat) : Int := if as c ≠ 0 then 1 else 0
def mf_aok (G R C : Nat) (par grp : Nat → Nat) (X : Nat → Bool) (cnt : Nat → Nat → Bool) (lim need : Nat → Int) (as : Nat → Nat) : Prop :=
  (∀ c, c < C → as c ≠ 0 → as c ≤ R ∧ X c = true ∧ cnt c (as c) = true) ∧ (∀ r, r < R → mf_sm C (fun c => if as c = r + 1 then 1 else 0) ≤ need (r + 1)) ∧ (∀ h, h < G → mf_ld C par grp (mf_1 as) h ≤ lim h)
def mf_asz (C : Nat) (as : Nat → Nat) : Int := mf_sm C (mf_1 as)
def mf_act (C : Nat) (cs : Nat → Nat → Int) (as : Nat → Nat) : Int := mf_sm C (fun c => if as c ≠ 0 then cs c (as c) else 0)
section As
variable {G R C : Nat} {par grp : Nat → Nat} {X : Nat → Bool} {cnt : Nat → Nat → Bool} {lim need : Nat → Int} {cs : Nat → Nat → Int}
theorem mf_zas_sum {as : Nat → Nat} {c : Nat} (h : as c ≠ 0 → as c ≤ R) (F : Nat → Int) : mf_sm R (fun r => F (r + 1) * mf_zas as c r) = if as c ≠ 0 then F (as c) else 0 := by
  by_cases e : as c = 0
  · rw [if_neg (fun z => z e)]
    exact mf_sm_z (fun r _ => by unfold mf_zas; rw [if_neg (by omega)]; simp)
  · have h1 := h e
    rw [if_pos e, mf_sm_congr (G := fun r => if as c - 1 = r then F (r + 1) else 0) (fun r _ => by
      unfold mf_zas
      by_cases e2 : as c = r + 1
      · rw [if_pos e2, if_pos (by omega)]; simp
      · rw [if_neg e2, if_neg (by omega)]; simp), mf_sm_one (by omega) (fun r => F (r + 1)), show as c - 1 + 1 = as c from by omega]
theorem mf_zas_1 {as : Nat → Nat} {c : Nat} (h : as c ≠ 0 → as c ≤ R) : mf_sm R (mf_zas as c) = mf_1 as c := by
  have := mf_zas_sum (R := R) h (fun _ => 1)
  unfold mf_1
  rw [← this]
  exact mf_sm_congr (fun r _ => by omega)
theorem mf_a_z {as : Nat → Nat} (h : mf_aok G R C par grp X cnt lim need as) : mf_zok G R C par grp X cnt lim need (mf_zas as) ∧ mf_zsz R C (mf_zas as) = mf_asz C as ∧ mf_zct R C cs (mf_zas as) = mf_act C cs as := by
  have hs : ∀ c, c < C → mf_sm R (mf_zas as c) = mf_1 as c := fun c hc => mf_zas_1 (fun e => (h.1 c hc e).1)
  refine ⟨⟨fun c _ r _ => ?_, fun c hc r _ e => ?_, fun c hc => ?_, h.2.1, fun g hg => ?_⟩, mf_sm_congr hs, mf_sm_congr (fun c hc => mf_zas_sum (fun e => (h.1 c hc e).1) (cs c))⟩
  · unfold mf_zas; split <;> omega
  · unfold mf_zas at e
    by_cases e2 : as c = r + 1
    · have := h.1 c hc (by omega)
      rw [e2] at this
      exact this.2
    · rw [if_neg e2] at e; exact absurd rfl e
  · rw [hs c hc]; unfold mf_1; split <;> omega
  · refine Int.le_trans (Int.le_of_eq (mf_sm_congr (fun c hc => ?_))) (h.2.2 g hg)
    dsimp only
    rw [hs c hc]
theorem mf_z_a {z : Nat → Nat → Int} (h : mf_zok G R C par grp X cnt lim need z) : ∃ as : Nat → Nat, mf_aok G R C par grp X cnt lim need as ∧ (∀ c, c < C → ∀ r, r < R → z c r = mf_zas as c r) ∧ mf_asz C as = mf_zsz R C z ∧ mf_act C cs as = mf_zct R C cs z := by
  have hex : ∀ c, ∃ x : Nat, c < C → x ≤ R ∧ ∀ r, r < R → z c r = if x = r + 1 then 1 else 0 := by
    intro c
    by_cases hc : c < C
    · by_cases e : ∃ r, r < R ∧ z c r ≠ 0
      · obtain ⟨r, hr, h0⟩ := e
        refine ⟨r + 1, fun _ => ⟨by omega, fun i hi => ?_⟩⟩
        have h1 := h.1 c hc r hr
        have h2 := h.2.2.1 c hc
        have h3 : mf_sm R (fun i => (if r = i then z c i else 0)) + mf_sm R (fun i => if r = i then 0 else z c i) = mf_sm R (z c) := by
          rw [← mf_sm_add]; exact mf_sm_congr (fun i _ => by split <;> omega)
        have h4 : ∀ i, i < R → 0 ≤ (if r = i then 0 else z c i) := fun i hi => by
          have := h.1 c hc i hi
          split <;> omega
        have h5 := mf_sm_nn h4
        rw [mf_sm_one hr (z c)] at h3
        have h6 := mf_sm_nz h4 (by omega) i hi
        by_cases e2 : r = i
        · subst e2; rw [if_pos rfl]; omega
        · rw [if_neg e2] at h6; rw [if_neg (by omega)]; exact h6
      · refine ⟨0, fun _ => ⟨by omega, fun i hi => ?_⟩⟩
        rw [if_neg (by omega)]
        exact Classical.byContradiction (fun q => e ⟨i, hi, q⟩)
    · exact ⟨0, fun q => absurd q hc⟩
  have has : ∃ as : Nat → Nat, ∀ c, c < C → as c ≤ R ∧ ∀ r, r < R → z c r = if as c = r + 1 then 1 else 0 := ⟨fun c => (hex c).choose, fun c hc => (hex c).choose_spec hc⟩
  obtain ⟨as, has⟩ := has
  have hzz : ∀ c, c < C → ∀ r, r < R → z c r = mf_zas as c r := fun c hc r hr => (has c hc).2 r hr
  have hs : ∀ c, c < C → mf_sm R (z c) = mf_1 as c := fun c hc => (mf_sm_congr (fun r hr => hzz c hc r hr)).trans (mf_zas_1 (fun _ => (has c hc).1))
  refine ⟨as, ⟨fun c hc e => ?_, fun r hr => ?_, fun g hg => ?_⟩, hzz, ?_, ?_⟩
  · have h1 := (has c hc).1
    have h2 := (has c hc).2 (as c - 1) (by omega)
    rw [if_pos (by omega)] at h2
    have h3 := h.2.1 c hc (as c - 1) (by omega) (by omega)
    rw [show as c - 1 + 1 = as c from by omega] at h3
    exact ⟨h1, h3⟩
  · refine Int.le_trans (Int.le_of_eq (mf_sm_congr (fun c hc => ?_))) (h.2.2.2.1 r hr)
    exact (hzz c hc r hr).symm
  · refine Int.le_trans (Int.le_of_eq (mf_sm_congr (fun c hc => ?_))) (h.2.2.2.2 g hg)
    dsimp only
    rw [hs c hc]
  · exact mf_sm_congr (fun c hc => (hs c hc).symm)
  · refine (mf_sm_congr (fun c hc => ?_)).symm
    rw [mf_sm_congr (fun r hr => by rw [hzz c hc r hr]), mf_zas_sum (fun _ => (has c hc).1) (cs c)]
/-- the least cut, for functions -/
theorem mf_a_minmax (hG : G ≤ 6) (hC : C ≤ 12) (hR : R ≤ 5) (hg : ∀ c, c < C → grp c < G) (hp : mf_tr G par) (h1 : ∀ g, g < G → 0 ≤ lim g) (h2 : ∀ r, r < R → 0 ≤ need (r + 1)) :
    ∃ (as : Nat → Nat) (T : Nat → Bool), mf_aok G R C par grp X cnt lim need as ∧ mf_asz C as = mf_cv G R C par grp X cnt lim need T := by
  obtain ⟨z, T, hz, e⟩ := mf_minmax X cnt hG hC hR hg hp h1 h2
  obtain ⟨as, a1, -, a2, -⟩ := mf_z_a (cs := fun _ _ => 0) hz
  exact ⟨as, T, a1, a2.trans e⟩
theorem mf_a_le (hg : ∀ c, c < C → grp c < G) (hp : mf_tr G par) {as : Nat → Nat} (ha : mf_aok G R C par grp X cnt lim need as) (T : Nat → Bool) : mf_asz C as ≤ mf_cv G R C par grp X cnt lim need T := by
  obtain ⟨a1, a2, -⟩ := mf_a_z (cs := fun _ _ => 0) ha
  rw [← a2]
  exact mf_z_le hg hp a1 T
end As
/-! the best one: a number with a digit for each course -/
def mf_w (c : Nat) : Int := 6 ^ (11 - c)
def mf_dg (x : Nat) : Int := if x ≠ 0 then x else 6
def mf_bc (c r : Nat) : Int := (r - 6) * mf_w c
theorem mf_w_pos (c : Nat) : 0 < mf_w c := Int.pow_pos (by omega)
theorem mf_w_s {c : Nat} (h : c < 11) : mf_w c = 6 * mf_w (c + 1) := by
  unfold mf_w
  rw [show 11 - c = (11 - (c + 1)) + 1 from by omega, Int.pow_succ, Int.mul_comm]
theorem mf_act_dg (C : Nat) (as : Nat → Nat) : mf_act C mf_bc as = mf_sm C (fun c => (mf_dg (as c) - 6) * mf_w c) :=
  mf_sm_congr (fun c _ => by
    unfold mf_bc mf_dg
    by_cases e : as c ≠ 0
    · rw [if_pos e, if_pos e]
    · rw [if_neg e, if_neg e]; simp)
/-- what the digits behind c can do is less than one unit of c -/
theorem mf_tail {C : Nat} (hC : C ≤ 12) (D : Nat → Int) (hD : ∀ c, c < C → D c ≤ 5) : ∀ n c, c + n = C → 0 < n → mf_sm n (fun i => D (c + i) * mf_w (c + i)) ≤ 6 * mf_w c - mf_w (C - 1) := by
  intro n
  induction n with
  | zero => intro c _ h; omega
  | succ n ih =>
    intro c hc _
    have e : mf_sm (n + 1) (fun i => D (c + i) * mf_w (c + i)) = D c * mf_w c + mf_sm n (fun i => D (c + 1 + i) * mf_w (c + 1 + i)) := by
      rw [show n + 1 = 1 + n from by omega, mf_sm_split, mf_sm_s, mf_sm_0]
      simp only [Nat.add_zero, Int.zero_add]
      congr 1
      exact mf_sm_congr (fun i _ => by rw [show c + (1 + i) = c + 1 + i from by omega])
    rw [e]
    have h1 : D c * mf_w c ≤ 5 * mf_w c := Int.mul_le_mul_of_nonneg_right (hD c (by omega)) (Int.le_of_lt (mf_w_pos c))
    by_cases hn : n = 0
    · subst hn
      rw [mf_sm_0, show C - 1 = c from by omega]
      omega
    · have h2 := ih (c + 1) (by omega) (by omega)
      have h3 := mf_w_s (c := c) (by omega)
      omega
theorem mf_lex {C : Nat} (hC : C ≤ 12) {a b : Nat → Nat} (ha : ∀ c, c < C → a c ≤ 5) (hb : ∀ c, c < C → b c ≤ 5) {c : Nat} (hc : c < C) (he : ∀ i, i < c → a i = b i) (h : mf_dg (a c) < mf_dg (b c)) : mf_act C mf_bc a < mf_act C mf_bc b := by
  rw [mf_act_dg, mf_act_dg]
  have dl : ∀ x, x ≤ 5 → 1 ≤ mf_dg x ∧ mf_dg x ≤ 6 := by
    intro x hx
    unfold mf_dg
    split <;> omega
  have e1 : ∀ f : Nat → Nat, mf_sm C (fun i => (mf_dg (f i) - 6) * mf_w i) = mf_sm c (fun i => (mf_dg (f i) - 6) * mf_w i) + ((mf_dg (f c) - 6) * mf_w c + mf_sm (C - 1 - c) (fun i => (mf_dg (f (c + 1 + i)) - 6) * mf_w (c + 1 + i))) := by
    intro f
    have : C = c + (1 + (C - 1 - c)) := by omega
    rw [this, mf_sm_split, mf_sm_split, mf_sm_s, mf_sm_0]
    simp only [Nat.add_zero, Int.zero_add]
    congr 2
    rw [show c + (1 + (C - 1 - c)) - 1 - c = C - 1 - c from by omega]
    exact mf_sm_congr (fun i _ => by rw [show c + (1 + i) = c + 1 + i from by omega])
  rw [e1 a, e1 b, mf_sm_congr (fun i hi => by rw [he i hi])]
  have h1 : (mf_dg (a c) - 6) * mf_w c + mf_w c ≤ (mf_dg (b c) - 6) * mf_w c := by
    have : (mf_dg (a c) - 6 + 1) * mf_w c ≤ (mf_dg (b c) - 6) * mf_w c := Int.mul_le_mul_of_nonneg_right (by omega) (Int.le_of_lt (mf_w_pos c))
    rw [Int.add_mul] at this
    omega
  by_cases hn : C - 1 - c = 0
  · rw [hn, mf_sm_0, mf_sm_0]
    have := mf_w_pos c
    omega
  · have h2 : mf_sm (C - 1 - c) (fun i => (mf_dg (a (c + 1 + i)) - 6) * mf_w (c + 1 + i)) - mf_sm (C - 1 - c) (fun i => (mf_dg (b (c + 1 + i)) - 6) * mf_w (c + 1 + i)) ≤ 6 * mf_w (c + 1) - mf_w (C - 1) := by
      rw [← mf_sm_sub]
      have := mf_tail hC (fun i => if i < C then mf_dg (a i) - mf_dg (b i) else 0) (fun i hi => by
        rw [if_pos hi]
        have := dl _ (ha i hi)
        have := dl _ (hb i hi)
        omega) (C - 1 - c) (c + 1) (by omega) (by omega)
      refine Int.le_trans (Int.le_of_eq (mf_sm_congr (fun i hi => ?_))) this
      rw [if_pos (by omega), ← Int.sub_mul]
      congr 1
      omega
    have h3 := mf_w_s (c := c) (by omega)
    have h4 := mf_w_pos (C - 1)
    omega
