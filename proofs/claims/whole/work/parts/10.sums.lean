/-! sums over 0 .. n-1, of integers; updates of functions -/
def mf_sm (n : Nat) (F : Nat → Int) : Int := match n with
  | 0 => 0
  | k + 1 => mf_sm k F + F k
def mf_up {α : Type} (f : Nat → α) (k : Nat) (v : α) : Nat → α := fun j => if j = k then v else f j
theorem mf_up_s {α : Type} (f : Nat → α) (k : Nat) (v : α) : mf_up f k v k = v := if_pos rfl
theorem mf_up_n {α : Type} (f : Nat → α) {k j : Nat} (v : α) (h : j ≠ k) : mf_up f k v j = f j := if_neg h
theorem mf_sm_0 (F : Nat → Int) : mf_sm 0 F = 0 := rfl
theorem mf_sm_s (n : Nat) (F : Nat → Int) : mf_sm (n + 1) F = mf_sm n F + F n := rfl
theorem mf_sm_congr {n : Nat} {F G : Nat → Int} (h : ∀ k, k < n → F k = G k) : mf_sm n F = mf_sm n G := by
  induction n with
  | zero => rfl
  | succ n ih => rw [mf_sm_s, mf_sm_s, ih (fun k hk => h k (by omega)), h n (by omega)]
theorem mf_sm_add (n : Nat) (F G : Nat → Int) : mf_sm n (fun k => F k + G k) = mf_sm n F + mf_sm n G := by
  induction n with
  | zero => rfl
  | succ n ih => rw [mf_sm_s, mf_sm_s, mf_sm_s, ih]; omega
theorem mf_sm_sub (n : Nat) (F G : Nat → Int) : mf_sm n (fun k => F k - G k) = mf_sm n F - mf_sm n G := by
  induction n with
  | zero => rfl
  | succ n ih => rw [mf_sm_s, mf_sm_s, mf_sm_s, ih]; omega
theorem mf_sm_mul (n : Nat) (c : Int) (F : Nat → Int) : mf_sm n (fun k => c * F k) = c * mf_sm n F := by
  induction n with
  | zero => simp [mf_sm_0]
  | succ n ih => rw [mf_sm_s, mf_sm_s, ih, Int.mul_add]
theorem mf_sm_le {n : Nat} {F G : Nat → Int} (h : ∀ k, k < n → F k ≤ G k) : mf_sm n F ≤ mf_sm n G := by
  induction n with
  | zero => exact Int.le_refl _
  | succ n ih =>
    rw [mf_sm_s, mf_sm_s]
    have h1 := ih (fun k hk => h k (by omega))
    have h2 := h n (by omega)
    omega
theorem mf_sm_zero (n : Nat) : mf_sm n (fun _ => 0) = 0 := by
  induction n with
  | zero => rfl
  | succ n ih => rw [mf_sm_s, ih]; rfl
theorem mf_sm_nn {n : Nat} {F : Nat → Int} (h : ∀ k, k < n → 0 ≤ F k) : 0 ≤ mf_sm n F := by
  have := mf_sm_le (F := fun _ => 0) (G := F) h
  rw [mf_sm_zero] at this
  exact this
theorem mf_sm_z {n : Nat} {F : Nat → Int} (h : ∀ k, k < n → F k = 0) : mf_sm n F = 0 := by
  rw [mf_sm_congr (G := fun _ => 0) h, mf_sm_zero]
theorem mf_sm_swap (n m : Nat) (F : Nat → Nat → Int) : mf_sm n (fun i => mf_sm m (fun j => F i j)) = mf_sm m (fun j => mf_sm n (fun i => F i j)) := by
  induction n with
  | zero => rw [mf_sm_0]; exact (mf_sm_z (fun k _ => mf_sm_0 _)).symm
  | succ n ih =>
    rw [mf_sm_s, ih, ← mf_sm_add]
    exact mf_sm_congr (fun k _ => (mf_sm_s n (fun i => F i k)).symm)
theorem mf_sm_one {n a : Nat} (h : a < n) (F : Nat → Int) : mf_sm n (fun k => if a = k then F k else 0) = F a := by
  induction n with
  | zero => omega
  | succ n ih =>
    rw [mf_sm_s]
    by_cases e : a = n
    · subst e
      rw [mf_sm_z (fun k hk => if_neg (by omega))]
      simp
    · rw [ih (by omega), if_neg e]; omega
theorem mf_sm_split (i m : Nat) (F : Nat → Int) : mf_sm (i + m) F = mf_sm i F + mf_sm m (fun k => F (i + k)) := by
  induction m with
  | zero => rw [mf_sm_0]; simp
  | succ m ih => rw [← Nat.add_assoc, mf_sm_s, ih, mf_sm_s]; omega
/-- a single place of a sum is changed -/
theorem mf_sm_up {n a : Nat} (h : a < n) (c f : Nat → Int) (x : Int) : mf_sm n (fun k => c k * mf_up f a x k) = mf_sm n (fun k => c k * f k) + c a * (x - f a) := by
  have e : ∀ k, k < n → c k * mf_up f a x k = c k * f k + (if a = k then c k * (x - f k) else 0) := by
    intro k _
    by_cases e : a = k
    · subst e; rw [mf_up_s, if_pos rfl, Int.mul_sub]; omega
    · rw [mf_up_n _ _ (fun z => e z.symm), if_neg e]; omega
  rw [mf_sm_congr e, mf_sm_add, mf_sm_one h (fun k => c k * (x - f k))]
/-! a network: K ways, from fr to to; what comes in less what goes out -/
def mf_net (K : Nat) (fr to : Nat → Nat) (f : Nat → Int) (v : Nat) : Int := mf_sm K (fun k => (if to k = v then f k else 0) - (if fr k = v then f k else 0))
theorem mf_pot {K N : Nat} {fr to : Nat → Nat} (hN : ∀ k, k < K → fr k < N ∧ to k < N) (f : Nat → Int) (p : Nat → Int) :
    mf_sm K (fun k => f k * (p (to k) - p (fr k))) = mf_sm N (fun v => p v * mf_net K fr to f v) := by
  have e1 : ∀ v, v < N → p v * mf_net K fr to f v = mf_sm K (fun k => (if to k = v then p v * f k else 0) - (if fr k = v then p v * f k else 0)) := by
    intro v _
    rw [mf_net, ← mf_sm_mul]
    refine mf_sm_congr (fun k _ => ?_)
    rw [Int.mul_sub]
    by_cases h1 : to k = v <;> by_cases h2 : fr k = v <;> simp [h1, h2]
  rw [mf_sm_congr e1, mf_sm_swap]
  refine mf_sm_congr (fun k hk => ?_)
  rw [mf_sm_sub, mf_sm_one (hN k hk).2 (fun v => p v * f k), mf_sm_one (hN k hk).1 (fun v => p v * f k), Int.mul_sub, Int.mul_comm (f k), Int.mul_comm (f k)]
def mf_flow (K : Nat) (fr to : Nat → Nat) (cap : Nat → Int) (s t : Nat) (f : Nat → Int) (val : Int) : Prop :=
  (∀ k, k < K → 0 ≤ f k ∧ f k ≤ cap k) ∧ (∀ v, v ≠ s → v ≠ t → mf_net K fr to f v = 0) ∧ mf_net K fr to f t = val ∧ mf_net K fr to f s = - val
theorem mf_pot_flow {K N : Nat} {fr to : Nat → Nat} {cap : Nat → Int} {s t : Nat} {f : Nat → Int} {val : Int} (hN : ∀ k, k < K → fr k < N ∧ to k < N) (hs : s < N) (ht : t < N) (hst : s ≠ t)
    (hf : mf_flow K fr to cap s t f val) (p : Nat → Int) : mf_sm K (fun k => f k * (p (to k) - p (fr k))) = val * (p t - p s) := by
  rw [mf_pot hN]
  have e : ∀ v, v < N → p v * mf_net K fr to f v = (if t = v then p v * val else 0) + (if s = v then p v * (- val) else 0) := by
    intro v _
    by_cases h1 : v = t
    · subst h1
      rw [hf.2.2.1, if_pos rfl, if_neg hst]; omega
    · by_cases h2 : v = s
      · subst h2
        rw [hf.2.2.2, if_neg (fun z => h1 z.symm), if_pos rfl]; omega
      · rw [hf.2.1 v h2 h1, if_neg (fun z => h1 z.symm), if_neg (fun z => h2 z.symm)]; simp
  rw [mf_sm_congr e, mf_sm_add, mf_sm_one ht (fun v => p v * val), mf_sm_one hs (fun v => p v * (- val)), Int.mul_sub, Int.mul_comm val, Int.mul_comm val, Int.mul_neg]
  omega
theorem mf_nn {x y : Int} (h : (0 < x → 0 ≤ y) ∧ (x < 0 → y ≤ 0)) : 0 ≤ x * y := by
  by_cases h1 : 0 < x
  · exact Int.mul_nonneg (by omega) (h.1 h1)
  · by_cases h2 : x < 0
    · have h3 := h.2 h2
      have h4 : 0 ≤ (-x) * (-y) := Int.mul_nonneg (by omega) (by omega)
      rw [Int.neg_mul_neg] at h4
      exact h4
    · have h3 : x = 0 := by omega
      rw [h3]; simp
/-- the certificate: no way with room costs less than nothing -/
theorem mf_weak {K N : Nat} {fr to : Nat → Nat} {cap : Nat → Int} {s t : Nat} {f g : Nat → Int} {vf vg : Int} (hN : ∀ k, k < K → fr k < N ∧ to k < N) (hs : s < N) (ht : t < N) (hst : s ≠ t)
    (hf : mf_flow K fr to cap s t f vf) (hg : mf_flow K fr to cap s t g vg) (c p : Nat → Int)
    (h1 : ∀ k, k < K → f k < cap k → 0 ≤ c k + p (fr k) - p (to k)) (h2 : ∀ k, k < K → 0 < f k → c k + p (fr k) - p (to k) ≤ 0) :
    mf_sm K (fun k => c k * f k) + (vg - vf) * (p t - p s) ≤ mf_sm K (fun k => c k * g k) := by
  have e1 := mf_pot_flow hN hs ht hst hf p
  have e2 := mf_pot_flow hN hs ht hst hg p
  have h : 0 ≤ mf_sm K (fun k => (g k - f k) * (c k + p (fr k) - p (to k))) := by
    refine mf_sm_nn (fun k hk => mf_nn ⟨fun hx => h1 k hk ?_, fun hx => h2 k hk ?_⟩)
    · have := (hg.1 k hk).2; omega
    · have := (hg.1 k hk).1; omega
  have e3 : ∀ k, k < K → (g k - f k) * (c k + p (fr k) - p (to k)) = ((c k * g k - c k * f k) - g k * (p (to k) - p (fr k))) + f k * (p (to k) - p (fr k)) := by
    intro k _
    simp only [Int.mul_sub, Int.sub_mul, Int.mul_add, Int.mul_comm (c k)]
    omega
  rw [mf_sm_congr e3, mf_sm_add, mf_sm_sub, mf_sm_sub, e1, e2] at h
  rw [Int.sub_mul]
  omega
theorem mf_max {K N : Nat} {fr to : Nat → Nat} {cap : Nat → Int} {s t : Nat} {f g : Nat → Int} {vf vg : Int} (hN : ∀ k, k < K → fr k < N ∧ to k < N) (hs : s < N) (ht : t < N) (hst : s ≠ t)
    (hf : mf_flow K fr to cap s t f vf) (hg : mf_flow K fr to cap s t g vg) (S : Nat → Bool) (hS : S s = true) (hT : S t = false)
    (h1 : ∀ k, k < K → f k < cap k → S (fr k) = true → S (to k) = true) (h2 : ∀ k, k < K → 0 < f k → S (to k) = true → S (fr k) = true) : vg ≤ vf := by
  have h := mf_weak hN hs ht hst hf hg (fun _ => 0) (fun v => if S v = true then 0 else 1)
    (fun k hk hr => by
      have := h1 k hk hr
      by_cases a : S (fr k) = true
      · simp [a, this a]
      · by_cases b : S (to k) = true <;> simp [a, b])
    (fun k hk hr => by
      have := h2 k hk hr
      by_cases a : S (to k) = true
      · simp [a, this a]
      · by_cases b : S (fr k) = true <;> simp [a, b])
  rw [mf_sm_z (fun k _ => Int.zero_mul _), mf_sm_z (fun k _ => Int.zero_mul _)] at h
  simp [hS, hT] at h
  omega
theorem mf_cheap {K N : Nat} {fr to : Nat → Nat} {cap : Nat → Int} {s t : Nat} {f g : Nat → Int} {vf : Int} (hN : ∀ k, k < K → fr k < N ∧ to k < N) (hs : s < N) (ht : t < N) (hst : s ≠ t)
    (hf : mf_flow K fr to cap s t f vf) (hg : mf_flow K fr to cap s t g vf) (c p : Nat → Int)
    (h1 : ∀ k, k < K → f k < cap k → 0 ≤ c k + p (fr k) - p (to k)) (h2 : ∀ k, k < K → 0 < f k → c k + p (fr k) - p (to k) ≤ 0) :
    mf_sm K (fun k => c k * f k) ≤ mf_sm K (fun k => c k * g k) := by
  have h := mf_weak hN hs ht hst hf hg c p h1 h2
  simp at h
  exact h
