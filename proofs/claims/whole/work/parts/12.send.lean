/-! units are sent one by one, each by a cheapest way; what that keeps -/
theorem mf_net_congr {K : Nat} {fr to : Nat → Nat} {f g : Nat → Int} (h : ∀ k, k < K → f k = g k) (v : Nat) : mf_net K fr to f v = mf_net K fr to g v :=
  mf_sm_congr (fun k hk => by rw [h k hk])
theorem mf_net_up {K : Nat} {fr to : Nat → Nat} {f : Nat → Int} {k : Nat} (hk : k < K) (x : Int) (v : Nat) :
    mf_net K fr to (mf_up f k (f k + x)) v = mf_net K fr to f v + (if to k = v then x else 0) - (if fr k = v then x else 0) := by
  have e : ∀ i, i < K → (if to i = v then mf_up f k (f k + x) i else 0) - (if fr i = v then mf_up f k (f k + x) i else 0) =
      ((if to i = v then f i else 0) - (if fr i = v then f i else 0)) + (if k = i then (if to i = v then x else 0) - (if fr i = v then x else 0) else 0) := by
    intro i _
    by_cases e : i = k
    · subst e
      rw [mf_up_s, if_pos rfl]
      by_cases h1 : to i = v <;> by_cases h2 : fr i = v <;> simp [h1, h2] <;> omega
    · rw [mf_up_n _ _ e, if_neg (show ¬ k = i from fun z => e z.symm)]; omega
  unfold mf_net
  rw [mf_sm_congr e, mf_sm_add, mf_sm_one hk (fun i => (if to i = v then x else 0) - (if fr i = v then x else 0))]
  omega
def mf_mt (a : Nat) : Nat := if a % 2 = 0 then a + 1 else a - 1
theorem mf_mt_e (k : Nat) : mf_mt (2 * k) = 2 * k + 1 := by unfold mf_mt; rw [if_pos (by omega)]
theorem mf_mt_o (k : Nat) : mf_mt (2 * k + 1) = 2 * k := by unfold mf_mt; rw [if_neg (by omega)]; omega
theorem mf_mt_lt {K a : Nat} (h : a < 2 * K) : mf_mt a < 2 * K := by unfold mf_mt; split <;> omega
theorem mf_mt_ne (a : Nat) : mf_mt a ≠ a := by unfold mf_mt; split <;> omega
theorem mf_mt_mt (a : Nat) : mf_mt (mf_mt a) = a := by
  unfold mf_mt
  split
  · rw [if_neg (by omega)]; omega
  · rw [if_pos (by omega)]; omega
theorem mf_eo {K a : Nat} (h : a < 2 * K) : ∃ k, k < K ∧ (a = 2 * k ∨ a = 2 * k + 1) := ⟨a / 2, by omega, by omega⟩
/-- beside each arc lies its mate -/
def mf_M (K : Nat) (ab ae : Nat → Nat) (ap : Nat → Int) : Prop := ∀ a, a < 2 * K → ab (mf_mt a) = ae a ∧ ae (mf_mt a) = ab a ∧ ap (mf_mt a) = - ap a
def mf_fl (rm : Nat → Int) : Nat → Int := fun k => rm (2 * k + 1)
def mf_one (rm : Nat → Int) (a : Nat) : Nat → Int := mf_up (mf_up rm a (rm a - 1)) (mf_mt a) (mf_up rm a (rm a - 1) (mf_mt a) + 1)
theorem mf_one_a (rm : Nat → Int) (a : Nat) : mf_one rm a a = rm a - 1 := by
  unfold mf_one; rw [mf_up_n _ _ (fun z => mf_mt_ne a z.symm), mf_up_s]
theorem mf_one_m (rm : Nat → Int) (a : Nat) : mf_one rm a (mf_mt a) = rm (mf_mt a) + 1 := by
  unfold mf_one; rw [mf_up_s, mf_up_n _ _ (mf_mt_ne a)]
theorem mf_one_o (rm : Nat → Int) (a : Nat) {i : Nat} (h1 : i ≠ a) (h2 : i ≠ mf_mt a) : mf_one rm a i = rm i := by
  unfold mf_one; rw [mf_up_n _ _ h2, mf_up_n _ _ h1]
theorem mf_one_fl (rm : Nat → Int) (k : Nat) : (∀ i, mf_fl (mf_one rm (2 * k)) i = mf_up (mf_fl rm) k (mf_fl rm k + 1) i) ∧ (∀ i, mf_fl (mf_one rm (2 * k + 1)) i = mf_up (mf_fl rm) k (mf_fl rm k + (-1)) i) := by
  refine ⟨fun i => ?_, fun i => ?_⟩
  · by_cases e : i = k
    · subst e; rw [mf_up_s]; show mf_one rm (2 * i) (2 * i + 1) = _; rw [← mf_mt_e, mf_one_m]; show _ = rm _ + 1; rw [mf_mt_e]
    · rw [mf_up_n _ _ e]; show mf_one rm (2 * k) (2 * i + 1) = rm (2 * i + 1); rw [mf_one_o _ _ (by omega) (by rw [mf_mt_e]; omega)]
  · by_cases e : i = k
    · subst e; rw [mf_up_s]; show mf_one rm (2 * i + 1) (2 * i + 1) = _; rw [mf_one_a]; show _ = rm _ + (-1); omega
    · rw [mf_up_n _ _ e]; show mf_one rm (2 * k + 1) (2 * i + 1) = rm (2 * i + 1); rw [mf_one_o _ _ (by omega) (by rw [mf_mt_o]; omega)]
theorem mf_push {K : Nat} {ab ae : Nat → Nat} {ap : Nat → Int} (hM : mf_M K ab ae ap) (rm : Nat → Int) {a : Nat} (ha : a < 2 * K) :
    (∀ v, mf_net K (fun k => ab (2 * k)) (fun k => ae (2 * k)) (mf_fl (mf_one rm a)) v = mf_net K (fun k => ab (2 * k)) (fun k => ae (2 * k)) (mf_fl rm) v + (if ae a = v then 1 else 0) - (if ab a = v then 1 else 0)) ∧
    mf_sm K (fun k => ap (2 * k) * mf_fl (mf_one rm a) k) = mf_sm K (fun k => ap (2 * k) * mf_fl rm k) + ap a ∧
    (∀ k, mf_one rm a (2 * k) + mf_one rm a (2 * k + 1) = rm (2 * k) + rm (2 * k + 1)) := by
  obtain ⟨k, hk, e⟩ := mf_eo ha
  obtain ⟨f1, f2⟩ := mf_one_fl rm k
  have hs : ∀ j, mf_one rm a (2 * j) + mf_one rm a (2 * j + 1) = rm (2 * j) + rm (2 * j + 1) := by
    intro j
    by_cases ej : j = k
    · subst ej
      rcases e with e | e
      · have g1 := mf_one_a rm a
        have g2 := mf_one_m rm a
        rw [e, mf_mt_e] at g2
        rw [e] at g1 ⊢
        omega
      · have g1 := mf_one_a rm a
        have g2 := mf_one_m rm a
        rw [e, mf_mt_o] at g2
        rw [e] at g1 ⊢
        omega
    · have n1 : 2 * j ≠ a ∧ 2 * j ≠ mf_mt a ∧ 2 * j + 1 ≠ a ∧ 2 * j + 1 ≠ mf_mt a := by
        rcases e with e | e
        · rw [e, mf_mt_e]; omega
        · rw [e, mf_mt_o]; omega
      rw [mf_one_o _ _ n1.1 n1.2.1, mf_one_o _ _ n1.2.2.1 n1.2.2.2]
  rcases e with e | e
  · subst e
    refine ⟨fun v => ?_, ?_, hs⟩
    · rw [mf_net_congr (fun i _ => f1 i), mf_net_up hk]
    · rw [mf_sm_congr (fun i _ => by rw [f1 i]), mf_sm_up hk (fun k => ap (2 * k))]
      rw [show mf_fl rm k + 1 - mf_fl rm k = 1 from by omega, Int.mul_one]
  · subst e
    obtain ⟨m1, m2, m3⟩ := hM _ ha
    rw [mf_mt_o] at m1 m2 m3
    refine ⟨fun v => ?_, ?_, hs⟩
    · rw [mf_net_congr (fun i _ => f2 i), mf_net_up hk, m1, m2]
      by_cases h1 : ae (2 * k + 1) = v <;> by_cases h2 : ab (2 * k + 1) = v <;> simp [h1, h2] <;> omega
    · rw [mf_sm_congr (fun i _ => by rw [f2 i]), mf_sm_up hk (fun k => ap (2 * k))]
      rw [show mf_fl rm k + (-1) - mf_fl rm k = -1 from by omega, m3]
      omega
def mf_tk (ab ar : Nat → Nat) (s : Nat) (n : Nat) (q : (Nat → Int) × Nat) : (Nat → Int) × Nat := match n with
  | 0 => q
  | k + 1 => if q.2 ≠ s then mf_tk ab ar s k (mf_one q.1 (ar q.2), ab (ar q.2)) else q
def mf_ch (ab ar : Nat → Nat) (s : Nat) (m v : Nat) : Prop := match m with
  | 0 => v = s
  | k + 1 => v ≠ s ∧ mf_ch ab ar s k (ab (ar v))
def mf_it (ab ar : Nat → Nat) (v : Nat) (i : Nat) : Nat := match i with
  | 0 => v
  | k + 1 => ab (ar (mf_it ab ar v k))
/-- what the search leaves, by names: each place reached but the first has a tight arc from one of lesser rank -/
def mf_Z (N A : Nat) (ab ae : Nat → Nat) (ap rm : Nat → Int) (s : Nat) (FAR : Int) (d : Nat → Int) (ar T : Nat → Nat) : Prop :=
  d s = 0 ∧ ∀ v, v < N → v ≠ s → d v ≠ FAR → ar v < A ∧ 0 < rm (ar v) ∧ ae (ar v) = v ∧ ab (ar v) < N ∧ d (ab (ar v)) ≠ FAR ∧ d v = d (ab (ar v)) + ap (ar v) ∧ T (ab (ar v)) < T v
theorem mf_Z_of {N A : Nat} {ab ae : Nat → Nat} {ap rm : Nat → Int} {s : Nat} {FAR P : Int} {p d : Nat → Int} {ar T : Nat → Nat} {now : Nat} {b : Int} (hH : mf_H N A ab ae ap rm s P p)
    (hB : mf_B N A ab ae ap rm s FAR p d ar T now b) (hx : mf_fix A ab ae ap rm FAR d) : mf_Z N A ab ae ap rm s FAR d ar T := by
  refine ⟨hB.1, fun v hv hs hd => ?_⟩
  obtain ⟨h1, h2, h3, h4, h5, h6⟩ := hB.2.2.1 v hv hs hd
  have h7 := (hx _ h1 h2 h4).2
  rw [h3] at h7
  have h8 : d v = d (ab (ar v)) + ap (ar v) := by omega
  exact ⟨h1, h2, h3, (hH.1 _ h1).1, h4, h8, h6 h8⟩
theorem mf_ch_ex {N A : Nat} {ab ae : Nat → Nat} {ap rm : Nat → Int} {s : Nat} {FAR : Int} {d : Nat → Int} {ar T : Nat → Nat} (hZ : mf_Z N A ab ae ap rm s FAR d ar T) :
    ∀ (b v : Nat), T v ≤ b → v < N → d v ≠ FAR → ∃ m, mf_ch ab ar s m v := by
  intro b
  induction b with
  | zero =>
    intro v hb hv hd
    by_cases e : v = s
    · exact ⟨0, e⟩
    · obtain ⟨-, -, -, -, -, -, h⟩ := hZ.2 v hv e hd; omega
  | succ b ih =>
    intro v hb hv hd
    by_cases e : v = s
    · exact ⟨0, e⟩
    · obtain ⟨-, -, -, h1, h2, -, h⟩ := hZ.2 v hv e hd
      obtain ⟨m, hm⟩ := ih _ (by omega) h1 h2
      exact ⟨m + 1, e, hm⟩
theorem mf_ch_it {N A : Nat} {ab ae : Nat → Nat} {ap rm : Nat → Int} {s : Nat} {FAR : Int} {d : Nat → Int} {ar T : Nat → Nat} (hZ : mf_Z N A ab ae ap rm s FAR d ar T) {v : Nat} (hv : v < N) (hd : d v ≠ FAR) :
    ∀ (i m : Nat), mf_ch ab ar s m v → i ≤ m → mf_it ab ar v i < N ∧ d (mf_it ab ar v i) ≠ FAR ∧ mf_ch ab ar s (m - i) (mf_it ab ar v i) ∧ (∀ j, j < i → T (mf_it ab ar v i) < T (mf_it ab ar v j)) := by
  intro i
  induction i with
  | zero => intro m hm _; exact ⟨hv, hd, hm, fun j hj => absurd hj (Nat.not_lt_zero j)⟩
  | succ i ih =>
    intro m hm hi
    obtain ⟨h1, h2, h3, h4⟩ := ih m hm (by omega)
    rw [show m - i = (m - (i + 1)) + 1 from by omega] at h3
    obtain ⟨g1, g2⟩ := h3
    obtain ⟨-, -, -, k1, k2, -, k3⟩ := hZ.2 _ h1 g1 h2
    refine ⟨k1, k2, g2, fun j hj => ?_⟩
    by_cases e : j = i
    · subst e; exact k3
    · exact Nat.lt_trans k3 (h4 j (by omega))
theorem mf_ch_lt {N A : Nat} {ab ae : Nat → Nat} {ap rm : Nat → Int} {s : Nat} {FAR : Int} {d : Nat → Int} {ar T : Nat → Nat} (hZ : mf_Z N A ab ae ap rm s FAR d ar T) {v : Nat} (hv : v < N) (hd : d v ≠ FAR) {m : Nat} (hm : mf_ch ab ar s m v) : m < N := by
  refine Nat.lt_of_not_le (fun hle => ?_)
  obtain ⟨i, j, h1, h2, h3⟩ := mf_pigeon N (mf_it ab ar v) (fun i hi => (mf_ch_it hZ hv hd i m hm (by omega)).1)
  have h4 := (mf_ch_it hZ hv hd j m hm (by omega)).2.2.2 i h1
  rw [h3] at h4
  omega
theorem mf_tk_ok {N K : Nat} {ab ae : Nat → Nat} {ap rm : Nat → Int} {s : Nat} {FAR : Int} {d : Nat → Int} {ar T : Nat → Nat} (hM : mf_M K ab ae ap) (hZ : mf_Z N (2 * K) ab ae ap rm s FAR d ar T) :
    ∀ (m n v : Nat) (r : Nat → Int), m ≤ n → mf_ch ab ar s m v → v < N → d v ≠ FAR → (∀ a, a < 2 * K → 0 ≤ r a) → (∀ a, a < 2 * K → r a < rm a → T v < T (ae a)) →
      (∀ a, a < 2 * K → 0 < r a → 0 < rm a ∨ ∃ u, u < N ∧ u ≠ s ∧ d u ≠ FAR ∧ mf_mt a = ar u) →
      (mf_tk ab ar s n (r, v)).2 = s ∧ (∀ a, a < 2 * K → 0 ≤ (mf_tk ab ar s n (r, v)).1 a) ∧
      (∀ a, a < 2 * K → 0 < (mf_tk ab ar s n (r, v)).1 a → 0 < rm a ∨ ∃ u, u < N ∧ u ≠ s ∧ d u ≠ FAR ∧ mf_mt a = ar u) ∧
      (∀ x, mf_net K (fun k => ab (2 * k)) (fun k => ae (2 * k)) (mf_fl (mf_tk ab ar s n (r, v)).1) x = mf_net K (fun k => ab (2 * k)) (fun k => ae (2 * k)) (mf_fl r) x + (if v = x then 1 else 0) - (if s = x then 1 else 0)) ∧
      mf_sm K (fun k => ap (2 * k) * mf_fl (mf_tk ab ar s n (r, v)).1 k) = mf_sm K (fun k => ap (2 * k) * mf_fl r k) + d v ∧
      (∀ k, (mf_tk ab ar s n (r, v)).1 (2 * k) + (mf_tk ab ar s n (r, v)).1 (2 * k + 1) = r (2 * k) + r (2 * k + 1)) := by
  intro m
  induction m with
  | zero =>
    intro n v r _ hc hv hd h1 h2 h3
    have hvs : v = s := hc
    subst hvs
    have e : mf_tk ab ar v n (r, v) = (r, v) := by
      cases n with
      | zero => rfl
      | succ n => show (if v ≠ v then _ else _) = _; rw [if_neg (fun z => z rfl)]
    rw [e]
    exact ⟨rfl, h1, h3, fun x => by dsimp only; omega, by dsimp only; rw [hZ.1]; omega, fun _ => rfl⟩
  | succ m ih =>
    intro n v r hn hc hv hd h1 h2 h3
    obtain ⟨hvs, hc2⟩ := hc
    obtain ⟨z1, z2, z3, z4, z5, z6, z7⟩ := hZ.2 v hv hvs hd
    cases n with
    | zero => omega
    | succ n =>
      have e : mf_tk ab ar s (n + 1) (r, v) = mf_tk ab ar s n (mf_one r (ar v), ab (ar v)) := by
        show (if v ≠ s then _ else _) = _; rw [if_pos hvs]
      rw [e]
      obtain ⟨p1, p2, p3⟩ := mf_push hM r z1
      have hra : rm (ar v) ≤ r (ar v) := by
        refine Int.not_lt.mp (fun hlt => ?_)
        have := h2 _ z1 hlt
        rw [z3] at this
        omega
      obtain ⟨g1, g2, g3, g4, g5, g6⟩ := ih n (ab (ar v)) (mf_one r (ar v)) (by omega) hc2 z4 z5
        (fun a ha => by
          by_cases e1 : a = ar v
          · subst e1; rw [mf_one_a]; omega
          · by_cases e2 : a = mf_mt (ar v)
            · subst e2; rw [mf_one_m]; have := h1 _ ha; omega
            · rw [mf_one_o _ _ e1 e2]; exact h1 a ha)
        (fun a ha hlt => by
          by_cases e1 : a = ar v
          · subst e1; rw [z3]; exact z7
          · by_cases e2 : a = mf_mt (ar v)
            · subst e2; rw [mf_one_m] at hlt; exact Nat.lt_trans z7 (h2 _ ha (by omega))
            · rw [mf_one_o _ _ e1 e2] at hlt; exact Nat.lt_trans z7 (h2 a ha hlt))
        (fun a ha hp => by
          by_cases e1 : a = ar v
          · subst e1; exact Or.inl z2
          · by_cases e2 : a = mf_mt (ar v)
            · subst e2; exact Or.inr ⟨v, hv, hvs, hd, mf_mt_mt _⟩
            · rw [mf_one_o _ _ e1 e2] at hp; exact h3 a ha hp)
      refine ⟨g1, g2, g3, fun x => ?_, ?_, fun k => ?_⟩
      · rw [g4 x, p1 x, z3]; omega
      · rw [g5, p2]; omega
      · rw [g6 k, p3 k]
/-- the invariant of the sending -/
def mf_I (N K : Nat) (ab ae : Nat → Nat) (ap : Nat → Int) (cap : Nat → Int) (s t : Nat) (P : Int) (rm : Nat → Int) (paid val : Int) : Prop :=
  (∃ p, mf_H N (2 * K) ab ae ap rm s P p) ∧ (∀ a, a < 2 * K → 0 ≤ rm a) ∧ (∀ k, k < K → rm (2 * k) + rm (2 * k + 1) = cap k) ∧
  (∀ v, v ≠ s → v ≠ t → mf_net K (fun k => ab (2 * k)) (fun k => ae (2 * k)) (mf_fl rm) v = 0) ∧ mf_net K (fun k => ab (2 * k)) (fun k => ae (2 * k)) (mf_fl rm) t = val ∧
  mf_net K (fun k => ab (2 * k)) (fun k => ae (2 * k)) (mf_fl rm) s = - val ∧ mf_sm K (fun k => ap (2 * k) * mf_fl rm k) = paid
theorem mf_big (F : Nat → Int) : ∀ n : Nat, ∃ B : Int, ∀ a, a < n → 0 ≤ F a + B
  | 0 => ⟨0, fun a h => absurd h (Nat.not_lt_zero a)⟩
  | n + 1 => by
    obtain ⟨B, hB⟩ := mf_big F n
    by_cases h : - F n ≤ B
    · refine ⟨B, fun a ha => ?_⟩
      by_cases e : a = n
      · subst e; omega
      · exact hB a (by omega)
    · refine ⟨- F n, fun a ha => ?_⟩
      by_cases e : a = n
      · subst e; omega
      · have := hB a (by omega); omega
theorem mf_newp {N K : Nat} {ab ae : Nat → Nat} {ap rm r : Nat → Int} {s : Nat} {FAR P : Int} {p d : Nat → Int} {ar T : Nat → Nat} (hH : mf_H N (2 * K) ab ae ap rm s P p) (hM : mf_M K ab ae ap)
    (hx : mf_fix (2 * K) ab ae ap rm FAR d) (hZ : mf_Z N (2 * K) ab ae ap rm s FAR d ar T) (hr : ∀ a, a < 2 * K → 0 < r a → 0 < rm a ∨ ∃ u, u < N ∧ u ≠ s ∧ d u ≠ FAR ∧ mf_mt a = ar u) :
    ∃ p', mf_H N (2 * K) ab ae ap r s P p' := by
  obtain ⟨B, hB⟩ := mf_big (fun a => ap a + p (ab a) - d (ae a)) (2 * K)
  refine ⟨fun v => if d v ≠ FAR then d v else p v + B, hH.1, hH.2.1, fun a ha hra => ?_, hH.2.2.2⟩
  dsimp only
  rcases hr a ha hra with h | ⟨u, u1, u2, u3, u4⟩
  · by_cases e : d (ab a) ≠ FAR
    · obtain ⟨g1, g2⟩ := hx a ha h e
      rw [if_pos e, if_pos g1]; omega
    · rw [if_neg e]
      by_cases e2 : d (ae a) ≠ FAR
      · rw [if_pos e2]; have := hB a ha; omega
      · rw [if_neg e2]; have := hH.2.2.1 a ha h; omega
  · obtain ⟨z1, z2, z3, z4, z5, z6, z7⟩ := hZ.2 u u1 u2 u3
    obtain ⟨m1, m2, m3⟩ := hM a ha
    rw [u4] at m1 m2 m3
    rw [z3] at m2
    rw [m1] at z5 z6
    rw [← m2, if_pos u3, if_pos z5]
    omega
theorem mf_step {N K : Nat} {ab ae : Nat → Nat} {ap cap rm : Nat → Int} {s t : Nat} {FAR P : Int} {paid val : Int} (hM : mf_M K ab ae ap) (hI : mf_I N K ab ae ap cap s t P rm paid val) (ht : t < N) (hst : s ≠ t)
    (hF : (N : Int) * (((2 * K : Nat) : Int) * P) < FAR) (ar : Nat → Nat) (q : (Nat → Int) × (Nat → Nat) × Bool) (hq : q = mf_bf (2 * K) ab ae ap rm FAR N (mf_up (fun _ => FAR) s 0, ar, true)) :
    (q.1 t ≠ FAR → (mf_tk ab q.2.1 s N (rm, t)).2 = s ∧ mf_I N K ab ae ap cap s t P (mf_tk ab q.2.1 s N (rm, t)).1 (paid + q.1 t) (val + 1)) ∧
    (q.1 t = FAR → ∃ S : Nat → Bool, S s = true ∧ S t = false ∧ ∀ a, a < 2 * K → 0 < rm a → S (ab a) = true → S (ae a) = true) ∧ (∀ v, v < N → q.1 v ≠ FAR → v ≠ s → q.2.1 v < 2 * K) := by
  obtain ⟨⟨p, hH⟩, h2, h3, h4, h5, h6, h7⟩ := hI
  obtain ⟨T, now, b, hB, hb, hx⟩ := mf_search hH hF ar
  rw [← hq] at hB hx
  have hZ := mf_Z_of hH hB hx
  have hF0 : FAR ≠ 0 := by
    have := mf_np0 N (mf_np0 (2 * K) hH.2.2.2.2)
    omega
  refine ⟨fun hd => ?_, fun hd => ?_, fun v hv hd hs => (hZ.2 v hv hs hd).1⟩
  · obtain ⟨m, hm⟩ := mf_ch_ex hZ (T t) t (Nat.le_refl _) ht hd
    have hmN := mf_ch_lt hZ ht hd hm
    obtain ⟨g1, g2, g3, g4, g5, g6⟩ := mf_tk_ok hM hZ m N t rm (by omega) hm ht hd h2 (fun a _ h => absurd h (by omega)) (fun a _ h => Or.inl h)
    refine ⟨g1, mf_newp hH hM hx hZ g3, g2, fun k hk => by rw [g6 k, h3 k hk], fun v e1 e2 => ?_, ?_, ?_, ?_⟩
    · rw [g4 v, h4 v e1 e2, if_neg (fun z => e2 z.symm), if_neg (fun z => e1 z.symm)]; rfl
    · rw [g4 t, h5, if_pos rfl, if_neg hst]; omega
    · rw [g4 s, h6, if_neg (fun z => hst z.symm), if_pos rfl]; omega
    · rw [g5, h7]
  · refine ⟨fun v => decide (q.1 v ≠ FAR), ?_, ?_, fun a ha hr hs => ?_⟩
    · exact decide_eq_true (by rw [hZ.1]; exact fun z => hF0 z.symm)
    · exact decide_eq_false (fun z => z hd)
    · exact decide_eq_true (hx a ha hr (of_decide_eq_true hs)).1
/-- rm, arrival, paid, sent -/
def mf_send (N A : Nat) (ab ae : Nat → Nat) (ap : Nat → Int) (s t : Nat) (FAR : Int) (n : Nat) (q : (Nat → Int) × (Nat → Nat) × Int × Nat) : (Nat → Int) × (Nat → Nat) × Int × Nat := match n with
  | 0 => q
  | k + 1 =>
    if (mf_bf A ab ae ap q.1 FAR N (mf_up (fun _ => FAR) s 0, q.2.1, true)).1 t ≠ FAR then
      mf_send N A ab ae ap s t FAR k ((mf_tk ab (mf_bf A ab ae ap q.1 FAR N (mf_up (fun _ => FAR) s 0, q.2.1, true)).2.1 s N (q.1, t)).1, (mf_bf A ab ae ap q.1 FAR N (mf_up (fun _ => FAR) s 0, q.2.1, true)).2.1,
        q.2.2.1 + (mf_bf A ab ae ap q.1 FAR N (mf_up (fun _ => FAR) s 0, q.2.1, true)).1 t, q.2.2.2 + 1)
    else (q.1, (mf_bf A ab ae ap q.1 FAR N (mf_up (fun _ => FAR) s 0, q.2.1, true)).2.1, q.2.2.1, q.2.2.2)
theorem mf_send_ok {N K : Nat} {ab ae : Nat → Nat} {ap cap : Nat → Int} {s t : Nat} {FAR P : Int} (hM : mf_M K ab ae ap) (ht : t < N) (hst : s ≠ t) (hF : (N : Int) * (((2 * K : Nat) : Int) * P) < FAR) :
    ∀ (n : Nat) (q : (Nat → Int) × (Nat → Nat) × Int × Nat), mf_I N K ab ae ap cap s t P q.1 q.2.2.1 q.2.2.2 →
      mf_I N K ab ae ap cap s t P (mf_send N (2 * K) ab ae ap s t FAR n q).1 (mf_send N (2 * K) ab ae ap s t FAR n q).2.2.1 (mf_send N (2 * K) ab ae ap s t FAR n q).2.2.2 ∧
      ((mf_send N (2 * K) ab ae ap s t FAR n q).2.2.2 = q.2.2.2 + n ∨ ∃ S : Nat → Bool, S s = true ∧ S t = false ∧ ∀ a, a < 2 * K → 0 < (mf_send N (2 * K) ab ae ap s t FAR n q).1 a → S (ab a) = true → S (ae a) = true) := by
  intro n
  induction n with
  | zero => intro q hI; exact ⟨hI, Or.inl rfl⟩
  | succ n ih =>
    intro q hI
    obtain ⟨g1, g2, g3⟩ := mf_step hM hI ht hst hF q.2.1 _ rfl
    unfold mf_send
    by_cases e : (mf_bf (2 * K) ab ae ap q.1 FAR N (mf_up (fun _ => FAR) s 0, q.2.1, true)).1 t ≠ FAR
    · rw [if_pos e]
      obtain ⟨i1, i2⟩ := ih ((mf_tk ab (mf_bf (2 * K) ab ae ap q.1 FAR N (mf_up (fun _ => FAR) s 0, q.2.1, true)).2.1 s N (q.1, t)).1, (mf_bf (2 * K) ab ae ap q.1 FAR N (mf_up (fun _ => FAR) s 0, q.2.1, true)).2.1,
        q.2.2.1 + (mf_bf (2 * K) ab ae ap q.1 FAR N (mf_up (fun _ => FAR) s 0, q.2.1, true)).1 t, q.2.2.2 + 1) (by
          have := (g1 e).2
          dsimp only
          rw [Int.natCast_add]
          exact this)
      refine ⟨i1, ?_⟩
      rcases i2 with i2 | i2
      · left; rw [i2]; dsimp only; omega
      · exact Or.inr i2
    · rw [if_neg e]
      have e' := Classical.not_not.mp e
      exact ⟨hI, Or.inr (g2 e')⟩
/-- the end of a sending: greatest, and cheapest of its number -/
theorem mf_best {N K : Nat} {ab ae : Nat → Nat} {ap cap : Nat → Int} {s t : Nat} {P : Int} {rm : Nat → Int} {paid val : Int} (hM : mf_M K ab ae ap) (hI : mf_I N K ab ae ap cap s t P rm paid val) (ht : t < N) (hst : s ≠ t) :
    mf_flow K (fun k => ab (2 * k)) (fun k => ae (2 * k)) cap s t (mf_fl rm) val ∧
    (∀ g, mf_flow K (fun k => ab (2 * k)) (fun k => ae (2 * k)) cap s t g val → paid ≤ mf_sm K (fun k => ap (2 * k) * g k)) ∧
    ((∃ S : Nat → Bool, S s = true ∧ S t = false ∧ ∀ a, a < 2 * K → 0 < rm a → S (ab a) = true → S (ae a) = true) → ∀ g v, mf_flow K (fun k => ab (2 * k)) (fun k => ae (2 * k)) cap s t g v → v ≤ val) := by
  obtain ⟨⟨p, hH⟩, h2, h3, h4, h5, h6, h7⟩ := hI
  have hf : mf_flow K (fun k => ab (2 * k)) (fun k => ae (2 * k)) cap s t (mf_fl rm) val := by
    refine ⟨fun k hk => ?_, h4, h5, h6⟩
    have g1 := h2 (2 * k) (by omega)
    have g2 := h2 (2 * k + 1) (by omega)
    have g3 := h3 k hk
    show 0 ≤ rm (2 * k + 1) ∧ rm (2 * k + 1) ≤ cap k
    omega
  have hN : ∀ k, k < K → ab (2 * k) < N ∧ ae (2 * k) < N := fun k hk => hH.1 _ (by omega)
  refine ⟨hf, fun g hg => ?_, fun ⟨S, s1, s2, s3⟩ g v hg => ?_⟩
  · rw [← h7]
    refine mf_cheap (N := N) hN hH.2.1 ht hst hf hg (fun k => ap (2 * k)) p (fun k hk hlt => ?_) (fun k hk hlt => ?_)
    · have g3 := h3 k hk
      have g4 : mf_fl rm k = rm (2 * k + 1) := rfl
      exact hH.2.2.1 _ (by omega) (by omega)
    · have g4 : mf_fl rm k = rm (2 * k + 1) := rfl
      have g5 := hH.2.2.1 (2 * k + 1) (by omega) (by omega)
      obtain ⟨m1, m2, m3⟩ := hM (2 * k) (by omega)
      rw [mf_mt_e] at m1 m2 m3
      rw [m1, m2, m3] at g5
      omega
  · refine mf_max (N := N) hN hH.2.1 ht hst hf hg S s1 s2 (fun k hk hlt hs => ?_) (fun k hk hlt hs => ?_)
    · have g3 := h3 k hk
      have g4 : mf_fl rm k = rm (2 * k + 1) := rfl
      exact s3 _ (by omega) (by omega) hs
    · have g4 : mf_fl rm k = rm (2 * k + 1) := rfl
      obtain ⟨m1, m2, m3⟩ := hM (2 * k) (by omega)
      rw [mf_mt_e] at m1 m2
      have := s3 (2 * k + 1) (by omega) (by omega)
      rw [m1, m2] at this
      exact this hs
