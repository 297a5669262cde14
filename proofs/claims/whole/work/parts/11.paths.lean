/-! cheapest ways: a pass over all arcs shortens; N passes are enough -/
abbrev mf_cut (ab ae : Nat → Nat) (ap rm : Nat → Int) (FAR : Int) (d : Nat → Int) (a : Nat) : Prop := 0 < rm a ∧ d (ab a) ≠ FAR ∧ d (ab a) + ap a < d (ae a)
def mf_rx (ab ae : Nat → Nat) (ap rm : Nat → Int) (FAR : Int) (a : Nat) (q : (Nat → Int) × (Nat → Nat) × Bool) : (Nat → Int) × (Nat → Nat) × Bool :=
  if mf_cut ab ae ap rm FAR q.1 a then (mf_up q.1 (ae a) (q.1 (ab a) + ap a), mf_up q.2.1 (ae a) a, true) else q
def mf_ps (ab ae : Nat → Nat) (ap rm : Nat → Int) (FAR : Int) (n : Nat) (q : (Nat → Int) × (Nat → Nat) × Bool) : (Nat → Int) × (Nat → Nat) × Bool := match n with
  | 0 => q
  | k + 1 => mf_rx ab ae ap rm FAR k (mf_ps ab ae ap rm FAR k q)
def mf_bf (A : Nat) (ab ae : Nat → Nat) (ap rm : Nat → Int) (FAR : Int) (n : Nat) (q : (Nat → Int) × (Nat → Nat) × Bool) : (Nat → Int) × (Nat → Nat) × Bool := match n with
  | 0 => q
  | k + 1 => if q.2.2 = true then mf_bf A ab ae ap rm FAR k (mf_ps ab ae ap rm FAR A (q.1, q.2.1, false)) else q
def mf_nd (ae : Nat → Nat) (s : Nat) (w : Nat → Nat) (i : Nat) : Nat := match i with
  | 0 => s
  | k + 1 => ae (w k)
def mf_wk (A : Nat) (ab ae : Nat → Nat) (rm : Nat → Int) (s : Nat) (w : Nat → Nat) (n v : Nat) : Prop :=
  (∀ i, i < n → w i < A ∧ 0 < rm (w i) ∧ ab (w i) = mf_nd ae s w i) ∧ mf_nd ae s w n = v
def mf_wt (ap : Nat → Int) (w : Nat → Nat) (n : Nat) : Int := mf_sm n (fun i => ap (w i))
theorem mf_nd_up (ae : Nat → Nat) (s : Nat) (w : Nat → Nat) (n a i : Nat) (h : i ≤ n) : mf_nd ae s (mf_up w n a) i = mf_nd ae s w i := by
  cases i with
  | zero => rfl
  | succ k => show ae (mf_up w n a k) = ae (w k); rw [mf_up_n _ _ (by omega)]
theorem mf_wk_ext {A : Nat} {ab ae : Nat → Nat} {ap rm : Nat → Int} {s : Nat} {w : Nat → Nat} {n u a : Nat} (h : mf_wk A ab ae rm s w n u) (ha : a < A) (hr : 0 < rm a) (hu : ab a = u) :
    mf_wk A ab ae rm s (mf_up w n a) (n + 1) (ae a) ∧ mf_wt ap (mf_up w n a) (n + 1) = mf_wt ap w n + ap a := by
  refine ⟨⟨fun i hi => ?_, ?_⟩, ?_⟩
  · rw [mf_nd_up _ _ _ _ _ _ (by omega)]
    by_cases e : i = n
    · subst e; rw [mf_up_s]; exact ⟨ha, hr, hu.trans h.2.symm⟩
    · rw [mf_up_n _ _ e]; exact h.1 i (by omega)
  · show ae (mf_up w n a n) = ae a; rw [mf_up_s]
  · show mf_sm (n + 1) _ = _
    rw [mf_sm_s, mf_up_s, mf_wt]
    rw [mf_sm_congr (fun k hk => by rw [mf_up_n _ _ (by omega)])]
theorem mf_pigeon : ∀ (N : Nat) (f : Nat → Nat), (∀ i, i ≤ N → f i < N) → ∃ i j, i < j ∧ j ≤ N ∧ f i = f j
  | 0, f, h => absurd (h 0 (Nat.le_refl 0)) (Nat.not_lt_zero _)
  | N + 1, f, h => by
    by_cases e : ∃ i, i ≤ N ∧ f i = f (N + 1)
    · obtain ⟨i, h1, h2⟩ := e
      exact ⟨i, N + 1, by omega, Nat.le_refl _, h2⟩
    · have ne : ∀ i, i ≤ N → f i ≠ f (N + 1) := fun i hi z => e ⟨i, hi, z⟩
      have hl := h (N + 1) (Nat.le_refl _)
      obtain ⟨i, j, h1, h2, h3⟩ := mf_pigeon N (fun i => if f i = N then f (N + 1) else f i) (fun i hi => by
        have h4 := h i (by omega)
        have h5 := ne i hi
        show (if f i = N then f (N + 1) else f i) < N
        split <;> omega)
      refine ⟨i, j, h1, by omega, ?_⟩
      have n1 := ne i (by omega)
      have n2 := ne j h2
      split at h3 <;> split at h3 <;> omega
theorem mf_tel {A : Nat} {ab ae : Nat → Nat} {ap rm : Nat → Int} {s : Nat} {w : Nat → Nat} {n v : Nat} {p : Nat → Int} (h : mf_wk A ab ae rm s w n v)
    (hp : ∀ a, a < A → 0 < rm a → 0 ≤ ap a + p (ab a) - p (ae a)) (i : Nat) : ∀ m, i + m ≤ n → p (mf_nd ae s w (i + m)) - p (mf_nd ae s w i) ≤ mf_sm m (fun k => ap (w (i + k)))
  | 0, _ => by simp [mf_sm_0]
  | m + 1, hm => by
    have ih := mf_tel h hp i m (by omega)
    obtain ⟨h1, h2, h3⟩ := h.1 (i + m) (by omega)
    have h4 := hp _ h1 h2
    rw [h3] at h4
    have h5 : mf_nd ae s w (i + (m + 1)) = ae (w (i + m)) := rfl
    rw [h5, mf_sm_s]
    omega
theorem mf_short {N A : Nat} {ab ae : Nat → Nat} {ap rm : Nat → Int} {s : Nat} {p : Nat → Int} (hN : ∀ a, a < A → ab a < N ∧ ae a < N) (hs : s < N)
    (hp : ∀ a, a < A → 0 < rm a → 0 ≤ ap a + p (ab a) - p (ae a)) :
    ∀ (b n : Nat), n ≤ b → ∀ (w : Nat → Nat) (v : Nat), mf_wk A ab ae rm s w n v → ∃ w' n', n' < N ∧ mf_wk A ab ae rm s w' n' v ∧ mf_wt ap w' n' ≤ mf_wt ap w n := by
  intro b
  induction b with
  | zero => intro n hn w v h; exact ⟨w, n, by omega, h, Int.le_refl _⟩
  | succ b ih =>
    intro n hn w v h
    by_cases hlt : n < N
    · exact ⟨w, n, hlt, h, Int.le_refl _⟩
    · have hnd : ∀ i, i ≤ n → mf_nd ae s w i < N := by
        intro i hi
        cases i with
        | zero => exact hs
        | succ k => exact (hN _ (h.1 k (by omega)).1).2
      obtain ⟨i, j, h1, h2, h3⟩ := mf_pigeon N (mf_nd ae s w) (fun i hi => hnd i (by omega))
      have hw : ∀ k, k ≤ n - (j - i) → mf_nd ae s (fun k => if k < i then w k else w (k + (j - i))) k = if k ≤ i then mf_nd ae s w k else mf_nd ae s w (k + (j - i)) := by
        intro k hk
        cases k with
        | zero => simp [mf_nd]
        | succ k =>
          show ae (if k < i then w k else w (k + (j - i))) = _
          by_cases e : k < i
          · rw [if_pos e, if_pos (by omega)]; rfl
          · rw [if_neg e, if_neg (by omega), show k + 1 + (j - i) = (k + (j - i)) + 1 from by omega]; rfl
      obtain ⟨w2, n2, g1, g2, g3⟩ := ih (n - (j - i)) (by omega) (fun k => if k < i then w k else w (k + (j - i))) v (by
        refine ⟨fun k hk => ?_, ?_⟩
        · rw [hw k (by omega)]
          dsimp only
          by_cases e : k < i
          · rw [if_pos e, if_pos (by omega)]; exact h.1 k (by omega)
          · rw [if_neg e]
            by_cases e2 : k = i
            · subst e2
              rw [if_pos (Nat.le_refl _), h3, show k + (j - k) = j from by omega]
              exact h.1 j (by omega)
            · rw [if_neg (by omega)]; exact h.1 _ (by omega)
        · rw [hw _ (Nat.le_refl _)]
          by_cases e : n - (j - i) ≤ i
          · rw [if_pos e, show n - (j - i) = i from by omega, h3, show j = n from by omega]; exact h.2
          · rw [if_neg e, show n - (j - i) + (j - i) = n from by omega]; exact h.2)
      refine ⟨w2, n2, g1, g2, Int.le_trans g3 ?_⟩
      have ht := mf_tel (ap := ap) h hp i (j - i) (by omega)
      rw [show i + (j - i) = j from by omega, ← h3] at ht
      show mf_sm (n - (j - i)) _ ≤ mf_sm n _
      rw [show n - (j - i) = i + (n - j) from by omega, mf_sm_split, show n = (i + (j - i)) + (n - j) from by omega, mf_sm_split (i + (j - i)), mf_sm_split i (j - i)]
      have e1 : mf_sm i (fun k => ap (if k < i then w k else w (k + (j - i)))) = mf_sm i (fun k => ap (w k)) := mf_sm_congr (fun k hk => by rw [if_pos hk])
      have e2 : mf_sm (i + (j - i) + (n - j) - j) (fun k => ap (if i + k < i then w (i + k) else w (i + k + (j - i)))) = mf_sm (i + (j - i) + (n - j) - j) (fun k => ap (w (i + (j - i) + k))) :=
        mf_sm_congr (fun k hk => by rw [if_neg (by omega), show i + k + (j - i) = i + (j - i) + k from by omega])
      dsimp only
      rw [e1, e2, show i + (j - i) + (n - j) - j = n - j from by omega]
      omega
def mf_B (N A : Nat) (ab ae : Nat → Nat) (ap rm : Nat → Int) (s : Nat) (FAR : Int) (p : Nat → Int) (d : Nat → Int) (ar T : Nat → Nat) (now : Nat) (b : Int) : Prop :=
  d s = 0 ∧ (∀ v, v < N → d v ≠ FAR → p v - p s ≤ d v) ∧
  (∀ v, v < N → v ≠ s → d v ≠ FAR → ar v < A ∧ 0 < rm (ar v) ∧ ae (ar v) = v ∧ d (ab (ar v)) ≠ FAR ∧ d (ab (ar v)) + ap (ar v) ≤ d v ∧ (d v = d (ab (ar v)) + ap (ar v) → T (ab (ar v)) < T v)) ∧
  (∀ v, T v ≤ now) ∧ (∀ v, v < N → d v ≠ FAR → ∃ w n, mf_wk A ab ae rm s w n v ∧ mf_wt ap w n = d v) ∧
  (∀ v, v < N → d v ≠ FAR → - b ≤ d v ∧ d v ≤ b)
/-- what stays fixed while the ways are sought -/
def mf_H (N A : Nat) (ab ae : Nat → Nat) (ap rm : Nat → Int) (s : Nat) (P : Int) (p : Nat → Int) : Prop :=
  (∀ a, a < A → ab a < N ∧ ae a < N) ∧ s < N ∧ (∀ a, a < A → 0 < rm a → 0 ≤ ap a + p (ab a) - p (ae a)) ∧ (∀ a, a < A → - P ≤ ap a ∧ ap a ≤ P) ∧ 0 ≤ P
theorem mf_rx_B {N A : Nat} {ab ae : Nat → Nat} {ap rm : Nat → Int} {s : Nat} {FAR P : Int} {p : Nat → Int} (hH : mf_H N A ab ae ap rm s P p) {q : (Nat → Int) × (Nat → Nat) × Bool} {T : Nat → Nat} {now : Nat} {b : Int}
    (hB : mf_B N A ab ae ap rm s FAR p q.1 q.2.1 T now b) {a : Nat} (ha : a < A) (hb : b + P < FAR) :
    (∃ T', mf_B N A ab ae ap rm s FAR p (mf_rx ab ae ap rm FAR a q).1 (mf_rx ab ae ap rm FAR a q).2.1 T' (now + 1) (b + P)) ∧
    (∀ v, (mf_rx ab ae ap rm FAR a q).1 v ≤ q.1 v) ∧ (∀ v, v < N → q.1 v ≠ FAR → (mf_rx ab ae ap rm FAR a q).1 v ≠ FAR) ∧
    (0 < rm a → q.1 (ab a) ≠ FAR → (mf_rx ab ae ap rm FAR a q).1 (ae a) ≠ FAR ∧ (mf_rx ab ae ap rm FAR a q).1 (ae a) ≤ q.1 (ab a) + ap a) ∧
    ((mf_rx ab ae ap rm FAR a q).2.2 = false → q.2.2 = false ∧ mf_rx ab ae ap rm FAR a q = q) := by
  obtain ⟨d, ar, fl⟩ := q
  obtain ⟨h1, h2, h3, h4, h5, h6⟩ := hB
  obtain ⟨k1, k2, k3, k4, k5⟩ := hH
  obtain ⟨n1, n2⟩ := k1 a ha
  obtain ⟨m1, m2⟩ := k4 a ha
  dsimp only at h1 h2 h3 h5 h6
  unfold mf_rx
  dsimp only
  by_cases hc : mf_cut ab ae ap rm FAR d a
  · rw [if_pos hc]
    obtain ⟨c1, c2, c3⟩ := hc
    have c4 := k3 a ha c1
    have c5 := h2 _ n1 c2
    have c6 := h6 _ n1 c2
    have x1 : d (ab a) + ap a ≠ FAR := by omega
    have vs : ae a ≠ s := by
      intro e
      rw [e] at c3 c4
      omega
    have uv : ab a ≠ ae a := by
      intro e
      rw [e] at c3 c4
      omega
    refine ⟨⟨mf_up T (ae a) (now + 1), ?_, ?_, ?_, ?_, ?_, ?_⟩, ?_, ?_, ?_, ?_⟩
    · dsimp only; rw [mf_up_n _ _ (fun e => vs e.symm)]; exact h1
    · intro v hv
      dsimp only
      by_cases e : v = ae a
      · subst e; rw [mf_up_s]; intro _; omega
      · rw [mf_up_n _ _ e]; exact h2 v hv
    · intro v hv hvs
      dsimp only
      by_cases e : v = ae a
      · subst e
        rw [mf_up_s, mf_up_s, mf_up_s]
        intro _
        refine ⟨ha, c1, rfl, ?_, ?_, fun _ => ?_⟩
        · rw [mf_up_n _ _ uv]; exact c2
        · rw [mf_up_n _ _ uv]; exact Int.le_refl _
        · rw [mf_up_n _ _ uv]; exact Nat.lt_succ_of_le (h4 _)
      · rw [mf_up_n _ _ e, mf_up_n _ _ e, mf_up_n _ _ e]
        intro hd
        obtain ⟨g1, g2, g3, g4, g5, g6⟩ := h3 v hv hvs hd
        by_cases e2 : ab (ar v) = ae a
        · rw [e2] at g5 ⊢
          rw [mf_up_s]
          refine ⟨g1, g2, g3, x1, by omega, fun z => ?_⟩
          exfalso; omega
        · rw [mf_up_n _ _ e2, mf_up_n _ _ e2]
          exact ⟨g1, g2, g3, g4, g5, g6⟩
    · intro v
      by_cases e : v = ae a
      · subst e; rw [mf_up_s]; exact Nat.le_refl _
      · rw [mf_up_n _ _ e]; exact Nat.le_succ_of_le (h4 v)
    · intro v hv
      dsimp only
      by_cases e : v = ae a
      · subst e
        rw [mf_up_s]
        intro _
        obtain ⟨w, n, w1, w2⟩ := h5 _ n1 c2
        obtain ⟨y1, y2⟩ := mf_wk_ext (ap := ap) w1 ha c1 rfl
        exact ⟨_, _, y1, by rw [y2, w2]⟩
      · rw [mf_up_n _ _ e]; exact h5 v hv
    · intro v hv
      dsimp only
      by_cases e : v = ae a
      · subst e; rw [mf_up_s]; intro _; omega
      · rw [mf_up_n _ _ e]; intro hd; have := h6 v hv hd; omega
    · intro v
      dsimp only
      by_cases e : v = ae a
      · subst e; rw [mf_up_s]; omega
      · rw [mf_up_n _ _ e]; exact Int.le_refl _
    · intro v hv
      dsimp only
      by_cases e : v = ae a
      · subst e; rw [mf_up_s]; intro _; exact x1
      · rw [mf_up_n _ _ e]; exact id
    · intro _ _
      dsimp only
      rw [mf_up_s]; exact ⟨x1, Int.le_refl _⟩
    · intro z; cases z
  · rw [if_neg hc]
    refine ⟨⟨T, h1, h2, h3, fun v => Nat.le_succ_of_le (h4 v), h5, fun v hv hd => ?_⟩, fun v => Int.le_refl _, fun _ _ h => h, fun g1 g2 => ?_, fun h => ⟨h, rfl⟩⟩
    · have h7 := h6 v hv hd
      show - (b + P) ≤ d v ∧ d v ≤ b + P
      omega
    · have c6 := h6 _ n1 g2
      have : ¬ (d (ab a) + ap a < d (ae a)) := fun z => hc ⟨g1, g2, z⟩
      dsimp only
      exact ⟨by omega, by omega⟩
theorem mf_np (n : Nat) (P : Int) : ((n + 1 : Nat) : Int) * P = (n : Int) * P + P := by
  rw [Int.natCast_add, Int.add_mul]; simp
theorem mf_np0 (n : Nat) {P : Int} (h : 0 ≤ P) : 0 ≤ (n : Int) * P := Int.mul_nonneg (Int.natCast_nonneg n) h
theorem mf_ps_B {N A : Nat} {ab ae : Nat → Nat} {ap rm : Nat → Int} {s : Nat} {FAR P : Int} {p : Nat → Int} (hH : mf_H N A ab ae ap rm s P p) {q : (Nat → Int) × (Nat → Nat) × Bool} {T : Nat → Nat} {now : Nat} {b : Int}
    (hB : mf_B N A ab ae ap rm s FAR p q.1 q.2.1 T now b) : ∀ n, n ≤ A → b + (n : Int) * P < FAR →
    (∃ T', mf_B N A ab ae ap rm s FAR p (mf_ps ab ae ap rm FAR n q).1 (mf_ps ab ae ap rm FAR n q).2.1 T' (now + n) (b + (n : Int) * P)) ∧
    (∀ v, (mf_ps ab ae ap rm FAR n q).1 v ≤ q.1 v) ∧ (∀ v, v < N → q.1 v ≠ FAR → (mf_ps ab ae ap rm FAR n q).1 v ≠ FAR) ∧
    (∀ a, a < n → 0 < rm a → q.1 (ab a) ≠ FAR → (mf_ps ab ae ap rm FAR n q).1 (ae a) ≠ FAR ∧ (mf_ps ab ae ap rm FAR n q).1 (ae a) ≤ q.1 (ab a) + ap a) ∧
    ((mf_ps ab ae ap rm FAR n q).2.2 = false → q.2.2 = false ∧ mf_ps ab ae ap rm FAR n q = q)
  | 0, _, _ => ⟨⟨T, by show mf_B N A ab ae ap rm s FAR p q.1 q.2.1 T (now + 0) (b + ((0 : Nat) : Int) * P); simpa using hB⟩, fun _ => Int.le_refl _, fun _ _ h => h, fun a h => absurd h (Nat.not_lt_zero a), fun h => ⟨h, rfl⟩⟩
  | n + 1, hn, hf => by
    have hP := hH.2.2.2.2
    rw [mf_np] at hf ⊢
    obtain ⟨⟨T1, i1⟩, i2, i3, i4, i5⟩ := mf_ps_B hH hB n (by omega) (by omega)
    obtain ⟨⟨T2, j1⟩, j2, j3, j4, j5⟩ := mf_rx_B hH i1 (a := n) (by omega) (by omega)
    show (∃ T', mf_B N A ab ae ap rm s FAR p (mf_rx ab ae ap rm FAR n (mf_ps ab ae ap rm FAR n q)).1 (mf_rx ab ae ap rm FAR n (mf_ps ab ae ap rm FAR n q)).2.1 T' (now + (n + 1)) (b + ((n : Int) * P + P))) ∧ _
    refine ⟨⟨T2, ?_⟩, fun v => Int.le_trans (j2 v) (i2 v), fun v hv h => j3 v hv (i3 v hv h), fun a ha hr hd => ?_, fun h => ?_⟩
    · rw [← Nat.add_assoc, ← Int.add_assoc]; exact j1
    · by_cases e : a = n
      · subst e
        have g1 := i3 _ (hH.1 a (by omega)).1 hd
        obtain ⟨g2, g3⟩ := j4 hr g1
        exact ⟨g2, Int.le_trans g3 (by have := i2 (ab a); omega)⟩
      · obtain ⟨g1, g2⟩ := i4 a (by omega) hr hd
        exact ⟨j3 _ (hH.1 a (by omega)).2 g1, Int.le_trans (j2 _) g2⟩
    · obtain ⟨g1, g2⟩ := j5 h
      obtain ⟨g3, g4⟩ := i5 g1
      exact ⟨g3, g2.trans g4⟩
def mf_fix (A : Nat) (ab ae : Nat → Nat) (ap rm : Nat → Int) (FAR : Int) (d : Nat → Int) : Prop :=
  ∀ a, a < A → 0 < rm a → d (ab a) ≠ FAR → d (ae a) ≠ FAR ∧ d (ae a) ≤ d (ab a) + ap a
def mf_R (A : Nat) (ab ae : Nat → Nat) (ap rm : Nat → Int) (s : Nat) (FAR : Int) (r : Nat) (d : Nat → Int) : Prop :=
  ∀ (w : Nat → Nat) (n v : Nat), n ≤ r → mf_wk A ab ae rm s w n v → d v ≠ FAR ∧ d v ≤ mf_wt ap w n
theorem mf_bf_B {N A : Nat} {ab ae : Nat → Nat} {ap rm : Nat → Int} {s : Nat} {FAR P : Int} {p : Nat → Int} (hH : mf_H N A ab ae ap rm s P p) (hF : FAR ≠ 0) :
    ∀ (n r : Nat) (q : (Nat → Int) × (Nat → Nat) × Bool) (T : Nat → Nat) (now : Nat) (b : Int), mf_B N A ab ae ap rm s FAR p q.1 q.2.1 T now b → mf_R A ab ae ap rm s FAR r q.1 → (q.2.2 = false → mf_fix A ab ae ap rm FAR q.1) → b + (n : Int) * ((A : Int) * P) < FAR →
    ∃ (T' : Nat → Nat) (now' : Nat) (b' : Int), mf_B N A ab ae ap rm s FAR p (mf_bf A ab ae ap rm FAR n q).1 (mf_bf A ab ae ap rm FAR n q).2.1 T' now' b' ∧ b' ≤ b + (n : Int) * ((A : Int) * P) ∧
      (mf_fix A ab ae ap rm FAR (mf_bf A ab ae ap rm FAR n q).1 ∨ mf_R A ab ae ap rm s FAR (r + n) (mf_bf A ab ae ap rm FAR n q).1) := by
  intro n
  induction n with
  | zero => intro r q T now b hB hR hx hf; exact ⟨T, now, b, hB, by simp, Or.inr hR⟩
  | succ n ih =>
    intro r q T now b hB hR hx hf
    have hP := hH.2.2.2.2
    have hAP := mf_np0 A hP
    have hnAP := mf_np0 n hAP
    rw [mf_np] at hf ⊢
    unfold mf_bf
    by_cases hq : q.2.2 = true
    · rw [if_pos hq]
      obtain ⟨⟨T1, i1⟩, i2, i3, i4, i5⟩ := mf_ps_B hH (q := (q.1, q.2.1, false)) hB A (Nat.le_refl _) (by omega)
      dsimp only at i2 i3 i4
      obtain ⟨T2, now2, b2, j1, j2, j3⟩ := ih (r + 1) (mf_ps ab ae ap rm FAR A (q.1, q.2.1, false)) T1 (now + A) (b + (A : Int) * P) i1 (by
        intro w m v hm hw
        cases m with
        | zero =>
          have hv : v = s := hw.2.symm
          subst hv
          have e := i1.1
          refine ⟨by rw [e]; exact fun z => hF z.symm, ?_⟩
          rw [e]; exact Int.le_refl _
        | succ m =>
          obtain ⟨g1, g2, g3⟩ := hw.1 m (by omega)
          obtain ⟨g4, g5⟩ := hR w m (mf_nd ae s w m) (by omega) ⟨fun i hi => hw.1 i (by omega), rfl⟩
          rw [← g3] at g4 g5
          obtain ⟨g6, g7⟩ := i4 _ g1 g2 g4
          have hv : ae (w m) = v := hw.2
          rw [hv] at g6 g7
          refine ⟨g6, Int.le_trans g7 ?_⟩
          show _ ≤ mf_sm (m + 1) _
          rw [mf_sm_s]
          have : mf_wt ap w m = mf_sm m (fun i => ap (w i)) := rfl
          omega) (by
        intro z
        obtain ⟨-, g⟩ := i5 z
        intro a ha hr hd
        rw [g] at hd ⊢
        have := i4 a ha hr hd
        rw [g] at this
        exact this) (by omega)
      refine ⟨T2, now2, b2, j1, by omega, ?_⟩
      rw [show r + (n + 1) = r + 1 + n from by omega]
      exact j3
    · rw [if_neg hq]
      exact ⟨T, now, b, hB, by omega, Or.inl (hx (by cases h : q.2.2 with | true => exact absurd h hq | false => rfl))⟩
/-- the search from its beginning: labels, arrivals with a rank, and no arc shortens any more -/
theorem mf_search {N A : Nat} {ab ae : Nat → Nat} {ap rm : Nat → Int} {s : Nat} {FAR P : Int} {p : Nat → Int} (hH : mf_H N A ab ae ap rm s P p) (hF : (N : Int) * ((A : Int) * P) < FAR) (ar : Nat → Nat) :
    ∃ (T : Nat → Nat) (now : Nat) (b : Int), mf_B N A ab ae ap rm s FAR p (mf_bf A ab ae ap rm FAR N (mf_up (fun _ => FAR) s 0, ar, true)).1 (mf_bf A ab ae ap rm FAR N (mf_up (fun _ => FAR) s 0, ar, true)).2.1 T now b ∧
      b < FAR ∧ mf_fix A ab ae ap rm FAR (mf_bf A ab ae ap rm FAR N (mf_up (fun _ => FAR) s 0, ar, true)).1 := by
  have hP := hH.2.2.2.2
  have hAP := mf_np0 A hP
  have hnAP := mf_np0 N hAP
  have hF0 : FAR ≠ 0 := by omega
  have hB0 : mf_B N A ab ae ap rm s FAR p (mf_up (fun _ => FAR) s 0) ar (fun _ => 0) 0 0 := by
    refine ⟨mf_up_s _ _ _, ?_, ?_, fun _ => Nat.le_refl _, ?_, ?_⟩
    · intro v _ hd
      by_cases e : v = s
      · subst e; rw [mf_up_s]; omega
      · rw [mf_up_n _ _ e] at hd; exact absurd rfl hd
    · intro v _ e hd
      rw [mf_up_n _ _ e] at hd; exact absurd rfl hd
    · intro v _ hd
      by_cases e : v = s
      · subst e; rw [mf_up_s]; exact ⟨fun _ => 0, 0, ⟨fun i hi => absurd hi (Nat.not_lt_zero i), rfl⟩, rfl⟩
      · rw [mf_up_n _ _ e] at hd; exact absurd rfl hd
    · intro v _ hd
      by_cases e : v = s
      · subst e; rw [mf_up_s]; omega
      · rw [mf_up_n _ _ e] at hd; exact absurd rfl hd
  obtain ⟨T, now, b, h1, h2, h3⟩ := mf_bf_B hH hF0 N 0 (mf_up (fun _ => FAR) s 0, ar, true) (fun _ => 0) 0 0 hB0 (by
    intro w n v hn hw
    have hn0 : n = 0 := by omega
    subst hn0
    have hv : v = s := hw.2.symm
    subst hv
    dsimp only
    rw [mf_up_s]
    exact ⟨fun z => hF0 z.symm, Int.le_refl _⟩) (fun z => by cases z) (by omega)
  refine ⟨T, now, b, h1, by omega, ?_⟩
  rcases h3 with h3 | h3
  · exact h3
  · intro a ha hr hd
    obtain ⟨w, n, w1, w2⟩ := h1.2.2.2.2.1 _ (hH.1 a ha).1 hd
    obtain ⟨y1, y2⟩ := mf_wk_ext (ap := ap) w1 ha hr rfl
    obtain ⟨w3, n3, z1, z2, z3⟩ := mf_short (ap := ap) hH.1 hH.2.1 hH.2.2.1 (n + 1) (n + 1) (Nat.le_refl _) _ _ y1
    obtain ⟨x1, x2⟩ := h3 w3 n3 _ (by omega) z2
    exact ⟨x1, by omega⟩
