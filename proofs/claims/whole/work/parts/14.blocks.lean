/-! the network of a question: groups, courses, requirements; its ways by blocks.
  places: 0 the source, 1 the sink, 2 + g a group, 8 + c a course, 20 + r the requirement r + 1 -/
def mf_ab (par : Nat → Nat) (g : Nat) : Nat := if g = 0 then 0 else 2 + par g
def mf_bs (G R C : Nat) (par grp : Nat → Nat) (X : Nat → Bool) (cnt : Nat → Nat → Bool) (lim need : Nat → Int) (cs : Nat → Nat → Int) (F : Nat → Nat → Int → Int → Int) : Int :=
  mf_sm G (fun g => F (mf_ab par g) (2 + g) (lim g) 0) + mf_sm R (fun r => F (20 + r) 1 (need (r + 1)) 0) +
  mf_sm C (fun c => if X c = true then F (2 + grp c) (8 + c) 1 0 + mf_sm R (fun r => if cnt c (r + 1) = true then F (8 + c) (20 + r) 1 (cs c (r + 1)) else 0) else 0)
def mf_ba (G R C : Nat) (par grp : Nat → Nat) (X : Nat → Bool) (cnt : Nat → Nat → Bool) (lim need : Nat → Int) (cs : Nat → Nat → Int) (Pr : Nat → Nat → Int → Int → Prop) : Prop :=
  (∀ g, g < G → Pr (mf_ab par g) (2 + g) (lim g) 0) ∧ (∀ r, r < R → Pr (20 + r) 1 (need (r + 1)) 0) ∧
  (∀ c, c < C → X c = true → Pr (2 + grp c) (8 + c) 1 0 ∧ ∀ r, r < R → cnt c (r + 1) = true → Pr (8 + c) (20 + r) 1 (cs c (r + 1)))
def mf_lay (K : Nat) (fr to : Nat → Nat) (cap cost : Nat → Int) (G R C : Nat) (par grp : Nat → Nat) (X : Nat → Bool) (cnt : Nat → Nat → Bool) (lim need : Nat → Int) (cs : Nat → Nat → Int) : Prop :=
  ∀ F : Nat → Nat → Int → Int → Int, mf_sm K (fun k => F (fr k) (to k) (cap k) (cost k)) = mf_bs G R C par grp X cnt lim need cs F
theorem mf_sm_nz {n : Nat} {F : Nat → Int} (h0 : ∀ k, k < n → 0 ≤ F k) (h : mf_sm n F = 0) : ∀ k, k < n → F k = 0 := by
  induction n with
  | zero => intro k hk; omega
  | succ n ih =>
    rw [mf_sm_s] at h
    have h1 := mf_sm_nn (n := n) (F := F) (fun k hk => h0 k (by omega))
    have h2 := h0 n (by omega)
    intro k hk
    by_cases e : k = n
    · subst e; omega
    · exact ih (fun k hk => h0 k (by omega)) (by omega) k (by omega)
theorem mf_if01 (p : Prop) [Decidable p] : 0 ≤ (if p then (0 : Int) else 1) := by split <;> omega
theorem mf_if01' {p : Prop} [Decidable p] (h : (if p then (0 : Int) else 1) = 0) : p := by
  by_cases e : p
  · exact e
  · rw [if_neg e] at h; omega
section Lay
variable {K : Nat} {fr to : Nat → Nat} {cap cost : Nat → Int} {G R C : Nat} {par grp : Nat → Nat} {X : Nat → Bool} {cnt : Nat → Nat → Bool} {lim need : Nat → Int} {cs : Nat → Nat → Int}
theorem mf_lay_to (hl : mf_lay K fr to cap cost G R C par grp X cnt lim need cs) {Pr : Nat → Nat → Int → Int → Prop} (h : mf_ba G R C par grp X cnt lim need cs Pr) : ∀ k, k < K → Pr (fr k) (to k) (cap k) (cost k) := by
  classical
  have e := hl (fun u v a b => if Pr u v a b then 0 else 1)
  have e2 : mf_bs G R C par grp X cnt lim need cs (fun u v a b => if Pr u v a b then 0 else 1) = 0 := by
    unfold mf_bs
    dsimp only
    rw [mf_sm_z (fun g hg => if_pos (h.1 g hg)), mf_sm_z (fun r hr => if_pos (h.2.1 r hr)), mf_sm_z (fun c hc => by
      by_cases x : X c = true
      · rw [if_pos x, if_pos (h.2.2 c hc x).1, mf_sm_z (fun r hr => by
          by_cases y : cnt c (r + 1) = true
          · rw [if_pos y, if_pos ((h.2.2 c hc x).2 r hr y)]
          · rw [if_neg y])]
        rfl
      · rw [if_neg x])]
    rfl
  rw [e2] at e
  intro k hk
  exact mf_if01' (mf_sm_nz (fun k _ => mf_if01 _) e k hk)
theorem mf_lay_of (hl : mf_lay K fr to cap cost G R C par grp X cnt lim need cs) {Pr : Nat → Nat → Int → Int → Prop} (h : ∀ k, k < K → Pr (fr k) (to k) (cap k) (cost k)) : mf_ba G R C par grp X cnt lim need cs Pr := by
  classical
  have e := hl (fun u v a b => if Pr u v a b then 0 else 1)
  rw [mf_sm_z (fun k hk => if_pos (h k hk))] at e
  unfold mf_bs at e
  dsimp only at e
  have i0 : ∀ c, c < C → 0 ≤ mf_sm R (fun r => if cnt c (r + 1) = true then (if Pr (8 + c) (20 + r) 1 (cs c (r + 1)) then (0 : Int) else 1) else 0) :=
    fun c _ => mf_sm_nn (fun r _ => by split; exact mf_if01 _; exact Int.le_refl _)
  have j1 : ∀ g, g < G → 0 ≤ (if Pr (mf_ab par g) (2 + g) (lim g) 0 then (0 : Int) else 1) := fun g _ => mf_if01 _
  have j2 : ∀ r, r < R → 0 ≤ (if Pr (20 + r) 1 (need (r + 1)) 0 then (0 : Int) else 1) := fun r _ => mf_if01 _
  have j3 : ∀ c, c < C → 0 ≤ (if X c = true then (if Pr (2 + grp c) (8 + c) 1 0 then (0 : Int) else 1) + mf_sm R (fun r => if cnt c (r + 1) = true then (if Pr (8 + c) (20 + r) 1 (cs c (r + 1)) then (0 : Int) else 1) else 0) else 0) := by
    intro c hc
    split
    · have := i0 c hc; have := mf_if01 (Pr (2 + grp c) (8 + c) 1 0); omega
    · exact Int.le_refl _
  have k1 := mf_sm_nn j1
  have k2 := mf_sm_nn j2
  have k3 := mf_sm_nn j3
  refine ⟨fun g hg => mf_if01' (mf_sm_nz j1 (by omega) g hg), fun r hr => mf_if01' (mf_sm_nz j2 (by omega) r hr), fun c hc x => ?_⟩
  have q := mf_sm_nz j3 (by omega) c hc
  rw [if_pos x] at q
  have q1 := i0 c hc
  have q2 := mf_if01 (Pr (2 + grp c) (8 + c) 1 0)
  refine ⟨mf_if01' (by omega), fun r hr y => ?_⟩
  have q3 := mf_sm_nz (fun r _ => by split; exact mf_if01 _; exact Int.le_refl _) (show mf_sm R (fun r => if cnt c (r + 1) = true then (if Pr (8 + c) (20 + r) 1 (cs c (r + 1)) then (0 : Int) else 1) else 0) = 0 by omega) r hr
  rw [if_pos y] at q3
  exact mf_if01' q3
theorem mf_sm_ind {n : Nat} {P : Nat → Prop} [DecidablePred P] (a : Nat) (h : ∀ k, k < n → P k → k = a) : mf_sm n (fun k => if P k then 1 else 0) ≤ 1 := by
  have e : ∀ k, k < n → (if P k then (1 : Int) else 0) ≤ (if a = k then 1 else 0) := by
    intro k hk
    by_cases c : P k
    · rw [if_pos c, if_pos (h k hk c).symm]; exact Int.le_refl _
    · rw [if_neg c]; split <;> omega
  refine Int.le_trans (mf_sm_le e) ?_
  by_cases c : a < n
  · rw [mf_sm_one c (fun _ => 1)]; exact Int.le_refl _
  · rw [mf_sm_z (fun k hk => if_neg (by omega))]; omega
/-- each pair of places has one way at most -/
theorem mf_bs_ind (hG : G ≤ 6) (hC : C ≤ 12) (hg : ∀ c, c < C → grp c < G) (hp : mf_tr G par) (u v : Nat) :
    mf_bs G R C par grp X cnt lim need cs (fun a b _ _ => if a = u ∧ b = v then 1 else 0) ≤ 1 := by
  unfold mf_bs
  dsimp only
  by_cases v1 : v = 1
  · subst v1
    rw [mf_sm_z (n := G) (fun g hg => if_neg (by omega)), mf_sm_z (n := C) (fun c hc => by
      split
      · rw [if_neg (by omega), mf_sm_z (fun r _ => by split; exact if_neg (by omega); rfl)]; rfl
      · rfl)]
    have := mf_sm_ind (n := R) (P := fun r => 20 + r = u ∧ 1 = 1) (u - 20) (fun k _ h => by omega)
    omega
  · rw [mf_sm_z (n := R) (fun r hr => if_neg (by omega))]
    by_cases v2 : v < 8
    · rw [mf_sm_z (n := C) (fun c hc => by
        split
        · rw [if_neg (by omega), mf_sm_z (fun r _ => by split; exact if_neg (by omega); rfl)]; rfl
        · rfl)]
      have := mf_sm_ind (n := G) (P := fun g => mf_ab par g = u ∧ 2 + g = v) (v - 2) (fun k _ h => by omega)
      omega
    · rw [mf_sm_z (n := G) (fun g hg => if_neg (by omega))]
      by_cases v3 : v < 20
      · have e : ∀ c, c < C → (if X c = true then (if 2 + grp c = u ∧ 8 + c = v then (1 : Int) else 0) + mf_sm R (fun r => if cnt c (r + 1) = true then (if 8 + c = u ∧ 20 + r = v then 1 else 0) else 0) else 0) ≤ (if 8 + c = v then 1 else 0) := by
          intro c hc
          rw [mf_sm_z (n := R) (fun r _ => by split; exact if_neg (by omega); rfl)]
          by_cases c1 : 8 + c = v
          · rw [if_pos c1]; split
            · split <;> omega
            · omega
          · rw [if_neg c1, if_neg (show ¬ (2 + grp c = u ∧ 8 + c = v) from fun z => c1 z.2)]; split <;> omega
        have e2 := mf_sm_le e
        have := mf_sm_ind (n := C) (P := fun c => 8 + c = v) (v - 8) (fun k _ h => by omega)
        omega
      · have e : ∀ c, c < C → (if X c = true then (if 2 + grp c = u ∧ 8 + c = v then (1 : Int) else 0) + mf_sm R (fun r => if cnt c (r + 1) = true then (if 8 + c = u ∧ 20 + r = v then 1 else 0) else 0) else 0) ≤ (if 8 + c = u then 1 else 0) := by
          intro c hc
          have hgc := hg c hc
          have i1 : mf_sm R (fun r => if cnt c (r + 1) = true then (if 8 + c = u ∧ 20 + r = v then (1 : Int) else 0) else 0) ≤ (if 8 + c = u then 1 else 0) := by
            by_cases c1 : 8 + c = u
            · rw [if_pos c1]
              refine Int.le_trans (mf_sm_le (G := fun r => if 20 + r = v then 1 else 0) (fun r _ => ?_)) (mf_sm_ind (n := R) (P := fun r => 20 + r = v) (v - 20) (fun k _ h => by omega))
              by_cases c2 : 20 + r = v
              · rw [if_pos c2]; split
                · split <;> omega
                · omega
              · rw [if_neg c2, if_neg (show ¬ (8 + c = u ∧ 20 + r = v) from fun z => c2 z.2)]; split <;> omega
            · rw [if_neg c1, mf_sm_z (fun r _ => by split; exact if_neg (fun z => c1 z.1); rfl)]; exact Int.le_refl _
          rw [if_neg (show ¬ (2 + grp c = u ∧ 8 + c = v) by omega)]
          split
          · omega
          · split <;> omega
        have e2 := mf_sm_le e
        have := mf_sm_ind (n := C) (P := fun c => 8 + c = u) (u - 8) (fun k _ h => by omega)
        omega
def mf_ph (K : Nat) (fr to : Nat → Nat) (f : Nat → Int) (u v : Nat) : Int := mf_sm K (fun k => if fr k = u ∧ to k = v then f k else 0)
theorem mf_ph_at (hl : mf_lay K fr to cap cost G R C par grp X cnt lim need cs) (hG : G ≤ 6) (hC : C ≤ 12) (hg : ∀ c, c < C → grp c < G) (hp : mf_tr G par) (f : Nat → Int) {k : Nat} (hk : k < K) : f k = mf_ph K fr to f (fr k) (to k) := by
  have h1 : mf_sm K (fun j => if fr j = fr k ∧ to j = to k then 1 else 0) ≤ 1 := by
    rw [hl (fun a b _ _ => if a = fr k ∧ b = to k then 1 else 0)]
    exact mf_bs_ind hG hC hg hp _ _
  have h2 : ∀ j, j < K → 0 ≤ (if fr j = fr k ∧ to j = to k then (1 : Int) else 0) - (if k = j then 1 else 0) := by
    intro j _
    by_cases e : k = j
    · subst e; rw [if_pos ⟨rfl, rfl⟩, if_pos rfl]; omega
    · rw [if_neg e]; split <;> omega
  have h3 : mf_sm K (fun j => (if fr j = fr k ∧ to j = to k then (1 : Int) else 0) - (if k = j then 1 else 0)) = 0 := by
    have a := mf_sm_nn h2
    rw [mf_sm_sub, mf_sm_one hk (fun _ => 1)] at a ⊢
    omega
  have h4 := mf_sm_nz h2 h3
  unfold mf_ph
  rw [mf_sm_congr (G := fun j => if k = j then f j else 0) (fun j hj => by
    have h5 := h4 j hj
    by_cases e : k = j
    · subst e; rw [if_pos ⟨rfl, rfl⟩, if_pos rfl]
    · rw [if_neg e] at h5 ⊢
      refine if_neg (fun z => ?_)
      rw [if_pos z] at h5
      omega), mf_sm_one hk f]
/-- every sum over the ways, of what flows, by blocks -/
theorem mf_ph_sum (hl : mf_lay K fr to cap cost G R C par grp X cnt lim need cs) (hG : G ≤ 6) (hC : C ≤ 12) (hg : ∀ c, c < C → grp c < G) (hp : mf_tr G par) (f : Nat → Int) (H : Nat → Nat → Int → Int → Int → Int) :
    mf_sm K (fun k => H (fr k) (to k) (cap k) (cost k) (f k)) = mf_bs G R C par grp X cnt lim need cs (fun u v a b => H u v a b (mf_ph K fr to f u v)) := by
  rw [← hl]
  exact mf_sm_congr (fun k hk => by rw [← mf_ph_at hl hG hC hg hp f hk])
end Lay
