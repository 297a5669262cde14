/-! the greatest assignment and the least cut -/
/-- the courses that count for a set T of requirements -/
def mf_ct (R : Nat) (X : Nat → Bool) (cnt : Nat → Nat → Bool) (T : Nat → Bool) (c : Nat) : Bool := X c && (List.range R).any (fun r => T r && cnt c (r + 1))
theorem mf_ct_iff {R : Nat} {X : Nat → Bool} {cnt : Nat → Nat → Bool} {T : Nat → Bool} {c : Nat} : mf_ct R X cnt T c = true ↔ X c = true ∧ ∃ r, r < R ∧ T r = true ∧ cnt c (r + 1) = true := by
  unfold mf_ct
  rw [Bool.and_eq_true, List.any_eq_true]
  constructor
  · rintro ⟨h1, r, h2, h3⟩
    rw [Bool.and_eq_true] at h3
    exact ⟨h1, r, List.mem_range.mp h2, h3.1, h3.2⟩
  · rintro ⟨h1, r, h2, h3, h4⟩
    exact ⟨h1, r, List.mem_range.mpr h2, by rw [h3, h4]; rfl⟩
def mf_so (R C : Nat) (grp : Nat → Nat) (X : Nat → Bool) (cnt : Nat → Nat → Bool) (T : Nat → Bool) : Nat → Int := mf_own C grp (fun c => mf_b (mf_ct R X cnt T c))
def mf_nd0 (R : Nat) (need : Nat → Int) (T : Nat → Bool) : Int := mf_sm R (fun r => if T r = true then need (r + 1) else 0)
def mf_cv (G R C : Nat) (par grp : Nat → Nat) (X : Nat → Bool) (cnt : Nat → Nat → Bool) (lim need : Nat → Int) (T : Nat → Bool) : Int :=
  mf_nd0 R need (fun r => !T r) + mf_sup G par lim (mf_so R C grp X cnt T)
section Cut
variable {K : Nat} {fr to : Nat → Nat} {cap cost : Nat → Int} {G R C : Nat} {par grp : Nat → Nat} {X : Nat → Bool} {cnt : Nat → Nat → Bool} {lim need : Nat → Int} {cs : Nat → Nat → Int}
/-- no assignment is greater than a cut -/
theorem mf_z_le (hg : ∀ c, c < C → grp c < G) (hp : mf_tr G par) {z : Nat → Nat → Int} (hz : mf_zok G R C par grp X cnt lim need z) (T : Nat → Bool) : mf_zsz R C z ≤ mf_cv G R C par grp X cnt lim need T := by
  have e0 : ∀ c, c < C → mf_sm R (z c) = mf_sm R (fun r => if T r = true then z c r else 0) + mf_sm R (fun r => if (!T r) = true then z c r else 0) := by
    intro c _
    rw [← mf_sm_add]
    refine mf_sm_congr (fun r _ => ?_)
    cases T r <;> simp
  have e1 : mf_zsz R C z = mf_sm C (fun c => mf_sm R (fun r => if T r = true then z c r else 0)) + mf_sm C (fun c => mf_sm R (fun r => if (!T r) = true then z c r else 0)) := by
    unfold mf_zsz
    rw [mf_sm_congr e0, mf_sm_add]
  have e2 : mf_sm C (fun c => mf_sm R (fun r => if (!T r) = true then z c r else 0)) ≤ mf_nd0 R need (fun r => !T r) := by
    rw [mf_sm_swap]
    refine mf_sm_le (fun r hr => ?_)
    by_cases t : (!T r) = true
    · rw [if_pos t, mf_sm_congr (G := fun c => z c r) (fun c _ => if_pos t)]
      exact hz.2.2.2.1 r hr
    · rw [if_neg t, mf_sm_z (fun c _ => if_neg t)]; exact Int.le_refl _
  have e3 : mf_sm C (fun c => mf_sm R (fun r => if T r = true then z c r else 0)) ≤ mf_sup G par lim (mf_so R C grp X cnt T) := by
    by_cases h0 : 0 < G
    · have hx : ∀ c, c < C → mf_sm R (fun r => if T r = true then z c r else 0) ≤ mf_sm R (z c) := fun c hc => mf_sm_le (fun r hr => by
        have := hz.1 c hc r hr
        split <;> omega)
      have h1 := mf_sup_ge (lim := lim) (own := mf_so R C grp X cnt T) (L := mf_ld C par grp (fun c => mf_sm R (fun r => if T r = true then z c r else 0))) h0 hp (fun h hh => by
        refine mf_mn_g ?_ ?_
        · refine Int.le_trans (mf_sm_le (fun c hc => ?_)) (hz.2.2.2.2 h hh)
          split
          · exact hx c hc
          · exact Int.le_refl _
        · rw [mf_ld_rec hp hg]
          have a : mf_own C grp (fun c => mf_sm R (fun r => if T r = true then z c r else 0)) h ≤ mf_so R C grp X cnt T h := mf_sm_le (fun c hc => by
            by_cases e : grp c = h
            · rw [if_pos e, if_pos e]
              dsimp only
              by_cases y : mf_ct R X cnt T c = true
              · rw [y, mf_b_t]; exact Int.le_trans (hx c hc) (hz.2.2.1 c hc)
              · rw [mf_sm_z (fun r hr => by
                  by_cases t : T r = true
                  · rw [if_pos t]
                    exact mf_z_off hz hc hr (fun w => y (mf_ct_iff.mpr ⟨w.1, r, hr, t, w.2⟩))
                  · rw [if_neg t])]
                exact mf_b_nn _
            · rw [if_neg e, if_neg e]; exact Int.le_refl _)
          have b : mf_kd G par (mf_ld C par grp (fun c => mf_sm R (fun r => if T r = true then z c r else 0))) 0 h = mf_sm G (fun g => if 0 < g ∧ par g = h then mf_ld C par grp (fun c => mf_sm R (fun r => if T r = true then z c r else 0)) g else 0) := rfl
          omega)
      rw [mf_ld_root hp hg] at h1
      exact h1
    · have hC0 : C = 0 := by
        cases C with
        | zero => rfl
        | succ c => have := hg 0 (by omega); omega
      subst hC0
      have hG0 : G = 0 := by omega
      subst hG0
      exact Int.le_refl _
  unfold mf_cv
  omega
theorem mf_hv_ex (hp : mf_tr G par) (own : Nat → Int) : ∀ n, n ≤ G → ∃ hv : Nat → Int, ∀ h, G ≤ h + n → h < G → hv h = mf_mn (lim h) (own h + mf_kd G par hv 0 h)
  | 0, _ => ⟨fun _ => 0, fun h h1 h2 => by omega⟩
  | n + 1, hn => by
    obtain ⟨hv, hh⟩ := mf_hv_ex hp own n (by omega)
    have hk : ∀ h, G ≤ h + (n + 1) → mf_kd G par (mf_up hv (G - (n + 1)) (mf_mn (lim (G - (n + 1))) (own (G - (n + 1)) + mf_kd G par hv 0 (G - (n + 1))))) 0 h = mf_kd G par hv 0 h := fun h hle =>
      mf_sm_congr (fun g hgg => by
        by_cases c : 0 < g ∧ par g = h
        · have := hp g c.1 hgg
          rw [if_pos c, if_pos c, mf_up_n _ _ (by omega)]
        · rw [if_neg c, if_neg c])
    refine ⟨mf_up hv (G - (n + 1)) (mf_mn (lim (G - (n + 1))) (own (G - (n + 1)) + mf_kd G par hv 0 (G - (n + 1)))), fun h h1 h2 => ?_⟩
    rw [hk h h1]
    by_cases e : h = G - (n + 1)
    · subst e; rw [mf_up_s]
    · rw [mf_up_n _ _ e]; exact hh h (by omega) h2
theorem mf_climb (hp : mf_tr G par) {S : Nat → Bool} {L : Nat → Int} (hS : ∀ g, g < G → 0 < L g → S (2 + g) = true → S (mf_ab par g) = true) {h : Nat} :
    ∀ (b k : Nat), k ≤ b → k < G → mf_an par k h = true → S (2 + k) = true → (∀ j, mf_an par k j = true → 0 < L j) → S (2 + h) = true := by
  intro b
  induction b with
  | zero =>
    intro k hk _ ha hs _
    have : k = 0 := by omega
    subst this
    rw [mf_an_0] at ha
    rw [← of_decide_eq_true ha]; exact hs
  | succ b ih =>
    intro k hk hG ha hs hj
    by_cases e : k = h
    · subst e; exact hs
    · by_cases e0 : k = 0
      · subst e0
        rw [mf_an_0] at ha
        exact absurd (of_decide_eq_true ha) e
      · have hpk := hp k (by omega) hG
        rw [mf_an_s hp (by omega) hG, decide_eq_false e, Bool.false_or] at ha
        have h1 := hS k hG (hj k (mf_an_self par k)) hs
        unfold mf_ab at h1
        rw [if_neg e0] at h1
        refine ih (par k) (by omega) (by omega) ha h1 (fun j hj2 => hj j ?_)
        rw [mf_an_s hp (by omega) hG, hj2]; simp
/-- where no way is left, the flow is as great as a cut -/
theorem mf_z_ge (hl : mf_lay K fr to cap cost G R C par grp X cnt lim need cs) (hG : G ≤ 6) (hC : C ≤ 12) (hg : ∀ c, c < C → grp c < G) (hp : mf_tr G par) {f : Nat → Int} {val : Int} (hf : mf_flow K fr to cap 0 1 f val)
    {S : Nat → Bool} (s0 : S 0 = true) (s1 : S 1 = false) (c1 : ∀ k, k < K → f k < cap k → S (fr k) = true → S (to k) = true) (c2 : ∀ k, k < K → 0 < f k → S (to k) = true → S (fr k) = true) :
    mf_cv G R C par grp X cnt lim need (fun r => !S (20 + r)) ≤ val := by
  obtain ⟨hz, hsz, -, eL, ey, en⟩ := mf_flow_z hl hG hC hg hp hf
  generalize hzd : mf_zof K fr to X cnt f = z at hz hsz eL ey en
  have hb : mf_ba G R C par grp X cnt lim need cs (fun u v a _ => (mf_ph K fr to f u v < a → S u = true → S v = true) ∧ (0 < mf_ph K fr to f u v → S v = true → S u = true) ∧ mf_ph K fr to f u v ≤ a) :=
    mf_lay_of hl (fun k hk => by rw [← mf_ph_at hl hG hC hg hp f hk]; exact ⟨c1 k hk, c2 k hk, (hf.1 k hk).2⟩)
  obtain ⟨b1, b2, b3⟩ := hb
  have zr : ∀ c, c < C → ∀ r, r < R → X c = true → cnt c (r + 1) = true → mf_ph K fr to f (8 + c) (20 + r) = z c r := by
    intro c _ r _ x y
    rw [← hzd]; unfold mf_zof; rw [if_pos ⟨x, y⟩]
  -- a course given a requirement in S is in S, and so are its groups
  have up1 : ∀ c, c < C → ∀ r, r < R → 0 < z c r → S (20 + r) = true → S (8 + c) = true := by
    intro c hc r hr h0 hs
    obtain ⟨x, y⟩ := hz.2.1 c hc r hr (by omega)
    exact ((b3 c hc x).2 r hr y).2.1 (by rw [zr c hc r hr x y]; exact h0) hs
  have hzn : ∀ c, c < C → 0 ≤ mf_sm R (z c) := fun c hc => mf_sm_nn (fun r hr => hz.1 c hc r hr)
  have hzp : ∀ c, c < C → ∀ r, r < R → z c r ≤ mf_sm R (z c) := by
    intro c hc r hr
    have h2 : mf_sm R (fun i => if r = i then z c i else 0) ≤ mf_sm R (z c) := mf_sm_le (fun i hi => by
      have := hz.1 c hc i hi
      split <;> omega)
    rw [mf_sm_one hr (z c)] at h2
    exact h2
  have ldp : ∀ c, c < C → 0 < mf_sm R (z c) → ∀ j, mf_an par (grp c) j = true → 0 < mf_ld C par grp (fun c => mf_sm R (z c)) j := by
    intro c hc h0 j hj
    have h2 : mf_sm C (fun i => if c = i then (if mf_an par (grp i) j = true then mf_sm R (z i) else 0) else 0) ≤ mf_ld C par grp (fun c => mf_sm R (z c)) j := mf_sm_le (fun i hi => by
      have := hzn i hi
      split
      · exact Int.le_refl _
      · split <;> omega)
    rw [mf_sm_one hc (fun i => if mf_an par (grp i) j = true then mf_sm R (z i) else 0), if_pos hj] at h2
    omega
  have up2 : ∀ c, c < C → ∀ r, r < R → 0 < z c r → S (20 + r) = true → ∀ h, h < G → mf_an par (grp c) h = true → S (2 + h) = true := by
    intro c hc r hr h0 hs h hh ha
    have h1 := up1 c hc r hr h0 hs
    obtain ⟨x, y⟩ := hz.2.1 c hc r hr (by omega)
    have h2 := hzp c hc r hr
    have h3 := (b3 c hc x).1.2.1 (by rw [ey c hc x]; omega) h1
    refine mf_climb hp (S := S) (L := mf_ld C par grp (fun c => mf_sm R (z c))) (fun g hgg hl hs => (b1 g hgg).2.1 (by rw [eL g hgg]; exact hl) hs) (grp c) (grp c) (Nat.le_refl _) (hg c hc) ha h3 (ldp c hc (by omega))
  have hT : ∀ r, (!S (20 + r)) = true ↔ S (20 + r) = false := fun r => by cases S (20 + r) <;> simp
  -- the first part: requirements in S are full
  have p1 : mf_sm C (fun c => mf_sm R (fun r => if S (20 + r) = true then z c r else 0)) = mf_nd0 R need (fun r => !!S (20 + r)) := by
    rw [mf_sm_swap]
    refine mf_sm_congr (fun r hr => ?_)
    by_cases t : S (20 + r) = true
    · rw [mf_sm_congr (G := fun c => z c r) (fun c _ => if_pos t), if_pos (show (!!S (20 + r)) = true by rw [t]; rfl), ← en r hr]
      have q1 := (b2 r hr).1
      have q2 := (b2 r hr).2.2
      by_cases lt : mf_ph K fr to f (20 + r) 1 < need (r + 1)
      · have := q1 lt t
        rw [s1] at this
        cases this
      · omega
    · rw [mf_sm_z (fun c _ => if_neg t), if_neg (show ¬ (!!S (20 + r)) = true by rw [Bool.not_not]; exact t)]
  -- the second part: the others are given all that there can be
  have p2 : mf_sup G par lim (mf_so R C grp X cnt (fun r => !S (20 + r))) ≤ mf_sm C (fun c => mf_sm R (fun r => if S (20 + r) = true then 0 else z c r)) := by
    by_cases h0 : 0 < G
    · obtain ⟨hv, hhv⟩ := mf_hv_ex (lim := lim) hp (mf_so R C grp X cnt (fun r => !S (20 + r))) G (Nat.le_refl _)
      have e1 : mf_sup G par lim (mf_so R C grp X cnt (fun r => !S (20 + r))) ≤ hv 0 := mf_sup_le h0 hp (fun h hh => by rw [← hhv h (by omega) hh]; exact Int.le_refl _)
      have e2 : ∀ (b h : Nat), h < G → G ≤ h + b → S (mf_ab par h) = true ∨ S (2 + h) = true → hv h ≤ mf_ld C par grp (fun c => mf_sm R (fun r => if S (20 + r) = true then 0 else z c r)) h := by
        intro b
        induction b with
        | zero => intro h hh hb; omega
        | succ b ih =>
          intro h hh hb hor
          rw [hhv h (by omega) hh]
          by_cases t : S (2 + h) = true
          · refine Int.le_trans (mf_mn_r _ _) ?_
            rw [mf_ld_rec hp hg]
            have k1 : mf_kd G par hv 0 h ≤ mf_sm G (fun g => if 0 < g ∧ par g = h then mf_ld C par grp (fun c => mf_sm R (fun r => if S (20 + r) = true then 0 else z c r)) g else 0) := mf_sm_le (fun g hgg => by
              by_cases c : 0 < g ∧ par g = h
              · have := hp g c.1 hgg
                rw [if_pos c, if_pos c]
                refine ih g hgg (by omega) (Or.inl ?_)
                unfold mf_ab
                rw [if_neg (by omega), c.2]; exact t
              · rw [if_neg c, if_neg c]; exact Int.le_refl _)
            have k2 : mf_so R C grp X cnt (fun r => !S (20 + r)) h ≤ mf_own C grp (fun c => mf_sm R (fun r => if S (20 + r) = true then 0 else z c r)) h := mf_sm_le (fun c hc => by
              by_cases e : grp c = h
              · rw [if_pos e, if_pos e]
                dsimp only
                have nn : ∀ r, r < R → 0 ≤ (if S (20 + r) = true then 0 else z c r) := fun r hr => by
                  have := hz.1 c hc r hr
                  split <;> omega
                by_cases y : mf_ct R X cnt (fun r => !S (20 + r)) c = true
                · rw [y, mf_b_t]
                  obtain ⟨x, r, hr, tr, yr⟩ := mf_ct_iff.mp y
                  have tr := (hT r).mp tr
                  by_cases sc : S (8 + c) = true
                  · have q := (b3 c hc x).2 r hr yr
                    dsimp only at q
                    rw [zr c hc r hr x yr] at q
                    have q1 : ¬ z c r < 1 := fun w => by have := q.1 w sc; rw [tr] at this; cases this
                    have h2 : mf_sm R (fun i => if r = i then (if S (20 + i) = true then 0 else z c i) else 0) ≤ mf_sm R (fun r => if S (20 + r) = true then 0 else z c r) := mf_sm_le (fun i hi => by
                      have := nn i hi
                      split
                      · exact Int.le_refl _
                      · exact this)
                    rw [mf_sm_one hr (fun i => if S (20 + i) = true then 0 else z c i), if_neg (by rw [tr]; decide)] at h2
                    omega
                  · have q := (b3 c hc x).1
                    dsimp only at q
                    rw [ey c hc x, e] at q
                    have q1 : ¬ mf_sm R (z c) < 1 := fun w => sc (q.1 w t)
                    have q2 : mf_sm R (fun r => if S (20 + r) = true then 0 else z c r) = mf_sm R (z c) := mf_sm_congr (fun i hi => by
                      by_cases si : S (20 + i) = true
                      · rw [if_pos si]
                        have := hz.1 c hc i hi
                        have : ¬ 0 < z c i := fun w => sc (up1 c hc i hi w si)
                        omega
                      · rw [if_neg si])
                    omega
                · have y' : mf_ct R X cnt (fun r => !S (20 + r)) c = false := by
                    cases hq : mf_ct R X cnt (fun r => !S (20 + r)) c with
                    | false => rfl
                    | true => exact absurd hq y
                  rw [y', mf_b_f]; exact mf_sm_nn nn
              · rw [if_neg e, if_neg e]; exact Int.le_refl _)
            omega
          · refine Int.le_trans (mf_mn_l _ _) ?_
            have ha : S (mf_ab par h) = true := by
              rcases hor with q | q
              · exact q
              · exact absurd q t
            have q := b1 h hh
            dsimp only at q
            rw [eL h hh] at q
            have q1 : ¬ mf_ld C par grp (fun c => mf_sm R (z c)) h < lim h := fun w => t (q.1 w ha)
            have q2 : mf_ld C par grp (fun c => mf_sm R (fun r => if S (20 + r) = true then 0 else z c r)) h = mf_ld C par grp (fun c => mf_sm R (z c)) h := mf_sm_congr (fun c hc => by
              by_cases an : mf_an par (grp c) h = true
              · rw [if_pos an, if_pos an]
                refine mf_sm_congr (fun i hi => ?_)
                by_cases si : S (20 + i) = true
                · rw [if_pos si]
                  have := hz.1 c hc i hi
                  have : ¬ 0 < z c i := fun w => t (up2 c hc i hi w si h hh an)
                  omega
                · rw [if_neg si]
              · rw [if_neg an, if_neg an])
            omega
      have e3 := e2 G 0 h0 (by omega) (Or.inl (by unfold mf_ab; rw [if_pos rfl]; exact s0))
      rw [mf_ld_root hp hg] at e3
      omega
    · have hC0 : C = 0 := by
        cases C with
        | zero => rfl
        | succ c => have := hg 0 (by omega); omega
      subst hC0
      have hG0 : G = 0 := by omega
      subst hG0
      exact Int.le_refl _
  have e4 : mf_zsz R C z = mf_sm C (fun c => mf_sm R (fun r => if S (20 + r) = true then z c r else 0)) + mf_sm C (fun c => mf_sm R (fun r => if S (20 + r) = true then 0 else z c r)) := by
    unfold mf_zsz
    rw [← mf_sm_add]
    refine mf_sm_congr (fun c _ => ?_)
    rw [← mf_sm_add]
    refine mf_sm_congr (fun r _ => ?_)
    split <;> omega
  show mf_nd0 R need (fun r => !!S (20 + r)) + mf_sup G par lim (mf_so R C grp X cnt (fun r => !S (20 + r))) ≤ val
  omega
end Cut
