/-! the network that is laid -/
def rS (w : zN) (F : Nat → Nat → Int → Int → Int) : Int := mf_sm (w.1 / 2) (fun k => F (w.2.1 (2 * k)) (w.2.2.1 (2 * k)) (w.2.2.2.1 (2 * k)).toInt (w.2.2.2.2 (2 * k)).toInt)
def rW (w : zN) : Prop := w.1 % 2 = 0 ∧ ∀ k, 2 * k < w.1 → w.2.1 (2 * k + 1) = w.2.2.1 (2 * k) ∧ w.2.2.1 (2 * k + 1) = w.2.1 (2 * k) ∧ w.2.2.2.1 (2 * k + 1) = 0 ∧ w.2.2.2.2 (2 * k + 1) = - w.2.2.2.2 (2 * k)
theorem rf_updL_s (f : Nat → Int64) (k : Nat) (v : Int64) : vp_updL f k v k = v := if_pos rfl
theorem rf_updL_n (f : Nat → Int64) {k j : Nat} (v : Int64) (h : j ≠ k) : vp_updL f k v j = f j := if_neg h
theorem rf_up2 (f : Nat → Nat) (a x y : Nat) : mf_up (mf_up f a x) (a + 1) y a = x := by rw [mf_up_n _ _ (by omega), mf_up_s]
theorem rS_0 (q : (Nat → Nat) × (Nat → Nat) × (Nat → Int32) × (Nat → Int64)) (F : Nat → Nat → Int → Int → Int) : rS (0, q) F = 0 := by
  show mf_sm (0 / 2) _ = 0
  rw [Nat.zero_div]; rfl
theorem rf_zly {w : zN} (h : rW w) (x y : Nat) (z : Int32) (c : Int64) : rW (zly x y z c w) ∧ ∀ F, rS (zly x y z c w) F = rS w F + F x y z.toInt c.toInt := by
  obtain ⟨h0, h1⟩ := h
  obtain ⟨K, hK⟩ : ∃ K, w.1 = 2 * K := ⟨w.1 / 2, by omega⟩
  refine ⟨⟨by show (w.1 + 2) % 2 = 0; omega, fun k hk => ?_⟩, fun F => ?_⟩
  · have hk' : 2 * k < w.1 + 2 := hk
    show mf_up (mf_up w.2.1 w.1 x) (w.1 + 1) y (2 * k + 1) = mf_up (mf_up w.2.2.1 w.1 y) (w.1 + 1) x (2 * k) ∧ mf_up (mf_up w.2.2.1 w.1 y) (w.1 + 1) x (2 * k + 1) = mf_up (mf_up w.2.1 w.1 x) (w.1 + 1) y (2 * k) ∧ upd (upd w.2.2.2.1 w.1 z) (w.1 + 1) 0 (2 * k + 1) = 0 ∧ vp_updL (vp_updL w.2.2.2.2 w.1 c) (w.1 + 1) (-c) (2 * k + 1) = - vp_updL (vp_updL w.2.2.2.2 w.1 c) (w.1 + 1) (-c) (2 * k)
    by_cases e : k = K
    · subst e; rw [hK]
      refine ⟨?_, ?_, ?_, ?_⟩
      · rw [mf_up_s, mf_up_n _ _ (by omega), mf_up_s]
      · rw [mf_up_s, mf_up_n _ _ (by omega), mf_up_s]
      · rw [rf_upd_s]
      · rw [rf_updL_s, rf_updL_n _ _ (by omega), rf_updL_s]
    · have h2 := h1 k (by omega)
      rw [mf_up_n _ _ (by omega), mf_up_n _ _ (by omega), mf_up_n _ _ (by omega), mf_up_n _ _ (by omega), mf_up_n _ _ (by omega), mf_up_n _ _ (by omega), mf_up_n _ _ (by omega), mf_up_n _ _ (by omega),
        rf_upd_n _ _ (by omega), rf_upd_n _ _ (by omega), rf_updL_n _ _ (by omega), rf_updL_n _ _ (by omega), rf_updL_n _ _ (by omega), rf_updL_n _ _ (by omega)]
      exact h2
  · show mf_sm ((w.1 + 2) / 2) (fun k => F (mf_up (mf_up w.2.1 w.1 x) (w.1 + 1) y (2 * k)) (mf_up (mf_up w.2.2.1 w.1 y) (w.1 + 1) x (2 * k)) (upd (upd w.2.2.2.1 w.1 z) (w.1 + 1) 0 (2 * k)).toInt (vp_updL (vp_updL w.2.2.2.2 w.1 c) (w.1 + 1) (-c) (2 * k)).toInt) = _
    rw [show (w.1 + 2) / 2 = w.1 / 2 + 1 by omega, mf_sm_s]
    congr 1
    · refine mf_sm_congr (fun k hk => ?_)
      show F (mf_up (mf_up w.2.1 w.1 x) (w.1 + 1) y (2 * k)) (mf_up (mf_up w.2.2.1 w.1 y) (w.1 + 1) x (2 * k)) (upd (upd w.2.2.2.1 w.1 z) (w.1 + 1) 0 (2 * k)).toInt (vp_updL (vp_updL w.2.2.2.2 w.1 c) (w.1 + 1) (-c) (2 * k)).toInt = F (w.2.1 (2 * k)) (w.2.2.1 (2 * k)) (w.2.2.2.1 (2 * k)).toInt (w.2.2.2.2 (2 * k)).toInt
      rw [mf_up_n _ _ (by omega), mf_up_n _ _ (by omega), mf_up_n _ _ (by omega), mf_up_n _ _ (by omega), rf_upd_n _ _ (by omega), rf_upd_n _ _ (by omega), rf_updL_n _ _ (by omega), rf_updL_n _ _ (by omega)]
    · show F (mf_up (mf_up w.2.1 w.1 x) (w.1 + 1) y (2 * (w.1 / 2))) (mf_up (mf_up w.2.2.1 w.1 y) (w.1 + 1) x (2 * (w.1 / 2))) (upd (upd w.2.2.2.1 w.1 z) (w.1 + 1) 0 (2 * (w.1 / 2))).toInt (vp_updL (vp_updL w.2.2.2.2 w.1 c) (w.1 + 1) (-c) (2 * (w.1 / 2))).toInt = F x y z.toInt c.toInt
      rw [show 2 * (w.1 / 2) = w.1 by omega, rf_up2, rf_up2, rf_upd_n _ _ (by omega), rf_updL_n _ _ (by omega), rf_upd_s, rf_updL_s]
theorem rf_zlt {q : zN} (h : rW q) (pa lm : Nat → Int32) : ∀ n, rW (zlt pa lm q n) ∧ ∀ F, rS (zlt pa lm q n) F = rS q F + mf_sm n (fun g => F (mf_ab (rp pa) g) (2 + g) (rL lm g) 0)
  | 0 => ⟨h, fun F => by show rS q F = rS q F + 0; omega⟩
  | n + 1 => by
    obtain ⟨h1, h2⟩ := rf_zlt h pa lm n
    obtain ⟨h3, h4⟩ := rf_zly h1 (zab0 pa n) (2 + n) (zro (lm n)) 0
    refine ⟨h3, fun F => ?_⟩
    rw [mf_sm_s]; show rS (zly (zab0 pa n) (2 + n) (zro (lm n)) 0 (zlt pa lm q n)) F = _
    rw [h4, h2, Int.add_assoc]; rfl
theorem rf_zlr {q : zN} (h : rW q) (nd : Nat → Int32) : ∀ n, rW (zlr nd q (n + 1)) ∧ ∀ F, rS (zlr nd q (n + 1)) F = rS q F + mf_sm n (fun r => F (20 + r) 1 (nd (r + 1)).toInt 0)
  | 0 => ⟨h, fun F => by show rS q F = rS q F + 0; omega⟩
  | n + 1 => by
    obtain ⟨h1, h2⟩ := rf_zlr h nd n
    obtain ⟨h3, h4⟩ := rf_zly h1 (19 + (n + 1)) 1 (nd (n + 1)) 0
    refine ⟨h3, fun F => ?_⟩
    rw [mf_sm_s]; show rS (zly (19 + (n + 1)) 1 (nd (n + 1)) 0 (zlr nd q (n + 1))) F = _
    rw [h4, h2, Int.add_assoc, show 19 + (n + 1) = 20 + n by omega]; rfl
theorem rf_zlC {q : zN} (h : rW q) (ct : Nat → Int32) {c : Nat} (hc : c < 32) (b t : Int64) : ∀ n, rW (zlC ct c b t q (n + 1)) ∧ ∀ F, rS (zlC ct c b t q (n + 1)) F = rS q F + mf_sm n (fun r => if rc ct c (r + 1) = true then F (8 + c) (20 + r) 1 (b + Int32.toInt64 (nI (r + 1)) * t).toInt else 0)
  | 0 => ⟨h, fun F => by show rS q F = rS q F + 0; omega⟩
  | n + 1 => by
    obtain ⟨h1, h2⟩ := rf_zlC h ct hc b t n
    have e0 : zlC ct c b t q (n + 1 + 1) = if zh (ct (n + 1)) (nI c) = true then zly (8 + c) (19 + (n + 1)) 1 (b + Int32.toInt64 (nI (n + 1)) * t) (zlC ct c b t q (n + 1)) else zlC ct c b t q (n + 1) := rfl
    rw [e0, rb_zh hc]
    by_cases e : rb (ct (n + 1)) c = true
    · obtain ⟨h3, h4⟩ := rf_zly h1 (8 + c) (19 + (n + 1)) 1 (b + Int32.toInt64 (nI (n + 1)) * t)
      rw [if_pos e]
      refine ⟨h3, fun F => ?_⟩
      have e' : rc ct c (n + 1) = true := e
      rw [mf_sm_s, h4, h2, if_pos e', Int.add_assoc, show 19 + (n + 1) = 20 + n by omega]; rfl
    · rw [if_neg e]
      refine ⟨h1, fun F => ?_⟩
      have e' : ¬ rc ct c (n + 1) = true := e
      rw [mf_sm_s, h2, if_neg e', Int.add_zero]
theorem rf_costA : ∀ j, j < 12 → ∀ r, r < 5 → (Int32.toInt64 (-6) * zwt j + Int32.toInt64 (nI (r + 1)) * zwt j).toInt = mf_bc (11 - j) (r + 1) := by decide +kernel
theorem rf_zab {q : zN} (h : rW q) (go ct : Nat → Int32) {R : Nat} (hR : R ≤ 5) (cs : Int32) : ∀ n, n ≤ 12 → rW (zab go ct R cs q n) ∧ ∀ F, rS (zab go ct R cs q n) F = rS q F + mf_sm n (fun j => (fun c => if rb cs c = true then F (2 + rp go c) (8 + c) 1 0 + mf_sm R (fun r => if rc ct c (r + 1) = true then F (8 + c) (20 + r) 1 (mf_bc c (r + 1)) else 0) else 0) (11 - j))
  | 0, _ => ⟨h, fun F => by show rS q F = rS q F + 0; omega⟩
  | n + 1, hn => by
    obtain ⟨h1, h2⟩ := rf_zab h go ct hR cs n (by omega)
    have e0 : zab go ct R cs q (n + 1) = if zh cs (nI (11 - n)) = true then zlC ct (11 - n) (Int32.toInt64 (-6) * zwt n) (zwt n) (zlc0 go (11 - n) (zab go ct R cs q n)) (R + 1) else zab go ct R cs q n := rfl
    rw [e0, rb_zh (by omega)]
    by_cases e : rb cs (11 - n) = true
    · obtain ⟨h3, h4⟩ := rf_zly h1 (2 + rp go (11 - n)) (8 + (11 - n)) 1 0
      obtain ⟨h5, h6⟩ := rf_zlC h3 ct (c := 11 - n) (by omega) (Int32.toInt64 (-6) * zwt n) (zwt n) R
      rw [if_pos e]
      refine ⟨h5, fun F => ?_⟩
      rw [mf_sm_s]
      show rS (zlC ct (11 - n) (Int32.toInt64 (-6) * zwt n) (zwt n) (zly (2 + rp go (11 - n)) (8 + (11 - n)) 1 0 (zab go ct R cs q n)) (R + 1)) F = _ + (_ + if rb cs (11 - n) = true then _ else 0)
      rw [h6, h4, h2, if_pos e, Int.add_assoc, Int.add_assoc]
      congr 2; congr 1
      refine mf_sm_congr (fun r hr => ?_)
      rw [rf_costA n (by omega) r (by omega)]
    · rw [if_neg e]
      refine ⟨h1, fun F => ?_⟩
      rw [mf_sm_s, h2]
      show _ = _ + (_ + if rb cs (11 - n) = true then _ else 0)
      rw [if_neg e, Int.add_zero]
theorem mf_sm_first (n : Nat) (F : Nat → Int) : mf_sm (n + 1) F = F 0 + mf_sm n (fun k => F (k + 1)) := by
  induction n with
  | zero => show 0 + F 0 = F 0 + 0; omega
  | succ k ih => rw [mf_sm_s, ih, mf_sm_s]; omega
theorem mf_sm_rev (F : Nat → Int) : ∀ n, mf_sm (n + 1) (fun j => F (n - j)) = mf_sm (n + 1) F
  | 0 => rfl
  | n + 1 => by
    rw [mf_sm_first, mf_sm_s (n + 1) F, ← mf_sm_rev F n, Int.add_comm]
    congr 1
    exact mf_sm_congr (fun k hk => by show F (n + 1 - (k + 1)) = F (n - k); congr 1; omega)
def rN (nd : Nat → Int32) (r : Nat) : Int := (nd r).toInt
theorem rf_layA {G C R : Nat} (pa lm go nd ct : Nat → Int32) {cs : Int32} (w : zN) (hC : C ≤ 12) (hR : R ≤ 5) (hcs : ∀ c, C ≤ c → rb cs c = false) :
    rW (zQA G R pa lm go nd ct cs w) ∧ ∀ F, rS (zQA G R pa lm go nd ct cs w) F = mf_bs G R C (rp pa) (rp go) (rb cs) (rc ct) (rL lm) (rN nd) mf_bc F := by
  have h0 : rW (0, w.2) := ⟨rfl, fun k hk => absurd hk (Nat.not_lt_zero _)⟩
  obtain ⟨h1, h2⟩ := rf_zlt h0 pa lm G
  obtain ⟨h3, h4⟩ := rf_zlr h1 nd R
  obtain ⟨h5, h6⟩ := rf_zab h3 go ct hR cs 12 (Nat.le_refl _)
  refine ⟨h5, fun F => ?_⟩
  unfold zQA; rw [h6, h4, h2]
  have e0 : rS (0, w.2) F = 0 := rS_0 _ F
  rw [e0, mf_sm_rev (fun c => if rb cs c = true then F (2 + rp go c) (8 + c) 1 0 + mf_sm R (fun r => if rc ct c (r + 1) = true then F (8 + c) (20 + r) 1 (mf_bc c (r + 1)) else 0) else 0) 11]
  rw [mf_sm_ext hC (fun c h1 h2 => by rw [hcs c h1]; rfl)]
  unfold mf_bs; rw [Int.zero_add]; rfl
theorem rf_costF : ∀ b : Bool, ∀ r, r < 5 → ((if b = true then (1 : Int64) else 0) + Int32.toInt64 (nI (r + 1)) * 0).toInt = mf_b b := by decide +kernel
theorem rf_zfa {q : zN} (h : rW q) (go ct : Nat → Int32) {R : Nat} (hR : R ≤ 5) (ha fu : Int32) : ∀ n, n ≤ 12 → rW (zfa go ct R ha fu q n) ∧ ∀ F, rS (zfa go ct R ha fu q n) F = rS q F + mf_sm n (fun c => if rb (ha ||| fu) c = true then F (2 + rp go c) (8 + c) 1 0 + mf_sm R (fun r => if rc ct c (r + 1) = true then F (8 + c) (20 + r) 1 (mf_b (rb fu c)) else 0) else 0)
  | 0, _ => ⟨h, fun F => by show rS q F = rS q F + 0; omega⟩
  | n + 1, hn => by
    obtain ⟨h1, h2⟩ := rf_zfa h go ct hR ha fu n (by omega)
    have e0 : zfa go ct R ha fu q (n + 1) = if zh (ha ||| fu) (nI n) = true then zlC ct n (if zh fu (nI n) = true then 1 else 0) 0 (zlc0 go n (zfa go ct R ha fu q n)) (R + 1) else zfa go ct R ha fu q n := rfl
    rw [e0, rb_zh (by omega), rb_zh (by omega)]
    by_cases e : rb (ha ||| fu) n = true
    · obtain ⟨h3, h4⟩ := rf_zly h1 (2 + rp go n) (8 + n) 1 0
      obtain ⟨h5, h6⟩ := rf_zlC h3 ct (c := n) (by omega) (if rb fu n = true then 1 else 0) 0 R
      rw [if_pos e]
      refine ⟨h5, fun F => ?_⟩
      rw [mf_sm_s]
      show rS (zlC ct n (if rb fu n = true then 1 else 0) 0 (zly (2 + rp go n) (8 + n) 1 0 (zfa go ct R ha fu q n)) (R + 1)) F = _
      rw [h6, h4, h2, if_pos e, Int.add_assoc, Int.add_assoc]
      congr 2; congr 1
      refine mf_sm_congr (fun r hr => ?_)
      rw [rf_costF (rb fu n) r (by omega)]
    · rw [if_neg e]
      refine ⟨h1, fun F => ?_⟩
      rw [mf_sm_s, h2, if_neg e, Int.add_zero]
theorem rf_layF {G C R : Nat} (pa lm go nd ct : Nat → Int32) (ha fu : Int32) (w : zN) (hC : C ≤ 12) (hR : R ≤ 5) :
    rW (zQF G C R pa lm go nd ct ha fu w) ∧ ∀ F, rS (zQF G C R pa lm go nd ct ha fu w) F = mf_bs G R C (rp pa) (rp go) (rb (ha ||| fu)) (rc ct) (rL lm) (rN nd) (fun c _ => mf_b (rb fu c)) F := by
  have h0 : rW (0, w.2) := ⟨rfl, fun k hk => absurd hk (Nat.not_lt_zero _)⟩
  obtain ⟨h1, h2⟩ := rf_zlt h0 pa lm G
  obtain ⟨h3, h4⟩ := rf_zlr h1 nd R
  obtain ⟨h5, h6⟩ := rf_zfa h3 go ct hR ha fu C hC
  refine ⟨h5, fun F => ?_⟩
  unfold zQF; rw [h6, h4, h2]
  have e0 : rS (0, w.2) F = 0 := rS_0 _ F
  rw [e0]; unfold mf_bs; rw [Int.zero_add]; rfl
