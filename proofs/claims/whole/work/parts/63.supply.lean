/-! the class's supply and the reference's -/
def rp (pa : Nat → Int32) (g : Nat) : Nat := (pa g).toNatClampNeg
theorem rf_upd_s (f : Nat → Int32) (k : Nat) (v : Int32) : upd f k v k = v := if_pos rfl
theorem rf_upd_n (f : Nat → Int32) {k j : Nat} (v : Int32) (h : j ≠ k) : upd f k v j = f j := if_neg h
theorem rf_zfl (f : Nat → Int32) (v : Int32) : ∀ n j, j < n → zfl f v n j = v
  | 0, j, h => absurd h (Nat.not_lt_zero j)
  | n + 1, j, h => by
    show upd (zfl f v n) n v j = v
    by_cases e : j = n
    · rw [e, rf_upd_s]
    · rw [rf_upd_n _ _ e]; exact rf_zfl f v n j (by omega)
theorem rf_zmin (a b : Int32) : (zmin a b).toInt = mf_mn a.toInt b.toInt := by
  unfold zmin mf_mn
  by_cases h : b < a
  · rw [if_pos h, if_neg (by have := rf_lt.1 h; omega)]
  · rw [if_neg h]; have : ¬ b.toInt < a.toInt := fun z => h (rf_lt.2 z)
    rw [if_pos (by omega)]
theorem rf_zmw {G : Nat} {pa lm ci tb : Nat → Int32} {set : Int32} {lim own : Nat → Int} (hG : G ≤ 6) (hp : mf_tr G (rp pa)) (h0 : ∀ g, g < 6 → tb g = 0)
    (hl : ∀ g, g < G → lim g = (zro (lm g)).toInt ∧ 0 ≤ lim g) (ho : ∀ g, g < G → own g = (zbc (set &&& ci g)).toInt ∧ 0 ≤ own g) (hN : mf_sm G own ≤ 12) :
    ∀ j, j < G → ∀ g, g < G - j → (zmw G pa lm ci tb set j g).toInt = mf_mac G (rp pa) lim own j g
  | 0, _, g, hg => by show (tb g).toInt = 0; rw [h0 g (by omega)]; exact rf_i0
  | j + 1, hj, g, hg => by
    have ih := rf_zmw hG hp h0 hl ho hN j (by omega)
    have hk0 : 0 < G - 1 - j := by omega
    have hpk := hp (G - 1 - j) hk0 (by omega)
    have l1 : ∀ g, g < G → 0 ≤ lim g := fun g h => (hl g h).2
    have o1 : ∀ g, g < G → 0 ≤ own g := fun g h => (ho g h).2
    have b1 := mf_mac_le (lim := lim) hp l1 o1 (j := j) (g := G - 1 - j) (by omega) (by omega)
    have n1 := mf_mac_nn (par := rp pa) l1 o1 j (by omega) (G - 1 - j)
    have hs := o1 (G - 1 - j) (by omega)
    have e1 : (zti lm ci (zmw G pa lm ci tb set j) set (G - 1 - j)).toInt = mf_mn (lim (G - 1 - j)) (mf_mac G (rp pa) lim own j (G - 1 - j) + own (G - 1 - j)) := by
      unfold zti; rw [rf_zmin, ← (hl (G - 1 - j) (by omega)).1]
      rw [rf_add (by rw [ih _ (by omega), ← (ho _ (by omega)).1]; omega) (by rw [ih _ (by omega), ← (ho _ (by omega)).1]; omega), ih _ (by omega), ← (ho _ (by omega)).1]
    show (upd _ (rp pa (G - 1 - j)) _ g).toInt = mf_up _ _ _ g
    by_cases e : g = rp pa (G - 1 - j)
    · subst e
      rw [rf_upd_s, mf_up_s]
      have ip := ih (rp pa (G - 1 - j)) (by omega)
      have b2 := mf_mac_le (lim := lim) hp l1 o1 (j := j) (g := rp pa (G - 1 - j)) (by omega) (by omega)
      have n2 := mf_mac_nn (par := rp pa) l1 o1 j (by omega) (rp pa (G - 1 - j))
      have o2 := o1 (rp pa (G - 1 - j)) (by omega)
      have m1 := mf_mn_le (lim (G - 1 - j)) (mf_mac G (rp pa) lim own j (G - 1 - j) + own (G - 1 - j))
      have m2 := mf_mn_nn (l1 (G - 1 - j) (by omega)) (Int.add_nonneg n1 hs)
      have ip' : (zmw G pa lm ci tb set j (pa (G - 1 - j)).toNatClampNeg).toInt = mf_mac G (rp pa) lim own j (rp pa (G - 1 - j)) := ip
      rw [rf_add (by rw [ip', e1]; omega) (by rw [ip', e1]; omega), ip', e1]
    · rw [rf_upd_n _ _ e, mf_up_n _ _ e]; exact ih g (by omega)
theorem rf_zsu {G : Nat} {pa lm ci : Nat → Int32} (tb : Nat → Int32) {set : Int32} {lim own : Nat → Int} (hG : G ≤ 6) (hp : mf_tr G (rp pa))
    (hl : ∀ g, g < G → lim g = (zro (lm g)).toInt ∧ 0 ≤ lim g) (ho : ∀ g, g < G → own g = (zbc (set &&& ci g)).toInt ∧ 0 ≤ own g) (hN : mf_sm G own ≤ 12) :
    (zsu G pa lm ci tb set).toInt = mf_sup G (rp pa) lim own := by
  by_cases h : G = 0
  · subst h; exact rf_i0
  · have l1 : ∀ g, g < G → 0 ≤ lim g := fun g h => (hl g h).2
    have o1 : ∀ g, g < G → 0 ≤ own g := fun g h => (ho g h).2
    have e := rf_zmw (tb := zfl tb 0 6) hG hp (fun g hg => rf_zfl tb 0 6 g hg) hl ho hN (G - 1) (by omega) 0 (by omega)
    have b1 := mf_mac_le (lim := lim) hp l1 o1 (j := G - 1) (g := 0) (by omega) (by omega)
    have n1 := mf_mac_nn (par := rp pa) l1 o1 (G - 1) (by omega) 0
    have hs := o1 0 (by omega)
    rw [mf_mac_sup (by omega)]
    unfold zsu zms; rw [if_neg h]; unfold zti
    have e' : (zsm G pa lm ci tb set 0).toInt = mf_mac G (rp pa) lim own (G - 1) 0 := e
    rw [rf_zmin, ← (hl 0 (by omega)).1]
    rw [rf_add (by rw [e', ← (ho 0 (by omega)).1]; omega) (by rw [e', ← (ho 0 (by omega)).1]; omega), e', ← (ho 0 (by omega)).1]
/-! the reference -/
def rf_lm (lm tk : Nat → Int32) (N : Int) (lim : Nat → Int) (g : Nat) : Prop := 0 ≤ lim g ∧ (((lm g).toInt < 0 ∧ N ≤ lim g) ∨ (0 ≤ (lm g).toInt ∧ (lm g - tk g).toInt = lim g))
theorem rf_ycl {lm tk : Nat → Int32} {N : Int} {lim : Nat → Int} {g : Nat} (h : rf_lm lm tk N lim g) {v : Int32} (hv : v.toInt ≤ N) : (ycl (lm g) (tk g) v).toInt = mf_mn (lim g) v.toInt := by
  unfold ycl mf_mn
  rcases h.2 with ⟨h1, h2⟩ | ⟨h1, h2⟩
  · rw [if_pos (rf_lt.2 (by rw [rf_i0]; exact h1))]; split <;> omega
  · rw [if_neg (fun z => by have := rf_lt.1 z; rw [rf_i0] at this; omega)]
    by_cases e : v ≤ lm g - tk g
    · rw [if_pos e]; have := rf_le.1 e; split <;> omega
    · rw [if_neg e]; have : ¬ v.toInt ≤ (lm g - tk g).toInt := fun z => e (rf_le.2 z)
      rw [if_pos (by omega)]; omega
theorem rf_yh3 {G : Nat} {pa lm tk hv : Nat → Int32} {lim own : Nat → Int} (hG : G ≤ 6) (hp : mf_tr G (rp pa)) (h0 : ∀ g, g < G → (hv g).toInt = own g ∧ 0 ≤ own g)
    (hl : ∀ g, g < G → rf_lm lm tk (mf_sm G own) lim g) (hN : mf_sm G own ≤ 12) :
    ∀ j, j < G → ∀ g, g < G - j → (yh3 G pa lm tk hv j g).toInt = mf_mac G (rp pa) lim own j g + own g
  | 0, _, g, hg => by show (hv g).toInt = 0 + own g; rw [(h0 g (by omega)).1]; omega
  | j + 1, hj, g, hg => by
    have ih := rf_yh3 hG hp h0 hl hN j (by omega)
    have hk0 : 0 < G - 1 - j := by omega
    have hpk := hp (G - 1 - j) hk0 (by omega)
    have l1 : ∀ g, g < G → 0 ≤ lim g := fun g h => (hl g h).1
    have o1 : ∀ g, g < G → 0 ≤ own g := fun g h => (h0 g h).2
    have b1 := mf_mac_le (lim := lim) hp l1 o1 (j := j) (g := G - 1 - j) (by omega) (by omega)
    have n1 := mf_mac_nn (par := rp pa) l1 o1 j (by omega) (G - 1 - j)
    have hs := o1 (G - 1 - j) (by omega)
    have ik := ih (G - 1 - j) (by omega)
    have e1 := rf_ycl (hl (G - 1 - j) (by omega)) (v := yh3 G pa lm tk hv j (G - 1 - j)) (by rw [ik]; exact b1)
    rw [ik] at e1
    show (yhs pa lm tk (G - 1 - j) (yh3 G pa lm tk hv j) g).toInt = mf_up _ _ _ g + own g
    unfold yhs; rw [if_neg (by omega), rf_upd_s]
    show (upd _ (rp pa (G - 1 - j)) (upd _ _ _ (rp pa (G - 1 - j)) + _) g).toInt = _
    rw [rf_upd_n (j := rp pa (G - 1 - j)) (k := G - 1 - j) _ _ (by omega)]
    by_cases e : g = rp pa (G - 1 - j)
    · subst e
      rw [rf_upd_s, mf_up_s]
      have ip := ih (rp pa (G - 1 - j)) (by omega)
      have b2 := mf_mac_le (lim := lim) hp l1 o1 (j := j) (g := rp pa (G - 1 - j)) (by omega) (by omega)
      have n2 := mf_mac_nn (par := rp pa) l1 o1 j (by omega) (rp pa (G - 1 - j))
      have o2 := o1 (rp pa (G - 1 - j)) (by omega)
      have m1 := mf_mn_le (lim (G - 1 - j)) (mf_mac G (rp pa) lim own j (G - 1 - j) + own (G - 1 - j))
      have m2 := mf_mn_nn (l1 (G - 1 - j) (by omega)) (Int.add_nonneg n1 hs)
      rw [rf_add (by rw [ip, e1]; omega) (by rw [ip, e1]; omega), ip, e1]; omega
    · rw [rf_upd_n _ _ e, mf_up_n _ _ e, rf_upd_n _ _ (by omega)]; exact ih g (by omega)
theorem rf_yh3_0 {G : Nat} {pa lm tk hv : Nat → Int32} {lim own : Nat → Int} (h : 0 < G) (hG : G ≤ 6) (hp : mf_tr G (rp pa)) (h0 : ∀ g, g < G → (hv g).toInt = own g ∧ 0 ≤ own g)
    (hl : ∀ g, g < G → rf_lm lm tk (mf_sm G own) lim g) (hN : mf_sm G own ≤ 12) : (yh3 G pa lm tk hv G 0).toInt = mf_sup G (rp pa) lim own := by
  obtain ⟨k, hk⟩ : ∃ k, G = k + 1 := ⟨G - 1, by omega⟩
  have l1 : ∀ g, g < G → 0 ≤ lim g := fun g h => (hl g h).1
  have o1 : ∀ g, g < G → 0 ≤ own g := fun g h => (h0 g h).2
  have b1 := mf_mac_le (lim := lim) hp l1 o1 (j := G - 1) (g := 0) (by omega) (by omega)
  have ih := rf_yh3 hG hp h0 hl hN (G - 1) (by omega) 0 (by omega)
  have e1 := rf_ycl (hl 0 h) (v := yh3 G pa lm tk hv (G - 1) 0) (by rw [ih]; exact b1)
  rw [ih] at e1
  rw [mf_mac_sup h, ← e1]
  subst hk
  show (yhs pa lm tk (k + 1 - 1 - k) (yh3 (k + 1) pa lm tk hv k) 0).toInt = _
  unfold yhs; rw [if_pos (by omega), show k + 1 - 1 - k = 0 by omega, rf_upd_s]; rfl
def rf_sel (cn : Nat → Int32) (set some0 : Int32) (c : Nat) : Bool := rb some0 c && decide (¬ cn c &&& set = 0)
theorem rf_yh2 {C : Nat} {go cn hv : Nat → Int32} {set some0 : Int32} (h0 : ∀ g, g < 6 → hv g = 0) : ∀ n, n ≤ 12 → ∀ g, g < 6 → (yh2 go cn set some0 hv n g).toInt = mf_own n (rp go) (fun c => mf_b (rf_sel cn set some0 c)) g ∧ 0 ≤ (yh2 go cn set some0 hv n g).toInt ∧ (yh2 go cn set some0 hv n g).toInt ≤ n
  | 0, _, g, hg => by
    have : yh2 go cn set some0 hv 0 g = 0 := h0 g hg
    rw [this, rf_i0]; exact ⟨rfl, Int.le_refl _, Int.le_refl _⟩
  | n + 1, hn, g, hg => by
    have ih := rf_yh2 (C := C) (go := go) (cn := cn) (set := set) (some0 := some0) h0 n (by omega) g hg
    have hs : ((some0 >>> (nI n &&& 31)) &&& 1 = 1 ∧ ¬ cn n &&& set = 0) ↔ rf_sel cn set some0 n = true := by
      unfold rf_sel; rw [rb_ref (by omega)]; simp
    have e2 : mf_own (n + 1) (rp go) (fun c => mf_b (rf_sel cn set some0 c)) g = mf_own n (rp go) (fun c => mf_b (rf_sel cn set some0 c)) g + (if rp go n = g then mf_b (rf_sel cn set some0 n) else 0) := by unfold mf_own; rw [mf_sm_s]
    rw [e2]
    by_cases e : rf_sel cn set some0 n = true
    · have h1 : yh2 go cn set some0 hv (n + 1) = upd (yh2 go cn set some0 hv n) (rp go n) (yh2 go cn set some0 hv n (rp go n) + 1) := if_pos (hs.2 e)
      rw [h1, e]
      by_cases eg : rp go n = g
      · subst eg
        rw [rf_upd_s, if_pos rfl, rf_add (by rw [rf_i1]; omega) (by rw [rf_i1]; omega), rf_i1]
        have : mf_b true = 1 := rfl
        omega
      · rw [rf_upd_n _ _ (fun z => eg z.symm), if_neg eg]; omega
    · have h1 : yh2 go cn set some0 hv (n + 1) = yh2 go cn set some0 hv n := if_neg (fun z => e (hs.1 z))
      have h2 : mf_b (rf_sel cn set some0 n) = 0 := by rw [Bool.eq_false_iff.2 e]; rfl
      rw [h1, h2, show (if rp go n = g then (0 : Int) else 0) = 0 by split <;> rfl]
      omega
/-- the reference's supply -/
theorem rf_yhv {G C : Nat} {pa lm tk go cn : Nat → Int32} {set some0 : Int32} (hv : Nat → Int32) {lim : Nat → Int} (hG : G ≤ 6) (hC : C ≤ 12) (hC0 : G = 0 → C = 0) (hp : mf_tr G (rp pa)) (hgo : ∀ c, c < C → rp go c < G)
    (hl : ∀ g, g < G → rf_lm lm tk (mf_sm C (fun c => mf_b (rf_sel cn set some0 c))) lim g) :
    (yhv G C pa lm tk go cn set some0 hv 0).toInt = mf_sup G (rp pa) lim (mf_own C (rp go) (fun c => mf_b (rf_sel cn set some0 c))) := by
  have hz : ∀ g, g < 6 → zfl hv 0 6 g = 0 := fun g hg => rf_zfl hv 0 6 g hg
  have h2 := rf_yh2 (C := C) (go := go) (cn := cn) (set := set) (some0 := some0) hz C hC
  have hs := mf_own_sum (C := C) (G := G) (grp := rp go) (x := fun c => mf_b (rf_sel cn set some0 c)) (fun c hc _ => hgo c hc)
  by_cases h : G = 0
  · subst h
    have := hC0 rfl; subst this
    show (zfl hv 0 6 0).toInt = 0; rw [hz 0 (by omega)]; exact rf_i0
  · unfold yhv
    refine rf_yh3_0 (by omega) hG hp (fun g hg => ⟨(h2 g (by omega)).1, ?_⟩) (fun g hg => by rw [hs]; exact hl g hg) ?_
    · exact mf_own_nn (fun c _ => (mf_b_01 _).1) g
    · rw [hs]; have := rf_sm_b (n := C) (fun c => rf_sel cn set some0 c); omega
