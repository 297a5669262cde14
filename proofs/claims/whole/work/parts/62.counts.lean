/-! how many bits -/
def rf_ss (x : Int32) : Prop := ∀ i, 12 ≤ i → rb x i = false
theorem rf_ss_nI {x : Int32} (h : rf_ss x) : ∃ n, n < 4096 ∧ x = nI n ∧ ∀ i, rb x i = n.testBit i := by
  refine ⟨x.toBitVec.toNat, ?_, ?_, fun i => rfl⟩
  · refine Nat.lt_of_not_le (fun hc => ?_)
    obtain ⟨i, hi, hb⟩ := Nat.exists_testBit_of_ne_zero (x := x.toBitVec.toNat / 4096) (by omega) |>.elim (fun i hi => (⟨i, trivial, hi⟩ : ∃ i, True ∧ (x.toBitVec.toNat / 4096).testBit i = true))
    have h1 : (x.toBitVec.toNat / 2 ^ 12).testBit i = true := hb
    rw [Nat.testBit_div_two_pow] at h1
    have h2 := h (i + 12) (by omega)
    have h3 : rb x (i + 12) = x.toBitVec.toNat.testBit (i + 12) := rfl
    rw [h3] at h2
    rw [h2] at h1; exact absurd h1 (by decide)
  · apply Int32.toBitVec_inj.1
    unfold nI; rw [Int32.toBitVec_ofNat', BitVec.ofNat_toNat]; simp
def rf_pc (n : Nat) : Int := mf_sm 12 (fun i => mf_b (n.testBit i))
theorem rf_pop1 : ((List.range 64).all fun a => (List.range 64).all fun b => decide ((zbc (nI (64 * a + b))).toInt = rf_pc (64 * a + b))) = true := by decide +kernel
theorem rf_pop {n : Nat} (h : n < 4096) : (zbc (nI n)).toInt = rf_pc n := by
  have h1 := List.all_eq_true.1 rf_pop1 (n / 64) (List.mem_range.2 (by omega))
  have h2 := List.all_eq_true.1 h1 (n % 64) (List.mem_range.2 (by omega))
  have h3 := of_decide_eq_true h2
  rwa [show 64 * (n / 64) + n % 64 = n by omega] at h3
theorem rf_zbc {x : Int32} (h : rf_ss x) : (zbc x).toInt = mf_sm 12 (fun i => mf_b (rb x i)) := by
  obtain ⟨n, h1, h2, h3⟩ := rf_ss_nI h
  rw [h2, rf_pop h1]; unfold rf_pc
  refine mf_sm_congr (fun i _ => ?_)
  rw [← h3 i, h2]
theorem mf_b_01 (x : Bool) : 0 ≤ mf_b x ∧ mf_b x ≤ 1 := by cases x <;> decide
theorem rf_sm_b {n : Nat} (F : Nat → Bool) : 0 ≤ mf_sm n (fun i => mf_b (F i)) ∧ mf_sm n (fun i => mf_b (F i)) ≤ n := by
  induction n with
  | zero => exact ⟨Int.le_refl _, Int.le_refl _⟩
  | succ k ih => rw [mf_sm_s]; have := mf_b_01 (F k); omega
theorem rf_ybt (x : Int32) : ∀ n, n ≤ 32 → (ybt x n).toInt = mf_sm n (fun i => mf_b (rb x i))
  | 0, _ => rf_i0
  | n + 1, h => by
    have ih := rf_ybt x n (by omega)
    have hb := rf_sm_b (n := n) (fun i => rb x i)
    rw [mf_sm_s]; show (ybt x n + _).toInt = _
    have h1 : ((x >>> (nI n &&& 31)) &&& 1).toInt = mf_b (rb x n) := by
      rw [rb_sr (by omega)]; unfold mf_b; cases rb x n <;> decide
    have h2 := mf_b_01 (rb x n)
    rw [rf_add (by omega) (by omega), ih, h1]
theorem rf_zbc_ybt {x : Int32} (h : rf_ss x) : zbc x = ybt x 12 := rf_ext (by rw [rf_zbc h, rf_ybt x 12 (by omega)])
/-! the supply by cutting from below, step by step -/
def mf_mac (G : Nat) (par : Nat → Nat) (lim own : Nat → Int) : Nat → (Nat → Int)
  | 0 => fun _ => 0
  | j + 1 => mf_up (mf_mac G par lim own j) (par (G - 1 - j)) (mf_mac G par lim own j (par (G - 1 - j)) + mf_mn (lim (G - 1 - j)) (mf_mac G par lim own j (G - 1 - j) + own (G - 1 - j)))
theorem mf_mac_sp (G : Nat) (par : Nat → Nat) (lim own : Nat → Int) : ∀ j, j ≤ G - 1 → mf_sp par lim own (G - 1) (fun _ => 0) = mf_sp par lim own (G - 1 - j) (mf_mac G par lim own j)
  | 0, _ => rfl
  | j + 1, h => by
    rw [mf_mac_sp G par lim own j (by omega)]
    obtain ⟨k, hk⟩ : ∃ k, G - 1 - j = k + 1 := ⟨G - 1 - j - 1, by omega⟩
    have h2 : G - 1 - (j + 1) = k := by omega
    rw [h2, hk]; show mf_sp par lim own k _ = mf_sp par lim own k _
    congr 1; show _ = mf_up _ _ _; rw [hk]
theorem mf_mac_sup {G : Nat} (h : 0 < G) (par : Nat → Nat) (lim own : Nat → Int) : mf_sup G par lim own = mf_mn (lim 0) (mf_mac G par lim own (G - 1) 0 + own 0) := by
  unfold mf_sup; rw [if_neg (by omega), mf_mac_sp G par lim own (G - 1) (Nat.le_refl _)]
  rw [show G - 1 - (G - 1) = 0 by omega]; rfl
theorem mf_mn_le (a b : Int) : mf_mn a b ≤ b := by unfold mf_mn; split <;> omega
theorem mf_mn_nn {a b : Int} (ha : 0 ≤ a) (hb : 0 ≤ b) : 0 ≤ mf_mn a b := by unfold mf_mn; split <;> omega
theorem mf_mac_nn {G : Nat} {par : Nat → Nat} {lim own : Nat → Int} (h1 : ∀ g, g < G → 0 ≤ lim g) (h2 : ∀ g, g < G → 0 ≤ own g) : ∀ j, j < G → ∀ g, 0 ≤ mf_mac G par lim own j g
  | 0, _, g => Int.le_refl _
  | j + 1, hj, g => by
    have ih := mf_mac_nn (par := par) h1 h2 j (by omega)
    show 0 ≤ mf_up _ _ _ g
    unfold mf_up; split
    · have := mf_mn_nn (h1 (G - 1 - j) (by omega)) (Int.add_nonneg (ih (G - 1 - j)) (h2 (G - 1 - j) (by omega)))
      have := ih (par (G - 1 - j)); omega
    · exact ih g
/-- what lies above never grows -/
theorem mf_mac_sum {G : Nat} {par : Nat → Nat} {lim own : Nat → Int} (hp : mf_tr G par) : ∀ j, j < G → mf_sm (G - j) (fun g => mf_mac G par lim own j g + own g) ≤ mf_sm G own
  | 0, _ => Int.le_of_eq (mf_sm_congr (fun g _ => by show 0 + own g = own g; omega))
  | j + 1, hj => by
    have ih := mf_mac_sum (lim := lim) (own := own) hp j (by omega)
    obtain ⟨k, hk⟩ : ∃ k, G - j = k + 1 := ⟨G - j - 1, by omega⟩
    have h2 : G - (j + 1) = k := by omega
    have h3 : G - 1 - j = k := by omega
    rw [hk, mf_sm_s] at ih
    rw [h2]
    have hk0 : 0 < k := by omega
    have hpk := hp k hk0 (by omega)
    have h4 : mf_sm k (fun g => mf_mac G par lim own (j + 1) g + own g) = mf_sm k (fun g => mf_mac G par lim own j g + own g) + mf_sm k (fun g => if par k = g then mf_mn (lim k) (mf_mac G par lim own j k + own k) else 0) := by
      rw [← mf_sm_add]; refine mf_sm_congr (fun g _ => ?_)
      show mf_up _ _ _ g + own g = _
      rw [h3]; unfold mf_up
      by_cases e : g = par k
      · rw [if_pos e, if_pos e.symm, e]; omega
      · rw [if_neg e, if_neg (fun z => e z.symm)]; omega
    rw [h4, mf_sm_one hpk (fun _ => mf_mn (lim k) (mf_mac G par lim own j k + own k))]
    have := mf_mn_le (lim k) (mf_mac G par lim own j k + own k)
    omega
theorem mf_sm_mem {n k : Nat} {F : Nat → Int} (h : ∀ i, i < n → 0 ≤ F i) (hk : k < n) : F k ≤ mf_sm n F := by
  have h1 := mf_sm_one hk F
  rw [← h1]; refine mf_sm_le (fun i hi => ?_)
  have := h i hi; split <;> omega
theorem mf_mac_le {G : Nat} {par : Nat → Nat} {lim own : Nat → Int} (hp : mf_tr G par) (h1 : ∀ g, g < G → 0 ≤ lim g) (h2 : ∀ g, g < G → 0 ≤ own g) {j g : Nat} (hj : j < G) (hg : g < G - j) : mf_mac G par lim own j g + own g ≤ mf_sm G own := by
  refine Int.le_trans (mf_sm_mem (F := fun g => mf_mac G par lim own j g + own g) (fun i hi => ?_) hg) (mf_mac_sum hp j hj)
  have := mf_mac_nn (par := par) h1 h2 j hj i; have := h2 i (by omega); show 0 ≤ _ + _; omega
theorem mf_own_sum {C G : Nat} {grp : Nat → Nat} {x : Nat → Int} (hg : ∀ c, c < C → x c ≠ 0 → grp c < G) : mf_sm G (mf_own C grp x) = mf_sm C x := by
  unfold mf_own; rw [mf_sm_swap]; refine mf_sm_congr (fun c hc => ?_)
  by_cases e : x c = 0
  · rw [e]; refine mf_sm_z (fun g _ => ?_); split <;> rfl
  · exact mf_sm_one (hg c hc e) (fun _ => x c)
theorem mf_own_nn {C : Nat} {grp : Nat → Nat} {x : Nat → Int} (h : ∀ c, c < C → 0 ≤ x c) (g : Nat) : 0 ≤ mf_own C grp x g := mf_sm_nn (fun c hc => by have := h c hc; split <;> omega)
