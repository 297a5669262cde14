/-! bits and small numbers -/
def rb (a : Int32) (i : Nat) : Bool := a.toBitVec.getLsbD i
theorem rf_nI_ofInt (n : Nat) : nI n = Int32.ofInt n := by unfold nI; exact (Int32.ofInt_eq_ofNat).symm
theorem rf_toInt_ofInt {x : Int} (h1 : -2147483648 ≤ x) (h2 : x < 2147483648) : (Int32.ofInt x).toInt = x := Int32.toInt_ofInt_of_le (by omega) (by omega)
theorem rf_nI {n : Nat} (h : n < 2147483648) : (nI n).toInt = n := by rw [rf_nI_ofInt]; exact rf_toInt_ofInt (by omega) (by omega)
theorem rf_ofInt (a : Int32) : Int32.ofInt a.toInt = a := Int32.ofInt_toInt a
theorem rf_add {a b : Int32} (h1 : -2147483648 ≤ a.toInt + b.toInt) (h2 : a.toInt + b.toInt < 2147483648) : (a + b).toInt = a.toInt + b.toInt := by
  rw [← rf_ofInt a, ← rf_ofInt b, ← Int32.ofInt_add, rf_ofInt, rf_ofInt]; exact rf_toInt_ofInt h1 h2
theorem rf_sub {a b : Int32} (h1 : -2147483648 ≤ a.toInt - b.toInt) (h2 : a.toInt - b.toInt < 2147483648) : (a - b).toInt = a.toInt - b.toInt := by
  rw [← rf_ofInt a, ← rf_ofInt b, ← Int32.ofInt_sub, rf_ofInt, rf_ofInt]; exact rf_toInt_ofInt h1 h2
theorem rf_i0 : (0 : Int32).toInt = 0 := by decide
theorem rf_i1 : (1 : Int32).toInt = 1 := by decide
theorem rf_lt {a b : Int32} : a < b ↔ a.toInt < b.toInt := Int32.lt_iff_toInt_lt
theorem rf_le {a b : Int32} : a ≤ b ↔ a.toInt ≤ b.toInt := Int32.le_iff_toInt_le
theorem rf_ext {a b : Int32} (h : a.toInt = b.toInt) : a = b := Int32.toInt_inj.1 h
theorem rf_nI_inj {a b : Nat} (h1 : a < 2147483648) (h2 : b < 2147483648) (h : nI a = nI b) : a = b := by
  have := congrArg Int32.toInt h; rw [rf_nI h1, rf_nI h2] at this; omega
theorem rf_clamp (a : Int32) : (a.toNatClampNeg : Int) = if 0 ≤ a.toInt then a.toInt else 0 := by
  unfold Int32.toNatClampNeg; split <;> omega
theorem rf_nI_clamp {n : Nat} (h : n < 2147483648) : (nI n).toNatClampNeg = n := by
  have := rf_clamp (nI n); rw [rf_nI h, if_pos (by omega)] at this; omega
theorem rf_of_nn {a : Int32} (h : 0 ≤ a.toInt) : a = nI a.toNatClampNeg := by
  refine rf_ext ?_
  have h1 := rf_clamp a; rw [if_pos h] at h1
  have h2 := Int32.toInt_lt a
  rw [rf_nI (by omega)]; omega
theorem rf_sh : ∀ i, i < 32 → (nI i &&& 31) = nI i := by decide +kernel
theorem rf_smod : ∀ i, i < 32 → ((nI i).toBitVec.smod 32).toNat = i := by decide +kernel
theorem rb_sr {a : Int32} {i : Nat} (hi : i < 32) : ((a >>> (nI i &&& 31)) &&& 1) = if rb a i = true then 1 else 0 := by
  rw [rf_sh i hi]
  have h1 : ((a >>> nI i) &&& 1).toBitVec = (a.toBitVec.sshiftRight i) &&& 1#32 := by
    rw [Int32.toBitVec_and, Int32.toBitVec_shiftRight, BitVec.sshiftRight', rf_smod i hi]; rfl
  have h2 : ∀ b : Bool, (if b = true then (1 : Int32) else 0).toBitVec = if b = true then 1#32 else 0#32 := by decide
  apply Int32.toBitVec_inj.1
  rw [h1, h2]
  apply BitVec.eq_of_getLsbD_eq
  intro j hj
  rw [BitVec.getLsbD_and, BitVec.getLsbD_sshiftRight]
  unfold rb
  by_cases e : j = 0
  · subst e
    have : ¬ 32 ≤ 0 := by omega
    simp only [this, decide_false, Bool.not_false, Bool.true_and, Nat.add_zero, hi, if_true]
    by_cases z : a.toBitVec.getLsbD i = true
    · rw [if_pos z, z]; decide
    · rw [if_neg z, Bool.eq_false_iff.2 z]; decide
  · have h3 : (1#32).getLsbD j = false := by
      rw [BitVec.getLsbD_one]; simp [e]
    rw [h3, Bool.and_false]
    split
    · rw [h3]
    · simp
theorem rb_ref {a : Int32} {i : Nat} (hi : i < 32) : ((a >>> (nI i &&& 31)) &&& 1 = 1) ↔ rb a i = true := by
  rw [rb_sr hi]; by_cases z : rb a i = true
  · rw [if_pos z]; exact ⟨fun _ => z, fun _ => rfl⟩
  · rw [if_neg z]; exact ⟨fun h => absurd h (by decide), fun h => absurd h z⟩
theorem rb_zh {a : Int32} {i : Nat} (hi : i < 32) : zh a (nI i) = rb a i := by
  unfold zh; rw [rb_sr hi]; cases rb a i <;> decide
theorem rb_and (a b : Int32) (i : Nat) : rb (a &&& b) i = (rb a i && rb b i) := by unfold rb; rw [Int32.toBitVec_and, BitVec.getLsbD_and]
theorem rb_or (a b : Int32) (i : Nat) : rb (a ||| b) i = (rb a i || rb b i) := by unfold rb; rw [Int32.toBitVec_or, BitVec.getLsbD_or]
theorem rb_xor (a b : Int32) (i : Nat) : rb (a ^^^ b) i = (rb a i ^^ rb b i) := by unfold rb; rw [Int32.toBitVec_xor, BitVec.getLsbD_xor]
theorem rb_m1 : ∀ i, i < 32 → rb (-1) i = true := by decide +kernel
theorem rb_not {a : Int32} {i : Nat} (hi : i < 32) : rb (a ^^^ (-1)) i = !rb a i := by rw [rb_xor, rb_m1 i hi]; cases rb a i <;> rfl
theorem rb_0 (i : Nat) : rb 0 i = false := by unfold rb; show (0#32).getLsbD i = false; simp
theorem rb_out {a : Int32} {i : Nat} (h : 32 ≤ i) : rb a i = false := by unfold rb; exact BitVec.getLsbD_of_ge _ _ h
theorem rb_1sh : ∀ i, i < 32 → ∀ j, j < 32 → rb (1 <<< (nI i &&& 31)) j = decide (i = j) := by decide +kernel
theorem rb_1 {i j : Nat} (hi : i < 32) : rb (1 <<< (nI i &&& 31)) j = decide (i = j) := by
  by_cases h : j < 32
  · exact rb_1sh i hi j h
  · rw [rb_out (by omega)]; exact (decide_eq_false (by omega)).symm
theorem rb_zw {a : Int32} {i j : Nat} (hi : i < 32) : rb (zw a i) j = (rb a j || decide (i = j)) := by unfold zw; rw [rb_or, rb_1 hi]
theorem rb_ext {a b : Int32} (h : ∀ i, i < 32 → rb a i = rb b i) : a = b := by
  apply Int32.toBitVec_inj.1; apply BitVec.eq_of_getLsbD_eq; intro i hi; exact h i hi
theorem rb_and0 {a b : Int32} : a &&& b = 0 ↔ ∀ i, i < 32 → ¬ (rb a i = true ∧ rb b i = true) := by
  constructor
  · intro h i hi hc
    have : rb (a &&& b) i = rb 0 i := by rw [h]
    rw [rb_and, rb_0, hc.1, hc.2] at this; exact absurd this (by decide)
  · intro h; apply rb_ext; intro i hi
    rw [rb_and, rb_0]; have := h i hi
    cases e1 : rb a i <;> cases e2 : rb b i <;> simp_all
theorem rb_nI {n i : Nat} (hn : n < 4294967296) (hi : i < 32) : rb (nI n) i = n.testBit i := by
  unfold rb nI
  rw [Int32.toBitVec_ofNat', BitVec.getLsbD_ofNat]
  simp [hi]
