/-! the class and the reference, side by side -/
abbrev LIa (X : XS) (M : MS) : Prop := (X.1 0 = M.2.1) ∧ (X.1 1 = M.2.2.1) ∧ (M.2.1 ≤ 6) ∧ (M.2.2.1 ≤ 12) ∧ (M.2.1 = 0 → M.2.2.1 = 0) ∧ (X.2.2.1 0 = M.2.2.2.2.2.2.2 0) ∧ (X.2.2.1 1 = M.2.2.2.2.2.2.2 1) ∧ (X.2.2.1 3 = M.2.2.2.2.2.2.2 2) ∧ (X.2.2.1 4 = M.2.2.2.2.2.2.2 4) ∧ (0 < M.2.1 → M.2.2.2.2.2.2.2 0 0 = -1) ∧ (∀ j, 0 < j → j < M.2.1 → M.2.2.2.2.2.2.2 0 j = nI (M.2.2.2.2.2.2.2 0 j).toNatClampNeg ∧ (M.2.2.2.2.2.2.2 0 j).toNatClampNeg < j) ∧ (∀ g, g < M.2.1 → -1 ≤ (M.2.2.2.2.2.2.2 1 g).toInt ∧ (M.2.2.2.2.2.2.2 1 g).toInt ≤ 12) ∧ (∀ c, c < M.2.2.1 → M.2.2.2.2.2.2.2 2 c = nI (M.2.2.2.2.2.2.2 2 c).toNatClampNeg ∧ (M.2.2.2.2.2.2.2 2 c).toNatClampNeg < M.2.1) ∧ (∀ c, M.2.2.1 ≤ c → M.2.2.2.2.2.2.2 2 c = 0) ∧ (rf_ci M.2.1 M.2.2.1 (M.2.2.2.2.2.2.2 2) (X.2.2.1 2)) ∧ (∀ g, M.2.1 ≤ g → X.2.2.1 2 g = 0) ∧ (∀ c, rb (X.2.1 0) c = (decide (c < M.2.2.1) && M.2.2.2.2.2.2.1 c)) ∧ (∀ c, c < 12 → -1 ≤ (M.2.2.2.2.2.2.2 4 c).toInt ∧ (M.2.2.2.2.2.2.2 4 c).toInt ≤ 40)
theorem LIa.eG {X : XS} {M : MS} (h : LIa X M) : X.1 0 = M.2.1 := h.1
theorem LIa.eC {X : XS} {M : MS} (h : LIa X M) : X.1 1 = M.2.2.1 := h.2.1
theorem LIa.hG {X : XS} {M : MS} (h : LIa X M) : M.2.1 ≤ 6 := h.2.2.1
theorem LIa.hC {X : XS} {M : MS} (h : LIa X M) : M.2.2.1 ≤ 12 := h.2.2.2.1
theorem LIa.hC0 {X : XS} {M : MS} (h : LIa X M) : M.2.1 = 0 → M.2.2.1 = 0 := h.2.2.2.2.1
theorem LIa.pa {X : XS} {M : MS} (h : LIa X M) : X.2.2.1 0 = M.2.2.2.2.2.2.2 0 := h.2.2.2.2.2.1
theorem LIa.lm {X : XS} {M : MS} (h : LIa X M) : X.2.2.1 1 = M.2.2.2.2.2.2.2 1 := h.2.2.2.2.2.2.1
theorem LIa.go {X : XS} {M : MS} (h : LIa X M) : X.2.2.1 3 = M.2.2.2.2.2.2.2 2 := h.2.2.2.2.2.2.2.1
theorem LIa.lf {X : XS} {M : MS} (h : LIa X M) : X.2.2.1 4 = M.2.2.2.2.2.2.2 4 := h.2.2.2.2.2.2.2.2.1
theorem LIa.pa0 {X : XS} {M : MS} (h : LIa X M) : 0 < M.2.1 → M.2.2.2.2.2.2.2 0 0 = -1 := h.2.2.2.2.2.2.2.2.2.1
theorem LIa.tr {X : XS} {M : MS} (h : LIa X M) : ∀ j, 0 < j → j < M.2.1 → M.2.2.2.2.2.2.2 0 j = nI (M.2.2.2.2.2.2.2 0 j).toNatClampNeg ∧ (M.2.2.2.2.2.2.2 0 j).toNatClampNeg < j := h.2.2.2.2.2.2.2.2.2.2.1
theorem LIa.lmb {X : XS} {M : MS} (h : LIa X M) : ∀ g, g < M.2.1 → -1 ≤ (M.2.2.2.2.2.2.2 1 g).toInt ∧ (M.2.2.2.2.2.2.2 1 g).toInt ≤ 12 := h.2.2.2.2.2.2.2.2.2.2.2.1
theorem LIa.gol {X : XS} {M : MS} (h : LIa X M) : ∀ c, c < M.2.2.1 → M.2.2.2.2.2.2.2 2 c = nI (M.2.2.2.2.2.2.2 2 c).toNatClampNeg ∧ (M.2.2.2.2.2.2.2 2 c).toNatClampNeg < M.2.1 := h.2.2.2.2.2.2.2.2.2.2.2.2.1
theorem LIa.goz {X : XS} {M : MS} (h : LIa X M) : ∀ c, M.2.2.1 ≤ c → M.2.2.2.2.2.2.2 2 c = 0 := h.2.2.2.2.2.2.2.2.2.2.2.2.2.1
theorem LIa.ci {X : XS} {M : MS} (h : LIa X M) : rf_ci M.2.1 M.2.2.1 (M.2.2.2.2.2.2.2 2) (X.2.2.1 2) := h.2.2.2.2.2.2.2.2.2.2.2.2.2.2.1
theorem LIa.ciz {X : XS} {M : MS} (h : LIa X M) : ∀ g, M.2.1 ≤ g → X.2.2.1 2 g = 0 := h.2.2.2.2.2.2.2.2.2.2.2.2.2.2.2.1
theorem LIa.oc {X : XS} {M : MS} (h : LIa X M) : ∀ c, rb (X.2.1 0) c = (decide (c < M.2.2.1) && M.2.2.2.2.2.2.1 c) := h.2.2.2.2.2.2.2.2.2.2.2.2.2.2.2.2.1
theorem LIa.lfb {X : XS} {M : MS} (h : LIa X M) : ∀ c, c < 12 → -1 ≤ (M.2.2.2.2.2.2.2 4 c).toInt ∧ (M.2.2.2.2.2.2.2 4 c).toInt ≤ 40 := h.2.2.2.2.2.2.2.2.2.2.2.2.2.2.2.2.2
abbrev LIb (X : XS) (M : MS) : Prop := (∀ p, p < 3 → X.1 (2 + p) = M.2.2.2.2.1 p ∧ M.2.2.2.2.1 p ≤ 5) ∧ (∀ p, p < 3 → ∀ r, 0 < r → r ≤ M.2.2.2.2.1 p → X.2.2.1 (6 + p) r = M.2.2.2.2.2.2.2 6 (6 * p + r) ∧ 1 ≤ (M.2.2.2.2.2.2.2 6 (6 * p + r)).toInt ∧ (M.2.2.2.2.2.2.2 6 (6 * p + r)).toInt ≤ 6) ∧ (∀ p, p < 3 → ∀ r, r < 6 → X.2.2.1 (9 + p) r = M.2.2.2.2.2.2.2 7 (6 * p + r))
theorem LIb.rq {X : XS} {M : MS} (h : LIb X M) : ∀ p, p < 3 → X.1 (2 + p) = M.2.2.2.2.1 p ∧ M.2.2.2.2.1 p ≤ 5 := h.1
theorem LIb.dm {X : XS} {M : MS} (h : LIb X M) : ∀ p, p < 3 → ∀ r, 0 < r → r ≤ M.2.2.2.2.1 p → X.2.2.1 (6 + p) r = M.2.2.2.2.2.2.2 6 (6 * p + r) ∧ 1 ≤ (M.2.2.2.2.2.2.2 6 (6 * p + r)).toInt ∧ (M.2.2.2.2.2.2.2 6 (6 * p + r)).toInt ≤ 6 := h.2.1
theorem LIb.al {X : XS} {M : MS} (h : LIb X M) : ∀ p, p < 3 → ∀ r, r < 6 → X.2.2.1 (9 + p) r = M.2.2.2.2.2.2.2 7 (6 * p + r) := h.2.2
abbrev LIc (X : XS) (M : MS) : Prop := (∀ s, s < 4 → X.2.1 (1 + s) = M.2.2.2.2.2.2.2 8 s ∧ (M.2.2.2.2.2.2.2 8 s = -1 ∨ ∃ p, p < 3 ∧ M.2.2.2.2.2.2.2 8 s = nI p)) ∧ (∀ s, s < 4 → ∀ c, c < 12 → X.2.2.1 (12 + s) c = M.2.2.2.2.2.2.2 9 (12 * s + c) ∧ -1 ≤ (M.2.2.2.2.2.2.2 9 (12 * s + c)).toInt ∧ (M.2.2.2.2.2.2.2 9 (12 * s + c)).toInt ≤ 99) ∧ (∀ s, s < 4 → X.2.1 (5 + s) = nI (M.2.2.2.2.2.1 s) ∧ M.2.2.2.2.2.1 s ≤ 8) ∧ (∀ s, s < 4 → rpt (X.2.2.1 (16 + s)) (M.2.2.2.2.2.2.2 11) (M.2.2.2.2.2.2.2 12) s (M.2.2.2.2.2.1 s)) ∧ (∀ s, s < 4 → ∀ j, j < M.2.2.2.2.2.1 s → ∃ i, i < 12 ∧ M.2.2.2.2.2.2.2 12 (8 * s + j) = nI i) ∧ (∀ s, s < 4 → ∀ r, r < 6 → 0 ≤ (M.2.2.2.2.2.2.2 13 (6 * s + r)).toInt ∧ (M.2.2.2.2.2.2.2 13 (6 * s + r)).toInt ≤ 9 ∧ (X.2.2.1 (20 + s) r).toInt = mf_mn 6 (M.2.2.2.2.2.2.2 13 (6 * s + r)).toInt)
theorem LIc.pg {X : XS} {M : MS} (h : LIc X M) : ∀ s, s < 4 → X.2.1 (1 + s) = M.2.2.2.2.2.2.2 8 s ∧ (M.2.2.2.2.2.2.2 8 s = -1 ∨ ∃ p, p < 3 ∧ M.2.2.2.2.2.2.2 8 s = nI p) := h.1
theorem LIc.ps {X : XS} {M : MS} (h : LIc X M) : ∀ s, s < 4 → ∀ c, c < 12 → X.2.2.1 (12 + s) c = M.2.2.2.2.2.2.2 9 (12 * s + c) ∧ -1 ≤ (M.2.2.2.2.2.2.2 9 (12 * s + c)).toInt ∧ (M.2.2.2.2.2.2.2 9 (12 * s + c)).toInt ≤ 99 := h.2.1
theorem LIc.pe {X : XS} {M : MS} (h : LIc X M) : ∀ s, s < 4 → X.2.1 (5 + s) = nI (M.2.2.2.2.2.1 s) ∧ M.2.2.2.2.2.1 s ≤ 8 := h.2.2.1
theorem LIc.sf {X : XS} {M : MS} (h : LIc X M) : ∀ s, s < 4 → rpt (X.2.2.1 (16 + s)) (M.2.2.2.2.2.2.2 11) (M.2.2.2.2.2.2.2 12) s (M.2.2.2.2.2.1 s) := h.2.2.2.1
theorem LIc.pt {X : XS} {M : MS} (h : LIc X M) : ∀ s, s < 4 → ∀ j, j < M.2.2.2.2.2.1 s → ∃ i, i < 12 ∧ M.2.2.2.2.2.2.2 12 (8 * s + j) = nI i := h.2.2.2.2.1
theorem LIc.ex {X : XS} {M : MS} (h : LIc X M) : ∀ s, s < 4 → ∀ r, r < 6 → 0 ≤ (M.2.2.2.2.2.2.2 13 (6 * s + r)).toInt ∧ (M.2.2.2.2.2.2.2 13 (6 * s + r)).toInt ≤ 9 ∧ (X.2.2.1 (20 + s) r).toInt = mf_mn 6 (M.2.2.2.2.2.2.2 13 (6 * s + r)).toInt := h.2.2.2.2.2
abbrev LId (X : XS) (M : MS) : Prop := (X.2.2.2.1 = M.2.2.2.1) ∧ (M.2.2.2.1 = true → X.2.1 12 = M.2.2.2.2.2.2.2 19 0 ∧ X.2.1 13 = M.2.2.2.2.2.2.2 19 1 ∧ X.2.1 14 = M.2.2.2.2.2.2.2 19 2 ∧ X.2.1 15 = M.2.2.2.2.2.2.2 19 3 ∧ X.2.1 16 = M.2.2.2.2.2.2.2 19 4 ∧ X.2.1 10 = M.2.2.2.2.2.2.2 19 5 ∧ X.2.1 11 = M.2.2.2.2.2.2.2 19 6) ∧ (M.2.2.2.1 = true → ∀ c, c < 12 → X.2.2.1 26 c = M.2.2.2.2.2.2.2 20 c ∧ 0 ≤ (M.2.2.2.2.2.2.2 20 c).toInt)
theorem LId.it {X : XS} {M : MS} (h : LId X M) : X.2.2.2.1 = M.2.2.2.1 := h.1
theorem LId.rcp {X : XS} {M : MS} (h : LId X M) : M.2.2.2.1 = true → X.2.1 12 = M.2.2.2.2.2.2.2 19 0 ∧ X.2.1 13 = M.2.2.2.2.2.2.2 19 1 ∧ X.2.1 14 = M.2.2.2.2.2.2.2 19 2 ∧ X.2.1 15 = M.2.2.2.2.2.2.2 19 3 ∧ X.2.1 16 = M.2.2.2.2.2.2.2 19 4 ∧ X.2.1 10 = M.2.2.2.2.2.2.2 19 5 ∧ X.2.1 11 = M.2.2.2.2.2.2.2 19 6 := h.2.1
theorem LId.ro {X : XS} {M : MS} (h : LId X M) : M.2.2.2.1 = true → ∀ c, c < 12 → X.2.2.1 26 c = M.2.2.2.2.2.2.2 20 c ∧ 0 ≤ (M.2.2.2.2.2.2.2 20 c).toInt := h.2.2
abbrev LIe (X : XS) (M : MS) : Prop := (znk X.2.2.2.2.1) ∧ (∀ j, X.2.2.2.2.2.2.2 j < 166)
theorem LIe.wk {X : XS} {M : MS} (h : LIe X M) : znk X.2.2.2.2.1 := h.1
theorem LIe.vn {X : XS} {M : MS} (h : LIe X M) : ∀ j, X.2.2.2.2.2.2.2 j < 166 := h.2
abbrev LI (X : XS) (M : MS) : Prop := (LIa X M) ∧ (LIb X M) ∧ (LIc X M) ∧ (LId X M) ∧ (LIe X M)
theorem LI.a {X : XS} {M : MS} (h : LI X M) : LIa X M := h.1
theorem LI.b {X : XS} {M : MS} (h : LI X M) : LIb X M := h.2.1
theorem LI.c {X : XS} {M : MS} (h : LI X M) : LIc X M := h.2.2.1
theorem LI.d {X : XS} {M : MS} (h : LI X M) : LId X M := h.2.2.2.1
theorem LI.e {X : XS} {M : MS} (h : LI X M) : LIe X M := h.2.2.2.2
theorem LIa.congr {X X' : XS} {M M' : MS} (h : LIa X M) (n0 : X'.1 0 = X.1 0) (n1 : X'.1 1 = X.1 1) (s0 : X'.2.1 0 = X.2.1 0) (a : ∀ k, k < 5 → X'.2.2.1 k = X.2.2.1 k) (g : M'.2.1 = M.2.1) (c : M'.2.2.1 = M.2.2.1) (o : M'.2.2.2.2.2.2.1 = M.2.2.2.2.2.2.1) (b : ∀ k, k < 5 → M'.2.2.2.2.2.2.2 k = M.2.2.2.2.2.2.2 k) : LIa X' M' := by
  refine ⟨?_, ?_, ?_, ?_, ?_, ?_, ?_, ?_, ?_, ?_, ?_, ?_, ?_, ?_, ?_, ?_, ?_, ?_⟩
  · rw [n0, g]; exact h.eG
  · rw [n1, c]; exact h.eC
  · rw [g]; exact h.hG
  · rw [c]; exact h.hC
  · rw [g, c]; exact h.hC0
  · rw [a 0 (by omega), b 0 (by omega)]; exact h.pa
  · rw [a 1 (by omega), b 1 (by omega)]; exact h.lm
  · rw [a 3 (by omega), b 2 (by omega)]; exact h.go
  · rw [a 4 (by omega), b 4 (by omega)]; exact h.lf
  · rw [g, b 0 (by omega)]; exact h.pa0
  · rw [g, b 0 (by omega)]; exact h.tr
  · rw [g, b 1 (by omega)]; exact h.lmb
  · rw [g, c, b 2 (by omega)]; exact h.gol
  · rw [c, b 2 (by omega)]; exact h.goz
  · rw [g, c, b 2 (by omega), a 2 (by omega)]; exact h.ci
  · rw [g, a 2 (by omega)]; exact h.ciz
  · rw [s0, c, o]; exact h.oc
  · rw [b 4 (by omega)]; exact h.lfb
theorem LIb.congr {X X' : XS} {M M' : MS} (h : LIb X M) (n : ∀ p, p < 3 → X'.1 (2 + p) = X.1 (2 + p)) (a : ∀ k, 6 ≤ k → k < 12 → X'.2.2.1 k = X.2.2.1 k) (r : M'.2.2.2.2.1 = M.2.2.2.2.1) (b6 : M'.2.2.2.2.2.2.2 6 = M.2.2.2.2.2.2.2 6) (b7 : M'.2.2.2.2.2.2.2 7 = M.2.2.2.2.2.2.2 7) : LIb X' M' := by
  refine ⟨?_, ?_, ?_⟩
  · intro p hp; rw [n p hp, r]; exact h.rq p hp
  · intro p hp; rw [a (6 + p) (by omega) (by omega), r, b6]; exact h.dm p hp
  · intro p hp; rw [a (9 + p) (by omega) (by omega), b7]; exact h.al p hp
theorem LIc.congr {X X' : XS} {M M' : MS} (h : LIc X M) (n : ∀ k, 1 ≤ k → k < 9 → X'.2.1 k = X.2.1 k) (a : ∀ k, 12 ≤ k → k < 24 → X'.2.2.1 k = X.2.2.1 k) (p : M'.2.2.2.2.2.1 = M.2.2.2.2.2.1) (b8 : M'.2.2.2.2.2.2.2 8 = M.2.2.2.2.2.2.2 8) (b9 : M'.2.2.2.2.2.2.2 9 = M.2.2.2.2.2.2.2 9) (b11 : M'.2.2.2.2.2.2.2 11 = M.2.2.2.2.2.2.2 11) (b12 : M'.2.2.2.2.2.2.2 12 = M.2.2.2.2.2.2.2 12) (b13 : M'.2.2.2.2.2.2.2 13 = M.2.2.2.2.2.2.2 13) : LIc X' M' := by
  refine ⟨?_, ?_, ?_, ?_, ?_, ?_⟩
  · intro s hs; rw [n (1 + s) (by omega) (by omega), b8]; exact h.pg s hs
  · intro s hs; rw [a (12 + s) (by omega) (by omega), b9]; exact h.ps s hs
  · intro s hs; rw [n (5 + s) (by omega) (by omega), p]; exact h.pe s hs
  · intro s hs; rw [a (16 + s) (by omega) (by omega), b11, b12, p]; exact h.sf s hs
  · intro s hs; rw [b12, p]; exact h.pt s hs
  · intro s hs; rw [a (20 + s) (by omega) (by omega), b13]; exact h.ex s hs
theorem LId.congr {X X' : XS} {M M' : MS} (h : LId X M) (i : X'.2.2.2.1 = X.2.2.2.1) (n : ∀ k, 10 ≤ k → k < 17 → X'.2.1 k = X.2.1 k) (a : X'.2.2.1 26 = X.2.2.1 26) (hs : M'.2.2.2.1 = M.2.2.2.1) (b19 : M'.2.2.2.2.2.2.2 19 = M.2.2.2.2.2.2.2 19) (b20 : M'.2.2.2.2.2.2.2 20 = M.2.2.2.2.2.2.2 20) : LId X' M' := by
  refine ⟨?_, ?_, ?_⟩
  · rw [i, hs]; exact h.it
  · rw [hs, b19, n 12 (by omega) (by omega), n 13 (by omega) (by omega), n 14 (by omega) (by omega), n 15 (by omega) (by omega), n 16 (by omega) (by omega), n 10 (by omega) (by omega), n 11 (by omega) (by omega)]; exact h.rcp
  · rw [hs, a, b20]; exact h.ro
theorem LIe.congr {X X' : XS} {M M' : MS} (h : LIe X M) (w : X'.2.2.2.2.1 = X.2.2.2.2.1) (v : X'.2.2.2.2.2.2.2 = X.2.2.2.2.2.2.2) : LIe X' M' := by
  constructor
  · rw [w]; exact h.wk
  · rw [v]; exact h.vn
theorem LI.th {X : XS} {M : MS} (h : LI X M) (t : Int32) : LI X (t, M.2.1, M.2.2.1, M.2.2.2.1, M.2.2.2.2.1, M.2.2.2.2.2.1, M.2.2.2.2.2.2.1, M.2.2.2.2.2.2.2) :=
  ⟨h.a.congr rfl rfl rfl (fun _ _ => rfl) rfl rfl rfl (fun _ _ => rfl), h.b.congr (fun _ _ => rfl) (fun _ _ _ => rfl) rfl rfl rfl, h.c.congr (fun _ _ _ => rfl) (fun _ _ _ => rfl) rfl rfl rfl rfl rfl rfl, h.d.congr rfl (fun _ _ _ => rfl) rfl rfl rfl rfl, h.e.congr rfl rfl⟩
def X0 : XS := (fun _ => 0, mf_up (mf_up (mf_up (mf_up (fun _ => 0) 1 (-1)) 2 (-1)) 3 (-1)) 4 (-1), mf_up (mf_up (mf_up (mf_up (fun _ => fun _ => 0) 12 (zfl (fun _ => 0) (-1) 12)) 13 (zfl (fun _ => 0) (-1) 12)) 14 (zfl (fun _ => 0) (-1) 12)) 15 (zfl (fun _ => 0) (-1) 12), false, (0, fun _ => 0, fun _ => 0, fun _ => 0, fun _ => 0), 0, fun _ => 0, fun _ => 0)
def M0 : MS := (0, 0, 0, false, fun _ => 0, fun _ => 0, fun _ => false, mf_up (mf_up (fun _ => fun _ => 0) 8 (upd (upd (upd (upd (fun _ => 0) 0 (-1)) 1 (-1)) 2 (-1)) 3 (-1))) 9 (zfl (fun _ => 0) (-1) 48))
theorem rf_m1 : (-1 : Int32).toInt = -1 := by decide
theorem LI_0 : LI X0 M0 := by
  have z : ∀ k, k ≠ 8 → k ≠ 9 → M0.2.2.2.2.2.2.2 k = fun _ => 0 := fun k h1 h2 => by
    show mf_up (mf_up _ 8 _) 9 _ k = _
    rw [mf_up_n _ _ h2, mf_up_n _ _ h1]
  have x : ∀ k, k < 12 ∨ 15 < k → X0.2.2.1 k = fun _ => 0 := fun k h => by
    show mf_up (mf_up (mf_up (mf_up _ 12 _) 13 _) 14 _) 15 _ k = _
    rw [mf_up_n _ _ (by omega), mf_up_n _ _ (by omega), mf_up_n _ _ (by omega), mf_up_n _ _ (by omega)]
  have i0 : ∀ j : Nat, ((fun _ => (0 : Int32)) j).toInt = 0 := fun j => rf_i0
  refine ⟨?_, ?_, ?_, ?_, ?_⟩
  · refine ⟨rfl, rfl, by decide, by decide, fun _ => rfl, rfl, rfl, rfl, rfl, fun h => absurd h (by decide), fun j _ h => absurd h (Nat.not_lt_zero j), fun g h => absurd h (Nat.not_lt_zero g), fun c h => absurd h (Nat.not_lt_zero c), fun c _ => by rw [z 2 (by omega) (by omega)], fun g h => absurd h (Nat.not_lt_zero g), fun g _ => by rw [x 2 (by omega)], fun c => ?_, fun c _ => by rw [z 4 (by omega) (by omega)]; show -1 ≤ (0 : Int32).toInt ∧ (0 : Int32).toInt ≤ 40; decide⟩
    show rb 0 c = _; rw [rb_0]; rfl
  · refine ⟨fun p _ => ⟨rfl, by show (0 : Nat) ≤ 5; omega⟩, fun p _ r h1 h2 => ?_, fun p hp r _ => by rw [x (9 + p) (by omega), z 7 (by omega) (by omega)]⟩
    have h3 : r ≤ 0 := h2
    omega
  · refine ⟨fun s hs => ?_, fun s hs c hc => ?_, fun s hs => ?_, fun s hs c hc i hi => ?_, fun s _ j h => absurd h (Nat.not_lt_zero j), fun s hs r hr => ?_⟩
    · match s, hs with
      | 0, _ => exact ⟨rfl, Or.inl rfl⟩
      | 1, _ => exact ⟨rfl, Or.inl rfl⟩
      | 2, _ => exact ⟨rfl, Or.inl rfl⟩
      | 3, _ => exact ⟨rfl, Or.inl rfl⟩
    · have e1 : X0.2.2.1 (12 + s) = zfl (fun _ => 0) (-1) 12 := by
        match s, hs with
        | 0, _ => rfl
        | 1, _ => rfl
        | 2, _ => rfl
        | 3, _ => rfl
      have e2 : M0.2.2.2.2.2.2.2 9 = zfl (fun _ => 0) (-1) 48 := rfl
      rw [e1, e2, rf_zfl _ _ 12 c hc, rf_zfl _ _ 48 (12 * s + c) (by omega), rf_m1]; exact ⟨rfl, by omega, by omega⟩
    · match s, hs with
      | 0, _ => exact ⟨rfl, by show (0 : Nat) ≤ 8; omega⟩
      | 1, _ => exact ⟨rfl, by show (0 : Nat) ≤ 8; omega⟩
      | 2, _ => exact ⟨rfl, by show (0 : Nat) ≤ 8; omega⟩
      | 3, _ => exact ⟨rfl, by show (0 : Nat) ≤ 8; omega⟩
    · rw [x (16 + s) (by omega), rb_0]; rfl
    · rw [x (20 + s) (by omega), z 13 (by omega) (by omega)]; show 0 ≤ (0 : Int32).toInt ∧ (0 : Int32).toInt ≤ 9 ∧ (0 : Int32).toInt = mf_mn 6 (0 : Int32).toInt; decide
  · exact ⟨rfl, fun h => absurd h (by decide), fun h => absurd h (by decide)⟩
  · exact ⟨fun j => ⟨by show (0 : Nat) < 25; omega, by show (0 : Nat) < 25; omega⟩, fun j => by show (0 : Nat) < 166; omega⟩
