/-! the reference's 'most' -/
theorem mf_sup_b {G : Nat} {par : Nat → Nat} {lim own : Nat → Int} (hp : mf_tr G par) (h1 : ∀ g, g < G → 0 ≤ lim g) (h2 : ∀ g, g < G → 0 ≤ own g) : 0 ≤ mf_sup G par lim own ∧ mf_sup G par lim own ≤ mf_sm G own := by
  by_cases h : G = 0
  · subst h; exact ⟨Int.le_refl _, Int.le_refl _⟩
  · rw [mf_mac_sup (by omega)]
    have a := mf_mac_le (lim := lim) hp h1 h2 (j := G - 1) (g := 0) (by omega) (by omega)
    have b := mf_mac_nn (par := par) h1 h2 (G - 1) (by omega) 0
    have c := h2 0 (by omega)
    exact ⟨mf_mn_nn (h1 0 (by omega)) (by omega), Int.le_trans (mf_mn_le _ _) a⟩
theorem mf_ct_congr {R : Nat} {X : Nat → Bool} {cnt : Nat → Nat → Bool} {T T' : Nat → Bool} (h : ∀ r, r < R → T r = T' r) (c : Nat) : mf_ct R X cnt T c = mf_ct R X cnt T' c := by
  rw [Bool.eq_iff_iff, mf_ct_iff, mf_ct_iff]
  constructor
  · rintro ⟨a, r, h1, h2, h3⟩; exact ⟨a, r, h1, by rw [← h r h1]; exact h2, h3⟩
  · rintro ⟨a, r, h1, h2, h3⟩; exact ⟨a, r, h1, by rw [h r h1]; exact h2, h3⟩
theorem mf_cv_congr {G R C : Nat} {par grp : Nat → Nat} {X : Nat → Bool} {cnt : Nat → Nat → Bool} {lim need : Nat → Int} {T T' : Nat → Bool} (h : ∀ r, r < R → T r = T' r) : mf_cv G R C par grp X cnt lim need T = mf_cv G R C par grp X cnt lim need T' := by
  unfold mf_cv
  have h1 : mf_nd0 R need (fun r => !T r) = mf_nd0 R need (fun r => !T' r) := mf_sm_congr (fun r hr => by show (if (!T r) = true then _ else _) = (if (!T' r) = true then _ else _); rw [h r hr])
  have h2 : mf_so R C grp X cnt T = mf_so R C grp X cnt T' := by
    funext g; unfold mf_so; congr 1; funext c; rw [mf_ct_congr h c]
  rw [h1, h2]
theorem rb_62 : ∀ i, i < 32 → rb 62 i = decide (1 ≤ i ∧ i ≤ 5) := by decide +kernel
theorem rf_rest {S : Int32} {r : Nat} (hr : r < 5) : rT (62 &&& (S ^^^ (-1))) r = !rT S r := by
  unfold rT; rw [rb_and, rb_62 (r + 1) (by omega), rb_not (by omega), decide_eq_true (by omega)]; rfl
abbrev rf_H (G C R : Nat) (pa lm tk go ct cn nd gv : Nat → Int32) (some0 : Int32) (lim need : Nat → Int) : Prop := (G ≤ 6) ∧ (C ≤ 12) ∧ (R ≤ 5) ∧ (G = 0 → C = 0) ∧ (mf_tr G (rp pa)) ∧ (∀ c, c < C → rp go c < G) ∧ (rf_cn C R ct cn) ∧ (∀ g, g < G → rf_lm lm tk (mf_sm C (fun c => mf_b (rb some0 c))) lim g) ∧ (∀ r, 0 < r → r < 6 → 0 ≤ (nd r).toInt ∧ (nd r).toInt ≤ 12) ∧ (∀ r, 0 < r → r < 6 → 0 ≤ (gv r).toInt ∧ (gv r).toInt ≤ 12) ∧ (∀ r, r < 5 → need (r + 1) = (nd (r + 1)).toInt - (gv (r + 1)).toInt) ∧ (∀ r, R ≤ r → r < 5 → need (r + 1) = 0)
theorem rf_H.hG {G C R : Nat} {pa lm tk go ct cn nd gv : Nat → Int32} {some0 : Int32} {lim need : Nat → Int} (h : rf_H G C R pa lm tk go ct cn nd gv some0 lim need) : G ≤ 6 := h.1
theorem rf_H.hC {G C R : Nat} {pa lm tk go ct cn nd gv : Nat → Int32} {some0 : Int32} {lim need : Nat → Int} (h : rf_H G C R pa lm tk go ct cn nd gv some0 lim need) : C ≤ 12 := h.2.1
theorem rf_H.hR {G C R : Nat} {pa lm tk go ct cn nd gv : Nat → Int32} {some0 : Int32} {lim need : Nat → Int} (h : rf_H G C R pa lm tk go ct cn nd gv some0 lim need) : R ≤ 5 := h.2.2.1
theorem rf_H.hC0 {G C R : Nat} {pa lm tk go ct cn nd gv : Nat → Int32} {some0 : Int32} {lim need : Nat → Int} (h : rf_H G C R pa lm tk go ct cn nd gv some0 lim need) : G = 0 → C = 0 := h.2.2.2.1
theorem rf_H.hp {G C R : Nat} {pa lm tk go ct cn nd gv : Nat → Int32} {some0 : Int32} {lim need : Nat → Int} (h : rf_H G C R pa lm tk go ct cn nd gv some0 lim need) : mf_tr G (rp pa) := h.2.2.2.2.1
theorem rf_H.hgo {G C R : Nat} {pa lm tk go ct cn nd gv : Nat → Int32} {some0 : Int32} {lim need : Nat → Int} (h : rf_H G C R pa lm tk go ct cn nd gv some0 lim need) : ∀ c, c < C → rp go c < G := h.2.2.2.2.2.1
theorem rf_H.hcn {G C R : Nat} {pa lm tk go ct cn nd gv : Nat → Int32} {some0 : Int32} {lim need : Nat → Int} (h : rf_H G C R pa lm tk go ct cn nd gv some0 lim need) : rf_cn C R ct cn := h.2.2.2.2.2.2.1
theorem rf_H.hl {G C R : Nat} {pa lm tk go ct cn nd gv : Nat → Int32} {some0 : Int32} {lim need : Nat → Int} (h : rf_H G C R pa lm tk go ct cn nd gv some0 lim need) : ∀ g, g < G → rf_lm lm tk (mf_sm C (fun c => mf_b (rb some0 c))) lim g := h.2.2.2.2.2.2.2.1
theorem rf_H.hnd {G C R : Nat} {pa lm tk go ct cn nd gv : Nat → Int32} {some0 : Int32} {lim need : Nat → Int} (h : rf_H G C R pa lm tk go ct cn nd gv some0 lim need) : ∀ r, 0 < r → r < 6 → 0 ≤ (nd r).toInt ∧ (nd r).toInt ≤ 12 := h.2.2.2.2.2.2.2.2.1
theorem rf_H.hgv {G C R : Nat} {pa lm tk go ct cn nd gv : Nat → Int32} {some0 : Int32} {lim need : Nat → Int} (h : rf_H G C R pa lm tk go ct cn nd gv some0 lim need) : ∀ r, 0 < r → r < 6 → 0 ≤ (gv r).toInt ∧ (gv r).toInt ≤ 12 := h.2.2.2.2.2.2.2.2.2.1
theorem rf_H.hn {G C R : Nat} {pa lm tk go ct cn nd gv : Nat → Int32} {some0 : Int32} {lim need : Nat → Int} (h : rf_H G C R pa lm tk go ct cn nd gv some0 lim need) : ∀ r, r < 5 → need (r + 1) = (nd (r + 1)).toInt - (gv (r + 1)).toInt := h.2.2.2.2.2.2.2.2.2.2.1
theorem rf_H.hz {G C R : Nat} {pa lm tk go ct cn nd gv : Nat → Int32} {some0 : Int32} {lim need : Nat → Int} (h : rf_H G C R pa lm tk go ct cn nd gv some0 lim need) : ∀ r, R ≤ r → r < 5 → need (r + 1) = 0 := h.2.2.2.2.2.2.2.2.2.2.2
section
variable {G C R : Nat} {pa lm tk go ct cn nd gv : Nat → Int32} {some0 : Int32} {lim need : Nat → Int}
theorem rf_yno_nd (H : rf_H G C R pa lm tk go ct cn nd gv some0 lim need) (S : Int32) : (yno S nd gv 6).toInt = mf_nd0 R need (rT S) := by
  rw [(rf_yno H.hnd H.hgv 5 (by omega)).1]
  rw [mf_sm_ext H.hR (fun r h1 h2 => by rw [← H.hn r h2, H.hz r h1 h2]; split <;> rfl)]
  exact mf_sm_congr (fun r hr => by have := H.hR; rw [← H.hn r (by omega)])
theorem rf_cv_val (H : rf_H G C R pa lm tk go ct cn nd gv some0 lim need) (S : Int32) (hv : Nat → Int32) :
    (yno (62 &&& (S ^^^ (-1))) nd gv 6 + yhv G C pa lm tk go cn S some0 hv 0).toInt = mf_cv G R C (rp pa) (rp go) (rb some0) (rc ct) lim need (rT S) := by
  have h1 := rf_yno_nd H (62 &&& (S ^^^ (-1)))
  have h2 := rf_ref_supply hv (set := S) H.hG H.hC H.hR H.hC0 H.hp H.hgo H.hcn H.hl
  have h3 : -(12 * (5 : Nat) : Int) ≤ (yno (62 &&& (S ^^^ (-1))) nd gv 6).toInt ∧ (yno (62 &&& (S ^^^ (-1))) nd gv 6).toInt ≤ 12 * (5 : Nat) := (rf_yno (set := 62 &&& (S ^^^ (-1))) H.hnd H.hgv 5 (by omega)).2
  have h4 := mf_sup_b (lim := lim) (own := mf_so R C (rp go) (rb some0) (rc ct) (rT S)) H.hp (fun g hg => (H.hl g hg).1) (fun g _ => rf_so_nn g)
  rw [rf_so_sum H.hgo] at h4
  have h5 := rf_sm_b (n := C) (fun c => mf_ct R (rb some0) (rc ct) (rT S) c)
  have h6 := H.hC
  rw [rf_add (by omega) (by omega), h1, h2]
  unfold mf_cv; congr 1
  exact mf_sm_congr (fun r hr => by
    have := H.hR
    show (if rT _ r = true then _ else _) = (if (!rT S r) = true then _ else _)
    rw [rf_rest (by omega)])
theorem rf_cv_0 (H : rf_H G C R pa lm tk go ct cn nd gv some0 lim need) : (yno 62 nd gv 6).toInt = mf_cv G R C (rp pa) (rp go) (rb some0) (rc ct) lim need (fun _ => false) := by
  rw [rf_yno_nd H 62]; unfold mf_cv
  have h4 := mf_sup_b (lim := lim) (own := mf_so R C (rp go) (rb some0) (rc ct) (fun _ => false)) H.hp (fun g hg => (H.hl g hg).1) (fun g _ => rf_so_nn g)
  rw [rf_so_sum H.hgo] at h4
  have h5 : mf_sm C (fun c => mf_b (mf_ct R (rb some0) (rc ct) (fun _ => false) c)) = 0 := mf_sm_z (fun c _ => by
    have : mf_ct R (rb some0) (rc ct) (fun _ => false) c = false := Bool.eq_false_iff.2 (fun z => by rw [mf_ct_iff] at z; obtain ⟨_, r, _, h, _⟩ := z; exact absurd h (by decide))
    rw [this]; rfl)
  have h6 : mf_nd0 R need (rT 62) = mf_nd0 R need (fun r => !(fun _ => false) r) := mf_sm_congr (fun r hr => by
    have := H.hR
    have e : rT 62 r = true := by unfold rT; rw [rb_62 _ (by omega)]; exact decide_eq_true (by omega)
    show (if rT 62 r = true then _ else _) = (if (!false) = true then _ else _)
    rw [e]; rfl)
  rw [h6]; omega
theorem rf_yms (H : rf_H G C R pa lm tk go ct cn nd gv some0 lim need) (hv : Nat → Int32) : ∀ i,
    (∃ T, (yms G C pa lm tk go cn nd gv some0 hv i).1.toInt = mf_cv G R C (rp pa) (rp go) (rb some0) (rc ct) lim need T) ∧
    (yms G C pa lm tk go cn nd gv some0 hv i).1.toInt ≤ mf_cv G R C (rp pa) (rp go) (rb some0) (rc ct) lim need (fun _ => false) ∧
    ∀ j, j < i → (yms G C pa lm tk go cn nd gv some0 hv i).1.toInt ≤ mf_cv G R C (rp pa) (rp go) (rb some0) (rc ct) lim need (rT (nI (2 * j + 2)))
  | 0 => ⟨⟨_, rf_cv_0 H⟩, Int.le_of_eq (rf_cv_0 H), fun j h => absurd h (Nat.not_lt_zero j)⟩
  | i + 1 => by
    obtain ⟨⟨T, h1⟩, h2, h3⟩ := rf_yms H hv i
    have hv2 := rf_cv_val H (nI (2 * i + 2)) (yms G C pa lm tk go cn nd gv some0 hv i).2
    have e : (yms G C pa lm tk go cn nd gv some0 hv (i + 1)).1 = if (yms G C pa lm tk go cn nd gv some0 hv i).1 ≤ yno (62 &&& (nI (2 * i + 2) ^^^ (-1))) nd gv 6 + yhv G C pa lm tk go cn (nI (2 * i + 2)) some0 (yms G C pa lm tk go cn nd gv some0 hv i).2 0 then (yms G C pa lm tk go cn nd gv some0 hv i).1 else yno (62 &&& (nI (2 * i + 2) ^^^ (-1))) nd gv 6 + yhv G C pa lm tk go cn (nI (2 * i + 2)) some0 (yms G C pa lm tk go cn nd gv some0 hv i).2 0 := rfl
    rw [e]
    split
    · rename_i hc
      have hc' := rf_le.1 hc; rw [hv2] at hc'
      refine ⟨⟨T, h1⟩, h2, fun j hj => ?_⟩
      by_cases ej : j = i
      · subst ej; exact hc'
      · exact h3 j (by omega)
    · rename_i hc
      have hc' : ¬ (yms G C pa lm tk go cn nd gv some0 hv i).1.toInt ≤ _ := fun z => hc (rf_le.2 z)
      rw [hv2] at hc'
      rw [hv2]
      refine ⟨⟨_, rfl⟩, by omega, fun j hj => ?_⟩
      by_cases ej : j = i
      · subst ej; exact Int.le_refl _
      · have := h3 j (by omega); omega
theorem rf_evens0 : ∀ a b c d e : Bool, (a || b || c || d || e) = true → ((List.range 31).any fun j => decide (rT (nI (2 * j + 2)) 0 = a ∧ rT (nI (2 * j + 2)) 1 = b ∧ rT (nI (2 * j + 2)) 2 = c ∧ rT (nI (2 * j + 2)) 3 = d ∧ rT (nI (2 * j + 2)) 4 = e)) = true := by decide +kernel
theorem rf_evens (a b c d e : Bool) (h : (a || b || c || d || e) = true) : ∃ j, j < 31 ∧ rT (nI (2 * j + 2)) 0 = a ∧ rT (nI (2 * j + 2)) 1 = b ∧ rT (nI (2 * j + 2)) 2 = c ∧ rT (nI (2 * j + 2)) 3 = d ∧ rT (nI (2 * j + 2)) 4 = e := by
  obtain ⟨j, h1, h2⟩ := List.any_eq_true.1 (rf_evens0 a b c d e h)
  exact ⟨j, List.mem_range.1 h1, of_decide_eq_true h2⟩
theorem rf_most (H : rf_H G C R pa lm tk go ct cn nd gv some0 lim need) (hv : Nat → Int32) : mf_is C G R (rp pa) (rp go) (rb some0) (rc ct) lim need (yms G C pa lm tk go cn nd gv some0 hv 31).1.toInt := by
  obtain ⟨h1, h2, h3⟩ := rf_yms H hv 31
  refine ⟨h1, fun T => ?_⟩
  have hR := H.hR
  by_cases hT : (T 0 || T 1 || T 2 || T 3 || T 4) = true
  · obtain ⟨j, hj, e0, e1, e2, e3, e4⟩ := rf_evens _ _ _ _ _ hT
    rw [mf_cv_congr (T := T) (T' := rT (nI (2 * j + 2))) (fun r hr => by
      match r, hr with
      | 0, _ => exact e0.symm
      | 1, _ => exact e1.symm
      | 2, _ => exact e2.symm
      | 3, _ => exact e3.symm
      | 4, _ => exact e4.symm
      | n + 5, h => omega)]
    exact h3 j hj
  · rw [mf_cv_congr (T := T) (T' := fun _ => false) (fun r hr => by
      simp at hT
      match r, hr with
      | 0, _ => exact hT.1.1.1.1
      | 1, _ => exact hT.1.1.1.2
      | 2, _ => exact hT.1.1.2
      | 3, _ => exact hT.1.2
      | 4, _ => exact hT.2
      | n + 5, h => omega)]
    exact h2
end
