/-! the audit: the assignment, and how many -/
section
variable {G C R : Nat} {pa lm go ct cn nd ndc : Nat → Int32} {lv : Int32}
theorem mf_bs_need {par grp : Nat → Nat} {X : Nat → Bool} {cnt : Nat → Nat → Bool} {lim need need' : Nat → Int} {cs : Nat → Nat → Int} (h : ∀ r, r < R → need (r + 1) = need' (r + 1)) (F : Nat → Nat → Int → Int → Int) :
    mf_bs G R C par grp X cnt lim need cs F = mf_bs G R C par grp X cnt lim need' cs F := by
  unfold mf_bs
  rw [mf_sm_congr (n := R) (F := fun r => F (20 + r) 1 (need (r + 1)) 0) (G := fun r => F (20 + r) 1 (need' (r + 1)) 0) (fun r hr => by show F _ _ (need (r + 1)) _ = _; rw [h r hr])]
theorem rf_Q_H (Q : rf_Q G C R pa lm go ct cn nd lv) {tk gv : Nat → Int32} (htk : ∀ h, h < 6 → tk h = 0) (hgv : ∀ r, r < 6 → gv r = 0) (some0 : Int32) : rf_H G C R pa lm tk go ct cn nd gv some0 (rL lm) (rN nd) :=
  ⟨Q.hG, Q.hC, Q.hR, Q.hC0, Q.hp, Q.hgo, Q.hcn, fun g hg => rf_lm_0 Q.hC (htk g (by have := Q.hG; omega)) (Q.hlm g hg), Q.hnd, fun r _ h2 => by rw [hgv r h2, rf_i0]; omega,
    fun r hr => by rw [hgv (r + 1) (by omega), rf_i0]; unfold rN; omega, fun r h1 h2 => by unfold rN; rw [Q.hz r h1 h2]; exact rf_i0⟩
theorem rf_bcb : ∀ c, c < 12 → ∀ r, r < 5 → -2176782336 ≤ mf_bc c (r + 1) ∧ mf_bc c (r + 1) ≤ 2176782336 := by decide +kernel
theorem rf_best (Q : rf_Q G C R pa lm go ct cn nd lv) (hnc : ∀ r, r < R → ndc (r + 1) = nd (r + 1)) (w : zN) (d : Nat → Int64) (vn : Nat → Nat) :
    ∃ as, rf_O ((zQA G R pa lm go ndc ct lv w).1 / 2) (zQA G R pa lm go ndc ct lv w) (zsn (zQA G R pa lm go ndc ct lv w) d vn) G C R (rp pa) (rp go) (rb lv) (rc ct) (rL lm) (rN nd) mf_bc as := by
  have hC := Q.hC
  have hR := Q.hR
  obtain ⟨h1, h2⟩ := rf_layA (G := G) pa lm go ndc ct w hC hR Q.hlv
  refine rf_solve h1 (fun F => ?_) Q.hG hC hR Q.hgo Q.hp (fun g hg => ⟨(rL_of (Q.hlm g hg)).1, (rL_of (Q.hlm g hg)).2.1⟩) (fun r hr => Q.hnd (r + 1) (by omega) (by omega)) (fun c hc r hr => rf_bcb c (by omega) r (by omega)) d vn
  rw [h2 F]; exact mf_bs_need (fun r hr => by unfold rN; rw [hnc r hr]) F
theorem rf_is_uq (Q : rf_Q G C R pa lm go ct cn nd lv) {some0 : Int32} {M : Int} (hM : mf_is C G R (rp pa) (rp go) (rb some0) (rc ct) (rL lm) (rN nd) M) :
    (∃ as, mf_aok G R C (rp pa) (rp go) (rb some0) (rc ct) (rL lm) (rN nd) as ∧ mf_asz C as = M) ∧ ∀ as, mf_aok G R C (rp pa) (rp go) (rb some0) (rc ct) (rL lm) (rN nd) as → mf_asz C as ≤ M :=
  mf_is_max Q.hG Q.hC Q.hR Q.hgo Q.hp (fun g hg => (rL_of (Q.hlm g hg)).1) (fun r hr => by have := Q.hR; exact (Q.hnd (r + 1) (by omega) (by omega)).1) hM
theorem rf_asz_le (as : Nat → Nat) : 0 ≤ mf_asz C as ∧ mf_asz C as ≤ C := by
  have := mf_sm_le (n := C) (F := mf_1 as) (G := fun _ => 1) (fun k _ => by unfold mf_1; split <;> omega)
  rw [mf_sm_const] at this
  exact ⟨mf_sm_nn (fun k _ => mf_1_nn as k), by unfold mf_asz; omega⟩
theorem rf_pre0 (as : Nat → Nat) : (∀ r, 0 < r → mf_nr C (mf_pre as 0) r = 0) ∧ (∀ par grp h, mf_ld C par grp (mf_1 (mf_pre as 0)) h = 0) ∧ mf_asz C (mf_pre as 0) = 0 := by
  refine ⟨fun r hr => ?_, fun par grp h => ?_, ?_⟩
  · have := rf_nr_b C as 0 hr; omega
  · have := rf_ld_b C par grp as 0 h; omega
  · have := rf_asz_b C as 0; omega
/-- the assignment and its size -/
theorem rf_audit (Q : rf_Q G C R pa lm go ct cn nd lv) (hnc : ∀ r, r < R → ndc (r + 1) = nd (r + 1)) (w : zN) (d : Nat → Int64) (vn : Nat → Nat) {tk gv : Nat → Int32} (htk : ∀ h, h < 6 → tk h = 0) (hgv : ∀ r, r < 6 → gv r = 0) (hv hv' gs ro : Nat → Int32) :
    nI (zsn (zQA G R pa lm go ndc ct lv w) d vn).2.2.2.2 = (yms G C pa lm tk go cn nd gv lv hv 31).1 ∧
    ∀ c, c < 12 → zwa (zQA G R pa lm go ndc ct lv w).2.1 (zQA G R pa lm go ndc ct lv w).2.2.1 (zsn (zQA G R pa lm go ndc ct lv w) d vn).1 (zfl ro 0 12) ((zQA G R pa lm go ndc ct lv w).1 / 2) c =
      (ygs G C pa lm go cn nd lv (gs, gv, tk, hv', (yms G C pa lm tk go cn nd gv lv hv 31).1) 12).1 c := by
  have hC := Q.hC
  have hR := Q.hR
  obtain ⟨as, hO⟩ := rf_best Q hnc w d vn
  have hm := rf_is_uq Q (rf_most (rf_Q_H Q htk hgv lv) hv)
  obtain ⟨⟨b, hb1, hb2⟩, hb3⟩ := hm
  have hsz : mf_asz C as = (yms G C pa lm tk go cn nd gv lv hv 31).1.toInt := by
    have := hO.mx b hb1; have := hb3 as hO.ok; omega
  have hle := rf_asz_le (C := C) as
  have hcnt := hO.sz
  refine ⟨rf_ext ?_, fun c hc => ?_⟩
  · rw [rf_nI (by omega), ← hsz, ← hcnt]
  · rw [rf_written hO hC hR ro hc]
    have p0 := rf_pre0 (C := C) as
    have J := rf_ygs Q hO.ok hO.mx hO.mn (q := (gs, gv, tk, hv', (yms G C pa lm tk go cn nd gv lv hv 31).1)) ⟨fun c h => absurd h (Nat.not_lt_zero c), fun r h1 h2 => by
        rw [p0.1 r h1]; show (gv r).toInt = 0; rw [hgv r h2]; exact rf_i0, fun h hh => by
        rw [p0.2.1]; show (tk h).toInt = 0; rw [htk h (by have := Q.hG; omega)]; exact rf_i0, by rw [p0.2.2]; show _ = _ - 0; rw [hsz]; show (yms G C pa lm tk go cn nd gv lv hv 31).1.toInt = _; omega⟩ 12 (Nat.le_refl _)
    exact (J.gs c hc hc).symm
/-! the unmet set -/
theorem rf_zns_nd (Q : rf_Q G C R pa lm go ct cn nd lv) (hnc : ∀ r, r < R → ndc (r + 1) = nd (r + 1)) (S : Int32) : (zns S ndc (R + 1)).toInt = mf_nd0 R (rN nd) (rT S) := by
  have hR := Q.hR
  have e : ∀ n, n ≤ R → zns S ndc (n + 1) = zns S nd (n + 1) := by
    intro n; induction n with
    | zero => intro _; rfl
    | succ k ih =>
      intro hk
      have e1 : ∀ f : Nat → Int32, zns S f (k + 1 + 1) = if zh S (nI (k + 1)) = true then zns S f (k + 1) + f (k + 1) else zns S f (k + 1) := fun f => rfl
      rw [e1, e1, ih (by omega), hnc k (by omega)]
  rw [e R (Nat.le_refl _)]
  have hb : ∀ n, n ≤ 5 → (zns S nd (n + 1)).toInt = mf_sm n (fun r => if rT S r = true then (nd (r + 1)).toInt else 0) ∧ 0 ≤ (zns S nd (n + 1)).toInt ∧ (zns S nd (n + 1)).toInt ≤ 12 * n := by
    intro n; induction n with
    | zero => intro _; have : zns S nd (0 + 1) = 0 := rfl
              rw [this, rf_i0]; exact ⟨rfl, Int.le_refl _, Int.le_refl _⟩
    | succ k ih =>
      intro hk
      have i1 := ih (by omega)
      have hn := Q.hnd (k + 1) (by omega) (by omega)
      have e1 : zns S nd (k + 1 + 1) = if zh S (nI (k + 1)) = true then zns S nd (k + 1) + nd (k + 1) else zns S nd (k + 1) := rfl
      rw [mf_sm_s, e1, rb_zh (by omega)]
      by_cases e : rb S (k + 1) = true
      · have e' : rT S k = true := e
        rw [if_pos e, if_pos e', rf_add (by omega) (by omega)]; omega
      · have e' : ¬ rT S k = true := e
        rw [if_neg e, if_neg e']; omega
  rw [(hb R hR).1]; rfl
theorem rf_nd0_b (Q : rf_Q G C R pa lm go ct cn nd lv) (T : Nat → Bool) : 0 ≤ mf_nd0 R (rN nd) T ∧ mf_nd0 R (rN nd) T ≤ 60 := by
  have hR := Q.hR
  have h1 : mf_nd0 R (rN nd) T ≤ mf_sm R (fun _ => 12) := mf_sm_le (fun r hr => by
    have := Q.hnd (r + 1) (by omega) (by omega)
    have e : rN nd (r + 1) = (nd (r + 1)).toInt := rfl
    split <;> omega)
  rw [mf_sm_const] at h1
  refine ⟨mf_sm_nn (fun r hr => ?_), by omega⟩
  have := Q.hnd (r + 1) (by omega) (by omega)
  have e : rN nd (r + 1) = (nd (r + 1)).toInt := rfl
  split <;> omega
def rsu (G C R : Nat) (pa lm go ct : Nat → Int32) (lv S : Int32) : Int := mf_sup G (rp pa) (rL lm) (mf_so R C (rp go) (rb lv) (rc ct) (rT S))
theorem rf_su_b (Q : rf_Q G C R pa lm go ct cn nd lv) (S : Int32) : 0 ≤ rsu G C R pa lm go ct lv S ∧ rsu G C R pa lm go ct lv S ≤ 12 := by
  have hC := Q.hC
  have h := mf_sup_b (lim := rL lm) (own := mf_so R C (rp go) (rb lv) (rc ct) (rT S)) Q.hp (fun g hg => (rL_of (Q.hlm g hg)).1) (fun g _ => rf_so_nn g)
  rw [rf_so_sum Q.hgo] at h
  have := rf_sm_b (n := C) (fun c => mf_ct R (rb lv) (rc ct) (rT S) c)
  unfold rsu; omega
theorem rf_su_congr {S S' : Int32} (h : ∀ r, r < R → rT S r = rT S' r) : rsu G C R pa lm go ct lv S = rsu G C R pa lm go ct lv S' := by
  unfold rsu
  have : mf_so R C (rp go) (rb lv) (rc ct) (rT S) = mf_so R C (rp go) (rb lv) (rc ct) (rT S') := by
    funext g; unfold mf_so; congr 1; funext c; rw [mf_ct_congr h c]
  rw [this]
theorem rf_su_cls (Q : rf_Q G C R pa lm go ct cn nd lv) {ci : Nat → Int32} (hci : rf_ci G C go ci) (tb : Nat → Int32) (S : Int32) : (zsu G pa lm ci tb (lv &&& zcs S ct (R + 1))).toInt = rsu G C R pa lm go ct lv S :=
  rf_class_supply tb Q.hG Q.hC Q.hR Q.hp Q.hgo Q.hlm hci Q.hlv
theorem rf_su_ref (Q : rf_Q G C R pa lm go ct cn nd lv) {tk : Nat → Int32} (htk : ∀ h, h < 6 → tk h = 0) (hv : Nat → Int32) (S : Int32) : (yhv G C pa lm tk go cn S lv hv 0).toInt = rsu G C R pa lm go ct lv S :=
  rf_ref_supply hv Q.hG Q.hC Q.hR Q.hC0 Q.hp Q.hgo Q.hcn (fun g hg => rf_lm_0 Q.hC (htk g (by have := Q.hG; omega)) (Q.hlm g hg))
/-- the supply of a set, the class's and the reference's -/
theorem rf_supply (Q : rf_Q G C R pa lm go ct cn nd lv) {ci : Nat → Int32} (hci : rf_ci G C go ci) (tb : Nat → Int32) {tk : Nat → Int32} (htk : ∀ h, h < 6 → tk h = 0) (hv : Nat → Int32) (S : Int32) :
    zsu G pa lm ci tb (lv &&& zcs S ct (R + 1)) = yhv G C pa lm tk go cn S lv hv 0 := rf_ext (by rw [rf_su_cls Q hci, rf_su_ref Q htk])
theorem rf_small : ∀ i, i < 31 → zbc (nI (2 * i + 2)) = ybt (nI (2 * i + 2)) 12 ∧ 0 ≤ (ybt (nI (2 * i + 2)) 12).toInt ∧ (ybt (nI (2 * i + 2)) 12).toInt ≤ 12 := by decide +kernel
theorem rf_nd_ref (Q : rf_Q G C R pa lm go ct cn nd lv) {tk gv : Nat → Int32} (htk : ∀ h, h < 6 → tk h = 0) (hgv : ∀ r, r < 6 → gv r = 0) (S : Int32) : (yno S nd gv 6).toInt = mf_nd0 R (rN nd) (rT S) := rf_yno_nd (rf_Q_H Q htk hgv lv) S
def rex (G C R : Nat) (pa lm go ct nd : Nat → Int32) (lv S : Int32) : Int := mf_nd0 R (rN nd) (rT S) - rsu G C R pa lm go ct lv S
theorem rf_yus2 (Q : rf_Q G C R pa lm go ct cn nd lv) {tk gv : Nat → Int32} (htk : ∀ h, h < 6 → tk h = 0) (hgv : ∀ r, r < 6 → gv r = 0) (i : Nat) (q : Int32 × (Nat → Int32)) :
    (yus2 G C pa lm tk go cn nd gv lv i q).1 = if rex G C R pa lm go ct nd lv q.1 < rex G C R pa lm go ct nd lv (nI (2 * i + 2)) ∨ (rex G C R pa lm go ct nd lv (nI (2 * i + 2)) = rex G C R pa lm go ct nd lv q.1 ∧ (ybt (nI (2 * i + 2)) 12).toInt < (ybt q.1 12).toInt) then nI (2 * i + 2) else q.1 := by
  unfold yus2
  have a1 := rf_nd_ref Q htk hgv (nI (2 * i + 2))
  have a2 := rf_nd_ref Q htk hgv q.1
  have a3 := rf_su_ref Q htk q.2 (nI (2 * i + 2))
  have a4 := rf_su_ref Q htk (yhv G C pa lm tk go cn (nI (2 * i + 2)) lv q.2) q.1
  have b1 := rf_nd0_b Q (rT (nI (2 * i + 2)))
  have b2 := rf_nd0_b Q (rT q.1)
  have b3 := rf_su_b Q (nI (2 * i + 2))
  have b4 := rf_su_b Q q.1
  have e1 : (yno (nI (2 * i + 2)) nd gv 6 - yhv G C pa lm tk go cn (nI (2 * i + 2)) lv q.2 0).toInt = rex G C R pa lm go ct nd lv (nI (2 * i + 2)) := by
    rw [rf_sub (by rw [a1, a3]; omega) (by rw [a1, a3]; omega), a1, a3]; rfl
  have c1 : rex G C R pa lm go ct nd lv (nI (2 * i + 2)) = mf_nd0 R (rN nd) (rT (nI (2 * i + 2))) - rsu G C R pa lm go ct lv (nI (2 * i + 2)) := rfl
  have c2 : rex G C R pa lm go ct nd lv q.1 = mf_nd0 R (rN nd) (rT q.1) - rsu G C R pa lm go ct lv q.1 := rfl
  have e2 : (yno (nI (2 * i + 2)) nd gv 6 - yhv G C pa lm tk go cn (nI (2 * i + 2)) lv q.2 0 - yno q.1 nd gv 6).toInt = rex G C R pa lm go ct nd lv (nI (2 * i + 2)) - mf_nd0 R (rN nd) (rT q.1) := by
    rw [rf_sub (by rw [e1, a2]; omega) (by rw [e1, a2]; omega), e1, a2]
  have e3 : (yno (nI (2 * i + 2)) nd gv 6 - yhv G C pa lm tk go cn (nI (2 * i + 2)) lv q.2 0 - yno q.1 nd gv 6 + yhv G C pa lm tk go cn q.1 lv (yhv G C pa lm tk go cn (nI (2 * i + 2)) lv q.2) 0).toInt = rex G C R pa lm go ct nd lv (nI (2 * i + 2)) - rex G C R pa lm go ct nd lv q.1 := by
    rw [rf_add (by rw [e2, a4]; omega) (by rw [e2, a4]; omega), e2, a4]; omega
  show (if _ then _ else _) = _
  have hc : (0 < yno (nI (2 * i + 2)) nd gv 6 - (yhv G C pa lm tk go cn (nI (2 * i + 2)) lv q.2) 0 - yno q.1 nd gv 6 + (yhv G C pa lm tk go cn q.1 lv (yhv G C pa lm tk go cn (nI (2 * i + 2)) lv q.2)) 0 ∨ (yno (nI (2 * i + 2)) nd gv 6 - (yhv G C pa lm tk go cn (nI (2 * i + 2)) lv q.2) 0 - yno q.1 nd gv 6 + (yhv G C pa lm tk go cn q.1 lv (yhv G C pa lm tk go cn (nI (2 * i + 2)) lv q.2)) 0 = 0 ∧ ¬ ybt q.1 12 ≤ ybt (nI (2 * i + 2)) 12)) ↔ (rex G C R pa lm go ct nd lv q.1 < rex G C R pa lm go ct nd lv (nI (2 * i + 2)) ∨ (rex G C R pa lm go ct nd lv (nI (2 * i + 2)) = rex G C R pa lm go ct nd lv q.1 ∧ (ybt (nI (2 * i + 2)) 12).toInt < (ybt q.1 12).toInt)) := by
    rw [rf_lt, rf_le, e3, rf_i0]
    have z : ∀ x : Int32, x = 0 ↔ x.toInt = 0 := fun x => ⟨fun h => by rw [h]; exact rf_i0, fun h => rf_ext (by rw [h]; exact rf_i0.symm)⟩
    rw [z, e3]; omega
  by_cases h : rex G C R pa lm go ct nd lv q.1 < rex G C R pa lm go ct nd lv (nI (2 * i + 2)) ∨ (rex G C R pa lm go ct nd lv (nI (2 * i + 2)) = rex G C R pa lm go ct nd lv q.1 ∧ (ybt (nI (2 * i + 2)) 12).toInt < (ybt q.1 12).toInt)
  · rw [if_pos h, if_pos (hc.2 h)]
  · rw [if_neg h, if_neg (fun z => h (hc.1 z))]
theorem rf_zus (Q : rf_Q G C R pa lm go ct cn nd lv) (hnc : ∀ r, r < R → ndc (r + 1) = nd (r + 1)) {ci : Nat → Int32} (hci : rf_ci G C go ci) {i : Nat} (hi : i < 31) {q : Int32 × Int32 × Int32 × (Nat → Int32)} (hss : zbc q.1 = ybt q.1 12)
    (h1 : q.2.1.toInt = mf_nd0 R (rN nd) (rT q.1)) (h2 : q.2.2.1.toInt = rsu G C R pa lm go ct lv q.1) :
    (zus G pa lm ci R ndc ct lv i q).1 = (if rex G C R pa lm go ct nd lv q.1 < rex G C R pa lm go ct nd lv (nI (2 * i + 2)) ∨ (rex G C R pa lm go ct nd lv (nI (2 * i + 2)) = rex G C R pa lm go ct nd lv q.1 ∧ (ybt (nI (2 * i + 2)) 12).toInt < (ybt q.1 12).toInt) then nI (2 * i + 2) else q.1) ∧
    (zus G pa lm ci R ndc ct lv i q).2.1.toInt = mf_nd0 R (rN nd) (rT (zus G pa lm ci R ndc ct lv i q).1) ∧ (zus G pa lm ci R ndc ct lv i q).2.2.1.toInt = rsu G C R pa lm go ct lv (zus G pa lm ci R ndc ct lv i q).1 := by
  have a1 := rf_zns_nd Q hnc (nI (2 * i + 2))
  have a3 := rf_su_cls Q hci q.2.2.2 (nI (2 * i + 2))
  have b1 := rf_nd0_b Q (rT (nI (2 * i + 2)))
  have b2 := rf_nd0_b Q (rT q.1)
  have b3 := rf_su_b Q (nI (2 * i + 2))
  have b4 := rf_su_b Q q.1
  have e1 : (zns (nI (2 * i + 2)) ndc (R + 1) - zsu G pa lm ci q.2.2.2 (lv &&& zcs (nI (2 * i + 2)) ct (R + 1))).toInt = rex G C R pa lm go ct nd lv (nI (2 * i + 2)) := by
    rw [rf_sub (by rw [a1, a3]; omega) (by rw [a1, a3]; omega), a1, a3]; rfl
  have e2 : (q.2.1 - q.2.2.1).toInt = rex G C R pa lm go ct nd lv q.1 := by
    rw [rf_sub (by rw [h1, h2]; omega) (by rw [h1, h2]; omega), h1, h2]; rfl
  have hc : zmu q.2.1 q.2.2.1 q.1 (nI (2 * i + 2)) (zns (nI (2 * i + 2)) ndc (R + 1) - zsu G pa lm ci q.2.2.2 (lv &&& zcs (nI (2 * i + 2)) ct (R + 1))) = true ↔ (rex G C R pa lm go ct nd lv q.1 < rex G C R pa lm go ct nd lv (nI (2 * i + 2)) ∨ (rex G C R pa lm go ct nd lv (nI (2 * i + 2)) = rex G C R pa lm go ct nd lv q.1 ∧ (ybt (nI (2 * i + 2)) 12).toInt < (ybt q.1 12).toInt)) := by
    unfold zmu
    rw [decide_eq_true_eq, rf_lt, rf_lt, e1, e2, (rf_small i hi).1, hss]
    have z : ∀ x y : Int32, x = y ↔ x.toInt = y.toInt := fun x y => ⟨fun h => by rw [h], rf_ext⟩
    rw [z, e1, e2]
  by_cases h : zmu q.2.1 q.2.2.1 q.1 (nI (2 * i + 2)) (zns (nI (2 * i + 2)) ndc (R + 1) - zsu G pa lm ci q.2.2.2 (lv &&& zcs (nI (2 * i + 2)) ct (R + 1))) = true
  · have e : zus G pa lm ci R ndc ct lv i q = (nI (2 * i + 2), zns (nI (2 * i + 2)) ndc (R + 1), zsu G pa lm ci q.2.2.2 (lv &&& zcs (nI (2 * i + 2)) ct (R + 1)), zsm G pa lm ci q.2.2.2 (lv &&& zcs (nI (2 * i + 2)) ct (R + 1))) := if_pos h
    rw [e, if_pos (hc.1 h)]; exact ⟨rfl, a1, a3⟩
  · have e : zus G pa lm ci R ndc ct lv i q = (q.1, q.2.1, q.2.2.1, zsm G pa lm ci q.2.2.2 (lv &&& zcs (nI (2 * i + 2)) ct (R + 1))) := if_neg h
    rw [e, if_neg (fun z => h (hc.2 z))]; exact ⟨rfl, h1, h2⟩
theorem rf_su0 (Q : rf_Q G C R pa lm go ct cn nd lv) : rsu G C R pa lm go ct lv 0 = 0 := by
  have h := mf_sup_b (lim := rL lm) (own := mf_so R C (rp go) (rb lv) (rc ct) (rT 0)) Q.hp (fun g hg => (rL_of (Q.hlm g hg)).1) (fun g _ => rf_so_nn g)
  rw [rf_so_sum Q.hgo, mf_sm_z (n := C) (fun c _ => by
    have : mf_ct R (rb lv) (rc ct) (rT 0) c = false := Bool.eq_false_iff.2 (fun z => by rw [mf_ct_iff] at z; obtain ⟨_, r, _, h, _⟩ := z; unfold rT at h; rw [rb_0] at h; exact absurd h (by decide))
    rw [this]; rfl)] at h
  unfold rsu; omega
theorem rf_unmet1 (Q : rf_Q G C R pa lm go ct cn nd lv) (hnc : ∀ r, r < R → ndc (r + 1) = nd (r + 1)) {ci : Nat → Int32} (hci : rf_ci G C go ci) {tk gv : Nat → Int32} (htk : ∀ h, h < 6 → tk h = 0) (hgv : ∀ r, r < 6 → gv r = 0) (tb hv : Nat → Int32) : ∀ i, i ≤ 31 →
    (zfu G pa lm ci R ndc ct lv tb i).1 = (yun G C pa lm tk go cn nd gv lv hv i).1 ∧ zbc (zfu G pa lm ci R ndc ct lv tb i).1 = ybt (zfu G pa lm ci R ndc ct lv tb i).1 12 ∧
    (zfu G pa lm ci R ndc ct lv tb i).2.1.toInt = mf_nd0 R (rN nd) (rT (zfu G pa lm ci R ndc ct lv tb i).1) ∧ (zfu G pa lm ci R ndc ct lv tb i).2.2.1.toInt = rsu G C R pa lm go ct lv (zfu G pa lm ci R ndc ct lv tb i).1
  | 0, _ => by
    refine ⟨rfl, by show zbc 0 = ybt 0 12; decide +kernel, ?_, ?_⟩
    · show (0 : Int32).toInt = mf_nd0 R (rN nd) (rT 0)
      rw [rf_i0]; symm
      exact mf_sm_z (fun r _ => by unfold rT; rw [rb_0]; rfl)
    · show (0 : Int32).toInt = rsu G C R pa lm go ct lv 0
      rw [rf_su0 Q]; exact rf_i0
  | i + 1, hi => by
    obtain ⟨i1, i2, i3, i4⟩ := rf_unmet1 Q hnc hci htk hgv tb hv i (by omega)
    obtain ⟨s1, s2, s3⟩ := rf_zus Q hnc hci (i := i) (by omega) i2 i3 i4
    have s4 := rf_yus2 Q htk hgv i (yun G C pa lm tk go cn nd gv lv hv i)
    refine ⟨?_, ?_, s2, s3⟩
    · show (zus G pa lm ci R ndc ct lv i (zfu G pa lm ci R ndc ct lv tb i)).1 = (yus2 G C pa lm tk go cn nd gv lv i (yun G C pa lm tk go cn nd gv lv hv i)).1
      rw [s1, s4, i1]
    · show zbc (zus G pa lm ci R ndc ct lv i (zfu G pa lm ci R ndc ct lv tb i)).1 = ybt (zus G pa lm ci R ndc ct lv i (zfu G pa lm ci R ndc ct lv tb i)).1 12
      rw [s1]; split
      · exact (rf_small i (by omega)).1
      · exact i2
theorem rf_low : ∀ R, R < 6 → ∀ i, i < 31 → 2 ^ R - 1 ≤ i → (∀ r, r < R → rT (nI (2 * i + 2)) r = rT (nI ((2 * i + 2) % 2 ^ (R + 1))) r) ∧ (ybt (nI ((2 * i + 2) % 2 ^ (R + 1))) 12).toInt < (ybt (nI (2 * i + 2)) 12).toInt ∧
    ((2 * i + 2) % 2 ^ (R + 1) = 0 ∨ (2 * (((2 * i + 2) % 2 ^ (R + 1)) / 2 - 1) + 2 = (2 * i + 2) % 2 ^ (R + 1) ∧ ((2 * i + 2) % 2 ^ (R + 1)) / 2 - 1 < 2 ^ R - 1)) := by decide +kernel
def rdom (G C R : Nat) (pa lm go ct nd : Nat → Int32) (lv S b : Int32) : Prop := rex G C R pa lm go ct nd lv S < rex G C R pa lm go ct nd lv b ∨ (rex G C R pa lm go ct nd lv S = rex G C R pa lm go ct nd lv b ∧ (ybt b 12).toInt ≤ (ybt S 12).toInt)
theorem rf_dom (Q : rf_Q G C R pa lm go ct cn nd lv) {tk gv : Nat → Int32} (htk : ∀ h, h < 6 → tk h = 0) (hgv : ∀ r, r < 6 → gv r = 0) (hv : Nat → Int32) : ∀ i, rdom G C R pa lm go ct nd lv 0 (yun G C pa lm tk go cn nd gv lv hv i).1 ∧ ∀ j, j < i → rdom G C R pa lm go ct nd lv (nI (2 * j + 2)) (yun G C pa lm tk go cn nd gv lv hv i).1
  | 0 => ⟨Or.inr ⟨rfl, Int.le_refl _⟩, fun j h => absurd h (Nat.not_lt_zero j)⟩
  | i + 1 => by
    obtain ⟨h1, h2⟩ := rf_dom Q htk hgv hv i
    have s4 := rf_yus2 Q htk hgv i (yun G C pa lm tk go cn nd gv lv hv i)
    have e0 : (yun G C pa lm tk go cn nd gv lv hv (i + 1)).1 = (yus2 G C pa lm tk go cn nd gv lv i (yun G C pa lm tk go cn nd gv lv hv i)).1 := rfl
    rw [e0, s4]
    generalize (yun G C pa lm tk go cn nd gv lv hv i).1 = b at h1 h2 ⊢
    unfold rdom at h1 h2 ⊢
    split
    · rename_i hc
      refine ⟨by omega, fun j hj => ?_⟩
      by_cases e : j = i
      · subst e; exact Or.inr ⟨rfl, Int.le_refl _⟩
      · have := h2 j (by omega); omega
    · rename_i hc
      refine ⟨h1, fun j hj => ?_⟩
      by_cases e : j = i
      · subst e; omega
      · exact h2 j (by omega)
theorem rf_unmet2 (Q : rf_Q G C R pa lm go ct cn nd lv) {tk gv : Nat → Int32} (htk : ∀ h, h < 6 → tk h = 0) (hgv : ∀ r, r < 6 → gv r = 0) (hv : Nat → Int32) : ∀ k, 2 ^ R - 1 + k ≤ 31 → (yun G C pa lm tk go cn nd gv lv hv (2 ^ R - 1 + k)).1 = (yun G C pa lm tk go cn nd gv lv hv (2 ^ R - 1)).1
  | 0, _ => rfl
  | k + 1, hk => by
    have ih := rf_unmet2 Q htk hgv hv k (by omega)
    have hR := Q.hR
    have s4 := rf_yus2 Q htk hgv (2 ^ R - 1 + k) (yun G C pa lm tk go cn nd gv lv hv (2 ^ R - 1 + k))
    have e0 : (yun G C pa lm tk go cn nd gv lv hv (2 ^ R - 1 + (k + 1))).1 = (yus2 G C pa lm tk go cn nd gv lv (2 ^ R - 1 + k) (yun G C pa lm tk go cn nd gv lv hv (2 ^ R - 1 + k))).1 := rfl
    obtain ⟨l1, l2, l3⟩ := rf_low R (by omega) (2 ^ R - 1 + k) (by omega) (by omega)
    obtain ⟨d1, d2⟩ := rf_dom Q htk hgv hv (2 ^ R - 1 + k)
    have hex : rex G C R pa lm go ct nd lv (nI (2 * (2 ^ R - 1 + k) + 2)) = rex G C R pa lm go ct nd lv (nI ((2 * (2 ^ R - 1 + k) + 2) % 2 ^ (R + 1))) := by
      unfold rex; rw [rf_su_congr l1]
      congr 1
      exact mf_sm_congr (fun r hr => by rw [l1 r hr])
    have hd : rdom G C R pa lm go ct nd lv (nI ((2 * (2 ^ R - 1 + k) + 2) % 2 ^ (R + 1))) (yun G C pa lm tk go cn nd gv lv hv (2 ^ R - 1 + k)).1 := by
      rcases l3 with l3 | ⟨l3, l4⟩
      · rw [l3]; exact d1
      · have := d2 _ (by omega : ((2 * (2 ^ R - 1 + k) + 2) % 2 ^ (R + 1)) / 2 - 1 < 2 ^ R - 1 + k)
        rw [l3] at this; exact this
    rw [e0, s4, if_neg, ih]
    unfold rdom at hd
    rw [hex]; omega
theorem rf_unmet (Q : rf_Q G C R pa lm go ct cn nd lv) (hnc : ∀ r, r < R → ndc (r + 1) = nd (r + 1)) {ci : Nat → Int32} (hci : rf_ci G C go ci) {tk gv : Nat → Int32} (htk : ∀ h, h < 6 → tk h = 0) (hgv : ∀ r, r < 6 → gv r = 0) (tb hv hv' : Nat → Int32) :
    (zfu G pa lm ci R ndc ct lv tb (2 ^ R - 1)).1 = (yun G C pa lm tk go cn nd gv lv hv 31).1 ∧ (zfu G pa lm ci R ndc ct lv tb (2 ^ R - 1)).2.1 = yno (yun G C pa lm tk go cn nd gv lv hv 31).1 nd gv 6 ∧
    (zfu G pa lm ci R ndc ct lv tb (2 ^ R - 1)).2.2.1 = yhv G C pa lm tk go cn (yun G C pa lm tk go cn nd gv lv hv 31).1 lv hv' 0 := by
  have hR := Q.hR
  have hp : 2 ^ R - 1 ≤ 31 := (by decide +kernel : ∀ R, R < 6 → 2 ^ R - 1 ≤ 31) R (by omega)
  obtain ⟨i1, i2, i3, i4⟩ := rf_unmet1 Q hnc hci htk hgv tb hv (2 ^ R - 1) hp
  have h2 := rf_unmet2 Q htk hgv hv (31 - (2 ^ R - 1)) (by omega)
  rw [show 2 ^ R - 1 + (31 - (2 ^ R - 1)) = 31 by omega] at h2
  rw [h2, ← i1]
  exact ⟨rfl, rf_ext (by rw [i3, rf_nd_ref Q htk hgv]), rf_ext (by rw [i4, rf_su_ref Q htk])⟩
theorem rf_all : ∀ R, R < 6 → ∀ r, r < R → rT ((2 <<< (nI R &&& 31)) - 2) r = true ∧ rT 62 r = true := by decide +kernel
theorem rf_need_all (Q : rf_Q G C R pa lm go ct cn nd lv) (hnc : ∀ r, r < R → ndc (r + 1) = nd (r + 1)) {gv : Nat → Int32} (hgv : ∀ r, r < 6 → gv r = 0) : zns ((2 <<< (nI R &&& 31)) - 2) ndc (R + 1) = yno 62 nd gv 6 := by
  have hR := Q.hR
  apply rf_ext
  rw [rf_zns_nd Q hnc, rf_nd_ref Q (tk := fun _ => 0) (fun _ _ => rfl) hgv]
  exact mf_sm_congr (fun r hr => by rw [(rf_all R (by omega) r hr).1, (rf_all R (by omega) r hr).2])
end
