/-! the reference's choice, course by course -/
theorem rf_yfx {G : Nat} {pa : Nat → Int32} (hp : mf_tr G (rp pa)) (by0 : Int32) (h : Nat) : ∀ (n g : Nat) (tk : Nat → Int32), g < n → g < G → yfx pa by0 n g tk h = if mf_an (rp pa) g h = true then tk h + by0 else tk h
  | 0, g, tk, h1, _ => absurd h1 (Nat.not_lt_zero g)
  | n + 1, g, tk, h1, h2 => by
    have e0 : yfx pa by0 (n + 1) g tk = if g = 0 then upd tk g (tk g + by0) else yfx pa by0 n (rp pa g) (upd tk g (tk g + by0)) := rfl
    rw [e0]
    by_cases e : g = 0
    · subst e
      rw [if_pos rfl, mf_an_0]
      by_cases eh : 0 = h
      · subst eh; rw [rf_upd_s, if_pos (decide_eq_true rfl)]
      · rw [rf_upd_n _ _ (fun z => eh z.symm), if_neg (by rw [decide_eq_false eh]; decide)]
    · have hpg := hp g (by omega) h2
      rw [if_neg e, rf_yfx hp by0 h n (rp pa g) _ (by omega) (by omega), mf_an_s hp (by omega) h2]
      by_cases eh : g = h
      · subst eh
        have hn : ¬ mf_an (rp pa) (rp pa g) g = true := fun z => by have := mf_an_le hp _ _ (Nat.le_refl _) (by omega) z; omega
        rw [if_neg hn, rf_upd_s, if_pos (by simp)]
      · rw [rf_upd_n _ _ (fun z => eh z.symm), decide_eq_false eh, Bool.false_or]
theorem rf_yfi {G : Nat} {pa lm tk : Nat → Int32} (hp : mf_tr G (rp pa)) : ∀ (n g : Nat) (r : Bool), g < n → g < G → (yfi pa lm tk n g r = true ↔ r = true ∧ ∀ h, h < G → mf_an (rp pa) g h = true → yfo lm tk h = true)
  | 0, g, r, h1, _ => absurd h1 (Nat.not_lt_zero g)
  | n + 1, g, r, h1, h2 => by
    have e0 : yfi pa lm tk (n + 1) g r = if g = 0 then (r && yfo lm tk g) else yfi pa lm tk n (rp pa g) (r && yfo lm tk g) := rfl
    rw [e0]
    by_cases e : g = 0
    · subst e
      rw [if_pos rfl, Bool.and_eq_true]
      constructor
      · rintro ⟨a, b⟩; refine ⟨a, fun h hh ha => ?_⟩
        rw [mf_an_0, decide_eq_true_eq] at ha; subst ha; exact b
      · rintro ⟨a, b⟩; exact ⟨a, b 0 h2 (mf_an_self _ 0)⟩
    · have hpg := hp g (by omega) h2
      rw [if_neg e, rf_yfi hp n (rp pa g) _ (by omega) (by omega), Bool.and_eq_true]
      constructor
      · rintro ⟨⟨a, b⟩, c⟩; refine ⟨a, fun h hh ha => ?_⟩
        rw [mf_an_s hp (by omega) h2, Bool.or_eq_true, decide_eq_true_eq] at ha
        rcases ha with ha | ha
        · subst ha; exact b
        · exact c h hh ha
      · rintro ⟨a, b⟩; refine ⟨⟨a, b g h2 (mf_an_self _ g)⟩, fun h hh ha => b h hh ?_⟩
        rw [mf_an_s hp (by omega) h2, ha, Bool.or_true]
abbrev rf_Q (G C R : Nat) (pa lm go ct cn nd : Nat → Int32) (lv : Int32) : Prop := (G ≤ 6) ∧ (C ≤ 12) ∧ (R ≤ 5) ∧ (G = 0 → C = 0) ∧ (mf_tr G (rp pa)) ∧ (∀ c, c < C → rp go c < G) ∧ (rf_cn C R ct cn) ∧ (∀ g, g < G → -1 ≤ (lm g).toInt ∧ (lm g).toInt ≤ 12) ∧ (∀ r, 0 < r → r < 6 → 0 ≤ (nd r).toInt ∧ (nd r).toInt ≤ 12) ∧ (∀ r, R ≤ r → r < 5 → nd (r + 1) = 0) ∧ (∀ c, C ≤ c → rb lv c = false)
theorem rf_Q.hG {G C R : Nat} {pa lm go ct cn nd : Nat → Int32} {lv : Int32} (h : rf_Q G C R pa lm go ct cn nd lv) : G ≤ 6 := h.1
theorem rf_Q.hC {G C R : Nat} {pa lm go ct cn nd : Nat → Int32} {lv : Int32} (h : rf_Q G C R pa lm go ct cn nd lv) : C ≤ 12 := h.2.1
theorem rf_Q.hR {G C R : Nat} {pa lm go ct cn nd : Nat → Int32} {lv : Int32} (h : rf_Q G C R pa lm go ct cn nd lv) : R ≤ 5 := h.2.2.1
theorem rf_Q.hC0 {G C R : Nat} {pa lm go ct cn nd : Nat → Int32} {lv : Int32} (h : rf_Q G C R pa lm go ct cn nd lv) : G = 0 → C = 0 := h.2.2.2.1
theorem rf_Q.hp {G C R : Nat} {pa lm go ct cn nd : Nat → Int32} {lv : Int32} (h : rf_Q G C R pa lm go ct cn nd lv) : mf_tr G (rp pa) := h.2.2.2.2.1
theorem rf_Q.hgo {G C R : Nat} {pa lm go ct cn nd : Nat → Int32} {lv : Int32} (h : rf_Q G C R pa lm go ct cn nd lv) : ∀ c, c < C → rp go c < G := h.2.2.2.2.2.1
theorem rf_Q.hcn {G C R : Nat} {pa lm go ct cn nd : Nat → Int32} {lv : Int32} (h : rf_Q G C R pa lm go ct cn nd lv) : rf_cn C R ct cn := h.2.2.2.2.2.2.1
theorem rf_Q.hlm {G C R : Nat} {pa lm go ct cn nd : Nat → Int32} {lv : Int32} (h : rf_Q G C R pa lm go ct cn nd lv) : ∀ g, g < G → -1 ≤ (lm g).toInt ∧ (lm g).toInt ≤ 12 := h.2.2.2.2.2.2.2.1
theorem rf_Q.hnd {G C R : Nat} {pa lm go ct cn nd : Nat → Int32} {lv : Int32} (h : rf_Q G C R pa lm go ct cn nd lv) : ∀ r, 0 < r → r < 6 → 0 ≤ (nd r).toInt ∧ (nd r).toInt ≤ 12 := h.2.2.2.2.2.2.2.2.1
theorem rf_Q.hz {G C R : Nat} {pa lm go ct cn nd : Nat → Int32} {lv : Int32} (h : rf_Q G C R pa lm go ct cn nd lv) : ∀ r, R ≤ r → r < 5 → nd (r + 1) = 0 := h.2.2.2.2.2.2.2.2.2.1
theorem rf_Q.hlv {G C R : Nat} {pa lm go ct cn nd : Nat → Int32} {lv : Int32} (h : rf_Q G C R pa lm go ct cn nd lv) : ∀ c, C ≤ c → rb lv c = false := h.2.2.2.2.2.2.2.2.2.2
theorem rf_smod2 : ∀ c, c < 12 → (((nI c + 1) &&& 31).toBitVec.smod 32).toNat = c + 1 := by decide +kernel
theorem rf_ot {lv : Int32} {c : Nat} (hc : c < 12) {i : Nat} (hi : i < 12) : rb ((lv >>> ((nI c + 1) &&& 31)) <<< ((nI c + 1) &&& 31)) i = (rb lv i && decide (c < i)) := by
  unfold rb
  rw [Int32.toBitVec_shiftLeft, Int32.toBitVec_shiftRight, BitVec.shiftLeft_eq', BitVec.sshiftRight', rf_smod2 c hc, BitVec.getLsbD_shiftLeft, BitVec.getLsbD_sshiftRight]
  by_cases h : c < i
  · have h1 : ¬ i < c + 1 := by omega
    have h2 : ¬ 32 ≤ i - (c + 1) := by omega
    have h3 : c + 1 + (i - (c + 1)) < 32 := by omega
    have h4 : c + 1 + (i - (c + 1)) = i := by omega
    have h5 : i < 32 := by omega
    simp [h, h1, h2, h4, h5]
  · have h1 : i < c + 1 := by omega
    simp [h, h1]
section
variable {G C R : Nat} {pa lm go ct cn nd : Nat → Int32} {lv : Int32} {as : Nat → Nat}
theorem rf_cnt_le (f : Nat → Int) (hf : ∀ k, 0 ≤ f k ∧ f k ≤ 1) {n m : Nat} (hz : ∀ k, m ≤ k → f k = 0) : 0 ≤ mf_sm n f ∧ mf_sm n f ≤ m := by
  by_cases h : n ≤ m
  · have h1 := mf_sm_le (n := n) (F := f) (G := fun _ => 1) (fun k _ => (hf k).2)
    rw [mf_sm_const] at h1
    exact ⟨mf_sm_nn (fun k _ => (hf k).1), by omega⟩
  · rw [mf_sm_ext (n := m) (m := n) (by omega) (fun k h1 _ => hz k h1)]
    have h1 := mf_sm_le (n := m) (F := f) (G := fun _ => 1) (fun k _ => (hf k).2)
    rw [mf_sm_const] at h1
    exact ⟨mf_sm_nn (fun k _ => (hf k).1), by omega⟩
theorem rf_nr_b (C : Nat) (as : Nat → Nat) (n : Nat) {r : Nat} (hr : 0 < r) : 0 ≤ mf_nr C (mf_pre as n) r ∧ mf_nr C (mf_pre as n) r ≤ n := by
  unfold mf_nr
  refine rf_cnt_le _ (fun k => by split <;> omega) (fun k hk => ?_)
  have : mf_pre as n k = 0 := if_neg (by omega)
  rw [this, if_neg (by omega)]
theorem rf_ld_b (C : Nat) (par grp : Nat → Nat) (as : Nat → Nat) (n h : Nat) : 0 ≤ mf_ld C par grp (mf_1 (mf_pre as n)) h ∧ mf_ld C par grp (mf_1 (mf_pre as n)) h ≤ n := by
  unfold mf_ld
  refine rf_cnt_le _ (fun k => by unfold mf_1; split <;> (try split) <;> omega) (fun k hk => ?_)
  have : mf_pre as n k = 0 := if_neg (by omega)
  unfold mf_1; rw [this]; split <;> simp
theorem rf_asz_b (C : Nat) (as : Nat → Nat) (n : Nat) : 0 ≤ mf_asz C (mf_pre as n) ∧ mf_asz C (mf_pre as n) ≤ n := by
  unfold mf_asz
  refine rf_cnt_le _ (fun k => by unfold mf_1; split <;> omega) (fun k hk => ?_)
  have : mf_pre as n k = 0 := if_neg (by omega)
  unfold mf_1; rw [this]; simp
/-- the question that 'choice' asks -/
theorem rf_ask (Q : rf_Q G C R pa lm go ct cn nd lv) (ha : mf_aok G R C (rp pa) (rp go) (rb lv) (rc ct) (rL lm) (rN nd) as) {c : Nat} (hc : c < C) {tk gv : Nat → Int32}
    (hgv : ∀ r, 0 < r → r < 6 → (gv r).toInt = mf_nr C (mf_pre as c) r) (htk : ∀ h, h < G → (tk h).toInt = mf_ld C (rp pa) (rp go) (mf_1 (mf_pre as c)) h) {r : Nat} (hr : 0 < r) (hrR : r ≤ R)
    (hfit : ∀ h, h < G → mf_an (rp pa) (rp go c) h = true → mf_ld C (rp pa) (rp go) (mf_1 (mf_pre as c)) h < rL lm h) :
    rf_H G C R pa lm (yfx pa 1 7 (rp go c) tk) go ct cn nd (upd gv r (gv r + 1)) ((lv >>> ((nI c + 1) &&& 31)) <<< ((nI c + 1) &&& 31))
      (fun h => rL lm h - mf_ld C (rp pa) (rp go) (mf_1 (mf_pre as c)) h - (if mf_an (rp pa) (rp go c) h = true then 1 else 0)) (fun i => rN nd i - mf_nr C (mf_pre as c) i - (if r = i then 1 else 0)) := by
  have hG := Q.hG
  have hC := Q.hC
  have hR := Q.hR
  have hgc := Q.hgo c hc
  have hmono : ∀ h, mf_ld C (rp pa) (rp go) (mf_1 (mf_pre as c)) h ≤ mf_ld C (rp pa) (rp go) (mf_1 as) h := fun h => mf_sm_le (fun k _ => by
    unfold mf_1 mf_pre; split
    · split
      · split <;> omega
      · split <;> omega
    · omega)
  refine ⟨hG, hC, hR, Q.hC0, Q.hp, Q.hgo, Q.hcn, fun g hg => ?_, Q.hnd, fun i h1 h2 => ?_, fun i hi => ?_, fun i h1 h2 => ?_⟩
  · have b1 := rf_ld_b C (rp pa) (rp go) as c g
    have b2 := rL_of (Q.hlm g hg)
    have b3 := ha.2.2 g hg
    have b4 := hmono g
    have b5 := hfit g hg
    have b6 := htk g hg
    have e1 := rf_yfx Q.hp 1 g 7 (rp go c) tk (by omega) hgc
    have e2 : (yfx pa 1 7 (rp go c) tk g).toInt = mf_ld C (rp pa) (rp go) (mf_1 (mf_pre as c)) g + (if mf_an (rp pa) (rp go c) g = true then 1 else 0) := by
      rw [e1]
      by_cases e : mf_an (rp pa) (rp go c) g = true
      · rw [if_pos e, if_pos e, rf_add (by rw [rf_i1]; omega) (by rw [rf_i1]; omega), rf_i1, b6]
      · rw [if_neg e, if_neg e, b6]; omega
    have b7 : 0 ≤ rL lm g - mf_ld C (rp pa) (rp go) (mf_1 (mf_pre as c)) g - (if mf_an (rp pa) (rp go c) g = true then 1 else 0) ∧ (0 : Int) ≤ (if mf_an (rp pa) (rp go c) g = true then 1 else 0) ∧ (if mf_an (rp pa) (rp go c) g = true then (1 : Int) else 0) ≤ 1 := by
      by_cases e : mf_an (rp pa) (rp go c) g = true
      · rw [if_pos e]; have := b5 e; omega
      · rw [if_neg e]; omega
    refine ⟨b7.1, ?_⟩
    rcases b2.2.2 with ⟨l1, l2⟩ | ⟨l1, l2⟩
    · refine Or.inl ⟨l1, ?_⟩
      have n1 : mf_sm C (fun k => mf_b (rb ((lv >>> ((nI c + 1) &&& 31)) <<< ((nI c + 1) &&& 31)) k)) ≤ (C : Int) - (c + 1) := by
        obtain ⟨m, hm⟩ : ∃ m, C = (c + 1) + m := ⟨C - (c + 1), by omega⟩
        rw [hm, mf_sm_split, mf_sm_z (n := c + 1) (fun k hk => by rw [rf_ot (by omega) (by omega), decide_eq_false (by omega : ¬ c < k), Bool.and_false]; rfl)]
        have := rf_sm_b (n := m) (fun k => rb ((lv >>> ((nI c + 1) &&& 31)) <<< ((nI c + 1) &&& 31)) (c + 1 + k))
        omega
      show _ ≤ rL lm g - mf_ld C (rp pa) (rp go) (mf_1 (mf_pre as c)) g - (if mf_an (rp pa) (rp go c) g = true then 1 else 0)
      omega
    · refine Or.inr ⟨l1, ?_⟩
      show _ = rL lm g - mf_ld C (rp pa) (rp go) (mf_1 (mf_pre as c)) g - (if mf_an (rp pa) (rp go c) g = true then 1 else 0)
      rw [rf_sub (by rw [e2]; omega) (by rw [e2]; omega), e2]; omega
  · have b1 := rf_nr_b C as c (r := i) h1
    have b2 := hgv i h1 h2
    by_cases e : i = r
    · subst e; rw [rf_upd_s, rf_add (by rw [rf_i1]; omega) (by rw [rf_i1]; omega), rf_i1]; omega
    · rw [rf_upd_n _ _ e]; omega
  · have b1 := rf_nr_b C as c (r := i + 1) (by omega)
    have b2 := hgv (i + 1) (by omega) (by omega)
    show rN nd (i + 1) - _ - _ = _
    by_cases e : i + 1 = r
    · subst e; rw [rf_upd_s, if_pos rfl, rf_add (by rw [rf_i1]; omega) (by rw [rf_i1]; omega), rf_i1, b2]; unfold rN; omega
    · rw [rf_upd_n _ _ e, if_neg (fun z => e z.symm), b2]; unfold rN; omega
  · show rN nd (i + 1) - _ - _ = _
    have e1 : rN nd (i + 1) = 0 := by unfold rN; rw [Q.hz i h1 h2]; exact rf_i0
    have e2 : mf_nr C (mf_pre as c) (i + 1) = 0 := mf_sm_z (fun k hk => by
      rw [if_neg]; intro z
      unfold mf_pre at z; split at z
      · have := ha.1 k hk (by omega); omega
      · omega)
    rw [e1, e2, if_neg (by omega)]; omega
theorem rf_ych (Q : rf_Q G C R pa lm go ct cn nd lv) (ha : mf_aok G R C (rp pa) (rp go) (rb lv) (rc ct) (rL lm) (rN nd) as)
    (hmax : ∀ b, mf_aok G R C (rp pa) (rp go) (rb lv) (rc ct) (rL lm) (rN nd) b → mf_asz C b ≤ mf_asz C as) (hbest : ∀ b, mf_aok G R C (rp pa) (rp go) (rb lv) (rc ct) (rL lm) (rN nd) b → mf_asz C b = mf_asz C as → mf_act C mf_bc as ≤ mf_act C mf_bc b)
    {c : Nat} (hc : c < C) (hX : rb lv c = true) {tk gv : Nat → Int32} {due : Int32}
    (hgv : ∀ r, 0 < r → r < 6 → (gv r).toInt = mf_nr C (mf_pre as c) r) (htk : ∀ h, h < G → (tk h).toInt = mf_ld C (rp pa) (rp go) (mf_1 (mf_pre as c)) h) (hdue : due.toInt = mf_asz C as - mf_asz C (mf_pre as c)) :
    ∀ (n r : Nat) (hv : Nat → Int32), n + r = 6 → 0 < r → (as c = 0 ∨ r ≤ as c) → (ych G C pa lm tk go cn nd gv (rp go c) c ((lv >>> ((nI c + 1) &&& 31)) <<< ((nI c + 1) &&& 31)) due n r hv).1 = as c
  | 0, r, hv, h1, h2, h3 => by
    have hR := Q.hR
    show 0 = as c
    by_cases e : as c = 0
    · exact e.symm
    · have := ha.1 c hc e; omega
  | n + 1, r, hv, h1, h2, h3 => by
    have hG := Q.hG
    have hC := Q.hC
    have hR := Q.hR
    have ih := rf_ych Q ha hmax hbest hc hX hgv htk hdue n (r + 1)
    generalize hot : (lv >>> ((nI c + 1) &&& 31)) <<< ((nI c + 1) &&& 31) = ot at ih ⊢
    have e0 : ych G C pa lm tk go cn nd gv (rp go c) c ot due (n + 1) r hv = if (cn c >>> (nI r &&& 31)) &&& 1 = 1 ∧ ¬ nd r ≤ gv r ∧ yfi pa lm tk 7 (rp go c) true = true then (if (yms G C pa lm (yfx pa 1 7 (rp go c) tk) go cn nd (upd gv r (gv r + 1)) ot hv 31).1 + 1 = due then (r, (yms G C pa lm (yfx pa 1 7 (rp go c) tk) go cn nd (upd gv r (gv r + 1)) ot hv 31).2) else ych G C pa lm tk go cn nd gv (rp go c) c ot due n (r + 1) (yms G C pa lm (yfx pa 1 7 (rp go c) tk) go cn nd (upd gv r (gv r + 1)) ot hv 31).2) else ych G C pa lm tk go cn nd gv (rp go c) c ot due n (r + 1) hv := rfl
    rw [e0]
    have tA : (cn c >>> (nI r &&& 31)) &&& 1 = 1 ↔ (r ≤ R ∧ rc ct c r = true) := by
      rw [rb_ref (by omega), Q.hcn c hc r, Bool.and_eq_true, decide_eq_true_eq]
      exact ⟨fun h => ⟨h.1.2, h.2⟩, fun h => ⟨⟨h2, h.1⟩, h.2⟩⟩
    have tB : ¬ nd r ≤ gv r ↔ mf_nr C (mf_pre as c) r < rN nd r := by
      rw [rf_le, hgv r h2 (by omega)]; unfold rN; omega
    have tC : yfi pa lm tk 7 (rp go c) true = true ↔ ∀ h, h < G → mf_an (rp pa) (rp go c) h = true → mf_ld C (rp pa) (rp go) (mf_1 (mf_pre as c)) h < rL lm h := by
      rw [rf_yfi Q.hp 7 (rp go c) true (by have := Q.hgo c hc; omega) (Q.hgo c hc)]
      have ho : ∀ h, h < G → (yfo lm tk h = true ↔ mf_ld C (rp pa) (rp go) (mf_1 (mf_pre as c)) h < rL lm h) := fun h hh => by
        have b1 := rf_ld_b C (rp pa) (rp go) as c h
        have b2 := rL_of (Q.hlm h hh)
        unfold yfo; rw [decide_eq_true_eq, rf_lt, rf_le, rf_i0, htk h hh]
        rcases b2.2.2 with ⟨l1, l2⟩ | ⟨l1, l2⟩
        · exact ⟨fun _ => by omega, fun _ => Or.inl l1⟩
        · exact ⟨fun z => by rcases z with z | z <;> omega, fun z => Or.inr (by omega)⟩
      exact ⟨fun z h hh hx => (ho h hh).1 (z.2 h hh hx), fun z => ⟨rfl, fun h hh hx => (ho h hh).2 (z h hh hx)⟩⟩
    by_cases hrR : r ≤ R
    · have hbnd := rf_asz_b C as c
      have hM : (mf_nr C (mf_pre as c) r < rN nd r ∧ ∀ h, h < G → mf_an (rp pa) (rp go c) h = true → mf_ld C (rp pa) (rp go) (mf_1 (mf_pre as c)) h < rL lm h) →
          mf_is C G R (rp pa) (rp go) (rb ot) (rc ct) (fun h => rL lm h - mf_ld C (rp pa) (rp go) (mf_1 (mf_pre as c)) h - (if mf_an (rp pa) (rp go c) h = true then 1 else 0)) (fun i => rN nd i - mf_nr C (mf_pre as c) i - (if r = i then 1 else 0)) (yms G C pa lm (yfx pa 1 7 (rp go c) tk) go cn nd (upd gv r (gv r + 1)) ot hv 31).1.toInt := fun z => by
        have := rf_ask Q ha hc hgv htk h2 hrR z.2
        rw [hot] at this
        exact rf_most this hv
      have hg := mf_greedy hG hC hR Q.hgo Q.hp ha hmax hbest hc hX h2 hrR _ (rb ot) (fun i hi => by rw [← hot]; exact rf_ot (by omega) (by omega)) _ _ (fun h _ => rfl) (fun i _ => rfl) hM
      by_cases ht : rc ct c r = true ∧ mf_nr C (mf_pre as c) r < rN nd r ∧ (∀ h, h < G → mf_an (rp pa) (rp go c) h = true → mf_ld C (rp pa) (rp go) (mf_1 (mf_pre as c)) h < rL lm h)
      · rw [if_pos ⟨tA.2 ⟨hrR, ht.1⟩, tB.2 ht.2.1, tC.2 ht.2.2⟩]
        have hH := rf_ask Q ha hc hgv htk h2 hrR ht.2.2
        rw [hot] at hH
        have hyb := rf_yms hH hv 31
        have hub := rf_yno_nd hH 62
        have hlo : (yms G C pa lm (yfx pa 1 7 (rp go c) tk) go cn nd (upd gv r (gv r + 1)) ot hv 31).1.toInt ≤ 60 := by
          have h5 := (rf_yno (set := 62) hH.hnd hH.hgv 5 (by omega)).2.2
          have h6 := rf_cv_0 hH
          have h7 := hyb.2.1
          have h8 : (yno 62 nd (upd gv r (gv r + 1)) (5 + 1)).toInt = (yno 62 nd (upd gv r (gv r + 1)) 6).toInt := rfl
          omega
        have hD : (yms G C pa lm (yfx pa 1 7 (rp go c) tk) go cn nd (upd gv r (gv r + 1)) ot hv 31).1 + 1 = due ↔ (yms G C pa lm (yfx pa 1 7 (rp go c) tk) go cn nd (upd gv r (gv r + 1)) ot hv 31).1.toInt + 1 = mf_asz C as - mf_asz C (mf_pre as c) := by
          have h9 := Int32.le_toInt (yms G C pa lm (yfx pa 1 7 (rp go c) tk) go cn nd (upd gv r (gv r + 1)) ot hv 31).1
          have h10 : ((yms G C pa lm (yfx pa 1 7 (rp go c) tk) go cn nd (upd gv r (gv r + 1)) ot hv 31).1 + 1).toInt = (yms G C pa lm (yfx pa 1 7 (rp go c) tk) go cn nd (upd gv r (gv r + 1)) ot hv 31).1.toInt + 1 := by
            rw [rf_add (by rw [rf_i1]; omega) (by rw [rf_i1]; omega), rf_i1]
          rw [← hdue, ← h10]
          exact ⟨fun h => by rw [h], fun h => rf_ext h⟩
        by_cases hd : (yms G C pa lm (yfx pa 1 7 (rp go c) tk) go cn nd (upd gv r (gv r + 1)) ot hv 31).1.toInt + 1 = mf_asz C as - mf_asz C (mf_pre as c)
        · rw [if_pos (hD.2 hd)]
          have := hg.2 ht.1 ht.2.1 ht.2.2 hd
          show r = as c
          omega
        · rw [if_neg (fun z => hd (hD.1 z))]
          have hne : as c ≠ r := fun z => hd (hg.1 z).2.2.2
          exact ih _ (by omega) (by omega) (by omega)
      · rw [if_neg (fun z => ht ⟨(tA.1 z.1).2, tB.1 z.2.1, tC.1 z.2.2⟩)]
        have hne : as c ≠ r := fun z => by
          have := hg.1 z; exact ht ⟨this.1, this.2.1, this.2.2.1⟩
        exact ih _ (by omega) (by omega) (by omega)
    · rw [if_neg (fun z => hrR (tA.1 z.1).1)]
      have hne : as c ≠ r := fun z => by
        have := ha.1 c hc (by omega); omega
      exact ih _ (by omega) (by omega) (by omega)
/-- after i courses -/
abbrev rf_J (G C : Nat) (pa go : Nat → Int32) (as : Nat → Nat) (i : Nat) (q : (Nat → Int32) × (Nat → Int32) × (Nat → Int32) × (Nat → Int32) × Int32) : Prop := (∀ c, c < i → c < 12 → q.1 c = if c < C then nI (as c) else 0) ∧ (∀ r, 0 < r → r < 6 → (q.2.1 r).toInt = mf_nr C (mf_pre as i) r) ∧ (∀ h, h < G → (q.2.2.1 h).toInt = mf_ld C (rp pa) (rp go) (mf_1 (mf_pre as i)) h) ∧ (q.2.2.2.2.toInt = mf_asz C as - mf_asz C (mf_pre as i))
theorem rf_J.gs {G C : Nat} {pa go : Nat → Int32} {as : Nat → Nat} {i : Nat} {q : (Nat → Int32) × (Nat → Int32) × (Nat → Int32) × (Nat → Int32) × Int32} (h : rf_J G C pa go as i q) : ∀ c, c < i → c < 12 → q.1 c = if c < C then nI (as c) else 0 := h.1
theorem rf_J.gv {G C : Nat} {pa go : Nat → Int32} {as : Nat → Nat} {i : Nat} {q : (Nat → Int32) × (Nat → Int32) × (Nat → Int32) × (Nat → Int32) × Int32} (h : rf_J G C pa go as i q) : ∀ r, 0 < r → r < 6 → (q.2.1 r).toInt = mf_nr C (mf_pre as i) r := h.2.1
theorem rf_J.tk {G C : Nat} {pa go : Nat → Int32} {as : Nat → Nat} {i : Nat} {q : (Nat → Int32) × (Nat → Int32) × (Nat → Int32) × (Nat → Int32) × Int32} (h : rf_J G C pa go as i q) : ∀ h, h < G → (q.2.2.1 h).toInt = mf_ld C (rp pa) (rp go) (mf_1 (mf_pre as i)) h := h.2.2.1
theorem rf_J.due {G C : Nat} {pa go : Nat → Int32} {as : Nat → Nat} {i : Nat} {q : (Nat → Int32) × (Nat → Int32) × (Nat → Int32) × (Nat → Int32) × Int32} (h : rf_J G C pa go as i q) : q.2.2.2.2.toInt = mf_asz C as - mf_asz C (mf_pre as i) := h.2.2.2
theorem rf_pre_same {n : Nat} (h : C ≤ n ∨ as n = 0) : (∀ r, mf_nr C (mf_pre as (n + 1)) r = mf_nr C (mf_pre as n) r) ∧ (∀ par grp h, mf_ld C par grp (mf_1 (mf_pre as (n + 1))) h = mf_ld C par grp (mf_1 (mf_pre as n)) h) ∧ mf_asz C (mf_pre as (n + 1)) = mf_asz C (mf_pre as n) := by
  have e : ∀ k, k < C → mf_pre as (n + 1) k = mf_pre as n k := fun k hk => by
    unfold mf_pre
    by_cases e1 : k < n
    · rw [if_pos e1, if_pos (by omega)]
    · rw [if_neg e1]
      by_cases e2 : k = n
      · subst e2; rw [if_pos (by omega)]; rcases h with h | h
        · omega
        · exact h
      · rw [if_neg (by omega)]
  refine ⟨fun r => mf_sm_congr (fun k hk => by rw [e k hk]), fun par grp h => mf_sm_congr (fun k hk => ?_), mf_sm_congr (fun k hk => ?_)⟩
  · unfold mf_1; rw [e k hk]
  · unfold mf_1; rw [e k hk]
theorem rf_ygs (Q : rf_Q G C R pa lm go ct cn nd lv) (ha : mf_aok G R C (rp pa) (rp go) (rb lv) (rc ct) (rL lm) (rN nd) as)
    (hmax : ∀ b, mf_aok G R C (rp pa) (rp go) (rb lv) (rc ct) (rL lm) (rN nd) b → mf_asz C b ≤ mf_asz C as) (hbest : ∀ b, mf_aok G R C (rp pa) (rp go) (rb lv) (rc ct) (rL lm) (rN nd) b → mf_asz C b = mf_asz C as → mf_act C mf_bc as ≤ mf_act C mf_bc b)
    {q : (Nat → Int32) × (Nat → Int32) × (Nat → Int32) × (Nat → Int32) × Int32} (h0 : rf_J G C pa go as 0 q) : ∀ i, i ≤ 12 → rf_J G C pa go as i (ygs G C pa lm go cn nd lv q i)
  | 0, _ => h0
  | i + 1, hi => by
    have hG := Q.hG
    have hC := Q.hC
    have hR := Q.hR
    have J := rf_ygs Q ha hmax hbest h0 i (by omega)
    generalize hp : ygs G C pa lm go cn nd lv q i = p at J
    have e0 : ygs G C pa lm go cn nd lv q (i + 1) = yg1 G C pa lm go cn nd lv i p := by rw [← hp]; rfl
    rw [e0]
    unfold yg1
    by_cases hx : rb lv i = true
    · rw [if_pos ((rb_ref (by omega)).2 hx)]
      have hc : i < C := Nat.lt_of_not_le (fun z => by rw [Q.hlv i z] at hx; exact absurd hx (by decide))
      have hy := rf_ych Q ha hmax hbest hc hx J.gv J.tk J.due 5 1 p.2.2.2.1 (by omega) (by omega) (by omega)
      have hy' : (ych G C pa lm p.2.2.1 go cn nd p.2.1 (go i).toNatClampNeg i ((lv >>> ((nI i + 1) &&& 31)) <<< ((nI i + 1) &&& 31)) p.2.2.2.2 5 1 p.2.2.2.1).1 = as i := hy
      rw [hy']
      have hle : as i ≤ 5 := by
        by_cases e : as i = 0
        · omega
        · have := ha.1 i hc e; omega
      have hgs : ∀ c, c < i + 1 → c < 12 → upd (upd p.1 i 0) i (nI (as i)) c = if c < C then nI (as c) else 0 := fun c h1 h2 => by
        by_cases e : c = i
        · subst e; rw [rf_upd_s, if_pos hc]
        · rw [rf_upd_n _ _ e, rf_upd_n _ _ e]; exact J.gs c (by omega) h2
      by_cases e : as i = 0
      · have hz : nI (as i) ≤ 0 := by rw [e]; decide
        rw [if_pos hz]
        obtain ⟨s1, s2, s3⟩ := rf_pre_same (C := C) (as := as) (n := i) (Or.inr e)
        exact ⟨hgs, fun r h1 h2 => by rw [s1]; exact J.gv r h1 h2, fun h hh => by rw [s2]; exact J.tk h hh, by rw [s3]; exact J.due⟩
      · have hz : ¬ nI (as i) ≤ 0 := fun z => by
          have := rf_le.1 z; rw [rf_nI (by omega), rf_i0] at this; omega
        rw [if_neg hz]
        obtain ⟨s1, s2, s3⟩ := mf_pre_one (par := rp pa) (grp := rp go) (as := as) (n := i) hc (as i) (p := mf_pre as (i + 1)) (fun c => by
          rw [mf_pre_s]
          by_cases e1 : c < i
          · rw [if_pos e1, if_neg (by omega)]
          · rw [if_neg e1]
            by_cases e2 : c = i
            · rw [if_pos e2, if_pos e2]
            · rw [if_neg e2, if_neg e2]; unfold mf_pre; rw [if_neg e1])
        refine ⟨hgs, fun r h1 h2 => ?_, fun h hh => ?_, ?_⟩
        · rw [s1 r h1]
          have b1 := rf_nr_b C as i (r := r) h1
          have b2 := J.gv r h1 h2
          show (upd p.2.1 (as i) (p.2.1 (as i) + 1) r).toInt = _
          by_cases er : r = as i
          · subst er; rw [rf_upd_s, if_pos rfl, rf_add (by rw [rf_i1]; omega) (by rw [rf_i1]; omega), rf_i1, b2]
          · rw [rf_upd_n _ _ er, if_neg (fun z => er z.symm), b2]; omega
        · rw [s2 h]
          have b1 := rf_ld_b C (rp pa) (rp go) as i h
          have b2 := J.tk h hh
          show (yfx pa 1 7 (rp go i) p.2.2.1 h).toInt = _
          rw [rf_yfx Q.hp 1 h 7 (rp go i) _ (by have := Q.hgo i hc; omega) (Q.hgo i hc)]
          by_cases er : mf_an (rp pa) (rp go i) h = true
          · rw [if_pos er, if_pos er, if_pos e, rf_add (by rw [rf_i1]; omega) (by rw [rf_i1]; omega), rf_i1, b2]
          · rw [if_neg er, if_neg er, b2]; omega
        · rw [s3, if_pos e]
          have b1 := rf_asz_b C as i
          have b2 := J.due
          have b3 : mf_asz C as ≤ C := by
            have := mf_sm_le (n := C) (F := mf_1 as) (G := fun _ => 1) (fun k _ => by unfold mf_1; split <;> omega)
            rw [mf_sm_const] at this; unfold mf_asz; omega
          have b4 : 0 ≤ mf_asz C as := mf_sm_nn (fun k _ => mf_1_nn as k)
          show (p.2.2.2.2 + (-1)).toInt = _
          have hm : (-1 : Int32).toInt = -1 := by decide
          rw [rf_add (by rw [hm]; omega) (by rw [hm]; omega), hm, b2]; omega
    · rw [if_neg (fun z => hx ((rb_ref (by omega)).1 z))]
      have hs : C ≤ i ∨ as i = 0 := by
        by_cases hc : i < C
        · refine Or.inr (Classical.byContradiction (fun e => hx (ha.1 i hc e).2.1))
        · exact Or.inl (by omega)
      obtain ⟨s1, s2, s3⟩ := rf_pre_same (C := C) (as := as) (n := i) hs
      refine ⟨fun c h1 h2 => ?_, fun r h1 h2 => by rw [s1]; exact J.gv r h1 h2, fun h hh => by rw [s2]; exact J.tk h hh, by rw [s3]; exact J.due⟩
      show upd p.1 i 0 c = _
      by_cases e : c = i
      · subst e; rw [rf_upd_s]
        split
        · rename_i hc
          rcases hs with h | h
          · omega
          · rw [h]; rfl
        · rfl
      · rw [rf_upd_n _ _ e]; exact J.gs c (by omega) h2
end
