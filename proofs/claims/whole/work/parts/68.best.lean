/-! the class finds a best assignment -/
section
variable {G C R : Nat} {par grp : Nat → Nat} {X : Nat → Bool} {cnt : Nat → Nat → Bool} {lim need : Nat → Int} {cs : Nat → Nat → Int}
def rfr (w : zN) (k : Nat) : Nat := w.2.1 (2 * k)
def rto (w : zN) (k : Nat) : Nat := w.2.2.1 (2 * k)
def rcap (w : zN) (k : Nat) : Int := (w.2.2.2.1 (2 * k)).toInt
def rcost (w : zN) (k : Nat) : Int := (w.2.2.2.2 (2 * k)).toInt
theorem rf_lay {w : zN} (h : ∀ F, rS w F = mf_bs G R C par grp X cnt lim need cs F) : mf_lay (w.1 / 2) (rfr w) (rto w) (rcap w) (rcost w) G R C par grp X cnt lim need cs := fun F => h F
theorem mf_sm_const (n : Nat) (a : Int) : mf_sm n (fun _ => a) = n * a := by
  induction n with
  | zero => show (0 : Int) = ((0 : Nat) : Int) * a; simp
  | succ k ih => rw [mf_sm_s, ih, mf_np]
theorem rf_K {w : zN} (h : ∀ F, rS w F = mf_bs G R C par grp X cnt lim need cs F) (hG : G ≤ 6) (hC : C ≤ 12) (hR : R ≤ 5) : w.1 / 2 ≤ 83 := by
  have h1 := h (fun _ _ _ _ => 1)
  have h2 : rS w (fun _ _ _ _ => 1) = ((w.1 / 2 : Nat) : Int) := by unfold rS; rw [mf_sm_const]; simp
  have h3 : mf_bs G R C par grp X cnt lim need cs (fun _ _ _ _ => 1) ≤ (G : Int) + R + C * 6 := by
    unfold mf_bs
    have a1 : mf_sm G (fun _ => (1 : Int)) = G := by rw [mf_sm_const]; simp
    have a2 : mf_sm R (fun _ => (1 : Int)) = R := by rw [mf_sm_const]; simp
    have a3 : mf_sm C (fun c => if X c = true then (1 : Int) + mf_sm R (fun r => if cnt c (r + 1) = true then 1 else 0) else 0) ≤ mf_sm C (fun _ => (6 : Int)) := mf_sm_le (fun c _ => by
      have : mf_sm R (fun r => if cnt c (r + 1) = true then (1 : Int) else 0) ≤ mf_sm R (fun _ => (1 : Int)) := mf_sm_le (fun r _ => by split <;> omega)
      rw [a2] at this
      split <;> omega)
    rw [mf_sm_const] at a3
    show mf_sm G (fun _ => (1 : Int)) + mf_sm R (fun _ => (1 : Int)) + mf_sm C (fun c => if X c = true then (1 : Int) + mf_sm R (fun r => if cnt c (r + 1) = true then 1 else 0) else 0) ≤ _
    rw [a1, a2]; omega
  omega
abbrev rf_O (K : Nat) (w : zN) (Z : (Nat → Int32) × (Nat → Int64) × (Nat → Nat) × Int64 × Nat) (G C R : Nat) (par grp : Nat → Nat) (X : Nat → Bool) (cnt : Nat → Nat → Bool) (lim need : Nat → Int) (cs : Nat → Nat → Int) (as : Nat → Nat) : Prop := (mf_aok G R C par grp X cnt lim need as) ∧ (mf_asz C as = (Z.2.2.2.2 : Int)) ∧ (Z.2.2.2.1 = Int64.ofInt (mf_act C cs as)) ∧ (∀ b, mf_aok G R C par grp X cnt lim need b → mf_asz C b ≤ mf_asz C as) ∧ (∀ b, mf_aok G R C par grp X cnt lim need b → mf_asz C b = mf_asz C as → mf_act C cs as ≤ mf_act C cs b) ∧ (∀ k, k < K → 19 < rto w k → ∃ c r, c < C ∧ r < R ∧ rfr w k = 8 + c ∧ rto w k = 20 + r ∧ (Z.1 (2 * k) = 0 ↔ as c = r + 1)) ∧ (∀ c, c < C → as c ≠ 0 → ∃ k, k < K ∧ rfr w k = 8 + c ∧ rto w k = 19 + as c)
theorem rf_O.ok {K : Nat} {w : zN} {Z : (Nat → Int32) × (Nat → Int64) × (Nat → Nat) × Int64 × Nat} {G C R : Nat} {par grp : Nat → Nat} {X : Nat → Bool} {cnt : Nat → Nat → Bool} {lim need : Nat → Int} {cs : Nat → Nat → Int} {as : Nat → Nat} (h : rf_O K w Z G C R par grp X cnt lim need cs as) : mf_aok G R C par grp X cnt lim need as := h.1
theorem rf_O.sz {K : Nat} {w : zN} {Z : (Nat → Int32) × (Nat → Int64) × (Nat → Nat) × Int64 × Nat} {G C R : Nat} {par grp : Nat → Nat} {X : Nat → Bool} {cnt : Nat → Nat → Bool} {lim need : Nat → Int} {cs : Nat → Nat → Int} {as : Nat → Nat} (h : rf_O K w Z G C R par grp X cnt lim need cs as) : mf_asz C as = (Z.2.2.2.2 : Int) := h.2.1
theorem rf_O.pd {K : Nat} {w : zN} {Z : (Nat → Int32) × (Nat → Int64) × (Nat → Nat) × Int64 × Nat} {G C R : Nat} {par grp : Nat → Nat} {X : Nat → Bool} {cnt : Nat → Nat → Bool} {lim need : Nat → Int} {cs : Nat → Nat → Int} {as : Nat → Nat} (h : rf_O K w Z G C R par grp X cnt lim need cs as) : Z.2.2.2.1 = Int64.ofInt (mf_act C cs as) := h.2.2.1
theorem rf_O.mx {K : Nat} {w : zN} {Z : (Nat → Int32) × (Nat → Int64) × (Nat → Nat) × Int64 × Nat} {G C R : Nat} {par grp : Nat → Nat} {X : Nat → Bool} {cnt : Nat → Nat → Bool} {lim need : Nat → Int} {cs : Nat → Nat → Int} {as : Nat → Nat} (h : rf_O K w Z G C R par grp X cnt lim need cs as) : ∀ b, mf_aok G R C par grp X cnt lim need b → mf_asz C b ≤ mf_asz C as := h.2.2.2.1
theorem rf_O.mn {K : Nat} {w : zN} {Z : (Nat → Int32) × (Nat → Int64) × (Nat → Nat) × Int64 × Nat} {G C R : Nat} {par grp : Nat → Nat} {X : Nat → Bool} {cnt : Nat → Nat → Bool} {lim need : Nat → Int} {cs : Nat → Nat → Int} {as : Nat → Nat} (h : rf_O K w Z G C R par grp X cnt lim need cs as) : ∀ b, mf_aok G R C par grp X cnt lim need b → mf_asz C b = mf_asz C as → mf_act C cs as ≤ mf_act C cs b := h.2.2.2.2.1
theorem rf_O.ar {K : Nat} {w : zN} {Z : (Nat → Int32) × (Nat → Int64) × (Nat → Nat) × Int64 × Nat} {G C R : Nat} {par grp : Nat → Nat} {X : Nat → Bool} {cnt : Nat → Nat → Bool} {lim need : Nat → Int} {cs : Nat → Nat → Int} {as : Nat → Nat} (h : rf_O K w Z G C R par grp X cnt lim need cs as) : ∀ k, k < K → 19 < rto w k → ∃ c r, c < C ∧ r < R ∧ rfr w k = 8 + c ∧ rto w k = 20 + r ∧ (Z.1 (2 * k) = 0 ↔ as c = r + 1) := h.2.2.2.2.2.1
theorem rf_O.an {K : Nat} {w : zN} {Z : (Nat → Int32) × (Nat → Int64) × (Nat → Nat) × Int64 × Nat} {G C R : Nat} {par grp : Nat → Nat} {X : Nat → Bool} {cnt : Nat → Nat → Bool} {lim need : Nat → Int} {cs : Nat → Nat → Int} {as : Nat → Nat} (h : rf_O K w Z G C R par grp X cnt lim need cs as) : ∀ c, c < C → as c ≠ 0 → ∃ k, k < K ∧ rfr w k = 8 + c ∧ rto w k = 19 + as c := h.2.2.2.2.2.2
theorem rf_neg64 {a : Int64} (h : a.toInt ≠ -9223372036854775808) : (-a).toInt = - a.toInt := by
  have h1 := Int64.le_toInt a
  have h2 := Int64.toInt_lt a
  have : -a = Int64.ofInt (- a.toInt) := by rw [Int64.ofInt_neg, Int64.ofInt_toInt]
  rw [this]; exact Int64.toInt_ofInt_of_le (by omega) (by omega)
theorem rf_solve {w : zN} (hW : rW w) (hS : ∀ F, rS w F = mf_bs G R C par grp X cnt lim need cs F) (hG : G ≤ 6) (hC : C ≤ 12) (hR : R ≤ 5) (hg : ∀ c, c < C → grp c < G) (hp : mf_tr G par)
    (h1 : ∀ g, g < G → 0 ≤ lim g ∧ lim g ≤ 12) (h2 : ∀ r, r < R → 0 ≤ need (r + 1) ∧ need (r + 1) ≤ 12) (h3 : ∀ c, c < C → ∀ r, r < R → -2176782336 ≤ cs c (r + 1) ∧ cs c (r + 1) ≤ 2176782336) (d : Nat → Int64) (vn : Nat → Nat) :
    ∃ as, rf_O (w.1 / 2) w (zsn w d vn) G C R par grp X cnt lim need cs as := by
  obtain ⟨K, hK⟩ : ∃ K, w.1 / 2 = K := ⟨_, rfl⟩
  have hK2 : w.1 = 2 * K := by have := hW.1; omega
  have hK83 : K ≤ 83 := by have := rf_K hS hG hC hR; omega
  have hl := rf_lay hS
  rw [hK] at hl ⊢
  have hnode := mf_lay_to hl (Pr := fun u v a b => u < 25 ∧ v < 25 ∧ 0 ≤ a ∧ a ≤ 12 ∧ -2176782336 ≤ b ∧ b ≤ 2176782336) ⟨fun g hgg => by
      have := mf_ab_lt hp hgg; have := h1 g hgg
      exact ⟨by omega, by omega, by omega, by omega, by omega, by omega⟩, fun r hr => by
      have := h2 r hr
      exact ⟨by omega, by omega, by omega, by omega, by omega, by omega⟩, fun c hc _ => ⟨by
      have := hg c hc
      exact ⟨by omega, by omega, by omega, by omega, by omega, by omega⟩, fun r hr _ => by
      have := h3 c hc r hr
      exact ⟨by omega, by omega, by omega, by omega, by omega, by omega⟩⟩⟩
  have ha : ∀ k, k < K → w.2.1 (2 * k) = rfr w k ∧ w.2.2.1 (2 * k) = rto w k ∧ w.2.1 (2 * k + 1) = rto w k ∧ w.2.2.1 (2 * k + 1) = rfr w k ∧ (fun a => (w.2.2.2.2 a).toInt) (2 * k) = rcost w k ∧ (fun a => (w.2.2.2.2 a).toInt) (2 * k + 1) = - rcost w k ∧ (fun a => (w.2.2.2.1 a).toInt) (2 * k) = rcap w k ∧ (fun a => (w.2.2.2.1 a).toInt) (2 * k + 1) = 0 := fun k hk => by
    obtain ⟨e1, e2, e3, e4⟩ := hW.2 k (by omega)
    have hn := hnode k hk
    have hc : rcost w k = (w.2.2.2.2 (2 * k)).toInt := rfl
    refine ⟨rfl, rfl, e1, e2, rfl, ?_, rfl, ?_⟩
    · show (w.2.2.2.2 (2 * k + 1)).toInt = _
      rw [e4, rf_neg64 (by omega)]; rfl
    · show (w.2.2.2.1 (2 * k + 1)).toInt = 0
      rw [e3]; exact rf_i0
  obtain ⟨hM, hI⟩ := mf_start hl hG hC hR hg hp (P := 2176782336) (by omega) (fun g hgg => (h1 g hgg).1) (fun r hr => (h2 r hr).1) h3 (ab := w.2.1) (ae := w.2.2.1) (ap := fun a => (w.2.2.2.2 a).toInt) (rm := fun a => (w.2.2.2.1 a).toInt) ha
  have hF : (25 : Int) * (((2 * K : Nat) : Int) * 2176782336) < rFAR := by
    have : rFAR = 4611686018427387904 := rfl
    omega
  have hnd : ∀ a, a < 2 * K → w.2.1 a < 25 ∧ w.2.2.1 a < 25 := fun a haa => by
    obtain ⟨k, hk, e⟩ := mf_eo haa
    obtain ⟨e1, e2, e3, e4, _⟩ := ha k hk
    have hn := hnode k hk
    rcases e with e | e <;> subst e
    · rw [e1, e2]; exact ⟨hn.1, hn.2.1⟩
    · rw [e3, e4]; exact ⟨hn.2.1, hn.1⟩
  have hpb : ∀ a, a < 2 * K → -2176782336 ≤ (w.2.2.2.2 a).toInt ∧ (w.2.2.2.2 a).toInt ≤ 2176782336 := fun a haa => by
    obtain ⟨k, hk, e⟩ := mf_eo haa
    obtain ⟨_, _, _, _, e5, e6, _⟩ := ha k hk
    have hn := hnode k hk
    have e5' : (w.2.2.2.2 (2 * k)).toInt = rcost w k := e5
    have e6' : (w.2.2.2.2 (2 * k + 1)).toInt = - rcost w k := e6
    rcases e with e | e <;> subst e <;> omega
  obtain ⟨z1, z2, z3⟩ := rf_zsd (K := K) (fn := w.2.1) (tn := w.2.2.1) (pr := w.2.2.2.2) (ap := fun a => (w.2.2.2.2 a).toInt) (cap := rcap w) (P := 2176782336) hnd (fun a _ => rfl) hpb (by omega) (fun k hk => (hnode k hk).2.2.2.1) hM hF 12
    (w.2.2.2.1, d, vn, 0, 0) (fun a => (w.2.2.2.1 a).toInt, vn, 0, 0) (fun a => (rf_ofInt _).symm) rfl rfl rfl hI
  obtain ⟨s1, s2⟩ := mf_send_ok (FAR := rFAR) hM (by omega : 1 < 25) (by omega) hF 12 (fun a => (w.2.2.2.1 a).toInt, vn, 0, 0) hI
  have hz : zsn w d vn = zsd (2 * K) w.2.1 w.2.2.1 w.2.2.2.2 0 1 12 (w.2.2.2.1, d, vn, 0, 0) := by unfold zsn; rw [hK2]
  rw [← hz] at z1 z2 z3
  generalize hm : mf_send 25 (2 * K) w.2.1 w.2.2.1 (fun a => (w.2.2.2.2 a).toInt) 0 1 rFAR 12 (fun a => (w.2.2.2.1 a).toInt, vn, 0, 0) = m at z1 z2 z3 s1 s2
  obtain ⟨o1, o2, o3, o4, o5, _⟩ := mf_end hl hG hC hg hp (ab := w.2.1) (ae := w.2.2.1) (ap := fun a => (w.2.2.2.2 a).toInt) (fun k hk => ⟨(ha k hk).1, (ha k hk).2.1, (ha k hk).2.2.2.2.1⟩) hM s1 12 (by
    rcases s2 with s2 | s2
    · refine Or.inl ?_
      have : m.2.2.2 = 12 := by rw [s2]
      rw [this]; rfl
    · exact Or.inr s2) (by omega)
  obtain ⟨as, a1, a2, a3, a4⟩ := mf_z_a (cs := cs) o1
  have hcapk : ∀ k, k < K → 0 ≤ m.1 (2 * k) ∧ 0 ≤ m.1 (2 * k + 1) ∧ m.1 (2 * k) + m.1 (2 * k + 1) = rcap w k := fun k hk => ⟨s1.2.1 _ (by omega), s1.2.1 _ (by omega), s1.2.2.1 k hk⟩
  refine ⟨as, a1, ?_, ?_, ?_, ?_, ?_, ?_⟩
  · rw [a3, o2, z3]
  · rw [a4, o3, z2]
  · intro b hb
    obtain ⟨b1, b2, b3⟩ := mf_a_z (cs := cs) hb
    have := o4 _ b1; rw [b2] at this; rw [a3, o2]; exact this
  · intro b hb he
    obtain ⟨b1, b2, b3⟩ := mf_a_z (cs := cs) hb
    have := o5 _ b1 (by rw [b2, he, a3, o2]); rw [b3] at this; rw [a4, o3]; exact this
  · have hba : ∀ k, k < K → 19 < rto w k → ∃ c r, c < C ∧ r < R ∧ rfr w k = 8 + c ∧ rto w k = 20 + r ∧ X c = true ∧ cnt c (r + 1) = true ∧ rcap w k = 1 :=
      mf_lay_to hl (Pr := fun u v a b => 19 < v → ∃ c r, c < C ∧ r < R ∧ u = 8 + c ∧ v = 20 + r ∧ X c = true ∧ cnt c (r + 1) = true ∧ a = 1) ⟨fun g hgg h => by omega, fun r hr h => by omega, fun c hc hx => ⟨fun h => by omega, fun r hr hcn h => ⟨c, r, hc, hr, rfl, rfl, hx, hcn, rfl⟩⟩⟩
    intro k hk h19
    obtain ⟨c, r, hc, hr, e1, e2, e3, e4, e5⟩ := hba k hk h19
    refine ⟨c, r, hc, hr, e1, e2, ?_⟩
    have p1 := mf_ph_at hl hG hC hg hp (mf_fl m.1) hk
    rw [e1, e2] at p1
    have p2 := a2 c hc r hr
    have p3 : mf_zof K (rfr w) (rto w) X cnt (mf_fl m.1) c r = mf_ph K (rfr w) (rto w) (mf_fl m.1) (8 + c) (20 + r) := by unfold mf_zof; rw [if_pos ⟨e3, e4⟩]
    have p4 : mf_fl m.1 k = m.1 (2 * k + 1) := rfl
    have p5 := hcapk k hk
    have p6 : mf_zas as c r = if as c = r + 1 then 1 else 0 := rfl
    have p7 : (zsn w d vn).1 (2 * k) = Int32.ofInt (m.1 (2 * k)) := z1 (2 * k)
    have p8 : (zsn w d vn).1 (2 * k) = 0 ↔ m.1 (2 * k) = 0 := by
      rw [p7]; constructor
      · intro h
        have := congrArg Int32.toInt h
        rw [rf_toInt_ofInt (by omega) (by omega), rf_i0] at this; exact this
      · intro h; rw [h]; rfl
    rw [p8]
    by_cases e : as c = r + 1
    · rw [if_pos e] at p6; exact ⟨fun _ => e, fun _ => by omega⟩
    · rw [if_neg e] at p6; exact ⟨fun h => by omega, fun h => absurd h e⟩
  · intro c hc hne
    have h9 := a1.1 c hc hne
    have hnot : ∀ Pr : Nat → Nat → Int → Int → Prop, (∀ k, k < K → Pr (rfr w k) (rto w k) (rcap w k) (rcost w k)) → mf_ba G R C par grp X cnt lim need cs Pr := fun Pr h => mf_lay_of hl h
    apply Classical.byContradiction; intro hcon
    have h10 := (hnot (fun u v _ _ => ¬ (u = 8 + c ∧ v = 19 + as c)) (fun k hk hx => hcon ⟨k, hk, hx.1, hx.2⟩)).2.2 c hc h9.2.1
    have h11 := h10.2 (as c - 1) (by omega) (by rw [show as c - 1 + 1 = as c by omega]; exact h9.2.2)
    exact h11 ⟨rfl, by omega⟩
/-- what is written down -/
theorem rf_zwa {K : Nat} {w : zN} {Z : (Nat → Int32) × (Nat → Int64) × (Nat → Nat) × Int64 × Nat} {as : Nat → Nat} (hO : rf_O K w Z G C R par grp X cnt lim need cs as) (hC : C ≤ 12) (hR : R ≤ 5) (ro : Nat → Int32) :
    ∀ n, n ≤ K → ∀ c, c < 12 → (zwa w.2.1 w.2.2.1 Z.1 (zfl ro 0 12) n c = 0 ∨ (c < C ∧ zwa w.2.1 w.2.2.1 Z.1 (zfl ro 0 12) n c = nI (as c))) ∧ (∀ k, k < n → 19 < rto w k → rfr w k = 8 + c → Z.1 (2 * k) = 0 → zwa w.2.1 w.2.2.1 Z.1 (zfl ro 0 12) n c = nI (as c))
  | 0, _, c, hc => ⟨Or.inl (rf_zfl ro 0 12 c hc), fun k hk => absurd hk (Nat.not_lt_zero k)⟩
  | n + 1, hn, c, hc => by
    obtain ⟨i1, i2⟩ := rf_zwa hO hC hR ro n (by omega) c hc
    have e0 : zwa w.2.1 w.2.2.1 Z.1 (zfl ro 0 12) (n + 1) = if ¬ nI (rto w n) ≤ 19 ∧ Z.1 (2 * n) = 0 then upd (zwa w.2.1 w.2.2.1 Z.1 (zfl ro 0 12) n) (rfr w n - 8) (nI (rto w n) - 19) else zwa w.2.1 w.2.2.1 Z.1 (zfl ro 0 12) n := rfl
    rw [e0]
    have h19 : (19 : Int32).toInt = 19 := by decide
    by_cases e : 19 < rto w n ∧ Z.1 (2 * n) = 0
    · obtain ⟨c', r, hc', hr, f1, f2, f3⟩ := hO.ar n (by omega) e.1
      have hlt : ¬ nI (rto w n) ≤ 19 := fun z => by
        have := rf_le.1 z; rw [rf_nI (by omega), h19] at this; omega
      have hv : nI (rto w n) - 19 = nI (as c') := by
        apply rf_ext
        rw [rf_sub (by rw [rf_nI (by omega), h19]; omega) (by rw [rf_nI (by omega), h19]; omega), rf_nI (by omega), h19, f3.1 e.2, rf_nI (by omega)]; omega
      rw [if_pos ⟨hlt, e.2⟩, hv, show rfr w n - 8 = c' by omega]
      by_cases ec : c = c'
      · subst ec; rw [rf_upd_s]; exact ⟨Or.inr ⟨hc', rfl⟩, fun _ _ _ _ _ => rfl⟩
      · rw [rf_upd_n _ _ ec]
        refine ⟨i1, fun k hk g1 g2 g3 => ?_⟩
        by_cases ek : k = n
        · subst ek; omega
        · exact i2 k (by omega) g1 g2 g3
    · have hneg : ¬ (¬ nI (rto w n) ≤ 19 ∧ Z.1 (2 * n) = 0) := fun z => by
        by_cases hlt : 19 < rto w n
        · exact e ⟨hlt, z.2⟩
        · exact z.1 (rf_le.2 (by rw [rf_nI (by omega), h19]; omega))
      rw [if_neg hneg]
      refine ⟨i1, fun k hk g1 g2 g3 => ?_⟩
      by_cases ek : k = n
      · subst ek; exact absurd ⟨g1, g3⟩ e
      · exact i2 k (by omega) g1 g2 g3
theorem rf_written {K : Nat} {w : zN} {Z : (Nat → Int32) × (Nat → Int64) × (Nat → Nat) × Int64 × Nat} {as : Nat → Nat} (hO : rf_O K w Z G C R par grp X cnt lim need cs as) (hC : C ≤ 12) (hR : R ≤ 5) (ro : Nat → Int32) {c : Nat} (hc : c < 12) :
    zwa w.2.1 w.2.2.1 Z.1 (zfl ro 0 12) K c = if c < C then nI (as c) else 0 := by
  obtain ⟨i1, i2⟩ := rf_zwa hO hC hR ro K (Nat.le_refl _) c hc
  by_cases e : c < C
  · rw [if_pos e]
    by_cases ea : as c = 0
    · rcases i1 with h | h
      · rw [h, ea]; rfl
      · exact h.2
    · obtain ⟨k, hk, g1, g2⟩ := hO.an c e ea
      obtain ⟨c', r, hc', hr, f1, f2, f3⟩ := hO.ar k hk (by omega)
      have : c' = c := by omega
      subst this
      exact i2 k hk (by omega) g1 (f3.2 (by omega))
  · rw [if_neg e]
    rcases i1 with h | h
    · exact h
    · exact absurd h.1 e
end
