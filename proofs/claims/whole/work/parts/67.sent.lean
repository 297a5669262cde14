/-! sending, in machine numbers -/
abbrev rFAR : Int := 4611686018427387904
theorem rf_far : zFAR.toInt = rFAR := by decide
theorem rf_cmp0 (x y : Int64) : lg_cmp x y = 0 ↔ x.toInt = y.toInt := by
  unfold lg_cmp
  by_cases h1 : x > y
  · rw [if_pos h1]; have : y.toInt < x.toInt := Int64.lt_iff_toInt_lt.1 h1
    exact ⟨fun h => absurd h (by decide), fun h => by omega⟩
  · rw [if_neg h1]
    by_cases h2 : x = y
    · rw [if_pos h2, h2]; simp
    · rw [if_neg h2]; exact ⟨fun h => absurd h (by decide), fun h => absurd (Int64.toInt_inj.1 h) h2⟩
theorem rf_cmpn (x y : Int64) : (¬ 0 ≤ lg_cmp x y) ↔ x.toInt < y.toInt := by
  unfold lg_cmp
  by_cases h1 : x > y
  · rw [if_pos h1]; have : y.toInt < x.toInt := Int64.lt_iff_toInt_lt.1 h1
    exact ⟨fun h => absurd (by decide) h, fun h => by omega⟩
  · have h1' : ¬ y.toInt < x.toInt := fun z => h1 (Int64.lt_iff_toInt_lt.2 z)
    rw [if_neg h1]
    by_cases h2 : x = y
    · rw [if_pos h2, h2]; exact ⟨fun h => absurd (by decide) h, fun h => by omega⟩
    · rw [if_neg h2]
      have : x.toInt ≠ y.toInt := fun z => h2 (Int64.toInt_inj.1 z)
      exact ⟨fun _ => by omega, fun _ => by decide⟩
theorem rf_add64 {a b : Int64} (h1 : -9223372036854775808 ≤ a.toInt + b.toInt) (h2 : a.toInt + b.toInt < 9223372036854775808) : (a + b).toInt = a.toInt + b.toInt := by
  rw [← Int64.ofInt_toInt a, ← Int64.ofInt_toInt b, ← Int64.ofInt_add, Int64.ofInt_toInt, Int64.ofInt_toInt]; exact Int64.toInt_ofInt_of_le (by omega) (by omega)
def rD (zd : Nat → Int64) (md : Nat → Int) : Prop := ∀ v, v < 25 → (zd v).toInt = md v
def rB (b : Int) (md : Nat → Int) : Prop := ∀ v, v < 25 → md v = rFAR ∨ (-b ≤ md v ∧ md v ≤ b)
abbrev rA (A : Nat) (fn tn : Nat → Nat) (pr : Nat → Int64) (rm : Nat → Int32) (ap mrm : Nat → Int) (P : Int) : Prop := (∀ a, a < A → fn a < 25 ∧ tn a < 25) ∧ (∀ a, a < A → (pr a).toInt = ap a) ∧ (∀ a, a < A → -P ≤ ap a ∧ ap a ≤ P) ∧ (∀ a, a < A → (¬ rm a ≤ 0 ↔ 0 < mrm a)) ∧ (0 ≤ P)
theorem rA.nd {A : Nat} {fn tn : Nat → Nat} {pr : Nat → Int64} {rm : Nat → Int32} {ap mrm : Nat → Int} {P : Int} (h : rA A fn tn pr rm ap mrm P) : ∀ a, a < A → fn a < 25 ∧ tn a < 25 := h.1
theorem rA.pr {A : Nat} {fn tn : Nat → Nat} {pr : Nat → Int64} {rm : Nat → Int32} {ap mrm : Nat → Int} {P : Int} (h : rA A fn tn pr rm ap mrm P) : ∀ a, a < A → (pr a).toInt = ap a := h.2.1
theorem rA.pb {A : Nat} {fn tn : Nat → Nat} {pr : Nat → Int64} {rm : Nat → Int32} {ap mrm : Nat → Int} {P : Int} (h : rA A fn tn pr rm ap mrm P) : ∀ a, a < A → -P ≤ ap a ∧ ap a ≤ P := h.2.2.1
theorem rA.rm {A : Nat} {fn tn : Nat → Nat} {pr : Nat → Int64} {rm : Nat → Int32} {ap mrm : Nat → Int} {P : Int} (h : rA A fn tn pr rm ap mrm P) : ∀ a, a < A → (¬ rm a ≤ 0 ↔ 0 < mrm a) := h.2.2.2.1
theorem rA.p0 {A : Nat} {fn tn : Nat → Nat} {pr : Nat → Int64} {rm : Nat → Int32} {ap mrm : Nat → Int} {P : Int} (h : rA A fn tn pr rm ap mrm P) : 0 ≤ P := h.2.2.2.2
theorem rf_zso {A : Nat} {fn tn : Nat → Nat} {pr : Nat → Int64} {rm : Nat → Int32} {ap mrm : Nat → Int} {P : Int} (H : rA A fn tn pr rm ap mrm P) {q : (Nat → Int64) × (Nat → Nat) × Bool} {q' : (Nat → Int) × (Nat → Nat) × Bool} {b : Int}
    (h1 : rD q.1 q'.1) (h2 : q.2 = q'.2) (hb : rB b q'.1) (hb0 : 0 ≤ b) : ∀ i, i ≤ A → b + (i : Int) * P < rFAR →
      rD (zso fn tn pr rm q i).1 (mf_ps fn tn ap mrm rFAR i q').1 ∧ (zso fn tn pr rm q i).2 = (mf_ps fn tn ap mrm rFAR i q').2 ∧ rB (b + (i : Int) * P) (mf_ps fn tn ap mrm rFAR i q').1
  | 0, _, _ => ⟨h1, h2, by rw [show b + ((0 : Nat) : Int) * P = b by simp]; exact hb⟩
  | i + 1, hi, hf => by
    have hP := H.p0
    have hFR : rFAR = 4611686018427387904 := rfl
    have np := mf_np i P
    have n0 := mf_np0 i hP
    obtain ⟨e1, e2, e3⟩ := rf_zso H h1 h2 hb hb0 i (by omega) (by omega)
    have hn := H.nd i (by omega)
    have hpr := H.pr i (by omega)
    have hpb := H.pb i (by omega)
    have f1 := e1 (fn i) hn.1
    have f2 := e1 (tn i) hn.2
    have f3 := e3 (fn i) hn.1
    have e0 : zso fn tn pr rm q (i + 1) = if ¬ rm i ≤ 0 ∧ zis fn tn pr (zso fn tn pr rm q i).1 i = true then (vp_updL (zso fn tn pr rm q i).1 (tn i) ((zso fn tn pr rm q i).1 (fn i) + pr i), mf_up (zso fn tn pr rm q i).2.1 (tn i) i, true) else zso fn tn pr rm q i := rfl
    have e0' : mf_ps fn tn ap mrm rFAR (i + 1) q' = mf_rx fn tn ap mrm rFAR i (mf_ps fn tn ap mrm rFAR i q') := rfl
    rw [e0, e0']; unfold mf_rx
    have hb1 : rB (b + ((i + 1 : Nat) : Int) * P) (mf_ps fn tn ap mrm rFAR i q').1 := fun v hv => by
      rcases e3 v hv with h | h
      · exact Or.inl h
      · exact Or.inr (by omega)
    have hc : (¬ rm i ≤ 0 ∧ zis fn tn pr (zso fn tn pr rm q i).1 i = true) ↔ mf_cut fn tn ap mrm rFAR (mf_ps fn tn ap mrm rFAR i q').1 i := by
      unfold zis; rw [decide_eq_true_eq, H.rm i (by omega), rf_cmp0, rf_far, rf_cmpn, f1]
      constructor
      · rintro ⟨a1, a2, a3⟩
        refine ⟨a1, a2, ?_⟩
        rw [rf_add64 (by rw [f1, hpr]; omega) (by rw [f1, hpr]; omega), f1, f2, hpr] at a3; exact a3
      · rintro ⟨a1, a2, a3⟩
        refine ⟨a1, a2, ?_⟩
        rw [rf_add64 (by rw [f1, hpr]; omega) (by rw [f1, hpr]; omega), f1, f2, hpr]; exact a3
    by_cases hcut : mf_cut fn tn ap mrm rFAR (mf_ps fn tn ap mrm rFAR i q').1 i
    · rw [if_pos hcut, if_pos (hc.2 hcut)]
      have hx : -(b + (i : Int) * P) ≤ (mf_ps fn tn ap mrm rFAR i q').1 (fn i) ∧ (mf_ps fn tn ap mrm rFAR i q').1 (fn i) ≤ b + (i : Int) * P := by
        rcases f3 with h | h
        · exact absurd h hcut.2.1
        · exact h
      refine ⟨fun v hv => ?_, ?_, fun v hv => ?_⟩
      · show (vp_updL _ (tn i) _ v).toInt = mf_up _ (tn i) _ v
        by_cases ev : v = tn i
        · subst ev; rw [rf_updL_s, mf_up_s, rf_add64 (by rw [f1, hpr]; omega) (by rw [f1, hpr]; omega), f1, hpr]
        · rw [rf_updL_n _ _ ev, mf_up_n _ _ ev]; exact e1 v hv
      · show (mf_up (zso fn tn pr rm q i).2.1 (tn i) i, true) = (mf_up (mf_ps fn tn ap mrm rFAR i q').2.1 (tn i) i, true)
        rw [e2]
      · show mf_up _ (tn i) _ v = _ ∨ (_ ≤ mf_up _ (tn i) _ v ∧ mf_up _ (tn i) _ v ≤ _)
        by_cases ev : v = tn i
        · subst ev; rw [mf_up_s]; exact Or.inr (by omega)
        · rw [mf_up_n _ _ ev]; exact hb1 v hv
    · rw [if_neg hcut, if_neg (fun z => hcut (hc.1 z))]
      exact ⟨e1, e2, hb1⟩
theorem rf_zbf {A : Nat} {fn tn : Nat → Nat} {pr : Nat → Int64} {rm : Nat → Int32} {ap mrm : Nat → Int} {P : Int} (H : rA A fn tn pr rm ap mrm P) : ∀ (n : Nat) (q : (Nat → Int64) × (Nat → Nat) × Bool) (q' : (Nat → Int) × (Nat → Nat) × Bool) (b : Int),
    rD q.1 q'.1 → q.2 = q'.2 → rB b q'.1 → 0 ≤ b → b + (n : Int) * ((A : Int) * P) < rFAR → rD (zbf A fn tn pr rm n q).1 (mf_bf A fn tn ap mrm rFAR n q').1 ∧ (zbf A fn tn pr rm n q).2 = (mf_bf A fn tn ap mrm rFAR n q').2
  | 0, q, q', b, h1, h2, _, _, _ => ⟨h1, h2⟩
  | n + 1, q, q', b, h1, h2, hb, hb0, hf => by
    have hP := H.p0
    have n1 := mf_np0 A hP
    have n2 := mf_np n ((A : Int) * P)
    have n3 := mf_np0 n n1
    have e0 : zbf A fn tn pr rm (n + 1) q = if q.2.2 = true then zbf A fn tn pr rm n (zso fn tn pr rm (q.1, q.2.1, false) A) else q := rfl
    have e0' : mf_bf A fn tn ap mrm rFAR (n + 1) q' = if q'.2.2 = true then mf_bf A fn tn ap mrm rFAR n (mf_ps fn tn ap mrm rFAR A (q'.1, q'.2.1, false)) else q' := rfl
    rw [e0, e0', h2]
    by_cases e : q'.2.2 = true
    · rw [if_pos e, if_pos e]
      obtain ⟨a1, a2, a3⟩ := rf_zso H (q := (q.1, q'.2.1, false)) (q' := (q'.1, q'.2.1, false)) h1 rfl hb hb0 A (Nat.le_refl _) (by omega)
      exact rf_zbf H n _ _ (b + (A : Int) * P) a1 a2 a3 (by omega) (by omega)
    · rw [if_neg e, if_neg e]; exact ⟨h1, h2⟩
theorem rf_zfL (f : Nat → Int64) (v : Int64) : ∀ n j, j < n → zfL f v n j = v
  | 0, j, h => absurd h (Nat.not_lt_zero j)
  | n + 1, j, h => by
    show vp_updL (zfL f v n) n v j = v
    by_cases e : j = n
    · rw [e, rf_updL_s]
    · rw [rf_updL_n _ _ e]; exact rf_zfL f v n j (by omega)
theorem rf_zfc {A : Nat} {fn tn : Nat → Nat} {pr : Nat → Int64} {rm : Nat → Int32} {ap mrm : Nat → Int} {P : Int} (H : rA A fn tn pr rm ap mrm P) (hF : (25 : Int) * ((A : Int) * P) < rFAR) (d : Nat → Int64) (vn : Nat → Nat) {s0 : Nat} (hs : s0 < 25) :
    rD (zfc A fn tn pr rm d vn s0).1 (mf_bf A fn tn ap mrm rFAR 25 (mf_up (fun _ => rFAR) s0 0, vn, true)).1 ∧ (zfc A fn tn pr rm d vn s0).2.1 = (mf_bf A fn tn ap mrm rFAR 25 (mf_up (fun _ => rFAR) s0 0, vn, true)).2.1 := by
  have h := rf_zbf H 25 (vp_updL (zfL d zFAR 25) s0 0, vn, true) (mf_up (fun _ => rFAR) s0 0, vn, true) 0 (fun v hv => by
    show (vp_updL (zfL d zFAR 25) s0 0 v).toInt = mf_up (fun _ => rFAR) s0 0 v
    by_cases e : v = s0
    · rw [e, rf_updL_s, mf_up_s]; decide
    · rw [rf_updL_n _ _ e, mf_up_n _ _ e, rf_zfL d zFAR 25 v hv]; exact rf_far) rfl (fun v hv => by
    show mf_up (fun _ => rFAR) s0 0 v = _ ∨ (_ ≤ mf_up (fun _ => rFAR) s0 0 v ∧ mf_up (fun _ => rFAR) s0 0 v ≤ _)
    by_cases e : v = s0
    · rw [e, mf_up_s]; exact Or.inr (by omega)
    · rw [mf_up_n _ _ e]; exact Or.inl rfl) (Int.le_refl _) (by
      have : ((25 : Nat) : Int) * ((A : Int) * P) = 25 * ((A : Int) * P) := rfl
      omega)
  exact ⟨h.1, by unfold zfc; rw [h.2]⟩
def rE (rm : Nat → Int32) (m : Nat → Int) : Prop := ∀ a, rm a = Int32.ofInt (m a)
theorem rf_ztk {fn vn : Nat → Nat} {s0 : Nat} : ∀ (n : Nat) (rm : Nat → Int32) (m : Nat → Int) (v : Nat), rE rm m → rE (ztk fn vn s0 n (rm, v)).1 (mf_tk fn vn s0 n (m, v)).1
  | 0, rm, m, v, h => h
  | n + 1, rm, m, v, h => by
    have e0 : ztk fn vn s0 (n + 1) (rm, v) = if v ≠ s0 then ztk fn vn s0 n (zon rm (vn v), fn (vn v)) else (rm, v) := rfl
    have e0' : mf_tk fn vn s0 (n + 1) (m, v) = if v ≠ s0 then mf_tk fn vn s0 n (mf_one m (vn v), fn (vn v)) else (m, v) := rfl
    rw [e0, e0']
    by_cases e : v ≠ s0
    · rw [if_pos e, if_pos e]
      refine rf_ztk n _ _ _ (fun a => ?_)
      have k1 : ∀ b, upd rm (vn v) (rm (vn v) - 1) b = Int32.ofInt (mf_up m (vn v) (m (vn v) - 1) b) := fun b => by
        by_cases eb : b = vn v
        · subst eb; rw [rf_upd_s, mf_up_s, h, Int32.ofInt_sub]; rfl
        · rw [rf_upd_n _ _ eb, mf_up_n _ _ eb]; exact h b
      unfold zon mf_one
      by_cases ea : a = mf_mt (vn v)
      · subst ea; rw [rf_upd_s, mf_up_s, k1, Int32.ofInt_add]; rfl
      · rw [rf_upd_n _ _ ea, mf_up_n _ _ ea]; exact k1 a
    · rw [if_neg e, if_neg e]; exact h
theorem rf_zsd {K : Nat} {fn tn : Nat → Nat} {pr : Nat → Int64} {ap cap : Nat → Int} {P : Int} (hnd : ∀ a, a < 2 * K → fn a < 25 ∧ tn a < 25) (hpr : ∀ a, a < 2 * K → (pr a).toInt = ap a) (hpb : ∀ a, a < 2 * K → -P ≤ ap a ∧ ap a ≤ P) (hP : 0 ≤ P) (hcap : ∀ k, k < K → cap k ≤ 12)
    (hM : mf_M K fn tn ap) (hF : (25 : Int) * (((2 * K : Nat) : Int) * P) < rFAR) : ∀ (n : Nat) (q : (Nat → Int32) × (Nat → Int64) × (Nat → Nat) × Int64 × Nat) (q' : (Nat → Int) × (Nat → Nat) × Int × Nat), rE q.1 q'.1 → q.2.2.1 = q'.2.1 → q.2.2.2.1 = Int64.ofInt q'.2.2.1 → q.2.2.2.2 = q'.2.2.2 → mf_I 25 K fn tn ap cap 0 1 P q'.1 q'.2.2.1 q'.2.2.2 →
    rE (zsd (2 * K) fn tn pr 0 1 n q).1 (mf_send 25 (2 * K) fn tn ap 0 1 rFAR n q').1 ∧ (zsd (2 * K) fn tn pr 0 1 n q).2.2.2.1 = Int64.ofInt (mf_send 25 (2 * K) fn tn ap 0 1 rFAR n q').2.2.1 ∧ (zsd (2 * K) fn tn pr 0 1 n q).2.2.2.2 = (mf_send 25 (2 * K) fn tn ap 0 1 rFAR n q').2.2.2
  | 0, q, q', h1, h2, h3, h4, _ => ⟨h1, h3, h4⟩
  | n + 1, q, q', h1, h2, h3, h4, hI => by
    have hb : ∀ a, a < 2 * K → 0 ≤ q'.1 a ∧ q'.1 a ≤ 12 := fun a ha => by
      have n0 := hI.2.1 a ha
      obtain ⟨k, hk, e⟩ := mf_eo ha
      have c1 := hI.2.2.1 k hk
      have c2 := hcap k hk
      have n1 := hI.2.1 (2 * k) (by omega)
      have n2 := hI.2.1 (2 * k + 1) (by omega)
      rcases e with e | e <;> subst e <;> omega
    have H : rA (2 * K) fn tn pr q.1 ap q'.1 P := ⟨hnd, hpr, hpb, fun a ha => by
      have := hb a ha
      rw [rf_le, h1 a, rf_toInt_ofInt (by omega) (by omega), rf_i0]; omega, hP⟩
    obtain ⟨a1, a2⟩ := rf_zfc H hF q.2.1 q.2.2.1 (s0 := 0) (by omega)
    obtain ⟨s1, s2, s3⟩ := mf_step (FAR := rFAR) hM hI (by omega : 1 < 25) (by omega) hF q'.2.1 _ rfl
    rw [h2] at a1 a2
    have e0 : zsd (2 * K) fn tn pr 0 1 (n + 1) q = if lg_cmp ((zfc (2 * K) fn tn pr q.1 q.2.1 q.2.2.1 0).1 1) zFAR = 0 then (q.1, (zfc (2 * K) fn tn pr q.1 q.2.1 q.2.2.1 0).1, (zfc (2 * K) fn tn pr q.1 q.2.1 q.2.2.1 0).2.1, q.2.2.2.1, q.2.2.2.2) else zsd (2 * K) fn tn pr 0 1 n ((ztk fn (zfc (2 * K) fn tn pr q.1 q.2.1 q.2.2.1 0).2.1 0 25 (q.1, 1)).1, (zfc (2 * K) fn tn pr q.1 q.2.1 q.2.2.1 0).1, (zfc (2 * K) fn tn pr q.1 q.2.1 q.2.2.1 0).2.1, q.2.2.2.1 + (zfc (2 * K) fn tn pr q.1 q.2.1 q.2.2.1 0).1 1, q.2.2.2.2 + 1) := rfl
    have e0' : mf_send 25 (2 * K) fn tn ap 0 1 rFAR (n + 1) q' = if (mf_bf (2 * K) fn tn ap q'.1 rFAR 25 (mf_up (fun _ => rFAR) 0 0, q'.2.1, true)).1 1 ≠ rFAR then mf_send 25 (2 * K) fn tn ap 0 1 rFAR n ((mf_tk fn (mf_bf (2 * K) fn tn ap q'.1 rFAR 25 (mf_up (fun _ => rFAR) 0 0, q'.2.1, true)).2.1 0 25 (q'.1, 1)).1, (mf_bf (2 * K) fn tn ap q'.1 rFAR 25 (mf_up (fun _ => rFAR) 0 0, q'.2.1, true)).2.1, q'.2.2.1 + (mf_bf (2 * K) fn tn ap q'.1 rFAR 25 (mf_up (fun _ => rFAR) 0 0, q'.2.1, true)).1 1, q'.2.2.2 + 1) else (q'.1, (mf_bf (2 * K) fn tn ap q'.1 rFAR 25 (mf_up (fun _ => rFAR) 0 0, q'.2.1, true)).2.1, q'.2.2.1, q'.2.2.2) := rfl
    have a3 := a1 1 (by omega)
    rw [e0, e0', h2]
    have hc : lg_cmp ((zfc (2 * K) fn tn pr q.1 q.2.1 q'.2.1 0).1 1) zFAR = 0 ↔ (mf_bf (2 * K) fn tn ap q'.1 rFAR 25 (mf_up (fun _ => rFAR) 0 0, q'.2.1, true)).1 1 = rFAR := by rw [rf_cmp0, a3, rf_far]
    by_cases e : (mf_bf (2 * K) fn tn ap q'.1 rFAR 25 (mf_up (fun _ => rFAR) 0 0, q'.2.1, true)).1 1 = rFAR
    · rw [if_pos (hc.2 e), if_neg (fun z => z e)]; exact ⟨h1, h3, h4⟩
    · rw [if_neg (fun z => e (hc.1 z)), if_pos e]
      refine rf_zsd hnd hpr hpb hP hcap hM hF n _ _ ?_ a2 ?_ ?_ (s1 e).2
      · show rE (ztk fn (zfc (2 * K) fn tn pr q.1 q.2.1 q'.2.1 0).2.1 0 25 (q.1, 1)).1 _
        rw [a2]; exact rf_ztk 25 _ _ _ h1
      · show q.2.2.2.1 + (zfc (2 * K) fn tn pr q.1 q.2.1 q'.2.1 0).1 1 = Int64.ofInt (_ + _)
        rw [Int64.ofInt_add, h3, ← a3, Int64.ofInt_toInt]
      · show q.2.2.2.2 + 1 = _; rw [h4]
