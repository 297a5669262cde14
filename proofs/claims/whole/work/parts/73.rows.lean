/-! what stays in the network's rows -/
theorem rf_upl {f : Nat → Nat} {n k v : Nat} (h : ∀ j, f j < n) (hv : v < n) : ∀ j, mf_up f k v j < n := fun j => by
  unfold mf_up; split
  · exact hv
  · exact h j
theorem rf_zly_k {x y : Nat} {z : Int32} {w : Int64} {q : zN} (h : znk q) (hx : x < 25) (hy : y < 25) : znk (zly x y z w q) := fun j => ⟨rf_upl (rf_upl (fun i => (h i).1) hx) hy j, rf_upl (rf_upl (fun i => (h i).2) hy) hx j⟩
theorem rf_zlt_k {pa lm : Nat → Int32} {q : zN} {G : Nat} (h : znk q) (hG : G ≤ 6) (hp : mf_tr G (rp pa)) : ∀ i, i ≤ G → znk (zlt pa lm q i)
  | 0, _ => h
  | i + 1, hi => rf_zly_k (rf_zlt_k h hG hp i (by omega)) (by
      unfold zab0; split
      · omega
      · have := hp i (by omega) (by omega); unfold rp at this; omega) (by omega)
theorem rf_zlr_k {nd : Nat → Int32} {q : zN} (h : znk q) : ∀ i, i ≤ 5 → znk (zlr nd q (i + 1))
  | 0, _ => h
  | i + 1, hi => rf_zly_k (rf_zlr_k h i (by omega)) (by omega) (by omega)
theorem rf_zlC_k {ct : Nat → Int32} {c : Nat} {b t : Int64} {q : zN} (h : znk q) (hc : c < 12) : ∀ i, i ≤ 5 → znk (zlC ct c b t q (i + 1))
  | 0, _ => h
  | i + 1, hi => by
    have ih := rf_zlC_k (ct := ct) (b := b) (t := t) h hc i (by omega)
    have e0 : zlC ct c b t q (i + 1 + 1) = if zh (ct (i + 1)) (nI c) = true then zly (8 + c) (19 + (i + 1)) 1 (b + Int32.toInt64 (nI (i + 1)) * t) (zlC ct c b t q (i + 1)) else zlC ct c b t q (i + 1) := rfl
    rw [e0]; split
    · exact rf_zly_k ih (by omega) (by omega)
    · exact ih
theorem rf_zab_k {go ct : Nat → Int32} {r0 : Nat} {cs : Int32} {q : zN} (hr0 : r0 ≤ 5) (hgo : ∀ c, c < 12 → rp go c < 6) (h : znk q) : ∀ j, znk (zab go ct r0 cs q j)
  | 0 => h
  | j + 1 => by
    have ih := rf_zab_k (ct := ct) (cs := cs) hr0 hgo h j
    have e0 : zab go ct r0 cs q (j + 1) = if zh cs (nI (11 - j)) = true then zlC ct (11 - j) (Int32.toInt64 (-6) * zwt j) (zwt j) (zlc0 go (11 - j) (zab go ct r0 cs q j)) (r0 + 1) else zab go ct r0 cs q j := rfl
    rw [e0]; split
    · exact rf_zlC_k (rf_zly_k ih (by have := hgo (11 - j) (by omega); unfold rp at this; omega) (by omega)) (by omega) r0 hr0
    · exact ih
theorem rf_zfa_k {go ct : Nat → Int32} {r0 : Nat} {ha fu : Int32} {q : zN} (hr0 : r0 ≤ 5) (hgo : ∀ c, c < 12 → rp go c < 6) (h : znk q) : ∀ j, j ≤ 12 → znk (zfa go ct r0 ha fu q j)
  | 0, _ => h
  | j + 1, hj => by
    have ih := rf_zfa_k (ct := ct) (ha := ha) (fu := fu) hr0 hgo h j (by omega)
    have e0 : zfa go ct r0 ha fu q (j + 1) = if zh (ha ||| fu) (nI j) = true then zlC ct j (if zh fu (nI j) = true then 1 else 0) 0 (zlc0 go j (zfa go ct r0 ha fu q j)) (r0 + 1) else zfa go ct r0 ha fu q j := rfl
    rw [e0]; split
    · exact rf_zlC_k (rf_zly_k ih (by have := hgo j (by omega); unfold rp at this; omega) (by omega)) (by omega) r0 hr0
    · exact ih
theorem rf_znkA {G R : Nat} {pa lm go nd ct : Nat → Int32} {cs : Int32} {w : zN} (h : znk w) (hG : G ≤ 6) (hR : R ≤ 5) (hp : mf_tr G (rp pa)) (hgo : ∀ c, c < 12 → rp go c < 6) : znk (zQA G R pa lm go nd ct cs w) :=
  rf_zab_k hR hgo (rf_zlr_k (rf_zlt_k (q := (0, w.2)) (fun j => h j) hG hp G (Nat.le_refl _)) R hR) 12
theorem rf_znkF {G C R : Nat} {pa lm go nd ct : Nat → Int32} {ha fu : Int32} {w : zN} (h : znk w) (hG : G ≤ 6) (hC : C ≤ 12) (hR : R ≤ 5) (hp : mf_tr G (rp pa)) (hgo : ∀ c, c < 12 → rp go c < 6) : znk (zQF G C R pa lm go nd ct ha fu w) :=
  rf_zfa_k hR hgo (rf_zlr_k (rf_zlt_k (q := (0, w.2)) (fun j => h j) hG hp G (Nat.le_refl _)) R hR) C hC
theorem rf_zso_v {fn tn : Nat → Nat} {pr : Nat → Int64} {rm : Nat → Int32} {q : (Nat → Int64) × (Nat → Nat) × Bool} (h : ∀ j, q.2.1 j < 166) : ∀ n, n ≤ 166 → ∀ j, (zso fn tn pr rm q n).2.1 j < 166
  | 0, _ => h
  | n + 1, hn => by
    have ih := rf_zso_v (fn := fn) (tn := tn) (pr := pr) (rm := rm) h n (by omega)
    have e0 : zso fn tn pr rm q (n + 1) = if ¬ rm n ≤ 0 ∧ zis fn tn pr (zso fn tn pr rm q n).1 n = true then (vp_updL (zso fn tn pr rm q n).1 (tn n) ((zso fn tn pr rm q n).1 (fn n) + pr n), mf_up (zso fn tn pr rm q n).2.1 (tn n) n, true) else zso fn tn pr rm q n := rfl
    rw [e0]; split
    · exact rf_upl ih (by omega)
    · exact ih
theorem rf_zbf_v {A0 : Nat} {fn tn : Nat → Nat} {pr : Nat → Int64} {rm : Nat → Int32} (hA : A0 ≤ 166) : ∀ (n : Nat) (q : (Nat → Int64) × (Nat → Nat) × Bool), (∀ j, q.2.1 j < 166) → ∀ j, (zbf A0 fn tn pr rm n q).2.1 j < 166
  | 0, q, h => h
  | n + 1, q, h => by
    have e0 : zbf A0 fn tn pr rm (n + 1) q = if q.2.2 = true then zbf A0 fn tn pr rm n (zso fn tn pr rm (q.1, q.2.1, false) A0) else q := rfl
    rw [e0]; split
    · exact rf_zbf_v hA n _ (rf_zso_v (q := (q.1, q.2.1, false)) h A0 hA)
    · exact h
theorem rf_zsd_v {A0 : Nat} {fn tn : Nat → Nat} {pr : Nat → Int64} {s0 t0 : Nat} (hA : A0 ≤ 166) : ∀ (n : Nat) (q : (Nat → Int32) × (Nat → Int64) × (Nat → Nat) × Int64 × Nat), (∀ j, q.2.2.1 j < 166) → ∀ j, (zsd A0 fn tn pr s0 t0 n q).2.2.1 j < 166
  | 0, q, h => h
  | n + 1, q, h => by
    have hf : ∀ j, (zfc A0 fn tn pr q.1 q.2.1 q.2.2.1 s0).2.1 j < 166 := rf_zbf_v hA 25 _ h
    have e0 : zsd A0 fn tn pr s0 t0 (n + 1) q = if lg_cmp ((zfc A0 fn tn pr q.1 q.2.1 q.2.2.1 s0).1 t0) zFAR = 0 then (q.1, (zfc A0 fn tn pr q.1 q.2.1 q.2.2.1 s0).1, (zfc A0 fn tn pr q.1 q.2.1 q.2.2.1 s0).2.1, q.2.2.2.1, q.2.2.2.2) else zsd A0 fn tn pr s0 t0 n ((ztk fn (zfc A0 fn tn pr q.1 q.2.1 q.2.2.1 s0).2.1 s0 25 (q.1, t0)).1, (zfc A0 fn tn pr q.1 q.2.1 q.2.2.1 s0).1, (zfc A0 fn tn pr q.1 q.2.1 q.2.2.1 s0).2.1, q.2.2.2.1 + (zfc A0 fn tn pr q.1 q.2.1 q.2.2.1 s0).1 t0, q.2.2.2.2 + 1) := rfl
    rw [e0]; split
    · exact hf
    · exact rf_zsd_v hA n _ hf
theorem rf_vnA {G C R : Nat} {pa lm go ct cn nd ndc : Nat → Int32} {lv : Int32} (Q : rf_Q G C R pa lm go ct cn nd lv) (w : zN) (d : Nat → Int64) {vn : Nat → Nat} (h : ∀ j, vn j < 166) : ∀ j, (zsn (zQA G R pa lm go ndc ct lv w) d vn).2.2.1 j < 166 := by
  obtain ⟨h1, h2⟩ := rf_layA (G := G) pa lm go ndc ct w Q.hC Q.hR Q.hlv
  have := rf_K h2 Q.hG Q.hC Q.hR
  have := h1.1
  exact rf_zsd_v (by omega) 12 _ h
theorem rf_vnF {G C R : Nat} {pa lm go ct cn nd ndc : Nat → Int32} {lv : Int32} (Q : rf_Q G C R pa lm go ct cn nd lv) (fu : Int32) (w : zN) (d : Nat → Int64) {vn : Nat → Nat} (h : ∀ j, vn j < 166) : ∀ j, (zsn (zQF G C R pa lm go ndc ct lv fu w) d vn).2.2.1 j < 166 := by
  obtain ⟨h1, h2⟩ := rf_layF (G := G) pa lm go ndc ct lv fu w Q.hC Q.hR
  have := rf_K h2 Q.hG Q.hC Q.hR
  have := h1.1
  exact rf_zsd_v (by omega) 12 _ h
