/-! what flows into a place less what flows out, by blocks; flows and assignments -/
section Net
variable {G R C : Nat} {par grp : Nat → Nat} {X : Nat → Bool} {cnt : Nat → Nat → Bool} {lim need : Nat → Int} {cs : Nat → Nat → Int}
def mf_nf (v : Nat) (ph : Nat → Nat → Int) : Nat → Nat → Int → Int → Int := fun u w _ _ => (if w = v then ph u w else 0) - (if u = v then ph u w else 0)
theorem mf_nf_0 {v u w : Nat} {ph : Nat → Nat → Int} {a b : Int} (h1 : w ≠ v) (h2 : u ≠ v) : mf_nf v ph u w a b = 0 := by
  unfold mf_nf; rw [if_neg h1, if_neg h2]; rfl
theorem mf_nf_in {v u : Nat} {ph : Nat → Nat → Int} {a b : Int} (h2 : u ≠ v) : mf_nf v ph u v a b = ph u v := by
  unfold mf_nf; rw [if_pos rfl, if_neg h2]; omega
theorem mf_nf_out {v w : Nat} {ph : Nat → Nat → Int} {a b : Int} (h2 : w ≠ v) : mf_nf v ph v w a b = - ph v w := by
  unfold mf_nf; rw [if_neg h2, if_pos rfl]; omega
theorem mf_ab_lt (hp : mf_tr G par) {g : Nat} (hg : g < G) : mf_ab par g < 2 + G ∧ mf_ab par g ≠ 1 ∧ mf_ab par g ≠ 2 + g := by
  unfold mf_ab
  by_cases e : g = 0
  · rw [if_pos e]; omega
  · have := hp g (by omega) hg
    rw [if_neg e]; omega
theorem mf_bn_req (hG : G ≤ 6) (hC : C ≤ 12) (hg : ∀ c, c < C → grp c < G) (hp : mf_tr G par) (ph : Nat → Nat → Int) {r : Nat} (hr : r < R) :
    mf_bs G R C par grp X cnt lim need cs (mf_nf (20 + r) ph) = mf_sm C (fun c => if X c = true ∧ cnt c (r + 1) = true then ph (8 + c) (20 + r) else 0) - ph (20 + r) 1 := by
  unfold mf_bs
  rw [mf_sm_z (n := G) (fun g h => mf_nf_0 (by omega) (by have := mf_ab_lt hp h; omega))]
  rw [mf_sm_congr (n := R) (G := fun i => if r = i then - ph (20 + i) 1 else 0) (fun i hi => by
    by_cases e : r = i
    · subst e; rw [if_pos rfl, mf_nf_out (by omega)]
    · rw [if_neg e, mf_nf_0 (by omega) (by omega)]), mf_sm_one hr (fun i => - ph (20 + i) 1)]
  rw [mf_sm_congr (n := C) (G := fun c => if X c = true ∧ cnt c (r + 1) = true then ph (8 + c) (20 + r) else 0) (fun c hc => by
    have hgc := hg c hc
    by_cases x : X c = true
    · rw [if_pos x, mf_nf_0 (by omega) (by omega)]
      rw [mf_sm_congr (n := R) (G := fun i => if r = i then (if cnt c (i + 1) = true then ph (8 + c) (20 + i) else 0) else 0) (fun i hi => by
        by_cases e : r = i
        · subst e; rw [if_pos rfl]; split
          · rw [mf_nf_in (by omega)]
          · rfl
        · rw [if_neg e]; split
          · rw [mf_nf_0 (by omega) (by omega)]
          · rfl), mf_sm_one hr (fun i => if cnt c (i + 1) = true then ph (8 + c) (20 + i) else 0)]
      by_cases y : cnt c (r + 1) = true
      · rw [if_pos y, if_pos ⟨x, y⟩]; omega
      · rw [if_neg y, if_neg (fun z => y z.2)]; rfl
    · rw [if_neg x, if_neg (fun z => x z.1)])]
  omega
theorem mf_bn_crs (hG : G ≤ 6) (hC : C ≤ 12) (hg : ∀ c, c < C → grp c < G) (hp : mf_tr G par) (ph : Nat → Nat → Int) {c : Nat} (hc : c < C) (hx : X c = true) :
    mf_bs G R C par grp X cnt lim need cs (mf_nf (8 + c) ph) = ph (2 + grp c) (8 + c) - mf_sm R (fun r => if cnt c (r + 1) = true then ph (8 + c) (20 + r) else 0) := by
  unfold mf_bs
  rw [mf_sm_z (n := G) (fun g h => mf_nf_0 (by omega) (by have := mf_ab_lt hp h; omega)), mf_sm_z (n := R) (fun i hi => mf_nf_0 (by omega) (by omega))]
  rw [mf_sm_congr (n := C) (G := fun i => if c = i then ph (2 + grp i) (8 + i) - mf_sm R (fun r => if cnt i (r + 1) = true then ph (8 + i) (20 + r) else 0) else 0) (fun i hi => by
    have hgc := hg i hi
    by_cases e : c = i
    · subst e
      rw [if_pos rfl, if_pos hx, mf_nf_in (by omega)]
      rw [mf_sm_congr (n := R) (G := fun r => 0 - (if cnt c (r + 1) = true then ph (8 + c) (20 + r) else 0)) (fun r _ => by
        split
        · rw [mf_nf_out (by omega)]; omega
        · rfl), mf_sm_sub, mf_sm_zero]
      omega
    · rw [if_neg e]
      by_cases x : X i = true
      · rw [if_pos x, mf_nf_0 (by omega) (by omega), mf_sm_z (fun r _ => by
          split
          · exact mf_nf_0 (by omega) (by omega)
          · rfl)]
        rfl
      · rw [if_neg x])]
  rw [mf_sm_one hc (fun i => ph (2 + grp i) (8 + i) - mf_sm R (fun r => if cnt i (r + 1) = true then ph (8 + i) (20 + r) else 0))]
  omega
theorem mf_bn_grp (hG : G ≤ 6) (hC : C ≤ 12) (hg : ∀ c, c < C → grp c < G) (hp : mf_tr G par) (ph : Nat → Nat → Int) {h : Nat} (hh : h < G) :
    mf_bs G R C par grp X cnt lim need cs (mf_nf (2 + h) ph) = ph (mf_ab par h) (2 + h) - mf_sm G (fun g => if 0 < g ∧ par g = h then ph (2 + h) (2 + g) else 0) - mf_sm C (fun c => if X c = true ∧ grp c = h then ph (2 + h) (8 + c) else 0) := by
  unfold mf_bs
  rw [mf_sm_z (n := R) (fun i hi => mf_nf_0 (by omega) (by omega))]
  rw [mf_sm_congr (n := G) (G := fun g => (if h = g then ph (mf_ab par g) (2 + g) else 0) - (if 0 < g ∧ par g = h then ph (2 + h) (2 + g) else 0)) (fun g hgg => by
    have ha := mf_ab_lt hp hgg
    by_cases e : h = g
    · subst e
      rw [if_pos rfl, mf_nf_in ha.2.2, if_neg (fun z => by have := hp h z.1 hh; omega)]; omega
    · rw [if_neg e]
      by_cases e2 : 0 < g ∧ par g = h
      · rw [if_pos e2]
        have : mf_ab par g = 2 + h := by unfold mf_ab; rw [if_neg (by omega), e2.2]
        rw [this, mf_nf_out (by omega)]; omega
      · rw [if_neg e2]
        have : mf_ab par g ≠ 2 + h := by
          unfold mf_ab
          by_cases e3 : g = 0
          · rw [if_pos e3]; omega
          · rw [if_neg e3]; omega
        rw [mf_nf_0 (by omega) this]; rfl), mf_sm_sub, mf_sm_one hh (fun g => ph (mf_ab par g) (2 + g))]
  rw [mf_sm_congr (n := C) (G := fun c => 0 - (if X c = true ∧ grp c = h then ph (2 + h) (8 + c) else 0)) (fun c hc => by
    by_cases x : X c = true
    · rw [if_pos x, mf_sm_z (fun r _ => by
        split
        · exact mf_nf_0 (by omega) (by omega)
        · rfl)]
      by_cases e : grp c = h
      · rw [if_pos ⟨x, e⟩, e, mf_nf_out (by omega)]; omega
      · rw [if_neg (fun z => e z.2), mf_nf_0 (by omega) (by omega)]; rfl
    · rw [if_neg x, if_neg (fun z => x z.1)]; rfl), mf_sm_sub, mf_sm_zero]
  omega
theorem mf_bn_snk (hG : G ≤ 6) (hC : C ≤ 12) (hg : ∀ c, c < C → grp c < G) (hp : mf_tr G par) (ph : Nat → Nat → Int) : mf_bs G R C par grp X cnt lim need cs (mf_nf 1 ph) = mf_sm R (fun r => ph (20 + r) 1) := by
  unfold mf_bs
  rw [mf_sm_z (n := G) (fun g h => mf_nf_0 (by omega) (by have := mf_ab_lt hp h; omega))]
  rw [mf_sm_congr (n := R) (G := fun r => ph (20 + r) 1) (fun r _ => mf_nf_in (by omega))]
  rw [mf_sm_z (n := C) (fun c hc => by
    split
    · rw [mf_nf_0 (by omega) (by omega), mf_sm_z (fun r _ => by
        split
        · exact mf_nf_0 (by omega) (by omega)
        · rfl)]
      rfl
    · rfl)]
  omega
theorem mf_bn_src (hG : G ≤ 6) (hC : C ≤ 12) (hg : ∀ c, c < C → grp c < G) (hp : mf_tr G par) (ph : Nat → Nat → Int) : mf_bs G R C par grp X cnt lim need cs (mf_nf 0 ph) = - (if 0 < G then ph 0 2 else 0) := by
  unfold mf_bs
  rw [mf_sm_z (n := R) (fun i hi => mf_nf_0 (by omega) (by omega))]
  rw [mf_sm_z (n := C) (fun c hc => by
    split
    · rw [mf_nf_0 (by omega) (by omega), mf_sm_z (fun r _ => by
        split
        · exact mf_nf_0 (by omega) (by omega)
        · rfl)]
      rfl
    · rfl)]
  by_cases h0 : 0 < G
  · rw [if_pos h0, mf_sm_congr (n := G) (G := fun g => if 0 = g then - ph 0 2 else 0) (fun g hgg => by
      by_cases e : 0 = g
      · subst e; rw [if_pos rfl]; show mf_nf 0 ph 0 2 _ _ = _; rw [mf_nf_out (by omega)]
      · rw [if_neg e, mf_nf_0 (by omega) (by unfold mf_ab; rw [if_neg (by omega)]; omega)]), mf_sm_one h0 (fun _ => - ph 0 2)]
    omega
  · rw [if_neg h0]
    have : G = 0 := by omega
    subst this
    rfl
/-- no way at that place -/
theorem mf_bn_off (hG : G ≤ 6) (hC : C ≤ 12) (hg : ∀ c, c < C → grp c < G) (hp : mf_tr G par) (ph : Nat → Nat → Int) {v : Nat} (h0 : v ≠ 0) (h1 : v ≠ 1) (h2 : ∀ h, h < G → v ≠ 2 + h) (h3 : ∀ c, c < C → X c = true → v ≠ 8 + c) (h4 : ∀ r, r < R → v ≠ 20 + r) :
    mf_bs G R C par grp X cnt lim need cs (mf_nf v ph) = 0 := by
  unfold mf_bs
  rw [mf_sm_z (n := R) (fun i hi => mf_nf_0 (fun z => h1 z.symm) (fun z => h4 i hi z.symm))]
  rw [mf_sm_z (n := G) (fun g hgg => mf_nf_0 (fun z => h2 g hgg z.symm) (by
    unfold mf_ab
    by_cases e : g = 0
    · rw [if_pos e]; exact fun z => h0 z.symm
    · rw [if_neg e]; have := hp g (by omega) hgg; exact fun z => h2 (par g) (by omega) z.symm))]
  rw [mf_sm_z (n := C) (fun c hc => by
    by_cases x : X c = true
    · rw [if_pos x, mf_nf_0 (fun z => h3 c hc x z.symm) (fun z => h2 (grp c) (hg c hc) z.symm), mf_sm_z (fun r hr => by
        split
        · exact mf_nf_0 (fun z => h4 r hr z.symm) (fun z => h3 c hc x z.symm)
        · rfl)]
      rfl
    · rw [if_neg x])]
  rfl
end Net
/-! assignments as tables: z c r is 1 where course c is given requirement r + 1 -/
def mf_zok (G R C : Nat) (par grp : Nat → Nat) (X : Nat → Bool) (cnt : Nat → Nat → Bool) (lim need : Nat → Int) (z : Nat → Nat → Int) : Prop :=
  (∀ c, c < C → ∀ r, r < R → 0 ≤ z c r) ∧ (∀ c, c < C → ∀ r, r < R → z c r ≠ 0 → X c = true ∧ cnt c (r + 1) = true) ∧ (∀ c, c < C → mf_sm R (z c) ≤ 1) ∧
  (∀ r, r < R → mf_sm C (fun c => z c r) ≤ need (r + 1)) ∧ (∀ h, h < G → mf_ld C par grp (fun c => mf_sm R (z c)) h ≤ lim h)
def mf_zsz (R C : Nat) (z : Nat → Nat → Int) : Int := mf_sm C (fun c => mf_sm R (z c))
def mf_zct (R C : Nat) (cs : Nat → Nat → Int) (z : Nat → Nat → Int) : Int := mf_sm C (fun c => mf_sm R (fun r => cs c (r + 1) * z c r))
def mf_zph (R C : Nat) (par grp : Nat → Nat) (z : Nat → Nat → Int) (u v : Nat) : Int :=
  if v = 1 then mf_sm C (fun c => z c (u - 20)) else if v < 8 then mf_ld C par grp (fun c => mf_sm R (z c)) (v - 2) else if v < 20 then mf_sm R (z (v - 8)) else z (u - 8) (v - 20)
theorem mf_zph_q (R C : Nat) (par grp : Nat → Nat) (z : Nat → Nat → Int) (r : Nat) : mf_zph R C par grp z (20 + r) 1 = mf_sm C (fun c => z c r) := by
  unfold mf_zph; rw [if_pos rfl, show 20 + r - 20 = r from by omega]
theorem mf_zph_g (R C : Nat) (par grp : Nat → Nat) (z : Nat → Nat → Int) (u : Nat) {g : Nat} (hg : g < 6) : mf_zph R C par grp z u (2 + g) = mf_ld C par grp (fun c => mf_sm R (z c)) g := by
  unfold mf_zph; rw [if_neg (by omega), if_pos (by omega), show 2 + g - 2 = g from by omega]
theorem mf_zph_c (R C : Nat) (par grp : Nat → Nat) (z : Nat → Nat → Int) (u : Nat) {c : Nat} (hc : c < 12) : mf_zph R C par grp z u (8 + c) = mf_sm R (z c) := by
  unfold mf_zph; rw [if_neg (by omega), if_neg (by omega), if_pos (by omega), show 8 + c - 8 = c from by omega]
theorem mf_zph_r (R C : Nat) (par grp : Nat → Nat) (z : Nat → Nat → Int) (c r : Nat) : mf_zph R C par grp z (8 + c) (20 + r) = z c r := by
  unfold mf_zph; rw [if_neg (by omega), if_neg (by omega), if_neg (by omega), show 8 + c - 8 = c from by omega, show 20 + r - 20 = r from by omega]
section Flow
variable {K : Nat} {fr to : Nat → Nat} {cap cost : Nat → Int} {G R C : Nat} {par grp : Nat → Nat} {X : Nat → Bool} {cnt : Nat → Nat → Bool} {lim need : Nat → Int} {cs : Nat → Nat → Int}
theorem mf_z_off {z : Nat → Nat → Int} (hz : mf_zok G R C par grp X cnt lim need z) {c r : Nat} (hc : c < C) (hr : r < R) (h : ¬ (X c = true ∧ cnt c (r + 1) = true)) : z c r = 0 :=
  Classical.byContradiction (fun e => h (hz.2.1 c hc r hr e))
theorem mf_z_x {z : Nat → Nat → Int} (hz : mf_zok G R C par grp X cnt lim need z) {c : Nat} (hc : c < C) (h : ¬ X c = true) : mf_sm R (z c) = 0 :=
  mf_sm_z (fun _ hr => mf_z_off hz hc hr (fun z => h z.1))
theorem mf_z_flow (hl : mf_lay K fr to cap cost G R C par grp X cnt lim need cs) (hG : G ≤ 6) (hC : C ≤ 12) (hg : ∀ c, c < C → grp c < G) (hp : mf_tr G par) {z : Nat → Nat → Int} (hz : mf_zok G R C par grp X cnt lim need z) :
    mf_flow K fr to cap 0 1 (fun k => mf_zph R C par grp z (fr k) (to k)) (mf_zsz R C z) ∧ mf_sm K (fun k => cost k * mf_zph R C par grp z (fr k) (to k)) = mf_zct R C cs z := by
  have hnet : ∀ v, mf_net K fr to (fun k => mf_zph R C par grp z (fr k) (to k)) v = mf_bs G R C par grp X cnt lim need cs (mf_nf v (mf_zph R C par grp z)) := fun v => hl (mf_nf v (mf_zph R C par grp z))
  have hzn : ∀ c, c < C → 0 ≤ mf_sm R (z c) := fun c hc => mf_sm_nn (fun r hr => hz.1 c hc r hr)
  have hz1 : ∀ c, c < C → ∀ r, r < R → z c r ≤ 1 := by
    intro c hc r hr
    have h1 := hz.2.2.1 c hc
    have h2 : mf_sm R (fun i => if r = i then z c i else 0) ≤ mf_sm R (z c) := mf_sm_le (fun i hi => by
      have := hz.1 c hc i hi
      split <;> omega)
    rw [mf_sm_one hr (z c)] at h2
    omega
  refine ⟨⟨?_, ?_, ?_, ?_⟩, ?_⟩
  · refine mf_lay_to hl (Pr := fun u v a _ => 0 ≤ mf_zph R C par grp z u v ∧ mf_zph R C par grp z u v ≤ a) ⟨fun g hgg => ?_, fun r hr => ?_, fun c hc x => ⟨?_, fun r hr y => ?_⟩⟩
    · dsimp only
      rw [mf_zph_g _ _ _ _ _ _ (by omega)]
      refine ⟨mf_sm_nn (fun c hc => ?_), hz.2.2.2.2 g hgg⟩
      split
      · exact hzn c hc
      · exact Int.le_refl _
    · dsimp only
      rw [mf_zph_q]
      exact ⟨mf_sm_nn (fun c hc => hz.1 c hc r hr), hz.2.2.2.1 r hr⟩
    · dsimp only
      rw [mf_zph_c _ _ _ _ _ _ (by omega)]
      exact ⟨hzn c hc, hz.2.2.1 c hc⟩
    · dsimp only
      rw [mf_zph_r]
      exact ⟨hz.1 c hc r hr, hz1 c hc r hr⟩
  · intro v v0 v1
    rw [hnet v]
    by_cases a1 : ∃ h, h < G ∧ v = 2 + h
    · obtain ⟨h, hh, rfl⟩ := a1
      rw [mf_bn_grp hG hC hg hp _ hh, mf_zph_g _ _ _ _ _ _ (by omega), mf_ld_rec hp hg]
      rw [mf_sm_congr (n := G) (F := fun g => if 0 < g ∧ par g = h then mf_zph R C par grp z (2 + h) (2 + g) else 0) (G := fun g => if 0 < g ∧ par g = h then mf_ld C par grp (fun c => mf_sm R (z c)) g else 0) (fun g hgg => by
        split
        · rw [mf_zph_g _ _ _ _ _ _ (by omega)]
        · rfl)]
      rw [mf_sm_congr (n := C) (F := fun c => if X c = true ∧ grp c = h then mf_zph R C par grp z (2 + h) (8 + c) else 0) (G := fun c => if grp c = h then mf_sm R (z c) else 0) (fun c hc => by
        rw [mf_zph_c _ _ _ _ _ _ (by omega)]
        by_cases x : X c = true
        · by_cases e : grp c = h
          · rw [if_pos ⟨x, e⟩, if_pos e]
          · rw [if_neg (fun z => e z.2), if_neg e]
        · rw [if_neg (fun z => x z.1), mf_z_x hz hc x]; split <;> rfl)]
      show mf_own C grp (fun c => mf_sm R (z c)) h + _ - _ - mf_own C grp (fun c => mf_sm R (z c)) h = 0
      omega
    · by_cases a2 : ∃ c, c < C ∧ X c = true ∧ v = 8 + c
      · obtain ⟨c, hc, x, rfl⟩ := a2
        rw [mf_bn_crs hG hC hg hp _ hc x, mf_zph_c _ _ _ _ _ _ (by omega)]
        rw [mf_sm_congr (n := R) (F := fun r => if cnt c (r + 1) = true then mf_zph R C par grp z (8 + c) (20 + r) else 0) (G := z c) (fun r hr => by
          rw [mf_zph_r]
          by_cases y : cnt c (r + 1) = true
          · rw [if_pos y]
          · rw [if_neg y, mf_z_off hz hc hr (fun z => y z.2)])]
        omega
      · by_cases a3 : ∃ r, r < R ∧ v = 20 + r
        · obtain ⟨r, hr, rfl⟩ := a3
          rw [mf_bn_req hG hC hg hp _ hr, mf_zph_q]
          rw [mf_sm_congr (n := C) (F := fun c => if X c = true ∧ cnt c (r + 1) = true then mf_zph R C par grp z (8 + c) (20 + r) else 0) (G := fun c => z c r) (fun c hc => by
            rw [mf_zph_r]
            by_cases y : X c = true ∧ cnt c (r + 1) = true
            · rw [if_pos y]
            · rw [if_neg y, mf_z_off hz hc hr y])]
          omega
        · exact mf_bn_off hG hC hg hp _ v0 v1 (fun h hh e => a1 ⟨h, hh, e⟩) (fun c hc x e => a2 ⟨c, hc, x, e⟩) (fun r hr e => a3 ⟨r, hr, e⟩)
  · rw [hnet 1, mf_bn_snk hG hC hg hp, mf_sm_congr (G := fun r => mf_sm C (fun c => z c r)) (fun r _ => mf_zph_q R C par grp z r), mf_sm_swap]
    rfl
  · rw [hnet 0, mf_bn_src hG hC hg hp]
    by_cases h0 : 0 < G
    · rw [if_pos h0]
      have := mf_zph_g R C par grp z 0 (g := 0) (by omega)
      rw [show (2 : Nat) = 2 + 0 from rfl, this, mf_ld_root hp hg]
      rfl
    · rw [if_neg h0]
      have hC0 : C = 0 := by
        cases C with
        | zero => rfl
        | succ c => have := hg 0 (by omega); omega
      subst hC0
      rfl
  · rw [hl (fun u v _ b => b * mf_zph R C par grp z u v)]
    unfold mf_bs
    dsimp only
    rw [mf_sm_z (n := G) (fun g _ => Int.zero_mul _), mf_sm_z (n := R) (fun r _ => Int.zero_mul _)]
    rw [mf_sm_congr (n := C) (G := fun c => mf_sm R (fun r => cs c (r + 1) * z c r)) (fun c hc => by
      by_cases x : X c = true
      · rw [if_pos x, Int.zero_mul]
        rw [mf_sm_congr (n := R) (G := fun r => cs c (r + 1) * z c r) (fun r hr => by
          by_cases y : cnt c (r + 1) = true
          · rw [if_pos y, mf_zph_r]
          · rw [if_neg y, mf_z_off hz hc hr (fun z => y z.2)]; simp)]
        omega
      · rw [if_neg x]
        exact (mf_sm_z (fun r hr => by rw [mf_z_off hz hc hr (fun z => x z.1)]; simp)).symm)]
    show 0 + 0 + mf_zct R C cs z = _
    omega
/-- the table of a flow -/
def mf_zof (K : Nat) (fr to : Nat → Nat) (X : Nat → Bool) (cnt : Nat → Nat → Bool) (f : Nat → Int) (c r : Nat) : Int := if X c = true ∧ cnt c (r + 1) = true then mf_ph K fr to f (8 + c) (20 + r) else 0
theorem mf_ld_uq {y L : Nat → Int} (hg : ∀ c, c < C → grp c < G) (hp : mf_tr G par) (hL : ∀ h, h < G → L h = mf_own C grp y h + mf_sm G (fun g => if 0 < g ∧ par g = h then L g else 0)) :
    ∀ (b h : Nat), h < G → G ≤ h + b → L h = mf_ld C par grp y h := by
  intro b
  induction b with
  | zero => intro h hh hb; omega
  | succ b ih =>
    intro h hh hb
    rw [hL h hh, mf_ld_rec hp hg]
    congr 1
    refine mf_sm_congr (fun g hgg => ?_)
    by_cases e : 0 < g ∧ par g = h
    · have := hp g e.1 hgg
      rw [if_pos e, if_pos e, ih g hgg (by omega)]
    · rw [if_neg e, if_neg e]
theorem mf_flow_z (hl : mf_lay K fr to cap cost G R C par grp X cnt lim need cs) (hG : G ≤ 6) (hC : C ≤ 12) (hg : ∀ c, c < C → grp c < G) (hp : mf_tr G par) {f : Nat → Int} {val : Int} (hf : mf_flow K fr to cap 0 1 f val) :
    mf_zok G R C par grp X cnt lim need (mf_zof K fr to X cnt f) ∧ mf_zsz R C (mf_zof K fr to X cnt f) = val ∧ mf_zct R C cs (mf_zof K fr to X cnt f) = mf_sm K (fun k => cost k * f k) ∧
    (∀ h, h < G → mf_ph K fr to f (mf_ab par h) (2 + h) = mf_ld C par grp (fun c => mf_sm R (mf_zof K fr to X cnt f c)) h) ∧
    (∀ c, c < C → X c = true → mf_ph K fr to f (2 + grp c) (8 + c) = mf_sm R (mf_zof K fr to X cnt f c)) ∧
    (∀ r, r < R → mf_ph K fr to f (20 + r) 1 = mf_sm C (fun c => mf_zof K fr to X cnt f c r)) := by
  have hnet : ∀ v, mf_net K fr to f v = mf_bs G R C par grp X cnt lim need cs (mf_nf v (mf_ph K fr to f)) := by
    intro v
    have := mf_ph_sum hl hG hC hg hp f (fun u w _ _ x => (if w = v then x else 0) - (if u = v then x else 0))
    exact this
  have hb : mf_ba G R C par grp X cnt lim need cs (fun u v a _ => 0 ≤ mf_ph K fr to f u v ∧ mf_ph K fr to f u v ≤ a) :=
    mf_lay_of hl (fun k hk => by rw [← mf_ph_at hl hG hC hg hp f hk]; exact hf.1 k hk)
  have ey : ∀ c, c < C → X c = true → mf_ph K fr to f (2 + grp c) (8 + c) = mf_sm R (mf_zof K fr to X cnt f c) := by
    intro c hc x
    have h := hf.2.1 (8 + c) (by omega) (by omega)
    rw [hnet, mf_bn_crs hG hC hg hp _ hc x] at h
    rw [mf_sm_congr (F := mf_zof K fr to X cnt f c) (G := fun r => if cnt c (r + 1) = true then mf_ph K fr to f (8 + c) (20 + r) else 0) (fun r _ => by
      unfold mf_zof
      by_cases y : cnt c (r + 1) = true
      · rw [if_pos y, if_pos ⟨x, y⟩]
      · rw [if_neg y, if_neg (fun z => y z.2)])]
    omega
  have ex : ∀ c, ¬ X c = true → mf_sm R (mf_zof K fr to X cnt f c) = 0 := fun c x => mf_sm_z (fun r _ => if_neg (fun z => x z.1))
  have en : ∀ r, r < R → mf_ph K fr to f (20 + r) 1 = mf_sm C (fun c => mf_zof K fr to X cnt f c r) := by
    intro r hr
    have h := hf.2.1 (20 + r) (by omega) (by omega)
    rw [hnet, mf_bn_req hG hC hg hp _ hr] at h
    show _ = mf_sm C (fun c => if X c = true ∧ cnt c (r + 1) = true then mf_ph K fr to f (8 + c) (20 + r) else 0)
    omega
  have eL : ∀ h, h < G → mf_ph K fr to f (mf_ab par h) (2 + h) = mf_ld C par grp (fun c => mf_sm R (mf_zof K fr to X cnt f c)) h := by
    intro h hh
    refine mf_ld_uq (L := fun h => mf_ph K fr to f (mf_ab par h) (2 + h)) hg hp (fun h hh => ?_) G h hh (by omega)
    have e := hf.2.1 (2 + h) (by omega) (by omega)
    rw [hnet, mf_bn_grp hG hC hg hp _ hh] at e
    have e1 : mf_sm G (fun g => if 0 < g ∧ par g = h then mf_ph K fr to f (mf_ab par g) (2 + g) else 0) = mf_sm G (fun g => if 0 < g ∧ par g = h then mf_ph K fr to f (2 + h) (2 + g) else 0) :=
      mf_sm_congr (fun g _ => by
        by_cases c : 0 < g ∧ par g = h
        · rw [if_pos c, if_pos c]; unfold mf_ab; rw [if_neg (by omega), c.2]
        · rw [if_neg c, if_neg c])
    have e2 : mf_own C grp (fun c => mf_sm R (mf_zof K fr to X cnt f c)) h = mf_sm C (fun c => if X c = true ∧ grp c = h then mf_ph K fr to f (2 + h) (8 + c) else 0) :=
      mf_sm_congr (fun c hc => by
        by_cases x : X c = true
        · by_cases c1 : grp c = h
          · rw [if_pos c1, if_pos ⟨x, c1⟩, ← c1, ey c hc x]
          · rw [if_neg c1, if_neg (fun z => c1 z.2)]
        · rw [if_neg (show ¬ (X c = true ∧ grp c = h) from fun z => x z.1)]
          split
          · exact ex c x
          · rfl)
    rw [e1, e2]
    omega
  refine ⟨⟨?_, ?_, ?_, ?_, ?_⟩, ?_, ?_, eL, ey, en⟩
  · intro c hc r hr
    unfold mf_zof
    by_cases y : X c = true ∧ cnt c (r + 1) = true
    · rw [if_pos y]; exact ((hb.2.2 c hc y.1).2 r hr y.2).1
    · rw [if_neg y]; exact Int.le_refl _
  · intro c _ r _ h
    unfold mf_zof at h
    exact Classical.byContradiction (fun y => h (if_neg y))
  · intro c hc
    by_cases x : X c = true
    · rw [← ey c hc x]; exact (hb.2.2 c hc x).1.2
    · rw [ex c x]; omega
  · intro r hr
    rw [← en r hr]; exact (hb.2.1 r hr).2
  · intro h hh
    rw [← eL h hh]; exact (hb.1 h hh).2
  · have h := hf.2.2.1
    rw [hnet, mf_bn_snk hG hC hg hp] at h
    rw [← h]
    show mf_sm C (fun c => mf_sm R (fun r => mf_zof K fr to X cnt f c r)) = _
    rw [mf_sm_swap]
    exact mf_sm_congr (fun r hr => (en r hr).symm)
  · have h := mf_ph_sum hl hG hC hg hp f (fun _ _ _ b x => b * x)
    rw [h]
    unfold mf_bs
    dsimp only
    rw [mf_sm_z (n := G) (fun g _ => Int.zero_mul _), mf_sm_z (n := R) (fun r _ => Int.zero_mul _)]
    rw [mf_sm_congr (n := C) (G := fun c => mf_sm R (fun r => cs c (r + 1) * mf_zof K fr to X cnt f c r)) (fun c hc => by
      by_cases x : X c = true
      · rw [if_pos x, Int.zero_mul]
        rw [mf_sm_congr (n := R) (G := fun r => cs c (r + 1) * mf_zof K fr to X cnt f c r) (fun r hr => by
          unfold mf_zof
          by_cases y : cnt c (r + 1) = true
          · rw [if_pos y, if_pos ⟨x, y⟩]
          · rw [if_neg y, if_neg (fun z => y z.2)]; simp)]
        omega
      · rw [if_neg x]
        exact (mf_sm_z (fun r hr => by unfold mf_zof; rw [if_neg (fun z => x z.1)]; simp)).symm)]
    show mf_zct R C cs _ = 0 + 0 + mf_zct R C cs _
    omega
end Flow
