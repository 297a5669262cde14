/-! a network for each question, its beginning, and the theorem of the greatest assignment and the least cut -/
def mf_rep (Ph : (Nat → Nat → Int → Int → Int) → Int) : Prop := ∃ (K : Nat) (fr to : Nat → Nat) (cap cost : Nat → Int), ∀ F : Nat → Nat → Int → Int → Int, mf_sm K (fun k => F (fr k) (to k) (cap k) (cost k)) = Ph F
theorem mf_rep_0 : mf_rep (fun _ => 0) := ⟨0, fun _ => 0, fun _ => 0, fun _ => 0, fun _ => 0, fun _ => rfl⟩
theorem mf_rep_1 (u v : Nat) (a b : Int) : mf_rep (fun F => F u v a b) := ⟨1, fun _ => u, fun _ => v, fun _ => a, fun _ => b, fun F => by show mf_sm 1 (fun _ => F u v a b) = F u v a b; rw [mf_sm_s, mf_sm_0]; omega⟩
theorem mf_rep_add {P Q : (Nat → Nat → Int → Int → Int) → Int} (hP : mf_rep P) (hQ : mf_rep Q) : mf_rep (fun F => P F + Q F) := by
  obtain ⟨K1, f1, t1, a1, b1, h1⟩ := hP
  obtain ⟨K2, f2, t2, a2, b2, h2⟩ := hQ
  refine ⟨K1 + K2, fun k => if k < K1 then f1 k else f2 (k - K1), fun k => if k < K1 then t1 k else t2 (k - K1), fun k => if k < K1 then a1 k else a2 (k - K1), fun k => if k < K1 then b1 k else b2 (k - K1), fun F => ?_⟩
  show mf_sm (K1 + K2) _ = P F + Q F
  rw [mf_sm_split, ← h1, ← h2]
  congr 1
  · refine mf_sm_congr (fun k hk => ?_)
    dsimp only
    rw [if_pos hk, if_pos hk, if_pos hk, if_pos hk]
  · refine mf_sm_congr (fun k hk => ?_)
    dsimp only
    rw [if_neg (by omega), if_neg (by omega), if_neg (by omega), if_neg (by omega), show K1 + k - K1 = k from by omega]
theorem mf_rep_sm (n : Nat) (P : Nat → (Nat → Nat → Int → Int → Int) → Int) (h : ∀ k, k < n → mf_rep (P k)) : mf_rep (fun F => mf_sm n (fun k => P k F)) := by
  induction n with
  | zero => exact mf_rep_0
  | succ n ih => exact mf_rep_add (ih (fun k hk => h k (by omega))) (h n (by omega))
theorem mf_rep_if (x : Bool) {P : (Nat → Nat → Int → Int → Int) → Int} (h : mf_rep P) : mf_rep (fun F => if x = true then P F else 0) := by
  cases x with
  | true => exact h
  | false => exact mf_rep_0
theorem mf_lay_ex (G R C : Nat) (par grp : Nat → Nat) (X : Nat → Bool) (cnt : Nat → Nat → Bool) (lim need : Nat → Int) (cs : Nat → Nat → Int) :
    ∃ (K : Nat) (fr to : Nat → Nat) (cap cost : Nat → Int), mf_lay K fr to cap cost G R C par grp X cnt lim need cs :=
  mf_rep_add (mf_rep_add (mf_rep_sm G _ (fun g _ => mf_rep_1 _ _ _ _)) (mf_rep_sm R _ (fun r _ => mf_rep_1 _ _ _ _)))
    (mf_rep_sm C _ (fun c _ => mf_rep_if (X c) (mf_rep_add (mf_rep_1 _ _ _ _) (mf_rep_sm R _ (fun r _ => mf_rep_if (cnt c (r + 1)) (mf_rep_1 _ _ _ _))))))
section Start
variable {K : Nat} {fr to : Nat → Nat} {cap cost : Nat → Int} {G R C : Nat} {par grp : Nat → Nat} {X : Nat → Bool} {cnt : Nat → Nat → Bool} {lim need : Nat → Int} {cs : Nat → Nat → Int}
theorem mf_start (hl : mf_lay K fr to cap cost G R C par grp X cnt lim need cs) (hG : G ≤ 6) (hC : C ≤ 12) (hR : R ≤ 5) (hg : ∀ c, c < C → grp c < G) (hp : mf_tr G par) {P : Int} (hP : 0 ≤ P)
    (h1 : ∀ g, g < G → 0 ≤ lim g) (h2 : ∀ r, r < R → 0 ≤ need (r + 1)) (h3 : ∀ c, c < C → ∀ r, r < R → - P ≤ cs c (r + 1) ∧ cs c (r + 1) ≤ P)
    {ab ae : Nat → Nat} {ap rm : Nat → Int} (ha : ∀ k, k < K → ab (2 * k) = fr k ∧ ae (2 * k) = to k ∧ ab (2 * k + 1) = to k ∧ ae (2 * k + 1) = fr k ∧ ap (2 * k) = cost k ∧ ap (2 * k + 1) = - cost k ∧ rm (2 * k) = cap k ∧ rm (2 * k + 1) = 0) :
    mf_M K ab ae ap ∧ mf_I 25 K ab ae ap cap 0 1 P rm 0 0 := by
  have hb : ∀ k, k < K → 0 ≤ cap k ∧ fr k < 25 ∧ to k < 25 ∧ - P ≤ cost k ∧ cost k ≤ P ∧ 0 ≤ cost k + (if fr k = 1 ∨ 20 ≤ fr k then - P else 0) - (if to k = 1 ∨ 20 ≤ to k then - P else 0) := by
    refine mf_lay_to hl (Pr := fun u v a b => 0 ≤ a ∧ u < 25 ∧ v < 25 ∧ - P ≤ b ∧ b ≤ P ∧ 0 ≤ b + (if u = 1 ∨ 20 ≤ u then - P else 0) - (if v = 1 ∨ 20 ≤ v then - P else 0)) ⟨fun g hgg => ?_, fun r hr => ?_, fun c hc x => ⟨?_, fun r hr y => ?_⟩⟩
    · have := mf_ab_lt hp hgg
      dsimp only
      rw [if_neg (by omega), if_neg (by omega)]
      exact ⟨h1 g hgg, by omega, by omega, by omega, by omega, by omega⟩
    · dsimp only
      rw [if_pos (by omega), if_pos (by omega)]
      exact ⟨h2 r hr, by omega, by omega, by omega, by omega, by omega⟩
    · have := hg c hc
      dsimp only
      rw [if_neg (by omega), if_neg (by omega)]
      exact ⟨by omega, by omega, by omega, by omega, by omega, by omega⟩
    · have := h3 c hc r hr
      dsimp only
      rw [if_neg (by omega), if_pos (by omega)]
      exact ⟨by omega, by omega, by omega, by omega, by omega, by omega⟩
  have hz : ∀ k, k < K → mf_fl rm k = 0 := fun k hk => (ha k hk).2.2.2.2.2.2.2
  have hn : ∀ v, mf_net K (fun k => ab (2 * k)) (fun k => ae (2 * k)) (mf_fl rm) v = 0 := fun v => mf_sm_z (fun k hk => by
    rw [hz k hk]; simp)
  refine ⟨fun a haK => ?_, ⟨fun v => if v = 1 ∨ 20 ≤ v then - P else 0, fun a haK => ?_, by omega, fun a haK hr => ?_, fun a haK => ?_, hP⟩, fun a haK => ?_, fun k hk => ?_, fun v _ _ => hn v, hn 1, by rw [hn 0]; rfl, mf_sm_z (fun k hk => by rw [hz k hk]; simp)⟩
  · obtain ⟨k, hk, e⟩ := mf_eo haK
    obtain ⟨q1, q2, q3, q4, q5, q6, q7, q8⟩ := ha k hk
    rcases e with e | e
    · subst e; rw [mf_mt_e, q1, q2, q3, q4, q5, q6]; exact ⟨rfl, rfl, rfl⟩
    · subst e; rw [mf_mt_o, q1, q2, q3, q4, q5, q6]; exact ⟨rfl, rfl, by omega⟩
  · obtain ⟨k, hk, e⟩ := mf_eo haK
    obtain ⟨q1, q2, q3, q4, q5, q6, q7, q8⟩ := ha k hk
    obtain ⟨b1, b2, b3, b4, b5, b6⟩ := hb k hk
    rcases e with e | e
    · subst e; rw [q1, q2]; exact ⟨b2, b3⟩
    · subst e; rw [q3, q4]; exact ⟨b3, b2⟩
  · obtain ⟨k, hk, e⟩ := mf_eo haK
    obtain ⟨q1, q2, q3, q4, q5, q6, q7, q8⟩ := ha k hk
    obtain ⟨b1, b2, b3, b4, b5, b6⟩ := hb k hk
    rcases e with e | e
    · subst e; rw [q1, q2, q5]; exact b6
    · subst e; rw [q8] at hr; omega
  · obtain ⟨k, hk, e⟩ := mf_eo haK
    obtain ⟨q1, q2, q3, q4, q5, q6, q7, q8⟩ := ha k hk
    obtain ⟨b1, b2, b3, b4, b5, b6⟩ := hb k hk
    rcases e with e | e
    · subst e; rw [q5]; exact ⟨b4, b5⟩
    · subst e; rw [q6]; omega
  · obtain ⟨k, hk, e⟩ := mf_eo haK
    obtain ⟨q1, q2, q3, q4, q5, q6, q7, q8⟩ := ha k hk
    obtain ⟨b1, b2, b3, b4, b5, b6⟩ := hb k hk
    rcases e with e | e
    · subst e; rw [q7]; exact b1
    · subst e; rw [q8]; exact Int.le_refl _
  · obtain ⟨q1, q2, q3, q4, q5, q6, q7, q8⟩ := ha k hk
    rw [q7, q8]; omega
/-- what a sending ends with, in words of tables -/
theorem mf_end (hl : mf_lay K fr to cap cost G R C par grp X cnt lim need cs) (hG : G ≤ 6) (hC : C ≤ 12) (hg : ∀ c, c < C → grp c < G) (hp : mf_tr G par) {P : Int}
    {ab ae : Nat → Nat} {ap rm : Nat → Int} (ha : ∀ k, k < K → ab (2 * k) = fr k ∧ ae (2 * k) = to k ∧ ap (2 * k) = cost k) (hM : mf_M K ab ae ap) {paid val : Int} (hI : mf_I 25 K ab ae ap cap 0 1 P rm paid val) (n : Int) (hn : val = n ∨ ∃ S : Nat → Bool, S 0 = true ∧ S 1 = false ∧ ∀ a, a < 2 * K → 0 < rm a → S (ab a) = true → S (ae a) = true) (hnC : (C : Int) ≤ n) :
    mf_zok G R C par grp X cnt lim need (mf_zof K fr to X cnt (mf_fl rm)) ∧ mf_zsz R C (mf_zof K fr to X cnt (mf_fl rm)) = val ∧ mf_zct R C cs (mf_zof K fr to X cnt (mf_fl rm)) = paid ∧
    (∀ z, mf_zok G R C par grp X cnt lim need z → mf_zsz R C z ≤ val) ∧ (∀ z, mf_zok G R C par grp X cnt lim need z → mf_zsz R C z = val → paid ≤ mf_zct R C cs z) ∧ (val = n ∨ ∃ T : Nat → Bool, mf_cv G R C par grp X cnt lim need T = val) := by
  obtain ⟨g1, g2, g3⟩ := mf_best hM hI (by omega) (by omega)
  have hpd : mf_sm K (fun k => ap (2 * k) * mf_fl rm k) = paid := hI.2.2.2.2.2.2
  have cf : ∀ (f : Nat → Int) (v : Int), mf_flow K (fun k => ab (2 * k)) (fun k => ae (2 * k)) cap 0 1 f v ↔ mf_flow K fr to cap 0 1 f v := by
    intro f v
    have e : ∀ x, mf_net K (fun k => ab (2 * k)) (fun k => ae (2 * k)) f x = mf_net K fr to f x := fun x => mf_sm_congr (fun k hk => by
      simp only [(ha k hk).1, (ha k hk).2.1])
    unfold mf_flow
    simp only [e]
  have cc : ∀ f : Nat → Int, mf_sm K (fun k => ap (2 * k) * f k) = mf_sm K (fun k => cost k * f k) := fun f => mf_sm_congr (fun k hk => by rw [(ha k hk).2.2])
  rw [cf] at g1
  obtain ⟨z1, z2, z3, -, -, -⟩ := mf_flow_z hl hG hC hg hp g1
  have bound : ∀ z, mf_zok G R C par grp X cnt lim need z → mf_zsz R C z ≤ C := by
    intro z hz
    have : mf_zsz R C z ≤ mf_sm C (fun _ => 1) := mf_sm_le (fun c hc => hz.2.2.1 c hc)
    have e : ∀ n : Nat, mf_sm n (fun _ => 1) = (n : Int) := by
      intro n
      induction n with
      | zero => rfl
      | succ n ih => rw [mf_sm_s, ih]; omega
    rw [e] at this
    exact this
  refine ⟨z1, z2, ?_, ?_, ?_, ?_⟩
  · rw [z3, ← cc, hpd]
  · intro z hz
    rcases hn with hn | hn
    · have := bound z hz; omega
    · exact g3 hn _ _ ((cf _ _).mpr (mf_z_flow hl hG hC hg hp hz).1)
  · intro z hz hv
    obtain ⟨q1, q2⟩ := mf_z_flow hl hG hC hg hp hz
    rw [hv] at q1
    have := g2 _ ((cf _ _).mpr q1)
    rw [cc, q2] at this
    exact this
  · rcases hn with hn | ⟨S, s0, s1, s2⟩
    · exact Or.inl hn
    · refine Or.inr ⟨fun r => !S (20 + r), Int.le_antisymm ?_ ?_⟩
      · refine mf_z_ge hl hG hC hg hp g1 s0 s1 (fun k hk hlt hs => ?_) (fun k hk hlt hs => ?_)
        · have q := s2 (2 * k) (by omega) (by have := hI.2.2.1 k hk; have e : mf_fl rm k = rm (2 * k + 1) := rfl; omega)
          rw [(ha k hk).1, (ha k hk).2.1] at q
          exact q hs
        · have q := s2 (2 * k + 1) (by omega) hlt
          obtain ⟨m1, m2, m3⟩ := hM (2 * k) (by omega)
          rw [mf_mt_e] at m1 m2
          rw [m1, m2, (ha k hk).1, (ha k hk).2.1] at q
          exact q hs
      · rw [← z2]
        exact mf_z_le hg hp z1 _
end Start
/-- the greatest assignment is as great as the least cut -/
theorem mf_minmax {G R C : Nat} {par grp : Nat → Nat} (X : Nat → Bool) (cnt : Nat → Nat → Bool) {lim need : Nat → Int} (hG : G ≤ 6) (hC : C ≤ 12) (hR : R ≤ 5) (hg : ∀ c, c < C → grp c < G) (hp : mf_tr G par)
    (h1 : ∀ g, g < G → 0 ≤ lim g) (h2 : ∀ r, r < R → 0 ≤ need (r + 1)) :
    ∃ (z : Nat → Nat → Int) (T : Nat → Bool), mf_zok G R C par grp X cnt lim need z ∧ mf_zsz R C z = mf_cv G R C par grp X cnt lim need T := by
  obtain ⟨K, fr, to, cap, cost, hl⟩ := mf_lay_ex G R C par grp X cnt lim need (fun _ _ => 0)
  have par2 : ∀ k : Nat, (2 * k) % 2 = 0 ∧ (2 * k + 1) % 2 = 1 ∧ (2 * k) / 2 = k ∧ (2 * k + 1) / 2 = k := fun k => by omega
  have ha : ∀ k, k < K → (fun a => if a % 2 = 0 then fr (a / 2) else to (a / 2)) (2 * k) = fr k ∧ (fun a => if a % 2 = 0 then to (a / 2) else fr (a / 2)) (2 * k) = to k ∧
      (fun a => if a % 2 = 0 then fr (a / 2) else to (a / 2)) (2 * k + 1) = to k ∧ (fun a => if a % 2 = 0 then to (a / 2) else fr (a / 2)) (2 * k + 1) = fr k ∧
      (fun a => if a % 2 = 0 then cost (a / 2) else - cost (a / 2)) (2 * k) = cost k ∧ (fun a => if a % 2 = 0 then cost (a / 2) else - cost (a / 2)) (2 * k + 1) = - cost k ∧
      (fun a => if a % 2 = 0 then cap (a / 2) else 0) (2 * k) = cap k ∧ (fun a => if a % 2 = 0 then cap (a / 2) else 0) (2 * k + 1) = 0 := by
    intro k _
    obtain ⟨e1, e2, e3, e4⟩ := par2 k
    dsimp only
    rw [e1, e2, e3, e4]
    simp
  obtain ⟨hM, hI⟩ := mf_start hl hG hC hR hg hp (P := 0) (Int.le_refl _) h1 h2 (fun _ _ _ _ => by omega)
    (ab := fun a => if a % 2 = 0 then fr (a / 2) else to (a / 2)) (ae := fun a => if a % 2 = 0 then to (a / 2) else fr (a / 2)) (ap := fun a => if a % 2 = 0 then cost (a / 2) else - cost (a / 2)) (rm := fun a => if a % 2 = 0 then cap (a / 2) else 0) ha
  obtain ⟨j1, j2⟩ := mf_send_ok (FAR := 1) hM (by omega : 1 < 25) (by omega) (by simp) (C + 1) (_, fun _ => 0, 0, 0) hI
  generalize mf_send 25 (2 * K) _ _ _ 0 1 1 (C + 1) _ = q at j1 j2
  obtain ⟨z1, z2, z3, z4, z5, z6⟩ := mf_end hl hG hC hg hp (fun k hk => ⟨(ha k hk).1, (ha k hk).2.1, (ha k hk).2.2.2.2.1⟩) hM j1 ((C + 1 : Nat) : Int) (by
    rcases j2 with j2 | j2
    · left; rw [j2]; dsimp only; omega
    · exact Or.inr j2) (by omega)
  rcases z6 with z6 | ⟨T, z6⟩
  · exfalso
    have e : ∀ n : Nat, mf_sm n (fun _ => 1) = (n : Int) := by
      intro n
      induction n with
      | zero => rfl
      | succ n ih => rw [mf_sm_s, ih]; omega
    have : mf_zsz R C (mf_zof K fr to X cnt (mf_fl q.1)) ≤ mf_sm C (fun _ => 1) := mf_sm_le (fun c hc => z1.2.2.1 c hc)
    rw [e] at this
    omega
  · exact ⟨_, T, z1, z2.trans z6.symm⟩
