/-! the law's world: the class and the reference side by side -/
theorem zj_Pl {D : va_G} {cl : List vw_C} {w1 w2 : va_W} {H : Heap} (h : va_P D cl (w1 ++ w2) H) : va_P D cl w1 H := fun k q hk => h k q (by rw [List.getElem?_append_left ((List.getElem?_eq_some_iff.mp hk).1)]; exact hk)
theorem zj_Pr {D : va_G} {cl : List vw_C} {w1 w2 : va_W} {H : Heap} (h : va_P D cl (w1 ++ w2) H) : va_P D cl w2 H := fun k q hk => h (w1.length + k) q (by rw [List.getElem?_append_right (by omega), show w1.length + k - w1.length = k by omega]; exact hk)
theorem zj_Dl {A : Nat → Prop} {w1 w2 : va_W} (h : va_D A (w1 ++ w2)) : va_D (fun _ => True) w1 := ⟨fun i j p q hi hj e => h.1 i j p q (by rw [List.getElem?_append_left ((List.getElem?_eq_some_iff.mp hi).1)]; exact hi) (by rw [List.getElem?_append_left ((List.getElem?_eq_some_iff.mp hj).1)]; exact hj) e, fun _ _ _ => trivial⟩
theorem zj_Dr {A : Nat → Prop} {w1 w2 : va_W} (h : va_D A (w1 ++ w2)) : va_D (fun _ => True) w2 := ⟨fun i j p q hi hj e => by
  have := h.1 (w1.length + i) (w1.length + j) p q (by rw [List.getElem?_append_right (by omega), show w1.length + i - w1.length = i by omega]; exact hi) (by rw [List.getElem?_append_right (by omega), show w1.length + j - w1.length = j by omega]; exact hj) e
  omega, fun _ _ _ => trivial⟩
section ZJC
variable {p : Program} {l : Launch} {e : Env} {R : Room} {s : State} {m : MethodId} {args : Array Value} {below : List Frame} {meth : Method} {c : Code} {H : Heap} {locs : List Loc} {cells slots : Nat} {Q : State → Prop}
variable {pc : Nat} {ls : Array Slot} {rest st0 : List Value} {a : Array Value} {A0 : Nat → Prop} {H0 : Heap} {D : va_G}
theorem zm_call {v : Int32} {wc wc1 wr : va_W} (hr : va_Run p l e R s m args below meth c H locs cells slots 0 0 (F0 m pc ls st0) rest (zv (some (.int v)) D wc1 (va_A wc H.size) a) (va_A wc H.size)) (hS : va_S A0 H0 H locs) (hP : va_P D cls (wr ++ wc) H) (hD : va_D A0 (wr ++ wc)) (hA : ∀ q, H0.size ≤ q → A0 q)
    (kk : ∀ (H1 : Heap) (locs1 : List Loc), va_P D cls (wr ++ wc1) H1 → va_D A0 (wr ++ wc1) → va_S A0 H0 H1 locs1 → W p l e R s m args below meth c H1 locs1 cells slots Q (F0 m (pc + 3) ls (.int v :: rest))) :
    W p l e R s m args below meth c H locs cells slots Q (F0 m pc ls st0) := by
  intro T hT X
  have hF : ∀ q, va_A wc H.size q → A0 q := fun q h => by
    rcases h with ⟨k, e, h⟩ | h
    · exact hD.2 (wr.length + k) (q, e) (by rw [List.getElem?_append_right (by omega), show wr.length + k - wr.length = k by omega]; exact h)
    · exact hA q (Nat.le_trans hS.1 h)
  obtain ⟨v', st₀, t, T', L, h0, X', hL, e1, e2, ⟨⟨hv, hP1, hD1⟩, hz, hk⟩, st⟩ := hr T hT X
  cases hv
  rw [h0, ← e1] at hz hk
  rw [← e1] at hP1
  have hout : ∀ (j : Nat) (q : Nat × va_E), wr[j]? = some q → ¬ va_A wc H.size q.1 := by
    intro j q hj hA1
    have hj1 := (List.getElem?_eq_some_iff.mp hj).1
    have hj2 : (wr ++ wc)[j]? = some q := by rw [List.getElem?_append_left hj1]; exact hj
    rcases hA1 with ⟨k, e, h⟩ | h
    · have := hD.1 j (wr.length + k) q (q.1, e) hj2 (by rw [List.getElem?_append_right (by omega), show wr.length + k - wr.length = k by omega]; exact h) rfl
      omega
    · have := va_at_lt (hP _ _ hj2); omega
  have hPr : va_P D cls wr T'.heap := fun j q hj => by
    have hj2 : (wr ++ wc)[j]? = some q := by rw [List.getElem?_append_left ((List.getElem?_eq_some_iff.mp hj).1)]; exact hj
    exact (hP _ _ hj2).kept (hk _ (va_at_lt (hP _ _ hj2)) (hout j q hj))
  have hDr : va_D A0 wr := ⟨(zj_Dl hD).1, fun k q hk => hD.2 k q (by rw [List.getElem?_append_left ((List.getElem?_eq_some_iff.mp hk).1)]; exact hk)⟩
  obtain ⟨t2, a1, b1⟩ := kk T'.heap (locs ++ L) (hPr.app hP1) (va_D.app hDr (hD1.weaken (fun _ q _ h => hF q.1 h)) (fun i j p q hi hj h => hout i p hi (by rw [h]; exact hD1.2 j q hj))) ⟨Nat.le_trans hS.1 hz, fun q h1 h2 => by rw [hk q (Nat.lt_of_lt_of_le h1 hS.1) (fun z => h2 (hF q z))]; exact hS.2.1 q h1 h2, fun q hq => by
      rcases List.mem_append.mp hq with h | h
      · exact hS.2.2 q h
      · exact hF _ (hL q h)⟩ T' rfl X'
  exact ⟨t2, st t2 a1, b1⟩
end ZJC
theorem zj_ad (n j : Nat) : nI n + nI j = nI (n + j) := by rw [rf_nI_ofInt, rf_nI_ofInt, rf_nI_ofInt, ← Int32.ofInt_add]; congr 1
theorem zj_s (b : Int32) : ∃ s1, s1 < 4 ∧ (zi 0 b 3 → b.toNatClampNeg = s1) := by
  by_cases h : zi 0 b 3
  · refine ⟨b.toNatClampNeg, ?_, fun _ => rfl⟩
    rw [rz_zk, rf_i0, rz_3] at h; have := rz_of h.1; omega
  · exact ⟨0, by omega, fun z => absurd z h⟩
theorem zj_q (b : Int32) : ∃ p1, p1 < 3 ∧ (zi 0 b 2 → b.toNatClampNeg = p1) := by
  by_cases h : zi 0 b 2
  · refine ⟨b.toNatClampNeg, ?_, fun _ => rfl⟩
    rw [rz_zk, rf_i0, rz_2] at h; have := rz_of h.1; omega
  · exact ⟨0, by omega, fun z => absurd z h⟩
section
variable {X : XS} {M : MS}
theorem zj_p (h : LI X M) {s1 : Nat} (hs1 : s1 < 4) : ∃ p1, p1 < 3 ∧ (X.2.1 (1 + s1) = -1 ∨ X.2.1 (1 + s1) = nI p1) := by
  have := h.c.pg s1 hs1
  rcases this.2 with e | ⟨p, hp, e⟩
  · exact ⟨0, by omega, Or.inl (by rw [this.1, e])⟩
  · exact ⟨p, hp, Or.inr (by rw [this.1, e])⟩
theorem zj_G (h : LI X M) : X.1 0 ≤ 6 := by rw [h.a.eG]; exact h.a.hG
theorem zj_C (h : LI X M) : X.1 1 ≤ 12 := by rw [h.a.eC]; exact h.a.hC
theorem zj_r5 (h : LI X M) {p1 : Nat} (hp1 : p1 < 3) : X.1 (2 + p1) ≤ 5 := by rw [(h.b.rq p1 hp1).1]; exact (h.b.rq p1 hp1).2
theorem zj_in {x : Int32} {n k : Nat} (h : x = nI n) (hn : n < k) (hk : k ≤ 1000) : vp_in x k := by
  rw [h]; intro z; rcases z with z | z
  · have := rf_lt.1 z; rw [rf_nI (by omega), rf_i0] at this; omega
  · rw [rf_nI_clamp (by omega)] at z; omega
theorem zj_paM (h : LI X M) : ∀ j, 0 < j → j < M.2.1 → vp_in (M.2.2.2.2.2.2.2 0 j) 6 := fun j h1 h2 => by
  have := h.a.tr j h1 h2; have hG := h.a.hG; exact zj_in this.1 (by omega) (by omega)
theorem zj_pa (h : LI X M) : ∀ j, 0 < j → j < X.1 0 → vp_in (X.2.2.1 0 j) 6 := fun j h1 h2 => by
  rw [h.a.eG] at h2; rw [h.a.pa]; exact zj_paM h j h1 h2
theorem zj_goM (h : LI X M) : ∀ c, c < 12 → vp_in (M.2.2.2.2.2.2.2 2 c) 6 := fun c _ => by
  have hG := h.a.hG
  by_cases e : c < M.2.2.1
  · have := h.a.gol c e; exact zj_in this.1 (by omega) (by omega)
  · rw [h.a.goz c (by omega)]; exact zj_in (n := 0) rfl (by omega) (by omega)
theorem zj_go (h : LI X M) : ∀ c, c < 12 → vp_in (X.2.2.1 3 c) 6 := fun c hc => by rw [h.a.go]; exact zj_goM h c hc
theorem zj_glM (h : LI X M) {s1 : Nat} (hs1 : s1 < 4) {d : Int32} (hd : 0 ≤ d.toInt ∧ d.toInt ≤ 99) : ∀ c, c < 12 → ((yl1 (M.2.2.2.2.2.2.2 9) (M.2.2.2.2.2.2.2 4) s1 d M.2.2.1) >>> (nI c &&& 31)) &&& 1 = 1 → M.2.2.2.2.2.2.2 2 c = nI (M.2.2.2.2.2.2.2 2 c).toNatClampNeg ∧ (M.2.2.2.2.2.2.2 2 c).toNatClampNeg < M.2.1 := fun c hc hx => by
  rw [rb_ref (by omega), ← rq_live h hs1 hd, h.a.eC] at hx
  refine h.a.gol c (Nat.lt_of_not_le (fun z => ?_))
  rw [rf_live_out _ h.a.hC c z] at hx; exact absurd hx (by decide)
end
theorem zj_t0 (Y : String) : ¬ (if Y = zx_iae then (1 : Int32) else 2) = 0 := by split <;> decide
theorem zj_tp (Y : String) : ¬ (if Y = zx_iae then (1 : Int32) else 2) ≤ 0 := by split <;> decide
theorem zj_lg {x y : Int64} (h : x = y) : lg_cmp x y = 0 := by rw [h]; unfold lg_cmp; rw [if_neg (Int64.lt_irrefl), if_pos rfl]
theorem zj_bL (v : Bool) : zbL v = if v = true then 1 else 0 := rfl
theorem zj_nil {D : va_G} {cl : List vw_C} {H : Heap} : va_P D cl [] H := fun k q h => by cases h
abbrev zJ (p : Program) (l : Launch) (s : State) (m : MethodId) (c : Code) (b L : Nat) (xs : Nat → Int32) (D : va_G) (cI cJ cZ cP cS : ClassId) : Prop := (p.tables.exec = Jvm.exec) ∧ (c.code = b_LA_law) ∧ (c.maxLocals = 7) ∧ (s.vm.findClass "StudyAuditLaw" = some m.cls) ∧ (tb_ok s) ∧ (zs_ok s s.heap) ∧ (zl_no s) ∧ (va_K D cls (tyl cI cJ cZ cP cS) s) ∧ (va_X b L xs s s.heap) ∧ (b < s.heap.size) ∧ (l.stackTraces = false) ∧ (L ≤ 2048)
theorem zJ.hx {p : Program} {l : Launch} {s : State} {m : MethodId} {c : Code} {b L : Nat} {xs : Nat → Int32} {D : va_G} {cI cJ cZ cP cS : ClassId} (h : zJ p l s m c b L xs D cI cJ cZ cP cS) : p.tables.exec = Jvm.exec := h.1
theorem zJ.hb {p : Program} {l : Launch} {s : State} {m : MethodId} {c : Code} {b L : Nat} {xs : Nat → Int32} {D : va_G} {cI cJ cZ cP cS : ClassId} (h : zJ p l s m c b L xs D cI cJ cZ cP cS) : c.code = b_LA_law := h.2.1
theorem zJ.hml {p : Program} {l : Launch} {s : State} {m : MethodId} {c : Code} {b L : Nat} {xs : Nat → Int32} {D : va_G} {cI cJ cZ cP cS : ClassId} (h : zJ p l s m c b L xs D cI cJ cZ cP cS) : c.maxLocals = 7 := h.2.2.1
theorem zJ.hown {p : Program} {l : Launch} {s : State} {m : MethodId} {c : Code} {b L : Nat} {xs : Nat → Int32} {D : va_G} {cI cJ cZ cP cS : ClassId} (h : zJ p l s m c b L xs D cI cJ cZ cP cS) : s.vm.findClass "StudyAuditLaw" = some m.cls := h.2.2.2.1
theorem zJ.hok {p : Program} {l : Launch} {s : State} {m : MethodId} {c : Code} {b L : Nat} {xs : Nat → Int32} {D : va_G} {cI cJ cZ cP cS : ClassId} (h : zJ p l s m c b L xs D cI cJ cZ cP cS) : tb_ok s := h.2.2.2.2.1
theorem zJ.hs {p : Program} {l : Launch} {s : State} {m : MethodId} {c : Code} {b L : Nat} {xs : Nat → Int32} {D : va_G} {cI cJ cZ cP cS : ClassId} (h : zJ p l s m c b L xs D cI cJ cZ cP cS) : zs_ok s s.heap := h.2.2.2.2.2.1
theorem zJ.hno {p : Program} {l : Launch} {s : State} {m : MethodId} {c : Code} {b L : Nat} {xs : Nat → Int32} {D : va_G} {cI cJ cZ cP cS : ClassId} (h : zJ p l s m c b L xs D cI cJ cZ cP cS) : zl_no s := h.2.2.2.2.2.2.1
theorem zJ.hK {p : Program} {l : Launch} {s : State} {m : MethodId} {c : Code} {b L : Nat} {xs : Nat → Int32} {D : va_G} {cI cJ cZ cP cS : ClassId} (h : zJ p l s m c b L xs D cI cJ cZ cP cS) : va_K D cls (tyl cI cJ cZ cP cS) s := h.2.2.2.2.2.2.2.1
theorem zJ.hX {p : Program} {l : Launch} {s : State} {m : MethodId} {c : Code} {b L : Nat} {xs : Nat → Int32} {D : va_G} {cI cJ cZ cP cS : ClassId} (h : zJ p l s m c b L xs D cI cJ cZ cP cS) : va_X b L xs s s.heap := h.2.2.2.2.2.2.2.2.1
theorem zJ.hbl {p : Program} {l : Launch} {s : State} {m : MethodId} {c : Code} {b L : Nat} {xs : Nat → Int32} {D : va_G} {cI cJ cZ cP cS : ClassId} (h : zJ p l s m c b L xs D cI cJ cZ cP cS) : b < s.heap.size := h.2.2.2.2.2.2.2.2.2.1
theorem zJ.htr {p : Program} {l : Launch} {s : State} {m : MethodId} {c : Code} {b L : Nat} {xs : Nat → Int32} {D : va_G} {cI cJ cZ cP cS : ClassId} (h : zJ p l s m c b L xs D cI cJ cZ cP cS) : l.stackTraces = false := h.2.2.2.2.2.2.2.2.2.2.1
theorem zJ.hL {p : Program} {l : Launch} {s : State} {m : MethodId} {c : Code} {b L : Nat} {xs : Nat → Int32} {D : va_G} {cI cJ cZ cP cS : ClassId} (h : zJ p l s m c b L xs D cI cJ cZ cP cS) : L ≤ 2048 := h.2.2.2.2.2.2.2.2.2.2.2
theorem zj_A {s : State} : ∀ q, s.heap.size ≤ q → va_A [] s.heap.size q := fun q h => Or.inr h
theorem zj_bA {s : State} {b : Nat} (h : b < s.heap.size) : ¬ va_A [] s.heap.size b := fun z => by
  rcases z with ⟨k, e, h1⟩ | h1
  · cases h1
  · omega
/-- behind a call: back at the loop's end, with a state that still agrees -/
abbrev zKK (p : Program) (l : Launch) (e : Env) (s : State) (m : MethodId) (args : Array Value) (below : List Frame) (meth : Method) (c : Code) (Q : State → Prop) (D : va_G) (cI cJ cZ cP cS : ClassId) (a : Nat → Nat) (ao h : Nat) (bb : Nat → Nat) (b k cells slots : Nat) : Prop :=
  ∀ (X : XS) (M : MS) (ov : Nat → Int64) (H : Heap) (locs : List Loc) (ls : Array Slot), LI X M → va_P D cls (zxo cI cJ cP cS a X ao ov ++ ymc cI cZ h bb M) H → va_D (va_A [] s.heap.size) (zxo cI cJ cP cS a X ao ov ++ ymc cI cZ h bb M) → va_S (va_A [] s.heap.size) s.heap H locs →
    lv_has ls 7 [(4, .int (nI (4 * k))), (3, .ref ao), (2, .ref h), (1, .ref (a 0)), (0, .ref b)] → W p l e room_1 s m args below meth c H locs (cells + 4) (slots + 24) Q (F0 m 1344 ls [])
