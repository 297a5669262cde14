/-! the helpers over greater worlds; their calls -/
abbrev zl_P (D : va_G) (tys : List (ClassId × FieldType)) (sz : Nat) (ws : va_W) : State → Prop := fun U => U.heap.size = sz ∧ tb_ok U ∧ zs_ok U U.heap ∧ zl_no U ∧ va_P D cls ws U.heap ∧ va_K D cls tys U ∧ va_D (fun _ => True) ws
theorem zl_frame {l : Launch} {y : MethodName} {cw : Cond} {rm : Room} {av : List Value} {ok : Prop} {E : String → Prop} {D : va_G} {tys : List (ClassId × FieldType)} {wc wc1 wr ws ws1 : va_W} {mc ms sz : Nat}
    (hM : Met l y [cw] rm (va_Pc av (zl_P D tys sz wc)) (zl_Q ok E D wc wc1 sz) mc ms (va_A wc sz)) (isC isR perm perm0 : List Nat) (hC : isC.map (fun i => ws[i]?) = wc.map some) (hC2 : isC.filterMap (fun i => ws[i]?) = wc) (hnC : va_nd isC = true) (hR : isR.map (fun i => ws[i]?) = wr.map some) (hnR : va_nd isR = true) (hdis : ∀ i ∈ isR, i ∉ isC)
    (hp : perm.filterMap (fun i => (wr ++ wc1)[i]?) = ws1) (hp2 : perm.map (fun i => (wr ++ wc1)[i]?) = ws1.map some) (hnp : va_nd perm = true) (hq : perm0.filterMap (fun i => (wr ++ wc)[i]?) = ws) (hq2 : perm0.map (fun i => (wr ++ wc)[i]?) = ws.map some) (hnq : va_nd perm0 = true) :
    Met l y [cw] rm (va_Pc av (zl_P D tys sz ws)) (zl_Q ok E D ws ws1 sz) mc ms (va_A ws sz) := by
  intro p e ha hc hk s m args below hf happ hP hK
  obtain ⟨rfl, hsz, hok, hs, hno, hPw, hKw, hDw⟩ := hP
  subst hsz
  obtain ⟨n, o, h1, h2, h3, ⟨h4, hz, hkp⟩, L, h5, h6⟩ := hM p e ha hc hk s m _ below hf happ ⟨rfl, rfl, hok, hs, hno, hPw.sub isC hC2, hKw, hDw.sub isC hnC hC⟩ hK
  have hF := va_free (wc := wc) (hDw.self (sz := s.heap.size)) (va_S.rf (H0 := s.heap)) (fun q h => Or.inr h) isC hC
  refine ⟨n, o, h1, h2, h3, ⟨?_, hz, fun q g1 g2 => hkp q g1 (fun z => g2 (hF q z))⟩, L, h5, fun q hq => hF _ (h6 q hq)⟩
  rcases h4 with ⟨g1, g2, g3, g4⟩ | ⟨X, g1, g2, g3, g4⟩
  · obtain ⟨j1, j2⟩ := va_join (wr := wr) (w1 := wc1) hPw (hDw.self (sz := s.heap.size)) isC isR hC hR hnR hdis hkp hF g3 g4
    exact Or.inl ⟨g1, g2, j1.sub perm hp, j2.sub perm hnp hp2⟩
  · obtain ⟨j1, j2⟩ := va_join (wr := wr) (w1 := wc) hPw (hDw.self (sz := s.heap.size)) isC isR hC hR hnR hdis hkp hF g3 g4
    exact Or.inr ⟨X, g1, g2, j1.sub perm0 hq, j2.sub perm0 hnq hq2⟩
section ZLC
variable {p : Program} {l : Launch} {e : Env} {R : Room} {s : State} {m : MethodId} {args : Array Value} {below : List Frame} {meth : Method} {c : Code} {H : Heap} {locs : List Loc} {cells slots : Nat} {Q : State → Prop}
variable {pc : Nat} {ls : Array Slot} {rest st0 : List Value} {a : Array Value} {A0 : Nat → Prop} {H0 : Heap} {D : va_G} {mc ms : Nat}
theorem zl_call {ok : Prop} {E : String → Prop} {wc wc1 wr : va_W} (hr : va_Run p l e R s m args below meth c H locs cells slots mc ms (F0 m pc ls st0) rest (zl_Q ok E D wc wc1 H.size a) (va_A wc H.size)) (hS : va_S A0 H0 H locs) (hP : va_P D cls (wc ++ wr) H) (hD : va_D A0 (wc ++ wr)) (hA : ∀ q, H0.size ≤ q → A0 q)
    (kk : ok → ∀ (H1 : Heap) (locs1 : List Loc), va_P D cls (wc1 ++ wr) H1 → va_D A0 (wc1 ++ wr) → va_S A0 H0 H1 locs1 → W p l e R s m args below meth c H1 locs1 (cells + mc) (slots + ms) Q (F0 m (pc + 3) ls (.int 0 :: rest)))
    (kt : ∀ (X : String) (H1 : Heap) (locs1 : List Loc), E X → va_P D cls (wc ++ wr) H1 → va_D A0 (wc ++ wr) → va_S A0 H0 H1 locs1 → W p l e R s m args below meth c H1 locs1 (cells + mc) (slots + ms) Q (F0 m (pc + 3) ls (.int (if X = zx_iae then 1 else 2) :: rest))) :
    W p l e R s m args below meth c H locs cells slots Q (F0 m pc ls st0) := by
  intro T hT X
  have hF : ∀ q, va_A wc H.size q → A0 q := fun q h => by
    rcases h with ⟨k, e, h⟩ | h
    · exact hD.2 k (q, e) (by rw [List.getElem?_append_left ((List.getElem?_eq_some_iff.mp h).1)]; exact h)
    · exact hA q (Nat.le_trans hS.1 h)
  have fin : ∀ (H1 : Heap) (L : List Loc), H.size ≤ H1.size → (∀ q : Nat, q < H.size → ¬ va_A wc H.size q → H1[q]? = H[q]?) → (∀ q ∈ L, va_A wc H.size q.base) → va_S A0 H0 H1 (locs ++ L) := fun H1 L hz hk hL =>
    ⟨Nat.le_trans hS.1 hz, fun q h1 h2 => by rw [hk q (Nat.lt_of_lt_of_le h1 hS.1) (fun z => h2 (hF q z))]; exact hS.2.1 q h1 h2, fun q hq => by
      rcases List.mem_append.mp hq with h | h
      · exact hS.2.2 q h
      · exact hF _ (hL q h)⟩
  have glue : ∀ (H1 : Heap) (w1 : va_W), (∀ q : Nat, q < H.size → ¬ va_A wc H.size q → H1[q]? = H[q]?) → va_P D cls w1 H1 → va_D (va_A wc H.size) w1 → va_P D cls (w1 ++ wr) H1 ∧ va_D A0 (w1 ++ wr) := by
    intro H1 w1 hk hP1 hD1
    have hout : ∀ (j : Nat) (q : Nat × va_E), wr[j]? = some q → ¬ va_A wc H.size q.1 := by
      intro j q hj hA1
      have hj2 : (wc ++ wr)[wc.length + j]? = some q := by rw [List.getElem?_append_right (by omega), show wc.length + j - wc.length = j by omega]; exact hj
      rcases hA1 with ⟨k, e, h⟩ | h
      · have hk2 := (List.getElem?_eq_some_iff.mp h).1
        have := hD.1 k (wc.length + j) (q.1, e) q (by rw [List.getElem?_append_left hk2]; exact h) hj2 rfl
        omega
      · have := va_at_lt (hP _ _ hj2); omega
    have hPr : va_P D cls wr H1 := fun j q hj => by
      have hj2 : (wc ++ wr)[wc.length + j]? = some q := by rw [List.getElem?_append_right (by omega), show wc.length + j - wc.length = j by omega]; exact hj
      exact (hP _ _ hj2).kept (hk _ (va_at_lt (hP _ _ hj2)) (hout j q hj))
    have hDr : va_D A0 wr := ⟨fun i j p q hi hj h => by
        have := hD.1 (wc.length + i) (wc.length + j) p q (by rw [List.getElem?_append_right (by omega), show wc.length + i - wc.length = i by omega]; exact hi) (by rw [List.getElem?_append_right (by omega), show wc.length + j - wc.length = j by omega]; exact hj) h
        omega, fun k q hk => hD.2 (wc.length + k) q (by rw [List.getElem?_append_right (by omega), show wc.length + k - wc.length = k by omega]; exact hk)⟩
    exact ⟨hP1.app hPr, va_D.app (hD1.weaken (fun _ q _ h => hF q.1 h)) hDr (fun i j p q hi hj h => hout j q hj (by rw [← h]; exact hD1.2 i p hi))⟩
  obtain ⟨v', st₀, t, T', L, h0, X', hL, e1, e2, ⟨hor, hz, hk⟩, st⟩ := hr T hT X
  rw [h0, ← e1] at hz hk
  rcases hor with ⟨hv, hok, hP1, hD1⟩ | ⟨Y, hv, hE, hP1, hD1⟩
  · cases hv
    rw [← e1] at hP1
    obtain ⟨j1, j2⟩ := glue _ _ hk hP1 hD1
    obtain ⟨t2, a1, b1⟩ := kk hok T'.heap (locs ++ L) j1 j2 (fin _ L hz hk hL) T' rfl X'
    exact ⟨t2, st t2 a1, b1⟩
  · cases hv
    rw [← e1] at hP1
    obtain ⟨j1, j2⟩ := glue _ _ hk hP1 hD1
    obtain ⟨t2, a1, b1⟩ := kt Y T'.heap (locs ++ L) hE j1 j2 (fin _ L hz hk hL) T' rfl X'
    exact ⟨t2, st t2 a1, b1⟩
end ZLC
