/-! fill, and what fills (rows by program) -/
def zfl (f : Nat → Int32) (v : Int32) : Nat → (Nat → Int32)
  | 0 => f
  | i + 1 => upd (zfl f v i) i v
abbrev ro_AR_filli : Room := { frames := 0, cells := 0, slots := 0, locals := 0 }
set_option maxHeartbeats 4000000 in
set_option maxRecDepth 100000 in
theorem lo_AR_filli {l : Launch} {p : Program} {e : Env} {s : State} {m : MethodId} {args : Array Value} {below : List Frame} {meth : Method} {c : Code} {H0 : Heap} {A : Nat → Prop} {Q : State → Prop} (D : va_G) (cI cJ cZ cP cS : ClassId) (h n : Nat) (v : Int32) (f : Nat → Int32) (hx : p.tables.exec = Jvm.exec) (hb : c.code = b_AR_filli) (hml : c.maxLocals = 4) (hown : s.vm.findClass "java/util/Arrays" = some m.cls) (hok : tb_ok s) (hK : va_K D cls (tyl cI cJ cZ cP cS) s) (hA : ∀ q : Nat, H0.size ≤ q → A q) (hn : n < 1000)
    (kk : ∀ (ls : Array Slot) (H : Heap) (locs : List Loc), lv_has ls 4 [(0, .ref h), (1, .int v), (2, .int (nI n)), (3, .int (nI n))] → va_P D cls [(h, .inl (cI, n, .inl (zfl f v n)))] H → va_D A [(h, .inl (cI, n, .inl (zfl f v n)))] → va_S A H0 H locs → W p l e ro_AR_filli s m args below meth c H locs 0 0 Q (F0 m 20 ls [])) :
    ∀ (k i : Nat) (ls : Array Slot) (H : Heap) (locs : List Loc), 0 ≤ i → i + k = n → lv_has ls 4 [(0, .ref h), (1, .int v), (2, .int (nI i)), (3, .int (nI n))] → va_P D cls [(h, .inl (cI, n, .inl (zfl f v i)))] H → va_D A [(h, .inl (cI, n, .inl (zfl f v i)))] → va_S A H0 H locs → W p l e ro_AR_filli s m args below meth c H locs 0 0 Q (F0 m 5 ls []) := by
  intro k
  induction k with
  | zero =>
    intro i ls H locs hi0 hik hl hP hD hS
    have hik : n = i := by omega
    subst hik
    refine lv_iload_n hx hb d_AR_filli_5 rfl (lv_at hl 2 rfl) ?_
    refine lv_iload_n hx hb d_AR_filli_6 rfl (lv_at hl 3 rfl) ?_
    refine lv_icmp_ge (tgt := 20) hx hb d_AR_filli_7 (by decide) (fun h7 => ?_) (fun h7 => absurd (show nI n ≤ nI n from Int32.le_refl _) h7)
    exact kk ls H locs (lv_sub hl [0, 1, 2, 3] rfl) hP hD hS
  | succ k ih =>
    intro i ls H locs hi0 hik hl hP hD hS
    refine lv_iload_n hx hb d_AR_filli_5 rfl (lv_at hl 2 rfl) ?_
    refine lv_iload_n hx hb d_AR_filli_6 rfl (lv_at hl 3 rfl) ?_
    refine lv_icmp_ge (tgt := 20) hx hb d_AR_filli_7 (by decide) (fun h7 => absurd h7 (show ¬ nI n ≤ nI i from nI_ge (by omega) (by omega))) (fun h7 => ?_)
    refine lv_aload_n hx hb d_AR_filli_10 rfl (lv_at hl 0 rfl) ?_
    refine lv_iload_n hx hb d_AR_filli_11 rfl (lv_at hl 2 rfl) ?_
    refine lv_iload_n hx hb d_AR_filli_12 rfl (lv_at hl 1 rfl) ?_
    refine va_iast hx hb hK hP hD hS 0 0 rfl rfl (vp_in_nI (by omega) (by omega)) d_AR_filli_13 (fun H locs hP hD hS => ?_)
    rw [nI_clamp (show i < 2 ^ 31 from by omega)] at hP hD
    have hP : va_P D cls [(h, .inl (cI, n, .inl (upd (zfl f v i) i v)))] H := hP
    have hD : va_D A [(h, .inl (cI, n, .inl (upd (zfl f v i) i v)))] := hD
    refine lv_iinc (v := (nI (i + 1))) hx hb d_AR_filli_14 hl (k := 2) rfl (by rw [nI_succ]; rfl) (by decide) rfl (fun ls hl => ?_)
    have hl : lv_has ls 4 [(2, .int (nI (i + 1))), (0, .ref h), (1, .int v), (3, .int (nI n))] := hl
    refine lv_goto (tgt := 5) hx hb d_AR_filli_17 (by decide) ?_
    exact ih (i + 1) ls H locs (by omega) (by omega) (lv_sub hl [1, 2, 0, 3] rfl) hP hD hS
set_option maxHeartbeats 4000000 in
set_option maxRecDepth 100000 in
theorem m_AR_filli (l : Launch) (D : va_G) (cI cJ cZ cP cS : ClassId) (h n : Nat) (v : Int32) (f : Nat → Int32) (hn : n < 1000) (sz : Nat) : Met l y_AR_filli [Cond.code y_AR_filli b_AR_filli 4 none] ro_AR_filli (va_Pc [.ref h, .int v] (fun U => U.heap.size = sz ∧ tb_ok U ∧ va_P D cls [(h, .inl (cI, n, .inl f))] U.heap ∧ va_K D cls (tyl cI cJ cZ cP cS) U ∧ va_D (fun _ => True) [(h, .inl (cI, n, .inl f))])) (zv none D [(h, .inl (cI, n, .inl (zfl f v n)))] (va_A [(h, .inl (cI, n, .inl f))] sz)) 0 0 (va_A [(h, .inl (cI, n, .inl f))] sz) := by
  refine va_MetF (cc := b_AR_filli) (maxL := 4) (ret := none) (by decide +kernel) rfl ?_
  intro p e s m args below meth c s₁ B hml hv
  obtain ⟨rfl, hsz, hok, hP, hK, hD0⟩ := hv
  have hx := B.exec
  have hb := B.bytes
  have hr := B.returns
  have hown : s.vm.findClass "java/util/Arrays" = some m.cls := findClass_of_methodNamed B.named
  have hlocks := B.notSynchronized
  subst hsz
  have hD := hD0.self (sz := s.heap.size)
  generalize hAe : va_A [(h, .inl (cI, n, .inl f))] s.heap.size = A at hD ⊢
  have hA : ∀ q : Nat, s.heap.size ≤ q → A q := fun q h => by rw [← hAe]; exact Or.inr h
  have hS : va_S A s.heap s.heap [] := va_S.rf
  have hl := lv_entry ([.ref h, .int v]) (n := 4) (Nat.le_of_ble_eq_true rfl)
  rw [lg_entry_eq]
  generalize (lg_sl ([.ref h, .int v]) ++ List.replicate (4 - (lg_sl ([.ref h, .int v])).length) Slot.unset).toArray = ls at hl ⊢
  have hl : lv_has ls 4 [(0, .ref h), (1, .int v)] := hl
  refine lv_iconst (v := 0) hx hb d_AR_filli_0 (by decide) ?_
  refine lv_istore_n hx hb d_AR_filli_1 rfl hl (by decide) rfl (fun ls hl => ?_)
  have hl : lv_has ls 4 [(2, .int 0), (0, .ref h), (1, .int v)] := hl
  refine lv_aload_n hx hb d_AR_filli_2 rfl (lv_at hl 1 rfl) ?_
  refine va_alen (v := nI n) hx hb hK hP 0 0 rfl rfl rfl d_AR_filli_3 ?_
  refine lv_istore_n hx hb d_AR_filli_4 rfl hl (by decide) rfl (fun ls hl => ?_)
  have hl : lv_has ls 4 [(3, .int (nI n)), (2, .int 0), (0, .ref h), (1, .int v)] := hl
  refine lo_AR_filli D cI cJ cZ cP cS h n v f hx hb hml hown hok hK hA hn (fun ls H locs hl hP hD hS => ?_) (n - 0) 0 ls _ _ (by omega) (by omega) (lv_sub hl [2, 3, 1, 0] rfl) hP hD hS
  exact W.vret hx hb hr (fun t ht _ => ⟨⟨rfl, by rw [ht]; exact hP, hD⟩, hS.F ht⟩) hS.2.2 d_AR_filli_20
def zfL (f : Nat → Int64) (v : Int64) : Nat → (Nat → Int64)
  | 0 => f
  | i + 1 => vp_updL (zfL f v i) i v
abbrev ro_AR_filll : Room := { frames := 0, cells := 0, slots := 0, locals := 0 }
set_option maxHeartbeats 4000000 in
set_option maxRecDepth 100000 in
theorem lo_AR_filll {l : Launch} {p : Program} {e : Env} {s : State} {m : MethodId} {args : Array Value} {below : List Frame} {meth : Method} {c : Code} {H0 : Heap} {A : Nat → Prop} {Q : State → Prop} (D : va_G) (cI cJ cZ cP cS : ClassId) (h n : Nat) (v : Int64) (f : Nat → Int64) (hx : p.tables.exec = Jvm.exec) (hb : c.code = b_AR_filll) (hml : c.maxLocals = 5) (hown : s.vm.findClass "java/util/Arrays" = some m.cls) (hok : tb_ok s) (hK : va_K D cls (tyl cI cJ cZ cP cS) s) (hA : ∀ q : Nat, H0.size ≤ q → A q) (hn : n < 1000)
    (kk : ∀ (ls : Array Slot) (H : Heap) (locs : List Loc), lv_has ls 5 [(0, .ref h), (1, .long v), (3, .int (nI n)), (4, .int (nI n))] → va_P D cls [(h, .inl (cJ, n, .inr (.inl (zfL f v n))))] H → va_D A [(h, .inl (cJ, n, .inr (.inl (zfL f v n))))] → va_S A H0 H locs → W p l e ro_AR_filll s m args below meth c H locs 0 0 Q (F0 m 22 ls [])) :
    ∀ (k i : Nat) (ls : Array Slot) (H : Heap) (locs : List Loc), 0 ≤ i → i + k = n → lv_has ls 5 [(0, .ref h), (1, .long v), (3, .int (nI i)), (4, .int (nI n))] → va_P D cls [(h, .inl (cJ, n, .inr (.inl (zfL f v i))))] H → va_D A [(h, .inl (cJ, n, .inr (.inl (zfL f v i))))] → va_S A H0 H locs → W p l e ro_AR_filll s m args below meth c H locs 0 0 Q (F0 m 6 ls []) := by
  intro k
  induction k with
  | zero =>
    intro i ls H locs hi0 hik hl hP hD hS
    have hik : n = i := by omega
    subst hik
    refine lv_iload_n hx hb d_AR_filll_6 rfl (lv_at hl 2 rfl) ?_
    refine lv_iload hx hb d_AR_filll_7 (lv_at hl 3 rfl) ?_
    refine lv_icmp_ge (tgt := 22) hx hb d_AR_filll_9 (by decide) (fun h9 => ?_) (fun h9 => absurd (show nI n ≤ nI n from Int32.le_refl _) h9)
    exact kk ls H locs (lv_sub hl [0, 1, 2, 3] rfl) hP hD hS
  | succ k ih =>
    intro i ls H locs hi0 hik hl hP hD hS
    refine lv_iload_n hx hb d_AR_filll_6 rfl (lv_at hl 2 rfl) ?_
    refine lv_iload hx hb d_AR_filll_7 (lv_at hl 3 rfl) ?_
    refine lv_icmp_ge (tgt := 22) hx hb d_AR_filll_9 (by decide) (fun h9 => absurd h9 (show ¬ nI n ≤ nI i from nI_ge (by omega) (by omega))) (fun h9 => ?_)
    refine lv_aload_n hx hb d_AR_filll_12 rfl (lv_at hl 0 rfl) ?_
    refine lv_iload_n hx hb d_AR_filll_13 rfl (lv_at hl 2 rfl) ?_
    refine lv_lload_n hx hb d_AR_filll_14 rfl (lv_at hl 1 rfl) ?_
    refine va_last hx hb hK hP hD hS 0 1 rfl rfl (vp_in_nI (by omega) (by omega)) d_AR_filll_15 (fun H locs hP hD hS => ?_)
    rw [nI_clamp (show i < 2 ^ 31 from by omega)] at hP hD
    have hP : va_P D cls [(h, .inl (cJ, n, .inr (.inl (vp_updL (zfL f v i) i v))))] H := hP
    have hD : va_D A [(h, .inl (cJ, n, .inr (.inl (vp_updL (zfL f v i) i v))))] := hD
    refine lv_iinc (v := (nI (i + 1))) hx hb d_AR_filll_16 hl (k := 2) rfl (by rw [nI_succ]; rfl) (by decide) rfl (fun ls hl => ?_)
    have hl : lv_has ls 5 [(3, .int (nI (i + 1))), (0, .ref h), (1, .long v), (4, .int (nI n))] := hl
    refine lv_goto (tgt := 6) hx hb d_AR_filll_19 (by decide) ?_
    exact ih (i + 1) ls H locs (by omega) (by omega) (lv_sub hl [1, 2, 0, 3] rfl) hP hD hS
set_option maxHeartbeats 4000000 in
set_option maxRecDepth 100000 in
theorem m_AR_filll (l : Launch) (D : va_G) (cI cJ cZ cP cS : ClassId) (h n : Nat) (v : Int64) (f : Nat → Int64) (hn : n < 1000) (sz : Nat) : Met l y_AR_filll [Cond.code y_AR_filll b_AR_filll 5 none] ro_AR_filll (va_Pc [.ref h, .long v] (fun U => U.heap.size = sz ∧ tb_ok U ∧ va_P D cls [(h, .inl (cJ, n, .inr (.inl f)))] U.heap ∧ va_K D cls (tyl cI cJ cZ cP cS) U ∧ va_D (fun _ => True) [(h, .inl (cJ, n, .inr (.inl f)))])) (zv none D [(h, .inl (cJ, n, .inr (.inl (zfL f v n))))] (va_A [(h, .inl (cJ, n, .inr (.inl f)))] sz)) 0 0 (va_A [(h, .inl (cJ, n, .inr (.inl f)))] sz) := by
  refine va_MetF (cc := b_AR_filll) (maxL := 5) (ret := none) (by decide +kernel) rfl ?_
  intro p e s m args below meth c s₁ B hml hv
  obtain ⟨rfl, hsz, hok, hP, hK, hD0⟩ := hv
  have hx := B.exec
  have hb := B.bytes
  have hr := B.returns
  have hown : s.vm.findClass "java/util/Arrays" = some m.cls := findClass_of_methodNamed B.named
  have hlocks := B.notSynchronized
  subst hsz
  have hD := hD0.self (sz := s.heap.size)
  generalize hAe : va_A [(h, .inl (cJ, n, .inr (.inl f)))] s.heap.size = A at hD ⊢
  have hA : ∀ q : Nat, s.heap.size ≤ q → A q := fun q h => by rw [← hAe]; exact Or.inr h
  have hS : va_S A s.heap s.heap [] := va_S.rf
  have hl := lv_entry ([.ref h, .long v]) (n := 5) (Nat.le_of_ble_eq_true rfl)
  rw [lg_entry_eq]
  generalize (lg_sl ([.ref h, .long v]) ++ List.replicate (5 - (lg_sl ([.ref h, .long v])).length) Slot.unset).toArray = ls at hl ⊢
  have hl : lv_has ls 5 [(0, .ref h), (1, .long v)] := hl
  refine lv_iconst (v := 0) hx hb d_AR_filll_0 (by decide) ?_
  refine lv_istore_n hx hb d_AR_filll_1 rfl hl (by decide) rfl (fun ls hl => ?_)
  have hl : lv_has ls 5 [(3, .int 0), (0, .ref h), (1, .long v)] := hl
  refine lv_aload_n hx hb d_AR_filll_2 rfl (lv_at hl 1 rfl) ?_
  refine va_alen (v := nI n) hx hb hK hP 0 1 rfl rfl rfl d_AR_filll_3 ?_
  refine lv_istore hx hb d_AR_filll_4 hl (by decide) rfl (fun ls hl => ?_)
  have hl : lv_has ls 5 [(4, .int (nI n)), (3, .int 0), (0, .ref h), (1, .long v)] := hl
  refine lo_AR_filll D cI cJ cZ cP cS h n v f hx hb hml hown hok hK hA hn (fun ls H locs hl hP hD hS => ?_) (n - 0) 0 ls _ _ (by omega) (by omega) (lv_sub hl [2, 3, 1, 0] rfl) hP hD hS
  exact W.vret hx hb hr (fun t ht _ => ⟨⟨rfl, by rw [ht]; exact hP, hD⟩, hS.F ht⟩) hS.2.2 d_AR_filll_22
abbrev ro_ST_enter : Room := { frames := 1, cells := 0, slots := 0, locals := 23 }
set_option maxHeartbeats 4000000 in
set_option maxRecDepth 100000 in
theorem m_ST_enter (l : Launch) (D : va_G) (cI cJ cZ cP cS : ClassId) (h aps asf aex : Nat) (pg np : Int32) (y : Int32) (ex : Nat → Int32) (sz : Nat) : Met l y_ST_enter [Cond.code y_ST_enter b_ST_enter 2 none] ro_ST_enter (va_Pc [.ref h, .int y] (fun U => U.heap.size = sz ∧ tb_ok U ∧ va_P D cls [(h, .inr (7, [.int pg, .ref aps, .ref asf, .int np, .ref aex])), (aex, .inl (cI, 6, .inl ex))] U.heap ∧ va_K D cls (tyl cI cJ cZ cP cS) U ∧ va_D (fun _ => True) [(h, .inr (7, [.int pg, .ref aps, .ref asf, .int np, .ref aex])), (aex, .inl (cI, 6, .inl ex))])) (zv none D [(h, .inr (7, [.int y, .ref aps, .ref asf, .int np, .ref aex])), (aex, .inl (cI, 6, .inl (zfl ex 0 6)))] (va_A [(h, .inr (7, [.int pg, .ref aps, .ref asf, .int np, .ref aex])), (aex, .inl (cI, 6, .inl ex))] sz)) 0 0 (va_A [(h, .inr (7, [.int pg, .ref aps, .ref asf, .int np, .ref aex])), (aex, .inl (cI, 6, .inl ex))] sz) := by
  refine Met.ofW (cc := b_ST_enter) (maxL := 2) (ret := none) (by decide +kernel) rfl ?_
  intro p e s m args below meth c s₁ B hml hv
  obtain ⟨rfl, hsz, hok, hP, hK, hD0⟩ := hv
  have hx := B.exec
  have hb := B.bytes
  have hr := B.returns
  have hown : s.vm.findClass "StudyAudit$Student" = some m.cls := findClass_of_methodNamed B.named
  have hlocks := B.notSynchronized
  subst hsz
  have hD := hD0.self (sz := s.heap.size)
  generalize hAe : va_A [(h, .inr (7, [.int pg, .ref aps, .ref asf, .int np, .ref aex])), (aex, .inl (cI, 6, .inl ex))] s.heap.size = A at hD ⊢
  have hA : ∀ q : Nat, s.heap.size ≤ q → A q := fun q h => by rw [← hAe]; exact Or.inr h
  have hS : va_S A s.heap s.heap [] := va_S.rf
  have hl := lv_entry ([.ref h, .int y]) (n := 2) (Nat.le_of_ble_eq_true rfl)
  rw [lg_entry_eq]
  generalize (lg_sl ([.ref h, .int y]) ++ List.replicate (2 - (lg_sl ([.ref h, .int y])).length) Slot.unset).toArray = ls at hl ⊢
  have hl : lv_has ls 2 [(0, .ref h), (1, .int y)] := hl
  refine lv_aload_n hx hb d_ST_enter_0 rfl (lv_at hl 0 rfl) ?_
  refine lv_iload_n hx hb d_ST_enter_1 rfl (lv_at hl 1 rfl) ?_
  refine va_put (D := D) (ci := 7) (v := .int y) (ty := .int) (C := R_ST) (T := F_ST) (N := 5) hx hb (tb_in hok in_ST) (fun w h => h) g_ST g_ST_ok n_ST hown hK hP hD hS 0 rfl rfl 0 (by decide) (hok _ t_104 rfl _) (fun _ h9 => h9) rfl (by decide +kernel) rfl rfl (Nat.le_of_ble_eq_true rfl) d_ST_enter_2 (fun H locs hP hD hS => ?_)
  have hP : va_P D cls [(h, .inr (7, [.int y, .ref aps, .ref asf, .int np, .ref aex])), (aex, .inl (cI, 6, .inl ex))] H := hP
  have hD : va_D A [(h, .inr (7, [.int y, .ref aps, .ref asf, .int np, .ref aex])), (aex, .inl (cI, 6, .inl ex))] := hD
  refine lv_aload_n hx hb d_ST_enter_5 rfl (lv_at hl 0 rfl) ?_
  refine va_get (D := D) (ci := 7) (v := .ref aex) (C := R_ST) (T := F_ST) (N := 5) hx hb (tb_in hok in_ST) (fun w h => h) hown hK hP 0 rfl rfl 4 (by decide) (hok _ t_113 rfl _) (fun _ h9 => h9) rfl d_ST_enter_6 ?_
  refine lv_iconst (v := 0) hx hb d_ST_enter_9 (by decide) ?_
  refine zc_write (wc := [(aex, .inl (cI, 6, .inl ex))]) (wc1 := [(aex, .inl (cI, 6, .inl (zfl ex 0 6)))]) (wr := [(h, .inr (7, [.int y, .ref aps, .ref asf, .int np, .ref aex]))]) (ws1 := [(h, .inr (7, [.int y, .ref aps, .ref asf, .int np, .ref aex])), (aex, .inl (cI, 6, .inl (zfl ex 0 6)))]) (va_runS (Ts := []) (As := [.ref aex, .int 0]) (rest := []) ⟨hx, hb, hml, hown, fun _ h => absurd h List.not_mem_nil⟩ (m_AR_filli l D cI cJ cZ cP cS aex 6 0 ex (by omega) _) ⟨zc_B 2 hok c_AR_filli_w t_5 t_101 rfl rfl (by decide +kernel) ⟨Nat.le_of_ble_eq_true rfl, Nat.le_of_ble_eq_true rfl⟩, hok _ t_102 rfl _⟩ ⟨fun a U g mk q => by obtain ⟨q0, q1, q2, qP, qK, qD⟩ := q; exact ⟨q0, q1, q2.call g mk a, qP, va_K.moved (u := U) (U := U.calling g mk a) (Vm.Alike.refl U.vm) qK, qD⟩, fun U hU hW => ⟨rfl, by rw [hU], hok.warm hW, by rw [hU]; exact hP.sub [1] rfl, va_K.moved hW.alike hK, (hD.sub [1] (by decide) rfl).weaken (fun _ _ _ _ => trivial)⟩⟩ rfl rfl hl.1 rfl (lv_room (Nat.le_of_ble_eq_true rfl)) d_ST_enter_10 ⟨Nat.le_of_ble_eq_true rfl, Nat.le_of_ble_eq_true rfl⟩) hS hP hD hA [1] [0] [0, 1] rfl rfl (by decide) (by decide) rfl rfl (by decide) (fun H locs hP hD hS => ?_)
  refine W.eq (g2 := F0 m 13 ls []) rfl ?_
  exact W.vret hx hb hr (fun t ht _ => ⟨⟨rfl, by rw [ht]; exact hP, hD⟩, hS.F ht⟩) hS.2.2 d_ST_enter_13
