/-! leaves: bits, Math, Integer (rows by program) -/
set_option maxHeartbeats 4000000 in
set_option maxRecDepth 100000 in
theorem m_SA_with (l : Launch) (a b : Int32) : Met l y_SA_with [Cond.code y_SA_with b_SA_with 2 (some .int)] rm_0 (va_Pc [.int a, .int b] (fun U => True)) (zq (some (.int (a ||| (1 <<< (b &&& 31)))))) 0 0 (fun _ => False) := by
  refine Met.ofW (cc := b_SA_with) (maxL := 2) (ret := (some .int)) (by decide +kernel) rfl ?_
  intro p e s m args below meth c s₁ B hml hv
  obtain ⟨rfl, -⟩ := hv
  have hx := B.exec
  have hb := B.bytes
  have hr := B.returns
  have hown : s.vm.findClass "StudyAudit" = some m.cls := findClass_of_methodNamed B.named
  have hlocks := B.notSynchronized
  have hl := lv_entry ([.int a, .int b]) (n := 2) (Nat.le_of_ble_eq_true rfl)
  rw [lg_entry_eq]
  generalize (lg_sl ([.int a, .int b]) ++ List.replicate (2 - (lg_sl ([.int a, .int b])).length) Slot.unset).toArray = ls at hl ⊢
  have hl : lv_has ls 2 [(0, .int a), (1, .int b)] := hl
  refine lv_iload_n hx hb d_SA_with_0 rfl (lv_at hl 0 rfl) ?_
  refine lv_iconst (v := 1) hx hb d_SA_with_1 (by decide) ?_
  refine lv_iload_n hx hb d_SA_with_2 rfl (lv_at hl 1 rfl) ?_
  refine lv_ishl hx hb d_SA_with_3 ?_
  refine lv_ior hx hb d_SA_with_4 ?_
  exact W.iret hx hb hr (fun t ht _ => ⟨rfl, ht⟩) (fun q h => by cases h) d_SA_with_5
set_option maxHeartbeats 4000000 in
set_option maxRecDepth 100000 in
theorem m_SA_without (l : Launch) (a b : Int32) : Met l y_SA_without [Cond.code y_SA_without b_SA_without 2 (some .int)] rm_0 (va_Pc [.int a, .int b] (fun U => True)) (zq (some (.int (a &&& ((1 <<< (b &&& 31)) ^^^ (-1)))))) 0 0 (fun _ => False) := by
  refine Met.ofW (cc := b_SA_without) (maxL := 2) (ret := (some .int)) (by decide +kernel) rfl ?_
  intro p e s m args below meth c s₁ B hml hv
  obtain ⟨rfl, -⟩ := hv
  have hx := B.exec
  have hb := B.bytes
  have hr := B.returns
  have hown : s.vm.findClass "StudyAudit" = some m.cls := findClass_of_methodNamed B.named
  have hlocks := B.notSynchronized
  have hl := lv_entry ([.int a, .int b]) (n := 2) (Nat.le_of_ble_eq_true rfl)
  rw [lg_entry_eq]
  generalize (lg_sl ([.int a, .int b]) ++ List.replicate (2 - (lg_sl ([.int a, .int b])).length) Slot.unset).toArray = ls at hl ⊢
  have hl : lv_has ls 2 [(0, .int a), (1, .int b)] := hl
  refine lv_iload_n hx hb d_SA_without_0 rfl (lv_at hl 0 rfl) ?_
  refine lv_iconst (v := 1) hx hb d_SA_without_1 (by decide) ?_
  refine lv_iload_n hx hb d_SA_without_2 rfl (lv_at hl 1 rfl) ?_
  refine lv_ishl hx hb d_SA_without_3 ?_
  refine lv_iconst (v := (-1)) hx hb d_SA_without_4 (by decide) ?_
  refine lv_ixor hx hb d_SA_without_5 ?_
  refine lv_iand hx hb d_SA_without_6 ?_
  exact W.iret hx hb hr (fun t ht _ => ⟨rfl, ht⟩) (fun q h => by cases h) d_SA_without_7
def zb (x : Bool) : Int32 := if x = true then 1 else 0
def zh (a b : Int32) : Bool := decide (¬ ((a >>> (b &&& 31)) &&& 1) = 0)
set_option maxHeartbeats 4000000 in
set_option maxRecDepth 100000 in
theorem m_SA_has (l : Launch) (a b : Int32) : Met l y_SA_has [Cond.code y_SA_has b_SA_has 2 (some .boolean)] rm_0 (va_Pc [.int a, .int b] (fun U => True)) (zq (some (.int (zb (zh a b))))) 0 0 (fun _ => False) := by
  refine Met.ofW (cc := b_SA_has) (maxL := 2) (ret := (some .boolean)) (by decide +kernel) rfl ?_
  intro p e s m args below meth c s₁ B hml hv
  obtain ⟨rfl, -⟩ := hv
  have hx := B.exec
  have hb := B.bytes
  have hr := B.returns
  have hown : s.vm.findClass "StudyAudit" = some m.cls := findClass_of_methodNamed B.named
  have hlocks := B.notSynchronized
  have hl := lv_entry ([.int a, .int b]) (n := 2) (Nat.le_of_ble_eq_true rfl)
  rw [lg_entry_eq]
  generalize (lg_sl ([.int a, .int b]) ++ List.replicate (2 - (lg_sl ([.int a, .int b])).length) Slot.unset).toArray = ls at hl ⊢
  have hl : lv_has ls 2 [(0, .int a), (1, .int b)] := hl
  refine lv_iload_n hx hb d_SA_has_0 rfl (lv_at hl 0 rfl) ?_
  refine lv_iload_n hx hb d_SA_has_1 rfl (lv_at hl 1 rfl) ?_
  refine lv_ishr hx hb d_SA_has_2 ?_
  refine lv_iconst (v := 1) hx hb d_SA_has_3 (by decide) ?_
  refine lv_iand hx hb d_SA_has_4 ?_
  refine lv_if_eq (tgt := 12) hx hb d_SA_has_5 (by decide) (fun h5 => ?_) (fun h5 => ?_)
  · refine lv_iconst (v := 0) hx hb d_SA_has_12 (by decide) ?_
    exact W.zret hx hb hr (by decide) (fun t ht _ => ⟨by rw [show zh a b = false from decide_eq_false (fun z => z h5)]; rfl, ht⟩) (fun q h => by cases h) d_SA_has_13
  · refine lv_iconst (v := 1) hx hb d_SA_has_8 (by decide) ?_
    refine lv_goto (tgt := 13) hx hb d_SA_has_9 (by decide) ?_
    exact W.zret hx hb hr (by decide) (fun t ht _ => ⟨by rw [show zh a b = true from decide_eq_true h5]; rfl, ht⟩) (fun q h => by cases h) d_SA_has_13
def zmax (a b : Int32) : Int32 := if a < b then b else a
def zmin (a b : Int32) : Int32 := if b < a then b else a
set_option maxHeartbeats 4000000 in
set_option maxRecDepth 100000 in
theorem m_MA_max (l : Launch) (a b : Int32) : Met l y_MA_max [Cond.code y_MA_max b_MA_max 2 (some .int)] rm_0 (va_Pc [.int a, .int b] (fun U => True)) (zq (some (.int (zmax a b)))) 0 0 (fun _ => False) := by
  refine va_MetF (cc := b_MA_max) (maxL := 2) (ret := (some .int)) (by decide +kernel) rfl ?_
  intro p e s m args below meth c s₁ B hml hv
  obtain ⟨rfl, -⟩ := hv
  have hx := B.exec
  have hb := B.bytes
  have hr := B.returns
  have hown : s.vm.findClass "java/lang/Math" = some m.cls := findClass_of_methodNamed B.named
  have hlocks := B.notSynchronized
  have hl := lv_entry ([.int a, .int b]) (n := 2) (Nat.le_of_ble_eq_true rfl)
  rw [lg_entry_eq]
  generalize (lg_sl ([.int a, .int b]) ++ List.replicate (2 - (lg_sl ([.int a, .int b])).length) Slot.unset).toArray = ls at hl ⊢
  have hl : lv_has ls 2 [(0, .int a), (1, .int b)] := hl
  refine lv_iload_n hx hb d_MA_max_0 rfl (lv_at hl 0 rfl) ?_
  refine lv_iload_n hx hb d_MA_max_1 rfl (lv_at hl 1 rfl) ?_
  refine lv_icmp_lt (tgt := 9) hx hb d_MA_max_2 (by decide) (fun h2 => ?_) (fun h2 => ?_)
  · refine lv_iload_n hx hb d_MA_max_9 rfl (lv_at hl 1 rfl) ?_
    exact W.iret hx hb hr (fun t ht _ => ⟨by unfold zmax; rw [if_pos h2], ht⟩) (fun q h => by cases h) d_MA_max_10
  · refine lv_iload_n hx hb d_MA_max_5 rfl (lv_at hl 0 rfl) ?_
    refine lv_goto (tgt := 10) hx hb d_MA_max_6 (by decide) ?_
    exact W.iret hx hb hr (fun t ht _ => ⟨by unfold zmax; rw [if_neg h2], ht⟩) (fun q h => by cases h) d_MA_max_10
set_option maxHeartbeats 4000000 in
set_option maxRecDepth 100000 in
theorem m_MA_min (l : Launch) (a b : Int32) : Met l y_MA_min [Cond.code y_MA_min b_MA_min 2 (some .int)] rm_0 (va_Pc [.int a, .int b] (fun U => True)) (zq (some (.int (zmin a b)))) 0 0 (fun _ => False) := by
  refine va_MetF (cc := b_MA_min) (maxL := 2) (ret := (some .int)) (by decide +kernel) rfl ?_
  intro p e s m args below meth c s₁ B hml hv
  obtain ⟨rfl, -⟩ := hv
  have hx := B.exec
  have hb := B.bytes
  have hr := B.returns
  have hown : s.vm.findClass "java/lang/Math" = some m.cls := findClass_of_methodNamed B.named
  have hlocks := B.notSynchronized
  have hl := lv_entry ([.int a, .int b]) (n := 2) (Nat.le_of_ble_eq_true rfl)
  rw [lg_entry_eq]
  generalize (lg_sl ([.int a, .int b]) ++ List.replicate (2 - (lg_sl ([.int a, .int b])).length) Slot.unset).toArray = ls at hl ⊢
  have hl : lv_has ls 2 [(0, .int a), (1, .int b)] := hl
  refine lv_iload_n hx hb d_MA_min_0 rfl (lv_at hl 0 rfl) ?_
  refine lv_iload_n hx hb d_MA_min_1 rfl (lv_at hl 1 rfl) ?_
  refine lv_icmp_gt (tgt := 9) hx hb d_MA_min_2 (by decide) (fun h2 => ?_) (fun h2 => ?_)
  · refine lv_iload_n hx hb d_MA_min_9 rfl (lv_at hl 1 rfl) ?_
    exact W.iret hx hb hr (fun t ht _ => ⟨by unfold zmin; rw [if_pos h2], ht⟩) (fun q h => by cases h) d_MA_min_10
  · refine lv_iload_n hx hb d_MA_min_5 rfl (lv_at hl 0 rfl) ?_
    refine lv_goto (tgt := 10) hx hb d_MA_min_6 (by decide) ?_
    exact W.iret hx hb hr (fun t ht _ => ⟨by unfold zmin; rw [if_neg h2], ht⟩) (fun q h => by cases h) d_MA_min_10
