/-! the reference: small readers (rows by program) -/
abbrev ro_MO_thrown : Room := { frames := 0, cells := 0, slots := 0, locals := 0 }
set_option maxHeartbeats 4000000 in
set_option maxRecDepth 100000 in
theorem m_MO_thrown (l : Launch) (D : va_G) (cI cJ cZ cP cS : ClassId) (h : Nat) (b : Nat → Nat) (th : Int32) (G C : Nat) (hs : Bool) : Met l y_MO_thrown [Cond.code y_MO_thrown b_MO_thrown 1 (some .int)] ro_MO_thrown (va_Pc [.ref h] (fun U => tb_ok U ∧ va_P D cls [(h, .inr (8, [.int th, .int (nI G), .ref (b 0), .ref (b 1), .int (nI C), .ref (b 2), .ref (b 3), .ref (b 4), .ref (b 5), .ref (b 6), .ref (b 7), .ref (b 8), .ref (b 9), .ref (b 10), .ref (b 11), .ref (b 12), .ref (b 13), .ref (b 14), .ref (b 15), .ref (b 16), .ref (b 17), .ref (b 18), .int (zb hs), .ref (b 19), .ref (b 20)]))] U.heap ∧ va_K D cls (tyl cI cJ cZ cP cS) U)) (zq (some (.int th))) 0 0 (fun _ => False) := by
  refine Met.ofW (cc := b_MO_thrown) (maxL := 1) (ret := (some .int)) (by decide +kernel) rfl ?_
  intro p e s m args below meth c s₁ B hml hv
  obtain ⟨rfl, hok, hP, hK⟩ := hv
  have hx := B.exec
  have hb := B.bytes
  have hr := B.returns
  have hown : s.vm.findClass "StudyAuditModel" = some m.cls := findClass_of_methodNamed B.named
  have hlocks := B.notSynchronized
  have hl := lv_entry ([.ref h]) (n := 1) (Nat.le_of_ble_eq_true rfl)
  rw [lg_entry_eq]
  generalize (lg_sl ([.ref h]) ++ List.replicate (1 - (lg_sl ([.ref h])).length) Slot.unset).toArray = ls at hl ⊢
  have hl : lv_has ls 1 [(0, .ref h)] := hl
  refine lv_aload_n hx hb d_MO_thrown_0 rfl (lv_at hl 0 rfl) ?_
  refine va_get (D := D) (ci := 8) (v := .int th) (C := R_MO) (T := F_MO) (N := 25) hx hb (tb_in hok in_MO) (fun w h => h) hown hK hP 0 rfl rfl 0 (by decide) (hok _ t_705 rfl _) (fun _ h9 => h9) rfl d_MO_thrown_1 ?_
  exact W.iret hx hb hr (fun t ht _ => ⟨rfl, ht⟩) (fun q h => by cases h) d_MO_thrown_4
def yng (G : Nat) (x : Int32) : Bool := decide (x < 0 ∨ ¬ x < nI G)
def ynp (x : Int32) : Bool := decide (x < 0 ∨ ¬ x ≤ 2)
def yns (x : Int32) : Bool := decide (x < 0 ∨ ¬ x ≤ 3)
abbrev ro_MO_noGroup : Room := { frames := 0, cells := 0, slots := 0, locals := 0 }
set_option maxHeartbeats 4000000 in
set_option maxRecDepth 100000 in
theorem m_MO_noGroup (l : Launch) (D : va_G) (cI cJ cZ cP cS : ClassId) (h : Nat) (b : Nat → Nat) (th : Int32) (G C : Nat) (hs : Bool) (x : Int32) : Met l y_MO_noGroup [Cond.code y_MO_noGroup b_MO_noGroup 2 (some .boolean)] ro_MO_noGroup (va_Pc [.ref h, .int x] (fun U => tb_ok U ∧ va_P D cls [(h, .inr (8, [.int th, .int (nI G), .ref (b 0), .ref (b 1), .int (nI C), .ref (b 2), .ref (b 3), .ref (b 4), .ref (b 5), .ref (b 6), .ref (b 7), .ref (b 8), .ref (b 9), .ref (b 10), .ref (b 11), .ref (b 12), .ref (b 13), .ref (b 14), .ref (b 15), .ref (b 16), .ref (b 17), .ref (b 18), .int (zb hs), .ref (b 19), .ref (b 20)]))] U.heap ∧ va_K D cls (tyl cI cJ cZ cP cS) U)) (zq (some (.int (zb (yng G x))))) 0 0 (fun _ => False) := by
  refine Met.ofW (cc := b_MO_noGroup) (maxL := 2) (ret := (some .boolean)) (by decide +kernel) rfl ?_
  intro p e s m args below meth c s₁ B hml hv
  obtain ⟨rfl, hok, hP, hK⟩ := hv
  have hx := B.exec
  have hb := B.bytes
  have hr := B.returns
  have hown : s.vm.findClass "StudyAuditModel" = some m.cls := findClass_of_methodNamed B.named
  have hlocks := B.notSynchronized
  have hl := lv_entry ([.ref h, .int x]) (n := 2) (Nat.le_of_ble_eq_true rfl)
  rw [lg_entry_eq]
  generalize (lg_sl ([.ref h, .int x]) ++ List.replicate (2 - (lg_sl ([.ref h, .int x])).length) Slot.unset).toArray = ls at hl ⊢
  have hl : lv_has ls 2 [(0, .ref h), (1, .int x)] := hl
  refine lv_iload_n hx hb d_MO_noGroup_0 rfl (lv_at hl 1 rfl) ?_
  refine lv_if_lt (tgt := 12) hx hb d_MO_noGroup_1 (by decide) (fun h1 => ?_) (fun h1 => ?_)
  · refine lv_iconst (v := 1) hx hb d_MO_noGroup_12 (by decide) ?_
    refine lv_goto (tgt := 17) hx hb d_MO_noGroup_13 (by decide) ?_
    exact W.zret hx hb hr (by decide) (fun t ht _ => ⟨by simp [zb, yng, h1], ht⟩) (fun q h => by cases h) d_MO_noGroup_17
  · refine lv_iload_n hx hb d_MO_noGroup_4 rfl (lv_at hl 1 rfl) ?_
    refine lv_aload_n hx hb d_MO_noGroup_5 rfl (lv_at hl 0 rfl) ?_
    refine va_get (D := D) (ci := 8) (v := .int (nI G)) (C := R_MO) (T := F_MO) (N := 25) hx hb (tb_in hok in_MO) (fun w h => h) hown hK hP 0 rfl rfl 1 (by decide) (hok _ t_706 rfl _) (fun _ h9 => h9) rfl d_MO_noGroup_6 ?_
    refine lv_icmp_lt (tgt := 16) hx hb d_MO_noGroup_9 (by decide) (fun h9 => ?_) (fun h9 => ?_)
    · refine lv_iconst (v := 0) hx hb d_MO_noGroup_16 (by decide) ?_
      exact W.zret hx hb hr (by decide) (fun t ht _ => ⟨by simp [zb, yng, h1, h9], ht⟩) (fun q h => by cases h) d_MO_noGroup_17
    · refine lv_iconst (v := 1) hx hb d_MO_noGroup_12 (by decide) ?_
      refine lv_goto (tgt := 17) hx hb d_MO_noGroup_13 (by decide) ?_
      exact W.zret hx hb hr (by decide) (fun t ht _ => ⟨by simp [zb, yng, h1, h9], ht⟩) (fun q h => by cases h) d_MO_noGroup_17
abbrev ro_MO_noCourse : Room := { frames := 0, cells := 0, slots := 0, locals := 0 }
set_option maxHeartbeats 4000000 in
set_option maxRecDepth 100000 in
theorem m_MO_noCourse (l : Launch) (D : va_G) (cI cJ cZ cP cS : ClassId) (h : Nat) (b : Nat → Nat) (th : Int32) (G C : Nat) (hs : Bool) (x : Int32) : Met l y_MO_noCourse [Cond.code y_MO_noCourse b_MO_noCourse 2 (some .boolean)] ro_MO_noCourse (va_Pc [.ref h, .int x] (fun U => tb_ok U ∧ va_P D cls [(h, .inr (8, [.int th, .int (nI G), .ref (b 0), .ref (b 1), .int (nI C), .ref (b 2), .ref (b 3), .ref (b 4), .ref (b 5), .ref (b 6), .ref (b 7), .ref (b 8), .ref (b 9), .ref (b 10), .ref (b 11), .ref (b 12), .ref (b 13), .ref (b 14), .ref (b 15), .ref (b 16), .ref (b 17), .ref (b 18), .int (zb hs), .ref (b 19), .ref (b 20)]))] U.heap ∧ va_K D cls (tyl cI cJ cZ cP cS) U)) (zq (some (.int (zb (yng C x))))) 0 0 (fun _ => False) := by
  refine Met.ofW (cc := b_MO_noCourse) (maxL := 2) (ret := (some .boolean)) (by decide +kernel) rfl ?_
  intro p e s m args below meth c s₁ B hml hv
  obtain ⟨rfl, hok, hP, hK⟩ := hv
  have hx := B.exec
  have hb := B.bytes
  have hr := B.returns
  have hown : s.vm.findClass "StudyAuditModel" = some m.cls := findClass_of_methodNamed B.named
  have hlocks := B.notSynchronized
  have hl := lv_entry ([.ref h, .int x]) (n := 2) (Nat.le_of_ble_eq_true rfl)
  rw [lg_entry_eq]
  generalize (lg_sl ([.ref h, .int x]) ++ List.replicate (2 - (lg_sl ([.ref h, .int x])).length) Slot.unset).toArray = ls at hl ⊢
  have hl : lv_has ls 2 [(0, .ref h), (1, .int x)] := hl
  refine lv_iload_n hx hb d_MO_noCourse_0 rfl (lv_at hl 1 rfl) ?_
  refine lv_if_lt (tgt := 12) hx hb d_MO_noCourse_1 (by decide) (fun h1 => ?_) (fun h1 => ?_)
  · refine lv_iconst (v := 1) hx hb d_MO_noCourse_12 (by decide) ?_
    refine lv_goto (tgt := 17) hx hb d_MO_noCourse_13 (by decide) ?_
    exact W.zret hx hb hr (by decide) (fun t ht _ => ⟨by simp [zb, yng, h1], ht⟩) (fun q h => by cases h) d_MO_noCourse_17
  · refine lv_iload_n hx hb d_MO_noCourse_4 rfl (lv_at hl 1 rfl) ?_
    refine lv_aload_n hx hb d_MO_noCourse_5 rfl (lv_at hl 0 rfl) ?_
    refine va_get (D := D) (ci := 8) (v := .int (nI C)) (C := R_MO) (T := F_MO) (N := 25) hx hb (tb_in hok in_MO) (fun w h => h) hown hK hP 0 rfl rfl 4 (by decide) (hok _ t_709 rfl _) (fun _ h9 => h9) rfl d_MO_noCourse_6 ?_
    refine lv_icmp_lt (tgt := 16) hx hb d_MO_noCourse_9 (by decide) (fun h9 => ?_) (fun h9 => ?_)
    · refine lv_iconst (v := 0) hx hb d_MO_noCourse_16 (by decide) ?_
      exact W.zret hx hb hr (by decide) (fun t ht _ => ⟨by simp [zb, yng, h1, h9], ht⟩) (fun q h => by cases h) d_MO_noCourse_17
    · refine lv_iconst (v := 1) hx hb d_MO_noCourse_12 (by decide) ?_
      refine lv_goto (tgt := 17) hx hb d_MO_noCourse_13 (by decide) ?_
      exact W.zret hx hb hr (by decide) (fun t ht _ => ⟨by simp [zb, yng, h1, h9], ht⟩) (fun q h => by cases h) d_MO_noCourse_17
abbrev ro_MO_noProgramme : Room := { frames := 0, cells := 0, slots := 0, locals := 0 }
set_option maxHeartbeats 4000000 in
set_option maxRecDepth 100000 in
theorem m_MO_noProgramme (l : Launch) (x : Int32) : Met l y_MO_noProgramme [Cond.code y_MO_noProgramme b_MO_noProgramme 1 (some .boolean)] ro_MO_noProgramme (va_Pc [.int x] (fun U => tb_ok U)) (zq (some (.int (zb (ynp x))))) 0 0 (fun _ => False) := by
  refine Met.ofW (cc := b_MO_noProgramme) (maxL := 1) (ret := (some .boolean)) (by decide +kernel) rfl ?_
  intro p e s m args below meth c s₁ B hml hv
  obtain ⟨rfl, hok⟩ := hv
  have hx := B.exec
  have hb := B.bytes
  have hr := B.returns
  have hown : s.vm.findClass "StudyAuditModel" = some m.cls := findClass_of_methodNamed B.named
  have hlocks := B.notSynchronized
  have hl := lv_entry ([.int x]) (n := 1) (Nat.le_of_ble_eq_true rfl)
  rw [lg_entry_eq]
  generalize (lg_sl ([.int x]) ++ List.replicate (1 - (lg_sl ([.int x])).length) Slot.unset).toArray = ls at hl ⊢
  have hl : lv_has ls 1 [(0, .int x)] := hl
  refine lv_iload_n hx hb d_MO_noProgramme_0 rfl (lv_at hl 0 rfl) ?_
  refine lv_if_lt (tgt := 9) hx hb d_MO_noProgramme_1 (by decide) (fun h1 => ?_) (fun h1 => ?_)
  · refine lv_iconst (v := 1) hx hb d_MO_noProgramme_9 (by decide) ?_
    refine lv_goto (tgt := 14) hx hb d_MO_noProgramme_10 (by decide) ?_
    exact W.zret hx hb hr (by decide) (fun t ht _ => ⟨by simp [zb, ynp, h1], ht⟩) (fun q h => by cases h) d_MO_noProgramme_14
  · refine lv_iload_n hx hb d_MO_noProgramme_4 rfl (lv_at hl 0 rfl) ?_
    refine lv_iconst (v := 2) hx hb d_MO_noProgramme_5 (by decide) ?_
    refine lv_icmp_le (tgt := 13) hx hb d_MO_noProgramme_6 (by decide) (fun h6 => ?_) (fun h6 => ?_)
    · refine lv_iconst (v := 0) hx hb d_MO_noProgramme_13 (by decide) ?_
      exact W.zret hx hb hr (by decide) (fun t ht _ => ⟨by simp [zb, ynp, h1, h6], ht⟩) (fun q h => by cases h) d_MO_noProgramme_14
    · refine lv_iconst (v := 1) hx hb d_MO_noProgramme_9 (by decide) ?_
      refine lv_goto (tgt := 14) hx hb d_MO_noProgramme_10 (by decide) ?_
      exact W.zret hx hb hr (by decide) (fun t ht _ => ⟨by simp [zb, ynp, h1, h6], ht⟩) (fun q h => by cases h) d_MO_noProgramme_14
abbrev ro_MO_noStudent : Room := { frames := 0, cells := 0, slots := 0, locals := 0 }
set_option maxHeartbeats 4000000 in
set_option maxRecDepth 100000 in
theorem m_MO_noStudent (l : Launch) (x : Int32) : Met l y_MO_noStudent [Cond.code y_MO_noStudent b_MO_noStudent 1 (some .boolean)] ro_MO_noStudent (va_Pc [.int x] (fun U => tb_ok U)) (zq (some (.int (zb (yns x))))) 0 0 (fun _ => False) := by
  refine Met.ofW (cc := b_MO_noStudent) (maxL := 1) (ret := (some .boolean)) (by decide +kernel) rfl ?_
  intro p e s m args below meth c s₁ B hml hv
  obtain ⟨rfl, hok⟩ := hv
  have hx := B.exec
  have hb := B.bytes
  have hr := B.returns
  have hown : s.vm.findClass "StudyAuditModel" = some m.cls := findClass_of_methodNamed B.named
  have hlocks := B.notSynchronized
  have hl := lv_entry ([.int x]) (n := 1) (Nat.le_of_ble_eq_true rfl)
  rw [lg_entry_eq]
  generalize (lg_sl ([.int x]) ++ List.replicate (1 - (lg_sl ([.int x])).length) Slot.unset).toArray = ls at hl ⊢
  have hl : lv_has ls 1 [(0, .int x)] := hl
  refine lv_iload_n hx hb d_MO_noStudent_0 rfl (lv_at hl 0 rfl) ?_
  refine lv_if_lt (tgt := 9) hx hb d_MO_noStudent_1 (by decide) (fun h1 => ?_) (fun h1 => ?_)
  · refine lv_iconst (v := 1) hx hb d_MO_noStudent_9 (by decide) ?_
    refine lv_goto (tgt := 14) hx hb d_MO_noStudent_10 (by decide) ?_
    exact W.zret hx hb hr (by decide) (fun t ht _ => ⟨by simp [zb, yns, h1], ht⟩) (fun q h => by cases h) d_MO_noStudent_14
  · refine lv_iload_n hx hb d_MO_noStudent_4 rfl (lv_at hl 0 rfl) ?_
    refine lv_iconst (v := 3) hx hb d_MO_noStudent_5 (by decide) ?_
    refine lv_icmp_le (tgt := 13) hx hb d_MO_noStudent_6 (by decide) (fun h6 => ?_) (fun h6 => ?_)
    · refine lv_iconst (v := 0) hx hb d_MO_noStudent_13 (by decide) ?_
      exact W.zret hx hb hr (by decide) (fun t ht _ => ⟨by simp [zb, yns, h1, h6], ht⟩) (fun q h => by cases h) d_MO_noStudent_14
    · refine lv_iconst (v := 1) hx hb d_MO_noStudent_9 (by decide) ?_
      refine lv_goto (tgt := 14) hx hb d_MO_noStudent_10 (by decide) ?_
      exact W.zret hx hb hr (by decide) (fun t ht _ => ⟨by simp [zb, yns, h1, h6], ht⟩) (fun q h => by cases h) d_MO_noStudent_14
theorem zb_0 {x : Bool} (h : zb x = 0) : x = false := by cases x with | false => rfl | true => exact absurd h (by decide)
theorem zb_1 {x : Bool} (h : ¬ zb x = 0) : x = true := by cases x with | true => rfl | false => exact absurd rfl h
theorem y_in {x : Int32} {n : Nat} (hn : n + 1 < 2 ^ 31) (h1 : ¬ x < 0) (h2 : x ≤ nI n) : vp_in x (n + 1) ∧ x = nI x.toNatClampNeg ∧ x.toNatClampNeg < n + 1 := zi_k hn ⟨h1, h2⟩
theorem ynp_in {x : Int32} (h : ynp x = false) : vp_in x 3 ∧ x = nI x.toNatClampNeg ∧ x.toNatClampNeg < 3 := by
  have h := of_decide_eq_false h
  rw [not_or] at h
  exact y_in (n := 2) (by omega) h.1 (Classical.not_not.mp h.2)
theorem yns_in {x : Int32} (h : yns x = false) : vp_in x 4 ∧ x = nI x.toNatClampNeg ∧ x.toNatClampNeg < 4 := by
  have h := of_decide_eq_false h
  rw [not_or] at h
  exact y_in (n := 3) (by omega) h.1 (Classical.not_not.mp h.2)
theorem yng_in {x : Int32} {n : Nat} (hn : n < 2 ^ 30) (h : yng n x = false) : vp_in x n ∧ x = nI x.toNatClampNeg ∧ x.toNatClampNeg < n := by
  have h := of_decide_eq_false h
  rw [not_or] at h
  obtain ⟨j, hj, rfl⟩ := nI_of h.1
  have h2 := (nI_ltI hj (by omega)).mp (Classical.not_not.mp h.2)
  rw [nI_clamp hj]
  exact ⟨vp_in_nI h2 (by omega), rfl, h2⟩
def ynr (rq : Nat → Nat) (x r : Int32) : Bool := decide (ynp x = true ∨ r < 1 ∨ ¬ r ≤ nI (rq x.toNatClampNeg))
abbrev ro_MO_noRequirement : Room := { frames := 1, cells := 0, slots := 0, locals := 20 }
set_option maxHeartbeats 4000000 in
set_option maxRecDepth 100000 in
theorem m_MO_noRequirement (l : Launch) (D : va_G) (cI cJ cZ cP cS : ClassId) (h : Nat) (b : Nat → Nat) (th : Int32) (G C : Nat) (hs : Bool) (x r : Int32) (rq : Nat → Nat) : Met l y_MO_noRequirement [Cond.code y_MO_noRequirement b_MO_noRequirement 3 (some .boolean)] ro_MO_noRequirement (va_Pc [.ref h, .int x, .int r] (fun U => tb_ok U ∧ va_P D cls [(h, .inr (8, [.int th, .int (nI G), .ref (b 0), .ref (b 1), .int (nI C), .ref (b 2), .ref (b 3), .ref (b 4), .ref (b 5), .ref (b 6), .ref (b 7), .ref (b 8), .ref (b 9), .ref (b 10), .ref (b 11), .ref (b 12), .ref (b 13), .ref (b 14), .ref (b 15), .ref (b 16), .ref (b 17), .ref (b 18), .int (zb hs), .ref (b 19), .ref (b 20)])), ((b 5), .inl (cI, 3, .inl (fun j => nI (rq j))))] U.heap ∧ va_K D cls (tyl cI cJ cZ cP cS) U)) (zq (some (.int (zb (ynr rq x r))))) 0 0 (fun _ => False) := by
  refine Met.ofW (cc := b_MO_noRequirement) (maxL := 3) (ret := (some .boolean)) (by decide +kernel) rfl ?_
  intro p e s m args below meth c s₁ B hml hv
  obtain ⟨rfl, hok, hP, hK⟩ := hv
  have hx := B.exec
  have hb := B.bytes
  have hr := B.returns
  have hown : s.vm.findClass "StudyAuditModel" = some m.cls := findClass_of_methodNamed B.named
  have hlocks := B.notSynchronized
  have hl := lv_entry ([.ref h, .int x, .int r]) (n := 3) (Nat.le_of_ble_eq_true rfl)
  rw [lg_entry_eq]
  generalize (lg_sl ([.ref h, .int x, .int r]) ++ List.replicate (3 - (lg_sl ([.ref h, .int x, .int r])).length) Slot.unset).toArray = ls at hl ⊢
  have hl : lv_has ls 3 [(0, .ref h), (1, .int x), (2, .int r)] := hl
  refine lv_iload_n hx hb d_MO_noRequirement_0 rfl (lv_at hl 1 rfl) ?_
  refine zc_read (va_runS (Ts := []) (As := [.int x]) (rest := []) ⟨hx, hb, hml, hown, fun _ h => absurd h List.not_mem_nil⟩ (m_MO_noProgramme l x) ⟨zc_B 1 hok c_MO_noProgramme_w t_10 t_814 rfl rfl (by decide +kernel) ⟨Nat.le_of_ble_eq_true rfl, Nat.le_of_ble_eq_true rfl⟩, hok _ t_815 rfl _⟩ ⟨fun a U g mk q => by obtain ⟨q0, q2⟩ := q; exact ⟨q0, q2.call g mk a⟩, fun U hU hW => ⟨rfl, hok.warm hW⟩⟩ rfl rfl hl.1 rfl (lv_room (Nat.le_of_ble_eq_true rfl)) d_MO_noRequirement_1 ⟨Nat.le_of_ble_eq_true rfl, Nat.le_of_ble_eq_true rfl⟩) ?_
  refine W.eq (g2 := F0 m 4 ls [.int (zb (ynp x))]) rfl ?_
  refine lv_if_ne (tgt := 22) hx hb d_MO_noRequirement_4 (by decide) (fun h4 => ?_) (fun h4 => ?_)
  · refine lv_iconst (v := 1) hx hb d_MO_noRequirement_22 (by decide) ?_
    refine lv_goto (tgt := 27) hx hb d_MO_noRequirement_23 (by decide) ?_
    exact W.zret hx hb hr (by decide) (fun t ht _ => ⟨by rw [show ynr rq x r = true from decide_eq_true (Or.inl (zb_1 h4))]; rfl, ht⟩) (fun q h => by cases h) d_MO_noRequirement_27
  · refine lv_iload_n hx hb d_MO_noRequirement_7 rfl (lv_at hl 2 rfl) ?_
    refine lv_iconst (v := 1) hx hb d_MO_noRequirement_8 (by decide) ?_
    refine lv_icmp_lt (tgt := 22) hx hb d_MO_noRequirement_9 (by decide) (fun h9 => ?_) (fun h9 => ?_)
    · refine lv_iconst (v := 1) hx hb d_MO_noRequirement_22 (by decide) ?_
      refine lv_goto (tgt := 27) hx hb d_MO_noRequirement_23 (by decide) ?_
      exact W.zret hx hb hr (by decide) (fun t ht _ => ⟨by rw [show ynr rq x r = true from decide_eq_true (Or.inr (Or.inl h9))]; rfl, ht⟩) (fun q h => by cases h) d_MO_noRequirement_27
    · have k4 := ynp_in (zb_0 h4)
      refine lv_iload_n hx hb d_MO_noRequirement_12 rfl (lv_at hl 2 rfl) ?_
      refine lv_aload_n hx hb d_MO_noRequirement_13 rfl (lv_at hl 0 rfl) ?_
      refine va_get (D := D) (ci := 8) (v := .ref (b 5)) (C := R_MO) (T := F_MO) (N := 25) hx hb (tb_in hok in_MO) (fun w h => h) hown hK hP 0 rfl rfl 8 (by decide) (hok _ t_713 rfl _) (fun _ h9 => h9) rfl d_MO_noRequirement_14 ?_
      refine lv_iload_n hx hb d_MO_noRequirement_17 rfl (lv_at hl 1 rfl) ?_
      refine va_iald hx hb hK hP 1 0 rfl rfl k4.1 d_MO_noRequirement_18 ?_
      refine lv_icmp_le (tgt := 26) hx hb d_MO_noRequirement_19 (by decide) (fun h19 => ?_) (fun h19 => ?_)
      · refine lv_iconst (v := 0) hx hb d_MO_noRequirement_26 (by decide) ?_
        exact W.zret hx hb hr (by decide) (fun t ht _ => ⟨by rw [show ynr rq x r = false from decide_eq_false (fun z => z.elim (fun z => by rw [zb_0 h4] at z; cases z) (fun z => z.elim h9 (fun z => z h19)))]; rfl, ht⟩) (fun q h => by cases h) d_MO_noRequirement_27
      · refine lv_iconst (v := 1) hx hb d_MO_noRequirement_22 (by decide) ?_
        refine lv_goto (tgt := 27) hx hb d_MO_noRequirement_23 (by decide) ?_
        exact W.zret hx hb hr (by decide) (fun t ht _ => ⟨by rw [show ynr rq x r = true from decide_eq_true (Or.inr (Or.inr h19))]; rfl, ht⟩) (fun q h => by cases h) d_MO_noRequirement_27
def yne (x : Int32) : Int32 := if 0 ≤ x then x else 0
abbrev ro_MO_need : Room := { frames := 0, cells := 0, slots := 0, locals := 0 }
set_option maxHeartbeats 4000000 in
set_option maxRecDepth 100000 in
theorem m_MO_need (l : Launch) (D : va_G) (cI cJ cZ cP cS : ClassId) (h : Nat) (b : Nat → Nat) (th : Int32) (G C : Nat) (hs : Bool) (s0 r p0 : Nat) (dm pg ex : Nat → Int32) (hs0 : s0 < 4) (hr6 : r < 6) (hp0 : p0 < 3) (hpg : pg s0 = nI p0) : Met l y_MO_need [Cond.code y_MO_need b_MO_need 4 (some .int)] ro_MO_need (va_Pc [.ref h, .int (nI s0), .int (nI r)] (fun U => tb_ok U ∧ va_P D cls [(h, .inr (8, [.int th, .int (nI G), .ref (b 0), .ref (b 1), .int (nI C), .ref (b 2), .ref (b 3), .ref (b 4), .ref (b 5), .ref (b 6), .ref (b 7), .ref (b 8), .ref (b 9), .ref (b 10), .ref (b 11), .ref (b 12), .ref (b 13), .ref (b 14), .ref (b 15), .ref (b 16), .ref (b 17), .ref (b 18), .int (zb hs), .ref (b 19), .ref (b 20)])), ((b 6), .inl (cI, 18, .inl dm)), ((b 8), .inl (cI, 4, .inl pg)), ((b 13), .inl (cI, 24, .inl ex))] U.heap ∧ va_K D cls (tyl cI cJ cZ cP cS) U)) (zq (some (.int (yne (dm (6 * p0 + r) - ex (6 * s0 + r)))))) 0 0 (fun _ => False) := by
  refine Met.ofW (cc := b_MO_need) (maxL := 4) (ret := (some .int)) (by decide +kernel) rfl ?_
  intro p e s m args below meth c s₁ B hml hv
  obtain ⟨rfl, hok, hP, hK⟩ := hv
  have hx := B.exec
  have hb := B.bytes
  have hr := B.returns
  have hown : s.vm.findClass "StudyAuditModel" = some m.cls := findClass_of_methodNamed B.named
  have hlocks := B.notSynchronized
  have hl := lv_entry ([.ref h, .int (nI s0), .int (nI r)]) (n := 4) (Nat.le_of_ble_eq_true rfl)
  rw [lg_entry_eq]
  generalize (lg_sl ([.ref h, .int (nI s0), .int (nI r)]) ++ List.replicate (4 - (lg_sl ([.ref h, .int (nI s0), .int (nI r)])).length) Slot.unset).toArray = ls at hl ⊢
  have hl : lv_has ls 4 [(0, .ref h), (1, .int (nI s0)), (2, .int (nI r))] := hl
  refine lv_aload_n hx hb d_MO_need_0 rfl (lv_at hl 0 rfl) ?_
  refine va_get (D := D) (ci := 8) (v := .ref (b 6)) (C := R_MO) (T := F_MO) (N := 25) hx hb (tb_in hok in_MO) (fun w h => h) hown hK hP 0 rfl rfl 9 (by decide) (hok _ t_714 rfl _) (fun _ h9 => h9) rfl d_MO_need_1 ?_
  refine lv_bipush (v := 6) hx hb d_MO_need_4 (by decide) ?_
  refine lv_aload_n hx hb d_MO_need_6 rfl (lv_at hl 0 rfl) ?_
  refine va_get (D := D) (ci := 8) (v := .ref (b 8)) (C := R_MO) (T := F_MO) (N := 25) hx hb (tb_in hok in_MO) (fun w h => h) hown hK hP 0 rfl rfl 11 (by decide) (hok _ t_716 rfl _) (fun _ h9 => h9) rfl d_MO_need_7 ?_
  refine lv_iload_n hx hb d_MO_need_10 rfl (lv_at hl 1 rfl) ?_
  refine va_iald hx hb hK hP 2 0 rfl rfl (vp_in_nI (by omega) (by omega)) d_MO_need_11 ?_
  rw [nI_clamp (show s0 < 2 ^ 31 from by omega)]
  refine lv_imul hx hb d_MO_need_12 ?_
  refine lv_iload_n hx hb d_MO_need_13 rfl (lv_at hl 2 rfl) ?_
  refine lv_iadd hx hb d_MO_need_14 ?_
  refine W.eq (g2 := F0 m 15 ls [.int (nI (6 * p0 + r)), .ref (b 6)]) (by rw [show ((((6 : Int32) * (pg s0)) + (nI r)) : Int32) = nI (6 * p0 + r) from (by rw [hpg, show (6 : Int32) = nI 6 from rfl, pk_mul, nI_add])]) ?_
  refine va_iald hx hb hK hP 1 0 rfl rfl (vp_in_nI (by omega) (by omega)) d_MO_need_15 ?_
  rw [nI_clamp (show (6 * p0 + r) < 2 ^ 31 from by omega)]
  refine lv_aload_n hx hb d_MO_need_16 rfl (lv_at hl 0 rfl) ?_
  refine va_get (D := D) (ci := 8) (v := .ref (b 13)) (C := R_MO) (T := F_MO) (N := 25) hx hb (tb_in hok in_MO) (fun w h => h) hown hK hP 0 rfl rfl 16 (by decide) (hok _ t_721 rfl _) (fun _ h9 => h9) rfl d_MO_need_17 ?_
  refine lv_bipush (v := 6) hx hb d_MO_need_20 (by decide) ?_
  refine lv_iload_n hx hb d_MO_need_22 rfl (lv_at hl 1 rfl) ?_
  refine lv_imul hx hb d_MO_need_23 ?_
  refine lv_iload_n hx hb d_MO_need_24 rfl (lv_at hl 2 rfl) ?_
  refine lv_iadd hx hb d_MO_need_25 ?_
  refine W.eq (g2 := F0 m 26 ls [.int (nI (6 * s0 + r)), .ref (b 13), .int (dm (6 * p0 + r))]) (by rw [show ((((6 : Int32) * (nI s0)) + (nI r)) : Int32) = nI (6 * s0 + r) from (by rw [show (6 : Int32) = nI 6 from rfl, pk_mul, nI_add])]) ?_
  refine va_iald hx hb hK hP 3 0 rfl rfl (vp_in_nI (by omega) (by omega)) d_MO_need_26 ?_
  rw [nI_clamp (show (6 * s0 + r) < 2 ^ 31 from by omega)]
  refine lv_isub hx hb d_MO_need_27 ?_
  refine lv_istore_n hx hb d_MO_need_28 rfl hl (by decide) rfl (fun ls hl => ?_)
  have hl : lv_has ls 4 [(3, .int ((dm (6 * p0 + r)) - (ex (6 * s0 + r)))), (0, .ref h), (1, .int (nI s0)), (2, .int (nI r))] := hl
  refine lv_iload_n hx hb d_MO_need_29 rfl (lv_at hl 0 rfl) ?_
  refine lv_if_ge (tgt := 37) hx hb d_MO_need_30 (by decide) (fun h30 => ?_) (fun h30 => ?_)
  · refine lv_iload_n hx hb d_MO_need_37 rfl (lv_at hl 0 rfl) ?_
    exact W.iret hx hb hr (fun t ht _ => ⟨by simp [yne, h30], ht⟩) (fun q h => by cases h) d_MO_need_38
  · refine lv_iconst (v := 0) hx hb d_MO_need_33 (by decide) ?_
    refine lv_goto (tgt := 38) hx hb d_MO_need_34 (by decide) ?_
    exact W.iret hx hb hr (fun t ht _ => ⟨by simp [yne, h30], ht⟩) (fun q h => by cases h) d_MO_need_38
def yli (t life d : Int32) : Bool := decide (¬ t < 0 ∧ ¬ d < t ∧ (life < 0 ∨ ¬ 0 < lg_cmp (Int32.toInt64 d - Int32.toInt64 t) (Int32.toInt64 life)))
abbrev ro_MO_isLive : Room := { frames := 0, cells := 0, slots := 0, locals := 0 }
set_option maxHeartbeats 4000000 in
set_option maxRecDepth 100000 in
theorem m_MO_isLive (l : Launch) (D : va_G) (cI cJ cZ cP cS : ClassId) (h : Nat) (b : Nat → Nat) (th : Int32) (G C : Nat) (hs : Bool) (s0 c0 : Nat) (d : Int32) (lf ps : Nat → Int32) (hs0 : s0 < 4) (hc0 : c0 < 12) : Met l y_MO_isLive [Cond.code y_MO_isLive b_MO_isLive 5 (some .boolean)] ro_MO_isLive (va_Pc [.ref h, .int (nI s0), .int (nI c0), .int d] (fun U => tb_ok U ∧ va_P D cls [(h, .inr (8, [.int th, .int (nI G), .ref (b 0), .ref (b 1), .int (nI C), .ref (b 2), .ref (b 3), .ref (b 4), .ref (b 5), .ref (b 6), .ref (b 7), .ref (b 8), .ref (b 9), .ref (b 10), .ref (b 11), .ref (b 12), .ref (b 13), .ref (b 14), .ref (b 15), .ref (b 16), .ref (b 17), .ref (b 18), .int (zb hs), .ref (b 19), .ref (b 20)])), ((b 4), .inl (cI, 12, .inl lf)), ((b 9), .inl (cI, 48, .inl ps))] U.heap ∧ va_K D cls (tyl cI cJ cZ cP cS) U)) (zq (some (.int (zb (yli (ps (12 * s0 + c0)) (lf c0) d))))) 0 0 (fun _ => False) := by
  refine Met.ofW (cc := b_MO_isLive) (maxL := 5) (ret := (some .boolean)) (by decide +kernel) rfl ?_
  intro p e s m args below meth c s₁ B hml hv
  obtain ⟨rfl, hok, hP, hK⟩ := hv
  have hx := B.exec
  have hb := B.bytes
  have hr := B.returns
  have hown : s.vm.findClass "StudyAuditModel" = some m.cls := findClass_of_methodNamed B.named
  have hlocks := B.notSynchronized
  have hl := lv_entry ([.ref h, .int (nI s0), .int (nI c0), .int d]) (n := 5) (Nat.le_of_ble_eq_true rfl)
  rw [lg_entry_eq]
  generalize (lg_sl ([.ref h, .int (nI s0), .int (nI c0), .int d]) ++ List.replicate (5 - (lg_sl ([.ref h, .int (nI s0), .int (nI c0), .int d])).length) Slot.unset).toArray = ls at hl ⊢
  have hl : lv_has ls 5 [(0, .ref h), (1, .int (nI s0)), (2, .int (nI c0)), (3, .int d)] := hl
  refine lv_aload_n hx hb d_MO_isLive_0 rfl (lv_at hl 0 rfl) ?_
  refine va_get (D := D) (ci := 8) (v := .ref (b 9)) (C := R_MO) (T := F_MO) (N := 25) hx hb (tb_in hok in_MO) (fun w h => h) hown hK hP 0 rfl rfl 12 (by decide) (hok _ t_717 rfl _) (fun _ h9 => h9) rfl d_MO_isLive_1 ?_
  refine lv_bipush (v := 12) hx hb d_MO_isLive_4 (by decide) ?_
  refine lv_iload_n hx hb d_MO_isLive_6 rfl (lv_at hl 1 rfl) ?_
  refine lv_imul hx hb d_MO_isLive_7 ?_
  refine lv_iload_n hx hb d_MO_isLive_8 rfl (lv_at hl 2 rfl) ?_
  refine lv_iadd hx hb d_MO_isLive_9 ?_
  refine W.eq (g2 := F0 m 10 ls [.int (nI (12 * s0 + c0)), .ref (b 9)]) (by rw [show ((((12 : Int32) * (nI s0)) + (nI c0)) : Int32) = nI (12 * s0 + c0) from (by rw [show (12 : Int32) = nI 12 from rfl, pk_mul, nI_add])]) ?_
  refine va_iald hx hb hK hP 2 0 rfl rfl (vp_in_nI (by omega) (by omega)) d_MO_isLive_10 ?_
  rw [nI_clamp (show (12 * s0 + c0) < 2 ^ 31 from by omega)]
  refine lv_istore hx hb d_MO_isLive_11 hl (by decide) rfl (fun ls hl => ?_)
  have hl : lv_has ls 5 [(4, .int (ps (12 * s0 + c0))), (0, .ref h), (1, .int (nI s0)), (2, .int (nI c0)), (3, .int d)] := hl
  refine lv_iload hx hb d_MO_isLive_13 (lv_at hl 0 rfl) ?_
  refine lv_if_lt (tgt := 54) hx hb d_MO_isLive_15 (by decide) (fun h15 => ?_) (fun h15 => ?_)
  · refine lv_iconst (v := 0) hx hb d_MO_isLive_54 (by decide) ?_
    exact W.zret hx hb hr (by decide) (fun t ht _ => ⟨by simp [zb, yli, h15], ht⟩) (fun q h => by cases h) d_MO_isLive_55
  · refine lv_iload hx hb d_MO_isLive_18 (lv_at hl 0 rfl) ?_
    refine lv_iload_n hx hb d_MO_isLive_20 rfl (lv_at hl 4 rfl) ?_
    refine lv_icmp_gt (tgt := 54) hx hb d_MO_isLive_21 (by decide) (fun h21 => ?_) (fun h21 => ?_)
    · refine lv_iconst (v := 0) hx hb d_MO_isLive_54 (by decide) ?_
      exact W.zret hx hb hr (by decide) (fun t ht _ => ⟨by simp [zb, yli, h15, h21], ht⟩) (fun q h => by cases h) d_MO_isLive_55
    · refine lv_aload_n hx hb d_MO_isLive_24 rfl (lv_at hl 1 rfl) ?_
      refine va_get (D := D) (ci := 8) (v := .ref (b 4)) (C := R_MO) (T := F_MO) (N := 25) hx hb (tb_in hok in_MO) (fun w h => h) hown hK hP 0 rfl rfl 7 (by decide) (hok _ t_712 rfl _) (fun _ h9 => h9) rfl d_MO_isLive_25 ?_
      refine lv_iload_n hx hb d_MO_isLive_28 rfl (lv_at hl 3 rfl) ?_
      refine va_iald hx hb hK hP 1 0 rfl rfl (vp_in_nI (by omega) (by omega)) d_MO_isLive_29 ?_
      rw [nI_clamp (show c0 < 2 ^ 31 from by omega)]
      refine lv_if_lt (tgt := 50) hx hb d_MO_isLive_30 (by decide) (fun h30 => ?_) (fun h30 => ?_)
      · refine lv_iconst (v := 1) hx hb d_MO_isLive_50 (by decide) ?_
        refine lv_goto (tgt := 55) hx hb d_MO_isLive_51 (by decide) ?_
        exact W.zret hx hb hr (by decide) (fun t ht _ => ⟨by simp [zb, yli, h15, h21, h30], ht⟩) (fun q h => by cases h) d_MO_isLive_55
      · refine lv_iload_n hx hb d_MO_isLive_33 rfl (lv_at hl 4 rfl) ?_
        refine lv_i2l (v := Int32.toInt64 d) hx hb d_MO_isLive_34 rfl ?_
        refine lv_iload hx hb d_MO_isLive_35 (lv_at hl 0 rfl) ?_
        refine lv_i2l (v := Int32.toInt64 (ps (12 * s0 + c0))) hx hb d_MO_isLive_37 rfl ?_
        refine lv_lsub hx hb d_MO_isLive_38 ?_
        refine lv_aload_n hx hb d_MO_isLive_39 rfl (lv_at hl 1 rfl) ?_
        refine va_get (D := D) (ci := 8) (v := .ref (b 4)) (C := R_MO) (T := F_MO) (N := 25) hx hb (tb_in hok in_MO) (fun w h => h) hown hK hP 0 rfl rfl 7 (by decide) (hok _ t_712 rfl _) (fun _ h9 => h9) rfl d_MO_isLive_40 ?_
        refine lv_iload_n hx hb d_MO_isLive_43 rfl (lv_at hl 3 rfl) ?_
        refine va_iald hx hb hK hP 1 0 rfl rfl (vp_in_nI (by omega) (by omega)) d_MO_isLive_44 ?_
        rw [nI_clamp (show c0 < 2 ^ 31 from by omega)]
        refine lv_i2l (v := Int32.toInt64 (lf c0)) hx hb d_MO_isLive_45 rfl ?_
        refine W.lcmp hx hb d_MO_isLive_46 ?_
        refine lv_if_gt (tgt := 54) hx hb d_MO_isLive_47 (by decide) (fun h47 => ?_) (fun h47 => ?_)
        · refine lv_iconst (v := 0) hx hb d_MO_isLive_54 (by decide) ?_
          exact W.zret hx hb hr (by decide) (fun t ht _ => ⟨by simp [zb, yli, h15, h21, h30, h47], ht⟩) (fun q h => by cases h) d_MO_isLive_55
        · refine lv_iconst (v := 1) hx hb d_MO_isLive_50 (by decide) ?_
          refine lv_goto (tgt := 55) hx hb d_MO_isLive_51 (by decide) ?_
          exact W.zret hx hb hr (by decide) (fun t ht _ => ⟨by simp [zb, yli, h15, h21, h30, h47], ht⟩) (fun q h => by cases h) d_MO_isLive_55
def ylk (pg : Nat → Int32) (x d : Int32) : Int32 := if yns x = true ∨ d < 0 ∨ ¬ d ≤ 99 then 1 else if 0 ≤ pg x.toNatClampNeg then 0 else 2
abbrev ro_MO_lacks : Room := { frames := 1, cells := 0, slots := 0, locals := 20 }
set_option maxHeartbeats 4000000 in
set_option maxRecDepth 100000 in
theorem m_MO_lacks (l : Launch) (D : va_G) (cI cJ cZ cP cS : ClassId) (h : Nat) (b : Nat → Nat) (th : Int32) (G C : Nat) (hs : Bool) (x d : Int32) (pg : Nat → Int32) : Met l y_MO_lacks [Cond.code y_MO_lacks b_MO_lacks 3 (some .int)] ro_MO_lacks (va_Pc [.ref h, .int x, .int d] (fun U => tb_ok U ∧ va_P D cls [(h, .inr (8, [.int th, .int (nI G), .ref (b 0), .ref (b 1), .int (nI C), .ref (b 2), .ref (b 3), .ref (b 4), .ref (b 5), .ref (b 6), .ref (b 7), .ref (b 8), .ref (b 9), .ref (b 10), .ref (b 11), .ref (b 12), .ref (b 13), .ref (b 14), .ref (b 15), .ref (b 16), .ref (b 17), .ref (b 18), .int (zb hs), .ref (b 19), .ref (b 20)])), ((b 8), .inl (cI, 4, .inl pg))] U.heap ∧ va_K D cls (tyl cI cJ cZ cP cS) U)) (zq (some (.int (ylk pg x d)))) 0 0 (fun _ => False) := by
  refine Met.ofW (cc := b_MO_lacks) (maxL := 3) (ret := (some .int)) (by decide +kernel) rfl ?_
  intro p e s m args below meth c s₁ B hml hv
  obtain ⟨rfl, hok, hP, hK⟩ := hv
  have hx := B.exec
  have hb := B.bytes
  have hr := B.returns
  have hown : s.vm.findClass "StudyAuditModel" = some m.cls := findClass_of_methodNamed B.named
  have hlocks := B.notSynchronized
  have hl := lv_entry ([.ref h, .int x, .int d]) (n := 3) (Nat.le_of_ble_eq_true rfl)
  rw [lg_entry_eq]
  generalize (lg_sl ([.ref h, .int x, .int d]) ++ List.replicate (3 - (lg_sl ([.ref h, .int x, .int d])).length) Slot.unset).toArray = ls at hl ⊢
  have hl : lv_has ls 3 [(0, .ref h), (1, .int x), (2, .int d)] := hl
  refine lv_iload_n hx hb d_MO_lacks_0 rfl (lv_at hl 1 rfl) ?_
  refine zc_read (va_runS (Ts := []) (As := [.int x]) (rest := []) ⟨hx, hb, hml, hown, fun _ h => absurd h List.not_mem_nil⟩ (m_MO_noStudent l x) ⟨zc_B 1 hok c_MO_noStudent_w t_10 t_829 rfl rfl (by decide +kernel) ⟨Nat.le_of_ble_eq_true rfl, Nat.le_of_ble_eq_true rfl⟩, hok _ t_830 rfl _⟩ ⟨fun a U g mk q => by obtain ⟨q0, q2⟩ := q; exact ⟨q0, q2.call g mk a⟩, fun U hU hW => ⟨rfl, hok.warm hW⟩⟩ rfl rfl hl.1 rfl (lv_room (Nat.le_of_ble_eq_true rfl)) d_MO_lacks_1 ⟨Nat.le_of_ble_eq_true rfl, Nat.le_of_ble_eq_true rfl⟩) ?_
  refine W.eq (g2 := F0 m 4 ls [.int (zb (yns x))]) rfl ?_
  refine lv_if_ne (tgt := 17) hx hb d_MO_lacks_4 (by decide) (fun h4 => ?_) (fun h4 => ?_)
  · refine lv_iconst (v := 1) hx hb d_MO_lacks_17 (by decide) ?_
    refine lv_goto (tgt := 35) hx hb d_MO_lacks_18 (by decide) ?_
    exact W.iret hx hb hr (fun t ht _ => ⟨by rw [show ylk pg x d = 1 from if_pos (Or.inl (zb_1 h4))], ht⟩) (fun q h => by cases h) d_MO_lacks_35
  · refine lv_iload_n hx hb d_MO_lacks_7 rfl (lv_at hl 2 rfl) ?_
    refine lv_if_lt (tgt := 17) hx hb d_MO_lacks_8 (by decide) (fun h8 => ?_) (fun h8 => ?_)
    · refine lv_iconst (v := 1) hx hb d_MO_lacks_17 (by decide) ?_
      refine lv_goto (tgt := 35) hx hb d_MO_lacks_18 (by decide) ?_
      exact W.iret hx hb hr (fun t ht _ => ⟨by rw [show ylk pg x d = 1 from if_pos (Or.inr (Or.inl h8))], ht⟩) (fun q h => by cases h) d_MO_lacks_35
    · refine lv_iload_n hx hb d_MO_lacks_11 rfl (lv_at hl 2 rfl) ?_
      refine lv_bipush (v := 99) hx hb d_MO_lacks_12 (by decide) ?_
      refine lv_icmp_le (tgt := 21) hx hb d_MO_lacks_14 (by decide) (fun h14 => ?_) (fun h14 => ?_)
      · have k4 := yns_in (zb_0 h4)
        refine lv_aload_n hx hb d_MO_lacks_21 rfl (lv_at hl 0 rfl) ?_
        refine va_get (D := D) (ci := 8) (v := .ref (b 8)) (C := R_MO) (T := F_MO) (N := 25) hx hb (tb_in hok in_MO) (fun w h => h) hown hK hP 0 rfl rfl 11 (by decide) (hok _ t_716 rfl _) (fun _ h9 => h9) rfl d_MO_lacks_22 ?_
        refine lv_iload_n hx hb d_MO_lacks_25 rfl (lv_at hl 1 rfl) ?_
        refine va_iald hx hb hK hP 1 0 rfl rfl k4.1 d_MO_lacks_26 ?_
        refine lv_if_ge (tgt := 34) hx hb d_MO_lacks_27 (by decide) (fun h27 => ?_) (fun h27 => ?_)
        · refine lv_iconst (v := 0) hx hb d_MO_lacks_34 (by decide) ?_
          exact W.iret hx hb hr (fun t ht _ => ⟨by rw [show ylk pg x d = 0 from (if_neg (fun z => z.elim (fun z => by rw [zb_0 h4] at z; cases z) (fun z => z.elim h8 (fun z => z h14)))).trans (if_pos h27)], ht⟩) (fun q h => by cases h) d_MO_lacks_35
        · refine lv_iconst (v := 2) hx hb d_MO_lacks_30 (by decide) ?_
          refine lv_goto (tgt := 35) hx hb d_MO_lacks_31 (by decide) ?_
          exact W.iret hx hb hr (fun t ht _ => ⟨by rw [show ylk pg x d = 2 from (if_neg (fun z => z.elim (fun z => by rw [zb_0 h4] at z; cases z) (fun z => z.elim h8 (fun z => z h14)))).trans (if_neg h27)], ht⟩) (fun q h => by cases h) d_MO_lacks_35
      · refine lv_iconst (v := 1) hx hb d_MO_lacks_17 (by decide) ?_
        refine lv_goto (tgt := 35) hx hb d_MO_lacks_18 (by decide) ?_
        exact W.iret hx hb hr (fun t ht _ => ⟨by rw [show ylk pg x d = 1 from if_pos (Or.inr (Or.inr h14))], ht⟩) (fun q h => by cases h) d_MO_lacks_35
def ybt (set : Int32) : Nat → Int32
  | 0 => 0
  | i + 1 => ybt set i + ((set >>> (nI i &&& 31)) &&& 1)
abbrev ro_MO_bits : Room := { frames := 0, cells := 0, slots := 0, locals := 0 }
set_option maxHeartbeats 4000000 in
set_option maxRecDepth 100000 in
theorem lo_bits {l : Launch} {p : Program} {e : Env} {s : State} {m : MethodId} {args : Array Value} {below : List Frame} {meth : Method} {c : Code} {H : Heap} {Ls : List Loc} {Q : State → Prop} (set : Int32) (hx : p.tables.exec = Jvm.exec) (hb : c.code = b_MO_bits) (hml : c.maxLocals = 3) (hown : s.vm.findClass "StudyAuditModel" = some m.cls) (hok : tb_ok s)
    (kk : ∀ ls : Array Slot, lv_has ls 3 [(0, .int set), (1, .int (ybt set 12)), (2, .int (nI 12))] → W p l e ro_MO_bits s m args below meth c H Ls 0 0 Q (F0 m 24 ls [])) :
    ∀ (k i : Nat) (ls : Array Slot), 0 ≤ i → i + k = 12 → lv_has ls 3 [(0, .int set), (1, .int (ybt set i)), (2, .int (nI i))] → W p l e ro_MO_bits s m args below meth c H Ls 0 0 Q (F0 m 4 ls []) := by
  intro k
  induction k with
  | zero =>
    intro i ls hi0 hik hl
    have hik : 12 = i := by omega
    subst hik
    refine lv_iload_n hx hb d_MO_bits_4 rfl (lv_at hl 2 rfl) ?_
    refine lv_bipush (v := 12) hx hb d_MO_bits_5 (by decide) ?_
    refine lv_icmp_ge (tgt := 24) hx hb d_MO_bits_7 (by decide) (fun h7 => ?_) (fun h7 => absurd (show nI 12 ≤ nI 12 from Int32.le_refl _) h7)
    exact kk ls (lv_sub hl [0, 1, 2] rfl)
  | succ k ih =>
    intro i ls hi0 hik hl
    refine lv_iload_n hx hb d_MO_bits_4 rfl (lv_at hl 2 rfl) ?_
    refine lv_bipush (v := 12) hx hb d_MO_bits_5 (by decide) ?_
    refine lv_icmp_ge (tgt := 24) hx hb d_MO_bits_7 (by decide) (fun h7 => absurd h7 (show ¬ nI 12 ≤ nI i from nI_ge (by omega) (by omega))) (fun h7 => ?_)
    refine lv_iload_n hx hb d_MO_bits_10 rfl (lv_at hl 1 rfl) ?_
    refine lv_iload_n hx hb d_MO_bits_11 rfl (lv_at hl 0 rfl) ?_
    refine lv_iload_n hx hb d_MO_bits_12 rfl (lv_at hl 2 rfl) ?_
    refine lv_ishr hx hb d_MO_bits_13 ?_
    refine lv_iconst (v := 1) hx hb d_MO_bits_14 (by decide) ?_
    refine lv_iand hx hb d_MO_bits_15 ?_
    refine lv_iadd hx hb d_MO_bits_16 ?_
    refine lv_istore_n hx hb d_MO_bits_17 rfl hl (by decide) rfl (fun ls hl => ?_)
    have hl : lv_has ls 3 [(1, .int ((ybt set i) + ((set >>> ((nI i) &&& 31)) &&& (1 : Int32)))), (0, .int set), (2, .int (nI i))] := hl
    refine lv_iinc (v := (nI (i + 1))) hx hb d_MO_bits_18 hl (k := 2) rfl (by rw [nI_succ]; rfl) (by decide) rfl (fun ls hl => ?_)
    have hl : lv_has ls 3 [(2, .int (nI (i + 1))), (1, .int ((ybt set i) + ((set >>> ((nI i) &&& 31)) &&& (1 : Int32)))), (0, .int set)] := hl
    refine lv_goto (tgt := 4) hx hb d_MO_bits_21 (by decide) ?_
    have e9 : ybt set (i + 1) = ((ybt set i) + ((set >>> ((nI i) &&& 31)) &&& (1 : Int32))) := rfl
    rw [← e9] at hl
    exact ih (i + 1) ls (by omega) (by omega) (lv_sub hl [2, 1, 0] rfl)
set_option maxHeartbeats 4000000 in
set_option maxRecDepth 100000 in
theorem m_MO_bits (l : Launch) (set : Int32) : Met l y_MO_bits [Cond.code y_MO_bits b_MO_bits 3 (some .int)] ro_MO_bits (va_Pc [.int set] (fun U => tb_ok U)) (zq (some (.int (ybt set 12)))) 0 0 (fun _ => False) := by
  refine Met.ofW (cc := b_MO_bits) (maxL := 3) (ret := (some .int)) (by decide +kernel) rfl ?_
  intro p e s m args below meth c s₁ B hml hv
  obtain ⟨rfl, hok⟩ := hv
  have hx := B.exec
  have hb := B.bytes
  have hr := B.returns
  have hown : s.vm.findClass "StudyAuditModel" = some m.cls := findClass_of_methodNamed B.named
  have hlocks := B.notSynchronized
  have hl := lv_entry ([.int set]) (n := 3) (Nat.le_of_ble_eq_true rfl)
  rw [lg_entry_eq]
  generalize (lg_sl ([.int set]) ++ List.replicate (3 - (lg_sl ([.int set])).length) Slot.unset).toArray = ls at hl ⊢
  have hl : lv_has ls 3 [(0, .int set)] := hl
  refine lv_iconst (v := 0) hx hb d_MO_bits_0 (by decide) ?_
  refine lv_istore_n hx hb d_MO_bits_1 rfl hl (by decide) rfl (fun ls hl => ?_)
  have hl : lv_has ls 3 [(1, .int 0), (0, .int set)] := hl
  refine lv_iconst (v := 0) hx hb d_MO_bits_2 (by decide) ?_
  refine lv_istore_n hx hb d_MO_bits_3 rfl hl (by decide) rfl (fun ls hl => ?_)
  have hl : lv_has ls 3 [(2, .int 0), (1, .int 0), (0, .int set)] := hl
  refine lo_bits set hx hb hml hown hok  (fun ls hl => ?_) (12 - 0) 0 ls (by omega) (by omega) (lv_sub hl [2, 1, 0] rfl)
  refine lv_iload_n hx hb d_MO_bits_24 rfl (lv_at hl 1 rfl) ?_
  exact W.iret hx hb hr (fun t ht _ => ⟨rfl, ht⟩) (fun q h => by cases h) d_MO_bits_25
def yl1 (ps lf : Nat → Int32) (s0 : Nat) (d : Int32) : Nat → Int32
  | 0 => 0
  | i + 1 => if yli (ps (12 * s0 + i)) (lf i) d = true then zw (yl1 ps lf s0 d i) i else yl1 ps lf s0 d i
abbrev ro_MO_liveOnes : Room := { frames := 1, cells := 0, slots := 0, locals := 24 }
set_option maxHeartbeats 4000000 in
set_option maxRecDepth 100000 in
theorem lo_liveOnes {l : Launch} {p : Program} {e : Env} {s : State} {m : MethodId} {args : Array Value} {below : List Frame} {meth : Method} {c : Code} {H : Heap} {Ls : List Loc} {Q : State → Prop} (D : va_G) (cI cJ cZ cP cS : ClassId) (h : Nat) (b : Nat → Nat) (th : Int32) (G C : Nat) (hs : Bool) (s0 : Nat) (d : Int32) (lf ps : Nat → Int32) (hx : p.tables.exec = Jvm.exec) (hb : c.code = b_MO_liveOnes) (hml : c.maxLocals = 5) (hown : s.vm.findClass "StudyAuditModel" = some m.cls) (hok : tb_ok s) (hP : va_P D cls [(h, .inr (8, [.int th, .int (nI G), .ref (b 0), .ref (b 1), .int (nI C), .ref (b 2), .ref (b 3), .ref (b 4), .ref (b 5), .ref (b 6), .ref (b 7), .ref (b 8), .ref (b 9), .ref (b 10), .ref (b 11), .ref (b 12), .ref (b 13), .ref (b 14), .ref (b 15), .ref (b 16), .ref (b 17), .ref (b 18), .int (zb hs), .ref (b 19), .ref (b 20)])), ((b 4), .inl (cI, 12, .inl lf)), ((b 9), .inl (cI, 48, .inl ps))] H) (hK : va_K D cls (tyl cI cJ cZ cP cS) s) (hs0 : s0 < 4) (hC : C ≤ 12)
    (kk : ∀ ls : Array Slot, lv_has ls 5 [(0, .ref h), (1, .int (nI s0)), (2, .int d), (3, .int (yl1 ps lf s0 d C)), (4, .int (nI C))] → W p l e ro_MO_liveOnes s m args below meth c H Ls 0 0 Q (F0 m 42 ls [])) :
    ∀ (k i : Nat) (ls : Array Slot), 0 ≤ i → i + k = C → lv_has ls 5 [(0, .ref h), (1, .int (nI s0)), (2, .int d), (3, .int (yl1 ps lf s0 d i)), (4, .int (nI i))] → W p l e ro_MO_liveOnes s m args below meth c H Ls 0 0 Q (F0 m 5 ls []) := by
  intro k
  induction k with
  | zero =>
    intro i ls hi0 hik hl
    have hik : C = i := by omega
    subst hik
    refine lv_iload hx hb d_MO_liveOnes_5 (lv_at hl 4 rfl) ?_
    refine lv_aload_n hx hb d_MO_liveOnes_7 rfl (lv_at hl 0 rfl) ?_
    refine va_get (D := D) (ci := 8) (v := .int (nI C)) (C := R_MO) (T := F_MO) (N := 25) hx hb (tb_in hok in_MO) (fun w h => h) hown hK hP 0 rfl rfl 4 (by decide) (hok _ t_709 rfl _) (fun _ h9 => h9) rfl d_MO_liveOnes_8 ?_
    refine lv_icmp_ge (tgt := 42) hx hb d_MO_liveOnes_11 (by decide) (fun h11 => ?_) (fun h11 => absurd (show nI C ≤ nI C from Int32.le_refl _) h11)
    exact kk ls (lv_sub hl [0, 1, 2, 3, 4] rfl)
  | succ k ih =>
    intro i ls hi0 hik hl
    refine lv_iload hx hb d_MO_liveOnes_5 (lv_at hl 4 rfl) ?_
    refine lv_aload_n hx hb d_MO_liveOnes_7 rfl (lv_at hl 0 rfl) ?_
    refine va_get (D := D) (ci := 8) (v := .int (nI C)) (C := R_MO) (T := F_MO) (N := 25) hx hb (tb_in hok in_MO) (fun w h => h) hown hK hP 0 rfl rfl 4 (by decide) (hok _ t_709 rfl _) (fun _ h9 => h9) rfl d_MO_liveOnes_8 ?_
    refine lv_icmp_ge (tgt := 42) hx hb d_MO_liveOnes_11 (by decide) (fun h11 => absurd h11 (show ¬ nI C ≤ nI i from nI_ge (by omega) (by omega))) (fun h11 => ?_)
    refine lv_aload_n hx hb d_MO_liveOnes_14 rfl (lv_at hl 0 rfl) ?_
    refine lv_iload_n hx hb d_MO_liveOnes_15 rfl (lv_at hl 1 rfl) ?_
    refine lv_iload hx hb d_MO_liveOnes_16 (lv_at hl 4 rfl) ?_
    refine lv_iload_n hx hb d_MO_liveOnes_18 rfl (lv_at hl 2 rfl) ?_
    refine zc_read (va_runV (Ts := []) (As := [.int (nI s0), .int (nI i), .int d]) (rest := []) ⟨hx, hb, hml, hown, fun _ h => absurd h List.not_mem_nil⟩ (m_MO_isLive l D cI cJ cZ cP cS h b th G C hs s0 i d lf ps hs0 (by omega)) ⟨zc_B 3 hok c_MO_isLive_w t_10 t_852 rfl rfl (by decide +kernel) ⟨Nat.le_of_ble_eq_true rfl, Nat.le_of_ble_eq_true rfl⟩, hok _ t_854 rfl _, hok _ s_23 rfl _⟩ ⟨fun a U g mk q => by obtain ⟨q0, q2, qP, qK⟩ := q; exact ⟨q0, q2.call g mk a, qP, va_K.moved (u := U) (U := U.calling g mk a) (Vm.Alike.refl U.vm) qK⟩, va_recv hK hP (ci := 8) (q0 := 0) rfl rfl, fun U hU hW => ⟨rfl, hok.warm hW, by rw [hU]; exact hP.sub [0, 1, 2] rfl, va_K.moved hW.alike hK⟩⟩ rfl rfl hl.1 rfl (lv_room (Nat.le_of_ble_eq_true rfl)) d_MO_liveOnes_19 ⟨Nat.le_of_ble_eq_true rfl, Nat.le_of_ble_eq_true rfl⟩) ?_
    refine W.eq (g2 := F0 m 22 ls [.int (zb (yli (ps (12 * s0 + i)) (lf i) d))]) rfl ?_
    refine lv_if_eq (tgt := 34) hx hb d_MO_liveOnes_22 (by decide) (fun h22 => ?_) (fun h22 => ?_)
    · refine lv_iload_n hx hb d_MO_liveOnes_34 rfl (lv_at hl 3 rfl) ?_
      refine lv_istore_n hx hb d_MO_liveOnes_35 rfl hl (by decide) rfl (fun ls hl => ?_)
      have hl : lv_has ls 5 [(3, .int (yl1 ps lf s0 d i)), (0, .ref h), (1, .int (nI s0)), (2, .int d), (4, .int (nI i))] := hl
      refine lv_iinc (v := (nI (i + 1))) hx hb d_MO_liveOnes_36 hl (k := 4) rfl (by rw [nI_succ]; rfl) (by decide) rfl (fun ls hl => ?_)
      have hl : lv_has ls 5 [(4, .int (nI (i + 1))), (3, .int (yl1 ps lf s0 d i)), (0, .ref h), (1, .int (nI s0)), (2, .int d)] := hl
      refine lv_goto (tgt := 5) hx hb d_MO_liveOnes_39 (by decide) ?_
      have e9 : yl1 ps lf s0 d (i + 1) = (yl1 ps lf s0 d i) := if_neg (fun z => by rw [z] at h22; exact absurd h22 (by decide))
      rw [← e9] at hl
      exact ih (i + 1) ls (by omega) (by omega) (lv_sub hl [2, 3, 4, 1, 0] rfl)
    · refine lv_iload_n hx hb d_MO_liveOnes_25 rfl (lv_at hl 3 rfl) ?_
      refine lv_iconst (v := 1) hx hb d_MO_liveOnes_26 (by decide) ?_
      refine lv_iload hx hb d_MO_liveOnes_27 (lv_at hl 4 rfl) ?_
      refine lv_ishl hx hb d_MO_liveOnes_29 ?_
      refine lv_ior hx hb d_MO_liveOnes_30 ?_
      refine lv_goto (tgt := 35) hx hb d_MO_liveOnes_31 (by decide) ?_
      refine lv_istore_n hx hb d_MO_liveOnes_35 rfl hl (by decide) rfl (fun ls hl => ?_)
      have hl : lv_has ls 5 [(3, .int ((yl1 ps lf s0 d i) ||| (1 <<< ((nI i) &&& 31)))), (0, .ref h), (1, .int (nI s0)), (2, .int d), (4, .int (nI i))] := hl
      refine lv_iinc (v := (nI (i + 1))) hx hb d_MO_liveOnes_36 hl (k := 4) rfl (by rw [nI_succ]; rfl) (by decide) rfl (fun ls hl => ?_)
      have hl : lv_has ls 5 [(4, .int (nI (i + 1))), (3, .int ((yl1 ps lf s0 d i) ||| (1 <<< ((nI i) &&& 31)))), (0, .ref h), (1, .int (nI s0)), (2, .int d)] := hl
      refine lv_goto (tgt := 5) hx hb d_MO_liveOnes_39 (by decide) ?_
      have e9 : yl1 ps lf s0 d (i + 1) = ((yl1 ps lf s0 d i) ||| (1 <<< ((nI i) &&& 31))) := if_pos (by cases hz : yli (ps (12 * s0 + i)) (lf i) d with | true => rfl | false => rw [hz] at h22; exact absurd rfl h22)
      rw [← e9] at hl
      exact ih (i + 1) ls (by omega) (by omega) (lv_sub hl [2, 3, 4, 1, 0] rfl)
set_option maxHeartbeats 4000000 in
set_option maxRecDepth 100000 in
theorem m_MO_liveOnes (l : Launch) (D : va_G) (cI cJ cZ cP cS : ClassId) (h : Nat) (b : Nat → Nat) (th : Int32) (G C : Nat) (hs : Bool) (s0 : Nat) (d : Int32) (lf ps : Nat → Int32) (hs0 : s0 < 4) (hC : C ≤ 12) : Met l y_MO_liveOnes [Cond.code y_MO_liveOnes b_MO_liveOnes 5 (some .int)] ro_MO_liveOnes (va_Pc [.ref h, .int (nI s0), .int d] (fun U => tb_ok U ∧ va_P D cls [(h, .inr (8, [.int th, .int (nI G), .ref (b 0), .ref (b 1), .int (nI C), .ref (b 2), .ref (b 3), .ref (b 4), .ref (b 5), .ref (b 6), .ref (b 7), .ref (b 8), .ref (b 9), .ref (b 10), .ref (b 11), .ref (b 12), .ref (b 13), .ref (b 14), .ref (b 15), .ref (b 16), .ref (b 17), .ref (b 18), .int (zb hs), .ref (b 19), .ref (b 20)])), ((b 4), .inl (cI, 12, .inl lf)), ((b 9), .inl (cI, 48, .inl ps))] U.heap ∧ va_K D cls (tyl cI cJ cZ cP cS) U)) (zq (some (.int (yl1 ps lf s0 d C)))) 0 0 (fun _ => False) := by
  refine Met.ofW (cc := b_MO_liveOnes) (maxL := 5) (ret := (some .int)) (by decide +kernel) rfl ?_
  intro p e s m args below meth c s₁ B hml hv
  obtain ⟨rfl, hok, hP, hK⟩ := hv
  have hx := B.exec
  have hb := B.bytes
  have hr := B.returns
  have hown : s.vm.findClass "StudyAuditModel" = some m.cls := findClass_of_methodNamed B.named
  have hlocks := B.notSynchronized
  have hl := lv_entry ([.ref h, .int (nI s0), .int d]) (n := 5) (Nat.le_of_ble_eq_true rfl)
  rw [lg_entry_eq]
  generalize (lg_sl ([.ref h, .int (nI s0), .int d]) ++ List.replicate (5 - (lg_sl ([.ref h, .int (nI s0), .int d])).length) Slot.unset).toArray = ls at hl ⊢
  have hl : lv_has ls 5 [(0, .ref h), (1, .int (nI s0)), (2, .int d)] := hl
  refine lv_iconst (v := 0) hx hb d_MO_liveOnes_0 (by decide) ?_
  refine lv_istore_n hx hb d_MO_liveOnes_1 rfl hl (by decide) rfl (fun ls hl => ?_)
  have hl : lv_has ls 5 [(3, .int 0), (0, .ref h), (1, .int (nI s0)), (2, .int d)] := hl
  refine lv_iconst (v := 0) hx hb d_MO_liveOnes_2 (by decide) ?_
  refine lv_istore hx hb d_MO_liveOnes_3 hl (by decide) rfl (fun ls hl => ?_)
  have hl : lv_has ls 5 [(4, .int 0), (3, .int 0), (0, .ref h), (1, .int (nI s0)), (2, .int d)] := hl
  refine lo_liveOnes D cI cJ cZ cP cS h b th G C hs s0 d lf ps hx hb hml hown hok hP hK hs0 hC (fun ls hl => ?_) (C - 0) 0 ls (by omega) (by omega) (lv_sub hl [2, 3, 4, 1, 0] rfl)
  refine lv_iload_n hx hb d_MO_liveOnes_42 rfl (lv_at hl 3 rfl) ?_
  exact W.iret hx hb hr (fun t ht _ => ⟨rfl, ht⟩) (fun q h => by cases h) d_MO_liveOnes_43
def yno (set : Int32) (nd gv : Nat → Int32) : Nat → Int32
  | 0 => 0
  | 1 => 0
  | i + 2 => if (set >>> (nI (i + 1) &&& 31)) &&& 1 = 1 then yno set nd gv (i + 1) + nd (i + 1) - gv (i + 1) else yno set nd gv (i + 1)
abbrev ro_MO_needOf : Room := { frames := 0, cells := 0, slots := 0, locals := 0 }
set_option maxHeartbeats 4000000 in
set_option maxRecDepth 100000 in
theorem lo_needOf {l : Launch} {p : Program} {e : Env} {s : State} {m : MethodId} {args : Array Value} {below : List Frame} {meth : Method} {c : Code} {H : Heap} {Ls : List Loc} {Q : State → Prop} (D : va_G) (cI cJ cZ cP cS : ClassId) (h : Nat) (b : Nat → Nat) (th : Int32) (G C : Nat) (hs : Bool) (set : Int32) (nd gv : Nat → Int32) (hx : p.tables.exec = Jvm.exec) (hb : c.code = b_MO_needOf) (hml : c.maxLocals = 4) (hown : s.vm.findClass "StudyAuditModel" = some m.cls) (hok : tb_ok s) (hP : va_P D cls [(h, .inr (8, [.int th, .int (nI G), .ref (b 0), .ref (b 1), .int (nI C), .ref (b 2), .ref (b 3), .ref (b 4), .ref (b 5), .ref (b 6), .ref (b 7), .ref (b 8), .ref (b 9), .ref (b 10), .ref (b 11), .ref (b 12), .ref (b 13), .ref (b 14), .ref (b 15), .ref (b 16), .ref (b 17), .ref (b 18), .int (zb hs), .ref (b 19), .ref (b 20)])), ((b 14), .inl (cI, 6, .inl nd)), ((b 16), .inl (cI, 6, .inl gv))] H) (hK : va_K D cls (tyl cI cJ cZ cP cS) s)
    (kk : ∀ ls : Array Slot, lv_has ls 4 [(0, .ref h), (1, .int set), (2, .int (yno set nd gv 6)), (3, .int (nI 6))] → W p l e ro_MO_needOf s m args below meth c H Ls 0 0 Q (F0 m 45 ls [])) :
    ∀ (k i : Nat) (ls : Array Slot), 1 ≤ i → i + k = 6 → lv_has ls 4 [(0, .ref h), (1, .int set), (2, .int (yno set nd gv i)), (3, .int (nI i))] → W p l e ro_MO_needOf s m args below meth c H Ls 0 0 Q (F0 m 4 ls []) := by
  intro k
  induction k with
  | zero =>
    intro i ls hi0 hik hl
    have hik : 6 = i := by omega
    subst hik
    refine lv_iload_n hx hb d_MO_needOf_4 rfl (lv_at hl 3 rfl) ?_
    refine lv_bipush (v := 6) hx hb d_MO_needOf_5 (by decide) ?_
    refine lv_icmp_ge (tgt := 45) hx hb d_MO_needOf_7 (by decide) (fun h7 => ?_) (fun h7 => absurd (show nI 6 ≤ nI 6 from Int32.le_refl _) h7)
    exact kk ls (lv_sub hl [0, 1, 2, 3] rfl)
  | succ k ih =>
    intro i ls hi0 hik hl
    refine lv_iload_n hx hb d_MO_needOf_4 rfl (lv_at hl 3 rfl) ?_
    refine lv_bipush (v := 6) hx hb d_MO_needOf_5 (by decide) ?_
    refine lv_icmp_ge (tgt := 45) hx hb d_MO_needOf_7 (by decide) (fun h7 => absurd h7 (show ¬ nI 6 ≤ nI i from nI_ge (by omega) (by omega))) (fun h7 => ?_)
    refine lv_iload_n hx hb d_MO_needOf_10 rfl (lv_at hl 1 rfl) ?_
    refine lv_iload_n hx hb d_MO_needOf_11 rfl (lv_at hl 3 rfl) ?_
    refine lv_ishr hx hb d_MO_needOf_12 ?_
    refine lv_iconst (v := 1) hx hb d_MO_needOf_13 (by decide) ?_
    refine lv_iand hx hb d_MO_needOf_14 ?_
    refine lv_iconst (v := 1) hx hb d_MO_needOf_15 (by decide) ?_
    refine lv_icmp_ne (tgt := 37) hx hb d_MO_needOf_16 (by decide) (fun h16 => ?_) (fun h16 => ?_)
    · refine lv_iload_n hx hb d_MO_needOf_37 rfl (lv_at hl 2 rfl) ?_
      refine lv_istore_n hx hb d_MO_needOf_38 rfl hl (by decide) rfl (fun ls hl => ?_)
      have hl : lv_has ls 4 [(2, .int (yno set nd gv i)), (0, .ref h), (1, .int set), (3, .int (nI i))] := hl
      refine lv_iinc (v := (nI (i + 1))) hx hb d_MO_needOf_39 hl (k := 3) rfl (by rw [nI_succ]; rfl) (by decide) rfl (fun ls hl => ?_)
      have hl : lv_has ls 4 [(3, .int (nI (i + 1))), (2, .int (yno set nd gv i)), (0, .ref h), (1, .int set)] := hl
      refine lv_goto (tgt := 4) hx hb d_MO_needOf_42 (by decide) ?_
      have e9 : yno set nd gv (i + 1) = (yno set nd gv i) := by
        obtain ⟨j, rfl⟩ : ∃ j, i = j + 1 := ⟨i - 1, by omega⟩
        exact if_neg h16
      rw [← e9] at hl
      exact ih (i + 1) ls (by omega) (by omega) (lv_sub hl [2, 3, 1, 0] rfl)
    · refine lv_iload_n hx hb d_MO_needOf_19 rfl (lv_at hl 2 rfl) ?_
      refine lv_aload_n hx hb d_MO_needOf_20 rfl (lv_at hl 0 rfl) ?_
      refine va_get (D := D) (ci := 8) (v := .ref (b 14)) (C := R_MO) (T := F_MO) (N := 25) hx hb (tb_in hok in_MO) (fun w h => h) hown hK hP 0 rfl rfl 17 (by decide) (hok _ t_722 rfl _) (fun _ h9 => h9) rfl d_MO_needOf_21 ?_
      refine lv_iload_n hx hb d_MO_needOf_24 rfl (lv_at hl 3 rfl) ?_
      refine va_iald hx hb hK hP 1 0 rfl rfl (vp_in_nI (by omega) (by omega)) d_MO_needOf_25 ?_
      rw [nI_clamp (show i < 2 ^ 31 from by omega)]
      refine lv_iadd hx hb d_MO_needOf_26 ?_
      refine lv_aload_n hx hb d_MO_needOf_27 rfl (lv_at hl 0 rfl) ?_
      refine va_get (D := D) (ci := 8) (v := .ref (b 16)) (C := R_MO) (T := F_MO) (N := 25) hx hb (tb_in hok in_MO) (fun w h => h) hown hK hP 0 rfl rfl 19 (by decide) (hok _ t_724 rfl _) (fun _ h9 => h9) rfl d_MO_needOf_28 ?_
      refine lv_iload_n hx hb d_MO_needOf_31 rfl (lv_at hl 3 rfl) ?_
      refine va_iald hx hb hK hP 2 0 rfl rfl (vp_in_nI (by omega) (by omega)) d_MO_needOf_32 ?_
      rw [nI_clamp (show i < 2 ^ 31 from by omega)]
      refine lv_isub hx hb d_MO_needOf_33 ?_
      refine lv_goto (tgt := 38) hx hb d_MO_needOf_34 (by decide) ?_
      refine lv_istore_n hx hb d_MO_needOf_38 rfl hl (by decide) rfl (fun ls hl => ?_)
      have hl : lv_has ls 4 [(2, .int (((yno set nd gv i) + (nd i)) - (gv i))), (0, .ref h), (1, .int set), (3, .int (nI i))] := hl
      refine lv_iinc (v := (nI (i + 1))) hx hb d_MO_needOf_39 hl (k := 3) rfl (by rw [nI_succ]; rfl) (by decide) rfl (fun ls hl => ?_)
      have hl : lv_has ls 4 [(3, .int (nI (i + 1))), (2, .int (((yno set nd gv i) + (nd i)) - (gv i))), (0, .ref h), (1, .int set)] := hl
      refine lv_goto (tgt := 4) hx hb d_MO_needOf_42 (by decide) ?_
      have e9 : yno set nd gv (i + 1) = (((yno set nd gv i) + (nd i)) - (gv i)) := by
        obtain ⟨j, rfl⟩ : ∃ j, i = j + 1 := ⟨i - 1, by omega⟩
        exact if_pos h16
      rw [← e9] at hl
      exact ih (i + 1) ls (by omega) (by omega) (lv_sub hl [2, 3, 1, 0] rfl)
set_option maxHeartbeats 4000000 in
set_option maxRecDepth 100000 in
theorem m_MO_needOf (l : Launch) (D : va_G) (cI cJ cZ cP cS : ClassId) (h : Nat) (b : Nat → Nat) (th : Int32) (G C : Nat) (hs : Bool) (set : Int32) (nd gv : Nat → Int32) : Met l y_MO_needOf [Cond.code y_MO_needOf b_MO_needOf 4 (some .int)] ro_MO_needOf (va_Pc [.ref h, .int set] (fun U => tb_ok U ∧ va_P D cls [(h, .inr (8, [.int th, .int (nI G), .ref (b 0), .ref (b 1), .int (nI C), .ref (b 2), .ref (b 3), .ref (b 4), .ref (b 5), .ref (b 6), .ref (b 7), .ref (b 8), .ref (b 9), .ref (b 10), .ref (b 11), .ref (b 12), .ref (b 13), .ref (b 14), .ref (b 15), .ref (b 16), .ref (b 17), .ref (b 18), .int (zb hs), .ref (b 19), .ref (b 20)])), ((b 14), .inl (cI, 6, .inl nd)), ((b 16), .inl (cI, 6, .inl gv))] U.heap ∧ va_K D cls (tyl cI cJ cZ cP cS) U)) (zq (some (.int (yno set nd gv 6)))) 0 0 (fun _ => False) := by
  refine Met.ofW (cc := b_MO_needOf) (maxL := 4) (ret := (some .int)) (by decide +kernel) rfl ?_
  intro p e s m args below meth c s₁ B hml hv
  obtain ⟨rfl, hok, hP, hK⟩ := hv
  have hx := B.exec
  have hb := B.bytes
  have hr := B.returns
  have hown : s.vm.findClass "StudyAuditModel" = some m.cls := findClass_of_methodNamed B.named
  have hlocks := B.notSynchronized
  have hl := lv_entry ([.ref h, .int set]) (n := 4) (Nat.le_of_ble_eq_true rfl)
  rw [lg_entry_eq]
  generalize (lg_sl ([.ref h, .int set]) ++ List.replicate (4 - (lg_sl ([.ref h, .int set])).length) Slot.unset).toArray = ls at hl ⊢
  have hl : lv_has ls 4 [(0, .ref h), (1, .int set)] := hl
  refine lv_iconst (v := 0) hx hb d_MO_needOf_0 (by decide) ?_
  refine lv_istore_n hx hb d_MO_needOf_1 rfl hl (by decide) rfl (fun ls hl => ?_)
  have hl : lv_has ls 4 [(2, .int 0), (0, .ref h), (1, .int set)] := hl
  refine lv_iconst (v := 1) hx hb d_MO_needOf_2 (by decide) ?_
  refine lv_istore_n hx hb d_MO_needOf_3 rfl hl (by decide) rfl (fun ls hl => ?_)
  have hl : lv_has ls 4 [(3, .int 1), (2, .int 0), (0, .ref h), (1, .int set)] := hl
  refine lo_needOf D cI cJ cZ cP cS h b th G C hs set nd gv hx hb hml hown hok hP hK (fun ls hl => ?_) (6 - 1) 1 ls (by omega) (by omega) (lv_sub hl [2, 3, 1, 0] rfl)
  refine lv_iload_n hx hb d_MO_needOf_45 rfl (lv_at hl 2 rfl) ?_
  exact W.iret hx hb hr (fun t ht _ => ⟨rfl, ht⟩) (fun q h => by cases h) d_MO_needOf_46
