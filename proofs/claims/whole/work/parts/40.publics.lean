/-! the other checks; the ends of the public methods (rows by program) -/
set_option maxHeartbeats 4000000 in
set_option maxRecDepth 100000 in
theorem m_SA_checkRequirement (l : Launch) (htr : l.stackTraces = false) (D : va_G) (cI cJ cZ cP cS : ClassId) (x hc hp hs0 hm hn hr0 : Nat) (g ad aa : Nat) (rq b d : Int32) (pf : Nat → Option Nat) (hb0 : b = -1 ∨ (vp_in b 3 ∧ va_rf (pf b.toNatClampNeg) = .ref g)) (H0 : Heap) : zt_Met l y_SA_checkRequirement [Cond.code y_SA_checkRequirement b_SA_checkRequirement 3 none] { frames := 7, cells := 1, slots := 6, locals := 104 } (va_Pc [.ref x, .int b, .int d] (fun U => U.heap = H0 ∧ tb_ok U ∧ zs_ok U U.heap ∧ va_P D cls [(x, .inr (0, [.ref hc, .ref hp, .ref hs0, .ref hm, .ref hn, .ref hr0])), (hp, .inl (cP, 3, .inr (.inr (.inr (.inr pf))))), (g, .inr (5, [.int rq, .ref ad, .ref aa]))] U.heap ∧ va_K D cls (tyl cI cJ cZ cP cS) U)) (zk_Q (zi 1 d (if b = -1 then 0 else rq)) (fun X => X = zx_iae ∧ ¬ zi 1 d (if b = -1 then 0 else rq)) H0) 1 6 (zk_new H0.size) := by
  refine zt_ofW (cc := b_SA_checkRequirement) (maxL := 3) (ret := none) (by decide) rfl ?_
  intro p e s m args below meth c s₁ B hml hemp hv
  obtain ⟨rfl, rfl, hok, hs, hP, hK⟩ := hv
  have hx := B.exec
  have hb := B.bytes
  have hr := B.returns
  have hown : s.vm.findClass "StudyAudit" = some m.cls := findClass_of_methodNamed B.named
  have hlocks := B.notSynchronized
  have hb9 := hb0
  have hl := lv_entry ([.ref x, .int b, .int d]) (n := 3) (Nat.le_of_ble_eq_true rfl)
  rw [lg_entry_eq]
  generalize (lg_sl ([.ref x, .int b, .int d]) ++ List.replicate (3 - (lg_sl ([.ref x, .int b, .int d])).length) Slot.unset).toArray = ls at hl ⊢
  have hl : lv_has ls 3 [(0, .ref x), (1, .int b), (2, .int d)] := hl
  refine lv_iconst (v := 1) hx hb d_SA_checkRequirement_0 (by decide) ?_
  refine lv_iload_n hx hb d_SA_checkRequirement_1 rfl (lv_at hl 2 rfl) ?_
  refine lv_iload_n hx hb d_SA_checkRequirement_2 rfl (lv_at hl 1 rfl) ?_
  refine lv_iconst (v := (-1)) hx hb d_SA_checkRequirement_3 (by decide) ?_
  refine lv_icmp_ne (tgt := 11) hx hb d_SA_checkRequirement_4 (by decide) (fun h4 => ?_) (fun h4 => ?_)
  · have hb2 := hb9.resolve_left h4
    refine lv_aload_n hx hb d_SA_checkRequirement_11 rfl (lv_at hl 0 rfl) ?_
    refine va_get (D := D) (ci := 0) (v := .ref hp) (C := R_SA) (T := F_SA) (N := 6) hx hb (tb_in hok in_SA) (fun w h => h) hown hK hP 0 rfl rfl 1 (by decide) (hok _ t_230 rfl _) (fun _ h9 => h9) rfl d_SA_checkRequirement_12 ?_
    refine lv_iload_n hx hb d_SA_checkRequirement_15 rfl (lv_at hl 1 rfl) ?_
    refine va_aldq hx hb hK hP 1 3 rfl rfl hb2.1 d_SA_checkRequirement_16 ?_
    rw [show va_rf (pf (Int32.toNatClampNeg b)) = .ref g from hb2.2]
    refine va_get (D := D) (ci := 5) (v := .int rq) (C := R_PR) (T := F_PR) (N := 3) hx hb (tb_in hok in_PR) (fun w h => h) hown hK hP 2 rfl rfl 0 (by decide) (hok _ t_81 rfl _) (fun _ h9 => h9) rfl d_SA_checkRequirement_17 ?_
    refine zk_call (zt_runS (Ts := []) (As := [.int 1, .int d, .int rq]) (rest := []) ⟨hx, hb, hml, hown, fun _ h => absurd h List.not_mem_nil⟩ (m_SA_checkBetween l htr 1 d rq s.heap) ⟨zc_B 3 hok c_SA_checkBetween_w t_1 t_261 rfl rfl (by decide +kernel) ⟨Nat.le_of_ble_eq_true rfl, Nat.le_of_ble_eq_true rfl⟩, hok _ t_262 rfl _⟩ ⟨fun a U g mk q => by obtain ⟨q0, q1, q2, q3⟩ := q; exact ⟨q0, q1, q2.call g mk a, q3.moved (Vm.Alike.refl _)⟩, fun U hU hW => ⟨rfl, hU, hok.warm hW, by rw [hU]; exact hs.moved hW.alike⟩⟩ rfl rfl hl.1 rfl (lv_room (Nat.le_of_ble_eq_true rfl)) d_SA_checkRequirement_20 ⟨Nat.le_of_ble_eq_true rfl, Nat.le_of_ble_eq_true rfl⟩) (Nat.le_refl _) (fun h20 => ?_) (fun ax X H1 hE hex k1 k2 => zt_widen (k := 1) (n := 6) (by decide) (by decide) (zk_on hlocks hemp rfl (⟨hE.1, by rw [if_neg h4]; exact hE.2⟩) hex k1 k2))
    exact W.widen (k := 1) (n := 6) (by decide) (by decide) (zt_ofMQ (W.vret hx hb hr (fun t ht _ => Or.inl ⟨rfl, by rw [if_neg h4]; exact h20, ht⟩) (fun q h => by cases h) d_SA_checkRequirement_23))
  · refine lv_iconst (v := 0) hx hb d_SA_checkRequirement_7 (by decide) ?_
    refine lv_goto (tgt := 20) hx hb d_SA_checkRequirement_8 (by decide) ?_
    refine zk_call (zt_runS (Ts := []) (As := [.int 1, .int d, .int 0]) (rest := []) ⟨hx, hb, hml, hown, fun _ h => absurd h List.not_mem_nil⟩ (m_SA_checkBetween l htr 1 d 0 s.heap) ⟨zc_B 3 hok c_SA_checkBetween_w t_1 t_261 rfl rfl (by decide +kernel) ⟨Nat.le_of_ble_eq_true rfl, Nat.le_of_ble_eq_true rfl⟩, hok _ t_262 rfl _⟩ ⟨fun a U g mk q => by obtain ⟨q0, q1, q2, q3⟩ := q; exact ⟨q0, q1, q2.call g mk a, q3.moved (Vm.Alike.refl _)⟩, fun U hU hW => ⟨rfl, hU, hok.warm hW, by rw [hU]; exact hs.moved hW.alike⟩⟩ rfl rfl hl.1 rfl (lv_room (Nat.le_of_ble_eq_true rfl)) d_SA_checkRequirement_20 ⟨Nat.le_of_ble_eq_true rfl, Nat.le_of_ble_eq_true rfl⟩) (Nat.le_refl _) (fun h20 => ?_) (fun ax X H1 hE hex k1 k2 => zt_widen (k := 1) (n := 6) (by decide) (by decide) (zk_on hlocks hemp rfl (⟨hE.1, by rw [if_pos h4]; exact hE.2⟩) hex k1 k2))
    exact W.widen (k := 1) (n := 6) (by decide) (by decide) (zt_ofMQ (W.vret hx hb hr (fun t ht _ => Or.inl ⟨rfl, by rw [if_pos h4]; exact h20, ht⟩) (fun q h => by cases h) d_SA_checkRequirement_23))
set_option maxHeartbeats 4000000 in
set_option maxRecDepth 100000 in
theorem m_SA_checkQuestion (l : Launch) (htr : l.stackTraces = false) (D : va_G) (cI cJ cZ cP cS : ClassId) (x hc hp hs0 hm hn hr0 : Nat) (g aps asf aex : Nat) (pg np b d : Int32) (sf0 : Nat → Option Nat) (hb0 : zi 0 b 3 → vp_in b 4 ∧ va_rf (sf0 b.toNatClampNeg) = .ref g) (H0 : Heap) : zt_Met l y_SA_checkQuestion [Cond.code y_SA_checkQuestion b_SA_checkQuestion 3 none] { frames := 8, cells := 3, slots := 18, locals := 125 } (va_Pc [.ref x, .int b, .int d] (fun U => U.heap = H0 ∧ tb_ok U ∧ zs_ok U U.heap ∧ va_P D cls [(x, .inr (0, [.ref hc, .ref hp, .ref hs0, .ref hm, .ref hn, .ref hr0])), (hs0, .inl (cS, 4, .inr (.inr (.inr (.inr sf0))))), (g, .inr (7, [.int pg, .ref aps, .ref asf, .int np, .ref aex]))] U.heap ∧ va_K D cls (tyl cI cJ cZ cP cS) U)) (zk_Q (zi 0 b 3 ∧ zi 0 d 99 ∧ ¬ pg = -1) (fun X => (X = zx_iae ∧ ¬ (zi 0 b 3 ∧ zi 0 d 99)) ∨ (X = zx_ise ∧ zi 0 b 3 ∧ zi 0 d 99 ∧ pg = -1)) H0) 3 18 (zk_new H0.size) := by
  refine zt_ofW (cc := b_SA_checkQuestion) (maxL := 3) (ret := none) (by decide) rfl ?_
  intro p e s m args below meth c s₁ B hml hemp hv
  obtain ⟨rfl, rfl, hok, hs, hP, hK⟩ := hv
  have hx := B.exec
  have hb := B.bytes
  have hr := B.returns
  have hown : s.vm.findClass "StudyAudit" = some m.cls := findClass_of_methodNamed B.named
  have hlocks := B.notSynchronized
  have hl := lv_entry ([.ref x, .int b, .int d]) (n := 3) (Nat.le_of_ble_eq_true rfl)
  rw [lg_entry_eq]
  generalize (lg_sl ([.ref x, .int b, .int d]) ++ List.replicate (3 - (lg_sl ([.ref x, .int b, .int d])).length) Slot.unset).toArray = ls at hl ⊢
  have hl : lv_has ls 3 [(0, .ref x), (1, .int b), (2, .int d)] := hl
  refine lv_aload_n hx hb d_SA_checkQuestion_0 rfl (lv_at hl 0 rfl) ?_
  refine lv_iload_n hx hb d_SA_checkQuestion_1 rfl (lv_at hl 1 rfl) ?_
  refine zk_call (zt_runV (Ts := []) (As := [.int b]) (rest := []) ⟨hx, hb, hml, hown, fun _ h => absurd h List.not_mem_nil⟩ (m_SA_checkStudent l htr x b s.heap) ⟨zc_B 1 hok c_SA_checkStudent_w t_1 t_430 rfl rfl (by decide +kernel) ⟨Nat.le_of_ble_eq_true rfl, Nat.le_of_ble_eq_true rfl⟩, hok _ t_432 rfl _, hok _ s_5 rfl _⟩ ⟨fun a U g mk q => by obtain ⟨q0, q1, q2, q3⟩ := q; exact ⟨q0, q1, q2.call g mk a, q3.moved (Vm.Alike.refl _)⟩, va_recv hK hP (ci := 0) (q0 := 0) rfl rfl, fun U hU hW => ⟨rfl, hU, hok.warm hW, by rw [hU]; exact hs.moved hW.alike⟩⟩ rfl rfl hl.1 rfl (lv_room (Nat.le_of_ble_eq_true rfl)) d_SA_checkQuestion_2 ⟨Nat.le_of_ble_eq_true rfl, Nat.le_of_ble_eq_true rfl⟩) (Nat.le_refl _) (fun h2 => ?_) (fun ax X H1 hE hex k1 k2 => zt_widen (k := 3) (n := 18) (by decide) (by decide) (zk_on hlocks hemp rfl (Or.inl ⟨hE.1, fun z => hE.2 z.1⟩) hex k1 k2))
  refine lv_iconst (v := 0) hx hb d_SA_checkQuestion_5 (by decide) ?_
  refine lv_iload_n hx hb d_SA_checkQuestion_6 rfl (lv_at hl 2 rfl) ?_
  refine lv_bipush (v := 99) hx hb d_SA_checkQuestion_7 (by decide) ?_
  refine zk_call (zt_runS (Ts := []) (As := [.int 0, .int d, .int 99]) (rest := []) ⟨hx, hb, hml, hown, fun _ h => absurd h List.not_mem_nil⟩ (m_SA_checkBetween l htr 0 d 99 s.heap) ⟨zc_B 3 hok c_SA_checkBetween_w t_1 t_261 rfl rfl (by decide +kernel) ⟨Nat.le_of_ble_eq_true rfl, Nat.le_of_ble_eq_true rfl⟩, hok _ t_262 rfl _⟩ ⟨fun a U g mk q => by obtain ⟨q0, q1, q2, q3⟩ := q; exact ⟨q0, q1, q2.call g mk a, q3.moved (Vm.Alike.refl _)⟩, fun U hU hW => ⟨rfl, hU, hok.warm hW, by rw [hU]; exact hs.moved hW.alike⟩⟩ rfl rfl hl.1 rfl (lv_room (Nat.le_of_ble_eq_true rfl)) d_SA_checkQuestion_9 ⟨Nat.le_of_ble_eq_true rfl, Nat.le_of_ble_eq_true rfl⟩) (Nat.le_refl _) (fun h9 => ?_) (fun ax X H1 hE hex k1 k2 => zt_widen (k := 3) (n := 18) (by decide) (by decide) (zk_on hlocks hemp rfl (Or.inl ⟨hE.1, fun z => hE.2 z.2⟩) hex k1 k2))
  have hb2 := hb0 h2
  refine lv_aload_n hx hb d_SA_checkQuestion_12 rfl (lv_at hl 0 rfl) ?_
  refine va_get (D := D) (ci := 0) (v := .ref hs0) (C := R_SA) (T := F_SA) (N := 6) hx hb (tb_in hok in_SA) (fun w h => h) hown hK hP 0 rfl rfl 2 (by decide) (hok _ t_231 rfl _) (fun _ h9 => h9) rfl d_SA_checkQuestion_13 ?_
  refine lv_iload_n hx hb d_SA_checkQuestion_16 rfl (lv_at hl 1 rfl) ?_
  refine va_aldq hx hb hK hP 1 4 rfl rfl hb2.1 d_SA_checkQuestion_17 ?_
  rw [show va_rf (sf0 (Int32.toNatClampNeg b)) = .ref g from hb2.2]
  refine va_get (D := D) (ci := 7) (v := .int pg) (C := R_ST) (T := F_ST) (N := 5) hx hb (tb_in hok in_ST) (fun w h => h) hown hK hP 2 rfl rfl 0 (by decide) (hok _ t_105 rfl _) (fun _ h9 => h9) rfl d_SA_checkQuestion_18 ?_
  refine lv_iconst (v := (-1)) hx hb d_SA_checkQuestion_21 (by decide) ?_
  refine lv_icmp_ne (tgt := 35) hx hb d_SA_checkQuestion_22 (by decide) (fun h22 => ?_) (fun h22 => ?_)
  · exact W.widen (k := 3) (n := 18) (by decide) (by decide) (zt_ofMQ (W.vret hx hb hr (fun t ht _ => Or.inl ⟨rfl, ⟨h2, h9, h22⟩, ht⟩) (fun q h => by cases h) d_SA_checkQuestion_35))
  · exact zk_throwL hx hb htr hown hok (by decide +kernel) (zx_use hok hs zx_ise_l) t_335 t_336 t_15 t_502 (by rw [hml]; exact hl.1) hlocks hemp d_SA_checkQuestion_25 d_SA_checkQuestion_28 d_SA_checkQuestion_29 d_SA_checkQuestion_31 d_SA_checkQuestion_34 (Nat.le_of_ble_eq_true rfl) (Nat.le_of_ble_eq_true rfl) (Nat.le_of_ble_eq_true rfl) (Nat.le_of_ble_eq_true rfl) (Or.inr ⟨rfl, h2, h9, h22⟩)
set_option maxHeartbeats 4000000 in
set_option maxRecDepth 100000 in
theorem m_SA_checkReceipt (l : Launch) (htr : l.stackTraces = false) (D : va_G) (cI cJ cZ cP cS : ClassId) (x hc hp hs0 hm hn hr0 : Nat) (aro : Nat) (it : Bool) (rs rt rn rg ru run rus : Int32) (H0 : Heap) : zt_Met l y_SA_checkReceipt [Cond.code y_SA_checkReceipt b_SA_checkReceipt 1 none] { frames := 6, cells := 1, slots := 6, locals := 82 } (va_Pc [.ref x] (fun U => U.heap = H0 ∧ tb_ok U ∧ zs_ok U U.heap ∧ va_P D cls [(x, .inr (0, [.ref hc, .ref hp, .ref hs0, .ref hm, .ref hn, .ref hr0])), (hr0, .inr (6, [.int (zb it), .int rs, .int rt, .int rn, .int rg, .ref aro, .int ru, .int run, .int rus]))] U.heap ∧ va_K D cls (tyl cI cJ cZ cP cS) U)) (zk_Q (it = true) (fun X => X = zx_nse ∧ it = false) H0) 1 6 (zk_new H0.size) := by
  refine zt_ofW (cc := b_SA_checkReceipt) (maxL := 1) (ret := none) (by decide) rfl ?_
  intro p e s m args below meth c s₁ B hml hemp hv
  obtain ⟨rfl, rfl, hok, hs, hP, hK⟩ := hv
  have hx := B.exec
  have hb := B.bytes
  have hr := B.returns
  have hown : s.vm.findClass "StudyAudit" = some m.cls := findClass_of_methodNamed B.named
  have hlocks := B.notSynchronized
  have hl := lv_entry ([.ref x]) (n := 1) (Nat.le_of_ble_eq_true rfl)
  rw [lg_entry_eq]
  generalize (lg_sl ([.ref x]) ++ List.replicate (1 - (lg_sl ([.ref x])).length) Slot.unset).toArray = ls at hl ⊢
  have hl : lv_has ls 1 [(0, .ref x)] := hl
  refine lv_aload_n hx hb d_SA_checkReceipt_0 rfl (lv_at hl 0 rfl) ?_
  refine va_get (D := D) (ci := 0) (v := .ref hr0) (C := R_SA) (T := F_SA) (N := 6) hx hb (tb_in hok in_SA) (fun w h => h) hown hK hP 0 rfl rfl 5 (by decide) (hok _ t_234 rfl _) (fun _ h9 => h9) rfl d_SA_checkReceipt_1 ?_
  refine va_get (D := D) (ci := 6) (v := .int (zb it)) (C := R_RE) (T := F_RE) (N := 9) hx hb (tb_in hok in_RE) (fun w h => h) hown hK hP 1 rfl rfl 0 (by decide) (hok _ t_197 rfl _) (fun _ h9 => h9) rfl d_SA_checkReceipt_4 ?_
  refine lv_if_ne (tgt := 20) hx hb d_SA_checkReceipt_7 (by decide) (fun h7 => ?_) (fun h7 => ?_)
  · exact W.widen (k := 1) (n := 6) (by decide) (by decide) (zt_ofMQ (W.vret hx hb hr (fun t ht _ => Or.inl ⟨rfl, by cases it with | true => rfl | false => exact absurd rfl h7, ht⟩) (fun q h => by cases h) d_SA_checkReceipt_20))
  · exact zn_throw hx hb htr hown hok hs t_636 t_637 t_18 t_645 (by rw [hml]; exact hl.1) hlocks hemp d_SA_checkReceipt_10 d_SA_checkReceipt_13 d_SA_checkReceipt_14 d_SA_checkReceipt_16 d_SA_checkReceipt_19 (Nat.le_of_ble_eq_true rfl) (Nat.le_of_ble_eq_true rfl) (Nat.le_of_ble_eq_true rfl) (Nat.le_of_ble_eq_true rfl) ⟨rfl, by cases it with | true => exact absurd h7 (by decide) | false => rfl⟩
/-- returned with its cells written, or threw with the old cells kept -/
def zp_Q (v : Option Value) (ok : Prop) (E : String → Prop) (D : va_G) (wc wc1 : va_W) (sz : Nat) : Array Value → State → Outcome → State → Prop := fun _ st oc t =>
  ((oc = .returned v ∧ ok ∧ va_P D cls wc1 t.heap ∧ va_D (va_A wc sz) wc1) ∨ (∃ (ax : Addr) (X : String), oc = .threw ax ∧ E X ∧ zt_ex X ax sz t t.heap ∧ va_P D cls wc t.heap ∧ va_D (va_A wc sz) wc)) ∧ va_F (va_A wc sz) st t
theorem va_at_lt {D : va_G} {q : Nat × va_E} {H : Heap} (h : va_at D cls q H) : q.1 < H.size := by
  unfold va_at at h
  split at h
  · exact (Array.getElem?_eq_some_iff.mp h).1
  · obtain ⟨r, -, cell, q1, -⟩ := h; exact (Array.getElem?_eq_some_iff.mp q1).1
theorem zp_conv {ok ok0 : Prop} {E : String → Prop} {D : va_G} {wc wc1 : va_W} {v : Option Value} {below : List Frame} {args : Array Value} {s t : State} {mc ms : Nat} (h0 : ¬ ok0) (hP : va_P D cls wc s.heap) (hD : va_D (va_A wc s.heap.size) wc)
    (h : zt_MQ below (zk_Q ok0 E s.heap) args s mc ms (zk_new s.heap.size) t) : zt_MQ below (zp_Q v ok E D wc wc1 s.heap.size) args s mc ms (va_A wc s.heap.size) t := by
  obtain ⟨o, g1, g2, g3, L, g4, g5⟩ := h
  refine ⟨o, g1, g2, ?_, L, g4, fun q hq => Or.inr (g5 q hq)⟩
  rcases g3 with ⟨-, z, -⟩ | ⟨ax, X, e1, e2, e3, e4, e5⟩
  · exact absurd z h0
  · exact ⟨Or.inr ⟨ax, X, e1, e2, e3, hP.kept (fun k q hk => e5 _ (va_at_lt (hP k q hk))), hD⟩, e4, fun q hq _ => e5 q hq⟩
section ZPC
variable {p : Program} {l : Launch} {e : Env} {R : Room} {s : State} {m : MethodId} {args : Array Value} {below : List Frame} {meth : Method} {c : Code} {H : Heap} {locs : List Loc} {cells slots : Nat} {Q1 Q2 : State → Prop}
theorem zt_Tmono {g : JFrame} {a : Addr} (h : ∀ t, Q1 t → Q2 t) (k : zt_T p l e R s m args below meth c H locs cells slots Q1 g a) : zt_T p l e R s m args below meth c H locs cells slots Q2 g a := by
  intro T hT X
  obtain ⟨t, a1, b⟩ := k T hT X
  exact ⟨t, a1, h t b⟩
end ZPC
