/-! THE CLAIM OUT OF ONE WALK OF THE LAW'S BODY. Your part is whole_start (and what it stands on); all else here is the same for every law, but numbers. -/
def R_law : String := "StudyAuditLaw"
def lw_P (b : Addr) (xs : List Int32) (args : Array Value) (s : State) : Prop := args = #[.ref b] ∧ s.IntsAt b xs ∧ xs.length ≤ 2048 ∧ (Jvm.Cond.and given_1 narrow_1).before args s = true
def lw_Q (_ : Array Value) (s : State) (o : Outcome) (t : State) : Prop := o = .returned (some (.int 1)) ∧ Framed s o t [] 601024 7293034
def lw_Z (below : List Frame) (a : Array Value) (s : State) : State → Prop := fun t => ∃ o, t.status = .running ∧ Ended t below o ∧ lw_Q a s o t
/-- the law's own end, with 1 on the stack, nothing written that was there before, its room as the claim has it -/
theorem lw_ret {p : Program} {l : Launch} {e : Env} {s : State} {m : MethodId} {below : List Frame} {meth : Method} {c : Code} {b : Nat} (hx : p.tables.exec = Jvm.exec) (hb : c.code = code) (hr : meth.sig.returnType = ret) (hlocks : meth.locks = false) {pc : Nat} {H : Heap} {ls : Array Slot} (hdg : decode code pc = .ok (.ireturn, 1)) : W p l e room_1 s m #[Value.ref b] below meth c H [] 601024 7293034 (lw_Z below #[Value.ref b] s) (F0 m pc ls [.int 1]) := by
  intro T hT X
  obtain ⟨fs, hret, hrun, hended, hW, hframe⟩ := X.leave (v := some (.int 1)) (hlocks := hlocks) (fun h => by rw [hr] at h; cases h)
  have hmeth' : T.vm.method? m = some meth := X.method'
  refine ⟨T.setFrames fs, ?_, .returned (some (.int 1)), hrun, hended, rfl, ⟨_, rfl⟩, hW, hframe⟩
  jvm_step X.here [X.here.top, hx, hb, hdg, hmeth', hr, ret, narrow_b1]
  (try refine ⟨rfl, ?_⟩); (try refine ⟨rfl, ?_⟩)
  first | (intro acts; rw [hret _ acts rfl rfl rfl]) | rw [hret _ _ rfl rfl rfl]
  exact Steps.refl _
/-- what holds at the law's entry: the machine, the code, the tables' words (any of lw_tbl by 'hts w (by decide +kernel)'), the script of L ints xs at the cell b, what the Statement gives of the start (any of its parts by flat_of_before) -/
def lw_At (p : Program) (s : State) (m : MethodId) (meth : Method) (c : Code) (b L : Nat) (xs : Nat → Int32) : Prop :=
  p.tables.exec = Jvm.exec ∧ c.code = code ∧ meth.sig.returnType = ret ∧ c.maxLocals = 7 ∧ s.vm.findClass R_law = some m.cls ∧ (∀ w ∈ lw_tbl, w.before #[Value.ref b] s = true) ∧ va_X b L xs s s.heap ∧ b < s.heap.size ∧ meth.locks = false ∧ (Jvm.Cond.and given_1 narrow_1).before #[Value.ref b] s = true
theorem zj_31 (y : Int32) : ∃ j, j < 32 ∧ y &&& 31 = nI j := by
  have h1 : (y &&& 31).toBitVec.toNat < 32 := by
    rw [Int32.toBitVec_and, BitVec.toNat_and]
    have : (31 : Int32).toBitVec.toNat = 31 := by decide
    rw [this]
    exact Nat.lt_of_le_of_lt Nat.and_le_right (by omega)
  refine ⟨(y &&& 31).toBitVec.toNat, h1, ?_⟩
  apply Int32.toBitVec_inj.1
  unfold nI; rw [Int32.toBitVec_ofNat', BitVec.ofNat_toNat]; simp
theorem zj_gt {k L : Nat} (hL : L ≤ 2048) (hk : 4 * k ≤ 4096) : nI (4 * k) ≤ Int32.ofNat L - 4 ↔ 4 * k + 4 ≤ L := by
  have e : (Int32.ofNat L - 4).toInt = (L : Int) - 4 := by
    show (nI L - 4).toInt = _
    have h4 : (4 : Int32).toInt = 4 := by decide
    rw [rf_sub (by rw [rf_nI (by omega), h4]; omega) (by rw [rf_nI (by omega), h4]; omega), rf_nI (by omega), h4]
  rw [rf_le, e, rf_nI (by omega)]; omega
set_option maxHeartbeats 4000000 in
set_option maxRecDepth 100000 in
theorem lw_loop {p : Program} {l : Launch} {e : Env} {s : State} {m : MethodId} {below : List Frame} {meth : Method} {c : Code} {b L : Nat} {xs : Nat → Int32} {D : va_G} {cI cJ cZ cP cS : ClassId} {a : Nat → Nat} {ao h : Nat} {bb : Nat → Nat} (J : zJ p l s m c b L xs D cI cJ cZ cP cS) (hr : meth.sig.returnType = ret) (hlk : meth.locks = false) :
    ∀ (n k : Nat) (X : XS) (M : MS) (ov : Nat → Int64) (H : Heap) (locs : List Loc) (ls : Array Slot) (cells slots : Nat), L < 4 * k + 4 * n → 4 * k ≤ L + 4 → LI X M → va_P D cls (zxo cI cJ cP cS a X ao ov ++ ymc cI cZ h bb M) H → va_D (va_A [] s.heap.size) (zxo cI cJ cP cS a X ao ov ++ ymc cI cZ h bb M) → va_S (va_A [] s.heap.size) s.heap H locs → lv_has ls 7 [(4, .int (nI (4 * k))), (3, .ref ao), (2, .ref h), (1, .ref (a 0)), (0, .ref b)] → cells + 4 * n ≤ 601024 → slots + 24 * n ≤ 7293034 →
      W p l e room_1 s m #[Value.ref b] below meth c H locs cells slots (lw_Z below #[Value.ref b] s) (F0 m 23 ls []) := by
  intro n
  induction n with
  | zero =>
    intro k X M ov H locs ls cells slots hn hkl hLI hP hD hS hl hc1 hc2
    have hx := J.hx
    have hb := J.hb
    have hL := J.hL
    refine lv_iload hx hb d_LA_law_23 (lv_at hl 0 rfl) ?_
    refine lv_aload_n hx hb d_LA_law_25 rfl (lv_at hl 4 rfl) ?_
    refine va_slen hx hb J.hX J.hbl (zj_bA J.hbl) hS d_LA_law_26 ?_
    refine lv_iconst (v := 4) hx hb d_LA_law_27 (by decide) ?_
    refine lv_isub hx hb d_LA_law_28 ?_
    refine lv_icmp_gt (tgt := 1350) hx hb d_LA_law_29 (by decide) (fun hg => ?_) (fun hg => ?_)
    · refine lv_iconst (v := 1) hx hb d_LA_law_1350 (by decide) ?_
      refine va_forget (fun q hq => ?_) (W.widen (k := 601024) (n := 7293034) (by omega) (by omega) (lw_ret hx hb hr hlk d_LA_law_1351))
      rcases hS.2.2 q hq with ⟨_, _, z⟩ | z
      · cases z
      · exact z
    · exact absurd ((zj_gt hL (by omega)).1 (Int32.not_lt.1 hg)) (by omega)
  | succ n ih =>
    intro k X M ov H locs ls cells slots hn hkl hLI hP hD hS hl hc1 hc2
    have hx := J.hx
    have hb := J.hb
    have hL := J.hL
    refine lv_iload hx hb d_LA_law_23 (lv_at hl 0 rfl) ?_
    refine lv_aload_n hx hb d_LA_law_25 rfl (lv_at hl 4 rfl) ?_
    refine va_slen hx hb J.hX J.hbl (zj_bA J.hbl) hS d_LA_law_26 ?_
    refine lv_iconst (v := 4) hx hb d_LA_law_27 (by decide) ?_
    refine lv_isub hx hb d_LA_law_28 ?_
    refine lv_icmp_gt (tgt := 1350) hx hb d_LA_law_29 (by decide) (fun hg => ?_) (fun hg => ?_)
    · refine lv_iconst (v := 1) hx hb d_LA_law_1350 (by decide) ?_
      refine va_forget (fun q hq => ?_) (W.widen (k := 601024) (n := 7293034) (by omega) (by omega) (lw_ret hx hb hr hlk d_LA_law_1351))
      rcases hS.2.2 q hq with ⟨_, _, z⟩ | z
      · cases z
      · exact z
    · have hk : 4 * k + 4 ≤ L := (zj_gt hL (by omega)).1 (Int32.not_lt.1 hg)
      have kk : zKK p l e s m #[Value.ref b] below meth c (lw_Z below #[Value.ref b] s) D cI cJ cZ cP cS a ao h bb b k cells slots := fun X M ov H locs ls hLI hP hD hS hl => by
        refine lv_iinc (v := nI (4 * (k + 1))) hx hb d_LA_law_1344 hl (k := 0) rfl (by show nI (4 * k) + nI 4 = _; exact zj_ad (4 * k) 4) (by decide) rfl (fun ls hl => ?_)
        refine lv_goto (tgt := 23) hx hb d_LA_law_1347 (by decide) ?_
        exact ih (k + 1) X M ov H locs ls (cells + 4) (slots + 24) (by omega) (by omega) hLI hP hD hS hl (by omega) (by omega)
      refine lv_aload_n hx hb d_LA_law_32 rfl (lv_at hl 4 rfl) ?_
      refine lv_iload hx hb d_LA_law_33 (lv_at hl 0 rfl) ?_
      refine va_sld hx hb J.hX J.hbl (zj_bA J.hbl) hS (vp_in_nI (show 4 * k < L by omega) (by omega)) d_LA_law_35 ?_
      refine lv_bipush (v := 31) hx hb d_LA_law_36 (by decide) ?_
      refine lv_iand hx hb d_LA_law_38 ?_
      obtain ⟨j, hj, ej⟩ := zj_31 (xs (nI (4 * k)).toNatClampNeg)
      refine W.eq (g2 := F0 m 39 ls [.int (nI j)]) (by rw [← ej]) ?_
      by_cases hj17 : 16 < j
      · refine lv_tableOut (tgt := 1344) hx hb d_LA_law_39 (Or.inr (by rw [rf_nI (by omega)]; omega)) (by decide) ?_
        exact W.widen (by omega) (by omega) (kk X M ov H locs ls hLI hP hD hS hl)
      by_cases hj0 : j = 0
      · subst hj0
        refine lv_tableIn (off := 81) (tgt := 120) hx hb d_LA_law_39 (by decide) (by decide) rfl (by decide) ?_
        exact lw_group J hk hLI hP hD hS hl (by omega) (by omega) kk
      by_cases hj1 : j = 1
      · subst hj1
        refine lv_tableIn (off := 149) (tgt := 188) hx hb d_LA_law_39 (by decide) (by decide) rfl (by decide) ?_
        exact lw_course J hk hLI hP hD hS hl (by omega) (by omega) kk
      by_cases hj2 : j = 2
      · subst hj2
        refine lv_tableIn (off := 205) (tgt := 244) hx hb d_LA_law_39 (by decide) (by decide) rfl (by decide) ?_
        exact lw_open J hk hLI hP hD hS hl (by omega) (by omega) kk
      by_cases hj3 : j = 3
      · subst hj3
        refine lv_tableIn (off := 296) (tgt := 335) hx hb d_LA_law_39 (by decide) (by decide) rfl (by decide) ?_
        exact lw_expire J hk hLI hP hD hS hl (by omega) (by omega) kk
      by_cases hj4 : j = 4
      · subst hj4
        refine lv_tableIn (off := 364) (tgt := 403) hx hb d_LA_law_39 (by decide) (by decide) rfl (by decide) ?_
        exact lw_requirement J hk hLI hP hD hS hl (by omega) (by omega) kk
      by_cases hj5 : j = 5
      · subst hj5
        refine lv_tableIn (off := 432) (tgt := 471) hx hb d_LA_law_39 (by decide) (by decide) rfl (by decide) ?_
        exact lw_allow J hk hLI hP hD hS hl (by omega) (by omega) kk
      by_cases hj6 : j = 6
      · subst hj6
        refine lv_tableIn (off := 519) (tgt := 558) hx hb d_LA_law_39 (by decide) (by decide) rfl (by decide) ?_
        exact lw_student J hk hLI hP hD hS hl (by omega) (by omega) kk
      by_cases hj7 : j = 7
      · subst hj7
        refine lv_tableIn (off := 587) (tgt := 626) hx hb d_LA_law_39 (by decide) (by decide) rfl (by decide) ?_
        exact lw_pass J hk hLI hP hD hS hl (by omega) (by omega) kk
      by_cases hj8 : j = 8
      · subst hj8
        refine lv_tableIn (off := 667) (tgt := 706) hx hb d_LA_law_39 (by decide) (by decide) rfl (by decide) ?_
        exact lw_substitute J hk hLI hP hD hS hl (by omega) (by omega) kk
      by_cases hj9 : j = 9
      · subst hj9
        refine lv_tableIn (off := 754) (tgt := 793) hx hb d_LA_law_39 (by decide) (by decide) rfl (by decide) ?_
        exact lw_exempt J hk hLI hP hD hS hl (by omega) (by omega) kk
      by_cases hj10 : j = 10
      · subst hj10
        refine lv_tableIn (off := 834) (tgt := 873) hx hb d_LA_law_39 (by decide) (by decide) rfl (by decide) ?_
        exact lw_lives J hk hLI hP hD hS hl (by omega) (by omega) kk
      by_cases hj11 : j = 11
      · subst hj11
        refine lv_tableIn (off := 921) (tgt := 960) hx hb d_LA_law_39 (by decide) (by decide) rfl (by decide) ?_
        exact lw_audit J hk hLI hP hD hS hl (by omega) (by omega) kk
      by_cases hj12 : j = 12
      · subst hj12
        refine lv_tableIn (off := 989) (tgt := 1028) hx hb d_LA_law_39 (by decide) (by decide) rfl (by decide) ?_
        exact lw_assigned J hk hLI hP hD hS hl (by omega) (by omega) kk
      by_cases hj13 : j = 13
      · subst hj13
        refine lv_tableIn (off := 1045) (tgt := 1084) hx hb d_LA_law_39 (by decide) (by decide) rfl (by decide) ?_
        exact lw_used J hk hLI hP hD hS hl (by omega) (by omega) kk
      by_cases hj14 : j = 14
      · subst hj14
        refine lv_tableIn (off := 1101) (tgt := 1140) hx hb d_LA_law_39 (by decide) (by decide) rfl (by decide) ?_
        exact lw_receipt J hk hLI hP hD hS hl (by omega) (by omega) kk
      by_cases hj15 : j = 15
      · subst hj15
        refine lv_tableIn (off := 1157) (tgt := 1196) hx hb d_LA_law_39 (by decide) (by decide) rfl (by decide) ?_
        exact lw_supply J hk hLI hP hD hS hl (by omega) (by omega) kk
      by_cases hj16 : j = 16
      · subst hj16
        refine lv_tableIn (off := 1237) (tgt := 1276) hx hb d_LA_law_39 (by decide) (by decide) rfl (by decide) ?_
        exact lw_fewestMore J hk hLI hP hD hS hl (by omega) (by omega) kk
      exact absurd hj (by omega)
