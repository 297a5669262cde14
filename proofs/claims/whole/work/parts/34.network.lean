/-! the network (rows by program) -/
abbrev zFAR : Int64 := 4611686018427387904
def zis (fn tn : Nat → Nat) (pr d : Nat → Int64) (i : Nat) : Bool := decide (¬ lg_cmp (d (fn i)) zFAR = 0 ∧ ¬ 0 ≤ lg_cmp (d (fn i) + pr i) (d (tn i)))
abbrev ro_NE_isShortcut : Room := { frames := 0, cells := 0, slots := 0, locals := 0 }
set_option maxHeartbeats 4000000 in
set_option maxRecDepth 100000 in
theorem m_NE_isShortcut (l : Launch) (D : va_G) (cI cJ cZ cP cS : ClassId) (h af at0 ar ap ad av A0 : Nat) (pd : Int64) (i : Nat) (fn tn : Nat → Nat) (pr : Nat → Int64) (d : Nat → Int64) (hfn : ∀ j, j < 166 → fn j < 25 ∧ tn j < 25) (hi : i < 166) : Met l y_NE_isShortcut [Cond.code y_NE_isShortcut b_NE_isShortcut 4 (some .boolean)] ro_NE_isShortcut (va_Pc [.ref h, .int (nI i)] (fun U => tb_ok U ∧ va_P D cls [(h, .inr (3, [.int (nI A0), .ref af, .ref at0, .ref ar, .long pd, .ref ap, .ref ad, .ref av])), (af, .inl (cI, 166, .inl (fun j => nI (fn j)))), (at0, .inl (cI, 166, .inl (fun j => nI (tn j)))), (ap, .inl (cJ, 166, .inr (.inl pr))), (ad, .inl (cJ, 25, .inr (.inl d)))] U.heap ∧ va_K D cls (tyl cI cJ cZ cP cS) U)) (zq (some (.int (zb (zis fn tn pr d i))))) 0 0 (fun _ => False) := by
  refine Met.ofW (cc := b_NE_isShortcut) (maxL := 4) (ret := (some .boolean)) (by decide +kernel) rfl ?_
  intro p e s m args below meth c s₁ B hml hv
  obtain ⟨rfl, hok, hP, hK⟩ := hv
  have hx := B.exec
  have hb := B.bytes
  have hr := B.returns
  have hown : s.vm.findClass "StudyAudit$Network" = some m.cls := findClass_of_methodNamed B.named
  have hlocks := B.notSynchronized
  have hl := lv_entry ([.ref h, .int (nI i)]) (n := 4) (Nat.le_of_ble_eq_true rfl)
  rw [lg_entry_eq]
  generalize (lg_sl ([.ref h, .int (nI i)]) ++ List.replicate (4 - (lg_sl ([.ref h, .int (nI i)])).length) Slot.unset).toArray = ls at hl ⊢
  have hl : lv_has ls 4 [(0, .ref h), (1, .int (nI i))] := hl
  refine lv_aload_n hx hb d_NE_isShortcut_0 rfl (lv_at hl 0 rfl) ?_
  refine va_get (D := D) (ci := 3) (v := .ref ad) (C := R_NE) (T := F_NE) (N := 8) hx hb (tb_in hok in_NE) (fun w h => h) hown hK hP 0 rfl rfl 6 (by decide) (hok _ t_167 rfl _) (fun _ h9 => h9) rfl d_NE_isShortcut_1 ?_
  refine lv_aload_n hx hb d_NE_isShortcut_4 rfl (lv_at hl 0 rfl) ?_
  refine va_get (D := D) (ci := 3) (v := .ref af) (C := R_NE) (T := F_NE) (N := 8) hx hb (tb_in hok in_NE) (fun w h => h) hown hK hP 0 rfl rfl 1 (by decide) (hok _ t_158 rfl _) (fun _ h9 => h9) rfl d_NE_isShortcut_5 ?_
  refine lv_iload_n hx hb d_NE_isShortcut_8 rfl (lv_at hl 1 rfl) ?_
  refine va_iald hx hb hK hP 1 0 rfl rfl (vp_in_nI (by omega) (by omega)) d_NE_isShortcut_9 ?_
  rw [nI_clamp (show i < 2 ^ 31 from by omega)]
  refine va_lald hx hb hK hP 4 1 rfl rfl (vp_in_nI (hfn i hi).1 (by omega)) d_NE_isShortcut_10 ?_
  rw [nI_clamp (show (fn i) < 2 ^ 31 from Nat.lt_trans (hfn i hi).1 (by omega))]
  refine lv_lstore_n hx hb d_NE_isShortcut_11 rfl hl (by decide) rfl (fun ls hl => ?_)
  have hl : lv_has ls 4 [(2, .long (d (fn i))), (0, .ref h), (1, .int (nI i))] := hl
  refine lv_lload_n hx hb d_NE_isShortcut_12 rfl (lv_at hl 0 rfl) ?_
  refine lv_ldc2 (v := 4611686018427387904) hx hb hown (hok _ t_562 rfl _) d_NE_isShortcut_13 ?_
  refine W.lcmp hx hb d_NE_isShortcut_16 ?_
  refine lv_if_eq (tgt := 47) hx hb d_NE_isShortcut_17 (by decide) (fun h17 => ?_) (fun h17 => ?_)
  · refine lv_iconst (v := 0) hx hb d_NE_isShortcut_47 (by decide) ?_
    exact W.zret hx hb hr (by decide) (fun t ht _ => ⟨by simp [zb, zis, h17], ht⟩) (fun q h => by cases h) d_NE_isShortcut_48
  · refine lv_lload_n hx hb d_NE_isShortcut_20 rfl (lv_at hl 0 rfl) ?_
    refine lv_aload_n hx hb d_NE_isShortcut_21 rfl (lv_at hl 1 rfl) ?_
    refine va_get (D := D) (ci := 3) (v := .ref ap) (C := R_NE) (T := F_NE) (N := 8) hx hb (tb_in hok in_NE) (fun w h => h) hown hK hP 0 rfl rfl 5 (by decide) (hok _ t_166 rfl _) (fun _ h9 => h9) rfl d_NE_isShortcut_22 ?_
    refine lv_iload_n hx hb d_NE_isShortcut_25 rfl (lv_at hl 2 rfl) ?_
    refine va_lald hx hb hK hP 3 1 rfl rfl (vp_in_nI (by omega) (by omega)) d_NE_isShortcut_26 ?_
    rw [nI_clamp (show i < 2 ^ 31 from by omega)]
    refine lv_ladd hx hb d_NE_isShortcut_27 ?_
    refine lv_aload_n hx hb d_NE_isShortcut_28 rfl (lv_at hl 1 rfl) ?_
    refine va_get (D := D) (ci := 3) (v := .ref ad) (C := R_NE) (T := F_NE) (N := 8) hx hb (tb_in hok in_NE) (fun w h => h) hown hK hP 0 rfl rfl 6 (by decide) (hok _ t_167 rfl _) (fun _ h9 => h9) rfl d_NE_isShortcut_29 ?_
    refine lv_aload_n hx hb d_NE_isShortcut_32 rfl (lv_at hl 1 rfl) ?_
    refine va_get (D := D) (ci := 3) (v := .ref at0) (C := R_NE) (T := F_NE) (N := 8) hx hb (tb_in hok in_NE) (fun w h => h) hown hK hP 0 rfl rfl 2 (by decide) (hok _ t_160 rfl _) (fun _ h9 => h9) rfl d_NE_isShortcut_33 ?_
    refine lv_iload_n hx hb d_NE_isShortcut_36 rfl (lv_at hl 2 rfl) ?_
    refine va_iald hx hb hK hP 2 0 rfl rfl (vp_in_nI (by omega) (by omega)) d_NE_isShortcut_37 ?_
    rw [nI_clamp (show i < 2 ^ 31 from by omega)]
    refine va_lald hx hb hK hP 4 1 rfl rfl (vp_in_nI (hfn i hi).2 (by omega)) d_NE_isShortcut_38 ?_
    rw [nI_clamp (show (tn i) < 2 ^ 31 from Nat.lt_trans (hfn i hi).2 (by omega))]
    refine W.lcmp hx hb d_NE_isShortcut_39 ?_
    refine lv_if_ge (tgt := 47) hx hb d_NE_isShortcut_40 (by decide) (fun h40 => ?_) (fun h40 => ?_)
    · refine lv_iconst (v := 0) hx hb d_NE_isShortcut_47 (by decide) ?_
      exact W.zret hx hb hr (by decide) (fun t ht _ => ⟨by simp [zb, zis, h17, h40], ht⟩) (fun q h => by cases h) d_NE_isShortcut_48
    · refine lv_iconst (v := 1) hx hb d_NE_isShortcut_43 (by decide) ?_
      refine lv_goto (tgt := 48) hx hb d_NE_isShortcut_44 (by decide) ?_
      exact W.zret hx hb hr (by decide) (fun t ht _ => ⟨by simp [zb, zis, h17, h40], ht⟩) (fun q h => by cases h) d_NE_isShortcut_48
def zso (fn tn : Nat → Nat) (pr : Nat → Int64) (rm : Nat → Int32) (q : (Nat → Int64) × (Nat → Nat) × Bool) : Nat → (Nat → Int64) × (Nat → Nat) × Bool
  | 0 => q
  | i + 1 => if ¬ rm i ≤ 0 ∧ zis fn tn pr (zso fn tn pr rm q i).1 i = true then (vp_updL (zso fn tn pr rm q i).1 (tn i) ((zso fn tn pr rm q i).1 (fn i) + pr i), mf_up (zso fn tn pr rm q i).2.1 (tn i) i, true) else zso fn tn pr rm q i
theorem z_upn (f : Nat → Nat) (k i : Nat) : upd (fun j => nI (f j)) k (nI i) = fun j => nI (mf_up f k i j) := by
  funext j
  unfold upd mf_up
  split <;> rfl
abbrev ro_NE_shortenOnce : Room := { frames := 1, cells := 0, slots := 0, locals := 23 }
set_option maxHeartbeats 4000000 in
set_option maxRecDepth 100000 in
theorem lo_shortenOnce {l : Launch} {p : Program} {e : Env} {s : State} {m : MethodId} {args : Array Value} {below : List Frame} {meth : Method} {c : Code} {H0 : Heap} {A : Nat → Prop} {Q : State → Prop} (D : va_G) (cI cJ cZ cP cS : ClassId) (h af at0 ar ap ad av A0 : Nat) (pd : Int64) (fn tn : Nat → Nat) (pr : Nat → Int64) (rm : Nat → Int32) (d : Nat → Int64) (vn : Nat → Nat) (hx : p.tables.exec = Jvm.exec) (hb : c.code = b_NE_shortenOnce) (hml : c.maxLocals = 3) (hown : s.vm.findClass "StudyAudit$Network" = some m.cls) (hok : tb_ok s) (hK : va_K D cls (tyl cI cJ cZ cP cS) s) (hA : ∀ q : Nat, H0.size ≤ q → A q) (hfn : ∀ j, j < 166 → fn j < 25 ∧ tn j < 25) (hA0 : A0 ≤ 166)
    (kk : ∀ (ls : Array Slot) (H : Heap) (locs : List Loc), lv_has ls 3 [(0, .ref h), (1, .int (zb (zso fn tn pr rm (d, vn, false) A0).2.2)), (2, .int (nI A0))] → va_P D cls [(h, .inr (3, [.int (nI A0), .ref af, .ref at0, .ref ar, .long pd, .ref ap, .ref ad, .ref av])), (af, .inl (cI, 166, .inl (fun j => nI (fn j)))), (at0, .inl (cI, 166, .inl (fun j => nI (tn j)))), (ar, .inl (cI, 166, .inl rm)), (ap, .inl (cJ, 166, .inr (.inl pr))), (ad, .inl (cJ, 25, .inr (.inl ((zso fn tn pr rm (d, vn, false) A0).1)))), (av, .inl (cI, 25, .inl (fun j => nI ((zso fn tn pr rm (d, vn, false) A0).2.1 j))))] H → va_D A [(h, .inr (3, [.int (nI A0), .ref af, .ref at0, .ref ar, .long pd, .ref ap, .ref ad, .ref av])), (af, .inl (cI, 166, .inl (fun j => nI (fn j)))), (at0, .inl (cI, 166, .inl (fun j => nI (tn j)))), (ar, .inl (cI, 166, .inl rm)), (ap, .inl (cJ, 166, .inr (.inl pr))), (ad, .inl (cJ, 25, .inr (.inl ((zso fn tn pr rm (d, vn, false) A0).1)))), (av, .inl (cI, 25, .inl (fun j => nI ((zso fn tn pr rm (d, vn, false) A0).2.1 j))))] → va_S A H0 H locs → W p l e ro_NE_shortenOnce s m args below meth c H locs 0 0 Q (F0 m 78 ls [])) :
    ∀ (k i : Nat) (ls : Array Slot) (H : Heap) (locs : List Loc), 0 ≤ i → i + k = A0 → lv_has ls 3 [(0, .ref h), (1, .int (zb (zso fn tn pr rm (d, vn, false) i).2.2)), (2, .int (nI i))] → va_P D cls [(h, .inr (3, [.int (nI A0), .ref af, .ref at0, .ref ar, .long pd, .ref ap, .ref ad, .ref av])), (af, .inl (cI, 166, .inl (fun j => nI (fn j)))), (at0, .inl (cI, 166, .inl (fun j => nI (tn j)))), (ar, .inl (cI, 166, .inl rm)), (ap, .inl (cJ, 166, .inr (.inl pr))), (ad, .inl (cJ, 25, .inr (.inl ((zso fn tn pr rm (d, vn, false) i).1)))), (av, .inl (cI, 25, .inl (fun j => nI ((zso fn tn pr rm (d, vn, false) i).2.1 j))))] H → va_D A [(h, .inr (3, [.int (nI A0), .ref af, .ref at0, .ref ar, .long pd, .ref ap, .ref ad, .ref av])), (af, .inl (cI, 166, .inl (fun j => nI (fn j)))), (at0, .inl (cI, 166, .inl (fun j => nI (tn j)))), (ar, .inl (cI, 166, .inl rm)), (ap, .inl (cJ, 166, .inr (.inl pr))), (ad, .inl (cJ, 25, .inr (.inl ((zso fn tn pr rm (d, vn, false) i).1)))), (av, .inl (cI, 25, .inl (fun j => nI ((zso fn tn pr rm (d, vn, false) i).2.1 j))))] → va_S A H0 H locs → W p l e ro_NE_shortenOnce s m args below meth c H locs 0 0 Q (F0 m 4 ls []) := by
  intro k
  induction k with
  | zero =>
    intro i ls H locs hi0 hik hl hP hD hS
    have hik : A0 = i := by omega
    subst hik
    refine lv_iload_n hx hb d_NE_shortenOnce_4 rfl (lv_at hl 2 rfl) ?_
    refine lv_aload_n hx hb d_NE_shortenOnce_5 rfl (lv_at hl 0 rfl) ?_
    refine va_get (D := D) (ci := 3) (v := .int (nI A0)) (C := R_NE) (T := F_NE) (N := 8) hx hb (tb_in hok in_NE) (fun w h => h) hown hK hP 0 rfl rfl 0 (by decide) (hok _ t_156 rfl _) (fun _ h9 => h9) rfl d_NE_shortenOnce_6 ?_
    refine lv_icmp_ge (tgt := 78) hx hb d_NE_shortenOnce_9 (by decide) (fun h9 => ?_) (fun h9 => absurd (show nI A0 ≤ nI A0 from Int32.le_refl _) h9)
    exact kk ls H locs (lv_sub hl [0, 1, 2] rfl) hP hD hS
  | succ k ih =>
    intro i ls H locs hi0 hik hl hP hD hS
    refine lv_iload_n hx hb d_NE_shortenOnce_4 rfl (lv_at hl 2 rfl) ?_
    refine lv_aload_n hx hb d_NE_shortenOnce_5 rfl (lv_at hl 0 rfl) ?_
    refine va_get (D := D) (ci := 3) (v := .int (nI A0)) (C := R_NE) (T := F_NE) (N := 8) hx hb (tb_in hok in_NE) (fun w h => h) hown hK hP 0 rfl rfl 0 (by decide) (hok _ t_156 rfl _) (fun _ h9 => h9) rfl d_NE_shortenOnce_6 ?_
    refine lv_icmp_ge (tgt := 78) hx hb d_NE_shortenOnce_9 (by decide) (fun h9 => absurd h9 (show ¬ nI A0 ≤ nI i from nI_ge (by omega) (by omega))) (fun h9 => ?_)
    refine lv_aload_n hx hb d_NE_shortenOnce_12 rfl (lv_at hl 0 rfl) ?_
    refine va_get (D := D) (ci := 3) (v := .ref ar) (C := R_NE) (T := F_NE) (N := 8) hx hb (tb_in hok in_NE) (fun w h => h) hown hK hP 0 rfl rfl 3 (by decide) (hok _ t_162 rfl _) (fun _ h9 => h9) rfl d_NE_shortenOnce_13 ?_
    refine lv_iload_n hx hb d_NE_shortenOnce_16 rfl (lv_at hl 2 rfl) ?_
    refine va_iald hx hb hK hP 3 0 rfl rfl (vp_in_nI (by omega) (by omega)) d_NE_shortenOnce_17 ?_
    rw [nI_clamp (show i < 2 ^ 31 from by omega)]
    refine lv_if_le (tgt := 72) hx hb d_NE_shortenOnce_18 (by decide) (fun h18 => ?_) (fun h18 => ?_)
    · refine lv_iinc (v := (nI (i + 1))) hx hb d_NE_shortenOnce_72 hl (k := 2) rfl (by rw [nI_succ]; rfl) (by decide) rfl (fun ls hl => ?_)
      have hl : lv_has ls 3 [(2, .int (nI (i + 1))), (0, .ref h), (1, .int (zb (zso fn tn pr rm (d, vn, false) i).2.2))] := hl
      refine lv_goto (tgt := 4) hx hb d_NE_shortenOnce_75 (by decide) ?_
      have e9 : zso fn tn pr rm (d, vn, false) (i + 1) = zso fn tn pr rm (d, vn, false) i := by show (if _ then _ else _) = _; rw [if_neg (fun z => z.1 h18)]
      rw [← e9] at hP hD hl
      exact ih (i + 1) ls H locs (by omega) (by omega) (lv_sub hl [1, 2, 0] rfl) hP hD hS
    · refine lv_aload_n hx hb d_NE_shortenOnce_21 rfl (lv_at hl 0 rfl) ?_
      refine lv_iload_n hx hb d_NE_shortenOnce_22 rfl (lv_at hl 2 rfl) ?_
      refine zc_read (va_runV (Ts := []) (As := [.int (nI i)]) (rest := []) ⟨hx, hb, hml, hown, fun _ h => absurd h List.not_mem_nil⟩ (m_NE_isShortcut l D cI cJ cZ cP cS h af at0 ar ap ad av A0 pd i fn tn pr (zso fn tn pr rm (d, vn, false) i).1 hfn (by omega)) ⟨zc_B 1 hok c_NE_isShortcut_w t_8 t_570 rfl rfl (by decide +kernel) ⟨Nat.le_of_ble_eq_true rfl, Nat.le_of_ble_eq_true rfl⟩, hok _ t_572 rfl _, hok _ s_14 rfl _⟩ ⟨fun a U g mk q => by obtain ⟨q0, q2, qP, qK⟩ := q; exact ⟨q0, q2.call g mk a, qP, va_K.moved (u := U) (U := U.calling g mk a) (Vm.Alike.refl U.vm) qK⟩, va_recv hK hP (ci := 3) (q0 := 0) rfl rfl, fun U hU hW => ⟨rfl, hok.warm hW, by rw [hU]; exact hP.sub [0, 1, 2, 4, 5] rfl, va_K.moved hW.alike hK⟩⟩ rfl rfl hl.1 rfl (lv_room (Nat.le_of_ble_eq_true rfl)) d_NE_shortenOnce_23 ⟨Nat.le_of_ble_eq_true rfl, Nat.le_of_ble_eq_true rfl⟩) ?_
      refine W.eq (g2 := F0 m 26 ls [.int (zb (zis fn tn pr (zso fn tn pr rm (d, vn, false) i).1 i))]) rfl ?_
      refine lv_if_eq (tgt := 72) hx hb d_NE_shortenOnce_26 (by decide) (fun h26 => ?_) (fun h26 => ?_)
      · refine lv_iinc (v := (nI (i + 1))) hx hb d_NE_shortenOnce_72 hl (k := 2) rfl (by rw [nI_succ]; rfl) (by decide) rfl (fun ls hl => ?_)
        have hl : lv_has ls 3 [(2, .int (nI (i + 1))), (0, .ref h), (1, .int (zb (zso fn tn pr rm (d, vn, false) i).2.2))] := hl
        refine lv_goto (tgt := 4) hx hb d_NE_shortenOnce_75 (by decide) ?_
        have e9 : zso fn tn pr rm (d, vn, false) (i + 1) = zso fn tn pr rm (d, vn, false) i := by show (if _ then _ else _) = _; rw [if_neg (fun z => by have z2 := z.2; rw [z2] at h26; exact absurd h26 (by decide))]
        rw [← e9] at hP hD hl
        exact ih (i + 1) ls H locs (by omega) (by omega) (lv_sub hl [1, 2, 0] rfl) hP hD hS
      · refine lv_aload_n hx hb d_NE_shortenOnce_29 rfl (lv_at hl 0 rfl) ?_
        refine va_get (D := D) (ci := 3) (v := .ref ad) (C := R_NE) (T := F_NE) (N := 8) hx hb (tb_in hok in_NE) (fun w h => h) hown hK hP 0 rfl rfl 6 (by decide) (hok _ t_167 rfl _) (fun _ h9 => h9) rfl d_NE_shortenOnce_30 ?_
        refine lv_aload_n hx hb d_NE_shortenOnce_33 rfl (lv_at hl 0 rfl) ?_
        refine va_get (D := D) (ci := 3) (v := .ref at0) (C := R_NE) (T := F_NE) (N := 8) hx hb (tb_in hok in_NE) (fun w h => h) hown hK hP 0 rfl rfl 2 (by decide) (hok _ t_160 rfl _) (fun _ h9 => h9) rfl d_NE_shortenOnce_34 ?_
        refine lv_iload_n hx hb d_NE_shortenOnce_37 rfl (lv_at hl 2 rfl) ?_
        refine va_iald hx hb hK hP 2 0 rfl rfl (vp_in_nI (by omega) (by omega)) d_NE_shortenOnce_38 ?_
        rw [nI_clamp (show i < 2 ^ 31 from by omega)]
        refine lv_aload_n hx hb d_NE_shortenOnce_39 rfl (lv_at hl 0 rfl) ?_
        refine va_get (D := D) (ci := 3) (v := .ref ad) (C := R_NE) (T := F_NE) (N := 8) hx hb (tb_in hok in_NE) (fun w h => h) hown hK hP 0 rfl rfl 6 (by decide) (hok _ t_167 rfl _) (fun _ h9 => h9) rfl d_NE_shortenOnce_40 ?_
        refine lv_aload_n hx hb d_NE_shortenOnce_43 rfl (lv_at hl 0 rfl) ?_
        refine va_get (D := D) (ci := 3) (v := .ref af) (C := R_NE) (T := F_NE) (N := 8) hx hb (tb_in hok in_NE) (fun w h => h) hown hK hP 0 rfl rfl 1 (by decide) (hok _ t_158 rfl _) (fun _ h9 => h9) rfl d_NE_shortenOnce_44 ?_
        refine lv_iload_n hx hb d_NE_shortenOnce_47 rfl (lv_at hl 2 rfl) ?_
        refine va_iald hx hb hK hP 1 0 rfl rfl (vp_in_nI (by omega) (by omega)) d_NE_shortenOnce_48 ?_
        rw [nI_clamp (show i < 2 ^ 31 from by omega)]
        refine va_lald hx hb hK hP 5 1 rfl rfl (vp_in_nI (hfn i (by omega)).1 (by omega)) d_NE_shortenOnce_49 ?_
        rw [nI_clamp (show (fn i) < 2 ^ 31 from Nat.lt_trans (hfn i (by omega)).1 (by omega))]
        refine lv_aload_n hx hb d_NE_shortenOnce_50 rfl (lv_at hl 0 rfl) ?_
        refine va_get (D := D) (ci := 3) (v := .ref ap) (C := R_NE) (T := F_NE) (N := 8) hx hb (tb_in hok in_NE) (fun w h => h) hown hK hP 0 rfl rfl 5 (by decide) (hok _ t_166 rfl _) (fun _ h9 => h9) rfl d_NE_shortenOnce_51 ?_
        refine lv_iload_n hx hb d_NE_shortenOnce_54 rfl (lv_at hl 2 rfl) ?_
        refine va_lald hx hb hK hP 4 1 rfl rfl (vp_in_nI (by omega) (by omega)) d_NE_shortenOnce_55 ?_
        rw [nI_clamp (show i < 2 ^ 31 from by omega)]
        refine lv_ladd hx hb d_NE_shortenOnce_56 ?_
        refine va_last hx hb hK hP hD hS 5 1 rfl rfl (vp_in_nI (hfn i (by omega)).2 (by omega)) d_NE_shortenOnce_57 (fun H locs hP hD hS => ?_)
        rw [nI_clamp (show (tn i) < 2 ^ 31 from Nat.lt_trans (hfn i (by omega)).2 (by omega))] at hP hD
        have hP : va_P D cls [(h, .inr (3, [.int (nI A0), .ref af, .ref at0, .ref ar, .long pd, .ref ap, .ref ad, .ref av])), (af, .inl (cI, 166, .inl (fun j => nI (fn j)))), (at0, .inl (cI, 166, .inl (fun j => nI (tn j)))), (ar, .inl (cI, 166, .inl rm)), (ap, .inl (cJ, 166, .inr (.inl pr))), (ad, .inl (cJ, 25, .inr (.inl (vp_updL ((zso fn tn pr rm (d, vn, false) i).1) (tn i) ((((zso fn tn pr rm (d, vn, false) i).1) (fn i)) + (pr i)))))), (av, .inl (cI, 25, .inl (fun j => nI ((zso fn tn pr rm (d, vn, false) i).2.1 j))))] H := hP
        have hD : va_D A [(h, .inr (3, [.int (nI A0), .ref af, .ref at0, .ref ar, .long pd, .ref ap, .ref ad, .ref av])), (af, .inl (cI, 166, .inl (fun j => nI (fn j)))), (at0, .inl (cI, 166, .inl (fun j => nI (tn j)))), (ar, .inl (cI, 166, .inl rm)), (ap, .inl (cJ, 166, .inr (.inl pr))), (ad, .inl (cJ, 25, .inr (.inl (vp_updL ((zso fn tn pr rm (d, vn, false) i).1) (tn i) ((((zso fn tn pr rm (d, vn, false) i).1) (fn i)) + (pr i)))))), (av, .inl (cI, 25, .inl (fun j => nI ((zso fn tn pr rm (d, vn, false) i).2.1 j))))] := hD
        refine lv_aload_n hx hb d_NE_shortenOnce_58 rfl (lv_at hl 0 rfl) ?_
        refine va_get (D := D) (ci := 3) (v := .ref av) (C := R_NE) (T := F_NE) (N := 8) hx hb (tb_in hok in_NE) (fun w h => h) hown hK hP 0 rfl rfl 7 (by decide) (hok _ t_168 rfl _) (fun _ h9 => h9) rfl d_NE_shortenOnce_59 ?_
        refine lv_aload_n hx hb d_NE_shortenOnce_62 rfl (lv_at hl 0 rfl) ?_
        refine va_get (D := D) (ci := 3) (v := .ref at0) (C := R_NE) (T := F_NE) (N := 8) hx hb (tb_in hok in_NE) (fun w h => h) hown hK hP 0 rfl rfl 2 (by decide) (hok _ t_160 rfl _) (fun _ h9 => h9) rfl d_NE_shortenOnce_63 ?_
        refine lv_iload_n hx hb d_NE_shortenOnce_66 rfl (lv_at hl 2 rfl) ?_
        refine va_iald hx hb hK hP 2 0 rfl rfl (vp_in_nI (by omega) (by omega)) d_NE_shortenOnce_67 ?_
        rw [nI_clamp (show i < 2 ^ 31 from by omega)]
        refine lv_iload_n hx hb d_NE_shortenOnce_68 rfl (lv_at hl 2 rfl) ?_
        refine va_iast hx hb hK hP hD hS 6 0 rfl rfl (vp_in_nI (hfn i (by omega)).2 (by omega)) d_NE_shortenOnce_69 (fun H locs hP hD hS => ?_)
        rw [nI_clamp (show (tn i) < 2 ^ 31 from Nat.lt_trans (hfn i (by omega)).2 (by omega))] at hP hD
        have hP : va_P D cls [(h, .inr (3, [.int (nI A0), .ref af, .ref at0, .ref ar, .long pd, .ref ap, .ref ad, .ref av])), (af, .inl (cI, 166, .inl (fun j => nI (fn j)))), (at0, .inl (cI, 166, .inl (fun j => nI (tn j)))), (ar, .inl (cI, 166, .inl rm)), (ap, .inl (cJ, 166, .inr (.inl pr))), (ad, .inl (cJ, 25, .inr (.inl (vp_updL ((zso fn tn pr rm (d, vn, false) i).1) (tn i) ((((zso fn tn pr rm (d, vn, false) i).1) (fn i)) + (pr i)))))), (av, .inl (cI, 25, .inl (upd (fun j => nI ((zso fn tn pr rm (d, vn, false) i).2.1 j)) (tn i) (nI i))))] H := hP
        have hD : va_D A [(h, .inr (3, [.int (nI A0), .ref af, .ref at0, .ref ar, .long pd, .ref ap, .ref ad, .ref av])), (af, .inl (cI, 166, .inl (fun j => nI (fn j)))), (at0, .inl (cI, 166, .inl (fun j => nI (tn j)))), (ar, .inl (cI, 166, .inl rm)), (ap, .inl (cJ, 166, .inr (.inl pr))), (ad, .inl (cJ, 25, .inr (.inl (vp_updL ((zso fn tn pr rm (d, vn, false) i).1) (tn i) ((((zso fn tn pr rm (d, vn, false) i).1) (fn i)) + (pr i)))))), (av, .inl (cI, 25, .inl (upd (fun j => nI ((zso fn tn pr rm (d, vn, false) i).2.1 j)) (tn i) (nI i))))] := hD
        refine lv_iconst (v := 1) hx hb d_NE_shortenOnce_70 (by decide) ?_
        refine lv_istore_n hx hb d_NE_shortenOnce_71 rfl hl (by decide) rfl (fun ls hl => ?_)
        have hl : lv_has ls 3 [(1, .int 1), (0, .ref h), (2, .int (nI i))] := hl
        refine lv_iinc (v := (nI (i + 1))) hx hb d_NE_shortenOnce_72 hl (k := 2) rfl (by rw [nI_succ]; rfl) (by decide) rfl (fun ls hl => ?_)
        have hl : lv_has ls 3 [(2, .int (nI (i + 1))), (1, .int 1), (0, .ref h)] := hl
        refine lv_goto (tgt := 4) hx hb d_NE_shortenOnce_75 (by decide) ?_
        have e9 : zso fn tn pr rm (d, vn, false) (i + 1) = (vp_updL (zso fn tn pr rm (d, vn, false) i).1 (tn i) ((zso fn tn pr rm (d, vn, false) i).1 (fn i) + pr i), mf_up (zso fn tn pr rm (d, vn, false) i).2.1 (tn i) i, true) := by show (if _ then _ else _) = _; rw [if_pos ⟨h18, by cases hz : zis fn tn pr (zso fn tn pr rm (d, vn, false) i).1 i with | true => rfl | false => rw [hz] at h26; exact absurd rfl h26⟩]
        rw [z_upn] at hP hD
        have e91 := congrArg Prod.fst e9
        have e92 := congrArg (fun q => q.2.1) e9
        have e93 := congrArg (fun q => q.2.2) e9
        dsimp only at e91 e92 e93
        have hl : lv_has ls 3 [(2, .int (nI (i + 1))), (1, .int (zb (zso fn tn pr rm (d, vn, false) (i + 1)).2.2)), (0, .ref h)] := by rw [e93]; exact hl
        rw [← e91, ← e92] at hP hD
        exact ih (i + 1) ls H locs (by omega) (by omega) (lv_sub hl [2, 1, 0] rfl) hP hD hS
theorem z_zb (x : Bool) : narrow .boolean (.int (zb x)) = .int (zb x) := by cases x <;> rfl
set_option maxHeartbeats 4000000 in
set_option maxRecDepth 100000 in
theorem m_NE_shortenOnce (l : Launch) (D : va_G) (cI cJ cZ cP cS : ClassId) (h af at0 ar ap ad av A0 : Nat) (pd : Int64) (fn tn : Nat → Nat) (pr : Nat → Int64) (rm : Nat → Int32) (d : Nat → Int64) (vn : Nat → Nat) (hfn : ∀ j, j < 166 → fn j < 25 ∧ tn j < 25) (hA0 : A0 ≤ 166) (sz : Nat) : Met l y_NE_shortenOnce [Cond.code y_NE_shortenOnce b_NE_shortenOnce 3 (some .boolean)] ro_NE_shortenOnce (va_Pc [.ref h] (fun U => U.heap.size = sz ∧ tb_ok U ∧ va_P D cls [(h, .inr (3, [.int (nI A0), .ref af, .ref at0, .ref ar, .long pd, .ref ap, .ref ad, .ref av])), (af, .inl (cI, 166, .inl (fun j => nI (fn j)))), (at0, .inl (cI, 166, .inl (fun j => nI (tn j)))), (ar, .inl (cI, 166, .inl rm)), (ap, .inl (cJ, 166, .inr (.inl pr))), (ad, .inl (cJ, 25, .inr (.inl d))), (av, .inl (cI, 25, .inl (fun j => nI (vn j))))] U.heap ∧ va_K D cls (tyl cI cJ cZ cP cS) U ∧ va_D (fun _ => True) [(h, .inr (3, [.int (nI A0), .ref af, .ref at0, .ref ar, .long pd, .ref ap, .ref ad, .ref av])), (af, .inl (cI, 166, .inl (fun j => nI (fn j)))), (at0, .inl (cI, 166, .inl (fun j => nI (tn j)))), (ar, .inl (cI, 166, .inl rm)), (ap, .inl (cJ, 166, .inr (.inl pr))), (ad, .inl (cJ, 25, .inr (.inl d))), (av, .inl (cI, 25, .inl (fun j => nI (vn j))))])) (zv (some (.int (zb (zso fn tn pr rm (d, vn, false) A0).2.2))) D [(h, .inr (3, [.int (nI A0), .ref af, .ref at0, .ref ar, .long pd, .ref ap, .ref ad, .ref av])), (af, .inl (cI, 166, .inl (fun j => nI (fn j)))), (at0, .inl (cI, 166, .inl (fun j => nI (tn j)))), (ar, .inl (cI, 166, .inl rm)), (ap, .inl (cJ, 166, .inr (.inl pr))), (ad, .inl (cJ, 25, .inr (.inl ((zso fn tn pr rm (d, vn, false) A0).1)))), (av, .inl (cI, 25, .inl (fun j => nI ((zso fn tn pr rm (d, vn, false) A0).2.1 j))))] (va_A [(h, .inr (3, [.int (nI A0), .ref af, .ref at0, .ref ar, .long pd, .ref ap, .ref ad, .ref av])), (af, .inl (cI, 166, .inl (fun j => nI (fn j)))), (at0, .inl (cI, 166, .inl (fun j => nI (tn j)))), (ar, .inl (cI, 166, .inl rm)), (ap, .inl (cJ, 166, .inr (.inl pr))), (ad, .inl (cJ, 25, .inr (.inl d))), (av, .inl (cI, 25, .inl (fun j => nI (vn j))))] sz)) 0 0 (va_A [(h, .inr (3, [.int (nI A0), .ref af, .ref at0, .ref ar, .long pd, .ref ap, .ref ad, .ref av])), (af, .inl (cI, 166, .inl (fun j => nI (fn j)))), (at0, .inl (cI, 166, .inl (fun j => nI (tn j)))), (ar, .inl (cI, 166, .inl rm)), (ap, .inl (cJ, 166, .inr (.inl pr))), (ad, .inl (cJ, 25, .inr (.inl d))), (av, .inl (cI, 25, .inl (fun j => nI (vn j))))] sz) := by
  refine Met.ofW (cc := b_NE_shortenOnce) (maxL := 3) (ret := (some .boolean)) (by decide +kernel) rfl ?_
  intro p e s m args below meth c s₁ B hml hv
  obtain ⟨rfl, hsz, hok, hP, hK, hD0⟩ := hv
  have hx := B.exec
  have hb := B.bytes
  have hr := B.returns
  have hown : s.vm.findClass "StudyAudit$Network" = some m.cls := findClass_of_methodNamed B.named
  have hlocks := B.notSynchronized
  subst hsz
  have hD := hD0.self (sz := s.heap.size)
  generalize hAe : va_A [(h, .inr (3, [.int (nI A0), .ref af, .ref at0, .ref ar, .long pd, .ref ap, .ref ad, .ref av])), (af, .inl (cI, 166, .inl (fun j => nI (fn j)))), (at0, .inl (cI, 166, .inl (fun j => nI (tn j)))), (ar, .inl (cI, 166, .inl rm)), (ap, .inl (cJ, 166, .inr (.inl pr))), (ad, .inl (cJ, 25, .inr (.inl d))), (av, .inl (cI, 25, .inl (fun j => nI (vn j))))] s.heap.size = A at hD ⊢
  have hA : ∀ q : Nat, s.heap.size ≤ q → A q := fun q h => by rw [← hAe]; exact Or.inr h
  have hS : va_S A s.heap s.heap [] := va_S.rf
  have hl := lv_entry ([.ref h]) (n := 3) (Nat.le_of_ble_eq_true rfl)
  rw [lg_entry_eq]
  generalize (lg_sl ([.ref h]) ++ List.replicate (3 - (lg_sl ([.ref h])).length) Slot.unset).toArray = ls at hl ⊢
  have hl : lv_has ls 3 [(0, .ref h)] := hl
  refine lv_iconst (v := 0) hx hb d_NE_shortenOnce_0 (by decide) ?_
  refine lv_istore_n hx hb d_NE_shortenOnce_1 rfl hl (by decide) rfl (fun ls hl => ?_)
  have hl : lv_has ls 3 [(1, .int 0), (0, .ref h)] := hl
  refine lv_iconst (v := 0) hx hb d_NE_shortenOnce_2 (by decide) ?_
  refine lv_istore_n hx hb d_NE_shortenOnce_3 rfl hl (by decide) rfl (fun ls hl => ?_)
  have hl : lv_has ls 3 [(2, .int 0), (1, .int 0), (0, .ref h)] := hl
  refine lo_shortenOnce D cI cJ cZ cP cS h af at0 ar ap ad av A0 pd fn tn pr rm d vn hx hb hml hown hok hK hA hfn hA0 (fun ls H locs hl hP hD hS => ?_) (A0 - 0) 0 ls _ _ (by omega) (by omega) (lv_sub hl [2, 1, 0] rfl) hP hD hS
  refine lv_iload_n hx hb d_NE_shortenOnce_78 rfl (lv_at hl 1 rfl) ?_
  exact W.zret hx hb hr (z_zb _) (fun t ht _ => ⟨⟨rfl, by rw [ht]; exact hP, hD⟩, hS.F ht⟩) hS.2.2 d_NE_shortenOnce_79
