/-! the reference: preparing (rows by program) -/
def ynv (dm ex : Nat → Int32) (p0 s0 n r : Nat) : Int32 := if 0 < r ∧ r ≤ n then yne (dm (6 * p0 + r) - ex (6 * s0 + r)) else 0
def ypn (dm ex : Nat → Int32) (p0 s0 n : Nat) (nd : Nat → Int32) : Nat → (Nat → Int32)
  | 0 => nd
  | i + 1 => upd (ypn dm ex p0 s0 n nd i) i (ynv dm ex p0 s0 n i)
def yas (pf pt : Nat → Int32) (s0 c : Nat) : Nat → Int32
  | 0 => 1 <<< (nI c &&& 31)
  | k + 1 => if pf (8 * s0 + k) = nI c then yas pf pt s0 c k ||| (1 <<< (pt (8 * s0 + k) &&& 31)) else yas pf pt s0 c k
def ycb (al : Nat → Int32) (p0 : Nat) (as : Int32) : Nat → Int32
  | 0 => 0
  | 1 => 0
  | i + 2 => if al (6 * p0 + (i + 1)) &&& as = 0 then ycb al p0 as (i + 1) else ycb al p0 as (i + 1) ||| (1 <<< (nI (i + 1) &&& 31))
def ycn (al pf pt : Nat → Int32) (p0 s0 n k : Nat) (cn : Nat → Int32) : Nat → (Nat → Int32)
  | 0 => cn
  | c + 1 => upd (ycn al pf pt p0 s0 n k cn c) c (ycb al p0 (yas pf pt s0 c k) (n + 1))
theorem z_upu (f : Nat → Int32) (k : Nat) (x y : Int32) : upd (upd f k x) k y = upd f k y := by
  funext j
  unfold upd
  split <;> rfl
abbrev ro_MO_prepare : Room := { frames := 1, cells := 0, slots := 0, locals := 23 }
set_option maxHeartbeats 4000000 in
set_option maxRecDepth 100000 in
theorem lo_prep1 {l : Launch} {p : Program} {e : Env} {s : State} {m : MethodId} {args : Array Value} {below : List Frame} {meth : Method} {c : Code} {H0 : Heap} {A : Nat → Prop} {Q : State → Prop} (D : va_G) (cI cJ cZ cP cS : ClassId) (h : Nat) (b : Nat → Nat) (th : Int32) (G C : Nat) (hs : Bool) (s0 p0 : Nat) (dm pg ex al pf pt nd gv tk cn : Nat → Int32) (rq pe : Nat → Nat) (hx : p.tables.exec = Jvm.exec) (hb : c.code = b_MO_prepare) (hml : c.maxLocals = 6) (hown : s.vm.findClass "StudyAuditModel" = some m.cls) (hok : tb_ok s) (hK : va_K D cls (tyl cI cJ cZ cP cS) s) (hA : ∀ q : Nat, H0.size ≤ q → A q) (hs0 : s0 < 4) (hp0 : p0 < 3) (hpg : pg s0 = nI p0) (hr5 : rq p0 ≤ 5) (hC : C ≤ 12) (hpe : pe s0 ≤ 8)
    (kk : ∀ (ls : Array Slot) (H : Heap) (locs : List Loc), lv_has ls 6 [(0, .ref h), (1, .int (nI s0)), (2, .int (nI p0)), (3, .int (nI 6))] → va_P D cls [(h, .inr (8, [.int th, .int (nI G), .ref (b 0), .ref (b 1), .int (nI C), .ref (b 2), .ref (b 3), .ref (b 4), .ref (b 5), .ref (b 6), .ref (b 7), .ref (b 8), .ref (b 9), .ref (b 10), .ref (b 11), .ref (b 12), .ref (b 13), .ref (b 14), .ref (b 15), .ref (b 16), .ref (b 17), .ref (b 18), .int (zb hs), .ref (b 19), .ref (b 20)])), ((b 5), .inl (cI, 3, .inl (fun j => nI (rq j)))), ((b 6), .inl (cI, 18, .inl dm)), ((b 8), .inl (cI, 4, .inl pg)), ((b 13), .inl (cI, 24, .inl ex)), ((b 7), .inl (cI, 18, .inl al)), ((b 10), .inl (cI, 4, .inl (fun j => nI (pe j)))), ((b 11), .inl (cI, 32, .inl pf)), ((b 12), .inl (cI, 32, .inl pt)), ((b 14), .inl (cI, 6, .inl (ypn dm ex p0 s0 (rq p0) nd 6))), ((b 16), .inl (cI, 6, .inl (zfl gv 0 6))), ((b 17), .inl (cI, 6, .inl (zfl tk 0 6))), ((b 15), .inl (cI, 12, .inl cn))] H → va_D A [(h, .inr (8, [.int th, .int (nI G), .ref (b 0), .ref (b 1), .int (nI C), .ref (b 2), .ref (b 3), .ref (b 4), .ref (b 5), .ref (b 6), .ref (b 7), .ref (b 8), .ref (b 9), .ref (b 10), .ref (b 11), .ref (b 12), .ref (b 13), .ref (b 14), .ref (b 15), .ref (b 16), .ref (b 17), .ref (b 18), .int (zb hs), .ref (b 19), .ref (b 20)])), ((b 5), .inl (cI, 3, .inl (fun j => nI (rq j)))), ((b 6), .inl (cI, 18, .inl dm)), ((b 8), .inl (cI, 4, .inl pg)), ((b 13), .inl (cI, 24, .inl ex)), ((b 7), .inl (cI, 18, .inl al)), ((b 10), .inl (cI, 4, .inl (fun j => nI (pe j)))), ((b 11), .inl (cI, 32, .inl pf)), ((b 12), .inl (cI, 32, .inl pt)), ((b 14), .inl (cI, 6, .inl (ypn dm ex p0 s0 (rq p0) nd 6))), ((b 16), .inl (cI, 6, .inl (zfl gv 0 6))), ((b 17), .inl (cI, 6, .inl (zfl tk 0 6))), ((b 15), .inl (cI, 12, .inl cn))] → va_S A H0 H locs → W p l e ro_MO_prepare s m args below meth c H locs 0 0 Q (F0 m 65 ls [])) :
    ∀ (k i : Nat) (ls : Array Slot) (H : Heap) (locs : List Loc), 0 ≤ i → i + k = 6 → lv_has ls 6 [(0, .ref h), (1, .int (nI s0)), (2, .int (nI p0)), (3, .int (nI i))] → va_P D cls [(h, .inr (8, [.int th, .int (nI G), .ref (b 0), .ref (b 1), .int (nI C), .ref (b 2), .ref (b 3), .ref (b 4), .ref (b 5), .ref (b 6), .ref (b 7), .ref (b 8), .ref (b 9), .ref (b 10), .ref (b 11), .ref (b 12), .ref (b 13), .ref (b 14), .ref (b 15), .ref (b 16), .ref (b 17), .ref (b 18), .int (zb hs), .ref (b 19), .ref (b 20)])), ((b 5), .inl (cI, 3, .inl (fun j => nI (rq j)))), ((b 6), .inl (cI, 18, .inl dm)), ((b 8), .inl (cI, 4, .inl pg)), ((b 13), .inl (cI, 24, .inl ex)), ((b 7), .inl (cI, 18, .inl al)), ((b 10), .inl (cI, 4, .inl (fun j => nI (pe j)))), ((b 11), .inl (cI, 32, .inl pf)), ((b 12), .inl (cI, 32, .inl pt)), ((b 14), .inl (cI, 6, .inl (ypn dm ex p0 s0 (rq p0) nd i))), ((b 16), .inl (cI, 6, .inl (zfl gv 0 i))), ((b 17), .inl (cI, 6, .inl (zfl tk 0 i))), ((b 15), .inl (cI, 12, .inl cn))] H → va_D A [(h, .inr (8, [.int th, .int (nI G), .ref (b 0), .ref (b 1), .int (nI C), .ref (b 2), .ref (b 3), .ref (b 4), .ref (b 5), .ref (b 6), .ref (b 7), .ref (b 8), .ref (b 9), .ref (b 10), .ref (b 11), .ref (b 12), .ref (b 13), .ref (b 14), .ref (b 15), .ref (b 16), .ref (b 17), .ref (b 18), .int (zb hs), .ref (b 19), .ref (b 20)])), ((b 5), .inl (cI, 3, .inl (fun j => nI (rq j)))), ((b 6), .inl (cI, 18, .inl dm)), ((b 8), .inl (cI, 4, .inl pg)), ((b 13), .inl (cI, 24, .inl ex)), ((b 7), .inl (cI, 18, .inl al)), ((b 10), .inl (cI, 4, .inl (fun j => nI (pe j)))), ((b 11), .inl (cI, 32, .inl pf)), ((b 12), .inl (cI, 32, .inl pt)), ((b 14), .inl (cI, 6, .inl (ypn dm ex p0 s0 (rq p0) nd i))), ((b 16), .inl (cI, 6, .inl (zfl gv 0 i))), ((b 17), .inl (cI, 6, .inl (zfl tk 0 i))), ((b 15), .inl (cI, 12, .inl cn))] → va_S A H0 H locs → W p l e ro_MO_prepare s m args below meth c H locs 0 0 Q (F0 m 9 ls []) := by
  intro k
  induction k with
  | zero =>
    intro i ls H locs hi0 hik hl hP hD hS
    have hik : 6 = i := by omega
    subst hik
    refine lv_iload_n hx hb d_MO_prepare_9 rfl (lv_at hl 3 rfl) ?_
    refine lv_bipush (v := 6) hx hb d_MO_prepare_10 (by decide) ?_
    refine lv_icmp_ge (tgt := 65) hx hb d_MO_prepare_12 (by decide) (fun h12 => ?_) (fun h12 => absurd (show nI 6 ≤ nI 6 from Int32.le_refl _) h12)
    exact kk ls H locs (lv_sub hl [0, 1, 2, 3] rfl) hP hD hS
  | succ k ih =>
    intro i ls H locs hi0 hik hl hP hD hS
    refine lv_iload_n hx hb d_MO_prepare_9 rfl (lv_at hl 3 rfl) ?_
    refine lv_bipush (v := 6) hx hb d_MO_prepare_10 (by decide) ?_
    refine lv_icmp_ge (tgt := 65) hx hb d_MO_prepare_12 (by decide) (fun h12 => absurd h12 (show ¬ nI 6 ≤ nI i from nI_ge (by omega) (by omega))) (fun h12 => ?_)
    refine lv_aload_n hx hb d_MO_prepare_15 rfl (lv_at hl 0 rfl) ?_
    refine va_get (D := D) (ci := 8) (v := .ref (b 14)) (C := R_MO) (T := F_MO) (N := 25) hx hb (tb_in hok in_MO) (fun w h => h) hown hK hP 0 rfl rfl 17 (by decide) (hok _ t_722 rfl _) (fun _ h9 => h9) rfl d_MO_prepare_16 ?_
    refine lv_iload_n hx hb d_MO_prepare_19 rfl (lv_at hl 3 rfl) ?_
    refine lv_iload_n hx hb d_MO_prepare_20 rfl (lv_at hl 3 rfl) ?_
    refine lv_if_le (tgt := 43) hx hb d_MO_prepare_21 (by decide) (fun h21 => ?_) (fun h21 => ?_)
    · refine lv_iconst (v := 0) hx hb d_MO_prepare_43 (by decide) ?_
      refine W.eq (g2 := F0 m 44 ls [.int (ynv dm ex p0 s0 (rq p0) i), .int (nI i), .ref (b 14)]) (by rw [show (ynv dm ex p0 s0 (rq p0) i) = 0 from if_neg (fun z => absurd h21 (nI_nle z.1 (by omega)))]) ?_
      refine va_iast hx hb hK hP hD hS 9 0 rfl rfl (vp_in_nI (by omega) (by omega)) d_MO_prepare_44 (fun H locs hP hD hS => ?_)
      rw [nI_clamp (show i < 2 ^ 31 from by omega)] at hP hD
      have hP : va_P D cls [(h, .inr (8, [.int th, .int (nI G), .ref (b 0), .ref (b 1), .int (nI C), .ref (b 2), .ref (b 3), .ref (b 4), .ref (b 5), .ref (b 6), .ref (b 7), .ref (b 8), .ref (b 9), .ref (b 10), .ref (b 11), .ref (b 12), .ref (b 13), .ref (b 14), .ref (b 15), .ref (b 16), .ref (b 17), .ref (b 18), .int (zb hs), .ref (b 19), .ref (b 20)])), ((b 5), .inl (cI, 3, .inl (fun j => nI (rq j)))), ((b 6), .inl (cI, 18, .inl dm)), ((b 8), .inl (cI, 4, .inl pg)), ((b 13), .inl (cI, 24, .inl ex)), ((b 7), .inl (cI, 18, .inl al)), ((b 10), .inl (cI, 4, .inl (fun j => nI (pe j)))), ((b 11), .inl (cI, 32, .inl pf)), ((b 12), .inl (cI, 32, .inl pt)), ((b 14), .inl (cI, 6, .inl (upd (ypn dm ex p0 s0 (rq p0) nd i) i (ynv dm ex p0 s0 (rq p0) i)))), ((b 16), .inl (cI, 6, .inl (zfl gv 0 i))), ((b 17), .inl (cI, 6, .inl (zfl tk 0 i))), ((b 15), .inl (cI, 12, .inl cn))] H := hP
      have hD : va_D A [(h, .inr (8, [.int th, .int (nI G), .ref (b 0), .ref (b 1), .int (nI C), .ref (b 2), .ref (b 3), .ref (b 4), .ref (b 5), .ref (b 6), .ref (b 7), .ref (b 8), .ref (b 9), .ref (b 10), .ref (b 11), .ref (b 12), .ref (b 13), .ref (b 14), .ref (b 15), .ref (b 16), .ref (b 17), .ref (b 18), .int (zb hs), .ref (b 19), .ref (b 20)])), ((b 5), .inl (cI, 3, .inl (fun j => nI (rq j)))), ((b 6), .inl (cI, 18, .inl dm)), ((b 8), .inl (cI, 4, .inl pg)), ((b 13), .inl (cI, 24, .inl ex)), ((b 7), .inl (cI, 18, .inl al)), ((b 10), .inl (cI, 4, .inl (fun j => nI (pe j)))), ((b 11), .inl (cI, 32, .inl pf)), ((b 12), .inl (cI, 32, .inl pt)), ((b 14), .inl (cI, 6, .inl (upd (ypn dm ex p0 s0 (rq p0) nd i) i (ynv dm ex p0 s0 (rq p0) i)))), ((b 16), .inl (cI, 6, .inl (zfl gv 0 i))), ((b 17), .inl (cI, 6, .inl (zfl tk 0 i))), ((b 15), .inl (cI, 12, .inl cn))] := hD
      refine lv_aload_n hx hb d_MO_prepare_45 rfl (lv_at hl 0 rfl) ?_
      refine va_get (D := D) (ci := 8) (v := .ref (b 16)) (C := R_MO) (T := F_MO) (N := 25) hx hb (tb_in hok in_MO) (fun w h => h) hown hK hP 0 rfl rfl 19 (by decide) (hok _ t_724 rfl _) (fun _ h9 => h9) rfl d_MO_prepare_46 ?_
      refine lv_iload_n hx hb d_MO_prepare_49 rfl (lv_at hl 3 rfl) ?_
      refine lv_iconst (v := 0) hx hb d_MO_prepare_50 (by decide) ?_
      refine va_iast hx hb hK hP hD hS 10 0 rfl rfl (vp_in_nI (by omega) (by omega)) d_MO_prepare_51 (fun H locs hP hD hS => ?_)
      rw [nI_clamp (show i < 2 ^ 31 from by omega)] at hP hD
      have hP : va_P D cls [(h, .inr (8, [.int th, .int (nI G), .ref (b 0), .ref (b 1), .int (nI C), .ref (b 2), .ref (b 3), .ref (b 4), .ref (b 5), .ref (b 6), .ref (b 7), .ref (b 8), .ref (b 9), .ref (b 10), .ref (b 11), .ref (b 12), .ref (b 13), .ref (b 14), .ref (b 15), .ref (b 16), .ref (b 17), .ref (b 18), .int (zb hs), .ref (b 19), .ref (b 20)])), ((b 5), .inl (cI, 3, .inl (fun j => nI (rq j)))), ((b 6), .inl (cI, 18, .inl dm)), ((b 8), .inl (cI, 4, .inl pg)), ((b 13), .inl (cI, 24, .inl ex)), ((b 7), .inl (cI, 18, .inl al)), ((b 10), .inl (cI, 4, .inl (fun j => nI (pe j)))), ((b 11), .inl (cI, 32, .inl pf)), ((b 12), .inl (cI, 32, .inl pt)), ((b 14), .inl (cI, 6, .inl (upd (ypn dm ex p0 s0 (rq p0) nd i) i (ynv dm ex p0 s0 (rq p0) i)))), ((b 16), .inl (cI, 6, .inl (upd (zfl gv 0 i) i 0))), ((b 17), .inl (cI, 6, .inl (zfl tk 0 i))), ((b 15), .inl (cI, 12, .inl cn))] H := hP
      have hD : va_D A [(h, .inr (8, [.int th, .int (nI G), .ref (b 0), .ref (b 1), .int (nI C), .ref (b 2), .ref (b 3), .ref (b 4), .ref (b 5), .ref (b 6), .ref (b 7), .ref (b 8), .ref (b 9), .ref (b 10), .ref (b 11), .ref (b 12), .ref (b 13), .ref (b 14), .ref (b 15), .ref (b 16), .ref (b 17), .ref (b 18), .int (zb hs), .ref (b 19), .ref (b 20)])), ((b 5), .inl (cI, 3, .inl (fun j => nI (rq j)))), ((b 6), .inl (cI, 18, .inl dm)), ((b 8), .inl (cI, 4, .inl pg)), ((b 13), .inl (cI, 24, .inl ex)), ((b 7), .inl (cI, 18, .inl al)), ((b 10), .inl (cI, 4, .inl (fun j => nI (pe j)))), ((b 11), .inl (cI, 32, .inl pf)), ((b 12), .inl (cI, 32, .inl pt)), ((b 14), .inl (cI, 6, .inl (upd (ypn dm ex p0 s0 (rq p0) nd i) i (ynv dm ex p0 s0 (rq p0) i)))), ((b 16), .inl (cI, 6, .inl (upd (zfl gv 0 i) i 0))), ((b 17), .inl (cI, 6, .inl (zfl tk 0 i))), ((b 15), .inl (cI, 12, .inl cn))] := hD
      refine lv_aload_n hx hb d_MO_prepare_52 rfl (lv_at hl 0 rfl) ?_
      refine va_get (D := D) (ci := 8) (v := .ref (b 17)) (C := R_MO) (T := F_MO) (N := 25) hx hb (tb_in hok in_MO) (fun w h => h) hown hK hP 0 rfl rfl 20 (by decide) (hok _ t_725 rfl _) (fun _ h9 => h9) rfl d_MO_prepare_53 ?_
      refine lv_iload_n hx hb d_MO_prepare_56 rfl (lv_at hl 3 rfl) ?_
      refine lv_iconst (v := 0) hx hb d_MO_prepare_57 (by decide) ?_
      refine va_iast hx hb hK hP hD hS 11 0 rfl rfl (vp_in_nI (by omega) (by omega)) d_MO_prepare_58 (fun H locs hP hD hS => ?_)
      rw [nI_clamp (show i < 2 ^ 31 from by omega)] at hP hD
      have hP : va_P D cls [(h, .inr (8, [.int th, .int (nI G), .ref (b 0), .ref (b 1), .int (nI C), .ref (b 2), .ref (b 3), .ref (b 4), .ref (b 5), .ref (b 6), .ref (b 7), .ref (b 8), .ref (b 9), .ref (b 10), .ref (b 11), .ref (b 12), .ref (b 13), .ref (b 14), .ref (b 15), .ref (b 16), .ref (b 17), .ref (b 18), .int (zb hs), .ref (b 19), .ref (b 20)])), ((b 5), .inl (cI, 3, .inl (fun j => nI (rq j)))), ((b 6), .inl (cI, 18, .inl dm)), ((b 8), .inl (cI, 4, .inl pg)), ((b 13), .inl (cI, 24, .inl ex)), ((b 7), .inl (cI, 18, .inl al)), ((b 10), .inl (cI, 4, .inl (fun j => nI (pe j)))), ((b 11), .inl (cI, 32, .inl pf)), ((b 12), .inl (cI, 32, .inl pt)), ((b 14), .inl (cI, 6, .inl (upd (ypn dm ex p0 s0 (rq p0) nd i) i (ynv dm ex p0 s0 (rq p0) i)))), ((b 16), .inl (cI, 6, .inl (upd (zfl gv 0 i) i 0))), ((b 17), .inl (cI, 6, .inl (upd (zfl tk 0 i) i 0))), ((b 15), .inl (cI, 12, .inl cn))] H := hP
      have hD : va_D A [(h, .inr (8, [.int th, .int (nI G), .ref (b 0), .ref (b 1), .int (nI C), .ref (b 2), .ref (b 3), .ref (b 4), .ref (b 5), .ref (b 6), .ref (b 7), .ref (b 8), .ref (b 9), .ref (b 10), .ref (b 11), .ref (b 12), .ref (b 13), .ref (b 14), .ref (b 15), .ref (b 16), .ref (b 17), .ref (b 18), .int (zb hs), .ref (b 19), .ref (b 20)])), ((b 5), .inl (cI, 3, .inl (fun j => nI (rq j)))), ((b 6), .inl (cI, 18, .inl dm)), ((b 8), .inl (cI, 4, .inl pg)), ((b 13), .inl (cI, 24, .inl ex)), ((b 7), .inl (cI, 18, .inl al)), ((b 10), .inl (cI, 4, .inl (fun j => nI (pe j)))), ((b 11), .inl (cI, 32, .inl pf)), ((b 12), .inl (cI, 32, .inl pt)), ((b 14), .inl (cI, 6, .inl (upd (ypn dm ex p0 s0 (rq p0) nd i) i (ynv dm ex p0 s0 (rq p0) i)))), ((b 16), .inl (cI, 6, .inl (upd (zfl gv 0 i) i 0))), ((b 17), .inl (cI, 6, .inl (upd (zfl tk 0 i) i 0))), ((b 15), .inl (cI, 12, .inl cn))] := hD
      refine lv_iinc (v := (nI (i + 1))) hx hb d_MO_prepare_59 hl (k := 3) rfl (by rw [nI_succ]; rfl) (by decide) rfl (fun ls hl => ?_)
      have hl : lv_has ls 6 [(3, .int (nI (i + 1))), (0, .ref h), (1, .int (nI s0)), (2, .int (nI p0))] := hl
      refine lv_goto (tgt := 9) hx hb d_MO_prepare_62 (by decide) ?_
      exact ih (i + 1) ls H locs (by omega) (by omega) (lv_sub hl [1, 2, 3, 0] rfl) hP hD hS
    · refine lv_iload_n hx hb d_MO_prepare_24 rfl (lv_at hl 3 rfl) ?_
      refine lv_aload_n hx hb d_MO_prepare_25 rfl (lv_at hl 0 rfl) ?_
      refine va_get (D := D) (ci := 8) (v := .ref (b 5)) (C := R_MO) (T := F_MO) (N := 25) hx hb (tb_in hok in_MO) (fun w h => h) hown hK hP 0 rfl rfl 8 (by decide) (hok _ t_713 rfl _) (fun _ h9 => h9) rfl d_MO_prepare_26 ?_
      refine lv_iload_n hx hb d_MO_prepare_29 rfl (lv_at hl 2 rfl) ?_
      refine va_iald hx hb hK hP 1 0 rfl rfl (vp_in_nI (by omega) (by omega)) d_MO_prepare_30 ?_
      rw [nI_clamp (show p0 < 2 ^ 31 from by omega)]
      refine lv_icmp_gt (tgt := 43) hx hb d_MO_prepare_31 (by decide) (fun h31 => ?_) (fun h31 => ?_)
      · refine lv_iconst (v := 0) hx hb d_MO_prepare_43 (by decide) ?_
        refine W.eq (g2 := F0 m 44 ls [.int (ynv dm ex p0 s0 (rq p0) i), .int (nI i), .ref (b 14)]) (by rw [show (ynv dm ex p0 s0 (rq p0) i) = 0 from if_neg (fun z => absurd h31 (nI_nlt z.2 (by omega)))]) ?_
        refine va_iast hx hb hK hP hD hS 9 0 rfl rfl (vp_in_nI (by omega) (by omega)) d_MO_prepare_44 (fun H locs hP hD hS => ?_)
        rw [nI_clamp (show i < 2 ^ 31 from by omega)] at hP hD
        have hP : va_P D cls [(h, .inr (8, [.int th, .int (nI G), .ref (b 0), .ref (b 1), .int (nI C), .ref (b 2), .ref (b 3), .ref (b 4), .ref (b 5), .ref (b 6), .ref (b 7), .ref (b 8), .ref (b 9), .ref (b 10), .ref (b 11), .ref (b 12), .ref (b 13), .ref (b 14), .ref (b 15), .ref (b 16), .ref (b 17), .ref (b 18), .int (zb hs), .ref (b 19), .ref (b 20)])), ((b 5), .inl (cI, 3, .inl (fun j => nI (rq j)))), ((b 6), .inl (cI, 18, .inl dm)), ((b 8), .inl (cI, 4, .inl pg)), ((b 13), .inl (cI, 24, .inl ex)), ((b 7), .inl (cI, 18, .inl al)), ((b 10), .inl (cI, 4, .inl (fun j => nI (pe j)))), ((b 11), .inl (cI, 32, .inl pf)), ((b 12), .inl (cI, 32, .inl pt)), ((b 14), .inl (cI, 6, .inl (upd (ypn dm ex p0 s0 (rq p0) nd i) i (ynv dm ex p0 s0 (rq p0) i)))), ((b 16), .inl (cI, 6, .inl (zfl gv 0 i))), ((b 17), .inl (cI, 6, .inl (zfl tk 0 i))), ((b 15), .inl (cI, 12, .inl cn))] H := hP
        have hD : va_D A [(h, .inr (8, [.int th, .int (nI G), .ref (b 0), .ref (b 1), .int (nI C), .ref (b 2), .ref (b 3), .ref (b 4), .ref (b 5), .ref (b 6), .ref (b 7), .ref (b 8), .ref (b 9), .ref (b 10), .ref (b 11), .ref (b 12), .ref (b 13), .ref (b 14), .ref (b 15), .ref (b 16), .ref (b 17), .ref (b 18), .int (zb hs), .ref (b 19), .ref (b 20)])), ((b 5), .inl (cI, 3, .inl (fun j => nI (rq j)))), ((b 6), .inl (cI, 18, .inl dm)), ((b 8), .inl (cI, 4, .inl pg)), ((b 13), .inl (cI, 24, .inl ex)), ((b 7), .inl (cI, 18, .inl al)), ((b 10), .inl (cI, 4, .inl (fun j => nI (pe j)))), ((b 11), .inl (cI, 32, .inl pf)), ((b 12), .inl (cI, 32, .inl pt)), ((b 14), .inl (cI, 6, .inl (upd (ypn dm ex p0 s0 (rq p0) nd i) i (ynv dm ex p0 s0 (rq p0) i)))), ((b 16), .inl (cI, 6, .inl (zfl gv 0 i))), ((b 17), .inl (cI, 6, .inl (zfl tk 0 i))), ((b 15), .inl (cI, 12, .inl cn))] := hD
        refine lv_aload_n hx hb d_MO_prepare_45 rfl (lv_at hl 0 rfl) ?_
        refine va_get (D := D) (ci := 8) (v := .ref (b 16)) (C := R_MO) (T := F_MO) (N := 25) hx hb (tb_in hok in_MO) (fun w h => h) hown hK hP 0 rfl rfl 19 (by decide) (hok _ t_724 rfl _) (fun _ h9 => h9) rfl d_MO_prepare_46 ?_
        refine lv_iload_n hx hb d_MO_prepare_49 rfl (lv_at hl 3 rfl) ?_
        refine lv_iconst (v := 0) hx hb d_MO_prepare_50 (by decide) ?_
        refine va_iast hx hb hK hP hD hS 10 0 rfl rfl (vp_in_nI (by omega) (by omega)) d_MO_prepare_51 (fun H locs hP hD hS => ?_)
        rw [nI_clamp (show i < 2 ^ 31 from by omega)] at hP hD
        have hP : va_P D cls [(h, .inr (8, [.int th, .int (nI G), .ref (b 0), .ref (b 1), .int (nI C), .ref (b 2), .ref (b 3), .ref (b 4), .ref (b 5), .ref (b 6), .ref (b 7), .ref (b 8), .ref (b 9), .ref (b 10), .ref (b 11), .ref (b 12), .ref (b 13), .ref (b 14), .ref (b 15), .ref (b 16), .ref (b 17), .ref (b 18), .int (zb hs), .ref (b 19), .ref (b 20)])), ((b 5), .inl (cI, 3, .inl (fun j => nI (rq j)))), ((b 6), .inl (cI, 18, .inl dm)), ((b 8), .inl (cI, 4, .inl pg)), ((b 13), .inl (cI, 24, .inl ex)), ((b 7), .inl (cI, 18, .inl al)), ((b 10), .inl (cI, 4, .inl (fun j => nI (pe j)))), ((b 11), .inl (cI, 32, .inl pf)), ((b 12), .inl (cI, 32, .inl pt)), ((b 14), .inl (cI, 6, .inl (upd (ypn dm ex p0 s0 (rq p0) nd i) i (ynv dm ex p0 s0 (rq p0) i)))), ((b 16), .inl (cI, 6, .inl (upd (zfl gv 0 i) i 0))), ((b 17), .inl (cI, 6, .inl (zfl tk 0 i))), ((b 15), .inl (cI, 12, .inl cn))] H := hP
        have hD : va_D A [(h, .inr (8, [.int th, .int (nI G), .ref (b 0), .ref (b 1), .int (nI C), .ref (b 2), .ref (b 3), .ref (b 4), .ref (b 5), .ref (b 6), .ref (b 7), .ref (b 8), .ref (b 9), .ref (b 10), .ref (b 11), .ref (b 12), .ref (b 13), .ref (b 14), .ref (b 15), .ref (b 16), .ref (b 17), .ref (b 18), .int (zb hs), .ref (b 19), .ref (b 20)])), ((b 5), .inl (cI, 3, .inl (fun j => nI (rq j)))), ((b 6), .inl (cI, 18, .inl dm)), ((b 8), .inl (cI, 4, .inl pg)), ((b 13), .inl (cI, 24, .inl ex)), ((b 7), .inl (cI, 18, .inl al)), ((b 10), .inl (cI, 4, .inl (fun j => nI (pe j)))), ((b 11), .inl (cI, 32, .inl pf)), ((b 12), .inl (cI, 32, .inl pt)), ((b 14), .inl (cI, 6, .inl (upd (ypn dm ex p0 s0 (rq p0) nd i) i (ynv dm ex p0 s0 (rq p0) i)))), ((b 16), .inl (cI, 6, .inl (upd (zfl gv 0 i) i 0))), ((b 17), .inl (cI, 6, .inl (zfl tk 0 i))), ((b 15), .inl (cI, 12, .inl cn))] := hD
        refine lv_aload_n hx hb d_MO_prepare_52 rfl (lv_at hl 0 rfl) ?_
        refine va_get (D := D) (ci := 8) (v := .ref (b 17)) (C := R_MO) (T := F_MO) (N := 25) hx hb (tb_in hok in_MO) (fun w h => h) hown hK hP 0 rfl rfl 20 (by decide) (hok _ t_725 rfl _) (fun _ h9 => h9) rfl d_MO_prepare_53 ?_
        refine lv_iload_n hx hb d_MO_prepare_56 rfl (lv_at hl 3 rfl) ?_
        refine lv_iconst (v := 0) hx hb d_MO_prepare_57 (by decide) ?_
        refine va_iast hx hb hK hP hD hS 11 0 rfl rfl (vp_in_nI (by omega) (by omega)) d_MO_prepare_58 (fun H locs hP hD hS => ?_)
        rw [nI_clamp (show i < 2 ^ 31 from by omega)] at hP hD
        have hP : va_P D cls [(h, .inr (8, [.int th, .int (nI G), .ref (b 0), .ref (b 1), .int (nI C), .ref (b 2), .ref (b 3), .ref (b 4), .ref (b 5), .ref (b 6), .ref (b 7), .ref (b 8), .ref (b 9), .ref (b 10), .ref (b 11), .ref (b 12), .ref (b 13), .ref (b 14), .ref (b 15), .ref (b 16), .ref (b 17), .ref (b 18), .int (zb hs), .ref (b 19), .ref (b 20)])), ((b 5), .inl (cI, 3, .inl (fun j => nI (rq j)))), ((b 6), .inl (cI, 18, .inl dm)), ((b 8), .inl (cI, 4, .inl pg)), ((b 13), .inl (cI, 24, .inl ex)), ((b 7), .inl (cI, 18, .inl al)), ((b 10), .inl (cI, 4, .inl (fun j => nI (pe j)))), ((b 11), .inl (cI, 32, .inl pf)), ((b 12), .inl (cI, 32, .inl pt)), ((b 14), .inl (cI, 6, .inl (upd (ypn dm ex p0 s0 (rq p0) nd i) i (ynv dm ex p0 s0 (rq p0) i)))), ((b 16), .inl (cI, 6, .inl (upd (zfl gv 0 i) i 0))), ((b 17), .inl (cI, 6, .inl (upd (zfl tk 0 i) i 0))), ((b 15), .inl (cI, 12, .inl cn))] H := hP
        have hD : va_D A [(h, .inr (8, [.int th, .int (nI G), .ref (b 0), .ref (b 1), .int (nI C), .ref (b 2), .ref (b 3), .ref (b 4), .ref (b 5), .ref (b 6), .ref (b 7), .ref (b 8), .ref (b 9), .ref (b 10), .ref (b 11), .ref (b 12), .ref (b 13), .ref (b 14), .ref (b 15), .ref (b 16), .ref (b 17), .ref (b 18), .int (zb hs), .ref (b 19), .ref (b 20)])), ((b 5), .inl (cI, 3, .inl (fun j => nI (rq j)))), ((b 6), .inl (cI, 18, .inl dm)), ((b 8), .inl (cI, 4, .inl pg)), ((b 13), .inl (cI, 24, .inl ex)), ((b 7), .inl (cI, 18, .inl al)), ((b 10), .inl (cI, 4, .inl (fun j => nI (pe j)))), ((b 11), .inl (cI, 32, .inl pf)), ((b 12), .inl (cI, 32, .inl pt)), ((b 14), .inl (cI, 6, .inl (upd (ypn dm ex p0 s0 (rq p0) nd i) i (ynv dm ex p0 s0 (rq p0) i)))), ((b 16), .inl (cI, 6, .inl (upd (zfl gv 0 i) i 0))), ((b 17), .inl (cI, 6, .inl (upd (zfl tk 0 i) i 0))), ((b 15), .inl (cI, 12, .inl cn))] := hD
        refine lv_iinc (v := (nI (i + 1))) hx hb d_MO_prepare_59 hl (k := 3) rfl (by rw [nI_succ]; rfl) (by decide) rfl (fun ls hl => ?_)
        have hl : lv_has ls 6 [(3, .int (nI (i + 1))), (0, .ref h), (1, .int (nI s0)), (2, .int (nI p0))] := hl
        refine lv_goto (tgt := 9) hx hb d_MO_prepare_62 (by decide) ?_
        exact ih (i + 1) ls H locs (by omega) (by omega) (lv_sub hl [1, 2, 3, 0] rfl) hP hD hS
      · refine lv_aload_n hx hb d_MO_prepare_34 rfl (lv_at hl 0 rfl) ?_
        refine lv_iload_n hx hb d_MO_prepare_35 rfl (lv_at hl 1 rfl) ?_
        refine lv_iload_n hx hb d_MO_prepare_36 rfl (lv_at hl 3 rfl) ?_
        refine zc_read (va_runV (Ts := []) (As := [.int (nI s0), .int (nI i)]) (rest := [.int (nI i), .ref (b 14)]) ⟨hx, hb, hml, hown, fun _ h => absurd h List.not_mem_nil⟩ (m_MO_need l D cI cJ cZ cP cS h b th G C hs s0 i p0 dm pg ex hs0 (by omega) hp0 hpg) ⟨zc_B 2 hok c_MO_need_w t_10 t_844 rfl rfl (by decide +kernel) ⟨Nat.le_of_ble_eq_true rfl, Nat.le_of_ble_eq_true rfl⟩, hok _ t_846 rfl _, hok _ s_22 rfl _⟩ ⟨fun a U g mk q => by obtain ⟨q0, q2, qP, qK⟩ := q; exact ⟨q0, q2.call g mk a, qP, va_K.moved (u := U) (U := U.calling g mk a) (Vm.Alike.refl U.vm) qK⟩, va_recv hK hP (ci := 8) (q0 := 0) rfl rfl, fun U hU hW => ⟨rfl, hok.warm hW, by rw [hU]; exact hP.sub [0, 2, 3, 4] rfl, va_K.moved hW.alike hK⟩⟩ rfl rfl hl.1 rfl (lv_room (Nat.le_of_ble_eq_true rfl)) d_MO_prepare_37 ⟨Nat.le_of_ble_eq_true rfl, Nat.le_of_ble_eq_true rfl⟩) ?_
        refine W.eq (g2 := F0 m 40 ls [.int (yne (dm (6 * p0 + i) - ex (6 * s0 + i))), .int (nI i), .ref (b 14)]) rfl ?_
        refine lv_goto (tgt := 44) hx hb d_MO_prepare_40 (by decide) ?_
        refine W.eq (g2 := F0 m 44 ls [.int (ynv dm ex p0 s0 (rq p0) i), .int (nI i), .ref (b 14)]) (by rw [show (ynv dm ex p0 s0 (rq p0) i) = (yne (dm (6 * p0 + i) - ex (6 * s0 + i))) from if_pos ⟨Nat.pos_of_ne_zero (fun z => h21 (by rw [z]; decide)), Nat.le_of_not_lt (fun z => h31 (nI_lt z (by omega)))⟩]) ?_
        refine va_iast hx hb hK hP hD hS 9 0 rfl rfl (vp_in_nI (by omega) (by omega)) d_MO_prepare_44 (fun H locs hP hD hS => ?_)
        rw [nI_clamp (show i < 2 ^ 31 from by omega)] at hP hD
        have hP : va_P D cls [(h, .inr (8, [.int th, .int (nI G), .ref (b 0), .ref (b 1), .int (nI C), .ref (b 2), .ref (b 3), .ref (b 4), .ref (b 5), .ref (b 6), .ref (b 7), .ref (b 8), .ref (b 9), .ref (b 10), .ref (b 11), .ref (b 12), .ref (b 13), .ref (b 14), .ref (b 15), .ref (b 16), .ref (b 17), .ref (b 18), .int (zb hs), .ref (b 19), .ref (b 20)])), ((b 5), .inl (cI, 3, .inl (fun j => nI (rq j)))), ((b 6), .inl (cI, 18, .inl dm)), ((b 8), .inl (cI, 4, .inl pg)), ((b 13), .inl (cI, 24, .inl ex)), ((b 7), .inl (cI, 18, .inl al)), ((b 10), .inl (cI, 4, .inl (fun j => nI (pe j)))), ((b 11), .inl (cI, 32, .inl pf)), ((b 12), .inl (cI, 32, .inl pt)), ((b 14), .inl (cI, 6, .inl (upd (ypn dm ex p0 s0 (rq p0) nd i) i (ynv dm ex p0 s0 (rq p0) i)))), ((b 16), .inl (cI, 6, .inl (zfl gv 0 i))), ((b 17), .inl (cI, 6, .inl (zfl tk 0 i))), ((b 15), .inl (cI, 12, .inl cn))] H := hP
        have hD : va_D A [(h, .inr (8, [.int th, .int (nI G), .ref (b 0), .ref (b 1), .int (nI C), .ref (b 2), .ref (b 3), .ref (b 4), .ref (b 5), .ref (b 6), .ref (b 7), .ref (b 8), .ref (b 9), .ref (b 10), .ref (b 11), .ref (b 12), .ref (b 13), .ref (b 14), .ref (b 15), .ref (b 16), .ref (b 17), .ref (b 18), .int (zb hs), .ref (b 19), .ref (b 20)])), ((b 5), .inl (cI, 3, .inl (fun j => nI (rq j)))), ((b 6), .inl (cI, 18, .inl dm)), ((b 8), .inl (cI, 4, .inl pg)), ((b 13), .inl (cI, 24, .inl ex)), ((b 7), .inl (cI, 18, .inl al)), ((b 10), .inl (cI, 4, .inl (fun j => nI (pe j)))), ((b 11), .inl (cI, 32, .inl pf)), ((b 12), .inl (cI, 32, .inl pt)), ((b 14), .inl (cI, 6, .inl (upd (ypn dm ex p0 s0 (rq p0) nd i) i (ynv dm ex p0 s0 (rq p0) i)))), ((b 16), .inl (cI, 6, .inl (zfl gv 0 i))), ((b 17), .inl (cI, 6, .inl (zfl tk 0 i))), ((b 15), .inl (cI, 12, .inl cn))] := hD
        refine lv_aload_n hx hb d_MO_prepare_45 rfl (lv_at hl 0 rfl) ?_
        refine va_get (D := D) (ci := 8) (v := .ref (b 16)) (C := R_MO) (T := F_MO) (N := 25) hx hb (tb_in hok in_MO) (fun w h => h) hown hK hP 0 rfl rfl 19 (by decide) (hok _ t_724 rfl _) (fun _ h9 => h9) rfl d_MO_prepare_46 ?_
        refine lv_iload_n hx hb d_MO_prepare_49 rfl (lv_at hl 3 rfl) ?_
        refine lv_iconst (v := 0) hx hb d_MO_prepare_50 (by decide) ?_
        refine va_iast hx hb hK hP hD hS 10 0 rfl rfl (vp_in_nI (by omega) (by omega)) d_MO_prepare_51 (fun H locs hP hD hS => ?_)
        rw [nI_clamp (show i < 2 ^ 31 from by omega)] at hP hD
        have hP : va_P D cls [(h, .inr (8, [.int th, .int (nI G), .ref (b 0), .ref (b 1), .int (nI C), .ref (b 2), .ref (b 3), .ref (b 4), .ref (b 5), .ref (b 6), .ref (b 7), .ref (b 8), .ref (b 9), .ref (b 10), .ref (b 11), .ref (b 12), .ref (b 13), .ref (b 14), .ref (b 15), .ref (b 16), .ref (b 17), .ref (b 18), .int (zb hs), .ref (b 19), .ref (b 20)])), ((b 5), .inl (cI, 3, .inl (fun j => nI (rq j)))), ((b 6), .inl (cI, 18, .inl dm)), ((b 8), .inl (cI, 4, .inl pg)), ((b 13), .inl (cI, 24, .inl ex)), ((b 7), .inl (cI, 18, .inl al)), ((b 10), .inl (cI, 4, .inl (fun j => nI (pe j)))), ((b 11), .inl (cI, 32, .inl pf)), ((b 12), .inl (cI, 32, .inl pt)), ((b 14), .inl (cI, 6, .inl (upd (ypn dm ex p0 s0 (rq p0) nd i) i (ynv dm ex p0 s0 (rq p0) i)))), ((b 16), .inl (cI, 6, .inl (upd (zfl gv 0 i) i 0))), ((b 17), .inl (cI, 6, .inl (zfl tk 0 i))), ((b 15), .inl (cI, 12, .inl cn))] H := hP
        have hD : va_D A [(h, .inr (8, [.int th, .int (nI G), .ref (b 0), .ref (b 1), .int (nI C), .ref (b 2), .ref (b 3), .ref (b 4), .ref (b 5), .ref (b 6), .ref (b 7), .ref (b 8), .ref (b 9), .ref (b 10), .ref (b 11), .ref (b 12), .ref (b 13), .ref (b 14), .ref (b 15), .ref (b 16), .ref (b 17), .ref (b 18), .int (zb hs), .ref (b 19), .ref (b 20)])), ((b 5), .inl (cI, 3, .inl (fun j => nI (rq j)))), ((b 6), .inl (cI, 18, .inl dm)), ((b 8), .inl (cI, 4, .inl pg)), ((b 13), .inl (cI, 24, .inl ex)), ((b 7), .inl (cI, 18, .inl al)), ((b 10), .inl (cI, 4, .inl (fun j => nI (pe j)))), ((b 11), .inl (cI, 32, .inl pf)), ((b 12), .inl (cI, 32, .inl pt)), ((b 14), .inl (cI, 6, .inl (upd (ypn dm ex p0 s0 (rq p0) nd i) i (ynv dm ex p0 s0 (rq p0) i)))), ((b 16), .inl (cI, 6, .inl (upd (zfl gv 0 i) i 0))), ((b 17), .inl (cI, 6, .inl (zfl tk 0 i))), ((b 15), .inl (cI, 12, .inl cn))] := hD
        refine lv_aload_n hx hb d_MO_prepare_52 rfl (lv_at hl 0 rfl) ?_
        refine va_get (D := D) (ci := 8) (v := .ref (b 17)) (C := R_MO) (T := F_MO) (N := 25) hx hb (tb_in hok in_MO) (fun w h => h) hown hK hP 0 rfl rfl 20 (by decide) (hok _ t_725 rfl _) (fun _ h9 => h9) rfl d_MO_prepare_53 ?_
        refine lv_iload_n hx hb d_MO_prepare_56 rfl (lv_at hl 3 rfl) ?_
        refine lv_iconst (v := 0) hx hb d_MO_prepare_57 (by decide) ?_
        refine va_iast hx hb hK hP hD hS 11 0 rfl rfl (vp_in_nI (by omega) (by omega)) d_MO_prepare_58 (fun H locs hP hD hS => ?_)
        rw [nI_clamp (show i < 2 ^ 31 from by omega)] at hP hD
        have hP : va_P D cls [(h, .inr (8, [.int th, .int (nI G), .ref (b 0), .ref (b 1), .int (nI C), .ref (b 2), .ref (b 3), .ref (b 4), .ref (b 5), .ref (b 6), .ref (b 7), .ref (b 8), .ref (b 9), .ref (b 10), .ref (b 11), .ref (b 12), .ref (b 13), .ref (b 14), .ref (b 15), .ref (b 16), .ref (b 17), .ref (b 18), .int (zb hs), .ref (b 19), .ref (b 20)])), ((b 5), .inl (cI, 3, .inl (fun j => nI (rq j)))), ((b 6), .inl (cI, 18, .inl dm)), ((b 8), .inl (cI, 4, .inl pg)), ((b 13), .inl (cI, 24, .inl ex)), ((b 7), .inl (cI, 18, .inl al)), ((b 10), .inl (cI, 4, .inl (fun j => nI (pe j)))), ((b 11), .inl (cI, 32, .inl pf)), ((b 12), .inl (cI, 32, .inl pt)), ((b 14), .inl (cI, 6, .inl (upd (ypn dm ex p0 s0 (rq p0) nd i) i (ynv dm ex p0 s0 (rq p0) i)))), ((b 16), .inl (cI, 6, .inl (upd (zfl gv 0 i) i 0))), ((b 17), .inl (cI, 6, .inl (upd (zfl tk 0 i) i 0))), ((b 15), .inl (cI, 12, .inl cn))] H := hP
        have hD : va_D A [(h, .inr (8, [.int th, .int (nI G), .ref (b 0), .ref (b 1), .int (nI C), .ref (b 2), .ref (b 3), .ref (b 4), .ref (b 5), .ref (b 6), .ref (b 7), .ref (b 8), .ref (b 9), .ref (b 10), .ref (b 11), .ref (b 12), .ref (b 13), .ref (b 14), .ref (b 15), .ref (b 16), .ref (b 17), .ref (b 18), .int (zb hs), .ref (b 19), .ref (b 20)])), ((b 5), .inl (cI, 3, .inl (fun j => nI (rq j)))), ((b 6), .inl (cI, 18, .inl dm)), ((b 8), .inl (cI, 4, .inl pg)), ((b 13), .inl (cI, 24, .inl ex)), ((b 7), .inl (cI, 18, .inl al)), ((b 10), .inl (cI, 4, .inl (fun j => nI (pe j)))), ((b 11), .inl (cI, 32, .inl pf)), ((b 12), .inl (cI, 32, .inl pt)), ((b 14), .inl (cI, 6, .inl (upd (ypn dm ex p0 s0 (rq p0) nd i) i (ynv dm ex p0 s0 (rq p0) i)))), ((b 16), .inl (cI, 6, .inl (upd (zfl gv 0 i) i 0))), ((b 17), .inl (cI, 6, .inl (upd (zfl tk 0 i) i 0))), ((b 15), .inl (cI, 12, .inl cn))] := hD
        refine lv_iinc (v := (nI (i + 1))) hx hb d_MO_prepare_59 hl (k := 3) rfl (by rw [nI_succ]; rfl) (by decide) rfl (fun ls hl => ?_)
        have hl : lv_has ls 6 [(3, .int (nI (i + 1))), (0, .ref h), (1, .int (nI s0)), (2, .int (nI p0))] := hl
        refine lv_goto (tgt := 9) hx hb d_MO_prepare_62 (by decide) ?_
        exact ih (i + 1) ls H locs (by omega) (by omega) (lv_sub hl [1, 2, 3, 0] rfl) hP hD hS
set_option maxHeartbeats 4000000 in
set_option maxRecDepth 100000 in
theorem lo_prep2 {l : Launch} {p : Program} {e : Env} {s : State} {m : MethodId} {args : Array Value} {below : List Frame} {meth : Method} {c : Code} {H : Heap} {Ls : List Loc} {Q : State → Prop} (D : va_G) (cI cJ cZ cP cS : ClassId) (h : Nat) (b : Nat → Nat) (th : Int32) (G C : Nat) (hs : Bool) (s0 p0 c0 : Nat) (dm pg ex al pf pt nd gv tk cn : Nat → Int32) (rq pe : Nat → Nat) (hx : p.tables.exec = Jvm.exec) (hb : c.code = b_MO_prepare) (hml : c.maxLocals = 6) (hown : s.vm.findClass "StudyAuditModel" = some m.cls) (hok : tb_ok s) (hP : va_P D cls [(h, .inr (8, [.int th, .int (nI G), .ref (b 0), .ref (b 1), .int (nI C), .ref (b 2), .ref (b 3), .ref (b 4), .ref (b 5), .ref (b 6), .ref (b 7), .ref (b 8), .ref (b 9), .ref (b 10), .ref (b 11), .ref (b 12), .ref (b 13), .ref (b 14), .ref (b 15), .ref (b 16), .ref (b 17), .ref (b 18), .int (zb hs), .ref (b 19), .ref (b 20)])), ((b 5), .inl (cI, 3, .inl (fun j => nI (rq j)))), ((b 6), .inl (cI, 18, .inl dm)), ((b 8), .inl (cI, 4, .inl pg)), ((b 13), .inl (cI, 24, .inl ex)), ((b 7), .inl (cI, 18, .inl al)), ((b 10), .inl (cI, 4, .inl (fun j => nI (pe j)))), ((b 11), .inl (cI, 32, .inl pf)), ((b 12), .inl (cI, 32, .inl pt)), ((b 14), .inl (cI, 6, .inl nd)), ((b 16), .inl (cI, 6, .inl gv)), ((b 17), .inl (cI, 6, .inl tk)), ((b 15), .inl (cI, 12, .inl cn))] H) (hK : va_K D cls (tyl cI cJ cZ cP cS) s) (hs0 : s0 < 4) (hp0 : p0 < 3) (hpg : pg s0 = nI p0) (hr5 : rq p0 ≤ 5) (hC : C ≤ 12) (hpe : pe s0 ≤ 8)
    (kk : ∀ ls : Array Slot, lv_has ls 6 [(0, .ref h), (1, .int (nI s0)), (2, .int (nI p0)), (3, .int (nI c0)), (4, .int (yas pf pt s0 c0 (pe s0))), (5, .int (nI (pe s0)))] → W p l e ro_MO_prepare s m args below meth c H Ls 0 0 Q (F0 m 140 ls [])) :
    ∀ (k i : Nat) (ls : Array Slot), 0 ≤ i → i + k = (pe s0) → lv_has ls 6 [(0, .ref h), (1, .int (nI s0)), (2, .int (nI p0)), (3, .int (nI c0)), (4, .int (yas pf pt s0 c0 i)), (5, .int (nI i))] → W p l e ro_MO_prepare s m args below meth c H Ls 0 0 Q (F0 m 83 ls []) := by
  intro k
  induction k with
  | zero =>
    intro i ls hi0 hik hl
    have hik : (pe s0) = i := by omega
    subst hik
    refine lv_iload hx hb d_MO_prepare_83 (lv_at hl 5 rfl) ?_
    refine lv_aload_n hx hb d_MO_prepare_85 rfl (lv_at hl 0 rfl) ?_
    refine va_get (D := D) (ci := 8) (v := .ref (b 10)) (C := R_MO) (T := F_MO) (N := 25) hx hb (tb_in hok in_MO) (fun w h => h) hown hK hP 0 rfl rfl 13 (by decide) (hok _ t_718 rfl _) (fun _ h9 => h9) rfl d_MO_prepare_86 ?_
    refine lv_iload_n hx hb d_MO_prepare_89 rfl (lv_at hl 1 rfl) ?_
    refine va_iald hx hb hK hP 6 0 rfl rfl (vp_in_nI (by omega) (by omega)) d_MO_prepare_90 ?_
    rw [nI_clamp (show s0 < 2 ^ 31 from by omega)]
    refine lv_icmp_ge (tgt := 140) hx hb d_MO_prepare_91 (by decide) (fun h91 => ?_) (fun h91 => absurd (show nI (pe s0) ≤ nI (pe s0) from Int32.le_refl _) h91)
    exact kk ls (lv_sub hl [0, 1, 2, 3, 4, 5] rfl)
  | succ k ih =>
    intro i ls hi0 hik hl
    refine lv_iload hx hb d_MO_prepare_83 (lv_at hl 5 rfl) ?_
    refine lv_aload_n hx hb d_MO_prepare_85 rfl (lv_at hl 0 rfl) ?_
    refine va_get (D := D) (ci := 8) (v := .ref (b 10)) (C := R_MO) (T := F_MO) (N := 25) hx hb (tb_in hok in_MO) (fun w h => h) hown hK hP 0 rfl rfl 13 (by decide) (hok _ t_718 rfl _) (fun _ h9 => h9) rfl d_MO_prepare_86 ?_
    refine lv_iload_n hx hb d_MO_prepare_89 rfl (lv_at hl 1 rfl) ?_
    refine va_iald hx hb hK hP 6 0 rfl rfl (vp_in_nI (by omega) (by omega)) d_MO_prepare_90 ?_
    rw [nI_clamp (show s0 < 2 ^ 31 from by omega)]
    refine lv_icmp_ge (tgt := 140) hx hb d_MO_prepare_91 (by decide) (fun h91 => absurd h91 (show ¬ nI (pe s0) ≤ nI i from nI_ge (by omega) (by omega))) (fun h91 => ?_)
    refine lv_aload_n hx hb d_MO_prepare_94 rfl (lv_at hl 0 rfl) ?_
    refine va_get (D := D) (ci := 8) (v := .ref (b 11)) (C := R_MO) (T := F_MO) (N := 25) hx hb (tb_in hok in_MO) (fun w h => h) hown hK hP 0 rfl rfl 14 (by decide) (hok _ t_719 rfl _) (fun _ h9 => h9) rfl d_MO_prepare_95 ?_
    refine lv_bipush (v := 8) hx hb d_MO_prepare_98 (by decide) ?_
    refine lv_iload_n hx hb d_MO_prepare_100 rfl (lv_at hl 1 rfl) ?_
    refine lv_imul hx hb d_MO_prepare_101 ?_
    refine lv_iload hx hb d_MO_prepare_102 (lv_at hl 5 rfl) ?_
    refine lv_iadd hx hb d_MO_prepare_104 ?_
    refine W.eq (g2 := F0 m 105 ls [.int (nI (8 * s0 + i)), .ref (b 11)]) (by rw [show ((((8 : Int32) * (nI s0)) + (nI i)) : Int32) = nI (8 * s0 + i) from (by rw [show (8 : Int32) = nI 8 from rfl, pk_mul, nI_add])]) ?_
    refine va_iald hx hb hK hP 7 0 rfl rfl (vp_in_nI (by omega) (by omega)) d_MO_prepare_105 ?_
    rw [nI_clamp (show (8 * s0 + i) < 2 ^ 31 from by omega)]
    refine lv_iload_n hx hb d_MO_prepare_106 rfl (lv_at hl 3 rfl) ?_
    refine lv_icmp_ne (tgt := 130) hx hb d_MO_prepare_107 (by decide) (fun h107 => ?_) (fun h107 => ?_)
    · refine lv_iload hx hb d_MO_prepare_130 (lv_at hl 4 rfl) ?_
      refine lv_istore hx hb d_MO_prepare_132 hl (by decide) rfl (fun ls hl => ?_)
      have hl : lv_has ls 6 [(4, .int (yas pf pt s0 c0 i)), (0, .ref h), (1, .int (nI s0)), (2, .int (nI p0)), (3, .int (nI c0)), (5, .int (nI i))] := hl
      refine lv_iinc (v := (nI (i + 1))) hx hb d_MO_prepare_134 hl (k := 5) rfl (by rw [nI_succ]; rfl) (by decide) rfl (fun ls hl => ?_)
      have hl : lv_has ls 6 [(5, .int (nI (i + 1))), (4, .int (yas pf pt s0 c0 i)), (0, .ref h), (1, .int (nI s0)), (2, .int (nI p0)), (3, .int (nI c0))] := hl
      refine lv_goto (tgt := 83) hx hb d_MO_prepare_137 (by decide) ?_
      have e9 : yas pf pt s0 c0 (i + 1) = (yas pf pt s0 c0 i) := if_neg h107
      rw [← e9] at hl
      exact ih (i + 1) ls (by omega) (by omega) (lv_sub hl [2, 3, 4, 5, 1, 0] rfl)
    · refine lv_iload hx hb d_MO_prepare_110 (lv_at hl 4 rfl) ?_
      refine lv_iconst (v := 1) hx hb d_MO_prepare_112 (by decide) ?_
      refine lv_aload_n hx hb d_MO_prepare_113 rfl (lv_at hl 0 rfl) ?_
      refine va_get (D := D) (ci := 8) (v := .ref (b 12)) (C := R_MO) (T := F_MO) (N := 25) hx hb (tb_in hok in_MO) (fun w h => h) hown hK hP 0 rfl rfl 15 (by decide) (hok _ t_720 rfl _) (fun _ h9 => h9) rfl d_MO_prepare_114 ?_
      refine lv_bipush (v := 8) hx hb d_MO_prepare_117 (by decide) ?_
      refine lv_iload_n hx hb d_MO_prepare_119 rfl (lv_at hl 1 rfl) ?_
      refine lv_imul hx hb d_MO_prepare_120 ?_
      refine lv_iload hx hb d_MO_prepare_121 (lv_at hl 5 rfl) ?_
      refine lv_iadd hx hb d_MO_prepare_123 ?_
      refine W.eq (g2 := F0 m 124 ls [.int (nI (8 * s0 + i)), .ref (b 12), .int 1, .int (yas pf pt s0 c0 i)]) (by rw [show ((((8 : Int32) * (nI s0)) + (nI i)) : Int32) = nI (8 * s0 + i) from (by rw [show (8 : Int32) = nI 8 from rfl, pk_mul, nI_add])]) ?_
      refine va_iald hx hb hK hP 8 0 rfl rfl (vp_in_nI (by omega) (by omega)) d_MO_prepare_124 ?_
      rw [nI_clamp (show (8 * s0 + i) < 2 ^ 31 from by omega)]
      refine lv_ishl hx hb d_MO_prepare_125 ?_
      refine lv_ior hx hb d_MO_prepare_126 ?_
      refine lv_goto (tgt := 132) hx hb d_MO_prepare_127 (by decide) ?_
      refine lv_istore hx hb d_MO_prepare_132 hl (by decide) rfl (fun ls hl => ?_)
      have hl : lv_has ls 6 [(4, .int ((yas pf pt s0 c0 i) ||| (1 <<< ((pt (8 * s0 + i)) &&& 31)))), (0, .ref h), (1, .int (nI s0)), (2, .int (nI p0)), (3, .int (nI c0)), (5, .int (nI i))] := hl
      refine lv_iinc (v := (nI (i + 1))) hx hb d_MO_prepare_134 hl (k := 5) rfl (by rw [nI_succ]; rfl) (by decide) rfl (fun ls hl => ?_)
      have hl : lv_has ls 6 [(5, .int (nI (i + 1))), (4, .int ((yas pf pt s0 c0 i) ||| (1 <<< ((pt (8 * s0 + i)) &&& 31)))), (0, .ref h), (1, .int (nI s0)), (2, .int (nI p0)), (3, .int (nI c0))] := hl
      refine lv_goto (tgt := 83) hx hb d_MO_prepare_137 (by decide) ?_
      have e9 : yas pf pt s0 c0 (i + 1) = ((yas pf pt s0 c0 i) ||| (1 <<< ((pt (8 * s0 + i)) &&& 31))) := if_pos h107
      rw [← e9] at hl
      exact ih (i + 1) ls (by omega) (by omega) (lv_sub hl [2, 3, 4, 5, 1, 0] rfl)
set_option maxHeartbeats 4000000 in
set_option maxRecDepth 100000 in
theorem lo_prep3 {l : Launch} {p : Program} {e : Env} {s : State} {m : MethodId} {args : Array Value} {below : List Frame} {meth : Method} {c : Code} {H0 : Heap} {A : Nat → Prop} {Q : State → Prop} (D : va_G) (cI cJ cZ cP cS : ClassId) (h : Nat) (b : Nat → Nat) (th : Int32) (G C : Nat) (hs : Bool) (as : Int32) (s0 p0 c0 : Nat) (dm pg ex al pf pt nd gv tk cn : Nat → Int32) (rq pe : Nat → Nat) (hx : p.tables.exec = Jvm.exec) (hb : c.code = b_MO_prepare) (hml : c.maxLocals = 6) (hown : s.vm.findClass "StudyAuditModel" = some m.cls) (hok : tb_ok s) (hK : va_K D cls (tyl cI cJ cZ cP cS) s) (hA : ∀ q : Nat, H0.size ≤ q → A q) (hs0 : s0 < 4) (hp0 : p0 < 3) (hpg : pg s0 = nI p0) (hr5 : rq p0 ≤ 5) (hC : C ≤ 12) (hpe : pe s0 ≤ 8) (hc0 : c0 < 12)
    (kk : ∀ (ls : Array Slot) (H : Heap) (locs : List Loc), lv_has ls 6 [(0, .ref h), (1, .int (nI s0)), (2, .int (nI p0)), (3, .int (nI c0)), (4, .int as), (5, .int (nI (rq p0 + 1)))] → va_P D cls [(h, .inr (8, [.int th, .int (nI G), .ref (b 0), .ref (b 1), .int (nI C), .ref (b 2), .ref (b 3), .ref (b 4), .ref (b 5), .ref (b 6), .ref (b 7), .ref (b 8), .ref (b 9), .ref (b 10), .ref (b 11), .ref (b 12), .ref (b 13), .ref (b 14), .ref (b 15), .ref (b 16), .ref (b 17), .ref (b 18), .int (zb hs), .ref (b 19), .ref (b 20)])), ((b 5), .inl (cI, 3, .inl (fun j => nI (rq j)))), ((b 6), .inl (cI, 18, .inl dm)), ((b 8), .inl (cI, 4, .inl pg)), ((b 13), .inl (cI, 24, .inl ex)), ((b 7), .inl (cI, 18, .inl al)), ((b 10), .inl (cI, 4, .inl (fun j => nI (pe j)))), ((b 11), .inl (cI, 32, .inl pf)), ((b 12), .inl (cI, 32, .inl pt)), ((b 14), .inl (cI, 6, .inl nd)), ((b 16), .inl (cI, 6, .inl gv)), ((b 17), .inl (cI, 6, .inl tk)), ((b 15), .inl (cI, 12, .inl (upd cn c0 (ycb al p0 as (rq p0 + 1)))))] H → va_D A [(h, .inr (8, [.int th, .int (nI G), .ref (b 0), .ref (b 1), .int (nI C), .ref (b 2), .ref (b 3), .ref (b 4), .ref (b 5), .ref (b 6), .ref (b 7), .ref (b 8), .ref (b 9), .ref (b 10), .ref (b 11), .ref (b 12), .ref (b 13), .ref (b 14), .ref (b 15), .ref (b 16), .ref (b 17), .ref (b 18), .int (zb hs), .ref (b 19), .ref (b 20)])), ((b 5), .inl (cI, 3, .inl (fun j => nI (rq j)))), ((b 6), .inl (cI, 18, .inl dm)), ((b 8), .inl (cI, 4, .inl pg)), ((b 13), .inl (cI, 24, .inl ex)), ((b 7), .inl (cI, 18, .inl al)), ((b 10), .inl (cI, 4, .inl (fun j => nI (pe j)))), ((b 11), .inl (cI, 32, .inl pf)), ((b 12), .inl (cI, 32, .inl pt)), ((b 14), .inl (cI, 6, .inl nd)), ((b 16), .inl (cI, 6, .inl gv)), ((b 17), .inl (cI, 6, .inl tk)), ((b 15), .inl (cI, 12, .inl (upd cn c0 (ycb al p0 as (rq p0 + 1)))))] → va_S A H0 H locs → W p l e ro_MO_prepare s m args below meth c H locs 0 0 Q (F0 m 211 ls [])) :
    ∀ (k i : Nat) (ls : Array Slot) (H : Heap) (locs : List Loc), 1 ≤ i → i + k = (rq p0 + 1) → lv_has ls 6 [(0, .ref h), (1, .int (nI s0)), (2, .int (nI p0)), (3, .int (nI c0)), (4, .int as), (5, .int (nI i))] → va_P D cls [(h, .inr (8, [.int th, .int (nI G), .ref (b 0), .ref (b 1), .int (nI C), .ref (b 2), .ref (b 3), .ref (b 4), .ref (b 5), .ref (b 6), .ref (b 7), .ref (b 8), .ref (b 9), .ref (b 10), .ref (b 11), .ref (b 12), .ref (b 13), .ref (b 14), .ref (b 15), .ref (b 16), .ref (b 17), .ref (b 18), .int (zb hs), .ref (b 19), .ref (b 20)])), ((b 5), .inl (cI, 3, .inl (fun j => nI (rq j)))), ((b 6), .inl (cI, 18, .inl dm)), ((b 8), .inl (cI, 4, .inl pg)), ((b 13), .inl (cI, 24, .inl ex)), ((b 7), .inl (cI, 18, .inl al)), ((b 10), .inl (cI, 4, .inl (fun j => nI (pe j)))), ((b 11), .inl (cI, 32, .inl pf)), ((b 12), .inl (cI, 32, .inl pt)), ((b 14), .inl (cI, 6, .inl nd)), ((b 16), .inl (cI, 6, .inl gv)), ((b 17), .inl (cI, 6, .inl tk)), ((b 15), .inl (cI, 12, .inl (upd cn c0 (ycb al p0 as i))))] H → va_D A [(h, .inr (8, [.int th, .int (nI G), .ref (b 0), .ref (b 1), .int (nI C), .ref (b 2), .ref (b 3), .ref (b 4), .ref (b 5), .ref (b 6), .ref (b 7), .ref (b 8), .ref (b 9), .ref (b 10), .ref (b 11), .ref (b 12), .ref (b 13), .ref (b 14), .ref (b 15), .ref (b 16), .ref (b 17), .ref (b 18), .int (zb hs), .ref (b 19), .ref (b 20)])), ((b 5), .inl (cI, 3, .inl (fun j => nI (rq j)))), ((b 6), .inl (cI, 18, .inl dm)), ((b 8), .inl (cI, 4, .inl pg)), ((b 13), .inl (cI, 24, .inl ex)), ((b 7), .inl (cI, 18, .inl al)), ((b 10), .inl (cI, 4, .inl (fun j => nI (pe j)))), ((b 11), .inl (cI, 32, .inl pf)), ((b 12), .inl (cI, 32, .inl pt)), ((b 14), .inl (cI, 6, .inl nd)), ((b 16), .inl (cI, 6, .inl gv)), ((b 17), .inl (cI, 6, .inl tk)), ((b 15), .inl (cI, 12, .inl (upd cn c0 (ycb al p0 as i))))] → va_S A H0 H locs → W p l e ro_MO_prepare s m args below meth c H locs 0 0 Q (F0 m 150 ls []) := by
  intro k
  induction k with
  | zero =>
    intro i ls H locs hi0 hik hl hP hD hS
    have hik : (rq p0 + 1) = i := by omega
    subst hik
    refine lv_iload hx hb d_MO_prepare_150 (lv_at hl 5 rfl) ?_
    refine lv_aload_n hx hb d_MO_prepare_152 rfl (lv_at hl 0 rfl) ?_
    refine va_get (D := D) (ci := 8) (v := .ref (b 5)) (C := R_MO) (T := F_MO) (N := 25) hx hb (tb_in hok in_MO) (fun w h => h) hown hK hP 0 rfl rfl 8 (by decide) (hok _ t_713 rfl _) (fun _ h9 => h9) rfl d_MO_prepare_153 ?_
    refine lv_iload_n hx hb d_MO_prepare_156 rfl (lv_at hl 2 rfl) ?_
    refine va_iald hx hb hK hP 1 0 rfl rfl (vp_in_nI (by omega) (by omega)) d_MO_prepare_157 ?_
    rw [nI_clamp (show p0 < 2 ^ 31 from by omega)]
    refine lv_icmp_gt (tgt := 211) hx hb d_MO_prepare_158 (by decide) (fun h158 => ?_) (fun h158 => absurd (show nI (rq p0) < nI (rq p0 + 1) from nI_lt (by omega) (by omega)) h158)
    exact kk ls H locs (lv_sub hl [0, 1, 2, 3, 4, 5] rfl) hP hD hS
  | succ k ih =>
    intro i ls H locs hi0 hik hl hP hD hS
    refine lv_iload hx hb d_MO_prepare_150 (lv_at hl 5 rfl) ?_
    refine lv_aload_n hx hb d_MO_prepare_152 rfl (lv_at hl 0 rfl) ?_
    refine va_get (D := D) (ci := 8) (v := .ref (b 5)) (C := R_MO) (T := F_MO) (N := 25) hx hb (tb_in hok in_MO) (fun w h => h) hown hK hP 0 rfl rfl 8 (by decide) (hok _ t_713 rfl _) (fun _ h9 => h9) rfl d_MO_prepare_153 ?_
    refine lv_iload_n hx hb d_MO_prepare_156 rfl (lv_at hl 2 rfl) ?_
    refine va_iald hx hb hK hP 1 0 rfl rfl (vp_in_nI (by omega) (by omega)) d_MO_prepare_157 ?_
    rw [nI_clamp (show p0 < 2 ^ 31 from by omega)]
    refine lv_icmp_gt (tgt := 211) hx hb d_MO_prepare_158 (by decide) (fun h158 => absurd h158 (show ¬ nI (rq p0) < nI i from nI_nlt (by omega) (by omega))) (fun h158 => ?_)
    refine lv_aload_n hx hb d_MO_prepare_161 rfl (lv_at hl 0 rfl) ?_
    refine va_get (D := D) (ci := 8) (v := .ref (b 15)) (C := R_MO) (T := F_MO) (N := 25) hx hb (tb_in hok in_MO) (fun w h => h) hown hK hP 0 rfl rfl 18 (by decide) (hok _ t_723 rfl _) (fun _ h9 => h9) rfl d_MO_prepare_162 ?_
    refine lv_iload_n hx hb d_MO_prepare_165 rfl (lv_at hl 3 rfl) ?_
    refine lv_aload_n hx hb d_MO_prepare_166 rfl (lv_at hl 0 rfl) ?_
    refine va_get (D := D) (ci := 8) (v := .ref (b 7)) (C := R_MO) (T := F_MO) (N := 25) hx hb (tb_in hok in_MO) (fun w h => h) hown hK hP 0 rfl rfl 10 (by decide) (hok _ t_715 rfl _) (fun _ h9 => h9) rfl d_MO_prepare_167 ?_
    refine lv_bipush (v := 6) hx hb d_MO_prepare_170 (by decide) ?_
    refine lv_iload_n hx hb d_MO_prepare_172 rfl (lv_at hl 2 rfl) ?_
    refine lv_imul hx hb d_MO_prepare_173 ?_
    refine lv_iload hx hb d_MO_prepare_174 (lv_at hl 5 rfl) ?_
    refine lv_iadd hx hb d_MO_prepare_176 ?_
    refine W.eq (g2 := F0 m 177 ls [.int (nI (6 * p0 + i)), .ref (b 7), .int (nI c0), .ref (b 15)]) (by rw [show ((((6 : Int32) * (nI p0)) + (nI i)) : Int32) = nI (6 * p0 + i) from (by rw [show (6 : Int32) = nI 6 from rfl, pk_mul, nI_add])]) ?_
    refine va_iald hx hb hK hP 5 0 rfl rfl (vp_in_nI (by omega) (by omega)) d_MO_prepare_177 ?_
    rw [nI_clamp (show (6 * p0 + i) < 2 ^ 31 from by omega)]
    refine lv_iload hx hb d_MO_prepare_178 (lv_at hl 4 rfl) ?_
    refine lv_iand hx hb d_MO_prepare_180 ?_
    refine lv_if_eq (tgt := 198) hx hb d_MO_prepare_181 (by decide) (fun h181 => ?_) (fun h181 => ?_)
    · refine lv_aload_n hx hb d_MO_prepare_198 rfl (lv_at hl 0 rfl) ?_
      refine va_get (D := D) (ci := 8) (v := .ref (b 15)) (C := R_MO) (T := F_MO) (N := 25) hx hb (tb_in hok in_MO) (fun w h => h) hown hK hP 0 rfl rfl 18 (by decide) (hok _ t_723 rfl _) (fun _ h9 => h9) rfl d_MO_prepare_199 ?_
      refine lv_iload_n hx hb d_MO_prepare_202 rfl (lv_at hl 3 rfl) ?_
      refine va_iald hx hb hK hP 12 0 rfl rfl (vp_in_nI (by omega) (by omega)) d_MO_prepare_203 ?_
      rw [nI_clamp (show c0 < 2 ^ 31 from by omega)]
      have ey : (ycb al p0 as (i + 1)) = ycb al p0 as i := by
        obtain ⟨j, rfl⟩ : ∃ j, i = j + 1 := ⟨i - 1, by omega⟩
        exact if_pos h181
      refine W.eq (g2 := F0 m 204 ls [.int (ycb al p0 as (i + 1)), .int (nI c0), .ref (b 15)]) (by rw [ey, pk_us]) ?_
      refine va_iast hx hb hK hP hD hS 12 0 rfl rfl (vp_in_nI (by omega) (by omega)) d_MO_prepare_204 (fun H locs hP hD hS => ?_)
      rw [nI_clamp (show c0 < 2 ^ 31 from by omega)] at hP hD
      have hP : va_P D cls [(h, .inr (8, [.int th, .int (nI G), .ref (b 0), .ref (b 1), .int (nI C), .ref (b 2), .ref (b 3), .ref (b 4), .ref (b 5), .ref (b 6), .ref (b 7), .ref (b 8), .ref (b 9), .ref (b 10), .ref (b 11), .ref (b 12), .ref (b 13), .ref (b 14), .ref (b 15), .ref (b 16), .ref (b 17), .ref (b 18), .int (zb hs), .ref (b 19), .ref (b 20)])), ((b 5), .inl (cI, 3, .inl (fun j => nI (rq j)))), ((b 6), .inl (cI, 18, .inl dm)), ((b 8), .inl (cI, 4, .inl pg)), ((b 13), .inl (cI, 24, .inl ex)), ((b 7), .inl (cI, 18, .inl al)), ((b 10), .inl (cI, 4, .inl (fun j => nI (pe j)))), ((b 11), .inl (cI, 32, .inl pf)), ((b 12), .inl (cI, 32, .inl pt)), ((b 14), .inl (cI, 6, .inl nd)), ((b 16), .inl (cI, 6, .inl gv)), ((b 17), .inl (cI, 6, .inl tk)), ((b 15), .inl (cI, 12, .inl (upd (upd cn c0 (ycb al p0 as i)) c0 (ycb al p0 as (i + 1)))))] H := hP
      have hD : va_D A [(h, .inr (8, [.int th, .int (nI G), .ref (b 0), .ref (b 1), .int (nI C), .ref (b 2), .ref (b 3), .ref (b 4), .ref (b 5), .ref (b 6), .ref (b 7), .ref (b 8), .ref (b 9), .ref (b 10), .ref (b 11), .ref (b 12), .ref (b 13), .ref (b 14), .ref (b 15), .ref (b 16), .ref (b 17), .ref (b 18), .int (zb hs), .ref (b 19), .ref (b 20)])), ((b 5), .inl (cI, 3, .inl (fun j => nI (rq j)))), ((b 6), .inl (cI, 18, .inl dm)), ((b 8), .inl (cI, 4, .inl pg)), ((b 13), .inl (cI, 24, .inl ex)), ((b 7), .inl (cI, 18, .inl al)), ((b 10), .inl (cI, 4, .inl (fun j => nI (pe j)))), ((b 11), .inl (cI, 32, .inl pf)), ((b 12), .inl (cI, 32, .inl pt)), ((b 14), .inl (cI, 6, .inl nd)), ((b 16), .inl (cI, 6, .inl gv)), ((b 17), .inl (cI, 6, .inl tk)), ((b 15), .inl (cI, 12, .inl (upd (upd cn c0 (ycb al p0 as i)) c0 (ycb al p0 as (i + 1)))))] := hD
      refine lv_iinc (v := (nI (i + 1))) hx hb d_MO_prepare_205 hl (k := 5) rfl (by rw [nI_succ]; rfl) (by decide) rfl (fun ls hl => ?_)
      have hl : lv_has ls 6 [(5, .int (nI (i + 1))), (0, .ref h), (1, .int (nI s0)), (2, .int (nI p0)), (3, .int (nI c0)), (4, .int as)] := hl
      refine lv_goto (tgt := 150) hx hb d_MO_prepare_208 (by decide) ?_
      rw [z_upu] at hP hD
      exact ih (i + 1) ls H locs (by omega) (by omega) (lv_sub hl [1, 2, 3, 4, 5, 0] rfl) hP hD hS
    · refine lv_aload_n hx hb d_MO_prepare_184 rfl (lv_at hl 0 rfl) ?_
      refine va_get (D := D) (ci := 8) (v := .ref (b 15)) (C := R_MO) (T := F_MO) (N := 25) hx hb (tb_in hok in_MO) (fun w h => h) hown hK hP 0 rfl rfl 18 (by decide) (hok _ t_723 rfl _) (fun _ h9 => h9) rfl d_MO_prepare_185 ?_
      refine lv_iload_n hx hb d_MO_prepare_188 rfl (lv_at hl 3 rfl) ?_
      refine va_iald hx hb hK hP 12 0 rfl rfl (vp_in_nI (by omega) (by omega)) d_MO_prepare_189 ?_
      rw [nI_clamp (show c0 < 2 ^ 31 from by omega)]
      refine lv_iconst (v := 1) hx hb d_MO_prepare_190 (by decide) ?_
      refine lv_iload hx hb d_MO_prepare_191 (lv_at hl 5 rfl) ?_
      refine lv_ishl hx hb d_MO_prepare_193 ?_
      refine lv_ior hx hb d_MO_prepare_194 ?_
      refine lv_goto (tgt := 204) hx hb d_MO_prepare_195 (by decide) ?_
      have ey : (ycb al p0 as (i + 1)) = ycb al p0 as i ||| (1 <<< (nI i &&& 31)) := by
        obtain ⟨j, rfl⟩ : ∃ j, i = j + 1 := ⟨i - 1, by omega⟩
        exact if_neg h181
      refine W.eq (g2 := F0 m 204 ls [.int (ycb al p0 as (i + 1)), .int (nI c0), .ref (b 15)]) (by rw [ey, pk_us]) ?_
      refine va_iast hx hb hK hP hD hS 12 0 rfl rfl (vp_in_nI (by omega) (by omega)) d_MO_prepare_204 (fun H locs hP hD hS => ?_)
      rw [nI_clamp (show c0 < 2 ^ 31 from by omega)] at hP hD
      have hP : va_P D cls [(h, .inr (8, [.int th, .int (nI G), .ref (b 0), .ref (b 1), .int (nI C), .ref (b 2), .ref (b 3), .ref (b 4), .ref (b 5), .ref (b 6), .ref (b 7), .ref (b 8), .ref (b 9), .ref (b 10), .ref (b 11), .ref (b 12), .ref (b 13), .ref (b 14), .ref (b 15), .ref (b 16), .ref (b 17), .ref (b 18), .int (zb hs), .ref (b 19), .ref (b 20)])), ((b 5), .inl (cI, 3, .inl (fun j => nI (rq j)))), ((b 6), .inl (cI, 18, .inl dm)), ((b 8), .inl (cI, 4, .inl pg)), ((b 13), .inl (cI, 24, .inl ex)), ((b 7), .inl (cI, 18, .inl al)), ((b 10), .inl (cI, 4, .inl (fun j => nI (pe j)))), ((b 11), .inl (cI, 32, .inl pf)), ((b 12), .inl (cI, 32, .inl pt)), ((b 14), .inl (cI, 6, .inl nd)), ((b 16), .inl (cI, 6, .inl gv)), ((b 17), .inl (cI, 6, .inl tk)), ((b 15), .inl (cI, 12, .inl (upd (upd cn c0 (ycb al p0 as i)) c0 (ycb al p0 as (i + 1)))))] H := hP
      have hD : va_D A [(h, .inr (8, [.int th, .int (nI G), .ref (b 0), .ref (b 1), .int (nI C), .ref (b 2), .ref (b 3), .ref (b 4), .ref (b 5), .ref (b 6), .ref (b 7), .ref (b 8), .ref (b 9), .ref (b 10), .ref (b 11), .ref (b 12), .ref (b 13), .ref (b 14), .ref (b 15), .ref (b 16), .ref (b 17), .ref (b 18), .int (zb hs), .ref (b 19), .ref (b 20)])), ((b 5), .inl (cI, 3, .inl (fun j => nI (rq j)))), ((b 6), .inl (cI, 18, .inl dm)), ((b 8), .inl (cI, 4, .inl pg)), ((b 13), .inl (cI, 24, .inl ex)), ((b 7), .inl (cI, 18, .inl al)), ((b 10), .inl (cI, 4, .inl (fun j => nI (pe j)))), ((b 11), .inl (cI, 32, .inl pf)), ((b 12), .inl (cI, 32, .inl pt)), ((b 14), .inl (cI, 6, .inl nd)), ((b 16), .inl (cI, 6, .inl gv)), ((b 17), .inl (cI, 6, .inl tk)), ((b 15), .inl (cI, 12, .inl (upd (upd cn c0 (ycb al p0 as i)) c0 (ycb al p0 as (i + 1)))))] := hD
      refine lv_iinc (v := (nI (i + 1))) hx hb d_MO_prepare_205 hl (k := 5) rfl (by rw [nI_succ]; rfl) (by decide) rfl (fun ls hl => ?_)
      have hl : lv_has ls 6 [(5, .int (nI (i + 1))), (0, .ref h), (1, .int (nI s0)), (2, .int (nI p0)), (3, .int (nI c0)), (4, .int as)] := hl
      refine lv_goto (tgt := 150) hx hb d_MO_prepare_208 (by decide) ?_
      rw [z_upu] at hP hD
      exact ih (i + 1) ls H locs (by omega) (by omega) (lv_sub hl [1, 2, 3, 4, 5, 0] rfl) hP hD hS
set_option maxHeartbeats 4000000 in
set_option maxRecDepth 100000 in
theorem lo_prep4 {l : Launch} {p : Program} {e : Env} {s : State} {m : MethodId} {args : Array Value} {below : List Frame} {meth : Method} {c : Code} {H0 : Heap} {A : Nat → Prop} {Q : State → Prop} (D : va_G) (cI cJ cZ cP cS : ClassId) (h : Nat) (b : Nat → Nat) (th : Int32) (G C : Nat) (hs : Bool) (s0 p0 : Nat) (dm pg ex al pf pt nd gv tk cn : Nat → Int32) (rq pe : Nat → Nat) (hx : p.tables.exec = Jvm.exec) (hb : c.code = b_MO_prepare) (hml : c.maxLocals = 6) (hown : s.vm.findClass "StudyAuditModel" = some m.cls) (hok : tb_ok s) (hK : va_K D cls (tyl cI cJ cZ cP cS) s) (hA : ∀ q : Nat, H0.size ≤ q → A q) (hs0 : s0 < 4) (hp0 : p0 < 3) (hpg : pg s0 = nI p0) (hr5 : rq p0 ≤ 5) (hC : C ≤ 12) (hpe : pe s0 ≤ 8)
    (kk : ∀ (ls : Array Slot) (H : Heap) (locs : List Loc), lv_has ls 6 [(0, .ref h), (1, .int (nI s0)), (2, .int (nI p0)), (3, .int (nI C))] → va_P D cls [(h, .inr (8, [.int th, .int (nI G), .ref (b 0), .ref (b 1), .int (nI C), .ref (b 2), .ref (b 3), .ref (b 4), .ref (b 5), .ref (b 6), .ref (b 7), .ref (b 8), .ref (b 9), .ref (b 10), .ref (b 11), .ref (b 12), .ref (b 13), .ref (b 14), .ref (b 15), .ref (b 16), .ref (b 17), .ref (b 18), .int (zb hs), .ref (b 19), .ref (b 20)])), ((b 5), .inl (cI, 3, .inl (fun j => nI (rq j)))), ((b 6), .inl (cI, 18, .inl dm)), ((b 8), .inl (cI, 4, .inl pg)), ((b 13), .inl (cI, 24, .inl ex)), ((b 7), .inl (cI, 18, .inl al)), ((b 10), .inl (cI, 4, .inl (fun j => nI (pe j)))), ((b 11), .inl (cI, 32, .inl pf)), ((b 12), .inl (cI, 32, .inl pt)), ((b 14), .inl (cI, 6, .inl nd)), ((b 16), .inl (cI, 6, .inl gv)), ((b 17), .inl (cI, 6, .inl tk)), ((b 15), .inl (cI, 12, .inl (ycn al pf pt p0 s0 (rq p0) (pe s0) cn C)))] H → va_D A [(h, .inr (8, [.int th, .int (nI G), .ref (b 0), .ref (b 1), .int (nI C), .ref (b 2), .ref (b 3), .ref (b 4), .ref (b 5), .ref (b 6), .ref (b 7), .ref (b 8), .ref (b 9), .ref (b 10), .ref (b 11), .ref (b 12), .ref (b 13), .ref (b 14), .ref (b 15), .ref (b 16), .ref (b 17), .ref (b 18), .int (zb hs), .ref (b 19), .ref (b 20)])), ((b 5), .inl (cI, 3, .inl (fun j => nI (rq j)))), ((b 6), .inl (cI, 18, .inl dm)), ((b 8), .inl (cI, 4, .inl pg)), ((b 13), .inl (cI, 24, .inl ex)), ((b 7), .inl (cI, 18, .inl al)), ((b 10), .inl (cI, 4, .inl (fun j => nI (pe j)))), ((b 11), .inl (cI, 32, .inl pf)), ((b 12), .inl (cI, 32, .inl pt)), ((b 14), .inl (cI, 6, .inl nd)), ((b 16), .inl (cI, 6, .inl gv)), ((b 17), .inl (cI, 6, .inl tk)), ((b 15), .inl (cI, 12, .inl (ycn al pf pt p0 s0 (rq p0) (pe s0) cn C)))] → va_S A H0 H locs → W p l e ro_MO_prepare s m args below meth c H locs 0 0 Q (F0 m 217 ls [])) :
    ∀ (k i : Nat) (ls : Array Slot) (H : Heap) (locs : List Loc), 0 ≤ i → i + k = C → lv_has ls 6 [(0, .ref h), (1, .int (nI s0)), (2, .int (nI p0)), (3, .int (nI i))] → va_P D cls [(h, .inr (8, [.int th, .int (nI G), .ref (b 0), .ref (b 1), .int (nI C), .ref (b 2), .ref (b 3), .ref (b 4), .ref (b 5), .ref (b 6), .ref (b 7), .ref (b 8), .ref (b 9), .ref (b 10), .ref (b 11), .ref (b 12), .ref (b 13), .ref (b 14), .ref (b 15), .ref (b 16), .ref (b 17), .ref (b 18), .int (zb hs), .ref (b 19), .ref (b 20)])), ((b 5), .inl (cI, 3, .inl (fun j => nI (rq j)))), ((b 6), .inl (cI, 18, .inl dm)), ((b 8), .inl (cI, 4, .inl pg)), ((b 13), .inl (cI, 24, .inl ex)), ((b 7), .inl (cI, 18, .inl al)), ((b 10), .inl (cI, 4, .inl (fun j => nI (pe j)))), ((b 11), .inl (cI, 32, .inl pf)), ((b 12), .inl (cI, 32, .inl pt)), ((b 14), .inl (cI, 6, .inl nd)), ((b 16), .inl (cI, 6, .inl gv)), ((b 17), .inl (cI, 6, .inl tk)), ((b 15), .inl (cI, 12, .inl (ycn al pf pt p0 s0 (rq p0) (pe s0) cn i)))] H → va_D A [(h, .inr (8, [.int th, .int (nI G), .ref (b 0), .ref (b 1), .int (nI C), .ref (b 2), .ref (b 3), .ref (b 4), .ref (b 5), .ref (b 6), .ref (b 7), .ref (b 8), .ref (b 9), .ref (b 10), .ref (b 11), .ref (b 12), .ref (b 13), .ref (b 14), .ref (b 15), .ref (b 16), .ref (b 17), .ref (b 18), .int (zb hs), .ref (b 19), .ref (b 20)])), ((b 5), .inl (cI, 3, .inl (fun j => nI (rq j)))), ((b 6), .inl (cI, 18, .inl dm)), ((b 8), .inl (cI, 4, .inl pg)), ((b 13), .inl (cI, 24, .inl ex)), ((b 7), .inl (cI, 18, .inl al)), ((b 10), .inl (cI, 4, .inl (fun j => nI (pe j)))), ((b 11), .inl (cI, 32, .inl pf)), ((b 12), .inl (cI, 32, .inl pt)), ((b 14), .inl (cI, 6, .inl nd)), ((b 16), .inl (cI, 6, .inl gv)), ((b 17), .inl (cI, 6, .inl tk)), ((b 15), .inl (cI, 12, .inl (ycn al pf pt p0 s0 (rq p0) (pe s0) cn i)))] → va_S A H0 H locs → W p l e ro_MO_prepare s m args below meth c H locs 0 0 Q (F0 m 67 ls []) := by
  intro k
  induction k with
  | zero =>
    intro i ls H locs hi0 hik hl hP hD hS
    have hik : C = i := by omega
    subst hik
    refine lv_iload_n hx hb d_MO_prepare_67 rfl (lv_at hl 3 rfl) ?_
    refine lv_aload_n hx hb d_MO_prepare_68 rfl (lv_at hl 0 rfl) ?_
    refine va_get (D := D) (ci := 8) (v := .int (nI C)) (C := R_MO) (T := F_MO) (N := 25) hx hb (tb_in hok in_MO) (fun w h => h) hown hK hP 0 rfl rfl 4 (by decide) (hok _ t_709 rfl _) (fun _ h9 => h9) rfl d_MO_prepare_69 ?_
    refine lv_icmp_ge (tgt := 217) hx hb d_MO_prepare_72 (by decide) (fun h72 => ?_) (fun h72 => absurd (show nI C ≤ nI C from Int32.le_refl _) h72)
    exact kk ls H locs (lv_sub hl [0, 1, 2, 3] rfl) hP hD hS
  | succ k ih =>
    intro i ls H locs hi0 hik hl hP hD hS
    refine lv_iload_n hx hb d_MO_prepare_67 rfl (lv_at hl 3 rfl) ?_
    refine lv_aload_n hx hb d_MO_prepare_68 rfl (lv_at hl 0 rfl) ?_
    refine va_get (D := D) (ci := 8) (v := .int (nI C)) (C := R_MO) (T := F_MO) (N := 25) hx hb (tb_in hok in_MO) (fun w h => h) hown hK hP 0 rfl rfl 4 (by decide) (hok _ t_709 rfl _) (fun _ h9 => h9) rfl d_MO_prepare_69 ?_
    refine lv_icmp_ge (tgt := 217) hx hb d_MO_prepare_72 (by decide) (fun h72 => absurd h72 (show ¬ nI C ≤ nI i from nI_ge (by omega) (by omega))) (fun h72 => ?_)
    refine lv_iconst (v := 1) hx hb d_MO_prepare_75 (by decide) ?_
    refine lv_iload_n hx hb d_MO_prepare_76 rfl (lv_at hl 3 rfl) ?_
    refine lv_ishl hx hb d_MO_prepare_77 ?_
    refine lv_istore hx hb d_MO_prepare_78 hl (by decide) rfl (fun ls hl => ?_)
    have hl : lv_has ls 6 [(4, .int (1 <<< ((nI i) &&& 31))), (0, .ref h), (1, .int (nI s0)), (2, .int (nI p0)), (3, .int (nI i))] := hl
    refine lv_iconst (v := 0) hx hb d_MO_prepare_80 (by decide) ?_
    refine lv_istore hx hb d_MO_prepare_81 hl (by decide) rfl (fun ls hl => ?_)
    have hl : lv_has ls 6 [(5, .int 0), (4, .int (1 <<< ((nI i) &&& 31))), (0, .ref h), (1, .int (nI s0)), (2, .int (nI p0)), (3, .int (nI i))] := hl
    refine lo_prep2 D cI cJ cZ cP cS h b th G C hs s0 p0 i dm pg ex al pf pt nd gv tk (ycn al pf pt p0 s0 (rq p0) (pe s0) cn i) rq pe hx hb hml hown hok hP hK hs0 hp0 hpg hr5 hC hpe (fun ls hl => ?_) ((pe s0) - 0) 0 ls (by omega) (by omega) (lv_sub hl [2, 3, 4, 5, 1, 0] rfl)
    refine lv_aload_n hx hb d_MO_prepare_140 rfl (lv_at hl 0 rfl) ?_
    refine va_get (D := D) (ci := 8) (v := .ref (b 15)) (C := R_MO) (T := F_MO) (N := 25) hx hb (tb_in hok in_MO) (fun w h => h) hown hK hP 0 rfl rfl 18 (by decide) (hok _ t_723 rfl _) (fun _ h9 => h9) rfl d_MO_prepare_141 ?_
    refine lv_iload_n hx hb d_MO_prepare_144 rfl (lv_at hl 3 rfl) ?_
    refine lv_iconst (v := 0) hx hb d_MO_prepare_145 (by decide) ?_
    refine va_iast hx hb hK hP hD hS 12 0 rfl rfl (vp_in_nI (by omega) (by omega)) d_MO_prepare_146 (fun H locs hP hD hS => ?_)
    rw [nI_clamp (show i < 2 ^ 31 from by omega)] at hP hD
    have hP : va_P D cls [(h, .inr (8, [.int th, .int (nI G), .ref (b 0), .ref (b 1), .int (nI C), .ref (b 2), .ref (b 3), .ref (b 4), .ref (b 5), .ref (b 6), .ref (b 7), .ref (b 8), .ref (b 9), .ref (b 10), .ref (b 11), .ref (b 12), .ref (b 13), .ref (b 14), .ref (b 15), .ref (b 16), .ref (b 17), .ref (b 18), .int (zb hs), .ref (b 19), .ref (b 20)])), ((b 5), .inl (cI, 3, .inl (fun j => nI (rq j)))), ((b 6), .inl (cI, 18, .inl dm)), ((b 8), .inl (cI, 4, .inl pg)), ((b 13), .inl (cI, 24, .inl ex)), ((b 7), .inl (cI, 18, .inl al)), ((b 10), .inl (cI, 4, .inl (fun j => nI (pe j)))), ((b 11), .inl (cI, 32, .inl pf)), ((b 12), .inl (cI, 32, .inl pt)), ((b 14), .inl (cI, 6, .inl nd)), ((b 16), .inl (cI, 6, .inl gv)), ((b 17), .inl (cI, 6, .inl tk)), ((b 15), .inl (cI, 12, .inl (upd (ycn al pf pt p0 s0 (rq p0) (pe s0) cn i) i 0)))] H := hP
    have hD : va_D A [(h, .inr (8, [.int th, .int (nI G), .ref (b 0), .ref (b 1), .int (nI C), .ref (b 2), .ref (b 3), .ref (b 4), .ref (b 5), .ref (b 6), .ref (b 7), .ref (b 8), .ref (b 9), .ref (b 10), .ref (b 11), .ref (b 12), .ref (b 13), .ref (b 14), .ref (b 15), .ref (b 16), .ref (b 17), .ref (b 18), .int (zb hs), .ref (b 19), .ref (b 20)])), ((b 5), .inl (cI, 3, .inl (fun j => nI (rq j)))), ((b 6), .inl (cI, 18, .inl dm)), ((b 8), .inl (cI, 4, .inl pg)), ((b 13), .inl (cI, 24, .inl ex)), ((b 7), .inl (cI, 18, .inl al)), ((b 10), .inl (cI, 4, .inl (fun j => nI (pe j)))), ((b 11), .inl (cI, 32, .inl pf)), ((b 12), .inl (cI, 32, .inl pt)), ((b 14), .inl (cI, 6, .inl nd)), ((b 16), .inl (cI, 6, .inl gv)), ((b 17), .inl (cI, 6, .inl tk)), ((b 15), .inl (cI, 12, .inl (upd (ycn al pf pt p0 s0 (rq p0) (pe s0) cn i) i 0)))] := hD
    refine lv_iconst (v := 1) hx hb d_MO_prepare_147 (by decide) ?_
    refine lv_istore hx hb d_MO_prepare_148 hl (by decide) rfl (fun ls hl => ?_)
    have hl : lv_has ls 6 [(5, .int 1), (0, .ref h), (1, .int (nI s0)), (2, .int (nI p0)), (3, .int (nI i)), (4, .int (yas pf pt s0 i (pe s0)))] := hl
    have hP : va_P D cls [(h, .inr (8, [.int th, .int (nI G), .ref (b 0), .ref (b 1), .int (nI C), .ref (b 2), .ref (b 3), .ref (b 4), .ref (b 5), .ref (b 6), .ref (b 7), .ref (b 8), .ref (b 9), .ref (b 10), .ref (b 11), .ref (b 12), .ref (b 13), .ref (b 14), .ref (b 15), .ref (b 16), .ref (b 17), .ref (b 18), .int (zb hs), .ref (b 19), .ref (b 20)])), ((b 5), .inl (cI, 3, .inl (fun j => nI (rq j)))), ((b 6), .inl (cI, 18, .inl dm)), ((b 8), .inl (cI, 4, .inl pg)), ((b 13), .inl (cI, 24, .inl ex)), ((b 7), .inl (cI, 18, .inl al)), ((b 10), .inl (cI, 4, .inl (fun j => nI (pe j)))), ((b 11), .inl (cI, 32, .inl pf)), ((b 12), .inl (cI, 32, .inl pt)), ((b 14), .inl (cI, 6, .inl nd)), ((b 16), .inl (cI, 6, .inl gv)), ((b 17), .inl (cI, 6, .inl tk)), ((b 15), .inl (cI, 12, .inl (upd (ycn al pf pt p0 s0 (rq p0) (pe s0) cn i) i (ycb al p0 (yas pf pt s0 i (pe s0)) 1))))] H := hP
    have hD : va_D A [(h, .inr (8, [.int th, .int (nI G), .ref (b 0), .ref (b 1), .int (nI C), .ref (b 2), .ref (b 3), .ref (b 4), .ref (b 5), .ref (b 6), .ref (b 7), .ref (b 8), .ref (b 9), .ref (b 10), .ref (b 11), .ref (b 12), .ref (b 13), .ref (b 14), .ref (b 15), .ref (b 16), .ref (b 17), .ref (b 18), .int (zb hs), .ref (b 19), .ref (b 20)])), ((b 5), .inl (cI, 3, .inl (fun j => nI (rq j)))), ((b 6), .inl (cI, 18, .inl dm)), ((b 8), .inl (cI, 4, .inl pg)), ((b 13), .inl (cI, 24, .inl ex)), ((b 7), .inl (cI, 18, .inl al)), ((b 10), .inl (cI, 4, .inl (fun j => nI (pe j)))), ((b 11), .inl (cI, 32, .inl pf)), ((b 12), .inl (cI, 32, .inl pt)), ((b 14), .inl (cI, 6, .inl nd)), ((b 16), .inl (cI, 6, .inl gv)), ((b 17), .inl (cI, 6, .inl tk)), ((b 15), .inl (cI, 12, .inl (upd (ycn al pf pt p0 s0 (rq p0) (pe s0) cn i) i (ycb al p0 (yas pf pt s0 i (pe s0)) 1))))] := hD
    refine lo_prep3 D cI cJ cZ cP cS h b th G C hs (yas pf pt s0 i (pe s0)) s0 p0 i dm pg ex al pf pt nd gv tk (ycn al pf pt p0 s0 (rq p0) (pe s0) cn i) rq pe hx hb hml hown hok hK hA hs0 hp0 hpg hr5 hC hpe (by omega) (fun ls H locs hl hP hD hS => ?_) ((rq p0 + 1) - 1) 1 ls _ _ (by omega) (by omega) (lv_sub hl [1, 2, 3, 4, 5, 0] rfl) hP hD hS
    refine lv_iinc (v := (nI (i + 1))) hx hb d_MO_prepare_211 hl (k := 3) rfl (by rw [nI_succ]; rfl) (by decide) rfl (fun ls hl => ?_)
    have hl : lv_has ls 6 [(3, .int (nI (i + 1))), (0, .ref h), (1, .int (nI s0)), (2, .int (nI p0)), (4, .int (yas pf pt s0 i (pe s0))), (5, .int (nI (rq p0 + 1)))] := hl
    refine lv_goto (tgt := 67) hx hb d_MO_prepare_214 (by decide) ?_
    exact ih (i + 1) ls H locs (by omega) (by omega) (lv_sub hl [1, 2, 3, 0] rfl) hP hD hS
set_option maxHeartbeats 4000000 in
set_option maxRecDepth 100000 in
theorem m_MO_prepare (l : Launch) (D : va_G) (cI cJ cZ cP cS : ClassId) (h : Nat) (b : Nat → Nat) (th : Int32) (G C : Nat) (hs : Bool) (s0 p0 : Nat) (dm pg ex al pf pt nd gv tk cn : Nat → Int32) (rq pe : Nat → Nat) (hs0 : s0 < 4) (hp0 : p0 < 3) (hpg : pg s0 = nI p0) (hr5 : rq p0 ≤ 5) (hC : C ≤ 12) (hpe : pe s0 ≤ 8) (sz : Nat) : Met l y_MO_prepare [Cond.code y_MO_prepare b_MO_prepare 6 none] ro_MO_prepare (va_Pc [.ref h, .int (nI s0)] (fun U => U.heap.size = sz ∧ tb_ok U ∧ va_P D cls [(h, .inr (8, [.int th, .int (nI G), .ref (b 0), .ref (b 1), .int (nI C), .ref (b 2), .ref (b 3), .ref (b 4), .ref (b 5), .ref (b 6), .ref (b 7), .ref (b 8), .ref (b 9), .ref (b 10), .ref (b 11), .ref (b 12), .ref (b 13), .ref (b 14), .ref (b 15), .ref (b 16), .ref (b 17), .ref (b 18), .int (zb hs), .ref (b 19), .ref (b 20)])), ((b 5), .inl (cI, 3, .inl (fun j => nI (rq j)))), ((b 6), .inl (cI, 18, .inl dm)), ((b 8), .inl (cI, 4, .inl pg)), ((b 13), .inl (cI, 24, .inl ex)), ((b 7), .inl (cI, 18, .inl al)), ((b 10), .inl (cI, 4, .inl (fun j => nI (pe j)))), ((b 11), .inl (cI, 32, .inl pf)), ((b 12), .inl (cI, 32, .inl pt)), ((b 14), .inl (cI, 6, .inl nd)), ((b 16), .inl (cI, 6, .inl gv)), ((b 17), .inl (cI, 6, .inl tk)), ((b 15), .inl (cI, 12, .inl cn))] U.heap ∧ va_K D cls (tyl cI cJ cZ cP cS) U ∧ va_D (fun _ => True) [(h, .inr (8, [.int th, .int (nI G), .ref (b 0), .ref (b 1), .int (nI C), .ref (b 2), .ref (b 3), .ref (b 4), .ref (b 5), .ref (b 6), .ref (b 7), .ref (b 8), .ref (b 9), .ref (b 10), .ref (b 11), .ref (b 12), .ref (b 13), .ref (b 14), .ref (b 15), .ref (b 16), .ref (b 17), .ref (b 18), .int (zb hs), .ref (b 19), .ref (b 20)])), ((b 5), .inl (cI, 3, .inl (fun j => nI (rq j)))), ((b 6), .inl (cI, 18, .inl dm)), ((b 8), .inl (cI, 4, .inl pg)), ((b 13), .inl (cI, 24, .inl ex)), ((b 7), .inl (cI, 18, .inl al)), ((b 10), .inl (cI, 4, .inl (fun j => nI (pe j)))), ((b 11), .inl (cI, 32, .inl pf)), ((b 12), .inl (cI, 32, .inl pt)), ((b 14), .inl (cI, 6, .inl nd)), ((b 16), .inl (cI, 6, .inl gv)), ((b 17), .inl (cI, 6, .inl tk)), ((b 15), .inl (cI, 12, .inl cn))])) (zv none D [(h, .inr (8, [.int th, .int (nI G), .ref (b 0), .ref (b 1), .int (nI C), .ref (b 2), .ref (b 3), .ref (b 4), .ref (b 5), .ref (b 6), .ref (b 7), .ref (b 8), .ref (b 9), .ref (b 10), .ref (b 11), .ref (b 12), .ref (b 13), .ref (b 14), .ref (b 15), .ref (b 16), .ref (b 17), .ref (b 18), .int (zb hs), .ref (b 19), .ref (b 20)])), ((b 5), .inl (cI, 3, .inl (fun j => nI (rq j)))), ((b 6), .inl (cI, 18, .inl dm)), ((b 8), .inl (cI, 4, .inl pg)), ((b 13), .inl (cI, 24, .inl ex)), ((b 7), .inl (cI, 18, .inl al)), ((b 10), .inl (cI, 4, .inl (fun j => nI (pe j)))), ((b 11), .inl (cI, 32, .inl pf)), ((b 12), .inl (cI, 32, .inl pt)), ((b 14), .inl (cI, 6, .inl (ypn dm ex p0 s0 (rq p0) nd 6))), ((b 16), .inl (cI, 6, .inl (zfl gv 0 6))), ((b 17), .inl (cI, 6, .inl (zfl tk 0 6))), ((b 15), .inl (cI, 12, .inl (ycn al pf pt p0 s0 (rq p0) (pe s0) cn C)))] (va_A [(h, .inr (8, [.int th, .int (nI G), .ref (b 0), .ref (b 1), .int (nI C), .ref (b 2), .ref (b 3), .ref (b 4), .ref (b 5), .ref (b 6), .ref (b 7), .ref (b 8), .ref (b 9), .ref (b 10), .ref (b 11), .ref (b 12), .ref (b 13), .ref (b 14), .ref (b 15), .ref (b 16), .ref (b 17), .ref (b 18), .int (zb hs), .ref (b 19), .ref (b 20)])), ((b 5), .inl (cI, 3, .inl (fun j => nI (rq j)))), ((b 6), .inl (cI, 18, .inl dm)), ((b 8), .inl (cI, 4, .inl pg)), ((b 13), .inl (cI, 24, .inl ex)), ((b 7), .inl (cI, 18, .inl al)), ((b 10), .inl (cI, 4, .inl (fun j => nI (pe j)))), ((b 11), .inl (cI, 32, .inl pf)), ((b 12), .inl (cI, 32, .inl pt)), ((b 14), .inl (cI, 6, .inl nd)), ((b 16), .inl (cI, 6, .inl gv)), ((b 17), .inl (cI, 6, .inl tk)), ((b 15), .inl (cI, 12, .inl cn))] sz)) 0 0 (va_A [(h, .inr (8, [.int th, .int (nI G), .ref (b 0), .ref (b 1), .int (nI C), .ref (b 2), .ref (b 3), .ref (b 4), .ref (b 5), .ref (b 6), .ref (b 7), .ref (b 8), .ref (b 9), .ref (b 10), .ref (b 11), .ref (b 12), .ref (b 13), .ref (b 14), .ref (b 15), .ref (b 16), .ref (b 17), .ref (b 18), .int (zb hs), .ref (b 19), .ref (b 20)])), ((b 5), .inl (cI, 3, .inl (fun j => nI (rq j)))), ((b 6), .inl (cI, 18, .inl dm)), ((b 8), .inl (cI, 4, .inl pg)), ((b 13), .inl (cI, 24, .inl ex)), ((b 7), .inl (cI, 18, .inl al)), ((b 10), .inl (cI, 4, .inl (fun j => nI (pe j)))), ((b 11), .inl (cI, 32, .inl pf)), ((b 12), .inl (cI, 32, .inl pt)), ((b 14), .inl (cI, 6, .inl nd)), ((b 16), .inl (cI, 6, .inl gv)), ((b 17), .inl (cI, 6, .inl tk)), ((b 15), .inl (cI, 12, .inl cn))] sz) := by
  refine Met.ofW (cc := b_MO_prepare) (maxL := 6) (ret := none) (by decide +kernel) rfl ?_
  intro p e s m args below meth c s₁ B hml hv
  obtain ⟨rfl, hsz, hok, hP, hK, hD0⟩ := hv
  have hx := B.exec
  have hb := B.bytes
  have hr := B.returns
  have hown : s.vm.findClass "StudyAuditModel" = some m.cls := findClass_of_methodNamed B.named
  have hlocks := B.notSynchronized
  subst hsz
  have hD := hD0.self (sz := s.heap.size)
  generalize hAe : va_A [(h, .inr (8, [.int th, .int (nI G), .ref (b 0), .ref (b 1), .int (nI C), .ref (b 2), .ref (b 3), .ref (b 4), .ref (b 5), .ref (b 6), .ref (b 7), .ref (b 8), .ref (b 9), .ref (b 10), .ref (b 11), .ref (b 12), .ref (b 13), .ref (b 14), .ref (b 15), .ref (b 16), .ref (b 17), .ref (b 18), .int (zb hs), .ref (b 19), .ref (b 20)])), ((b 5), .inl (cI, 3, .inl (fun j => nI (rq j)))), ((b 6), .inl (cI, 18, .inl dm)), ((b 8), .inl (cI, 4, .inl pg)), ((b 13), .inl (cI, 24, .inl ex)), ((b 7), .inl (cI, 18, .inl al)), ((b 10), .inl (cI, 4, .inl (fun j => nI (pe j)))), ((b 11), .inl (cI, 32, .inl pf)), ((b 12), .inl (cI, 32, .inl pt)), ((b 14), .inl (cI, 6, .inl nd)), ((b 16), .inl (cI, 6, .inl gv)), ((b 17), .inl (cI, 6, .inl tk)), ((b 15), .inl (cI, 12, .inl cn))] s.heap.size = A at hD ⊢
  have hA : ∀ q : Nat, s.heap.size ≤ q → A q := fun q h => by rw [← hAe]; exact Or.inr h
  have hS : va_S A s.heap s.heap [] := va_S.rf
  have hl := lv_entry ([.ref h, .int (nI s0)]) (n := 6) (Nat.le_of_ble_eq_true rfl)
  rw [lg_entry_eq]
  generalize (lg_sl ([.ref h, .int (nI s0)]) ++ List.replicate (6 - (lg_sl ([.ref h, .int (nI s0)])).length) Slot.unset).toArray = ls at hl ⊢
  have hl : lv_has ls 6 [(0, .ref h), (1, .int (nI s0))] := hl
  refine lv_aload_n hx hb d_MO_prepare_0 rfl (lv_at hl 0 rfl) ?_
  refine va_get (D := D) (ci := 8) (v := .ref (b 8)) (C := R_MO) (T := F_MO) (N := 25) hx hb (tb_in hok in_MO) (fun w h => h) hown hK hP 0 rfl rfl 11 (by decide) (hok _ t_716 rfl _) (fun _ h9 => h9) rfl d_MO_prepare_1 ?_
  refine lv_iload_n hx hb d_MO_prepare_4 rfl (lv_at hl 1 rfl) ?_
  refine va_iald hx hb hK hP 3 0 rfl rfl (vp_in_nI (by omega) (by omega)) d_MO_prepare_5 ?_
  rw [nI_clamp (show s0 < 2 ^ 31 from by omega)]
  refine W.eq (g2 := F0 m 6 ls [.int (nI p0)]) (by rw [hpg]) ?_
  refine lv_istore_n hx hb d_MO_prepare_6 rfl hl (by decide) rfl (fun ls hl => ?_)
  have hl : lv_has ls 6 [(2, .int (nI p0)), (0, .ref h), (1, .int (nI s0))] := hl
  refine lv_iconst (v := 0) hx hb d_MO_prepare_7 (by decide) ?_
  refine lv_istore_n hx hb d_MO_prepare_8 rfl hl (by decide) rfl (fun ls hl => ?_)
  have hl : lv_has ls 6 [(3, .int 0), (2, .int (nI p0)), (0, .ref h), (1, .int (nI s0))] := hl
  refine lo_prep1 D cI cJ cZ cP cS h b th G C hs s0 p0 dm pg ex al pf pt nd gv tk cn rq pe hx hb hml hown hok hK hA hs0 hp0 hpg hr5 hC hpe (fun ls H locs hl hP hD hS => ?_) (6 - 0) 0 ls _ _ (by omega) (by omega) (lv_sub hl [2, 3, 1, 0] rfl) hP hD hS
  refine lv_iconst (v := 0) hx hb d_MO_prepare_65 (by decide) ?_
  refine lv_istore_n hx hb d_MO_prepare_66 rfl hl (by decide) rfl (fun ls hl => ?_)
  have hl : lv_has ls 6 [(3, .int 0), (0, .ref h), (1, .int (nI s0)), (2, .int (nI p0))] := hl
  refine lo_prep4 D cI cJ cZ cP cS h b th G C hs s0 p0 dm pg ex al pf pt (ypn dm ex p0 s0 (rq p0) nd 6) (zfl gv 0 6) (zfl tk 0 6) cn rq pe hx hb hml hown hok hK hA hs0 hp0 hpg hr5 hC hpe (fun ls H locs hl hP hD hS => ?_) (C - 0) 0 ls _ _ (by omega) (by omega) (lv_sub hl [1, 2, 3, 0] rfl) hP hD hS
  exact W.vret hx hb hr (fun t ht _ => ⟨⟨rfl, by rw [ht]; exact hP, hD⟩, hS.F ht⟩) hS.2.2 d_MO_prepare_217
