/-! LifeKeys.Field.isSecret -/
theorem dX0_isSecret_0 : decode cX0_isSecret 0 = .ok (.iload_n 0, 1) := by decide +kernel
theorem dX0_isSecret_1 : decode cX0_isSecret 1 = .ok (.iconst 1, 1) := by decide +kernel
theorem dX0_isSecret_2 : decode cX0_isSecret 2 = .ok (.if_icmp .lt 14, 3) := by decide +kernel
theorem dX0_isSecret_5 : decode cX0_isSecret 5 = .ok (.iload_n 0, 1) := by decide +kernel
theorem dX0_isSecret_6 : decode cX0_isSecret 6 = .ok (.sipush 1019, 3) := by decide +kernel
theorem dX0_isSecret_9 : decode cX0_isSecret 9 = .ok (.if_icmp .ge 7, 3) := by decide +kernel
theorem dX0_isSecret_12 : decode cX0_isSecret 12 = .ok (.iconst 1, 1) := by decide +kernel
theorem dX0_isSecret_13 : decode cX0_isSecret 13 = .ok (.goto 4, 3) := by decide +kernel
theorem dX0_isSecret_16 : decode cX0_isSecret 16 = .ok (.iconst 0, 1) := by decide +kernel
theorem dX0_isSecret_17 : decode cX0_isSecret 17 = .ok (.ireturn, 1) := by decide +kernel
def fX0_isSecret (k : ST) (a0 : Int32) : Option (Bool × ST) := if a0 < 1 then some (false, k) else if 1019 ≤ a0 then some (false, k) else some (true, k)
set_option maxRecDepth 20000 in
theorem c_X0_isSecret (l : Launch) (g : GT) (T : TT) (a0 : Int32) : CN l yX0_isSecret cX0_isSecret 1 (some .boolean) { frames := 0, cells := 0, slots := 0, locals := 0 } g T voB [.int a0] (fun k => fX0_isSecret k a0) := by
  refine cn_of (by decide) (Nat.le_of_ble_eq_true rfl) ?_
  intro p e s m args below meth c hC k
  have hC : HC p s m args meth c cX0_isSecret 1 RX0 (some .boolean) g := hC
  have hR : 0 ≤ ({ frames := 0, cells := 0, slots := 0, locals := 0 } : Room).frames ∧ 0 ≤ ({ frames := 0, cells := 0, slots := 0, locals := 0 } : Room).locals := ⟨Nat.le_refl _, Nat.le_refl _⟩
  show ZF p l e _ s m args below meth c g T voB 1 k 0 [(0, .int a0)] [] (fX0_isSecret k a0)
  unfold fX0_isSecret
  refine zf_iload_n hC dX0_isSecret_0 rfl 0 rfl ?_
  refine zf_iconst hC (v := 1) dX0_isSecret_1 rfl ?_
  refine zf_icmp_lt hC (tgt := 16) dX0_isSecret_2 (by decide) (fun h1 => ?_) (fun h1 => ?_)
  · refine zf_iconst hC (v := 0) dX0_isSecret_16 rfl ?_
    exact zf_zret hC rfl false rfl dX0_isSecret_17
  · refine zf_iload_n hC dX0_isSecret_5 rfl 0 rfl ?_
    refine zf_sipush hC (v := 1019) dX0_isSecret_6 rfl ?_
    refine zf_icmp_ge hC (tgt := 16) dX0_isSecret_9 (by decide) (fun h2 => ?_) (fun h2 => ?_)
    · refine zf_iconst hC (v := 0) dX0_isSecret_16 rfl ?_
      exact zf_zret hC rfl false rfl dX0_isSecret_17
    · refine zf_iconst hC (v := 1) dX0_isSecret_12 rfl ?_
      refine zf_goto hC (tgt := 17) dX0_isSecret_13 (by decide) ?_
      exact zf_zret hC rfl true rfl dX0_isSecret_17
/-! LifeKeys.Tape.bytesIn -/
theorem dX8_bytesIn_0 : decode cX8_bytesIn 0 = .ok (.iconst 0, 1) := by decide +kernel
theorem dX8_bytesIn_1 : decode cX8_bytesIn 1 = .ok (.istore_n 1, 1) := by decide +kernel
theorem dX8_bytesIn_2 : decode cX8_bytesIn 2 = .ok (.bipush 24, 2) := by decide +kernel
theorem dX8_bytesIn_4 : decode cX8_bytesIn 4 = .ok (.istore_n 2, 1) := by decide +kernel
theorem dX8_bytesIn_5 : decode cX8_bytesIn 5 = .ok (.iload_n 2, 1) := by decide +kernel
theorem dX8_bytesIn_6 : decode cX8_bytesIn 6 = .ok (.ifCond .lt 22, 3) := by decide +kernel
theorem dX8_bytesIn_9 : decode cX8_bytesIn 9 = .ok (.iload_n 0, 1) := by decide +kernel
theorem dX8_bytesIn_10 : decode cX8_bytesIn 10 = .ok (.iload_n 2, 1) := by decide +kernel
theorem dX8_bytesIn_11 : decode cX8_bytesIn 11 = .ok (.iushr, 1) := by decide +kernel
theorem dX8_bytesIn_12 : decode cX8_bytesIn 12 = .ok (.sipush 255, 3) := by decide +kernel
theorem dX8_bytesIn_15 : decode cX8_bytesIn 15 = .ok (.iand, 1) := by decide +kernel
theorem dX8_bytesIn_16 : decode cX8_bytesIn 16 = .ok (.ifCond .eq 6, 3) := by decide +kernel
theorem dX8_bytesIn_19 : decode cX8_bytesIn 19 = .ok (.iinc 1 1, 3) := by decide +kernel
theorem dX8_bytesIn_22 : decode cX8_bytesIn 22 = .ok (.iinc 2 (-8), 3) := by decide +kernel
theorem dX8_bytesIn_25 : decode cX8_bytesIn 25 = .ok (.goto (-20), 3) := by decide +kernel
theorem dX8_bytesIn_28 : decode cX8_bytesIn 28 = .ok (.iload_n 1, 1) := by decide +kernel
theorem dX8_bytesIn_29 : decode cX8_bytesIn 29 = .ok (.ireturn, 1) := by decide +kernel
def lpX8_bytesIn_5 (v0 : Int32) : Nat → Int32 → Int32 → ST → (Int32 → Int32 → ST → Option (Int32 × ST)) → Option (Int32 × ST)
  | 0, _, _, _, _ => none
  | n + 1, v1, v2, k, cont => if v2 < 0 then cont v1 v2 k else if ((j_ushr v0 v2) &&& 255) = 0 then lpX8_bytesIn_5 v0 n v1 (v2 + (-8)) k cont else lpX8_bytesIn_5 v0 n (v1 + 1) (v2 + (-8)) k cont
set_option maxRecDepth 20000 in
theorem zlpX8_bytesIn_5 {p : Program} {l : Launch} {e : Env} {R : Room} {s : State} {m : MethodId} {args : Array Value} {below : List Frame} {meth : Method} {c : Code} {g : GT} {T : TT} (hC : HC p s m args meth c cX8_bytesIn 3 RX8 (some .int) g) (hR : 0 ≤ R.frames ∧ 0 ≤ R.locals) (v0 : Int32) {cont : Int32 → Int32 → ST → Option (Int32 × ST)} (hk : ∀ (v1 : Int32) (v2 : Int32) (k : ST), ZF p l e R s m args below meth c g T voI 3 k 28 [(0, .int v0), (1, .int v1), (2, .int v2)] [] (cont v1 v2 k)) : ∀ (n : Nat) (v1 : Int32) (v2 : Int32) (k : ST), ZF p l e R s m args below meth c g T voI 3 k 5 [(0, .int v0), (1, .int v1), (2, .int v2)] [] (lpX8_bytesIn_5 v0 n v1 v2 k cont) := by
  intro n
  induction n with
  | zero => intros; exact zf_none
  | succ n ih =>
    intro v1 v2 k
    rw [lpX8_bytesIn_5]
    refine zf_iload_n hC dX8_bytesIn_5 rfl 2 rfl ?_
    refine zf_if_lt hC (tgt := 28) dX8_bytesIn_6 (by decide) (fun h1 => ?_) (fun h1 => ?_)
    · refine zf_lv (LV' := [(0, .int v0), (1, .int v1), (2, .int v2)]) [0, 1, 2] rfl ?_
      exact hk v1 v2 k
    · refine zf_iload_n hC dX8_bytesIn_9 rfl 0 rfl ?_
      refine zf_iload_n hC dX8_bytesIn_10 rfl 2 rfl ?_
      refine zf_iushr hC dX8_bytesIn_11 ?_
      refine zf_sipush hC (v := 255) dX8_bytesIn_12 rfl ?_
      refine zf_iand hC dX8_bytesIn_15 ?_
      refine zf_if_eq hC (tgt := 22) dX8_bytesIn_16 (by decide) (fun h2 => ?_) (fun h2 => ?_)
      · refine zf_iinc hC (q := 2) (v := v2 + (-8)) (LV' := [(2, .int (v2 + (-8))), (0, .int v0), (1, .int v1)]) dX8_bytesIn_22 rfl rfl (by decide) rfl ?_
        refine zf_goto hC (tgt := 5) dX8_bytesIn_25 (by decide) ?_
        refine zf_lv (LV' := [(0, .int v0), (1, .int v1), (2, .int (v2 + (-8)))]) [1, 2, 0] rfl ?_
        exact ih v1 (v2 + (-8)) k
      · refine zf_iinc hC (q := 1) (v := v1 + 1) (LV' := [(1, .int (v1 + 1)), (0, .int v0), (2, .int v2)]) dX8_bytesIn_19 rfl rfl (by decide) rfl ?_
        refine zf_iinc hC (q := 2) (v := v2 + (-8)) (LV' := [(2, .int (v2 + (-8))), (1, .int (v1 + 1)), (0, .int v0)]) dX8_bytesIn_22 rfl rfl (by decide) rfl ?_
        refine zf_goto hC (tgt := 5) dX8_bytesIn_25 (by decide) ?_
        refine zf_lv (LV' := [(0, .int v0), (1, .int (v1 + 1)), (2, .int (v2 + (-8)))]) [2, 1, 0] rfl ?_
        exact ih (v1 + 1) (v2 + (-8)) k
def fX8_bytesIn (k : ST) (a0 : Int32) : Option (Int32 × ST) := lpX8_bytesIn_5 a0 FU 0 24 k fun y3 y4 k5 => some (y3, k5)
set_option maxRecDepth 20000 in
theorem c_X8_bytesIn (l : Launch) (g : GT) (T : TT) (a0 : Int32) : CN l yX8_bytesIn cX8_bytesIn 3 (some .int) { frames := 0, cells := 0, slots := 0, locals := 0 } g T voI [.int a0] (fun k => fX8_bytesIn k a0) := by
  refine cn_of (by decide) (Nat.le_of_ble_eq_true rfl) ?_
  intro p e s m args below meth c hC k
  have hC : HC p s m args meth c cX8_bytesIn 3 RX8 (some .int) g := hC
  have hR : 0 ≤ ({ frames := 0, cells := 0, slots := 0, locals := 0 } : Room).frames ∧ 0 ≤ ({ frames := 0, cells := 0, slots := 0, locals := 0 } : Room).locals := ⟨Nat.le_refl _, Nat.le_refl _⟩
  show ZF p l e _ s m args below meth c g T voI 3 k 0 [(0, .int a0)] [] (fX8_bytesIn k a0)
  unfold fX8_bytesIn
  refine zf_iconst hC (v := 0) dX8_bytesIn_0 rfl ?_
  refine zf_istore_n hC (LV' := [(1, .int 0), (0, .int a0)]) dX8_bytesIn_1 rfl (by decide) rfl ?_
  refine zf_bipush hC (v := 24) dX8_bytesIn_2 rfl ?_
  refine zf_istore_n hC (LV' := [(2, .int 24), (1, .int 0), (0, .int a0)]) dX8_bytesIn_4 rfl (by decide) rfl ?_
  refine zf_lv (LV' := [(0, .int a0), (1, .int 0), (2, .int 24)]) [2, 1, 0] rfl ?_
  refine zlpX8_bytesIn_5 hC hR a0 (fun y3 y4 k5 => ?_) FU 0 24 k
  refine zf_iload_n hC dX8_bytesIn_28 rfl 1 rfl ?_
  exact zf_iret hC rfl dX8_bytesIn_29
/-! LifeKeys.Tape.append -/
theorem dX8_append_0 : decode cX8_append 0 = .ok (.bipush 24, 2) := by decide +kernel
theorem dX8_append_2 : decode cX8_append 2 = .ok (.istore_n 2, 1) := by decide +kernel
theorem dX8_append_3 : decode cX8_append 3 = .ok (.iload_n 2, 1) := by decide +kernel
theorem dX8_append_4 : decode cX8_append 4 = .ok (.ifCond .lt 51, 3) := by decide +kernel
theorem dX8_append_7 : decode cX8_append 7 = .ok (.iload_n 1, 1) := by decide +kernel
theorem dX8_append_8 : decode cX8_append 8 = .ok (.iload_n 2, 1) := by decide +kernel
theorem dX8_append_9 : decode cX8_append 9 = .ok (.iushr, 1) := by decide +kernel
theorem dX8_append_10 : decode cX8_append 10 = .ok (.sipush 255, 3) := by decide +kernel
theorem dX8_append_13 : decode cX8_append 13 = .ok (.iand, 1) := by decide +kernel
theorem dX8_append_14 : decode cX8_append 14 = .ok (.istore_n 3, 1) := by decide +kernel
theorem dX8_append_15 : decode cX8_append 15 = .ok (.iload_n 3, 1) := by decide +kernel
theorem dX8_append_16 : decode cX8_append 16 = .ok (.ifCond .eq 33, 3) := by decide +kernel
theorem dX8_append_19 : decode cX8_append 19 = .ok (.aload_n 0, 1) := by decide +kernel
theorem dX8_append_20 : decode cX8_append 20 = .ok (.getfield 13, 3) := by decide +kernel
theorem dX8_append_23 : decode cX8_append 23 = .ok (.sipush 160, 3) := by decide +kernel
theorem dX8_append_26 : decode cX8_append 26 = .ok (.if_icmp .ge 23, 3) := by decide +kernel
theorem dX8_append_29 : decode cX8_append 29 = .ok (.aload_n 0, 1) := by decide +kernel
theorem dX8_append_30 : decode cX8_append 30 = .ok (.getfield 9, 3) := by decide +kernel
theorem dX8_append_33 : decode cX8_append 33 = .ok (.aload_n 0, 1) := by decide +kernel
theorem dX8_append_34 : decode cX8_append 34 = .ok (.getfield 13, 3) := by decide +kernel
theorem dX8_append_37 : decode cX8_append 37 = .ok (.iload_n 3, 1) := by decide +kernel
theorem dX8_append_38 : decode cX8_append 38 = .ok (.iastore, 1) := by decide +kernel
theorem dX8_append_39 : decode cX8_append 39 = .ok (.aload_n 0, 1) := by decide +kernel
theorem dX8_append_40 : decode cX8_append 40 = .ok (.dup, 1) := by decide +kernel
theorem dX8_append_41 : decode cX8_append 41 = .ok (.getfield 13, 3) := by decide +kernel
theorem dX8_append_44 : decode cX8_append 44 = .ok (.iconst 1, 1) := by decide +kernel
theorem dX8_append_45 : decode cX8_append 45 = .ok (.iadd, 1) := by decide +kernel
theorem dX8_append_46 : decode cX8_append 46 = .ok (.putfield 13, 3) := by decide +kernel
theorem dX8_append_49 : decode cX8_append 49 = .ok (.iinc 2 (-8), 3) := by decide +kernel
theorem dX8_append_52 : decode cX8_append 52 = .ok (.goto (-49), 3) := by decide +kernel
theorem dX8_append_55 : decode cX8_append 55 = .ok (.return_, 1) := by decide +kernel
def lpX8_append_3 (v1 : Int32) : Nat → Int32 → ST → (Int32 → ST → Option (Unit × ST)) → Option (Unit × ST)
  | 0, _, _, _ => none
  | n + 1, v2, k, cont => if v2 < 0 then cont v2 k else if ((j_ushr v1 v2) &&& 255) = 0 then lpX8_append_3 v1 n (v2 + (-8)) k cont else if 160 ≤ (gI k 7 1) then lpX8_append_3 v1 n (v2 + (-8)) k cont else ck (inb (gI k 7 1) 160) (nm (sA k 43 (ix (gI k 7 1)) ((j_ushr v1 v2) &&& 255)) fun k5 => nm (sI k5 7 1 ((gI k5 7 1) + 1)) fun k6 => lpX8_append_3 v1 n (v2 + (-8)) k6 cont)
set_option maxRecDepth 20000 in
theorem zlpX8_append_3 {p : Program} {l : Launch} {e : Env} {R : Room} {s : State} {m : MethodId} {args : Array Value} {below : List Frame} {meth : Method} {c : Code} {g : GT} (hC : HC p s m args meth c cX8_append 4 RX8 none g) (hR : 0 ≤ R.frames ∧ 0 ≤ R.locals) (v1 : Int32) {cont : Int32 → ST → Option (Unit × ST)} (hk : ∀ (v2 : Int32) (k : ST), ZF p l e R s m args below meth c g TK voV 4 k 55 [(0, .ref (g.2.1 7)), (1, .int v1), (2, .int v2)] [] (cont v2 k)) : ∀ (n : Nat) (v2 : Int32) (k : ST), ZF p l e R s m args below meth c g TK voV 4 k 3 [(0, .ref (g.2.1 7)), (1, .int v1), (2, .int v2)] [] (lpX8_append_3 v1 n v2 k cont) := by
  intro n
  induction n with
  | zero => intros; exact zf_none
  | succ n ih =>
    intro v2 k
    rw [lpX8_append_3]
    refine zf_iload_n hC dX8_append_3 rfl 2 rfl ?_
    refine zf_if_lt hC (tgt := 55) dX8_append_4 (by decide) (fun h1 => ?_) (fun h1 => ?_)
    · refine zf_lv (LV' := [(0, .ref (g.2.1 7)), (1, .int v1), (2, .int v2)]) [0, 1, 2] rfl ?_
      exact hk v2 k
    · refine zf_iload_n hC dX8_append_7 rfl 1 rfl ?_
      refine zf_iload_n hC dX8_append_8 rfl 2 rfl ?_
      refine zf_iushr hC dX8_append_9 ?_
      refine zf_sipush hC (v := 255) dX8_append_10 rfl ?_
      refine zf_iand hC dX8_append_13 ?_
      refine zf_istore_n hC (LV' := [(3, .int ((j_ushr v1 v2) &&& 255)), (0, .ref (g.2.1 7)), (1, .int v1), (2, .int v2)]) dX8_append_14 rfl (by decide) rfl ?_
      refine zf_iload_n hC dX8_append_15 rfl 0 rfl ?_
      refine zf_if_eq hC (tgt := 49) dX8_append_16 (by decide) (fun h2 => ?_) (fun h2 => ?_)
      · refine zf_iinc hC (q := 3) (v := v2 + (-8)) (LV' := [(2, .int (v2 + (-8))), (3, .int ((j_ushr v1 v2) &&& 255)), (0, .ref (g.2.1 7)), (1, .int v1)]) dX8_append_49 rfl rfl (by decide) rfl ?_
        refine zf_goto hC (tgt := 3) dX8_append_52 (by decide) ?_
        refine zf_lv (LV' := [(0, .ref (g.2.1 7)), (1, .int v1), (2, .int (v2 + (-8)))]) [2, 3, 0] rfl ?_
        exact ih (v2 + (-8)) k
      · refine zf_aload_n hC dX8_append_19 rfl 1 rfl ?_
        refine gf_37 hC dX8_append_20 ?_
        refine zf_sipush hC (v := 160) dX8_append_23 rfl ?_
        refine zf_icmp_ge hC (tgt := 49) dX8_append_26 (by decide) (fun h3 => ?_) (fun h3 => ?_)
        · refine zf_iinc hC (q := 3) (v := v2 + (-8)) (LV' := [(2, .int (v2 + (-8))), (3, .int ((j_ushr v1 v2) &&& 255)), (0, .ref (g.2.1 7)), (1, .int v1)]) dX8_append_49 rfl rfl (by decide) rfl ?_
          refine zf_goto hC (tgt := 3) dX8_append_52 (by decide) ?_
          refine zf_lv (LV' := [(0, .ref (g.2.1 7)), (1, .int v1), (2, .int (v2 + (-8)))]) [2, 3, 0] rfl ?_
          exact ih (v2 + (-8)) k
        · refine zf_aload_n hC dX8_append_29 rfl 1 rfl ?_
          refine gf_35 hC dX8_append_30 ?_
          refine zf_aload_n hC dX8_append_33 rfl 1 rfl ?_
          refine gf_37 hC dX8_append_34 ?_
          refine zf_iload_n hC dX8_append_37 rfl 0 rfl ?_
          refine zf_iast hC (j := 43) ia_43 rfl rfl dX8_append_38 (fun h4 => ?_)
          refine zf_nmk (fun k5 => ?_)
          refine zf_aload_n hC dX8_append_39 rfl 1 rfl ?_
          refine zf_dup hC dX8_append_40 rfl ?_
          refine gf_37 hC dX8_append_41 ?_
          refine zf_iconst hC (v := 1) dX8_append_44 rfl ?_
          refine zf_iadd hC dX8_append_45 ?_
          refine pf_37 hC dX8_append_46 ?_
          refine zf_nmk (fun k6 => ?_)
          refine zf_iinc hC (q := 3) (v := v2 + (-8)) (LV' := [(2, .int (v2 + (-8))), (3, .int ((j_ushr v1 v2) &&& 255)), (0, .ref (g.2.1 7)), (1, .int v1)]) dX8_append_49 rfl rfl (by decide) rfl ?_
          refine zf_goto hC (tgt := 3) dX8_append_52 (by decide) ?_
          refine zf_lv (LV' := [(0, .ref (g.2.1 7)), (1, .int v1), (2, .int (v2 + (-8)))]) [2, 3, 0] rfl ?_
          exact ih (v2 + (-8)) k6
def fX8_append (k : ST) (a0 : Int32) : Option (Unit × ST) := lpX8_append_3 a0 FU 24 k fun y7 k8 => some ((), k8)
set_option maxRecDepth 20000 in
theorem c_X8_append (l : Launch) (g : GT) (a0 : Int32) : CN l yX8_append cX8_append 4 none { frames := 0, cells := 0, slots := 0, locals := 0 } g TK voV [.ref (g.2.1 7), .int a0] (fun k => fX8_append k a0) := by
  refine cn_of (by decide) (Nat.le_of_ble_eq_true rfl) ?_
  intro p e s m args below meth c hC k
  have hC : HC p s m args meth c cX8_append 4 RX8 none g := hC
  have hR : 0 ≤ ({ frames := 0, cells := 0, slots := 0, locals := 0 } : Room).frames ∧ 0 ≤ ({ frames := 0, cells := 0, slots := 0, locals := 0 } : Room).locals := ⟨Nat.le_refl _, Nat.le_refl _⟩
  show ZF p l e _ s m args below meth c g TK voV 4 k 0 [(0, .ref (g.2.1 7)), (1, .int a0)] [] (fX8_append k a0)
  unfold fX8_append
  refine zf_bipush hC (v := 24) dX8_append_0 rfl ?_
  refine zf_istore_n hC (LV' := [(2, .int 24), (0, .ref (g.2.1 7)), (1, .int a0)]) dX8_append_2 rfl (by decide) rfl ?_
  refine zf_lv (LV' := [(0, .ref (g.2.1 7)), (1, .int a0), (2, .int 24)]) [1, 2, 0] rfl ?_
  refine zlpX8_append_3 hC hR a0 (fun y7 k8 => ?_) FU 24 k
  exact zf_vret hC rfl dX8_append_55
/-! LifeKeys.Tape.isName -/
theorem dX8_isName_0 : decode cX8_isName 0 = .ok (.aload_n 0, 1) := by decide +kernel
theorem dX8_isName_1 : decode cX8_isName 1 = .ok (.getfield 13, 3) := by decide +kernel
theorem dX8_isName_4 : decode cX8_isName 4 = .ok (.iconst 1, 1) := by decide +kernel
theorem dX8_isName_5 : decode cX8_isName 5 = .ok (.if_icmp .lt 16, 3) := by decide +kernel
theorem dX8_isName_8 : decode cX8_isName 8 = .ok (.aload_n 0, 1) := by decide +kernel
theorem dX8_isName_9 : decode cX8_isName 9 = .ok (.getfield 13, 3) := by decide +kernel
theorem dX8_isName_12 : decode cX8_isName 12 = .ok (.bipush 40, 2) := by decide +kernel
theorem dX8_isName_14 : decode cX8_isName 14 = .ok (.if_icmp .gt 7, 3) := by decide +kernel
theorem dX8_isName_17 : decode cX8_isName 17 = .ok (.iconst 1, 1) := by decide +kernel
theorem dX8_isName_18 : decode cX8_isName 18 = .ok (.goto 4, 3) := by decide +kernel
theorem dX8_isName_21 : decode cX8_isName 21 = .ok (.iconst 0, 1) := by decide +kernel
theorem dX8_isName_22 : decode cX8_isName 22 = .ok (.ireturn, 1) := by decide +kernel
def fX8_isName (k : ST)  : Option (Bool × ST) := if (gI k 7 1) < 1 then some (false, k) else if 40 < (gI k 7 1) then some (false, k) else some (true, k)
set_option maxRecDepth 20000 in
theorem c_X8_isName (l : Launch) (g : GT)  : CN l yX8_isName cX8_isName 1 (some .boolean) { frames := 0, cells := 0, slots := 0, locals := 0 } g TK voB [.ref (g.2.1 7)] (fun k => fX8_isName k) := by
  refine cn_of (by decide) (Nat.le_of_ble_eq_true rfl) ?_
  intro p e s m args below meth c hC k
  have hC : HC p s m args meth c cX8_isName 1 RX8 (some .boolean) g := hC
  have hR : 0 ≤ ({ frames := 0, cells := 0, slots := 0, locals := 0 } : Room).frames ∧ 0 ≤ ({ frames := 0, cells := 0, slots := 0, locals := 0 } : Room).locals := ⟨Nat.le_refl _, Nat.le_refl _⟩
  show ZF p l e _ s m args below meth c g TK voB 1 k 0 [(0, .ref (g.2.1 7))] [] (fX8_isName k)
  unfold fX8_isName
  refine zf_aload_n hC dX8_isName_0 rfl 0 rfl ?_
  refine gf_37 hC dX8_isName_1 ?_
  refine zf_iconst hC (v := 1) dX8_isName_4 rfl ?_
  refine zf_icmp_lt hC (tgt := 21) dX8_isName_5 (by decide) (fun h1 => ?_) (fun h1 => ?_)
  · refine zf_iconst hC (v := 0) dX8_isName_21 rfl ?_
    exact zf_zret hC rfl false rfl dX8_isName_22
  · refine zf_aload_n hC dX8_isName_8 rfl 0 rfl ?_
    refine gf_37 hC dX8_isName_9 ?_
    refine zf_bipush hC (v := 40) dX8_isName_12 rfl ?_
    refine zf_icmp_gt hC (tgt := 21) dX8_isName_14 (by decide) (fun h2 => ?_) (fun h2 => ?_)
    · refine zf_iconst hC (v := 0) dX8_isName_21 rfl ?_
      exact zf_zret hC rfl false rfl dX8_isName_22
    · refine zf_iconst hC (v := 1) dX8_isName_17 rfl ?_
      refine zf_goto hC (tgt := 22) dX8_isName_18 (by decide) ?_
      exact zf_zret hC rfl true rfl dX8_isName_22
/-! LifeKeys.Tape.nameNumber -/
theorem dX8_nameNumber_0 : decode cX8_nameNumber 0 = .ok (.iconst 0, 1) := by decide +kernel
theorem dX8_nameNumber_1 : decode cX8_nameNumber 1 = .ok (.istore_n 1, 1) := by decide +kernel
theorem dX8_nameNumber_2 : decode cX8_nameNumber 2 = .ok (.iconst 0, 1) := by decide +kernel
theorem dX8_nameNumber_3 : decode cX8_nameNumber 3 = .ok (.istore_n 2, 1) := by decide +kernel
theorem dX8_nameNumber_4 : decode cX8_nameNumber 4 = .ok (.iload_n 2, 1) := by decide +kernel
theorem dX8_nameNumber_5 : decode cX8_nameNumber 5 = .ok (.aload_n 0, 1) := by decide +kernel
theorem dX8_nameNumber_6 : decode cX8_nameNumber 6 = .ok (.getfield 13, 3) := by decide +kernel
theorem dX8_nameNumber_9 : decode cX8_nameNumber 9 = .ok (.if_icmp .ge 26, 3) := by decide +kernel
theorem dX8_nameNumber_12 : decode cX8_nameNumber 12 = .ok (.sipush 131, 3) := by decide +kernel
theorem dX8_nameNumber_15 : decode cX8_nameNumber 15 = .ok (.iload_n 1, 1) := by decide +kernel
theorem dX8_nameNumber_16 : decode cX8_nameNumber 16 = .ok (.imul, 1) := by decide +kernel
theorem dX8_nameNumber_17 : decode cX8_nameNumber 17 = .ok (.aload_n 0, 1) := by decide +kernel
theorem dX8_nameNumber_18 : decode cX8_nameNumber 18 = .ok (.getfield 9, 3) := by decide +kernel
theorem dX8_nameNumber_21 : decode cX8_nameNumber 21 = .ok (.iload_n 2, 1) := by decide +kernel
theorem dX8_nameNumber_22 : decode cX8_nameNumber 22 = .ok (.iaload, 1) := by decide +kernel
theorem dX8_nameNumber_23 : decode cX8_nameNumber 23 = .ok (.iadd, 1) := by decide +kernel
theorem dX8_nameNumber_24 : decode cX8_nameNumber 24 = .ok (.sipush 1019, 3) := by decide +kernel
theorem dX8_nameNumber_27 : decode cX8_nameNumber 27 = .ok (.irem, 1) := by decide +kernel
theorem dX8_nameNumber_28 : decode cX8_nameNumber 28 = .ok (.istore_n 1, 1) := by decide +kernel
theorem dX8_nameNumber_29 : decode cX8_nameNumber 29 = .ok (.iinc 2 1, 3) := by decide +kernel
theorem dX8_nameNumber_32 : decode cX8_nameNumber 32 = .ok (.goto (-28), 3) := by decide +kernel
theorem dX8_nameNumber_35 : decode cX8_nameNumber 35 = .ok (.iload_n 1, 1) := by decide +kernel
theorem dX8_nameNumber_36 : decode cX8_nameNumber 36 = .ok (.ireturn, 1) := by decide +kernel
def lpX8_nameNumber_4  : Nat → Int32 → Int32 → ST → (Int32 → Int32 → ST → Option (Int32 × ST)) → Option (Int32 × ST)
  | 0, _, _, _, _ => none
  | n + 1, v1, v2, k, cont => if (gI k 7 1) ≤ v2 then cont v1 v2 k else ck (inb v2 160) (nm (j_rem ((131 * v1) + (gA k 43 (ix v2))) 1019) fun x3 => lpX8_nameNumber_4 n x3 (v2 + 1) k cont)
set_option maxRecDepth 20000 in
theorem zlpX8_nameNumber_4 {p : Program} {l : Launch} {e : Env} {R : Room} {s : State} {m : MethodId} {args : Array Value} {below : List Frame} {meth : Method} {c : Code} {g : GT} (hC : HC p s m args meth c cX8_nameNumber 3 RX8 (some .int) g) (hR : 0 ≤ R.frames ∧ 0 ≤ R.locals)  {cont : Int32 → Int32 → ST → Option (Int32 × ST)} (hk : ∀ (v1 : Int32) (v2 : Int32) (k : ST), ZF p l e R s m args below meth c g TK voI 3 k 35 [(0, .ref (g.2.1 7)), (1, .int v1), (2, .int v2)] [] (cont v1 v2 k)) : ∀ (n : Nat) (v1 : Int32) (v2 : Int32) (k : ST), ZF p l e R s m args below meth c g TK voI 3 k 4 [(0, .ref (g.2.1 7)), (1, .int v1), (2, .int v2)] [] (lpX8_nameNumber_4 n v1 v2 k cont) := by
  intro n
  induction n with
  | zero => intros; exact zf_none
  | succ n ih =>
    intro v1 v2 k
    rw [lpX8_nameNumber_4]
    refine zf_iload_n hC dX8_nameNumber_4 rfl 2 rfl ?_
    refine zf_aload_n hC dX8_nameNumber_5 rfl 0 rfl ?_
    refine gf_37 hC dX8_nameNumber_6 ?_
    refine zf_icmp_ge hC (tgt := 35) dX8_nameNumber_9 (by decide) (fun h1 => ?_) (fun h1 => ?_)
    · refine zf_lv (LV' := [(0, .ref (g.2.1 7)), (1, .int v1), (2, .int v2)]) [0, 1, 2] rfl ?_
      exact hk v1 v2 k
    · refine zf_sipush hC (v := 131) dX8_nameNumber_12 rfl ?_
      refine zf_iload_n hC dX8_nameNumber_15 rfl 1 rfl ?_
      refine zf_imul hC dX8_nameNumber_16 ?_
      refine zf_aload_n hC dX8_nameNumber_17 rfl 0 rfl ?_
      refine gf_35 hC dX8_nameNumber_18 ?_
      refine zf_iload_n hC dX8_nameNumber_21 rfl 2 rfl ?_
      refine zf_iald hC (j := 43) ia_43 rfl rfl dX8_nameNumber_22 (fun h2 => ?_)
      refine zf_iadd hC dX8_nameNumber_23 ?_
      refine zf_sipush hC (v := 1019) dX8_nameNumber_24 rfl ?_
      refine zf_irem hC dX8_nameNumber_27 (by decide) ?_
      refine zf_nmi (fun x3 => ?_)
      refine zf_istore_n hC (LV' := [(1, .int x3), (0, .ref (g.2.1 7)), (2, .int v2)]) dX8_nameNumber_28 rfl (by decide) rfl ?_
      refine zf_iinc hC (q := 2) (v := v2 + 1) (LV' := [(2, .int (v2 + 1)), (1, .int x3), (0, .ref (g.2.1 7))]) dX8_nameNumber_29 rfl rfl (by decide) rfl ?_
      refine zf_goto hC (tgt := 4) dX8_nameNumber_32 (by decide) ?_
      refine zf_lv (LV' := [(0, .ref (g.2.1 7)), (1, .int x3), (2, .int (v2 + 1))]) [2, 1, 0] rfl ?_
      exact ih x3 (v2 + 1) k
def fX8_nameNumber (k : ST)  : Option (Int32 × ST) := lpX8_nameNumber_4 FU 0 0 k fun y4 y5 k6 => some (y4, k6)
set_option maxRecDepth 20000 in
theorem c_X8_nameNumber (l : Launch) (g : GT)  : CN l yX8_nameNumber cX8_nameNumber 3 (some .int) { frames := 0, cells := 0, slots := 0, locals := 0 } g TK voI [.ref (g.2.1 7)] (fun k => fX8_nameNumber k) := by
  refine cn_of (by decide) (Nat.le_of_ble_eq_true rfl) ?_
  intro p e s m args below meth c hC k
  have hC : HC p s m args meth c cX8_nameNumber 3 RX8 (some .int) g := hC
  have hR : 0 ≤ ({ frames := 0, cells := 0, slots := 0, locals := 0 } : Room).frames ∧ 0 ≤ ({ frames := 0, cells := 0, slots := 0, locals := 0 } : Room).locals := ⟨Nat.le_refl _, Nat.le_refl _⟩
  show ZF p l e _ s m args below meth c g TK voI 3 k 0 [(0, .ref (g.2.1 7))] [] (fX8_nameNumber k)
  unfold fX8_nameNumber
  refine zf_iconst hC (v := 0) dX8_nameNumber_0 rfl ?_
  refine zf_istore_n hC (LV' := [(1, .int 0), (0, .ref (g.2.1 7))]) dX8_nameNumber_1 rfl (by decide) rfl ?_
  refine zf_iconst hC (v := 0) dX8_nameNumber_2 rfl ?_
  refine zf_istore_n hC (LV' := [(2, .int 0), (1, .int 0), (0, .ref (g.2.1 7))]) dX8_nameNumber_3 rfl (by decide) rfl ?_
  refine zf_lv (LV' := [(0, .ref (g.2.1 7)), (1, .int 0), (2, .int 0)]) [2, 1, 0] rfl ?_
  refine zlpX8_nameNumber_4 hC hR (fun y4 y5 k6 => ?_) FU 0 0 k
  refine zf_iload_n hC dX8_nameNumber_35 rfl 1 rfl ?_
  exact zf_iret hC rfl dX8_nameNumber_36
/-! LifeKeys.hasKey -/
theorem dX11_hasKey_0 : decode cX11_hasKey 0 = .ok (.lload_n 0, 1) := by decide +kernel
theorem dX11_hasKey_1 : decode cX11_hasKey 1 = .ok (.iload_n 2, 1) := by decide +kernel
theorem dX11_hasKey_2 : decode cX11_hasKey 2 = .ok (.lushr, 1) := by decide +kernel
theorem dX11_hasKey_3 : decode cX11_hasKey 3 = .ok (.lconst 1, 1) := by decide +kernel
theorem dX11_hasKey_4 : decode cX11_hasKey 4 = .ok (.land, 1) := by decide +kernel
theorem dX11_hasKey_5 : decode cX11_hasKey 5 = .ok (.lconst 0, 1) := by decide +kernel
theorem dX11_hasKey_6 : decode cX11_hasKey 6 = .ok (.lcmp, 1) := by decide +kernel
theorem dX11_hasKey_7 : decode cX11_hasKey 7 = .ok (.ifCond .eq 7, 3) := by decide +kernel
theorem dX11_hasKey_10 : decode cX11_hasKey 10 = .ok (.iconst 1, 1) := by decide +kernel
theorem dX11_hasKey_11 : decode cX11_hasKey 11 = .ok (.goto 4, 3) := by decide +kernel
theorem dX11_hasKey_14 : decode cX11_hasKey 14 = .ok (.iconst 0, 1) := by decide +kernel
theorem dX11_hasKey_15 : decode cX11_hasKey 15 = .ok (.ireturn, 1) := by decide +kernel
def fX11_hasKey (k : ST) (a0 : Int64) (a1 : Int32) : Option (Bool × ST) := if ((j_lushr a0 a1) &&& 1) = 0 then some (false, k) else some (true, k)
set_option maxRecDepth 20000 in
theorem c_X11_hasKey (l : Launch) (g : GT) (T : TT) (a0 : Int64) (a1 : Int32) : CN l yX11_hasKey cX11_hasKey 3 (some .boolean) { frames := 0, cells := 0, slots := 0, locals := 0 } g T voB [.long a0, .int a1] (fun k => fX11_hasKey k a0 a1) := by
  refine cn_of (by decide) (Nat.le_of_ble_eq_true rfl) ?_
  intro p e s m args below meth c hC k
  have hC : HC p s m args meth c cX11_hasKey 3 RX11 (some .boolean) g := hC
  have hR : 0 ≤ ({ frames := 0, cells := 0, slots := 0, locals := 0 } : Room).frames ∧ 0 ≤ ({ frames := 0, cells := 0, slots := 0, locals := 0 } : Room).locals := ⟨Nat.le_refl _, Nat.le_refl _⟩
  show ZF p l e _ s m args below meth c g T voB 3 k 0 [(0, .long a0), (2, .int a1)] [] (fX11_hasKey k a0 a1)
  unfold fX11_hasKey
  refine zf_lload_n hC dX11_hasKey_0 rfl 0 rfl ?_
  refine zf_iload_n hC dX11_hasKey_1 rfl 1 rfl ?_
  refine zf_lushr hC dX11_hasKey_2 ?_
  refine zf_lconst hC (v := 1) dX11_hasKey_3 rfl ?_
  refine zf_land hC dX11_hasKey_4 ?_
  refine zf_lconst hC (v := 0) dX11_hasKey_5 rfl ?_
  refine zf_lcmp_eq hC (tgt := 14) dX11_hasKey_6 dX11_hasKey_7 (by decide) (fun h1 => ?_) (fun h1 => ?_)
  · refine zf_iconst hC (v := 0) dX11_hasKey_14 rfl ?_
    exact zf_zret hC rfl false rfl dX11_hasKey_15
  · refine zf_iconst hC (v := 1) dX11_hasKey_10 rfl ?_
    refine zf_goto hC (tgt := 15) dX11_hasKey_11 (by decide) ?_
    exact zf_zret hC rfl true rfl dX11_hasKey_15
/-! java/lang/Integer.bitCount -/
theorem dJ6_bitCount_0f7a4_0 : decode cJ6_bitCount_0f7a4 0 = .ok (.iload_n 0, 1) := by decide +kernel
theorem dJ6_bitCount_0f7a4_1 : decode cJ6_bitCount_0f7a4 1 = .ok (.iload_n 0, 1) := by decide +kernel
theorem dJ6_bitCount_0f7a4_2 : decode cJ6_bitCount_0f7a4 2 = .ok (.iconst 1, 1) := by decide +kernel
theorem dJ6_bitCount_0f7a4_3 : decode cJ6_bitCount_0f7a4 3 = .ok (.iushr, 1) := by decide +kernel
theorem dJ6_bitCount_0f7a4_4 : decode cJ6_bitCount_0f7a4 4 = .ok (.ldc_w 265, 3) := by decide +kernel
theorem dJ6_bitCount_0f7a4_7 : decode cJ6_bitCount_0f7a4 7 = .ok (.iand, 1) := by decide +kernel
theorem dJ6_bitCount_0f7a4_8 : decode cJ6_bitCount_0f7a4 8 = .ok (.isub, 1) := by decide +kernel
theorem dJ6_bitCount_0f7a4_9 : decode cJ6_bitCount_0f7a4 9 = .ok (.istore_n 0, 1) := by decide +kernel
theorem dJ6_bitCount_0f7a4_10 : decode cJ6_bitCount_0f7a4 10 = .ok (.iload_n 0, 1) := by decide +kernel
theorem dJ6_bitCount_0f7a4_11 : decode cJ6_bitCount_0f7a4 11 = .ok (.ldc_w 266, 3) := by decide +kernel
theorem dJ6_bitCount_0f7a4_14 : decode cJ6_bitCount_0f7a4 14 = .ok (.iand, 1) := by decide +kernel
theorem dJ6_bitCount_0f7a4_15 : decode cJ6_bitCount_0f7a4 15 = .ok (.iload_n 0, 1) := by decide +kernel
theorem dJ6_bitCount_0f7a4_16 : decode cJ6_bitCount_0f7a4 16 = .ok (.iconst 2, 1) := by decide +kernel
theorem dJ6_bitCount_0f7a4_17 : decode cJ6_bitCount_0f7a4 17 = .ok (.iushr, 1) := by decide +kernel
theorem dJ6_bitCount_0f7a4_18 : decode cJ6_bitCount_0f7a4 18 = .ok (.ldc_w 266, 3) := by decide +kernel
theorem dJ6_bitCount_0f7a4_21 : decode cJ6_bitCount_0f7a4 21 = .ok (.iand, 1) := by decide +kernel
theorem dJ6_bitCount_0f7a4_22 : decode cJ6_bitCount_0f7a4 22 = .ok (.iadd, 1) := by decide +kernel
theorem dJ6_bitCount_0f7a4_23 : decode cJ6_bitCount_0f7a4 23 = .ok (.istore_n 0, 1) := by decide +kernel
theorem dJ6_bitCount_0f7a4_24 : decode cJ6_bitCount_0f7a4 24 = .ok (.iload_n 0, 1) := by decide +kernel
theorem dJ6_bitCount_0f7a4_25 : decode cJ6_bitCount_0f7a4 25 = .ok (.iload_n 0, 1) := by decide +kernel
theorem dJ6_bitCount_0f7a4_26 : decode cJ6_bitCount_0f7a4 26 = .ok (.iconst 4, 1) := by decide +kernel
theorem dJ6_bitCount_0f7a4_27 : decode cJ6_bitCount_0f7a4 27 = .ok (.iushr, 1) := by decide +kernel
theorem dJ6_bitCount_0f7a4_28 : decode cJ6_bitCount_0f7a4 28 = .ok (.iadd, 1) := by decide +kernel
theorem dJ6_bitCount_0f7a4_29 : decode cJ6_bitCount_0f7a4 29 = .ok (.ldc_w 267, 3) := by decide +kernel
theorem dJ6_bitCount_0f7a4_32 : decode cJ6_bitCount_0f7a4 32 = .ok (.iand, 1) := by decide +kernel
theorem dJ6_bitCount_0f7a4_33 : decode cJ6_bitCount_0f7a4 33 = .ok (.istore_n 0, 1) := by decide +kernel
theorem dJ6_bitCount_0f7a4_34 : decode cJ6_bitCount_0f7a4 34 = .ok (.iload_n 0, 1) := by decide +kernel
theorem dJ6_bitCount_0f7a4_35 : decode cJ6_bitCount_0f7a4 35 = .ok (.iload_n 0, 1) := by decide +kernel
theorem dJ6_bitCount_0f7a4_36 : decode cJ6_bitCount_0f7a4 36 = .ok (.bipush 8, 2) := by decide +kernel
theorem dJ6_bitCount_0f7a4_38 : decode cJ6_bitCount_0f7a4 38 = .ok (.iushr, 1) := by decide +kernel
theorem dJ6_bitCount_0f7a4_39 : decode cJ6_bitCount_0f7a4 39 = .ok (.iadd, 1) := by decide +kernel
theorem dJ6_bitCount_0f7a4_40 : decode cJ6_bitCount_0f7a4 40 = .ok (.istore_n 0, 1) := by decide +kernel
theorem dJ6_bitCount_0f7a4_41 : decode cJ6_bitCount_0f7a4 41 = .ok (.iload_n 0, 1) := by decide +kernel
theorem dJ6_bitCount_0f7a4_42 : decode cJ6_bitCount_0f7a4 42 = .ok (.iload_n 0, 1) := by decide +kernel
theorem dJ6_bitCount_0f7a4_43 : decode cJ6_bitCount_0f7a4 43 = .ok (.bipush 16, 2) := by decide +kernel
theorem dJ6_bitCount_0f7a4_45 : decode cJ6_bitCount_0f7a4 45 = .ok (.iushr, 1) := by decide +kernel
theorem dJ6_bitCount_0f7a4_46 : decode cJ6_bitCount_0f7a4 46 = .ok (.iadd, 1) := by decide +kernel
theorem dJ6_bitCount_0f7a4_47 : decode cJ6_bitCount_0f7a4 47 = .ok (.istore_n 0, 1) := by decide +kernel
theorem dJ6_bitCount_0f7a4_48 : decode cJ6_bitCount_0f7a4 48 = .ok (.iload_n 0, 1) := by decide +kernel
theorem dJ6_bitCount_0f7a4_49 : decode cJ6_bitCount_0f7a4 49 = .ok (.bipush 63, 2) := by decide +kernel
theorem dJ6_bitCount_0f7a4_51 : decode cJ6_bitCount_0f7a4 51 = .ok (.iand, 1) := by decide +kernel
theorem dJ6_bitCount_0f7a4_52 : decode cJ6_bitCount_0f7a4 52 = .ok (.ireturn, 1) := by decide +kernel
def fJ6_bitCount_0f7a4 (k : ST) (a0 : Int32) : Option (Int32 × ST) := nm (a0 - ((j_ushr a0 1) &&& 1431655765)) fun x1 => nm ((x1 &&& 858993459) + ((j_ushr x1 2) &&& 858993459)) fun x2 => nm ((x2 + (j_ushr x2 4)) &&& 252645135) fun x3 => nm ((x3 + (j_ushr x3 8)) + (j_ushr (x3 + (j_ushr x3 8)) 16)) fun x4 => some (x4 &&& 63, k)
set_option maxRecDepth 20000 in
theorem c_J6_bitCount_0f7a4 (l : Launch) (g : GT) (T : TT) (a0 : Int32) : CN l yJ6_bitCount_0f7a4 cJ6_bitCount_0f7a4 1 (some .int) { frames := 0, cells := 0, slots := 0, locals := 0 } g T voI [.int a0] (fun k => fJ6_bitCount_0f7a4 k a0) := by
  refine cn_ofF (by decide +kernel) (Nat.le_of_ble_eq_true rfl) ?_
  intro p e s m args below meth c hC k
  have hC : HC p s m args meth c cJ6_bitCount_0f7a4 1 RJ6 (some .int) g := hC
  have hR : 0 ≤ ({ frames := 0, cells := 0, slots := 0, locals := 0 } : Room).frames ∧ 0 ≤ ({ frames := 0, cells := 0, slots := 0, locals := 0 } : Room).locals := ⟨Nat.le_refl _, Nat.le_refl _⟩
  show ZF p l e _ s m args below meth c g T voI 1 k 0 [(0, .int a0)] [] (fJ6_bitCount_0f7a4 k a0)
  unfold fJ6_bitCount_0f7a4
  refine zf_iload_n hC dJ6_bitCount_0f7a4_0 rfl 0 rfl ?_
  refine zf_iload_n hC dJ6_bitCount_0f7a4_1 rfl 0 rfl ?_
  refine zf_iconst hC (v := 1) dJ6_bitCount_0f7a4_2 rfl ?_
  refine zf_iushr hC dJ6_bitCount_0f7a4_3 ?_
  refine zf_ldcw hC wd_579 dJ6_bitCount_0f7a4_4 ?_
  refine zf_iand hC dJ6_bitCount_0f7a4_7 ?_
  refine zf_isub hC dJ6_bitCount_0f7a4_8 ?_
  refine zf_nmi (fun x1 => ?_)
  refine zf_istore_n hC (LV' := [(0, .int x1)]) dJ6_bitCount_0f7a4_9 rfl (by decide) rfl ?_
  refine zf_iload_n hC dJ6_bitCount_0f7a4_10 rfl 0 rfl ?_
  refine zf_ldcw hC wd_580 dJ6_bitCount_0f7a4_11 ?_
  refine zf_iand hC dJ6_bitCount_0f7a4_14 ?_
  refine zf_iload_n hC dJ6_bitCount_0f7a4_15 rfl 0 rfl ?_
  refine zf_iconst hC (v := 2) dJ6_bitCount_0f7a4_16 rfl ?_
  refine zf_iushr hC dJ6_bitCount_0f7a4_17 ?_
  refine zf_ldcw hC wd_580 dJ6_bitCount_0f7a4_18 ?_
  refine zf_iand hC dJ6_bitCount_0f7a4_21 ?_
  refine zf_iadd hC dJ6_bitCount_0f7a4_22 ?_
  refine zf_nmi (fun x2 => ?_)
  refine zf_istore_n hC (LV' := [(0, .int x2)]) dJ6_bitCount_0f7a4_23 rfl (by decide) rfl ?_
  refine zf_iload_n hC dJ6_bitCount_0f7a4_24 rfl 0 rfl ?_
  refine zf_iload_n hC dJ6_bitCount_0f7a4_25 rfl 0 rfl ?_
  refine zf_iconst hC (v := 4) dJ6_bitCount_0f7a4_26 rfl ?_
  refine zf_iushr hC dJ6_bitCount_0f7a4_27 ?_
  refine zf_iadd hC dJ6_bitCount_0f7a4_28 ?_
  refine zf_ldcw hC wd_581 dJ6_bitCount_0f7a4_29 ?_
  refine zf_iand hC dJ6_bitCount_0f7a4_32 ?_
  refine zf_nmi (fun x3 => ?_)
  refine zf_istore_n hC (LV' := [(0, .int x3)]) dJ6_bitCount_0f7a4_33 rfl (by decide) rfl ?_
  refine zf_iload_n hC dJ6_bitCount_0f7a4_34 rfl 0 rfl ?_
  refine zf_iload_n hC dJ6_bitCount_0f7a4_35 rfl 0 rfl ?_
  refine zf_bipush hC (v := 8) dJ6_bitCount_0f7a4_36 rfl ?_
  refine zf_iushr hC dJ6_bitCount_0f7a4_38 ?_
  refine zf_iadd hC dJ6_bitCount_0f7a4_39 ?_
  refine zf_istore_n hC (LV' := [(0, .int (x3 + (j_ushr x3 8)))]) dJ6_bitCount_0f7a4_40 rfl (by decide) rfl ?_
  refine zf_iload_n hC dJ6_bitCount_0f7a4_41 rfl 0 rfl ?_
  refine zf_iload_n hC dJ6_bitCount_0f7a4_42 rfl 0 rfl ?_
  refine zf_bipush hC (v := 16) dJ6_bitCount_0f7a4_43 rfl ?_
  refine zf_iushr hC dJ6_bitCount_0f7a4_45 ?_
  refine zf_iadd hC dJ6_bitCount_0f7a4_46 ?_
  refine zf_nmi (fun x4 => ?_)
  refine zf_istore_n hC (LV' := [(0, .int x4)]) dJ6_bitCount_0f7a4_47 rfl (by decide) rfl ?_
  refine zf_iload_n hC dJ6_bitCount_0f7a4_48 rfl 0 rfl ?_
  refine zf_bipush hC (v := 63) dJ6_bitCount_0f7a4_49 rfl ?_
  refine zf_iand hC dJ6_bitCount_0f7a4_51 ?_
  exact zf_iret hC rfl dJ6_bitCount_0f7a4_52
/-! LifeKeys.Field.nextSeed -/
theorem dX0_nextSeed_0 : decode cX0_nextSeed 0 = .ok (.lload_n 0, 1) := by decide +kernel
theorem dX0_nextSeed_1 : decode cX0_nextSeed 1 = .ok (.ldc2_w 34, 3) := by decide +kernel
theorem dX0_nextSeed_4 : decode cX0_nextSeed 4 = .ok (.lmul, 1) := by decide +kernel
theorem dX0_nextSeed_5 : decode cX0_nextSeed 5 = .ok (.ldc2_w 36, 3) := by decide +kernel
theorem dX0_nextSeed_8 : decode cX0_nextSeed 8 = .ok (.ladd, 1) := by decide +kernel
theorem dX0_nextSeed_9 : decode cX0_nextSeed 9 = .ok (.lreturn, 1) := by decide +kernel
def fX0_nextSeed (k : ST) (a0 : Int64) : Option (Int64 × ST) := some ((a0 * 6364136223846793005) + 1442695040888963407, k)
set_option maxRecDepth 20000 in
theorem c_X0_nextSeed (l : Launch) (g : GT) (T : TT) (a0 : Int64) : CN l yX0_nextSeed cX0_nextSeed 2 (some .long) { frames := 0, cells := 0, slots := 0, locals := 0 } g T voL [.long a0] (fun k => fX0_nextSeed k a0) := by
  refine cn_of (by decide) (Nat.le_of_ble_eq_true rfl) ?_
  intro p e s m args below meth c hC k
  have hC : HC p s m args meth c cX0_nextSeed 2 RX0 (some .long) g := hC
  have hR : 0 ≤ ({ frames := 0, cells := 0, slots := 0, locals := 0 } : Room).frames ∧ 0 ≤ ({ frames := 0, cells := 0, slots := 0, locals := 0 } : Room).locals := ⟨Nat.le_refl _, Nat.le_refl _⟩
  show ZF p l e _ s m args below meth c g T voL 2 k 0 [(0, .long a0)] [] (fX0_nextSeed k a0)
  unfold fX0_nextSeed
  refine zf_lload_n hC dX0_nextSeed_0 rfl 0 rfl ?_
  refine zf_ldc2 hC wd_593 dX0_nextSeed_1 ?_
  refine zf_lmul hC dX0_nextSeed_4 ?_
  refine zf_ldc2 hC wd_594 dX0_nextSeed_5 ?_
  refine zf_ladd hC dX0_nextSeed_8 ?_
  exact zf_lret hC rfl dX0_nextSeed_9
/-! LifeKeys.Field.coefficient -/
theorem dX0_coefficient_0 : decode cX0_coefficient 0 = .ok (.lload_n 0, 1) := by decide +kernel
theorem dX0_coefficient_1 : decode cX0_coefficient 1 = .ok (.bipush 33, 2) := by decide +kernel
theorem dX0_coefficient_3 : decode cX0_coefficient 3 = .ok (.lushr, 1) := by decide +kernel
theorem dX0_coefficient_4 : decode cX0_coefficient 4 = .ok (.ldc2_w 38, 3) := by decide +kernel
theorem dX0_coefficient_7 : decode cX0_coefficient 7 = .ok (.lrem, 1) := by decide +kernel
theorem dX0_coefficient_8 : decode cX0_coefficient 8 = .ok (.l2i, 1) := by decide +kernel
theorem dX0_coefficient_9 : decode cX0_coefficient 9 = .ok (.ireturn, 1) := by decide +kernel
def fX0_coefficient (k : ST) (a0 : Int64) : Option (Int32 × ST) := some (Int64.toInt32 (j_lrem (j_lushr a0 33) 1019), k)
set_option maxRecDepth 20000 in
theorem c_X0_coefficient (l : Launch) (g : GT) (T : TT) (a0 : Int64) : CN l yX0_coefficient cX0_coefficient 2 (some .int) { frames := 0, cells := 0, slots := 0, locals := 0 } g T voI [.long a0] (fun k => fX0_coefficient k a0) := by
  refine cn_of (by decide) (Nat.le_of_ble_eq_true rfl) ?_
  intro p e s m args below meth c hC k
  have hC : HC p s m args meth c cX0_coefficient 2 RX0 (some .int) g := hC
  have hR : 0 ≤ ({ frames := 0, cells := 0, slots := 0, locals := 0 } : Room).frames ∧ 0 ≤ ({ frames := 0, cells := 0, slots := 0, locals := 0 } : Room).locals := ⟨Nat.le_refl _, Nat.le_refl _⟩
  show ZF p l e _ s m args below meth c g T voI 2 k 0 [(0, .long a0)] [] (fX0_coefficient k a0)
  unfold fX0_coefficient
  refine zf_lload_n hC dX0_coefficient_0 rfl 0 rfl ?_
  refine zf_bipush hC (v := 33) dX0_coefficient_1 rfl ?_
  refine zf_lushr hC dX0_coefficient_3 ?_
  refine zf_ldc2 hC wd_598 dX0_coefficient_4 ?_
  refine zf_lrem hC dX0_coefficient_7 (by decide) ?_
  refine zf_l2i hC dX0_coefficient_8 ?_
  exact zf_iret hC rfl dX0_coefficient_9
/-! LifeKeys.hasBit -/
theorem dX11_hasBit_0 : decode cX11_hasBit 0 = .ok (.iload_n 0, 1) := by decide +kernel
theorem dX11_hasBit_1 : decode cX11_hasBit 1 = .ok (.iload_n 1, 1) := by decide +kernel
theorem dX11_hasBit_2 : decode cX11_hasBit 2 = .ok (.iushr, 1) := by decide +kernel
theorem dX11_hasBit_3 : decode cX11_hasBit 3 = .ok (.iconst 1, 1) := by decide +kernel
theorem dX11_hasBit_4 : decode cX11_hasBit 4 = .ok (.iand, 1) := by decide +kernel
theorem dX11_hasBit_5 : decode cX11_hasBit 5 = .ok (.ifCond .eq 7, 3) := by decide +kernel
theorem dX11_hasBit_8 : decode cX11_hasBit 8 = .ok (.iconst 1, 1) := by decide +kernel
theorem dX11_hasBit_9 : decode cX11_hasBit 9 = .ok (.goto 4, 3) := by decide +kernel
theorem dX11_hasBit_12 : decode cX11_hasBit 12 = .ok (.iconst 0, 1) := by decide +kernel
theorem dX11_hasBit_13 : decode cX11_hasBit 13 = .ok (.ireturn, 1) := by decide +kernel
def fX11_hasBit (k : ST) (a0 : Int32) (a1 : Int32) : Option (Bool × ST) := if ((j_ushr a0 a1) &&& 1) = 0 then some (false, k) else some (true, k)
set_option maxRecDepth 20000 in
theorem c_X11_hasBit (l : Launch) (g : GT) (T : TT) (a0 : Int32) (a1 : Int32) : CN l yX11_hasBit cX11_hasBit 2 (some .boolean) { frames := 0, cells := 0, slots := 0, locals := 0 } g T voB [.int a0, .int a1] (fun k => fX11_hasBit k a0 a1) := by
  refine cn_of (by decide) (Nat.le_of_ble_eq_true rfl) ?_
  intro p e s m args below meth c hC k
  have hC : HC p s m args meth c cX11_hasBit 2 RX11 (some .boolean) g := hC
  have hR : 0 ≤ ({ frames := 0, cells := 0, slots := 0, locals := 0 } : Room).frames ∧ 0 ≤ ({ frames := 0, cells := 0, slots := 0, locals := 0 } : Room).locals := ⟨Nat.le_refl _, Nat.le_refl _⟩
  show ZF p l e _ s m args below meth c g T voB 2 k 0 [(0, .int a0), (1, .int a1)] [] (fX11_hasBit k a0 a1)
  unfold fX11_hasBit
  refine zf_iload_n hC dX11_hasBit_0 rfl 0 rfl ?_
  refine zf_iload_n hC dX11_hasBit_1 rfl 1 rfl ?_
  refine zf_iushr hC dX11_hasBit_2 ?_
  refine zf_iconst hC (v := 1) dX11_hasBit_3 rfl ?_
  refine zf_iand hC dX11_hasBit_4 ?_
  refine zf_if_eq hC (tgt := 12) dX11_hasBit_5 (by decide) (fun h1 => ?_) (fun h1 => ?_)
  · refine zf_iconst hC (v := 0) dX11_hasBit_12 rfl ?_
    exact zf_zret hC rfl false rfl dX11_hasBit_13
  · refine zf_iconst hC (v := 1) dX11_hasBit_8 rfl ?_
    refine zf_goto hC (tgt := 13) dX11_hasBit_9 (by decide) ?_
    exact zf_zret hC rfl true rfl dX11_hasBit_13
/-! LifeKeys.Field.times -/
theorem dX0_times_0 : decode cX0_times 0 = .ok (.iload_n 0, 1) := by decide +kernel
theorem dX0_times_1 : decode cX0_times 1 = .ok (.iload_n 1, 1) := by decide +kernel
theorem dX0_times_2 : decode cX0_times 2 = .ok (.imul, 1) := by decide +kernel
theorem dX0_times_3 : decode cX0_times 3 = .ok (.sipush 1019, 3) := by decide +kernel
theorem dX0_times_6 : decode cX0_times 6 = .ok (.irem, 1) := by decide +kernel
theorem dX0_times_7 : decode cX0_times 7 = .ok (.ireturn, 1) := by decide +kernel
def fX0_times (k : ST) (a0 : Int32) (a1 : Int32) : Option (Int32 × ST) := some (j_rem (a0 * a1) 1019, k)
set_option maxRecDepth 20000 in
theorem c_X0_times (l : Launch) (g : GT) (T : TT) (a0 : Int32) (a1 : Int32) : CN l yX0_times cX0_times 2 (some .int) { frames := 0, cells := 0, slots := 0, locals := 0 } g T voI [.int a0, .int a1] (fun k => fX0_times k a0 a1) := by
  refine cn_of (by decide) (Nat.le_of_ble_eq_true rfl) ?_
  intro p e s m args below meth c hC k
  have hC : HC p s m args meth c cX0_times 2 RX0 (some .int) g := hC
  have hR : 0 ≤ ({ frames := 0, cells := 0, slots := 0, locals := 0 } : Room).frames ∧ 0 ≤ ({ frames := 0, cells := 0, slots := 0, locals := 0 } : Room).locals := ⟨Nat.le_refl _, Nat.le_refl _⟩
  show ZF p l e _ s m args below meth c g T voI 2 k 0 [(0, .int a0), (1, .int a1)] [] (fX0_times k a0 a1)
  unfold fX0_times
  refine zf_iload_n hC dX0_times_0 rfl 0 rfl ?_
  refine zf_iload_n hC dX0_times_1 rfl 1 rfl ?_
  refine zf_imul hC dX0_times_2 ?_
  refine zf_sipush hC (v := 1019) dX0_times_3 rfl ?_
  refine zf_irem hC dX0_times_6 (by decide) ?_
  exact zf_iret hC rfl dX0_times_7
/-! LifeKeys.Field.sum -/
theorem dX0_sum_0 : decode cX0_sum 0 = .ok (.iload_n 0, 1) := by decide +kernel
theorem dX0_sum_1 : decode cX0_sum 1 = .ok (.iload_n 1, 1) := by decide +kernel
theorem dX0_sum_2 : decode cX0_sum 2 = .ok (.iadd, 1) := by decide +kernel
theorem dX0_sum_3 : decode cX0_sum 3 = .ok (.sipush 1019, 3) := by decide +kernel
theorem dX0_sum_6 : decode cX0_sum 6 = .ok (.irem, 1) := by decide +kernel
theorem dX0_sum_7 : decode cX0_sum 7 = .ok (.ireturn, 1) := by decide +kernel
def fX0_sum (k : ST) (a0 : Int32) (a1 : Int32) : Option (Int32 × ST) := some (j_rem (a0 + a1) 1019, k)
set_option maxRecDepth 20000 in
theorem c_X0_sum (l : Launch) (g : GT) (T : TT) (a0 : Int32) (a1 : Int32) : CN l yX0_sum cX0_sum 2 (some .int) { frames := 0, cells := 0, slots := 0, locals := 0 } g T voI [.int a0, .int a1] (fun k => fX0_sum k a0 a1) := by
  refine cn_of (by decide) (Nat.le_of_ble_eq_true rfl) ?_
  intro p e s m args below meth c hC k
  have hC : HC p s m args meth c cX0_sum 2 RX0 (some .int) g := hC
  have hR : 0 ≤ ({ frames := 0, cells := 0, slots := 0, locals := 0 } : Room).frames ∧ 0 ≤ ({ frames := 0, cells := 0, slots := 0, locals := 0 } : Room).locals := ⟨Nat.le_refl _, Nat.le_refl _⟩
  show ZF p l e _ s m args below meth c g T voI 2 k 0 [(0, .int a0), (1, .int a1)] [] (fX0_sum k a0 a1)
  unfold fX0_sum
  refine zf_iload_n hC dX0_sum_0 rfl 0 rfl ?_
  refine zf_iload_n hC dX0_sum_1 rfl 1 rfl ?_
  refine zf_iadd hC dX0_sum_2 ?_
  refine zf_sipush hC (v := 1019) dX0_sum_3 rfl ?_
  refine zf_irem hC dX0_sum_6 (by decide) ?_
  exact zf_iret hC rfl dX0_sum_7
/-! LifeKeys.Field.product -/
theorem dX0_product_0 : decode cX0_product 0 = .ok (.iload_n 0, 1) := by decide +kernel
theorem dX0_product_1 : decode cX0_product 1 = .ok (.iload_n 1, 1) := by decide +kernel
theorem dX0_product_2 : decode cX0_product 2 = .ok (.imul, 1) := by decide +kernel
theorem dX0_product_3 : decode cX0_product 3 = .ok (.sipush 2039, 3) := by decide +kernel
theorem dX0_product_6 : decode cX0_product 6 = .ok (.irem, 1) := by decide +kernel
theorem dX0_product_7 : decode cX0_product 7 = .ok (.ireturn, 1) := by decide +kernel
def fX0_product (k : ST) (a0 : Int32) (a1 : Int32) : Option (Int32 × ST) := some (j_rem (a0 * a1) 2039, k)
set_option maxRecDepth 20000 in
theorem c_X0_product (l : Launch) (g : GT) (T : TT) (a0 : Int32) (a1 : Int32) : CN l yX0_product cX0_product 2 (some .int) { frames := 0, cells := 0, slots := 0, locals := 0 } g T voI [.int a0, .int a1] (fun k => fX0_product k a0 a1) := by
  refine cn_of (by decide) (Nat.le_of_ble_eq_true rfl) ?_
  intro p e s m args below meth c hC k
  have hC : HC p s m args meth c cX0_product 2 RX0 (some .int) g := hC
  have hR : 0 ≤ ({ frames := 0, cells := 0, slots := 0, locals := 0 } : Room).frames ∧ 0 ≤ ({ frames := 0, cells := 0, slots := 0, locals := 0 } : Room).locals := ⟨Nat.le_refl _, Nat.le_refl _⟩
  show ZF p l e _ s m args below meth c g T voI 2 k 0 [(0, .int a0), (1, .int a1)] [] (fX0_product k a0 a1)
  unfold fX0_product
  refine zf_iload_n hC dX0_product_0 rfl 0 rfl ?_
  refine zf_iload_n hC dX0_product_1 rfl 1 rfl ?_
  refine zf_imul hC dX0_product_2 ?_
  refine zf_sipush hC (v := 2039) dX0_product_3 rfl ?_
  refine zf_irem hC dX0_product_6 (by decide) ?_
  exact zf_iret hC rfl dX0_product_7
/-! LifeKeys.Field.raise -/
theorem dX0_raise_0 : decode cX0_raise 0 = .ok (.iconst 1, 1) := by decide +kernel
theorem dX0_raise_1 : decode cX0_raise 1 = .ok (.istore_n 2, 1) := by decide +kernel
theorem dX0_raise_2 : decode cX0_raise 2 = .ok (.iload_n 0, 1) := by decide +kernel
theorem dX0_raise_3 : decode cX0_raise 3 = .ok (.istore_n 3, 1) := by decide +kernel
theorem dX0_raise_4 : decode cX0_raise 4 = .ok (.iload_n 1, 1) := by decide +kernel
theorem dX0_raise_5 : decode cX0_raise 5 = .ok (.istore 4, 2) := by decide +kernel
theorem dX0_raise_7 : decode cX0_raise 7 = .ok (.iload 4, 2) := by decide +kernel
theorem dX0_raise_9 : decode cX0_raise 9 = .ok (.ifCond .le 31, 3) := by decide +kernel
theorem dX0_raise_12 : decode cX0_raise 12 = .ok (.iload 4, 2) := by decide +kernel
theorem dX0_raise_14 : decode cX0_raise 14 = .ok (.iconst 1, 1) := by decide +kernel
theorem dX0_raise_15 : decode cX0_raise 15 = .ok (.iand, 1) := by decide +kernel
theorem dX0_raise_16 : decode cX0_raise 16 = .ok (.ifCond .eq 9, 3) := by decide +kernel
theorem dX0_raise_19 : decode cX0_raise 19 = .ok (.iload_n 2, 1) := by decide +kernel
theorem dX0_raise_20 : decode cX0_raise 20 = .ok (.iload_n 3, 1) := by decide +kernel
theorem dX0_raise_21 : decode cX0_raise 21 = .ok (.invokestatic 11, 3) := by decide +kernel
theorem dX0_raise_24 : decode cX0_raise 24 = .ok (.istore_n 2, 1) := by decide +kernel
theorem dX0_raise_25 : decode cX0_raise 25 = .ok (.iload_n 3, 1) := by decide +kernel
theorem dX0_raise_26 : decode cX0_raise 26 = .ok (.iload_n 3, 1) := by decide +kernel
theorem dX0_raise_27 : decode cX0_raise 27 = .ok (.invokestatic 11, 3) := by decide +kernel
theorem dX0_raise_30 : decode cX0_raise 30 = .ok (.istore_n 3, 1) := by decide +kernel
theorem dX0_raise_31 : decode cX0_raise 31 = .ok (.iload 4, 2) := by decide +kernel
theorem dX0_raise_33 : decode cX0_raise 33 = .ok (.iconst 1, 1) := by decide +kernel
theorem dX0_raise_34 : decode cX0_raise 34 = .ok (.ishr, 1) := by decide +kernel
theorem dX0_raise_35 : decode cX0_raise 35 = .ok (.istore 4, 2) := by decide +kernel
theorem dX0_raise_37 : decode cX0_raise 37 = .ok (.goto (-30), 3) := by decide +kernel
theorem dX0_raise_40 : decode cX0_raise 40 = .ok (.iload_n 2, 1) := by decide +kernel
theorem dX0_raise_41 : decode cX0_raise 41 = .ok (.ireturn, 1) := by decide +kernel
def lpX0_raise_7 (v0 : Int32) (v1 : Int32) : Nat → Int32 → Int32 → Int32 → ST → (Int32 → Int32 → Int32 → ST → Option (Int32 × ST)) → Option (Int32 × ST)
  | 0, _, _, _, _, _ => none
  | n + 1, v2, v3, v4, k, cont => if v4 ≤ 0 then cont v2 v3 v4 k else if (v4 &&& 1) = 0 then ob (fX0_product k v3 v3) fun r3 k4 => lpX0_raise_7 v0 v1 n v2 r3 (j_shr v4 1) k4 cont else ob (fX0_product k v2 v3) fun r6 k7 => ob (fX0_product k7 v3 v3) fun r9 k10 => lpX0_raise_7 v0 v1 n r6 r9 (j_shr v4 1) k10 cont
set_option maxRecDepth 20000 in
theorem zlpX0_raise_7 {p : Program} {l : Launch} {e : Env} {R : Room} {s : State} {m : MethodId} {args : Array Value} {below : List Frame} {meth : Method} {c : Code} {g : GT} {T : TT} (hC : HC p s m args meth c cX0_raise 5 RX0 (some .int) g) (hR : 1 ≤ R.frames ∧ 21 ≤ R.locals) (v0 : Int32) (v1 : Int32) {cont : Int32 → Int32 → Int32 → ST → Option (Int32 × ST)} (hk : ∀ (v2 : Int32) (v3 : Int32) (v4 : Int32) (k : ST), ZF p l e R s m args below meth c g T voI 5 k 40 [(0, .int v0), (1, .int v1), (2, .int v2), (3, .int v3), (4, .int v4)] [] (cont v2 v3 v4 k)) : ∀ (n : Nat) (v2 : Int32) (v3 : Int32) (v4 : Int32) (k : ST), ZF p l e R s m args below meth c g T voI 5 k 7 [(0, .int v0), (1, .int v1), (2, .int v2), (3, .int v3), (4, .int v4)] [] (lpX0_raise_7 v0 v1 n v2 v3 v4 k cont) := by
  intro n
  induction n with
  | zero => intros; exact zf_none
  | succ n ih =>
    intro v2 v3 v4 k
    rw [lpX0_raise_7]
    refine zf_iload hC dX0_raise_7 4 rfl ?_
    refine zf_if_le hC (tgt := 40) dX0_raise_9 (by decide) (fun h1 => ?_) (fun h1 => ?_)
    · refine zf_lv (LV' := [(0, .int v0), (1, .int v1), (2, .int v2), (3, .int v3), (4, .int v4)]) [0, 1, 2, 3, 4] rfl ?_
      exact hk v2 v3 v4 k
    · refine zf_iload hC dX0_raise_12 4 rfl ?_
      refine zf_iconst hC (v := 1) dX0_raise_14 rfl ?_
      refine zf_iand hC dX0_raise_15 ?_
      refine zf_if_eq hC (tgt := 25) dX0_raise_16 (by decide) (fun h2 => ?_) (fun h2 => ?_)
      · refine zf_iload_n hC dX0_raise_25 rfl 3 rfl ?_
        refine zf_iload_n hC dX0_raise_26 rfl 3 rfl ?_
        refine zf_callS hC (c_X0_product l g T v3 v3) mt_X0_product wd_641 wd_640 rfl (rm_le hR rfl) rfl rfl (rest := []) rfl (Nat.le_of_ble_eq_true rfl) dX0_raise_27 (fun r3 k4 h5 => ?_)
        refine zf_istore_n hC (LV' := [(3, .int r3), (0, .int v0), (1, .int v1), (2, .int v2), (4, .int v4)]) dX0_raise_30 rfl (by decide) rfl ?_
        refine zf_iload hC dX0_raise_31 4 rfl ?_
        refine zf_iconst hC (v := 1) dX0_raise_33 rfl ?_
        refine zf_ishr hC dX0_raise_34 ?_
        refine zf_istore hC (LV' := [(4, .int (j_shr v4 1)), (3, .int r3), (0, .int v0), (1, .int v1), (2, .int v2)]) dX0_raise_35 (by decide) rfl ?_
        refine zf_goto hC (tgt := 7) dX0_raise_37 (by decide) ?_
        refine zf_lv (LV' := [(0, .int v0), (1, .int v1), (2, .int v2), (3, .int r3), (4, .int (j_shr v4 1))]) [2, 3, 4, 1, 0] rfl ?_
        exact ih v2 r3 (j_shr v4 1) k4
      · refine zf_iload_n hC dX0_raise_19 rfl 2 rfl ?_
        refine zf_iload_n hC dX0_raise_20 rfl 3 rfl ?_
        refine zf_callS hC (c_X0_product l g T v2 v3) mt_X0_product wd_641 wd_640 rfl (rm_le hR rfl) rfl rfl (rest := []) rfl (Nat.le_of_ble_eq_true rfl) dX0_raise_21 (fun r6 k7 h8 => ?_)
        refine zf_istore_n hC (LV' := [(2, .int r6), (0, .int v0), (1, .int v1), (3, .int v3), (4, .int v4)]) dX0_raise_24 rfl (by decide) rfl ?_
        refine zf_iload_n hC dX0_raise_25 rfl 3 rfl ?_
        refine zf_iload_n hC dX0_raise_26 rfl 3 rfl ?_
        refine zf_callS hC (c_X0_product l g T v3 v3) mt_X0_product wd_641 wd_640 rfl (rm_le hR rfl) rfl rfl (rest := []) rfl (Nat.le_of_ble_eq_true rfl) dX0_raise_27 (fun r9 k10 h11 => ?_)
        refine zf_istore_n hC (LV' := [(3, .int r9), (2, .int r6), (0, .int v0), (1, .int v1), (4, .int v4)]) dX0_raise_30 rfl (by decide) rfl ?_
        refine zf_iload hC dX0_raise_31 4 rfl ?_
        refine zf_iconst hC (v := 1) dX0_raise_33 rfl ?_
        refine zf_ishr hC dX0_raise_34 ?_
        refine zf_istore hC (LV' := [(4, .int (j_shr v4 1)), (3, .int r9), (2, .int r6), (0, .int v0), (1, .int v1)]) dX0_raise_35 (by decide) rfl ?_
        refine zf_goto hC (tgt := 7) dX0_raise_37 (by decide) ?_
        refine zf_lv (LV' := [(0, .int v0), (1, .int v1), (2, .int r6), (3, .int r9), (4, .int (j_shr v4 1))]) [3, 4, 2, 1, 0] rfl ?_
        exact ih r6 r9 (j_shr v4 1) k10
def fX0_raise (k : ST) (a0 : Int32) (a1 : Int32) : Option (Int32 × ST) := lpX0_raise_7 a0 a1 FU 1 a0 a1 k fun y12 y13 y14 k15 => some (y12, k15)
set_option maxRecDepth 20000 in
theorem c_X0_raise (l : Launch) (g : GT) (T : TT) (a0 : Int32) (a1 : Int32) : CN l yX0_raise cX0_raise 5 (some .int) { frames := 1, cells := 0, slots := 0, locals := 21 } g T voI [.int a0, .int a1] (fun k => fX0_raise k a0 a1) := by
  refine cn_of (by decide) (Nat.le_of_ble_eq_true rfl) ?_
  intro p e s m args below meth c hC k
  have hC : HC p s m args meth c cX0_raise 5 RX0 (some .int) g := hC
  have hR : 1 ≤ ({ frames := 1, cells := 0, slots := 0, locals := 21 } : Room).frames ∧ 21 ≤ ({ frames := 1, cells := 0, slots := 0, locals := 21 } : Room).locals := ⟨Nat.le_refl _, Nat.le_refl _⟩
  show ZF p l e _ s m args below meth c g T voI 5 k 0 [(0, .int a0), (1, .int a1)] [] (fX0_raise k a0 a1)
  unfold fX0_raise
  refine zf_iconst hC (v := 1) dX0_raise_0 rfl ?_
  refine zf_istore_n hC (LV' := [(2, .int 1), (0, .int a0), (1, .int a1)]) dX0_raise_1 rfl (by decide) rfl ?_
  refine zf_iload_n hC dX0_raise_2 rfl 1 rfl ?_
  refine zf_istore_n hC (LV' := [(3, .int a0), (2, .int 1), (0, .int a0), (1, .int a1)]) dX0_raise_3 rfl (by decide) rfl ?_
  refine zf_iload_n hC dX0_raise_4 rfl 3 rfl ?_
  refine zf_istore hC (LV' := [(4, .int a1), (3, .int a0), (2, .int 1), (0, .int a0), (1, .int a1)]) dX0_raise_5 (by decide) rfl ?_
  refine zf_lv (LV' := [(0, .int a0), (1, .int a1), (2, .int 1), (3, .int a0), (4, .int a1)]) [3, 4, 2, 1, 0] rfl ?_
  refine zlpX0_raise_7 hC hR a0 a1 (fun y12 y13 y14 k15 => ?_) FU 1 a0 a1 k
  refine zf_iload_n hC dX0_raise_40 rfl 2 rfl ?_
  exact zf_iret hC rfl dX0_raise_41
/-! LifeKeys.Field.powerOf4 -/
theorem dX0_powerOf4_0 : decode cX0_powerOf4 0 = .ok (.iconst 4, 1) := by decide +kernel
theorem dX0_powerOf4_1 : decode cX0_powerOf4 1 = .ok (.iload_n 0, 1) := by decide +kernel
theorem dX0_powerOf4_2 : decode cX0_powerOf4 2 = .ok (.invokestatic 15, 3) := by decide +kernel
theorem dX0_powerOf4_5 : decode cX0_powerOf4 5 = .ok (.ireturn, 1) := by decide +kernel
def fX0_powerOf4 (k : ST) (a0 : Int32) : Option (Int32 × ST) := ob (fX0_raise k 4 a0) fun r1 k2 => some (r1, k2)
set_option maxRecDepth 20000 in
theorem c_X0_powerOf4 (l : Launch) (g : GT) (T : TT) (a0 : Int32) : CN l yX0_powerOf4 cX0_powerOf4 1 (some .int) { frames := 2, cells := 0, slots := 0, locals := 45 } g T voI [.int a0] (fun k => fX0_powerOf4 k a0) := by
  refine cn_of (by decide) (Nat.le_of_ble_eq_true rfl) ?_
  intro p e s m args below meth c hC k
  have hC : HC p s m args meth c cX0_powerOf4 1 RX0 (some .int) g := hC
  have hR : 2 ≤ ({ frames := 2, cells := 0, slots := 0, locals := 45 } : Room).frames ∧ 45 ≤ ({ frames := 2, cells := 0, slots := 0, locals := 45 } : Room).locals := ⟨Nat.le_refl _, Nat.le_refl _⟩
  show ZF p l e _ s m args below meth c g T voI 1 k 0 [(0, .int a0)] [] (fX0_powerOf4 k a0)
  unfold fX0_powerOf4
  refine zf_iconst hC (v := 4) dX0_powerOf4_0 rfl ?_
  refine zf_iload_n hC dX0_powerOf4_1 rfl 0 rfl ?_
  refine zf_callS hC (c_X0_raise l g T 4 a0) mt_X0_raise wd_638 wd_637 rfl (rm_le hR rfl) rfl rfl (rest := []) rfl (Nat.le_of_ble_eq_true rfl) dX0_powerOf4_2 (fun r1 k2 h3 => ?_)
  exact zf_iret hC rfl dX0_powerOf4_5
/-! LifeKeys.Field.isNumber -/
theorem dX0_isNumber_0 : decode cX0_isNumber 0 = .ok (.iload_n 0, 1) := by decide +kernel
theorem dX0_isNumber_1 : decode cX0_isNumber 1 = .ok (.ifCond .lt 14, 3) := by decide +kernel
theorem dX0_isNumber_4 : decode cX0_isNumber 4 = .ok (.iload_n 0, 1) := by decide +kernel
theorem dX0_isNumber_5 : decode cX0_isNumber 5 = .ok (.sipush 1019, 3) := by decide +kernel
theorem dX0_isNumber_8 : decode cX0_isNumber 8 = .ok (.if_icmp .ge 7, 3) := by decide +kernel
theorem dX0_isNumber_11 : decode cX0_isNumber 11 = .ok (.iconst 1, 1) := by decide +kernel
theorem dX0_isNumber_12 : decode cX0_isNumber 12 = .ok (.goto 4, 3) := by decide +kernel
theorem dX0_isNumber_15 : decode cX0_isNumber 15 = .ok (.iconst 0, 1) := by decide +kernel
theorem dX0_isNumber_16 : decode cX0_isNumber 16 = .ok (.ireturn, 1) := by decide +kernel
def fX0_isNumber (k : ST) (a0 : Int32) : Option (Bool × ST) := if a0 < 0 then some (false, k) else if 1019 ≤ a0 then some (false, k) else some (true, k)
set_option maxRecDepth 20000 in
theorem c_X0_isNumber (l : Launch) (g : GT) (T : TT) (a0 : Int32) : CN l yX0_isNumber cX0_isNumber 1 (some .boolean) { frames := 0, cells := 0, slots := 0, locals := 0 } g T voB [.int a0] (fun k => fX0_isNumber k a0) := by
  refine cn_of (by decide) (Nat.le_of_ble_eq_true rfl) ?_
  intro p e s m args below meth c hC k
  have hC : HC p s m args meth c cX0_isNumber 1 RX0 (some .boolean) g := hC
  have hR : 0 ≤ ({ frames := 0, cells := 0, slots := 0, locals := 0 } : Room).frames ∧ 0 ≤ ({ frames := 0, cells := 0, slots := 0, locals := 0 } : Room).locals := ⟨Nat.le_refl _, Nat.le_refl _⟩
  show ZF p l e _ s m args below meth c g T voB 1 k 0 [(0, .int a0)] [] (fX0_isNumber k a0)
  unfold fX0_isNumber
  refine zf_iload_n hC dX0_isNumber_0 rfl 0 rfl ?_
  refine zf_if_lt hC (tgt := 15) dX0_isNumber_1 (by decide) (fun h1 => ?_) (fun h1 => ?_)
  · refine zf_iconst hC (v := 0) dX0_isNumber_15 rfl ?_
    exact zf_zret hC rfl false rfl dX0_isNumber_16
  · refine zf_iload_n hC dX0_isNumber_4 rfl 0 rfl ?_
    refine zf_sipush hC (v := 1019) dX0_isNumber_5 rfl ?_
    refine zf_icmp_ge hC (tgt := 15) dX0_isNumber_8 (by decide) (fun h2 => ?_) (fun h2 => ?_)
    · refine zf_iconst hC (v := 0) dX0_isNumber_15 rfl ?_
      exact zf_zret hC rfl false rfl dX0_isNumber_16
    · refine zf_iconst hC (v := 1) dX0_isNumber_11 rfl ?_
      refine zf_goto hC (tgt := 16) dX0_isNumber_12 (by decide) ?_
      exact zf_zret hC rfl true rfl dX0_isNumber_16
/-! java/lang/Math.floorMod -/
theorem dJ9_floorMod_7cf53_0 : decode cJ9_floorMod_7cf53 0 = .ok (.iload_n 0, 1) := by decide +kernel
theorem dJ9_floorMod_7cf53_1 : decode cJ9_floorMod_7cf53 1 = .ok (.iload_n 1, 1) := by decide +kernel
theorem dJ9_floorMod_7cf53_2 : decode cJ9_floorMod_7cf53 2 = .ok (.irem, 1) := by decide +kernel
theorem dJ9_floorMod_7cf53_3 : decode cJ9_floorMod_7cf53 3 = .ok (.istore_n 2, 1) := by decide +kernel
theorem dJ9_floorMod_7cf53_4 : decode cJ9_floorMod_7cf53 4 = .ok (.iload_n 0, 1) := by decide +kernel
theorem dJ9_floorMod_7cf53_5 : decode cJ9_floorMod_7cf53 5 = .ok (.iload_n 1, 1) := by decide +kernel
theorem dJ9_floorMod_7cf53_6 : decode cJ9_floorMod_7cf53 6 = .ok (.ixor, 1) := by decide +kernel
theorem dJ9_floorMod_7cf53_7 : decode cJ9_floorMod_7cf53 7 = .ok (.ifCond .ge 11, 3) := by decide +kernel
theorem dJ9_floorMod_7cf53_10 : decode cJ9_floorMod_7cf53 10 = .ok (.iload_n 2, 1) := by decide +kernel
theorem dJ9_floorMod_7cf53_11 : decode cJ9_floorMod_7cf53 11 = .ok (.ifCond .eq 7, 3) := by decide +kernel
theorem dJ9_floorMod_7cf53_14 : decode cJ9_floorMod_7cf53 14 = .ok (.iload_n 2, 1) := by decide +kernel
theorem dJ9_floorMod_7cf53_15 : decode cJ9_floorMod_7cf53 15 = .ok (.iload_n 1, 1) := by decide +kernel
theorem dJ9_floorMod_7cf53_16 : decode cJ9_floorMod_7cf53 16 = .ok (.iadd, 1) := by decide +kernel
theorem dJ9_floorMod_7cf53_17 : decode cJ9_floorMod_7cf53 17 = .ok (.ireturn, 1) := by decide +kernel
theorem dJ9_floorMod_7cf53_18 : decode cJ9_floorMod_7cf53 18 = .ok (.iload_n 2, 1) := by decide +kernel
theorem dJ9_floorMod_7cf53_19 : decode cJ9_floorMod_7cf53 19 = .ok (.ireturn, 1) := by decide +kernel
def fJ9_floorMod_7cf53 (k : ST) (a0 : Int32) (a1 : Int32) : Option (Int32 × ST) := ck (!decide (a1 = 0)) (if 0 ≤ (a0 ^^^ a1) then some (j_rem a0 a1, k) else if (j_rem a0 a1) = 0 then some (j_rem a0 a1, k) else some ((j_rem a0 a1) + a1, k))
set_option maxRecDepth 20000 in
theorem c_J9_floorMod_7cf53 (l : Launch) (g : GT) (T : TT) (a0 : Int32) (a1 : Int32) : CN l yJ9_floorMod_7cf53 cJ9_floorMod_7cf53 3 (some .int) { frames := 0, cells := 0, slots := 0, locals := 0 } g T voI [.int a0, .int a1] (fun k => fJ9_floorMod_7cf53 k a0 a1) := by
  refine cn_ofF (by decide +kernel) (Nat.le_of_ble_eq_true rfl) ?_
  intro p e s m args below meth c hC k
  have hC : HC p s m args meth c cJ9_floorMod_7cf53 3 RJ9 (some .int) g := hC
  have hR : 0 ≤ ({ frames := 0, cells := 0, slots := 0, locals := 0 } : Room).frames ∧ 0 ≤ ({ frames := 0, cells := 0, slots := 0, locals := 0 } : Room).locals := ⟨Nat.le_refl _, Nat.le_refl _⟩
  show ZF p l e _ s m args below meth c g T voI 3 k 0 [(0, .int a0), (1, .int a1)] [] (fJ9_floorMod_7cf53 k a0 a1)
  unfold fJ9_floorMod_7cf53
  refine zf_iload_n hC dJ9_floorMod_7cf53_0 rfl 0 rfl ?_
  refine zf_iload_n hC dJ9_floorMod_7cf53_1 rfl 1 rfl ?_
  refine zf_ck (fun h1 => ?_)
  refine zf_irem hC dJ9_floorMod_7cf53_2 (ne_of_ck h1) ?_
  refine zf_istore_n hC (LV' := [(2, .int (j_rem a0 a1)), (0, .int a0), (1, .int a1)]) dJ9_floorMod_7cf53_3 rfl (by decide) rfl ?_
  refine zf_iload_n hC dJ9_floorMod_7cf53_4 rfl 1 rfl ?_
  refine zf_iload_n hC dJ9_floorMod_7cf53_5 rfl 2 rfl ?_
  refine zf_ixor hC dJ9_floorMod_7cf53_6 ?_
  refine zf_if_ge hC (tgt := 18) dJ9_floorMod_7cf53_7 (by decide) (fun h2 => ?_) (fun h2 => ?_)
  · refine zf_iload_n hC dJ9_floorMod_7cf53_18 rfl 0 rfl ?_
    exact zf_iret hC rfl dJ9_floorMod_7cf53_19
  · refine zf_iload_n hC dJ9_floorMod_7cf53_10 rfl 0 rfl ?_
    refine zf_if_eq hC (tgt := 18) dJ9_floorMod_7cf53_11 (by decide) (fun h3 => ?_) (fun h3 => ?_)
    · refine zf_iload_n hC dJ9_floorMod_7cf53_18 rfl 0 rfl ?_
      exact zf_iret hC rfl dJ9_floorMod_7cf53_19
    · refine zf_iload_n hC dJ9_floorMod_7cf53_14 rfl 0 rfl ?_
      refine zf_iload_n hC dJ9_floorMod_7cf53_15 rfl 2 rfl ?_
      refine zf_iadd hC dJ9_floorMod_7cf53_16 ?_
      exact zf_iret hC rfl dJ9_floorMod_7cf53_17
/-! LifeKeys.Field.inverse -/
theorem dX0_inverse_0 : decode cX0_inverse 0 = .ok (.iconst 1, 1) := by decide +kernel
theorem dX0_inverse_1 : decode cX0_inverse 1 = .ok (.istore_n 1, 1) := by decide +kernel
theorem dX0_inverse_2 : decode cX0_inverse 2 = .ok (.iload_n 0, 1) := by decide +kernel
theorem dX0_inverse_3 : decode cX0_inverse 3 = .ok (.istore_n 2, 1) := by decide +kernel
theorem dX0_inverse_4 : decode cX0_inverse 4 = .ok (.sipush 1017, 3) := by decide +kernel
theorem dX0_inverse_7 : decode cX0_inverse 7 = .ok (.istore_n 3, 1) := by decide +kernel
theorem dX0_inverse_8 : decode cX0_inverse 8 = .ok (.iload_n 3, 1) := by decide +kernel
theorem dX0_inverse_9 : decode cX0_inverse 9 = .ok (.ifCond .le 28, 3) := by decide +kernel
theorem dX0_inverse_12 : decode cX0_inverse 12 = .ok (.iload_n 3, 1) := by decide +kernel
theorem dX0_inverse_13 : decode cX0_inverse 13 = .ok (.iconst 1, 1) := by decide +kernel
theorem dX0_inverse_14 : decode cX0_inverse 14 = .ok (.iand, 1) := by decide +kernel
theorem dX0_inverse_15 : decode cX0_inverse 15 = .ok (.ifCond .eq 9, 3) := by decide +kernel
theorem dX0_inverse_18 : decode cX0_inverse 18 = .ok (.iload_n 1, 1) := by decide +kernel
theorem dX0_inverse_19 : decode cX0_inverse 19 = .ok (.iload_n 2, 1) := by decide +kernel
theorem dX0_inverse_20 : decode cX0_inverse 20 = .ok (.invokestatic 18, 3) := by decide +kernel
theorem dX0_inverse_23 : decode cX0_inverse 23 = .ok (.istore_n 1, 1) := by decide +kernel
theorem dX0_inverse_24 : decode cX0_inverse 24 = .ok (.iload_n 2, 1) := by decide +kernel
theorem dX0_inverse_25 : decode cX0_inverse 25 = .ok (.iload_n 2, 1) := by decide +kernel
theorem dX0_inverse_26 : decode cX0_inverse 26 = .ok (.invokestatic 18, 3) := by decide +kernel
theorem dX0_inverse_29 : decode cX0_inverse 29 = .ok (.istore_n 2, 1) := by decide +kernel
theorem dX0_inverse_30 : decode cX0_inverse 30 = .ok (.iload_n 3, 1) := by decide +kernel
theorem dX0_inverse_31 : decode cX0_inverse 31 = .ok (.iconst 1, 1) := by decide +kernel
theorem dX0_inverse_32 : decode cX0_inverse 32 = .ok (.ishr, 1) := by decide +kernel
theorem dX0_inverse_33 : decode cX0_inverse 33 = .ok (.istore_n 3, 1) := by decide +kernel
theorem dX0_inverse_34 : decode cX0_inverse 34 = .ok (.goto (-26), 3) := by decide +kernel
theorem dX0_inverse_37 : decode cX0_inverse 37 = .ok (.iload_n 1, 1) := by decide +kernel
theorem dX0_inverse_38 : decode cX0_inverse 38 = .ok (.ireturn, 1) := by decide +kernel
def lpX0_inverse_8 (v0 : Int32) : Nat → Int32 → Int32 → Int32 → ST → (Int32 → Int32 → Int32 → ST → Option (Int32 × ST)) → Option (Int32 × ST)
  | 0, _, _, _, _, _ => none
  | n + 1, v1, v2, v3, k, cont => if v3 ≤ 0 then cont v1 v2 v3 k else if (v3 &&& 1) = 0 then ob (fX0_times k v2 v2) fun r3 k4 => lpX0_inverse_8 v0 n v1 r3 (j_shr v3 1) k4 cont else ob (fX0_times k v1 v2) fun r6 k7 => ob (fX0_times k7 v2 v2) fun r9 k10 => lpX0_inverse_8 v0 n r6 r9 (j_shr v3 1) k10 cont
set_option maxRecDepth 20000 in
theorem zlpX0_inverse_8 {p : Program} {l : Launch} {e : Env} {R : Room} {s : State} {m : MethodId} {args : Array Value} {below : List Frame} {meth : Method} {c : Code} {g : GT} {T : TT} (hC : HC p s m args meth c cX0_inverse 4 RX0 (some .int) g) (hR : 1 ≤ R.frames ∧ 21 ≤ R.locals) (v0 : Int32) {cont : Int32 → Int32 → Int32 → ST → Option (Int32 × ST)} (hk : ∀ (v1 : Int32) (v2 : Int32) (v3 : Int32) (k : ST), ZF p l e R s m args below meth c g T voI 4 k 37 [(0, .int v0), (1, .int v1), (2, .int v2), (3, .int v3)] [] (cont v1 v2 v3 k)) : ∀ (n : Nat) (v1 : Int32) (v2 : Int32) (v3 : Int32) (k : ST), ZF p l e R s m args below meth c g T voI 4 k 8 [(0, .int v0), (1, .int v1), (2, .int v2), (3, .int v3)] [] (lpX0_inverse_8 v0 n v1 v2 v3 k cont) := by
  intro n
  induction n with
  | zero => intros; exact zf_none
  | succ n ih =>
    intro v1 v2 v3 k
    rw [lpX0_inverse_8]
    refine zf_iload_n hC dX0_inverse_8 rfl 3 rfl ?_
    refine zf_if_le hC (tgt := 37) dX0_inverse_9 (by decide) (fun h1 => ?_) (fun h1 => ?_)
    · refine zf_lv (LV' := [(0, .int v0), (1, .int v1), (2, .int v2), (3, .int v3)]) [0, 1, 2, 3] rfl ?_
      exact hk v1 v2 v3 k
    · refine zf_iload_n hC dX0_inverse_12 rfl 3 rfl ?_
      refine zf_iconst hC (v := 1) dX0_inverse_13 rfl ?_
      refine zf_iand hC dX0_inverse_14 ?_
      refine zf_if_eq hC (tgt := 24) dX0_inverse_15 (by decide) (fun h2 => ?_) (fun h2 => ?_)
      · refine zf_iload_n hC dX0_inverse_24 rfl 2 rfl ?_
        refine zf_iload_n hC dX0_inverse_25 rfl 2 rfl ?_
        refine zf_callS hC (c_X0_times l g T v2 v2) mt_X0_times wd_620 wd_671 rfl (rm_le hR rfl) rfl rfl (rest := []) rfl (Nat.le_of_ble_eq_true rfl) dX0_inverse_26 (fun r3 k4 h5 => ?_)
        refine zf_istore_n hC (LV' := [(2, .int r3), (0, .int v0), (1, .int v1), (3, .int v3)]) dX0_inverse_29 rfl (by decide) rfl ?_
        refine zf_iload_n hC dX0_inverse_30 rfl 3 rfl ?_
        refine zf_iconst hC (v := 1) dX0_inverse_31 rfl ?_
        refine zf_ishr hC dX0_inverse_32 ?_
        refine zf_istore_n hC (LV' := [(3, .int (j_shr v3 1)), (2, .int r3), (0, .int v0), (1, .int v1)]) dX0_inverse_33 rfl (by decide) rfl ?_
        refine zf_goto hC (tgt := 8) dX0_inverse_34 (by decide) ?_
        refine zf_lv (LV' := [(0, .int v0), (1, .int v1), (2, .int r3), (3, .int (j_shr v3 1))]) [2, 3, 1, 0] rfl ?_
        exact ih v1 r3 (j_shr v3 1) k4
      · refine zf_iload_n hC dX0_inverse_18 rfl 1 rfl ?_
        refine zf_iload_n hC dX0_inverse_19 rfl 2 rfl ?_
        refine zf_callS hC (c_X0_times l g T v1 v2) mt_X0_times wd_620 wd_671 rfl (rm_le hR rfl) rfl rfl (rest := []) rfl (Nat.le_of_ble_eq_true rfl) dX0_inverse_20 (fun r6 k7 h8 => ?_)
        refine zf_istore_n hC (LV' := [(1, .int r6), (0, .int v0), (2, .int v2), (3, .int v3)]) dX0_inverse_23 rfl (by decide) rfl ?_
        refine zf_iload_n hC dX0_inverse_24 rfl 2 rfl ?_
        refine zf_iload_n hC dX0_inverse_25 rfl 2 rfl ?_
        refine zf_callS hC (c_X0_times l g T v2 v2) mt_X0_times wd_620 wd_671 rfl (rm_le hR rfl) rfl rfl (rest := []) rfl (Nat.le_of_ble_eq_true rfl) dX0_inverse_26 (fun r9 k10 h11 => ?_)
        refine zf_istore_n hC (LV' := [(2, .int r9), (1, .int r6), (0, .int v0), (3, .int v3)]) dX0_inverse_29 rfl (by decide) rfl ?_
        refine zf_iload_n hC dX0_inverse_30 rfl 3 rfl ?_
        refine zf_iconst hC (v := 1) dX0_inverse_31 rfl ?_
        refine zf_ishr hC dX0_inverse_32 ?_
        refine zf_istore_n hC (LV' := [(3, .int (j_shr v3 1)), (2, .int r9), (1, .int r6), (0, .int v0)]) dX0_inverse_33 rfl (by decide) rfl ?_
        refine zf_goto hC (tgt := 8) dX0_inverse_34 (by decide) ?_
        refine zf_lv (LV' := [(0, .int v0), (1, .int r6), (2, .int r9), (3, .int (j_shr v3 1))]) [3, 2, 1, 0] rfl ?_
        exact ih r6 r9 (j_shr v3 1) k10
def fX0_inverse (k : ST) (a0 : Int32) : Option (Int32 × ST) := lpX0_inverse_8 a0 FU 1 a0 1017 k fun y12 y13 y14 k15 => some (y12, k15)
set_option maxRecDepth 20000 in
theorem c_X0_inverse (l : Launch) (g : GT) (T : TT) (a0 : Int32) : CN l yX0_inverse cX0_inverse 4 (some .int) { frames := 1, cells := 0, slots := 0, locals := 21 } g T voI [.int a0] (fun k => fX0_inverse k a0) := by
  refine cn_of (by decide) (Nat.le_of_ble_eq_true rfl) ?_
  intro p e s m args below meth c hC k
  have hC : HC p s m args meth c cX0_inverse 4 RX0 (some .int) g := hC
  have hR : 1 ≤ ({ frames := 1, cells := 0, slots := 0, locals := 21 } : Room).frames ∧ 21 ≤ ({ frames := 1, cells := 0, slots := 0, locals := 21 } : Room).locals := ⟨Nat.le_refl _, Nat.le_refl _⟩
  show ZF p l e _ s m args below meth c g T voI 4 k 0 [(0, .int a0)] [] (fX0_inverse k a0)
  unfold fX0_inverse
  refine zf_iconst hC (v := 1) dX0_inverse_0 rfl ?_
  refine zf_istore_n hC (LV' := [(1, .int 1), (0, .int a0)]) dX0_inverse_1 rfl (by decide) rfl ?_
  refine zf_iload_n hC dX0_inverse_2 rfl 1 rfl ?_
  refine zf_istore_n hC (LV' := [(2, .int a0), (1, .int 1), (0, .int a0)]) dX0_inverse_3 rfl (by decide) rfl ?_
  refine zf_sipush hC (v := 1017) dX0_inverse_4 rfl ?_
  refine zf_istore_n hC (LV' := [(3, .int 1017), (2, .int a0), (1, .int 1), (0, .int a0)]) dX0_inverse_7 rfl (by decide) rfl ?_
  refine zf_lv (LV' := [(0, .int a0), (1, .int 1), (2, .int a0), (3, .int 1017)]) [3, 2, 1, 0] rfl ?_
  refine zlpX0_inverse_8 hC hR a0 (fun y12 y13 y14 k15 => ?_) FU 1 a0 1017 k
  refine zf_iload_n hC dX0_inverse_37 rfl 1 rfl ?_
  exact zf_iret hC rfl dX0_inverse_38
/-! LifeKeys.Field.weight -/
theorem dX0_weight_0 : decode cX0_weight 0 = .ok (.iconst 1, 1) := by decide +kernel
theorem dX0_weight_1 : decode cX0_weight 1 = .ok (.istore_n 2, 1) := by decide +kernel
theorem dX0_weight_2 : decode cX0_weight 2 = .ok (.iconst 1, 1) := by decide +kernel
theorem dX0_weight_3 : decode cX0_weight 3 = .ok (.istore_n 3, 1) := by decide +kernel
theorem dX0_weight_4 : decode cX0_weight 4 = .ok (.iconst 0, 1) := by decide +kernel
theorem dX0_weight_5 : decode cX0_weight 5 = .ok (.istore 4, 2) := by decide +kernel
theorem dX0_weight_7 : decode cX0_weight 7 = .ok (.iload 4, 2) := by decide +kernel
theorem dX0_weight_9 : decode cX0_weight 9 = .ok (.bipush 12, 2) := by decide +kernel
theorem dX0_weight_11 : decode cX0_weight 11 = .ok (.if_icmp .ge 48, 3) := by decide +kernel
theorem dX0_weight_14 : decode cX0_weight 14 = .ok (.iload 4, 2) := by decide +kernel
theorem dX0_weight_16 : decode cX0_weight 16 = .ok (.iload_n 0, 1) := by decide +kernel
theorem dX0_weight_17 : decode cX0_weight 17 = .ok (.if_icmp .eq 36, 3) := by decide +kernel
theorem dX0_weight_20 : decode cX0_weight 20 = .ok (.iload_n 1, 1) := by decide +kernel
theorem dX0_weight_21 : decode cX0_weight 21 = .ok (.iload 4, 2) := by decide +kernel
theorem dX0_weight_23 : decode cX0_weight 23 = .ok (.invokestatic 21, 3) := by decide +kernel
theorem dX0_weight_26 : decode cX0_weight 26 = .ok (.ifCond .eq 27, 3) := by decide +kernel
theorem dX0_weight_29 : decode cX0_weight 29 = .ok (.iload_n 2, 1) := by decide +kernel
theorem dX0_weight_30 : decode cX0_weight 30 = .ok (.iload 4, 2) := by decide +kernel
theorem dX0_weight_32 : decode cX0_weight 32 = .ok (.iconst 1, 1) := by decide +kernel
theorem dX0_weight_33 : decode cX0_weight 33 = .ok (.iadd, 1) := by decide +kernel
theorem dX0_weight_34 : decode cX0_weight 34 = .ok (.invokestatic 18, 3) := by decide +kernel
theorem dX0_weight_37 : decode cX0_weight 37 = .ok (.istore_n 2, 1) := by decide +kernel
theorem dX0_weight_38 : decode cX0_weight 38 = .ok (.iload_n 3, 1) := by decide +kernel
theorem dX0_weight_39 : decode cX0_weight 39 = .ok (.iload 4, 2) := by decide +kernel
theorem dX0_weight_41 : decode cX0_weight 41 = .ok (.iload_n 0, 1) := by decide +kernel
theorem dX0_weight_42 : decode cX0_weight 42 = .ok (.isub, 1) := by decide +kernel
theorem dX0_weight_43 : decode cX0_weight 43 = .ok (.sipush 1019, 3) := by decide +kernel
theorem dX0_weight_46 : decode cX0_weight 46 = .ok (.invokestatic 25, 3) := by decide +kernel
theorem dX0_weight_49 : decode cX0_weight 49 = .ok (.invokestatic 18, 3) := by decide +kernel
theorem dX0_weight_52 : decode cX0_weight 52 = .ok (.istore_n 3, 1) := by decide +kernel
theorem dX0_weight_53 : decode cX0_weight 53 = .ok (.iinc 4 1, 3) := by decide +kernel
theorem dX0_weight_56 : decode cX0_weight 56 = .ok (.goto (-49), 3) := by decide +kernel
theorem dX0_weight_59 : decode cX0_weight 59 = .ok (.iload_n 2, 1) := by decide +kernel
theorem dX0_weight_60 : decode cX0_weight 60 = .ok (.iload_n 3, 1) := by decide +kernel
theorem dX0_weight_61 : decode cX0_weight 61 = .ok (.invokestatic 30, 3) := by decide +kernel
theorem dX0_weight_64 : decode cX0_weight 64 = .ok (.invokestatic 18, 3) := by decide +kernel
theorem dX0_weight_67 : decode cX0_weight 67 = .ok (.ireturn, 1) := by decide +kernel
def lpX0_weight_7 (v0 : Int32) (v1 : Int32) : Nat → Int32 → Int32 → Int32 → ST → (Int32 → Int32 → Int32 → ST → Option (Int32 × ST)) → Option (Int32 × ST)
  | 0, _, _, _, _, _ => none
  | n + 1, v2, v3, v4, k, cont => if 12 ≤ v4 then cont v2 v3 v4 k else if v4 = v0 then lpX0_weight_7 v0 v1 n v2 v3 (v4 + 1) k cont else ob (fX11_hasBit k v1 v4) fun r3 k4 => if r3 = true then ob (fX0_times k4 v2 (v4 + 1)) fun r7 k8 => ob (fJ9_floorMod_7cf53 k8 (v4 - v0) 1019) fun r10 k11 => ob (fX0_times k11 v3 r10) fun r13 k14 => lpX0_weight_7 v0 v1 n r7 r13 (v4 + 1) k14 cont else lpX0_weight_7 v0 v1 n v2 v3 (v4 + 1) k4 cont
set_option maxRecDepth 20000 in
theorem zlpX0_weight_7 {p : Program} {l : Launch} {e : Env} {R : Room} {s : State} {m : MethodId} {args : Array Value} {below : List Frame} {meth : Method} {c : Code} {g : GT} {T : TT} (hC : HC p s m args meth c cX0_weight 5 RX0 (some .int) g) (hR : 2 ≤ R.frames ∧ 44 ≤ R.locals) (v0 : Int32) (v1 : Int32) {cont : Int32 → Int32 → Int32 → ST → Option (Int32 × ST)} (hk : ∀ (v2 : Int32) (v3 : Int32) (v4 : Int32) (k : ST), ZF p l e R s m args below meth c g T voI 5 k 59 [(0, .int v0), (1, .int v1), (2, .int v2), (3, .int v3), (4, .int v4)] [] (cont v2 v3 v4 k)) : ∀ (n : Nat) (v2 : Int32) (v3 : Int32) (v4 : Int32) (k : ST), ZF p l e R s m args below meth c g T voI 5 k 7 [(0, .int v0), (1, .int v1), (2, .int v2), (3, .int v3), (4, .int v4)] [] (lpX0_weight_7 v0 v1 n v2 v3 v4 k cont) := by
  intro n
  induction n with
  | zero => intros; exact zf_none
  | succ n ih =>
    intro v2 v3 v4 k
    rw [lpX0_weight_7]
    refine zf_iload hC dX0_weight_7 4 rfl ?_
    refine zf_bipush hC (v := 12) dX0_weight_9 rfl ?_
    refine zf_icmp_ge hC (tgt := 59) dX0_weight_11 (by decide) (fun h1 => ?_) (fun h1 => ?_)
    · refine zf_lv (LV' := [(0, .int v0), (1, .int v1), (2, .int v2), (3, .int v3), (4, .int v4)]) [0, 1, 2, 3, 4] rfl ?_
      exact hk v2 v3 v4 k
    · refine zf_iload hC dX0_weight_14 4 rfl ?_
      refine zf_iload_n hC dX0_weight_16 rfl 0 rfl ?_
      refine zf_icmp_eq hC (tgt := 53) dX0_weight_17 (by decide) (fun h2 => ?_) (fun h2 => ?_)
      · refine zf_iinc hC (q := 4) (v := v4 + 1) (LV' := [(4, .int (v4 + 1)), (0, .int v0), (1, .int v1), (2, .int v2), (3, .int v3)]) dX0_weight_53 rfl rfl (by decide) rfl ?_
        refine zf_goto hC (tgt := 7) dX0_weight_56 (by decide) ?_
        refine zf_lv (LV' := [(0, .int v0), (1, .int v1), (2, .int v2), (3, .int v3), (4, .int (v4 + 1))]) [1, 2, 3, 4, 0] rfl ?_
        exact ih v2 v3 (v4 + 1) k
      · refine zf_iload_n hC dX0_weight_20 rfl 1 rfl ?_
        refine zf_iload hC dX0_weight_21 4 rfl ?_
        refine zf_callSN hC (c_X11_hasBit l g T v1 v4) mt_X11_hasBit wd_613 wd_670 rfl (rm_le hR rfl) rfl rfl (rest := []) rfl (Nat.le_of_ble_eq_true rfl) dX0_weight_23 (fun r3 k4 h5 => ?_)
        refine zf_ifb_eq hC (tgt := 53) dX0_weight_26 (by decide) (fun h6 => ?_) (fun h6 => ?_)
        · refine zf_iload_n hC dX0_weight_29 rfl 2 rfl ?_
          refine zf_iload hC dX0_weight_30 4 rfl ?_
          refine zf_iconst hC (v := 1) dX0_weight_32 rfl ?_
          refine zf_iadd hC dX0_weight_33 ?_
          refine zf_callS hC (c_X0_times l g T v2 (v4 + 1)) mt_X0_times wd_620 wd_671 rfl (rm_le hR rfl) rfl rfl (rest := []) rfl (Nat.le_of_ble_eq_true rfl) dX0_weight_34 (fun r7 k8 h9 => ?_)
          refine zf_istore_n hC (LV' := [(2, .int r7), (0, .int v0), (1, .int v1), (3, .int v3), (4, .int v4)]) dX0_weight_37 rfl (by decide) rfl ?_
          refine zf_iload_n hC dX0_weight_38 rfl 3 rfl ?_
          refine zf_iload hC dX0_weight_39 4 rfl ?_
          refine zf_iload_n hC dX0_weight_41 rfl 1 rfl ?_
          refine zf_isub hC dX0_weight_42 ?_
          refine zf_sipush hC (v := 1019) dX0_weight_43 rfl ?_
          refine zf_callS hC (c_J9_floorMod_7cf53 l g T (v4 - v0) 1019) mt_J9_floorMod_7cf53 wd_673 wd_672 rfl (rm_le hR rfl) rfl rfl (rest := [.int v3]) rfl (Nat.le_of_ble_eq_true rfl) dX0_weight_46 (fun r10 k11 h12 => ?_)
          refine zf_callS hC (c_X0_times l g T v3 r10) mt_X0_times wd_620 wd_671 rfl (rm_le hR rfl) rfl rfl (rest := []) rfl (Nat.le_of_ble_eq_true rfl) dX0_weight_49 (fun r13 k14 h15 => ?_)
          refine zf_istore_n hC (LV' := [(3, .int r13), (2, .int r7), (0, .int v0), (1, .int v1), (4, .int v4)]) dX0_weight_52 rfl (by decide) rfl ?_
          refine zf_iinc hC (q := 4) (v := v4 + 1) (LV' := [(4, .int (v4 + 1)), (3, .int r13), (2, .int r7), (0, .int v0), (1, .int v1)]) dX0_weight_53 rfl rfl (by decide) rfl ?_
          refine zf_goto hC (tgt := 7) dX0_weight_56 (by decide) ?_
          refine zf_lv (LV' := [(0, .int v0), (1, .int v1), (2, .int r7), (3, .int r13), (4, .int (v4 + 1))]) [3, 4, 2, 1, 0] rfl ?_
          exact ih r7 r13 (v4 + 1) k14
        · refine zf_iinc hC (q := 4) (v := v4 + 1) (LV' := [(4, .int (v4 + 1)), (0, .int v0), (1, .int v1), (2, .int v2), (3, .int v3)]) dX0_weight_53 rfl rfl (by decide) rfl ?_
          refine zf_goto hC (tgt := 7) dX0_weight_56 (by decide) ?_
          refine zf_lv (LV' := [(0, .int v0), (1, .int v1), (2, .int v2), (3, .int v3), (4, .int (v4 + 1))]) [1, 2, 3, 4, 0] rfl ?_
          exact ih v2 v3 (v4 + 1) k4
def fX0_weight (k : ST) (a0 : Int32) (a1 : Int32) : Option (Int32 × ST) := lpX0_weight_7 a0 a1 FU 1 1 0 k fun y16 y17 y18 k19 => ob (fX0_inverse k19 y17) fun r20 k21 => ob (fX0_times k21 y16 r20) fun r23 k24 => some (r23, k24)
set_option maxRecDepth 20000 in
theorem c_X0_weight (l : Launch) (g : GT) (T : TT) (a0 : Int32) (a1 : Int32) : CN l yX0_weight cX0_weight 5 (some .int) { frames := 2, cells := 0, slots := 0, locals := 44 } g T voI [.int a0, .int a1] (fun k => fX0_weight k a0 a1) := by
  refine cn_of (by decide) (Nat.le_of_ble_eq_true rfl) ?_
  intro p e s m args below meth c hC k
  have hC : HC p s m args meth c cX0_weight 5 RX0 (some .int) g := hC
  have hR : 2 ≤ ({ frames := 2, cells := 0, slots := 0, locals := 44 } : Room).frames ∧ 44 ≤ ({ frames := 2, cells := 0, slots := 0, locals := 44 } : Room).locals := ⟨Nat.le_refl _, Nat.le_refl _⟩
  show ZF p l e _ s m args below meth c g T voI 5 k 0 [(0, .int a0), (1, .int a1)] [] (fX0_weight k a0 a1)
  unfold fX0_weight
  refine zf_iconst hC (v := 1) dX0_weight_0 rfl ?_
  refine zf_istore_n hC (LV' := [(2, .int 1), (0, .int a0), (1, .int a1)]) dX0_weight_1 rfl (by decide) rfl ?_
  refine zf_iconst hC (v := 1) dX0_weight_2 rfl ?_
  refine zf_istore_n hC (LV' := [(3, .int 1), (2, .int 1), (0, .int a0), (1, .int a1)]) dX0_weight_3 rfl (by decide) rfl ?_
  refine zf_iconst hC (v := 0) dX0_weight_4 rfl ?_
  refine zf_istore hC (LV' := [(4, .int 0), (3, .int 1), (2, .int 1), (0, .int a0), (1, .int a1)]) dX0_weight_5 (by decide) rfl ?_
  refine zf_lv (LV' := [(0, .int a0), (1, .int a1), (2, .int 1), (3, .int 1), (4, .int 0)]) [3, 4, 2, 1, 0] rfl ?_
  refine zlpX0_weight_7 hC hR a0 a1 (fun y16 y17 y18 k19 => ?_) FU 1 1 0 k
  refine zf_iload_n hC dX0_weight_59 rfl 2 rfl ?_
  refine zf_iload_n hC dX0_weight_60 rfl 3 rfl ?_
  refine zf_callS hC (c_X0_inverse l g T y17) mt_X0_inverse wd_676 wd_675 rfl (rm_le hR rfl) rfl rfl (rest := [.int y16]) rfl (Nat.le_of_ble_eq_true rfl) dX0_weight_61 (fun r20 k21 h22 => ?_)
  refine zf_callS hC (c_X0_times l g T y16 r20) mt_X0_times wd_620 wd_671 rfl (rm_le hR rfl) rfl rfl (rest := []) rfl (Nat.le_of_ble_eq_true rfl) dX0_weight_64 (fun r23 k24 h25 => ?_)
  exact zf_iret hC rfl dX0_weight_67
/-! java/lang/Math.max -/
theorem dJ9_max_7cf53_0 : decode cJ9_max_7cf53 0 = .ok (.iload_n 0, 1) := by decide +kernel
theorem dJ9_max_7cf53_1 : decode cJ9_max_7cf53 1 = .ok (.iload_n 1, 1) := by decide +kernel
theorem dJ9_max_7cf53_2 : decode cJ9_max_7cf53 2 = .ok (.if_icmp .lt 7, 3) := by decide +kernel
theorem dJ9_max_7cf53_5 : decode cJ9_max_7cf53 5 = .ok (.iload_n 0, 1) := by decide +kernel
theorem dJ9_max_7cf53_6 : decode cJ9_max_7cf53 6 = .ok (.goto 4, 3) := by decide +kernel
theorem dJ9_max_7cf53_9 : decode cJ9_max_7cf53 9 = .ok (.iload_n 1, 1) := by decide +kernel
theorem dJ9_max_7cf53_10 : decode cJ9_max_7cf53 10 = .ok (.ireturn, 1) := by decide +kernel
def fJ9_max_7cf53 (k : ST) (a0 : Int32) (a1 : Int32) : Option (Int32 × ST) := if a0 < a1 then some (a1, k) else some (a0, k)
set_option maxRecDepth 20000 in
theorem c_J9_max_7cf53 (l : Launch) (g : GT) (T : TT) (a0 : Int32) (a1 : Int32) : CN l yJ9_max_7cf53 cJ9_max_7cf53 2 (some .int) { frames := 0, cells := 0, slots := 0, locals := 0 } g T voI [.int a0, .int a1] (fun k => fJ9_max_7cf53 k a0 a1) := by
  refine cn_ofF (by decide +kernel) (Nat.le_of_ble_eq_true rfl) ?_
  intro p e s m args below meth c hC k
  have hC : HC p s m args meth c cJ9_max_7cf53 2 RJ9 (some .int) g := hC
  have hR : 0 ≤ ({ frames := 0, cells := 0, slots := 0, locals := 0 } : Room).frames ∧ 0 ≤ ({ frames := 0, cells := 0, slots := 0, locals := 0 } : Room).locals := ⟨Nat.le_refl _, Nat.le_refl _⟩
  show ZF p l e _ s m args below meth c g T voI 2 k 0 [(0, .int a0), (1, .int a1)] [] (fJ9_max_7cf53 k a0 a1)
  unfold fJ9_max_7cf53
  refine zf_iload_n hC dJ9_max_7cf53_0 rfl 0 rfl ?_
  refine zf_iload_n hC dJ9_max_7cf53_1 rfl 1 rfl ?_
  refine zf_icmp_lt hC (tgt := 9) dJ9_max_7cf53_2 (by decide) (fun h1 => ?_) (fun h1 => ?_)
  · refine zf_iload_n hC dJ9_max_7cf53_9 rfl 1 rfl ?_
    exact zf_iret hC rfl dJ9_max_7cf53_10
  · refine zf_iload_n hC dJ9_max_7cf53_5 rfl 0 rfl ?_
    refine zf_goto hC (tgt := 10) dJ9_max_7cf53_6 (by decide) ?_
    exact zf_iret hC rfl dJ9_max_7cf53_10
/-! java/lang/Math.min -/
theorem dJ9_min_7cf53_0 : decode cJ9_min_7cf53 0 = .ok (.iload_n 0, 1) := by decide +kernel
theorem dJ9_min_7cf53_1 : decode cJ9_min_7cf53 1 = .ok (.iload_n 1, 1) := by decide +kernel
theorem dJ9_min_7cf53_2 : decode cJ9_min_7cf53 2 = .ok (.if_icmp .gt 7, 3) := by decide +kernel
theorem dJ9_min_7cf53_5 : decode cJ9_min_7cf53 5 = .ok (.iload_n 0, 1) := by decide +kernel
theorem dJ9_min_7cf53_6 : decode cJ9_min_7cf53 6 = .ok (.goto 4, 3) := by decide +kernel
theorem dJ9_min_7cf53_9 : decode cJ9_min_7cf53 9 = .ok (.iload_n 1, 1) := by decide +kernel
theorem dJ9_min_7cf53_10 : decode cJ9_min_7cf53 10 = .ok (.ireturn, 1) := by decide +kernel
def fJ9_min_7cf53 (k : ST) (a0 : Int32) (a1 : Int32) : Option (Int32 × ST) := if a1 < a0 then some (a1, k) else some (a0, k)
set_option maxRecDepth 20000 in
theorem c_J9_min_7cf53 (l : Launch) (g : GT) (T : TT) (a0 : Int32) (a1 : Int32) : CN l yJ9_min_7cf53 cJ9_min_7cf53 2 (some .int) { frames := 0, cells := 0, slots := 0, locals := 0 } g T voI [.int a0, .int a1] (fun k => fJ9_min_7cf53 k a0 a1) := by
  refine cn_ofF (by decide +kernel) (Nat.le_of_ble_eq_true rfl) ?_
  intro p e s m args below meth c hC k
  have hC : HC p s m args meth c cJ9_min_7cf53 2 RJ9 (some .int) g := hC
  have hR : 0 ≤ ({ frames := 0, cells := 0, slots := 0, locals := 0 } : Room).frames ∧ 0 ≤ ({ frames := 0, cells := 0, slots := 0, locals := 0 } : Room).locals := ⟨Nat.le_refl _, Nat.le_refl _⟩
  show ZF p l e _ s m args below meth c g T voI 2 k 0 [(0, .int a0), (1, .int a1)] [] (fJ9_min_7cf53 k a0 a1)
  unfold fJ9_min_7cf53
  refine zf_iload_n hC dJ9_min_7cf53_0 rfl 0 rfl ?_
  refine zf_iload_n hC dJ9_min_7cf53_1 rfl 1 rfl ?_
  refine zf_icmp_gt hC (tgt := 9) dJ9_min_7cf53_2 (by decide) (fun h1 => ?_) (fun h1 => ?_)
  · refine zf_iload_n hC dJ9_min_7cf53_9 rfl 1 rfl ?_
    exact zf_iret hC rfl dJ9_min_7cf53_10
  · refine zf_iload_n hC dJ9_min_7cf53_5 rfl 0 rfl ?_
    refine zf_goto hC (tgt := 10) dJ9_min_7cf53_6 (by decide) ?_
    exact zf_iret hC rfl dJ9_min_7cf53_10
/-! LifeKeys.Field.challenge -/
theorem dX0_challenge_0 : decode cX0_challenge 0 = .ok (.iload_n 0, 1) := by decide +kernel
theorem dX0_challenge_1 : decode cX0_challenge 1 = .ok (.bipush 7, 2) := by decide +kernel
theorem dX0_challenge_3 : decode cX0_challenge 3 = .ok (.iload_n 1, 1) := by decide +kernel
theorem dX0_challenge_4 : decode cX0_challenge 4 = .ok (.imul, 1) := by decide +kernel
theorem dX0_challenge_5 : decode cX0_challenge 5 = .ok (.iadd, 1) := by decide +kernel
theorem dX0_challenge_6 : decode cX0_challenge 6 = .ok (.sipush 1019, 3) := by decide +kernel
theorem dX0_challenge_9 : decode cX0_challenge 9 = .ok (.irem, 1) := by decide +kernel
theorem dX0_challenge_10 : decode cX0_challenge 10 = .ok (.ireturn, 1) := by decide +kernel
def fX0_challenge (k : ST) (a0 : Int32) (a1 : Int32) : Option (Int32 × ST) := some (j_rem (a0 + (7 * a1)) 1019, k)
set_option maxRecDepth 20000 in
theorem c_X0_challenge (l : Launch) (g : GT) (T : TT) (a0 : Int32) (a1 : Int32) : CN l yX0_challenge cX0_challenge 2 (some .int) { frames := 0, cells := 0, slots := 0, locals := 0 } g T voI [.int a0, .int a1] (fun k => fX0_challenge k a0 a1) := by
  refine cn_of (by decide) (Nat.le_of_ble_eq_true rfl) ?_
  intro p e s m args below meth c hC k
  have hC : HC p s m args meth c cX0_challenge 2 RX0 (some .int) g := hC
  have hR : 0 ≤ ({ frames := 0, cells := 0, slots := 0, locals := 0 } : Room).frames ∧ 0 ≤ ({ frames := 0, cells := 0, slots := 0, locals := 0 } : Room).locals := ⟨Nat.le_refl _, Nat.le_refl _⟩
  show ZF p l e _ s m args below meth c g T voI 2 k 0 [(0, .int a0), (1, .int a1)] [] (fX0_challenge k a0 a1)
  unfold fX0_challenge
  refine zf_iload_n hC dX0_challenge_0 rfl 0 rfl ?_
  refine zf_bipush hC (v := 7) dX0_challenge_1 rfl ?_
  refine zf_iload_n hC dX0_challenge_3 rfl 1 rfl ?_
  refine zf_imul hC dX0_challenge_4 ?_
  refine zf_iadd hC dX0_challenge_5 ?_
  refine zf_sipush hC (v := 1019) dX0_challenge_6 rfl ?_
  refine zf_irem hC dX0_challenge_9 (by decide) ?_
  exact zf_iret hC rfl dX0_challenge_10
/-! LifeKeys.Field.start -/
theorem dX0_start_0 : decode cX0_start 0 = .ok (.lload_n 0, 1) := by decide +kernel
theorem dX0_start_1 : decode cX0_start 1 = .ok (.bipush 33, 2) := by decide +kernel
theorem dX0_start_3 : decode cX0_start 3 = .ok (.lushr, 1) := by decide +kernel
theorem dX0_start_4 : decode cX0_start 4 = .ok (.ldc2_w 40, 3) := by decide +kernel
theorem dX0_start_7 : decode cX0_start 7 = .ok (.lrem, 1) := by decide +kernel
theorem dX0_start_8 : decode cX0_start 8 = .ok (.l2i, 1) := by decide +kernel
theorem dX0_start_9 : decode cX0_start 9 = .ok (.iconst 1, 1) := by decide +kernel
theorem dX0_start_10 : decode cX0_start 10 = .ok (.iadd, 1) := by decide +kernel
theorem dX0_start_11 : decode cX0_start 11 = .ok (.ireturn, 1) := by decide +kernel
def fX0_start (k : ST) (a0 : Int64) : Option (Int32 × ST) := some ((Int64.toInt32 (j_lrem (j_lushr a0 33) 1018)) + 1, k)
set_option maxRecDepth 20000 in
theorem c_X0_start (l : Launch) (g : GT) (T : TT) (a0 : Int64) : CN l yX0_start cX0_start 2 (some .int) { frames := 0, cells := 0, slots := 0, locals := 0 } g T voI [.long a0] (fun k => fX0_start k a0) := by
  refine cn_of (by decide) (Nat.le_of_ble_eq_true rfl) ?_
  intro p e s m args below meth c hC k
  have hC : HC p s m args meth c cX0_start 2 RX0 (some .int) g := hC
  have hR : 0 ≤ ({ frames := 0, cells := 0, slots := 0, locals := 0 } : Room).frames ∧ 0 ≤ ({ frames := 0, cells := 0, slots := 0, locals := 0 } : Room).locals := ⟨Nat.le_refl _, Nat.le_refl _⟩
  show ZF p l e _ s m args below meth c g T voI 2 k 0 [(0, .long a0)] [] (fX0_start k a0)
  unfold fX0_start
  refine zf_lload_n hC dX0_start_0 rfl 0 rfl ?_
  refine zf_bipush hC (v := 33) dX0_start_1 rfl ?_
  refine zf_lushr hC dX0_start_3 ?_
  refine zf_ldc2 hC wd_979 dX0_start_4 ?_
  refine zf_lrem hC dX0_start_7 (by decide) ?_
  refine zf_l2i hC dX0_start_8 ?_
  refine zf_iconst hC (v := 1) dX0_start_9 rfl ?_
  refine zf_iadd hC dX0_start_10 ?_
  exact zf_iret hC rfl dX0_start_11
/-! LifeKeys.Field.isPower -/
theorem dX0_isPower_0 : decode cX0_isPower 0 = .ok (.iload_n 0, 1) := by decide +kernel
theorem dX0_isPower_1 : decode cX0_isPower 1 = .ok (.iconst 1, 1) := by decide +kernel
theorem dX0_isPower_2 : decode cX0_isPower 2 = .ok (.if_icmp .lt 14, 3) := by decide +kernel
theorem dX0_isPower_5 : decode cX0_isPower 5 = .ok (.iload_n 0, 1) := by decide +kernel
theorem dX0_isPower_6 : decode cX0_isPower 6 = .ok (.sipush 2039, 3) := by decide +kernel
theorem dX0_isPower_9 : decode cX0_isPower 9 = .ok (.if_icmp .ge 7, 3) := by decide +kernel
theorem dX0_isPower_12 : decode cX0_isPower 12 = .ok (.iconst 1, 1) := by decide +kernel
theorem dX0_isPower_13 : decode cX0_isPower 13 = .ok (.goto 4, 3) := by decide +kernel
theorem dX0_isPower_16 : decode cX0_isPower 16 = .ok (.iconst 0, 1) := by decide +kernel
theorem dX0_isPower_17 : decode cX0_isPower 17 = .ok (.ireturn, 1) := by decide +kernel
def fX0_isPower (k : ST) (a0 : Int32) : Option (Bool × ST) := if a0 < 1 then some (false, k) else if 2039 ≤ a0 then some (false, k) else some (true, k)
set_option maxRecDepth 20000 in
theorem c_X0_isPower (l : Launch) (g : GT) (T : TT) (a0 : Int32) : CN l yX0_isPower cX0_isPower 1 (some .boolean) { frames := 0, cells := 0, slots := 0, locals := 0 } g T voB [.int a0] (fun k => fX0_isPower k a0) := by
  refine cn_of (by decide) (Nat.le_of_ble_eq_true rfl) ?_
  intro p e s m args below meth c hC k
  have hC : HC p s m args meth c cX0_isPower 1 RX0 (some .boolean) g := hC
  have hR : 0 ≤ ({ frames := 0, cells := 0, slots := 0, locals := 0 } : Room).frames ∧ 0 ≤ ({ frames := 0, cells := 0, slots := 0, locals := 0 } : Room).locals := ⟨Nat.le_refl _, Nat.le_refl _⟩
  show ZF p l e _ s m args below meth c g T voB 1 k 0 [(0, .int a0)] [] (fX0_isPower k a0)
  unfold fX0_isPower
  refine zf_iload_n hC dX0_isPower_0 rfl 0 rfl ?_
  refine zf_iconst hC (v := 1) dX0_isPower_1 rfl ?_
  refine zf_icmp_lt hC (tgt := 16) dX0_isPower_2 (by decide) (fun h1 => ?_) (fun h1 => ?_)
  · refine zf_iconst hC (v := 0) dX0_isPower_16 rfl ?_
    exact zf_zret hC rfl false rfl dX0_isPower_17
  · refine zf_iload_n hC dX0_isPower_5 rfl 0 rfl ?_
    refine zf_sipush hC (v := 2039) dX0_isPower_6 rfl ?_
    refine zf_icmp_ge hC (tgt := 16) dX0_isPower_9 (by decide) (fun h2 => ?_) (fun h2 => ?_)
    · refine zf_iconst hC (v := 0) dX0_isPower_16 rfl ?_
      exact zf_zret hC rfl false rfl dX0_isPower_17
    · refine zf_iconst hC (v := 1) dX0_isPower_12 rfl ?_
      refine zf_goto hC (tgt := 17) dX0_isPower_13 (by decide) ?_
      exact zf_zret hC rfl true rfl dX0_isPower_17
/-! java/lang/Math.abs -/
theorem dJ9_abs_0f7a4_0 : decode cJ9_abs_0f7a4 0 = .ok (.iload_n 0, 1) := by decide +kernel
theorem dJ9_abs_0f7a4_1 : decode cJ9_abs_0f7a4 1 = .ok (.ifCond .ge 8, 3) := by decide +kernel
theorem dJ9_abs_0f7a4_4 : decode cJ9_abs_0f7a4 4 = .ok (.iload_n 0, 1) := by decide +kernel
theorem dJ9_abs_0f7a4_5 : decode cJ9_abs_0f7a4 5 = .ok (.ineg, 1) := by decide +kernel
theorem dJ9_abs_0f7a4_6 : decode cJ9_abs_0f7a4 6 = .ok (.goto 4, 3) := by decide +kernel
theorem dJ9_abs_0f7a4_9 : decode cJ9_abs_0f7a4 9 = .ok (.iload_n 0, 1) := by decide +kernel
theorem dJ9_abs_0f7a4_10 : decode cJ9_abs_0f7a4 10 = .ok (.ireturn, 1) := by decide +kernel
def fJ9_abs_0f7a4 (k : ST) (a0 : Int32) : Option (Int32 × ST) := if 0 ≤ a0 then some (a0, k) else some (-a0, k)
set_option maxRecDepth 20000 in
theorem c_J9_abs_0f7a4 (l : Launch) (g : GT) (T : TT) (a0 : Int32) : CN l yJ9_abs_0f7a4 cJ9_abs_0f7a4 1 (some .int) { frames := 0, cells := 0, slots := 0, locals := 0 } g T voI [.int a0] (fun k => fJ9_abs_0f7a4 k a0) := by
  refine cn_ofF (by decide +kernel) (Nat.le_of_ble_eq_true rfl) ?_
  intro p e s m args below meth c hC k
  have hC : HC p s m args meth c cJ9_abs_0f7a4 1 RJ9 (some .int) g := hC
  have hR : 0 ≤ ({ frames := 0, cells := 0, slots := 0, locals := 0 } : Room).frames ∧ 0 ≤ ({ frames := 0, cells := 0, slots := 0, locals := 0 } : Room).locals := ⟨Nat.le_refl _, Nat.le_refl _⟩
  show ZF p l e _ s m args below meth c g T voI 1 k 0 [(0, .int a0)] [] (fJ9_abs_0f7a4 k a0)
  unfold fJ9_abs_0f7a4
  refine zf_iload_n hC dJ9_abs_0f7a4_0 rfl 0 rfl ?_
  refine zf_if_ge hC (tgt := 9) dJ9_abs_0f7a4_1 (by decide) (fun h1 => ?_) (fun h1 => ?_)
  · refine zf_iload_n hC dJ9_abs_0f7a4_9 rfl 0 rfl ?_
    exact zf_iret hC rfl dJ9_abs_0f7a4_10
  · refine zf_iload_n hC dJ9_abs_0f7a4_4 rfl 0 rfl ?_
    refine zf_ineg hC dJ9_abs_0f7a4_5 ?_
    refine zf_goto hC (tgt := 10) dJ9_abs_0f7a4_6 (by decide) ?_
    exact zf_iret hC rfl dJ9_abs_0f7a4_10
