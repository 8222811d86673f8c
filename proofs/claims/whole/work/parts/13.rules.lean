/-! LifeKeys.Rules.skipBlanks -/
theorem dX5_skipBlanks_0 : decode cX5_skipBlanks 0 = .ok (.aload_n 0, 1) := by decide +kernel
theorem dX5_skipBlanks_1 : decode cX5_skipBlanks 1 = .ok (.getfield 34, 3) := by decide +kernel
theorem dX5_skipBlanks_4 : decode cX5_skipBlanks 4 = .ok (.ifCond .lt 41, 3) := by decide +kernel
theorem dX5_skipBlanks_7 : decode cX5_skipBlanks 7 = .ok (.aload_n 0, 1) := by decide +kernel
theorem dX5_skipBlanks_8 : decode cX5_skipBlanks 8 = .ok (.getfield 34, 3) := by decide +kernel
theorem dX5_skipBlanks_11 : decode cX5_skipBlanks 11 = .ok (.aload_n 0, 1) := by decide +kernel
theorem dX5_skipBlanks_12 : decode cX5_skipBlanks 12 = .ok (.getfield 43, 3) := by decide +kernel
theorem dX5_skipBlanks_15 : decode cX5_skipBlanks 15 = .ok (.if_icmp .ge 30, 3) := by decide +kernel
theorem dX5_skipBlanks_18 : decode cX5_skipBlanks 18 = .ok (.aload_n 0, 1) := by decide +kernel
theorem dX5_skipBlanks_19 : decode cX5_skipBlanks 19 = .ok (.getfield 23, 3) := by decide +kernel
theorem dX5_skipBlanks_22 : decode cX5_skipBlanks 22 = .ok (.aload_n 0, 1) := by decide +kernel
theorem dX5_skipBlanks_23 : decode cX5_skipBlanks 23 = .ok (.getfield 34, 3) := by decide +kernel
theorem dX5_skipBlanks_26 : decode cX5_skipBlanks 26 = .ok (.iaload, 1) := by decide +kernel
theorem dX5_skipBlanks_27 : decode cX5_skipBlanks 27 = .ok (.bipush 32, 2) := by decide +kernel
theorem dX5_skipBlanks_29 : decode cX5_skipBlanks 29 = .ok (.if_icmp .ne 16, 3) := by decide +kernel
theorem dX5_skipBlanks_32 : decode cX5_skipBlanks 32 = .ok (.aload_n 0, 1) := by decide +kernel
theorem dX5_skipBlanks_33 : decode cX5_skipBlanks 33 = .ok (.dup, 1) := by decide +kernel
theorem dX5_skipBlanks_34 : decode cX5_skipBlanks 34 = .ok (.getfield 34, 3) := by decide +kernel
theorem dX5_skipBlanks_37 : decode cX5_skipBlanks 37 = .ok (.iconst 1, 1) := by decide +kernel
theorem dX5_skipBlanks_38 : decode cX5_skipBlanks 38 = .ok (.iadd, 1) := by decide +kernel
theorem dX5_skipBlanks_39 : decode cX5_skipBlanks 39 = .ok (.putfield 34, 3) := by decide +kernel
theorem dX5_skipBlanks_42 : decode cX5_skipBlanks 42 = .ok (.goto (-42), 3) := by decide +kernel
theorem dX5_skipBlanks_45 : decode cX5_skipBlanks 45 = .ok (.return_, 1) := by decide +kernel
def lpX5_skipBlanks_0  : Nat → ST → (ST → Option (Unit × ST)) → Option (Unit × ST)
  | 0, _, _ => none
  | n + 1, k, cont => if (gI k 4 6) < 0 then cont k else if (gI k 4 7) ≤ (gI k 4 6) then cont k else ck (tx_K (gI k 4 5)) (ck (inb (gI k 4 6) 160) (if (gA k (ix (gI k 4 5) - 12) (ix (gI k 4 6))) = 32 then nm (sI k 4 6 ((gI k 4 6) + 1)) fun k5 => lpX5_skipBlanks_0 n k5 cont else cont k))
set_option maxRecDepth 20000 in
theorem zlpX5_skipBlanks_0 {p : Program} {l : Launch} {e : Env} {R : Room} {s : State} {m : MethodId} {args : Array Value} {below : List Frame} {meth : Method} {c : Code} {g : GT} (hC : HC p s m args meth c cX5_skipBlanks 1 RX5 none g) (hR : 0 ≤ R.frames ∧ 0 ≤ R.locals)   {cont : ST → Option (Unit × ST)} (hk : ∀  (k : ST), ZF p l e R s m args below meth c g TK voV 1 k 45 [(0, .ref (g.2.1 4))] [] (cont k)) : ∀ (n : Nat)  (k : ST), ZF p l e R s m args below meth c g TK voV 1 k 0 [(0, .ref (g.2.1 4))] [] (lpX5_skipBlanks_0 n k cont) := by
  intro n
  induction n with
  | zero => intros; exact zf_none
  | succ n ih =>
    intro k
    rw [lpX5_skipBlanks_0]
    refine zf_aload_n hC dX5_skipBlanks_0 rfl 0 rfl ?_
    refine gf_184 hC dX5_skipBlanks_1 ?_
    refine zf_if_lt hC (tgt := 45) dX5_skipBlanks_4 (by decide) (fun h1 => ?_) (fun h1 => ?_)
    · refine zf_lv (LV' := [(0, .ref (g.2.1 4))]) [0] rfl ?_
      exact hk k
    · refine zf_aload_n hC dX5_skipBlanks_7 rfl 0 rfl ?_
      refine gf_184 hC dX5_skipBlanks_8 ?_
      refine zf_aload_n hC dX5_skipBlanks_11 rfl 0 rfl ?_
      refine gf_185 hC dX5_skipBlanks_12 ?_
      refine zf_icmp_ge hC (tgt := 45) dX5_skipBlanks_15 (by decide) (fun h2 => ?_) (fun h2 => ?_)
      · refine zf_lv (LV' := [(0, .ref (g.2.1 4))]) [0] rfl ?_
        exact hk k
      · refine zf_aload_n hC dX5_skipBlanks_18 rfl 0 rfl ?_
        refine gf_183 hC dX5_skipBlanks_19 ?_
        refine zf_aload_n hC dX5_skipBlanks_22 rfl 0 rfl ?_
        refine gf_184 hC dX5_skipBlanks_23 ?_
        refine zf_iald_t hC dX5_skipBlanks_26 (fun h3 => ?_)
        refine zf_bipush hC (v := 32) dX5_skipBlanks_27 rfl ?_
        refine zf_icmp_ne hC (tgt := 45) dX5_skipBlanks_29 (by decide) (fun h4 => ?_) (fun h4 => ?_)
        · refine zf_aload_n hC dX5_skipBlanks_32 rfl 0 rfl ?_
          refine zf_dup hC dX5_skipBlanks_33 rfl ?_
          refine gf_184 hC dX5_skipBlanks_34 ?_
          refine zf_iconst hC (v := 1) dX5_skipBlanks_37 rfl ?_
          refine zf_iadd hC dX5_skipBlanks_38 ?_
          refine pf_184 hC dX5_skipBlanks_39 ?_
          refine zf_nmk (fun k5 => ?_)
          refine zf_goto hC (tgt := 0) dX5_skipBlanks_42 (by decide) ?_
          refine zf_lv (LV' := [(0, .ref (g.2.1 4))]) [0] rfl ?_
          exact ih k5
        · refine zf_lv (LV' := [(0, .ref (g.2.1 4))]) [0] rfl ?_
          exact hk k
def fX5_skipBlanks (k : ST)  : Option (Unit × ST) := lpX5_skipBlanks_0 FU k fun k6 => some ((), k6)
set_option maxRecDepth 20000 in
theorem c_X5_skipBlanks (l : Launch) (g : GT)  : CN l yX5_skipBlanks cX5_skipBlanks 1 none { frames := 0, cells := 0, slots := 0, locals := 0 } g TK voV [.ref (g.2.1 4)] (fun k => fX5_skipBlanks k) := by
  refine cn_of (by decide) (Nat.le_of_ble_eq_true rfl) ?_
  intro p e s m args below meth c hC k
  have hC : HC p s m args meth c cX5_skipBlanks 1 RX5 none g := hC
  have hR : 0 ≤ ({ frames := 0, cells := 0, slots := 0, locals := 0 } : Room).frames ∧ 0 ≤ ({ frames := 0, cells := 0, slots := 0, locals := 0 } : Room).locals := ⟨Nat.le_refl _, Nat.le_refl _⟩
  show ZF p l e _ s m args below meth c g TK voV 1 k 0 [(0, .ref (g.2.1 4))] [] (fX5_skipBlanks k)
  unfold fX5_skipBlanks
  refine zf_lv (LV' := [(0, .ref (g.2.1 4))]) [0] rfl ?_
  refine zlpX5_skipBlanks_0 hC hR (fun k6 => ?_) FU k
  exact zf_vret hC rfl dX5_skipBlanks_45
/-! LifeKeys.Rules.here -/
theorem dX5_here_0 : decode cX5_here 0 = .ok (.aload_n 0, 1) := by decide +kernel
theorem dX5_here_1 : decode cX5_here 1 = .ok (.getfield 46, 3) := by decide +kernel
theorem dX5_here_4 : decode cX5_here 4 = .ok (.iconst (-1), 1) := by decide +kernel
theorem dX5_here_5 : decode cX5_here 5 = .ok (.if_icmp .ne 33, 3) := by decide +kernel
theorem dX5_here_8 : decode cX5_here 8 = .ok (.aload_n 0, 1) := by decide +kernel
theorem dX5_here_9 : decode cX5_here 9 = .ok (.getfield 34, 3) := by decide +kernel
theorem dX5_here_12 : decode cX5_here 12 = .ok (.ifCond .lt 26, 3) := by decide +kernel
theorem dX5_here_15 : decode cX5_here 15 = .ok (.aload_n 0, 1) := by decide +kernel
theorem dX5_here_16 : decode cX5_here 16 = .ok (.getfield 34, 3) := by decide +kernel
theorem dX5_here_19 : decode cX5_here 19 = .ok (.aload_n 0, 1) := by decide +kernel
theorem dX5_here_20 : decode cX5_here 20 = .ok (.getfield 43, 3) := by decide +kernel
theorem dX5_here_23 : decode cX5_here 23 = .ok (.if_icmp .ge 15, 3) := by decide +kernel
theorem dX5_here_26 : decode cX5_here 26 = .ok (.aload_n 0, 1) := by decide +kernel
theorem dX5_here_27 : decode cX5_here 27 = .ok (.getfield 23, 3) := by decide +kernel
theorem dX5_here_30 : decode cX5_here 30 = .ok (.aload_n 0, 1) := by decide +kernel
theorem dX5_here_31 : decode cX5_here 31 = .ok (.getfield 34, 3) := by decide +kernel
theorem dX5_here_34 : decode cX5_here 34 = .ok (.iaload, 1) := by decide +kernel
theorem dX5_here_35 : decode cX5_here 35 = .ok (.goto 4, 3) := by decide +kernel
theorem dX5_here_38 : decode cX5_here 38 = .ok (.iconst 0, 1) := by decide +kernel
theorem dX5_here_39 : decode cX5_here 39 = .ok (.ireturn, 1) := by decide +kernel
def fX5_here (k : ST)  : Option (Int32 × ST) := if (gI k 4 8) = (-1) then if (gI k 4 6) < 0 then some (0, k) else if (gI k 4 7) ≤ (gI k 4 6) then some (0, k) else ck (tx_K (gI k 4 5)) (ck (inb (gI k 4 6) 160) (some (gA k (ix (gI k 4 5) - 12) (ix (gI k 4 6)), k))) else some (0, k)
set_option maxRecDepth 20000 in
theorem c_X5_here (l : Launch) (g : GT)  : CN l yX5_here cX5_here 1 (some .int) { frames := 0, cells := 0, slots := 0, locals := 0 } g TK voI [.ref (g.2.1 4)] (fun k => fX5_here k) := by
  refine cn_of (by decide) (Nat.le_of_ble_eq_true rfl) ?_
  intro p e s m args below meth c hC k
  have hC : HC p s m args meth c cX5_here 1 RX5 (some .int) g := hC
  have hR : 0 ≤ ({ frames := 0, cells := 0, slots := 0, locals := 0 } : Room).frames ∧ 0 ≤ ({ frames := 0, cells := 0, slots := 0, locals := 0 } : Room).locals := ⟨Nat.le_refl _, Nat.le_refl _⟩
  show ZF p l e _ s m args below meth c g TK voI 1 k 0 [(0, .ref (g.2.1 4))] [] (fX5_here k)
  unfold fX5_here
  refine zf_aload_n hC dX5_here_0 rfl 0 rfl ?_
  refine gf_186 hC dX5_here_1 ?_
  refine zf_iconst hC (v := (-1)) dX5_here_4 rfl ?_
  refine zf_icmp_ne hC (tgt := 38) dX5_here_5 (by decide) (fun h1 => ?_) (fun h1 => ?_)
  · refine zf_aload_n hC dX5_here_8 rfl 0 rfl ?_
    refine gf_184 hC dX5_here_9 ?_
    refine zf_if_lt hC (tgt := 38) dX5_here_12 (by decide) (fun h2 => ?_) (fun h2 => ?_)
    · refine zf_iconst hC (v := 0) dX5_here_38 rfl ?_
      exact zf_iret hC rfl dX5_here_39
    · refine zf_aload_n hC dX5_here_15 rfl 0 rfl ?_
      refine gf_184 hC dX5_here_16 ?_
      refine zf_aload_n hC dX5_here_19 rfl 0 rfl ?_
      refine gf_185 hC dX5_here_20 ?_
      refine zf_icmp_ge hC (tgt := 38) dX5_here_23 (by decide) (fun h3 => ?_) (fun h3 => ?_)
      · refine zf_iconst hC (v := 0) dX5_here_38 rfl ?_
        exact zf_iret hC rfl dX5_here_39
      · refine zf_aload_n hC dX5_here_26 rfl 0 rfl ?_
        refine gf_183 hC dX5_here_27 ?_
        refine zf_aload_n hC dX5_here_30 rfl 0 rfl ?_
        refine gf_184 hC dX5_here_31 ?_
        refine zf_iald_t hC dX5_here_34 (fun h4 => ?_)
        refine zf_goto hC (tgt := 39) dX5_here_35 (by decide) ?_
        exact zf_iret hC rfl dX5_here_39
  · refine zf_iconst hC (v := 0) dX5_here_38 rfl ?_
    exact zf_iret hC rfl dX5_here_39
/-! LifeKeys.Rules.passes -/
theorem dX5_passes_0 : decode cX5_passes 0 = .ok (.aload_n 0, 1) := by decide +kernel
theorem dX5_passes_1 : decode cX5_passes 1 = .ok (.invokevirtual 79, 3) := by decide +kernel
theorem dX5_passes_4 : decode cX5_passes 4 = .ok (.aload_n 0, 1) := by decide +kernel
theorem dX5_passes_5 : decode cX5_passes 5 = .ok (.invokevirtual 82, 3) := by decide +kernel
theorem dX5_passes_8 : decode cX5_passes 8 = .ok (.iload_n 1, 1) := by decide +kernel
theorem dX5_passes_9 : decode cX5_passes 9 = .ok (.if_icmp .eq 5, 3) := by decide +kernel
theorem dX5_passes_12 : decode cX5_passes 12 = .ok (.iconst 0, 1) := by decide +kernel
theorem dX5_passes_13 : decode cX5_passes 13 = .ok (.ireturn, 1) := by decide +kernel
theorem dX5_passes_14 : decode cX5_passes 14 = .ok (.aload_n 0, 1) := by decide +kernel
theorem dX5_passes_15 : decode cX5_passes 15 = .ok (.dup, 1) := by decide +kernel
theorem dX5_passes_16 : decode cX5_passes 16 = .ok (.getfield 34, 3) := by decide +kernel
theorem dX5_passes_19 : decode cX5_passes 19 = .ok (.iconst 1, 1) := by decide +kernel
theorem dX5_passes_20 : decode cX5_passes 20 = .ok (.iadd, 1) := by decide +kernel
theorem dX5_passes_21 : decode cX5_passes 21 = .ok (.putfield 34, 3) := by decide +kernel
theorem dX5_passes_24 : decode cX5_passes 24 = .ok (.iconst 1, 1) := by decide +kernel
theorem dX5_passes_25 : decode cX5_passes 25 = .ok (.ireturn, 1) := by decide +kernel
def fX5_passes (k : ST) (a0 : Int32) : Option (Bool × ST) := ob (fX5_skipBlanks k) fun r1 k2 => ob (fX5_here k2) fun r4 k5 => if r4 = a0 then nm (sI k5 4 6 ((gI k5 4 6) + 1)) fun k8 => some (true, k8) else some (false, k5)
set_option maxRecDepth 20000 in
theorem c_X5_passes (l : Launch) (g : GT) (a0 : Int32) : CN l yX5_passes cX5_passes 2 (some .boolean) { frames := 1, cells := 0, slots := 0, locals := 20 } g TK voB [.ref (g.2.1 4), .int a0] (fun k => fX5_passes k a0) := by
  refine cn_of (by decide) (Nat.le_of_ble_eq_true rfl) ?_
  intro p e s m args below meth c hC k
  have hC : HC p s m args meth c cX5_passes 2 RX5 (some .boolean) g := hC
  have hR : 1 ≤ ({ frames := 1, cells := 0, slots := 0, locals := 20 } : Room).frames ∧ 20 ≤ ({ frames := 1, cells := 0, slots := 0, locals := 20 } : Room).locals := ⟨Nat.le_refl _, Nat.le_refl _⟩
  show ZF p l e _ s m args below meth c g TK voB 2 k 0 [(0, .ref (g.2.1 4)), (1, .int a0)] [] (fX5_passes k a0)
  unfold fX5_passes
  refine zf_aload_n hC dX5_passes_0 rfl 0 rfl ?_
  refine zf_callV hC (c_X5_skipBlanks l g) mt_X5_skipBlanks wd_766 sp_13 ci_4 ic_4 wd_764 rfl (rm_le hR rfl) rfl rfl (rest := []) rfl (Nat.le_of_ble_eq_true rfl) dX5_passes_1 (fun r1 k2 h3 => ?_)
  refine zf_aload_n hC dX5_passes_4 rfl 0 rfl ?_
  refine zf_callV hC (c_X5_here l g) mt_X5_here wd_770 sp_14 ci_4 ic_4 wd_768 rfl (rm_le hR rfl) rfl rfl (rest := []) rfl (Nat.le_of_ble_eq_true rfl) dX5_passes_5 (fun r4 k5 h6 => ?_)
  refine zf_iload_n hC dX5_passes_8 rfl 1 rfl ?_
  refine zf_icmp_eq hC (tgt := 14) dX5_passes_9 (by decide) (fun h7 => ?_) (fun h7 => ?_)
  · refine zf_aload_n hC dX5_passes_14 rfl 0 rfl ?_
    refine zf_dup hC dX5_passes_15 rfl ?_
    refine gf_184 hC dX5_passes_16 ?_
    refine zf_iconst hC (v := 1) dX5_passes_19 rfl ?_
    refine zf_iadd hC dX5_passes_20 ?_
    refine pf_184 hC dX5_passes_21 ?_
    refine zf_nmk (fun k8 => ?_)
    refine zf_iconst hC (v := 1) dX5_passes_24 rfl ?_
    exact zf_zret hC rfl true rfl dX5_passes_25
  · refine zf_iconst hC (v := 0) dX5_passes_12 rfl ?_
    exact zf_zret hC rfl false rfl dX5_passes_13
/-! LifeKeys.Rules.write -/
theorem dX5_write_0 : decode cX5_write 0 = .ok (.aload_n 0, 1) := by decide +kernel
theorem dX5_write_1 : decode cX5_write 1 = .ok (.getfield 46, 3) := by decide +kernel
theorem dX5_write_4 : decode cX5_write 4 = .ok (.iconst (-1), 1) := by decide +kernel
theorem dX5_write_5 : decode cX5_write 5 = .ok (.if_icmp .ne 41, 3) := by decide +kernel
theorem dX5_write_8 : decode cX5_write 8 = .ok (.aload_n 0, 1) := by decide +kernel
theorem dX5_write_9 : decode cX5_write 9 = .ok (.getfield 49, 3) := by decide +kernel
theorem dX5_write_12 : decode cX5_write 12 = .ok (.aload_n 0, 1) := by decide +kernel
theorem dX5_write_13 : decode cX5_write 13 = .ok (.getfield 20, 3) := by decide +kernel
theorem dX5_write_16 : decode cX5_write 16 = .ok (.arraylength, 1) := by decide +kernel
theorem dX5_write_17 : decode cX5_write 17 = .ok (.if_icmp .ge 29, 3) := by decide +kernel
theorem dX5_write_20 : decode cX5_write 20 = .ok (.aload_n 0, 1) := by decide +kernel
theorem dX5_write_21 : decode cX5_write 21 = .ok (.getfield 20, 3) := by decide +kernel
theorem dX5_write_24 : decode cX5_write 24 = .ok (.aload_n 0, 1) := by decide +kernel
theorem dX5_write_25 : decode cX5_write 25 = .ok (.getfield 49, 3) := by decide +kernel
theorem dX5_write_28 : decode cX5_write 28 = .ok (.iload_n 1, 1) := by decide +kernel
theorem dX5_write_29 : decode cX5_write 29 = .ok (.sipush 256, 3) := by decide +kernel
theorem dX5_write_32 : decode cX5_write 32 = .ok (.iload_n 2, 1) := by decide +kernel
theorem dX5_write_33 : decode cX5_write 33 = .ok (.imul, 1) := by decide +kernel
theorem dX5_write_34 : decode cX5_write 34 = .ok (.iadd, 1) := by decide +kernel
theorem dX5_write_35 : decode cX5_write 35 = .ok (.iastore, 1) := by decide +kernel
theorem dX5_write_36 : decode cX5_write 36 = .ok (.aload_n 0, 1) := by decide +kernel
theorem dX5_write_37 : decode cX5_write 37 = .ok (.dup, 1) := by decide +kernel
theorem dX5_write_38 : decode cX5_write 38 = .ok (.getfield 49, 3) := by decide +kernel
theorem dX5_write_41 : decode cX5_write 41 = .ok (.iconst 1, 1) := by decide +kernel
theorem dX5_write_42 : decode cX5_write 42 = .ok (.iadd, 1) := by decide +kernel
theorem dX5_write_43 : decode cX5_write 43 = .ok (.putfield 49, 3) := by decide +kernel
theorem dX5_write_46 : decode cX5_write 46 = .ok (.return_, 1) := by decide +kernel
def fX5_write (k : ST) (a0 : Int32) (a1 : Int32) : Option (Unit × ST) := if (gI k 4 8) = (-1) then if 160 ≤ (gI k 4 4) then some ((), k) else ck (inb (gI k 4 4) 160) (nm (sA k 28 (ix (gI k 4 4)) (a0 + (256 * a1))) fun k4 => nm (sI k4 4 4 ((gI k4 4 4) + 1)) fun k5 => some ((), k5)) else some ((), k)
set_option maxRecDepth 20000 in
theorem c_X5_write (l : Launch) (g : GT) (a0 : Int32) (a1 : Int32) : CN l yX5_write cX5_write 3 none { frames := 0, cells := 0, slots := 0, locals := 0 } g TK voV [.ref (g.2.1 4), .int a0, .int a1] (fun k => fX5_write k a0 a1) := by
  refine cn_of (by decide) (Nat.le_of_ble_eq_true rfl) ?_
  intro p e s m args below meth c hC k
  have hC : HC p s m args meth c cX5_write 3 RX5 none g := hC
  have hR : 0 ≤ ({ frames := 0, cells := 0, slots := 0, locals := 0 } : Room).frames ∧ 0 ≤ ({ frames := 0, cells := 0, slots := 0, locals := 0 } : Room).locals := ⟨Nat.le_refl _, Nat.le_refl _⟩
  show ZF p l e _ s m args below meth c g TK voV 3 k 0 [(0, .ref (g.2.1 4)), (1, .int a0), (2, .int a1)] [] (fX5_write k a0 a1)
  unfold fX5_write
  refine zf_aload_n hC dX5_write_0 rfl 0 rfl ?_
  refine gf_186 hC dX5_write_1 ?_
  refine zf_iconst hC (v := (-1)) dX5_write_4 rfl ?_
  refine zf_icmp_ne hC (tgt := 46) dX5_write_5 (by decide) (fun h1 => ?_) (fun h1 => ?_)
  · refine zf_aload_n hC dX5_write_8 rfl 0 rfl ?_
    refine gf_182 hC dX5_write_9 ?_
    refine zf_aload_n hC dX5_write_12 rfl 0 rfl ?_
    refine gf_181 hC dX5_write_13 ?_
    refine zf_alen hC (j := 28) ia_28 (v := 160) rfl dX5_write_16 ?_
    refine zf_icmp_ge hC (tgt := 46) dX5_write_17 (by decide) (fun h2 => ?_) (fun h2 => ?_)
    · exact zf_vret hC rfl dX5_write_46
    · refine zf_aload_n hC dX5_write_20 rfl 0 rfl ?_
      refine gf_181 hC dX5_write_21 ?_
      refine zf_aload_n hC dX5_write_24 rfl 0 rfl ?_
      refine gf_182 hC dX5_write_25 ?_
      refine zf_iload_n hC dX5_write_28 rfl 1 rfl ?_
      refine zf_sipush hC (v := 256) dX5_write_29 rfl ?_
      refine zf_iload_n hC dX5_write_32 rfl 2 rfl ?_
      refine zf_imul hC dX5_write_33 ?_
      refine zf_iadd hC dX5_write_34 ?_
      refine zf_iast hC (j := 28) ia_28 rfl rfl dX5_write_35 (fun h3 => ?_)
      refine zf_nmk (fun k4 => ?_)
      refine zf_aload_n hC dX5_write_36 rfl 0 rfl ?_
      refine zf_dup hC dX5_write_37 rfl ?_
      refine gf_182 hC dX5_write_38 ?_
      refine zf_iconst hC (v := 1) dX5_write_41 rfl ?_
      refine zf_iadd hC dX5_write_42 ?_
      refine pf_182 hC dX5_write_43 ?_
      refine zf_nmk (fun k5 => ?_)
      exact zf_vret hC rfl dX5_write_46
  · exact zf_vret hC rfl dX5_write_46
/-! LifeKeys.Rules.stop -/
theorem dX5_stop_0 : decode cX5_stop 0 = .ok (.aload_n 0, 1) := by decide +kernel
theorem dX5_stop_1 : decode cX5_stop 1 = .ok (.getfield 46, 3) := by decide +kernel
theorem dX5_stop_4 : decode cX5_stop 4 = .ok (.iconst (-1), 1) := by decide +kernel
theorem dX5_stop_5 : decode cX5_stop 5 = .ok (.if_icmp .ne 8, 3) := by decide +kernel
theorem dX5_stop_8 : decode cX5_stop 8 = .ok (.aload_n 0, 1) := by decide +kernel
theorem dX5_stop_9 : decode cX5_stop 9 = .ok (.iload_n 1, 1) := by decide +kernel
theorem dX5_stop_10 : decode cX5_stop 10 = .ok (.putfield 46, 3) := by decide +kernel
theorem dX5_stop_13 : decode cX5_stop 13 = .ok (.return_, 1) := by decide +kernel
def fX5_stop (k : ST) (a0 : Int32) : Option (Unit × ST) := if (gI k 4 8) = (-1) then nm (sI k 4 8 a0) fun k2 => some ((), k2) else some ((), k)
set_option maxRecDepth 20000 in
theorem c_X5_stop (l : Launch) (g : GT) (a0 : Int32) : CN l yX5_stop cX5_stop 2 none { frames := 0, cells := 0, slots := 0, locals := 0 } g TK voV [.ref (g.2.1 4), .int a0] (fun k => fX5_stop k a0) := by
  refine cn_of (by decide) (Nat.le_of_ble_eq_true rfl) ?_
  intro p e s m args below meth c hC k
  have hC : HC p s m args meth c cX5_stop 2 RX5 none g := hC
  have hR : 0 ≤ ({ frames := 0, cells := 0, slots := 0, locals := 0 } : Room).frames ∧ 0 ≤ ({ frames := 0, cells := 0, slots := 0, locals := 0 } : Room).locals := ⟨Nat.le_refl _, Nat.le_refl _⟩
  show ZF p l e _ s m args below meth c g TK voV 2 k 0 [(0, .ref (g.2.1 4)), (1, .int a0)] [] (fX5_stop k a0)
  unfold fX5_stop
  refine zf_aload_n hC dX5_stop_0 rfl 0 rfl ?_
  refine gf_186 hC dX5_stop_1 ?_
  refine zf_iconst hC (v := (-1)) dX5_stop_4 rfl ?_
  refine zf_icmp_ne hC (tgt := 13) dX5_stop_5 (by decide) (fun h1 => ?_) (fun h1 => ?_)
  · refine zf_aload_n hC dX5_stop_8 rfl 0 rfl ?_
    refine zf_iload_n hC dX5_stop_9 rfl 1 rfl ?_
    refine pf_186 hC dX5_stop_10 ?_
    refine zf_nmk (fun k2 => ?_)
    exact zf_vret hC rfl dX5_stop_13
  · exact zf_vret hC rfl dX5_stop_13
/-! LifeKeys.Rules.isDigit -/
theorem dX5_isDigit_0 : decode cX5_isDigit 0 = .ok (.iload_n 0, 1) := by decide +kernel
theorem dX5_isDigit_1 : decode cX5_isDigit 1 = .ok (.bipush 48, 2) := by decide +kernel
theorem dX5_isDigit_3 : decode cX5_isDigit 3 = .ok (.if_icmp .lt 13, 3) := by decide +kernel
theorem dX5_isDigit_6 : decode cX5_isDigit 6 = .ok (.iload_n 0, 1) := by decide +kernel
theorem dX5_isDigit_7 : decode cX5_isDigit 7 = .ok (.bipush 57, 2) := by decide +kernel
theorem dX5_isDigit_9 : decode cX5_isDigit 9 = .ok (.if_icmp .gt 7, 3) := by decide +kernel
theorem dX5_isDigit_12 : decode cX5_isDigit 12 = .ok (.iconst 1, 1) := by decide +kernel
theorem dX5_isDigit_13 : decode cX5_isDigit 13 = .ok (.goto 4, 3) := by decide +kernel
theorem dX5_isDigit_16 : decode cX5_isDigit 16 = .ok (.iconst 0, 1) := by decide +kernel
theorem dX5_isDigit_17 : decode cX5_isDigit 17 = .ok (.ireturn, 1) := by decide +kernel
def fX5_isDigit (k : ST) (a0 : Int32) : Option (Bool × ST) := if a0 < 48 then some (false, k) else if 57 < a0 then some (false, k) else some (true, k)
set_option maxRecDepth 20000 in
theorem c_X5_isDigit (l : Launch) (g : GT) (T : TT) (a0 : Int32) : CN l yX5_isDigit cX5_isDigit 1 (some .boolean) { frames := 0, cells := 0, slots := 0, locals := 0 } g T voB [.int a0] (fun k => fX5_isDigit k a0) := by
  refine cn_of (by decide) (Nat.le_of_ble_eq_true rfl) ?_
  intro p e s m args below meth c hC k
  have hC : HC p s m args meth c cX5_isDigit 1 RX5 (some .boolean) g := hC
  have hR : 0 ≤ ({ frames := 0, cells := 0, slots := 0, locals := 0 } : Room).frames ∧ 0 ≤ ({ frames := 0, cells := 0, slots := 0, locals := 0 } : Room).locals := ⟨Nat.le_refl _, Nat.le_refl _⟩
  show ZF p l e _ s m args below meth c g T voB 1 k 0 [(0, .int a0)] [] (fX5_isDigit k a0)
  unfold fX5_isDigit
  refine zf_iload_n hC dX5_isDigit_0 rfl 0 rfl ?_
  refine zf_bipush hC (v := 48) dX5_isDigit_1 rfl ?_
  refine zf_icmp_lt hC (tgt := 16) dX5_isDigit_3 (by decide) (fun h1 => ?_) (fun h1 => ?_)
  · refine zf_iconst hC (v := 0) dX5_isDigit_16 rfl ?_
    exact zf_zret hC rfl false rfl dX5_isDigit_17
  · refine zf_iload_n hC dX5_isDigit_6 rfl 0 rfl ?_
    refine zf_bipush hC (v := 57) dX5_isDigit_7 rfl ?_
    refine zf_icmp_gt hC (tgt := 16) dX5_isDigit_9 (by decide) (fun h2 => ?_) (fun h2 => ?_)
    · refine zf_iconst hC (v := 0) dX5_isDigit_16 rfl ?_
      exact zf_zret hC rfl false rfl dX5_isDigit_17
    · refine zf_iconst hC (v := 1) dX5_isDigit_12 rfl ?_
      refine zf_goto hC (tgt := 17) dX5_isDigit_13 (by decide) ?_
      exact zf_zret hC rfl true rfl dX5_isDigit_17
/-! LifeKeys.Rules.number -/
theorem dX5_number_0 : decode cX5_number 0 = .ok (.aload_n 0, 1) := by decide +kernel
theorem dX5_number_1 : decode cX5_number 1 = .ok (.invokevirtual 79, 3) := by decide +kernel
theorem dX5_number_4 : decode cX5_number 4 = .ok (.iconst 0, 1) := by decide +kernel
theorem dX5_number_5 : decode cX5_number 5 = .ok (.istore_n 2, 1) := by decide +kernel
theorem dX5_number_6 : decode cX5_number 6 = .ok (.iconst 0, 1) := by decide +kernel
theorem dX5_number_7 : decode cX5_number 7 = .ok (.istore_n 3, 1) := by decide +kernel
theorem dX5_number_8 : decode cX5_number 8 = .ok (.iload_n 3, 1) := by decide +kernel
theorem dX5_number_9 : decode cX5_number 9 = .ok (.iconst 3, 1) := by decide +kernel
theorem dX5_number_10 : decode cX5_number 10 = .ok (.if_icmp .ge 42, 3) := by decide +kernel
theorem dX5_number_13 : decode cX5_number 13 = .ok (.aload_n 0, 1) := by decide +kernel
theorem dX5_number_14 : decode cX5_number 14 = .ok (.invokevirtual 82, 3) := by decide +kernel
theorem dX5_number_17 : decode cX5_number 17 = .ok (.invokestatic 92, 3) := by decide +kernel
theorem dX5_number_20 : decode cX5_number 20 = .ok (.ifCond .eq 32, 3) := by decide +kernel
theorem dX5_number_23 : decode cX5_number 23 = .ok (.bipush 10, 2) := by decide +kernel
theorem dX5_number_25 : decode cX5_number 25 = .ok (.iload_n 2, 1) := by decide +kernel
theorem dX5_number_26 : decode cX5_number 26 = .ok (.imul, 1) := by decide +kernel
theorem dX5_number_27 : decode cX5_number 27 = .ok (.aload_n 0, 1) := by decide +kernel
theorem dX5_number_28 : decode cX5_number 28 = .ok (.invokevirtual 82, 3) := by decide +kernel
theorem dX5_number_31 : decode cX5_number 31 = .ok (.iadd, 1) := by decide +kernel
theorem dX5_number_32 : decode cX5_number 32 = .ok (.bipush 48, 2) := by decide +kernel
theorem dX5_number_34 : decode cX5_number 34 = .ok (.isub, 1) := by decide +kernel
theorem dX5_number_35 : decode cX5_number 35 = .ok (.istore_n 2, 1) := by decide +kernel
theorem dX5_number_36 : decode cX5_number 36 = .ok (.aload_n 0, 1) := by decide +kernel
theorem dX5_number_37 : decode cX5_number 37 = .ok (.dup, 1) := by decide +kernel
theorem dX5_number_38 : decode cX5_number 38 = .ok (.getfield 34, 3) := by decide +kernel
theorem dX5_number_41 : decode cX5_number 41 = .ok (.iconst 1, 1) := by decide +kernel
theorem dX5_number_42 : decode cX5_number 42 = .ok (.iadd, 1) := by decide +kernel
theorem dX5_number_43 : decode cX5_number 43 = .ok (.putfield 34, 3) := by decide +kernel
theorem dX5_number_46 : decode cX5_number 46 = .ok (.iinc 3 1, 3) := by decide +kernel
theorem dX5_number_49 : decode cX5_number 49 = .ok (.goto (-41), 3) := by decide +kernel
theorem dX5_number_52 : decode cX5_number 52 = .ok (.iload_n 3, 1) := by decide +kernel
theorem dX5_number_53 : decode cX5_number 53 = .ok (.ifCond .eq 13, 3) := by decide +kernel
theorem dX5_number_56 : decode cX5_number 56 = .ok (.aload_n 0, 1) := by decide +kernel
theorem dX5_number_57 : decode cX5_number 57 = .ok (.invokevirtual 82, 3) := by decide +kernel
theorem dX5_number_60 : decode cX5_number 60 = .ok (.invokestatic 92, 3) := by decide +kernel
theorem dX5_number_63 : decode cX5_number 63 = .ok (.ifCond .eq 14, 3) := by decide +kernel
theorem dX5_number_66 : decode cX5_number 66 = .ok (.aload_n 0, 1) := by decide +kernel
theorem dX5_number_67 : decode cX5_number 67 = .ok (.aload_n 0, 1) := by decide +kernel
theorem dX5_number_68 : decode cX5_number 68 = .ok (.getfield 34, 3) := by decide +kernel
theorem dX5_number_71 : decode cX5_number 71 = .ok (.invokevirtual 56, 3) := by decide +kernel
theorem dX5_number_74 : decode cX5_number 74 = .ok (.goto 18, 3) := by decide +kernel
theorem dX5_number_77 : decode cX5_number 77 = .ok (.iload_n 2, 1) := by decide +kernel
theorem dX5_number_78 : decode cX5_number 78 = .ok (.iload_n 1, 1) := by decide +kernel
theorem dX5_number_79 : decode cX5_number 79 = .ok (.if_icmp .le 13, 3) := by decide +kernel
theorem dX5_number_82 : decode cX5_number 82 = .ok (.aload_n 0, 1) := by decide +kernel
theorem dX5_number_83 : decode cX5_number 83 = .ok (.aload_n 0, 1) := by decide +kernel
theorem dX5_number_84 : decode cX5_number 84 = .ok (.getfield 34, 3) := by decide +kernel
theorem dX5_number_87 : decode cX5_number 87 = .ok (.iconst 1, 1) := by decide +kernel
theorem dX5_number_88 : decode cX5_number 88 = .ok (.isub, 1) := by decide +kernel
theorem dX5_number_89 : decode cX5_number 89 = .ok (.invokevirtual 56, 3) := by decide +kernel
theorem dX5_number_92 : decode cX5_number 92 = .ok (.iload_n 2, 1) := by decide +kernel
theorem dX5_number_93 : decode cX5_number 93 = .ok (.ireturn, 1) := by decide +kernel
def lpX5_number_8 (v1 : Int32) : Nat → Int32 → Int32 → ST → (Int32 → Int32 → ST → Option (Int32 × ST)) → Option (Int32 × ST)
  | 0, _, _, _, _ => none
  | n + 1, v2, v3, k, cont => if 3 ≤ v3 then cont v2 v3 k else ob (fX5_here k) fun r5 k6 => ob (fX5_isDigit k6 r5) fun r8 k9 => if r8 = true then ob (fX5_here k9) fun r12 k13 => nm (sI k13 4 6 ((gI k13 4 6) + 1)) fun k15 => lpX5_number_8 v1 n (((10 * v2) + r12) - 48) (v3 + 1) k15 cont else cont v2 v3 k9
def jbX5_number_52 (v1 : Int32) (v2 : Int32) (v3 : Int32)  (k : ST) : Option (Int32 × ST) := if v3 = 0 then ob (fX5_stop k (gI k 4 6)) fun r20 k21 => some (v2, k21) else ob (fX5_here k) fun r23 k24 => ob (fX5_isDigit k24 r23) fun r26 k27 => if r26 = true then ob (fX5_stop k27 (gI k27 4 6)) fun r30 k31 => some (v2, k31) else if v2 ≤ v1 then some (v2, k27) else ob (fX5_stop k27 ((gI k27 4 6) - 1)) fun r34 k35 => some (v2, k35)
set_option maxRecDepth 20000 in
theorem zlpX5_number_8 {p : Program} {l : Launch} {e : Env} {R : Room} {s : State} {m : MethodId} {args : Array Value} {below : List Frame} {meth : Method} {c : Code} {g : GT} (hC : HC p s m args meth c cX5_number 4 RX5 (some .int) g) (hR : 1 ≤ R.frames ∧ 21 ≤ R.locals)  (v1 : Int32) {cont : Int32 → Int32 → ST → Option (Int32 × ST)} (hk : ∀ (v2 : Int32) (v3 : Int32) (k : ST), ZF p l e R s m args below meth c g TK voI 4 k 52 [(0, .ref (g.2.1 4)), (1, .int v1), (2, .int v2), (3, .int v3)] [] (cont v2 v3 k)) : ∀ (n : Nat) (v2 : Int32) (v3 : Int32) (k : ST), ZF p l e R s m args below meth c g TK voI 4 k 8 [(0, .ref (g.2.1 4)), (1, .int v1), (2, .int v2), (3, .int v3)] [] (lpX5_number_8 v1 n v2 v3 k cont) := by
  intro n
  induction n with
  | zero => intros; exact zf_none
  | succ n ih =>
    intro v2 v3 k
    rw [lpX5_number_8]
    refine zf_iload_n hC dX5_number_8 rfl 3 rfl ?_
    refine zf_iconst hC (v := 3) dX5_number_9 rfl ?_
    refine zf_icmp_ge hC (tgt := 52) dX5_number_10 (by decide) (fun h4 => ?_) (fun h4 => ?_)
    · refine zf_lv (LV' := [(0, .ref (g.2.1 4)), (1, .int v1), (2, .int v2), (3, .int v3)]) [0, 1, 2, 3] rfl ?_
      exact hk v2 v3 k
    · refine zf_aload_n hC dX5_number_13 rfl 0 rfl ?_
      refine zf_callV hC (c_X5_here l g) mt_X5_here wd_770 sp_14 ci_4 ic_4 wd_768 rfl (rm_le hR rfl) rfl rfl (rest := []) rfl (Nat.le_of_ble_eq_true rfl) dX5_number_14 (fun r5 k6 h7 => ?_)
      refine zf_callS hC (c_X5_isDigit l g TK r5) mt_X5_isDigit wd_793 wd_792 rfl (rm_le hR rfl) rfl rfl (rest := []) rfl (Nat.le_of_ble_eq_true rfl) dX5_number_17 (fun r8 k9 h10 => ?_)
      refine zf_ifb_eq hC (tgt := 52) dX5_number_20 (by decide) (fun h11 => ?_) (fun h11 => ?_)
      · refine zf_bipush hC (v := 10) dX5_number_23 rfl ?_
        refine zf_iload_n hC dX5_number_25 rfl 2 rfl ?_
        refine zf_imul hC dX5_number_26 ?_
        refine zf_aload_n hC dX5_number_27 rfl 0 rfl ?_
        refine zf_callV hC (c_X5_here l g) mt_X5_here wd_770 sp_14 ci_4 ic_4 wd_768 rfl (rm_le hR rfl) rfl rfl (rest := [.int (10 * v2)]) rfl (Nat.le_of_ble_eq_true rfl) dX5_number_28 (fun r12 k13 h14 => ?_)
        refine zf_iadd hC dX5_number_31 ?_
        refine zf_bipush hC (v := 48) dX5_number_32 rfl ?_
        refine zf_isub hC dX5_number_34 ?_
        refine zf_istore_n hC (LV' := [(2, .int (((10 * v2) + r12) - 48)), (0, .ref (g.2.1 4)), (1, .int v1), (3, .int v3)]) dX5_number_35 rfl (by decide) rfl ?_
        refine zf_aload_n hC dX5_number_36 rfl 1 rfl ?_
        refine zf_dup hC dX5_number_37 rfl ?_
        refine gf_184 hC dX5_number_38 ?_
        refine zf_iconst hC (v := 1) dX5_number_41 rfl ?_
        refine zf_iadd hC dX5_number_42 ?_
        refine pf_184 hC dX5_number_43 ?_
        refine zf_nmk (fun k15 => ?_)
        refine zf_iinc hC (q := 3) (v := v3 + 1) (LV' := [(3, .int (v3 + 1)), (2, .int (((10 * v2) + r12) - 48)), (0, .ref (g.2.1 4)), (1, .int v1)]) dX5_number_46 rfl rfl (by decide) rfl ?_
        refine zf_goto hC (tgt := 8) dX5_number_49 (by decide) ?_
        refine zf_lv (LV' := [(0, .ref (g.2.1 4)), (1, .int v1), (2, .int (((10 * v2) + r12) - 48)), (3, .int (v3 + 1))]) [2, 3, 1, 0] rfl ?_
        exact ih (((10 * v2) + r12) - 48) (v3 + 1) k15
      · refine zf_lv (LV' := [(0, .ref (g.2.1 4)), (1, .int v1), (2, .int v2), (3, .int v3)]) [0, 1, 2, 3] rfl ?_
        exact hk v2 v3 k9
set_option maxRecDepth 20000 in
theorem zjbX5_number_52 {p : Program} {l : Launch} {e : Env} {R : Room} {s : State} {m : MethodId} {args : Array Value} {below : List Frame} {meth : Method} {c : Code} {g : GT} (hC : HC p s m args meth c cX5_number 4 RX5 (some .int) g) (hR : 1 ≤ R.frames ∧ 21 ≤ R.locals)  (v1 : Int32) (v2 : Int32) (v3 : Int32)  (k : ST) : ZF p l e R s m args below meth c g TK voI 4 k 52 [(0, .ref (g.2.1 4)), (1, .int v1), (2, .int v2), (3, .int v3)] [] (jbX5_number_52  v1 v2 v3 k) := by
  unfold jbX5_number_52
  refine zf_iload_n hC dX5_number_52 rfl 3 rfl ?_
  refine zf_if_eq hC (tgt := 66) dX5_number_53 (by decide) (fun h19 => ?_) (fun h19 => ?_)
  · refine zf_aload_n hC dX5_number_66 rfl 0 rfl ?_
    refine zf_aload_n hC dX5_number_67 rfl 0 rfl ?_
    refine gf_184 hC dX5_number_68 ?_
    refine zf_callV hC (c_X5_stop l g (gI k 4 6)) mt_X5_stop wd_778 sp_16 ci_4 ic_4 wd_776 rfl (rm_le hR rfl) rfl rfl (rest := []) rfl (Nat.le_of_ble_eq_true rfl) dX5_number_71 (fun r20 k21 h22 => ?_)
    refine zf_goto hC (tgt := 92) dX5_number_74 (by decide) ?_
    refine zf_iload_n hC dX5_number_92 rfl 2 rfl ?_
    exact zf_iret hC rfl dX5_number_93
  · refine zf_aload_n hC dX5_number_56 rfl 0 rfl ?_
    refine zf_callV hC (c_X5_here l g) mt_X5_here wd_770 sp_14 ci_4 ic_4 wd_768 rfl (rm_le hR rfl) rfl rfl (rest := []) rfl (Nat.le_of_ble_eq_true rfl) dX5_number_57 (fun r23 k24 h25 => ?_)
    refine zf_callS hC (c_X5_isDigit l g TK r23) mt_X5_isDigit wd_793 wd_792 rfl (rm_le hR rfl) rfl rfl (rest := []) rfl (Nat.le_of_ble_eq_true rfl) dX5_number_60 (fun r26 k27 h28 => ?_)
    refine zf_ifb_eq hC (tgt := 77) dX5_number_63 (by decide) (fun h29 => ?_) (fun h29 => ?_)
    · refine zf_aload_n hC dX5_number_66 rfl 0 rfl ?_
      refine zf_aload_n hC dX5_number_67 rfl 0 rfl ?_
      refine gf_184 hC dX5_number_68 ?_
      refine zf_callV hC (c_X5_stop l g (gI k27 4 6)) mt_X5_stop wd_778 sp_16 ci_4 ic_4 wd_776 rfl (rm_le hR rfl) rfl rfl (rest := []) rfl (Nat.le_of_ble_eq_true rfl) dX5_number_71 (fun r30 k31 h32 => ?_)
      refine zf_goto hC (tgt := 92) dX5_number_74 (by decide) ?_
      refine zf_iload_n hC dX5_number_92 rfl 2 rfl ?_
      exact zf_iret hC rfl dX5_number_93
    · refine zf_iload_n hC dX5_number_77 rfl 2 rfl ?_
      refine zf_iload_n hC dX5_number_78 rfl 1 rfl ?_
      refine zf_icmp_le hC (tgt := 92) dX5_number_79 (by decide) (fun h33 => ?_) (fun h33 => ?_)
      · refine zf_iload_n hC dX5_number_92 rfl 2 rfl ?_
        exact zf_iret hC rfl dX5_number_93
      · refine zf_aload_n hC dX5_number_82 rfl 0 rfl ?_
        refine zf_aload_n hC dX5_number_83 rfl 0 rfl ?_
        refine gf_184 hC dX5_number_84 ?_
        refine zf_iconst hC (v := 1) dX5_number_87 rfl ?_
        refine zf_isub hC dX5_number_88 ?_
        refine zf_callV hC (c_X5_stop l g ((gI k27 4 6) - 1)) mt_X5_stop wd_778 sp_16 ci_4 ic_4 wd_776 rfl (rm_le hR rfl) rfl rfl (rest := []) rfl (Nat.le_of_ble_eq_true rfl) dX5_number_89 (fun r34 k35 h36 => ?_)
        refine zf_iload_n hC dX5_number_92 rfl 2 rfl ?_
        exact zf_iret hC rfl dX5_number_93
def fX5_number (k : ST) (a0 : Int32) : Option (Int32 × ST) := ob (fX5_skipBlanks k) fun r1 k2 => lpX5_number_8 a0 FU 0 0 k2 fun y16 y17 k18 => jbX5_number_52 a0 y16 y17 k18
set_option maxRecDepth 20000 in
theorem c_X5_number (l : Launch) (g : GT) (a0 : Int32) : CN l yX5_number cX5_number 4 (some .int) { frames := 1, cells := 0, slots := 0, locals := 21 } g TK voI [.ref (g.2.1 4), .int a0] (fun k => fX5_number k a0) := by
  refine cn_of (by decide) (Nat.le_of_ble_eq_true rfl) ?_
  intro p e s m args below meth c hC k
  have hC : HC p s m args meth c cX5_number 4 RX5 (some .int) g := hC
  have hR : 1 ≤ ({ frames := 1, cells := 0, slots := 0, locals := 21 } : Room).frames ∧ 21 ≤ ({ frames := 1, cells := 0, slots := 0, locals := 21 } : Room).locals := ⟨Nat.le_refl _, Nat.le_refl _⟩
  show ZF p l e _ s m args below meth c g TK voI 4 k 0 [(0, .ref (g.2.1 4)), (1, .int a0)] [] (fX5_number k a0)
  unfold fX5_number
  refine zf_aload_n hC dX5_number_0 rfl 0 rfl ?_
  refine zf_callV hC (c_X5_skipBlanks l g) mt_X5_skipBlanks wd_766 sp_13 ci_4 ic_4 wd_764 rfl (rm_le hR rfl) rfl rfl (rest := []) rfl (Nat.le_of_ble_eq_true rfl) dX5_number_1 (fun r1 k2 h3 => ?_)
  refine zf_iconst hC (v := 0) dX5_number_4 rfl ?_
  refine zf_istore_n hC (LV' := [(2, .int 0), (0, .ref (g.2.1 4)), (1, .int a0)]) dX5_number_5 rfl (by decide) rfl ?_
  refine zf_iconst hC (v := 0) dX5_number_6 rfl ?_
  refine zf_istore_n hC (LV' := [(3, .int 0), (2, .int 0), (0, .ref (g.2.1 4)), (1, .int a0)]) dX5_number_7 rfl (by decide) rfl ?_
  refine zf_lv (LV' := [(0, .ref (g.2.1 4)), (1, .int a0), (2, .int 0), (3, .int 0)]) [2, 3, 1, 0] rfl ?_
  refine zlpX5_number_8 hC hR a0 (fun y16 y17 k18 => ?_) FU 0 0 k2
  exact zjbX5_number_52 hC hR a0 y16 y17 k18
/-! LifeKeys.Rules.enters -/
theorem dX5_enters_0 : decode cX5_enters 0 = .ok (.iload_n 1, 1) := by decide +kernel
theorem dX5_enters_1 : decode cX5_enters 1 = .ok (.bipush 8, 2) := by decide +kernel
theorem dX5_enters_3 : decode cX5_enters 3 = .ok (.if_icmp .lt 13, 3) := by decide +kernel
theorem dX5_enters_6 : decode cX5_enters 6 = .ok (.aload_n 0, 1) := by decide +kernel
theorem dX5_enters_7 : decode cX5_enters 7 = .ok (.aload_n 0, 1) := by decide +kernel
theorem dX5_enters_8 : decode cX5_enters 8 = .ok (.getfield 34, 3) := by decide +kernel
theorem dX5_enters_11 : decode cX5_enters 11 = .ok (.invokevirtual 56, 3) := by decide +kernel
theorem dX5_enters_14 : decode cX5_enters 14 = .ok (.iconst 0, 1) := by decide +kernel
theorem dX5_enters_15 : decode cX5_enters 15 = .ok (.ireturn, 1) := by decide +kernel
theorem dX5_enters_16 : decode cX5_enters 16 = .ok (.aload_n 0, 1) := by decide +kernel
theorem dX5_enters_17 : decode cX5_enters 17 = .ok (.dup, 1) := by decide +kernel
theorem dX5_enters_18 : decode cX5_enters 18 = .ok (.getfield 34, 3) := by decide +kernel
theorem dX5_enters_21 : decode cX5_enters 21 = .ok (.iconst 1, 1) := by decide +kernel
theorem dX5_enters_22 : decode cX5_enters 22 = .ok (.iadd, 1) := by decide +kernel
theorem dX5_enters_23 : decode cX5_enters 23 = .ok (.putfield 34, 3) := by decide +kernel
theorem dX5_enters_26 : decode cX5_enters 26 = .ok (.iconst 1, 1) := by decide +kernel
theorem dX5_enters_27 : decode cX5_enters 27 = .ok (.ireturn, 1) := by decide +kernel
def fX5_enters (k : ST) (a0 : Int32) : Option (Bool × ST) := if a0 < 8 then nm (sI k 4 6 ((gI k 4 6) + 1)) fun k2 => some (true, k2) else ob (fX5_stop k (gI k 4 6)) fun r3 k4 => some (false, k4)
set_option maxRecDepth 20000 in
theorem c_X5_enters (l : Launch) (g : GT) (a0 : Int32) : CN l yX5_enters cX5_enters 2 (some .boolean) { frames := 1, cells := 0, slots := 0, locals := 21 } g TK voB [.ref (g.2.1 4), .int a0] (fun k => fX5_enters k a0) := by
  refine cn_of (by decide) (Nat.le_of_ble_eq_true rfl) ?_
  intro p e s m args below meth c hC k
  have hC : HC p s m args meth c cX5_enters 2 RX5 (some .boolean) g := hC
  have hR : 1 ≤ ({ frames := 1, cells := 0, slots := 0, locals := 21 } : Room).frames ∧ 21 ≤ ({ frames := 1, cells := 0, slots := 0, locals := 21 } : Room).locals := ⟨Nat.le_refl _, Nat.le_refl _⟩
  show ZF p l e _ s m args below meth c g TK voB 2 k 0 [(0, .ref (g.2.1 4)), (1, .int a0)] [] (fX5_enters k a0)
  unfold fX5_enters
  refine zf_iload_n hC dX5_enters_0 rfl 1 rfl ?_
  refine zf_bipush hC (v := 8) dX5_enters_1 rfl ?_
  refine zf_icmp_lt hC (tgt := 16) dX5_enters_3 (by decide) (fun h1 => ?_) (fun h1 => ?_)
  · refine zf_aload_n hC dX5_enters_16 rfl 0 rfl ?_
    refine zf_dup hC dX5_enters_17 rfl ?_
    refine gf_184 hC dX5_enters_18 ?_
    refine zf_iconst hC (v := 1) dX5_enters_21 rfl ?_
    refine zf_iadd hC dX5_enters_22 ?_
    refine pf_184 hC dX5_enters_23 ?_
    refine zf_nmk (fun k2 => ?_)
    refine zf_iconst hC (v := 1) dX5_enters_26 rfl ?_
    exact zf_zret hC rfl true rfl dX5_enters_27
  · refine zf_aload_n hC dX5_enters_6 rfl 0 rfl ?_
    refine zf_aload_n hC dX5_enters_7 rfl 0 rfl ?_
    refine gf_184 hC dX5_enters_8 ?_
    refine zf_callV hC (c_X5_stop l g (gI k 4 6)) mt_X5_stop wd_778 sp_16 ci_4 ic_4 wd_776 rfl (rm_le hR rfl) rfl rfl (rest := []) rfl (Nat.le_of_ble_eq_true rfl) dX5_enters_11 (fun r3 k4 h5 => ?_)
    refine zf_iconst hC (v := 0) dX5_enters_14 rfl ?_
    exact zf_zret hC rfl false rfl dX5_enters_15
/-! LifeKeys.Rules.fact -/
theorem dX5_fact_0 : decode cX5_fact 0 = .ok (.iload_n 1, 1) := by decide +kernel
theorem dX5_fact_1 : decode cX5_fact 1 = .ok (.bipush 104, 2) := by decide +kernel
theorem dX5_fact_3 : decode cX5_fact 3 = .ok (.if_icmp .eq 15, 3) := by decide +kernel
theorem dX5_fact_6 : decode cX5_fact 6 = .ok (.iload_n 1, 1) := by decide +kernel
theorem dX5_fact_7 : decode cX5_fact 7 = .ok (.bipush 110, 2) := by decide +kernel
theorem dX5_fact_9 : decode cX5_fact 9 = .ok (.if_icmp .eq 9, 3) := by decide +kernel
theorem dX5_fact_12 : decode cX5_fact 12 = .ok (.iload_n 1, 1) := by decide +kernel
theorem dX5_fact_13 : decode cX5_fact 13 = .ok (.bipush 100, 2) := by decide +kernel
theorem dX5_fact_15 : decode cX5_fact 15 = .ok (.if_icmp .ne 7, 3) := by decide +kernel
theorem dX5_fact_18 : decode cX5_fact 18 = .ok (.iconst 1, 1) := by decide +kernel
theorem dX5_fact_19 : decode cX5_fact 19 = .ok (.goto 4, 3) := by decide +kernel
theorem dX5_fact_22 : decode cX5_fact 22 = .ok (.iconst 0, 1) := by decide +kernel
theorem dX5_fact_23 : decode cX5_fact 23 = .ok (.istore_n 2, 1) := by decide +kernel
theorem dX5_fact_24 : decode cX5_fact 24 = .ok (.iload_n 2, 1) := by decide +kernel
theorem dX5_fact_25 : decode cX5_fact 25 = .ok (.ifCond .ne 9, 3) := by decide +kernel
theorem dX5_fact_28 : decode cX5_fact 28 = .ok (.iload_n 1, 1) := by decide +kernel
theorem dX5_fact_29 : decode cX5_fact 29 = .ok (.bipush 119, 2) := by decide +kernel
theorem dX5_fact_31 : decode cX5_fact 31 = .ok (.if_icmp .ne 37, 3) := by decide +kernel
theorem dX5_fact_34 : decode cX5_fact 34 = .ok (.aload_n 0, 1) := by decide +kernel
theorem dX5_fact_35 : decode cX5_fact 35 = .ok (.dup, 1) := by decide +kernel
theorem dX5_fact_36 : decode cX5_fact 36 = .ok (.getfield 34, 3) := by decide +kernel
theorem dX5_fact_39 : decode cX5_fact 39 = .ok (.iconst 1, 1) := by decide +kernel
theorem dX5_fact_40 : decode cX5_fact 40 = .ok (.iadd, 1) := by decide +kernel
theorem dX5_fact_41 : decode cX5_fact 41 = .ok (.putfield 34, 3) := by decide +kernel
theorem dX5_fact_44 : decode cX5_fact 44 = .ok (.aload_n 0, 1) := by decide +kernel
theorem dX5_fact_45 : decode cX5_fact 45 = .ok (.iload_n 1, 1) := by decide +kernel
theorem dX5_fact_46 : decode cX5_fact 46 = .ok (.aload_n 0, 1) := by decide +kernel
theorem dX5_fact_47 : decode cX5_fact 47 = .ok (.iload_n 2, 1) := by decide +kernel
theorem dX5_fact_48 : decode cX5_fact 48 = .ok (.ifCond .eq 8, 3) := by decide +kernel
theorem dX5_fact_51 : decode cX5_fact 51 = .ok (.bipush 11, 2) := by decide +kernel
theorem dX5_fact_53 : decode cX5_fact 53 = .ok (.goto 6, 3) := by decide +kernel
theorem dX5_fact_56 : decode cX5_fact 56 = .ok (.sipush 999, 3) := by decide +kernel
theorem dX5_fact_59 : decode cX5_fact 59 = .ok (.invokevirtual 101, 3) := by decide +kernel
theorem dX5_fact_62 : decode cX5_fact 62 = .ok (.invokevirtual 72, 3) := by decide +kernel
theorem dX5_fact_65 : decode cX5_fact 65 = .ok (.goto 11, 3) := by decide +kernel
theorem dX5_fact_68 : decode cX5_fact 68 = .ok (.aload_n 0, 1) := by decide +kernel
theorem dX5_fact_69 : decode cX5_fact 69 = .ok (.aload_n 0, 1) := by decide +kernel
theorem dX5_fact_70 : decode cX5_fact 70 = .ok (.getfield 34, 3) := by decide +kernel
theorem dX5_fact_73 : decode cX5_fact 73 = .ok (.invokevirtual 56, 3) := by decide +kernel
theorem dX5_fact_76 : decode cX5_fact 76 = .ok (.return_, 1) := by decide +kernel
def jbX5_fact_34 (v1 : Int32) (v2 : Int32)  (k : ST) : Option (Unit × ST) := nm (sI k 4 6 ((gI k 4 6) + 1)) fun k4 => if v2 = 0 then ob (fX5_number k4 999) fun r6 k7 => ob (fX5_write k7 v1 r6) fun r9 k10 => some ((), k10) else ob (fX5_number k4 11) fun r12 k13 => ob (fX5_write k13 v1 r12) fun r15 k16 => some ((), k16)
def jbX5_fact_23 (v1 : Int32) (s0 : Int32) (k : ST) : Option (Unit × ST) := if s0 = 0 then if v1 = 119 then jbX5_fact_34 v1 s0 k else ob (fX5_stop k (gI k 4 6)) fun r18 k19 => some ((), k19) else jbX5_fact_34 v1 s0 k
def jbX5_fact_18 (v1 : Int32)  (k : ST) : Option (Unit × ST) := jbX5_fact_23 v1 1 k
set_option maxRecDepth 20000 in
theorem zjbX5_fact_34 {p : Program} {l : Launch} {e : Env} {R : Room} {s : State} {m : MethodId} {args : Array Value} {below : List Frame} {meth : Method} {c : Code} {g : GT} (hC : HC p s m args meth c cX5_fact 3 RX5 none g) (hR : 2 ≤ R.frames ∧ 44 ≤ R.locals)  (v1 : Int32) (v2 : Int32)  (k : ST) : ZF p l e R s m args below meth c g TK voV 3 k 34 [(0, .ref (g.2.1 4)), (1, .int v1), (2, .int v2)] [] (jbX5_fact_34  v1 v2 k) := by
  unfold jbX5_fact_34
  refine zf_aload_n hC dX5_fact_34 rfl 0 rfl ?_
  refine zf_dup hC dX5_fact_35 rfl ?_
  refine gf_184 hC dX5_fact_36 ?_
  refine zf_iconst hC (v := 1) dX5_fact_39 rfl ?_
  refine zf_iadd hC dX5_fact_40 ?_
  refine pf_184 hC dX5_fact_41 ?_
  refine zf_nmk (fun k4 => ?_)
  refine zf_aload_n hC dX5_fact_44 rfl 0 rfl ?_
  refine zf_iload_n hC dX5_fact_45 rfl 1 rfl ?_
  refine zf_aload_n hC dX5_fact_46 rfl 0 rfl ?_
  refine zf_iload_n hC dX5_fact_47 rfl 2 rfl ?_
  refine zf_if_eq hC (tgt := 56) dX5_fact_48 (by decide) (fun h5 => ?_) (fun h5 => ?_)
  · refine zf_sipush hC (v := 999) dX5_fact_56 rfl ?_
    refine zf_callV hC (c_X5_number l g 999) mt_X5_number wd_801 sp_21 ci_4 ic_4 wd_799 rfl (rm_le hR rfl) rfl rfl (rest := [.int v1, .ref (g.2.1 4)]) rfl (Nat.le_of_ble_eq_true rfl) dX5_fact_59 (fun r6 k7 h8 => ?_)
    refine zf_callV hC (c_X5_write l g v1 r6) mt_X5_write wd_782 sp_17 ci_4 ic_4 wd_780 rfl (rm_le hR rfl) rfl rfl (rest := []) rfl (Nat.le_of_ble_eq_true rfl) dX5_fact_62 (fun r9 k10 h11 => ?_)
    refine zf_goto hC (tgt := 76) dX5_fact_65 (by decide) ?_
    exact zf_vret hC rfl dX5_fact_76
  · refine zf_bipush hC (v := 11) dX5_fact_51 rfl ?_
    refine zf_goto hC (tgt := 59) dX5_fact_53 (by decide) ?_
    refine zf_callV hC (c_X5_number l g 11) mt_X5_number wd_801 sp_21 ci_4 ic_4 wd_799 rfl (rm_le hR rfl) rfl rfl (rest := [.int v1, .ref (g.2.1 4)]) rfl (Nat.le_of_ble_eq_true rfl) dX5_fact_59 (fun r12 k13 h14 => ?_)
    refine zf_callV hC (c_X5_write l g v1 r12) mt_X5_write wd_782 sp_17 ci_4 ic_4 wd_780 rfl (rm_le hR rfl) rfl rfl (rest := []) rfl (Nat.le_of_ble_eq_true rfl) dX5_fact_62 (fun r15 k16 h17 => ?_)
    refine zf_goto hC (tgt := 76) dX5_fact_65 (by decide) ?_
    exact zf_vret hC rfl dX5_fact_76
set_option maxRecDepth 20000 in
theorem zjbX5_fact_23 {p : Program} {l : Launch} {e : Env} {R : Room} {s : State} {m : MethodId} {args : Array Value} {below : List Frame} {meth : Method} {c : Code} {g : GT} (hC : HC p s m args meth c cX5_fact 3 RX5 none g) (hR : 2 ≤ R.frames ∧ 44 ≤ R.locals)  (v1 : Int32) (s0 : Int32) (k : ST) : ZF p l e R s m args below meth c g TK voV 3 k 23 [(0, .ref (g.2.1 4)), (1, .int v1)] [.int s0] (jbX5_fact_23  v1 s0 k) := by
  unfold jbX5_fact_23
  refine zf_istore_n hC (LV' := [(2, .int s0), (0, .ref (g.2.1 4)), (1, .int v1)]) dX5_fact_23 rfl (by decide) rfl ?_
  refine zf_iload_n hC dX5_fact_24 rfl 0 rfl ?_
  refine zf_if_ne hC (tgt := 34) dX5_fact_25 (by decide) (fun h2 => ?_) (fun h2 => ?_)
  · refine zf_iload_n hC dX5_fact_28 rfl 2 rfl ?_
    refine zf_bipush hC (v := 119) dX5_fact_29 rfl ?_
    refine zf_icmp_ne hC (tgt := 68) dX5_fact_31 (by decide) (fun h3 => ?_) (fun h3 => ?_)
    · refine zf_lv (LV' := [(0, .ref (g.2.1 4)), (1, .int v1), (2, .int s0)]) [1, 2, 0] rfl ?_
      exact zjbX5_fact_34 hC hR v1 s0 k
    · refine zf_aload_n hC dX5_fact_68 rfl 1 rfl ?_
      refine zf_aload_n hC dX5_fact_69 rfl 1 rfl ?_
      refine gf_184 hC dX5_fact_70 ?_
      refine zf_callV hC (c_X5_stop l g (gI k 4 6)) mt_X5_stop wd_778 sp_16 ci_4 ic_4 wd_776 rfl (rm_le hR rfl) rfl rfl (rest := []) rfl (Nat.le_of_ble_eq_true rfl) dX5_fact_73 (fun r18 k19 h20 => ?_)
      exact zf_vret hC rfl dX5_fact_76
  · refine zf_lv (LV' := [(0, .ref (g.2.1 4)), (1, .int v1), (2, .int s0)]) [1, 2, 0] rfl ?_
    exact zjbX5_fact_34 hC hR v1 s0 k
set_option maxRecDepth 20000 in
theorem zjbX5_fact_18 {p : Program} {l : Launch} {e : Env} {R : Room} {s : State} {m : MethodId} {args : Array Value} {below : List Frame} {meth : Method} {c : Code} {g : GT} (hC : HC p s m args meth c cX5_fact 3 RX5 none g) (hR : 2 ≤ R.frames ∧ 44 ≤ R.locals)  (v1 : Int32)  (k : ST) : ZF p l e R s m args below meth c g TK voV 3 k 18 [(0, .ref (g.2.1 4)), (1, .int v1)] [] (jbX5_fact_18  v1 k) := by
  unfold jbX5_fact_18
  refine zf_iconst hC (v := 1) dX5_fact_18 rfl ?_
  refine zf_goto hC (tgt := 23) dX5_fact_19 (by decide) ?_
  exact zjbX5_fact_23 hC hR v1 1 k
def fX5_fact (k : ST) (a0 : Int32) : Option (Unit × ST) := if a0 = 104 then jbX5_fact_18 a0 k else if a0 = 110 then jbX5_fact_18 a0 k else if a0 = 100 then jbX5_fact_18 a0 k else jbX5_fact_23 a0 0 k
set_option maxRecDepth 20000 in
theorem c_X5_fact (l : Launch) (g : GT) (a0 : Int32) : CN l yX5_fact cX5_fact 3 none { frames := 2, cells := 0, slots := 0, locals := 44 } g TK voV [.ref (g.2.1 4), .int a0] (fun k => fX5_fact k a0) := by
  refine cn_of (by decide) (Nat.le_of_ble_eq_true rfl) ?_
  intro p e s m args below meth c hC k
  have hC : HC p s m args meth c cX5_fact 3 RX5 none g := hC
  have hR : 2 ≤ ({ frames := 2, cells := 0, slots := 0, locals := 44 } : Room).frames ∧ 44 ≤ ({ frames := 2, cells := 0, slots := 0, locals := 44 } : Room).locals := ⟨Nat.le_refl _, Nat.le_refl _⟩
  show ZF p l e _ s m args below meth c g TK voV 3 k 0 [(0, .ref (g.2.1 4)), (1, .int a0)] [] (fX5_fact k a0)
  unfold fX5_fact
  refine zf_iload_n hC dX5_fact_0 rfl 1 rfl ?_
  refine zf_bipush hC (v := 104) dX5_fact_1 rfl ?_
  refine zf_icmp_eq hC (tgt := 18) dX5_fact_3 (by decide) (fun h1 => ?_) (fun h1 => ?_)
  · exact zjbX5_fact_18 hC hR a0 k
  · refine zf_iload_n hC dX5_fact_6 rfl 1 rfl ?_
    refine zf_bipush hC (v := 110) dX5_fact_7 rfl ?_
    refine zf_icmp_eq hC (tgt := 18) dX5_fact_9 (by decide) (fun h21 => ?_) (fun h21 => ?_)
    · exact zjbX5_fact_18 hC hR a0 k
    · refine zf_iload_n hC dX5_fact_12 rfl 1 rfl ?_
      refine zf_bipush hC (v := 100) dX5_fact_13 rfl ?_
      refine zf_icmp_ne hC (tgt := 22) dX5_fact_15 (by decide) (fun h22 => ?_) (fun h22 => ?_)
      · exact zjbX5_fact_18 hC hR a0 k
      · refine zf_iconst hC (v := 0) dX5_fact_22 rfl ?_
        exact zjbX5_fact_23 hC hR a0 0 k
/-! LifeKeys.Rules.all -/
theorem dX5_all_0 : decode cX5_all 0 = .ok (.aload_n 0, 1) := by decide +kernel
theorem dX5_all_1 : decode cX5_all 1 = .ok (.iload_n 1, 1) := by decide +kernel
theorem dX5_all_2 : decode cX5_all 2 = .ok (.invokevirtual 76, 3) := by decide +kernel
theorem dX5_all_5 : decode cX5_all 5 = .ok (.iconst 0, 1) := by decide +kernel
theorem dX5_all_6 : decode cX5_all 6 = .ok (.istore_n 2, 1) := by decide +kernel
theorem dX5_all_7 : decode cX5_all 7 = .ok (.iload_n 2, 1) := by decide +kernel
theorem dX5_all_8 : decode cX5_all 8 = .ok (.sipush 160, 3) := by decide +kernel
theorem dX5_all_11 : decode cX5_all 11 = .ok (.if_icmp .ge 30, 3) := by decide +kernel
theorem dX5_all_14 : decode cX5_all 14 = .ok (.aload_n 0, 1) := by decide +kernel
theorem dX5_all_15 : decode cX5_all 15 = .ok (.bipush 38, 2) := by decide +kernel
theorem dX5_all_17 : decode cX5_all 17 = .ok (.invokevirtual 68, 3) := by decide +kernel
theorem dX5_all_20 : decode cX5_all 20 = .ok (.ifCond .eq 21, 3) := by decide +kernel
theorem dX5_all_23 : decode cX5_all 23 = .ok (.aload_n 0, 1) := by decide +kernel
theorem dX5_all_24 : decode cX5_all 24 = .ok (.iload_n 1, 1) := by decide +kernel
theorem dX5_all_25 : decode cX5_all 25 = .ok (.invokevirtual 76, 3) := by decide +kernel
theorem dX5_all_28 : decode cX5_all 28 = .ok (.aload_n 0, 1) := by decide +kernel
theorem dX5_all_29 : decode cX5_all 29 = .ok (.bipush 38, 2) := by decide +kernel
theorem dX5_all_31 : decode cX5_all 31 = .ok (.iconst 0, 1) := by decide +kernel
theorem dX5_all_32 : decode cX5_all 32 = .ok (.invokevirtual 72, 3) := by decide +kernel
theorem dX5_all_35 : decode cX5_all 35 = .ok (.iinc 2 1, 3) := by decide +kernel
theorem dX5_all_38 : decode cX5_all 38 = .ok (.goto (-31), 3) := by decide +kernel
theorem dX5_all_41 : decode cX5_all 41 = .ok (.return_, 1) := by decide +kernel
def lpX5_all_7 (u : ST → Int32 → Option (Unit × ST)) (v1 : Int32) : Nat → Int32 → ST → (Int32 → ST → Option (Unit × ST)) → Option (Unit × ST)
  | 0, _, _, _ => none
  | n + 1, v2, k, cont => if 160 ≤ v2 then cont v2 k else ob (fX5_passes k 38) fun r5 k6 => if r5 = true then ob (u k6 v1) fun r9 k10 => ob (fX5_write k10 38 0) fun r12 k13 => lpX5_all_7 u v1 n (v2 + 1) k13 cont else cont v2 k6
set_option maxRecDepth 20000 in
theorem zlpX5_all_7 {p : Program} {l : Launch} {e : Env} {R : Room} {s : State} {m : MethodId} {args : Array Value} {below : List Frame} {meth : Method} {c : Code} {g : GT} (hC : HC p s m args meth c cX5_all 3 RX5 none g) {fu lu : Nat} (hR : fu + 2 ≤ R.frames ∧ lu + 41 ≤ R.locals) {u : ST → Int32 → Option (Unit × ST)} (hu : ∀ (z0 : Int32), CN l yX5_unit cX5_unit 3 none { frames := fu, cells := 0, slots := 0, locals := lu } g TK voV [.ref (g.2.1 4), .int z0] (fun k => u k z0))  (v1 : Int32) {cont : Int32 → ST → Option (Unit × ST)} (hk : ∀ (v2 : Int32) (k : ST), ZF p l e R s m args below meth c g TK voV 3 k 41 [(0, .ref (g.2.1 4)), (1, .int v1), (2, .int v2)] [] (cont v2 k)) : ∀ (n : Nat) (v2 : Int32) (k : ST), ZF p l e R s m args below meth c g TK voV 3 k 7 [(0, .ref (g.2.1 4)), (1, .int v1), (2, .int v2)] [] (lpX5_all_7 u v1 n v2 k cont) := by
  intro n
  induction n with
  | zero => intros; exact zf_none
  | succ n ih =>
    intro v2 k
    rw [lpX5_all_7]
    refine zf_iload_n hC dX5_all_7 rfl 2 rfl ?_
    refine zf_sipush hC (v := 160) dX5_all_8 rfl ?_
    refine zf_icmp_ge hC (tgt := 41) dX5_all_11 (by decide) (fun h4 => ?_) (fun h4 => ?_)
    · refine zf_lv (LV' := [(0, .ref (g.2.1 4)), (1, .int v1), (2, .int v2)]) [0, 1, 2] rfl ?_
      exact hk v2 k
    · refine zf_aload_n hC dX5_all_14 rfl 0 rfl ?_
      refine zf_bipush hC (v := 38) dX5_all_15 rfl ?_
      refine zf_callV hC (c_X5_passes l g 38) mt_X5_passes wd_790 sp_19 ci_4 ic_4 wd_788 rfl (show 1 + 1 ≤ R.frames ∧ 8 + (2 + 11) + 20 ≤ R.locals by omega) rfl rfl (rest := []) rfl (Nat.le_of_ble_eq_true rfl) dX5_all_17 (fun r5 k6 h7 => ?_)
      refine zf_ifb_eq hC (tgt := 41) dX5_all_20 (by decide) (fun h8 => ?_) (fun h8 => ?_)
      · refine zf_aload_n hC dX5_all_23 rfl 0 rfl ?_
        refine zf_iload_n hC dX5_all_24 rfl 1 rfl ?_
        refine zf_callV hC (hu v1) mt_X5_unit wd_762 sp_12 ci_4 ic_4 wd_760 rfl (show fu + 0 + 1 ≤ R.frames ∧ 8 + (3 + 11) + (lu + 0) ≤ R.locals by omega) rfl rfl (rest := []) rfl (Nat.le_of_ble_eq_true rfl) dX5_all_25 (fun r9 k10 h11 => ?_)
        refine zf_aload_n hC dX5_all_28 rfl 0 rfl ?_
        refine zf_bipush hC (v := 38) dX5_all_29 rfl ?_
        refine zf_iconst hC (v := 0) dX5_all_31 rfl ?_
        refine zf_callV hC (c_X5_write l g 38 0) mt_X5_write wd_782 sp_17 ci_4 ic_4 wd_780 rfl (show 0 + 1 ≤ R.frames ∧ 8 + (3 + 11) + 0 ≤ R.locals by omega) rfl rfl (rest := []) rfl (Nat.le_of_ble_eq_true rfl) dX5_all_32 (fun r12 k13 h14 => ?_)
        refine zf_iinc hC (q := 2) (v := v2 + 1) (LV' := [(2, .int (v2 + 1)), (0, .ref (g.2.1 4)), (1, .int v1)]) dX5_all_35 rfl rfl (by decide) rfl ?_
        refine zf_goto hC (tgt := 7) dX5_all_38 (by decide) ?_
        refine zf_lv (LV' := [(0, .ref (g.2.1 4)), (1, .int v1), (2, .int (v2 + 1))]) [1, 2, 0] rfl ?_
        exact ih (v2 + 1) k13
      · refine zf_lv (LV' := [(0, .ref (g.2.1 4)), (1, .int v1), (2, .int v2)]) [0, 1, 2] rfl ?_
        exact hk v2 k6
def FX5_all (u : ST → Int32 → Option (Unit × ST)) (k : ST) (a0 : Int32) : Option (Unit × ST) := ob (u k a0) fun r1 k2 => lpX5_all_7 u a0 FU 0 k2 fun y15 k16 => some ((), k16)
set_option maxRecDepth 20000 in
theorem cF_X5_all (l : Launch) (g : GT) {fu lu : Nat} {u : ST → Int32 → Option (Unit × ST)} (hu : ∀ (z0 : Int32), CN l yX5_unit cX5_unit 3 none { frames := fu, cells := 0, slots := 0, locals := lu } g TK voV [.ref (g.2.1 4), .int z0] (fun k => u k z0)) (a0 : Int32) : CN l yX5_all cX5_all 3 none { frames := fu + 2, cells := 0, slots := 0, locals := lu + 41 } g TK voV [.ref (g.2.1 4), .int a0] (fun k => FX5_all u k a0) := by
  refine cn_of (by decide) (Nat.le_of_ble_eq_true rfl) ?_
  intro p e s m args below meth c hC k
  have hC : HC p s m args meth c cX5_all 3 RX5 none g := hC
  generalize hRe : ({ frames := fu + 2, cells := 0, slots := 0, locals := lu + 41 } : Room) = R
  have hR : fu + 2 ≤ R.frames ∧ lu + 41 ≤ R.locals := by rw [← hRe]; exact ⟨Nat.le_refl _, Nat.le_refl _⟩
  show ZF p l e _ s m args below meth c g TK voV 3 k 0 [(0, .ref (g.2.1 4)), (1, .int a0)] [] (FX5_all u k a0)
  unfold FX5_all
  refine zf_aload_n hC dX5_all_0 rfl 0 rfl ?_
  refine zf_iload_n hC dX5_all_1 rfl 1 rfl ?_
  refine zf_callV hC (hu a0) mt_X5_unit wd_762 sp_12 ci_4 ic_4 wd_760 rfl (show fu + 0 + 1 ≤ R.frames ∧ 8 + (3 + 11) + (lu + 0) ≤ R.locals by omega) rfl rfl (rest := []) rfl (Nat.le_of_ble_eq_true rfl) dX5_all_2 (fun r1 k2 h3 => ?_)
  refine zf_iconst hC (v := 0) dX5_all_5 rfl ?_
  refine zf_istore_n hC (LV' := [(2, .int 0), (0, .ref (g.2.1 4)), (1, .int a0)]) dX5_all_6 rfl (by decide) rfl ?_
  refine zf_lv (LV' := [(0, .ref (g.2.1 4)), (1, .int a0), (2, .int 0)]) [1, 2, 0] rfl ?_
  refine zlpX5_all_7 hC hR hu a0 (fun y15 k16 => ?_) FU 0 k2
  exact zf_vret hC rfl dX5_all_41
/-! LifeKeys.Rules.any -/
theorem dX5_any_0 : decode cX5_any 0 = .ok (.aload_n 0, 1) := by decide +kernel
theorem dX5_any_1 : decode cX5_any 1 = .ok (.iload_n 1, 1) := by decide +kernel
theorem dX5_any_2 : decode cX5_any 2 = .ok (.invokevirtual 65, 3) := by decide +kernel
theorem dX5_any_5 : decode cX5_any 5 = .ok (.iconst 0, 1) := by decide +kernel
theorem dX5_any_6 : decode cX5_any 6 = .ok (.istore_n 2, 1) := by decide +kernel
theorem dX5_any_7 : decode cX5_any 7 = .ok (.iload_n 2, 1) := by decide +kernel
theorem dX5_any_8 : decode cX5_any 8 = .ok (.sipush 160, 3) := by decide +kernel
theorem dX5_any_11 : decode cX5_any 11 = .ok (.if_icmp .ge 30, 3) := by decide +kernel
theorem dX5_any_14 : decode cX5_any 14 = .ok (.aload_n 0, 1) := by decide +kernel
theorem dX5_any_15 : decode cX5_any 15 = .ok (.bipush 124, 2) := by decide +kernel
theorem dX5_any_17 : decode cX5_any 17 = .ok (.invokevirtual 68, 3) := by decide +kernel
theorem dX5_any_20 : decode cX5_any 20 = .ok (.ifCond .eq 21, 3) := by decide +kernel
theorem dX5_any_23 : decode cX5_any 23 = .ok (.aload_n 0, 1) := by decide +kernel
theorem dX5_any_24 : decode cX5_any 24 = .ok (.iload_n 1, 1) := by decide +kernel
theorem dX5_any_25 : decode cX5_any 25 = .ok (.invokevirtual 65, 3) := by decide +kernel
theorem dX5_any_28 : decode cX5_any 28 = .ok (.aload_n 0, 1) := by decide +kernel
theorem dX5_any_29 : decode cX5_any 29 = .ok (.bipush 124, 2) := by decide +kernel
theorem dX5_any_31 : decode cX5_any 31 = .ok (.iconst 0, 1) := by decide +kernel
theorem dX5_any_32 : decode cX5_any 32 = .ok (.invokevirtual 72, 3) := by decide +kernel
theorem dX5_any_35 : decode cX5_any 35 = .ok (.iinc 2 1, 3) := by decide +kernel
theorem dX5_any_38 : decode cX5_any 38 = .ok (.goto (-31), 3) := by decide +kernel
theorem dX5_any_41 : decode cX5_any 41 = .ok (.return_, 1) := by decide +kernel
def lpX5_any_7 (u : ST → Int32 → Option (Unit × ST)) (v1 : Int32) : Nat → Int32 → ST → (Int32 → ST → Option (Unit × ST)) → Option (Unit × ST)
  | 0, _, _, _ => none
  | n + 1, v2, k, cont => if 160 ≤ v2 then cont v2 k else ob (fX5_passes k 124) fun r5 k6 => if r5 = true then ob (FX5_all u k6 v1) fun r9 k10 => ob (fX5_write k10 124 0) fun r12 k13 => lpX5_any_7 u v1 n (v2 + 1) k13 cont else cont v2 k6
set_option maxRecDepth 20000 in
theorem zlpX5_any_7 {p : Program} {l : Launch} {e : Env} {R : Room} {s : State} {m : MethodId} {args : Array Value} {below : List Frame} {meth : Method} {c : Code} {g : GT} (hC : HC p s m args meth c cX5_any 3 RX5 none g) {fu lu : Nat} (hR : fu + 3 ≤ R.frames ∧ lu + 63 ≤ R.locals) {u : ST → Int32 → Option (Unit × ST)} (hu : ∀ (z0 : Int32), CN l yX5_unit cX5_unit 3 none { frames := fu, cells := 0, slots := 0, locals := lu } g TK voV [.ref (g.2.1 4), .int z0] (fun k => u k z0))  (v1 : Int32) {cont : Int32 → ST → Option (Unit × ST)} (hk : ∀ (v2 : Int32) (k : ST), ZF p l e R s m args below meth c g TK voV 3 k 41 [(0, .ref (g.2.1 4)), (1, .int v1), (2, .int v2)] [] (cont v2 k)) : ∀ (n : Nat) (v2 : Int32) (k : ST), ZF p l e R s m args below meth c g TK voV 3 k 7 [(0, .ref (g.2.1 4)), (1, .int v1), (2, .int v2)] [] (lpX5_any_7 u v1 n v2 k cont) := by
  intro n
  induction n with
  | zero => intros; exact zf_none
  | succ n ih =>
    intro v2 k
    rw [lpX5_any_7]
    refine zf_iload_n hC dX5_any_7 rfl 2 rfl ?_
    refine zf_sipush hC (v := 160) dX5_any_8 rfl ?_
    refine zf_icmp_ge hC (tgt := 41) dX5_any_11 (by decide) (fun h4 => ?_) (fun h4 => ?_)
    · refine zf_lv (LV' := [(0, .ref (g.2.1 4)), (1, .int v1), (2, .int v2)]) [0, 1, 2] rfl ?_
      exact hk v2 k
    · refine zf_aload_n hC dX5_any_14 rfl 0 rfl ?_
      refine zf_bipush hC (v := 124) dX5_any_15 rfl ?_
      refine zf_callV hC (c_X5_passes l g 124) mt_X5_passes wd_790 sp_19 ci_4 ic_4 wd_788 rfl (show 1 + 1 ≤ R.frames ∧ 8 + (2 + 11) + 20 ≤ R.locals by omega) rfl rfl (rest := []) rfl (Nat.le_of_ble_eq_true rfl) dX5_any_17 (fun r5 k6 h7 => ?_)
      refine zf_ifb_eq hC (tgt := 41) dX5_any_20 (by decide) (fun h8 => ?_) (fun h8 => ?_)
      · refine zf_aload_n hC dX5_any_23 rfl 0 rfl ?_
        refine zf_iload_n hC dX5_any_24 rfl 1 rfl ?_
        refine zf_callV hC (cF_X5_all l g hu v1) mt_X5_all wd_758 sp_11 ci_4 ic_4 wd_756 rfl (show fu + 2 + 1 ≤ R.frames ∧ 8 + (3 + 11) + (lu + 41) ≤ R.locals by omega) rfl rfl (rest := []) rfl (Nat.le_of_ble_eq_true rfl) dX5_any_25 (fun r9 k10 h11 => ?_)
        refine zf_aload_n hC dX5_any_28 rfl 0 rfl ?_
        refine zf_bipush hC (v := 124) dX5_any_29 rfl ?_
        refine zf_iconst hC (v := 0) dX5_any_31 rfl ?_
        refine zf_callV hC (c_X5_write l g 124 0) mt_X5_write wd_782 sp_17 ci_4 ic_4 wd_780 rfl (show 0 + 1 ≤ R.frames ∧ 8 + (3 + 11) + 0 ≤ R.locals by omega) rfl rfl (rest := []) rfl (Nat.le_of_ble_eq_true rfl) dX5_any_32 (fun r12 k13 h14 => ?_)
        refine zf_iinc hC (q := 2) (v := v2 + 1) (LV' := [(2, .int (v2 + 1)), (0, .ref (g.2.1 4)), (1, .int v1)]) dX5_any_35 rfl rfl (by decide) rfl ?_
        refine zf_goto hC (tgt := 7) dX5_any_38 (by decide) ?_
        refine zf_lv (LV' := [(0, .ref (g.2.1 4)), (1, .int v1), (2, .int (v2 + 1))]) [1, 2, 0] rfl ?_
        exact ih (v2 + 1) k13
      · refine zf_lv (LV' := [(0, .ref (g.2.1 4)), (1, .int v1), (2, .int v2)]) [0, 1, 2] rfl ?_
        exact hk v2 k6
def FX5_any (u : ST → Int32 → Option (Unit × ST)) (k : ST) (a0 : Int32) : Option (Unit × ST) := ob (FX5_all u k a0) fun r1 k2 => lpX5_any_7 u a0 FU 0 k2 fun y15 k16 => some ((), k16)
set_option maxRecDepth 20000 in
theorem cF_X5_any (l : Launch) (g : GT) {fu lu : Nat} {u : ST → Int32 → Option (Unit × ST)} (hu : ∀ (z0 : Int32), CN l yX5_unit cX5_unit 3 none { frames := fu, cells := 0, slots := 0, locals := lu } g TK voV [.ref (g.2.1 4), .int z0] (fun k => u k z0)) (a0 : Int32) : CN l yX5_any cX5_any 3 none { frames := fu + 3, cells := 0, slots := 0, locals := lu + 63 } g TK voV [.ref (g.2.1 4), .int a0] (fun k => FX5_any u k a0) := by
  refine cn_of (by decide) (Nat.le_of_ble_eq_true rfl) ?_
  intro p e s m args below meth c hC k
  have hC : HC p s m args meth c cX5_any 3 RX5 none g := hC
  generalize hRe : ({ frames := fu + 3, cells := 0, slots := 0, locals := lu + 63 } : Room) = R
  have hR : fu + 3 ≤ R.frames ∧ lu + 63 ≤ R.locals := by rw [← hRe]; exact ⟨Nat.le_refl _, Nat.le_refl _⟩
  show ZF p l e _ s m args below meth c g TK voV 3 k 0 [(0, .ref (g.2.1 4)), (1, .int a0)] [] (FX5_any u k a0)
  unfold FX5_any
  refine zf_aload_n hC dX5_any_0 rfl 0 rfl ?_
  refine zf_iload_n hC dX5_any_1 rfl 1 rfl ?_
  refine zf_callV hC (cF_X5_all l g hu a0) mt_X5_all wd_758 sp_11 ci_4 ic_4 wd_756 rfl (show fu + 2 + 1 ≤ R.frames ∧ 8 + (3 + 11) + (lu + 41) ≤ R.locals by omega) rfl rfl (rest := []) rfl (Nat.le_of_ble_eq_true rfl) dX5_any_2 (fun r1 k2 h3 => ?_)
  refine zf_iconst hC (v := 0) dX5_any_5 rfl ?_
  refine zf_istore_n hC (LV' := [(2, .int 0), (0, .ref (g.2.1 4)), (1, .int a0)]) dX5_any_6 rfl (by decide) rfl ?_
  refine zf_lv (LV' := [(0, .ref (g.2.1 4)), (1, .int a0), (2, .int 0)]) [1, 2, 0] rfl ?_
  refine zlpX5_any_7 hC hR hu a0 (fun y15 k16 => ?_) FU 0 k2
  exact zf_vret hC rfl dX5_any_41
/-! LifeKeys.Rules.within -/
theorem dX5_within_0 : decode cX5_within 0 = .ok (.aload_n 0, 1) := by decide +kernel
theorem dX5_within_1 : decode cX5_within 1 = .ok (.iload_n 1, 1) := by decide +kernel
theorem dX5_within_2 : decode cX5_within 2 = .ok (.invokevirtual 52, 3) := by decide +kernel
theorem dX5_within_5 : decode cX5_within 5 = .ok (.aload_n 0, 1) := by decide +kernel
theorem dX5_within_6 : decode cX5_within 6 = .ok (.bipush 41, 2) := by decide +kernel
theorem dX5_within_8 : decode cX5_within 8 = .ok (.invokevirtual 68, 3) := by decide +kernel
theorem dX5_within_11 : decode cX5_within 11 = .ok (.ifCond .ne 11, 3) := by decide +kernel
theorem dX5_within_14 : decode cX5_within 14 = .ok (.aload_n 0, 1) := by decide +kernel
theorem dX5_within_15 : decode cX5_within 15 = .ok (.aload_n 0, 1) := by decide +kernel
theorem dX5_within_16 : decode cX5_within 16 = .ok (.getfield 34, 3) := by decide +kernel
theorem dX5_within_19 : decode cX5_within 19 = .ok (.invokevirtual 56, 3) := by decide +kernel
theorem dX5_within_22 : decode cX5_within 22 = .ok (.return_, 1) := by decide +kernel
def FX5_within (u : ST → Int32 → Option (Unit × ST)) (k : ST) (a0 : Int32) : Option (Unit × ST) := ob (FX5_any u k a0) fun r1 k2 => ob (fX5_passes k2 41) fun r4 k5 => if r4 = true then some ((), k5) else ob (fX5_stop k5 (gI k5 4 6)) fun r8 k9 => some ((), k9)
set_option maxRecDepth 20000 in
theorem cF_X5_within (l : Launch) (g : GT) {fu lu : Nat} {u : ST → Int32 → Option (Unit × ST)} (hu : ∀ (z0 : Int32), CN l yX5_unit cX5_unit 3 none { frames := fu, cells := 0, slots := 0, locals := lu } g TK voV [.ref (g.2.1 4), .int z0] (fun k => u k z0)) (a0 : Int32) : CN l yX5_within cX5_within 2 none { frames := fu + 4, cells := 0, slots := 0, locals := lu + 85 } g TK voV [.ref (g.2.1 4), .int a0] (fun k => FX5_within u k a0) := by
  refine cn_of (by decide) (Nat.le_of_ble_eq_true rfl) ?_
  intro p e s m args below meth c hC k
  have hC : HC p s m args meth c cX5_within 2 RX5 none g := hC
  generalize hRe : ({ frames := fu + 4, cells := 0, slots := 0, locals := lu + 85 } : Room) = R
  have hR : fu + 4 ≤ R.frames ∧ lu + 85 ≤ R.locals := by rw [← hRe]; exact ⟨Nat.le_refl _, Nat.le_refl _⟩
  show ZF p l e _ s m args below meth c g TK voV 2 k 0 [(0, .ref (g.2.1 4)), (1, .int a0)] [] (FX5_within u k a0)
  unfold FX5_within
  refine zf_aload_n hC dX5_within_0 rfl 0 rfl ?_
  refine zf_iload_n hC dX5_within_1 rfl 1 rfl ?_
  refine zf_callV hC (cF_X5_any l g hu a0) mt_X5_any wd_754 sp_10 ci_4 ic_4 wd_752 rfl (show fu + 3 + 1 ≤ R.frames ∧ 8 + (3 + 11) + (lu + 63) ≤ R.locals by omega) rfl rfl (rest := []) rfl (Nat.le_of_ble_eq_true rfl) dX5_within_2 (fun r1 k2 h3 => ?_)
  refine zf_aload_n hC dX5_within_5 rfl 0 rfl ?_
  refine zf_bipush hC (v := 41) dX5_within_6 rfl ?_
  refine zf_callV hC (c_X5_passes l g 41) mt_X5_passes wd_790 sp_19 ci_4 ic_4 wd_788 rfl (show 1 + 1 ≤ R.frames ∧ 8 + (2 + 11) + 20 ≤ R.locals by omega) rfl rfl (rest := []) rfl (Nat.le_of_ble_eq_true rfl) dX5_within_8 (fun r4 k5 h6 => ?_)
  refine zf_ifb_ne hC (tgt := 22) dX5_within_11 (by decide) (fun h7 => ?_) (fun h7 => ?_)
  · exact zf_vret hC rfl dX5_within_22
  · refine zf_aload_n hC dX5_within_14 rfl 0 rfl ?_
    refine zf_aload_n hC dX5_within_15 rfl 0 rfl ?_
    refine gf_184 hC dX5_within_16 ?_
    refine zf_callV hC (c_X5_stop l g (gI k5 4 6)) mt_X5_stop wd_778 sp_16 ci_4 ic_4 wd_776 rfl (show 0 + 1 ≤ R.frames ∧ 8 + (2 + 11) + 0 ≤ R.locals by omega) rfl rfl (rest := []) rfl (Nat.le_of_ble_eq_true rfl) dX5_within_19 (fun r8 k9 h10 => ?_)
    exact zf_vret hC rfl dX5_within_22
/-! LifeKeys.Rules.atLeast -/
theorem dX5_atLeast_0 : decode cX5_atLeast 0 = .ok (.aload_n 0, 1) := by decide +kernel
theorem dX5_atLeast_1 : decode cX5_atLeast 1 = .ok (.sipush 999, 3) := by decide +kernel
theorem dX5_atLeast_4 : decode cX5_atLeast 4 = .ok (.invokevirtual 101, 3) := by decide +kernel
theorem dX5_atLeast_7 : decode cX5_atLeast 7 = .ok (.istore_n 2, 1) := by decide +kernel
theorem dX5_atLeast_8 : decode cX5_atLeast 8 = .ok (.aload_n 0, 1) := by decide +kernel
theorem dX5_atLeast_9 : decode cX5_atLeast 9 = .ok (.invokevirtual 79, 3) := by decide +kernel
theorem dX5_atLeast_12 : decode cX5_atLeast 12 = .ok (.aload_n 0, 1) := by decide +kernel
theorem dX5_atLeast_13 : decode cX5_atLeast 13 = .ok (.invokevirtual 82, 3) := by decide +kernel
theorem dX5_atLeast_16 : decode cX5_atLeast 16 = .ok (.bipush 123, 2) := by decide +kernel
theorem dX5_atLeast_18 : decode cX5_atLeast 18 = .ok (.if_icmp .eq 14, 3) := by decide +kernel
theorem dX5_atLeast_21 : decode cX5_atLeast 21 = .ok (.aload_n 0, 1) := by decide +kernel
theorem dX5_atLeast_22 : decode cX5_atLeast 22 = .ok (.aload_n 0, 1) := by decide +kernel
theorem dX5_atLeast_23 : decode cX5_atLeast 23 = .ok (.getfield 34, 3) := by decide +kernel
theorem dX5_atLeast_26 : decode cX5_atLeast 26 = .ok (.invokevirtual 56, 3) := by decide +kernel
theorem dX5_atLeast_29 : decode cX5_atLeast 29 = .ok (.goto 86, 3) := by decide +kernel
theorem dX5_atLeast_32 : decode cX5_atLeast 32 = .ok (.aload_n 0, 1) := by decide +kernel
theorem dX5_atLeast_33 : decode cX5_atLeast 33 = .ok (.iload_n 1, 1) := by decide +kernel
theorem dX5_atLeast_34 : decode cX5_atLeast 34 = .ok (.invokevirtual 86, 3) := by decide +kernel
theorem dX5_atLeast_37 : decode cX5_atLeast 37 = .ok (.ifCond .eq 78, 3) := by decide +kernel
theorem dX5_atLeast_40 : decode cX5_atLeast 40 = .ok (.aload_n 0, 1) := by decide +kernel
theorem dX5_atLeast_41 : decode cX5_atLeast 41 = .ok (.iload_n 1, 1) := by decide +kernel
theorem dX5_atLeast_42 : decode cX5_atLeast 42 = .ok (.iconst 1, 1) := by decide +kernel
theorem dX5_atLeast_43 : decode cX5_atLeast 43 = .ok (.iadd, 1) := by decide +kernel
theorem dX5_atLeast_44 : decode cX5_atLeast 44 = .ok (.invokevirtual 52, 3) := by decide +kernel
theorem dX5_atLeast_47 : decode cX5_atLeast 47 = .ok (.iconst 1, 1) := by decide +kernel
theorem dX5_atLeast_48 : decode cX5_atLeast 48 = .ok (.istore_n 3, 1) := by decide +kernel
theorem dX5_atLeast_49 : decode cX5_atLeast 49 = .ok (.iconst 0, 1) := by decide +kernel
theorem dX5_atLeast_50 : decode cX5_atLeast 50 = .ok (.istore 4, 2) := by decide +kernel
theorem dX5_atLeast_52 : decode cX5_atLeast 52 = .ok (.iload 4, 2) := by decide +kernel
theorem dX5_atLeast_54 : decode cX5_atLeast 54 = .ok (.sipush 160, 3) := by decide +kernel
theorem dX5_atLeast_57 : decode cX5_atLeast 57 = .ok (.if_icmp .ge 28, 3) := by decide +kernel
theorem dX5_atLeast_60 : decode cX5_atLeast 60 = .ok (.aload_n 0, 1) := by decide +kernel
theorem dX5_atLeast_61 : decode cX5_atLeast 61 = .ok (.bipush 44, 2) := by decide +kernel
theorem dX5_atLeast_63 : decode cX5_atLeast 63 = .ok (.invokevirtual 68, 3) := by decide +kernel
theorem dX5_atLeast_66 : decode cX5_atLeast 66 = .ok (.ifCond .eq 19, 3) := by decide +kernel
theorem dX5_atLeast_69 : decode cX5_atLeast 69 = .ok (.aload_n 0, 1) := by decide +kernel
theorem dX5_atLeast_70 : decode cX5_atLeast 70 = .ok (.iload_n 1, 1) := by decide +kernel
theorem dX5_atLeast_71 : decode cX5_atLeast 71 = .ok (.iconst 1, 1) := by decide +kernel
theorem dX5_atLeast_72 : decode cX5_atLeast 72 = .ok (.iadd, 1) := by decide +kernel
theorem dX5_atLeast_73 : decode cX5_atLeast 73 = .ok (.invokevirtual 52, 3) := by decide +kernel
theorem dX5_atLeast_76 : decode cX5_atLeast 76 = .ok (.iinc 3 1, 3) := by decide +kernel
theorem dX5_atLeast_79 : decode cX5_atLeast 79 = .ok (.iinc 4 1, 3) := by decide +kernel
theorem dX5_atLeast_82 : decode cX5_atLeast 82 = .ok (.goto (-30), 3) := by decide +kernel
theorem dX5_atLeast_85 : decode cX5_atLeast 85 = .ok (.aload_n 0, 1) := by decide +kernel
theorem dX5_atLeast_86 : decode cX5_atLeast 86 = .ok (.bipush 125, 2) := by decide +kernel
theorem dX5_atLeast_88 : decode cX5_atLeast 88 = .ok (.invokevirtual 68, 3) := by decide +kernel
theorem dX5_atLeast_91 : decode cX5_atLeast 91 = .ok (.ifCond .ne 11, 3) := by decide +kernel
theorem dX5_atLeast_94 : decode cX5_atLeast 94 = .ok (.aload_n 0, 1) := by decide +kernel
theorem dX5_atLeast_95 : decode cX5_atLeast 95 = .ok (.aload_n 0, 1) := by decide +kernel
theorem dX5_atLeast_96 : decode cX5_atLeast 96 = .ok (.getfield 34, 3) := by decide +kernel
theorem dX5_atLeast_99 : decode cX5_atLeast 99 = .ok (.invokevirtual 56, 3) := by decide +kernel
theorem dX5_atLeast_102 : decode cX5_atLeast 102 = .ok (.aload_n 0, 1) := by decide +kernel
theorem dX5_atLeast_103 : decode cX5_atLeast 103 = .ok (.bipush 123, 2) := by decide +kernel
theorem dX5_atLeast_105 : decode cX5_atLeast 105 = .ok (.iload_n 2, 1) := by decide +kernel
theorem dX5_atLeast_106 : decode cX5_atLeast 106 = .ok (.sipush 1000, 3) := by decide +kernel
theorem dX5_atLeast_109 : decode cX5_atLeast 109 = .ok (.iload_n 3, 1) := by decide +kernel
theorem dX5_atLeast_110 : decode cX5_atLeast 110 = .ok (.imul, 1) := by decide +kernel
theorem dX5_atLeast_111 : decode cX5_atLeast 111 = .ok (.iadd, 1) := by decide +kernel
theorem dX5_atLeast_112 : decode cX5_atLeast 112 = .ok (.invokevirtual 72, 3) := by decide +kernel
theorem dX5_atLeast_115 : decode cX5_atLeast 115 = .ok (.return_, 1) := by decide +kernel
def lpX5_atLeast_52 (u : ST → Int32 → Option (Unit × ST)) (v1 : Int32) (v2 : Int32) : Nat → Int32 → Int32 → ST → (Int32 → Int32 → ST → Option (Unit × ST)) → Option (Unit × ST)
  | 0, _, _, _, _ => none
  | n + 1, v3, v4, k, cont => if 160 ≤ v4 then cont v3 v4 k else ob (fX5_passes k 44) fun r19 k20 => if r19 = true then ob (FX5_any u k20 (v1 + 1)) fun r23 k24 => lpX5_atLeast_52 u v1 v2 n (v3 + 1) (v4 + 1) k24 cont else cont v3 v4 k20
def jbX5_atLeast_85 (u : ST → Int32 → Option (Unit × ST)) (v1 : Int32) (v2 : Int32) (v3 : Int32) (v4 : Int32)  (k : ST) : Option (Unit × ST) := ob (fX5_passes k 125) fun r29 k30 => if r29 = true then ob (fX5_write k30 123 (v2 + (1000 * v3))) fun r33 k34 => some ((), k34) else ob (fX5_stop k30 (gI k30 4 6)) fun r36 k37 => ob (fX5_write k37 123 (v2 + (1000 * v3))) fun r39 k40 => some ((), k40)
set_option maxRecDepth 20000 in
theorem zlpX5_atLeast_52 {p : Program} {l : Launch} {e : Env} {R : Room} {s : State} {m : MethodId} {args : Array Value} {below : List Frame} {meth : Method} {c : Code} {g : GT} (hC : HC p s m args meth c cX5_atLeast 5 RX5 none g) {fu lu : Nat} (hR : fu + 4 ≤ R.frames ∧ lu + 85 ≤ R.locals) {u : ST → Int32 → Option (Unit × ST)} (hu : ∀ (z0 : Int32), CN l yX5_unit cX5_unit 3 none { frames := fu, cells := 0, slots := 0, locals := lu } g TK voV [.ref (g.2.1 4), .int z0] (fun k => u k z0))  (v1 : Int32) (v2 : Int32) {cont : Int32 → Int32 → ST → Option (Unit × ST)} (hk : ∀ (v3 : Int32) (v4 : Int32) (k : ST), ZF p l e R s m args below meth c g TK voV 5 k 85 [(0, .ref (g.2.1 4)), (1, .int v1), (2, .int v2), (3, .int v3), (4, .int v4)] [] (cont v3 v4 k)) : ∀ (n : Nat) (v3 : Int32) (v4 : Int32) (k : ST), ZF p l e R s m args below meth c g TK voV 5 k 52 [(0, .ref (g.2.1 4)), (1, .int v1), (2, .int v2), (3, .int v3), (4, .int v4)] [] (lpX5_atLeast_52 u v1 v2 n v3 v4 k cont) := by
  intro n
  induction n with
  | zero => intros; exact zf_none
  | succ n ih =>
    intro v3 v4 k
    rw [lpX5_atLeast_52]
    refine zf_iload hC dX5_atLeast_52 4 rfl ?_
    refine zf_sipush hC (v := 160) dX5_atLeast_54 rfl ?_
    refine zf_icmp_ge hC (tgt := 85) dX5_atLeast_57 (by decide) (fun h18 => ?_) (fun h18 => ?_)
    · refine zf_lv (LV' := [(0, .ref (g.2.1 4)), (1, .int v1), (2, .int v2), (3, .int v3), (4, .int v4)]) [0, 1, 2, 3, 4] rfl ?_
      exact hk v3 v4 k
    · refine zf_aload_n hC dX5_atLeast_60 rfl 0 rfl ?_
      refine zf_bipush hC (v := 44) dX5_atLeast_61 rfl ?_
      refine zf_callV hC (c_X5_passes l g 44) mt_X5_passes wd_790 sp_19 ci_4 ic_4 wd_788 rfl (show 1 + 1 ≤ R.frames ∧ 8 + (2 + 11) + 20 ≤ R.locals by omega) rfl rfl (rest := []) rfl (Nat.le_of_ble_eq_true rfl) dX5_atLeast_63 (fun r19 k20 h21 => ?_)
      refine zf_ifb_eq hC (tgt := 85) dX5_atLeast_66 (by decide) (fun h22 => ?_) (fun h22 => ?_)
      · refine zf_aload_n hC dX5_atLeast_69 rfl 0 rfl ?_
        refine zf_iload_n hC dX5_atLeast_70 rfl 1 rfl ?_
        refine zf_iconst hC (v := 1) dX5_atLeast_71 rfl ?_
        refine zf_iadd hC dX5_atLeast_72 ?_
        refine zf_callV hC (cF_X5_any l g hu (v1 + 1)) mt_X5_any wd_754 sp_10 ci_4 ic_4 wd_752 rfl (show fu + 3 + 1 ≤ R.frames ∧ 8 + (3 + 11) + (lu + 63) ≤ R.locals by omega) rfl rfl (rest := []) rfl (Nat.le_of_ble_eq_true rfl) dX5_atLeast_73 (fun r23 k24 h25 => ?_)
        refine zf_iinc hC (q := 3) (v := v3 + 1) (LV' := [(3, .int (v3 + 1)), (0, .ref (g.2.1 4)), (1, .int v1), (2, .int v2), (4, .int v4)]) dX5_atLeast_76 rfl rfl (by decide) rfl ?_
        refine zf_iinc hC (q := 4) (v := v4 + 1) (LV' := [(4, .int (v4 + 1)), (3, .int (v3 + 1)), (0, .ref (g.2.1 4)), (1, .int v1), (2, .int v2)]) dX5_atLeast_79 rfl rfl (by decide) rfl ?_
        refine zf_goto hC (tgt := 52) dX5_atLeast_82 (by decide) ?_
        refine zf_lv (LV' := [(0, .ref (g.2.1 4)), (1, .int v1), (2, .int v2), (3, .int (v3 + 1)), (4, .int (v4 + 1))]) [2, 3, 4, 1, 0] rfl ?_
        exact ih (v3 + 1) (v4 + 1) k24
      · refine zf_lv (LV' := [(0, .ref (g.2.1 4)), (1, .int v1), (2, .int v2), (3, .int v3), (4, .int v4)]) [0, 1, 2, 3, 4] rfl ?_
        exact hk v3 v4 k20
set_option maxRecDepth 20000 in
theorem zjbX5_atLeast_85 {p : Program} {l : Launch} {e : Env} {R : Room} {s : State} {m : MethodId} {args : Array Value} {below : List Frame} {meth : Method} {c : Code} {g : GT} (hC : HC p s m args meth c cX5_atLeast 5 RX5 none g) {fu lu : Nat} (hR : fu + 4 ≤ R.frames ∧ lu + 85 ≤ R.locals) {u : ST → Int32 → Option (Unit × ST)} (hu : ∀ (z0 : Int32), CN l yX5_unit cX5_unit 3 none { frames := fu, cells := 0, slots := 0, locals := lu } g TK voV [.ref (g.2.1 4), .int z0] (fun k => u k z0))  (v1 : Int32) (v2 : Int32) (v3 : Int32) (v4 : Int32)  (k : ST) : ZF p l e R s m args below meth c g TK voV 5 k 85 [(0, .ref (g.2.1 4)), (1, .int v1), (2, .int v2), (3, .int v3), (4, .int v4)] [] (jbX5_atLeast_85 u  v1 v2 v3 v4 k) := by
  unfold jbX5_atLeast_85
  refine zf_aload_n hC dX5_atLeast_85 rfl 0 rfl ?_
  refine zf_bipush hC (v := 125) dX5_atLeast_86 rfl ?_
  refine zf_callV hC (c_X5_passes l g 125) mt_X5_passes wd_790 sp_19 ci_4 ic_4 wd_788 rfl (show 1 + 1 ≤ R.frames ∧ 8 + (2 + 11) + 20 ≤ R.locals by omega) rfl rfl (rest := []) rfl (Nat.le_of_ble_eq_true rfl) dX5_atLeast_88 (fun r29 k30 h31 => ?_)
  refine zf_ifb_ne hC (tgt := 102) dX5_atLeast_91 (by decide) (fun h32 => ?_) (fun h32 => ?_)
  · refine zf_aload_n hC dX5_atLeast_102 rfl 0 rfl ?_
    refine zf_bipush hC (v := 123) dX5_atLeast_103 rfl ?_
    refine zf_iload_n hC dX5_atLeast_105 rfl 2 rfl ?_
    refine zf_sipush hC (v := 1000) dX5_atLeast_106 rfl ?_
    refine zf_iload_n hC dX5_atLeast_109 rfl 3 rfl ?_
    refine zf_imul hC dX5_atLeast_110 ?_
    refine zf_iadd hC dX5_atLeast_111 ?_
    refine zf_callV hC (c_X5_write l g 123 (v2 + (1000 * v3))) mt_X5_write wd_782 sp_17 ci_4 ic_4 wd_780 rfl (show 0 + 1 ≤ R.frames ∧ 8 + (3 + 11) + 0 ≤ R.locals by omega) rfl rfl (rest := []) rfl (Nat.le_of_ble_eq_true rfl) dX5_atLeast_112 (fun r33 k34 h35 => ?_)
    exact zf_vret hC rfl dX5_atLeast_115
  · refine zf_aload_n hC dX5_atLeast_94 rfl 0 rfl ?_
    refine zf_aload_n hC dX5_atLeast_95 rfl 0 rfl ?_
    refine gf_184 hC dX5_atLeast_96 ?_
    refine zf_callV hC (c_X5_stop l g (gI k30 4 6)) mt_X5_stop wd_778 sp_16 ci_4 ic_4 wd_776 rfl (show 0 + 1 ≤ R.frames ∧ 8 + (2 + 11) + 0 ≤ R.locals by omega) rfl rfl (rest := []) rfl (Nat.le_of_ble_eq_true rfl) dX5_atLeast_99 (fun r36 k37 h38 => ?_)
    refine zf_aload_n hC dX5_atLeast_102 rfl 0 rfl ?_
    refine zf_bipush hC (v := 123) dX5_atLeast_103 rfl ?_
    refine zf_iload_n hC dX5_atLeast_105 rfl 2 rfl ?_
    refine zf_sipush hC (v := 1000) dX5_atLeast_106 rfl ?_
    refine zf_iload_n hC dX5_atLeast_109 rfl 3 rfl ?_
    refine zf_imul hC dX5_atLeast_110 ?_
    refine zf_iadd hC dX5_atLeast_111 ?_
    refine zf_callV hC (c_X5_write l g 123 (v2 + (1000 * v3))) mt_X5_write wd_782 sp_17 ci_4 ic_4 wd_780 rfl (show 0 + 1 ≤ R.frames ∧ 8 + (3 + 11) + 0 ≤ R.locals by omega) rfl rfl (rest := []) rfl (Nat.le_of_ble_eq_true rfl) dX5_atLeast_112 (fun r39 k40 h41 => ?_)
    exact zf_vret hC rfl dX5_atLeast_115
def FX5_atLeast (u : ST → Int32 → Option (Unit × ST)) (k : ST) (a0 : Int32) : Option (Unit × ST) := ob (fX5_number k 999) fun r1 k2 => ob (fX5_skipBlanks k2) fun r4 k5 => ob (fX5_here k5) fun r7 k8 => if r7 = 123 then ob (fX5_enters k8 a0) fun r11 k12 => if r11 = true then ob (FX5_any u k12 (a0 + 1)) fun r15 k16 => lpX5_atLeast_52 u a0 r1 FU 1 0 k16 fun y26 y27 k28 => jbX5_atLeast_85 u a0 r1 y26 y27 k28 else some ((), k12) else ob (fX5_stop k8 (gI k8 4 6)) fun r42 k43 => some ((), k43)
set_option maxRecDepth 20000 in
theorem cF_X5_atLeast (l : Launch) (g : GT) {fu lu : Nat} {u : ST → Int32 → Option (Unit × ST)} (hu : ∀ (z0 : Int32), CN l yX5_unit cX5_unit 3 none { frames := fu, cells := 0, slots := 0, locals := lu } g TK voV [.ref (g.2.1 4), .int z0] (fun k => u k z0)) (a0 : Int32) : CN l yX5_atLeast cX5_atLeast 5 none { frames := fu + 4, cells := 0, slots := 0, locals := lu + 85 } g TK voV [.ref (g.2.1 4), .int a0] (fun k => FX5_atLeast u k a0) := by
  refine cn_of (by decide) (Nat.le_of_ble_eq_true rfl) ?_
  intro p e s m args below meth c hC k
  have hC : HC p s m args meth c cX5_atLeast 5 RX5 none g := hC
  generalize hRe : ({ frames := fu + 4, cells := 0, slots := 0, locals := lu + 85 } : Room) = R
  have hR : fu + 4 ≤ R.frames ∧ lu + 85 ≤ R.locals := by rw [← hRe]; exact ⟨Nat.le_refl _, Nat.le_refl _⟩
  show ZF p l e _ s m args below meth c g TK voV 5 k 0 [(0, .ref (g.2.1 4)), (1, .int a0)] [] (FX5_atLeast u k a0)
  unfold FX5_atLeast
  refine zf_aload_n hC dX5_atLeast_0 rfl 0 rfl ?_
  refine zf_sipush hC (v := 999) dX5_atLeast_1 rfl ?_
  refine zf_callV hC (c_X5_number l g 999) mt_X5_number wd_801 sp_21 ci_4 ic_4 wd_799 rfl (show 1 + 1 ≤ R.frames ∧ 8 + (4 + 11) + 21 ≤ R.locals by omega) rfl rfl (rest := []) rfl (Nat.le_of_ble_eq_true rfl) dX5_atLeast_4 (fun r1 k2 h3 => ?_)
  refine zf_istore_n hC (LV' := [(2, .int r1), (0, .ref (g.2.1 4)), (1, .int a0)]) dX5_atLeast_7 rfl (by decide) rfl ?_
  refine zf_aload_n hC dX5_atLeast_8 rfl 1 rfl ?_
  refine zf_callV hC (c_X5_skipBlanks l g) mt_X5_skipBlanks wd_766 sp_13 ci_4 ic_4 wd_764 rfl (show 0 + 1 ≤ R.frames ∧ 8 + (1 + 11) + 0 ≤ R.locals by omega) rfl rfl (rest := []) rfl (Nat.le_of_ble_eq_true rfl) dX5_atLeast_9 (fun r4 k5 h6 => ?_)
  refine zf_aload_n hC dX5_atLeast_12 rfl 1 rfl ?_
  refine zf_callV hC (c_X5_here l g) mt_X5_here wd_770 sp_14 ci_4 ic_4 wd_768 rfl (show 0 + 1 ≤ R.frames ∧ 8 + (1 + 11) + 0 ≤ R.locals by omega) rfl rfl (rest := []) rfl (Nat.le_of_ble_eq_true rfl) dX5_atLeast_13 (fun r7 k8 h9 => ?_)
  refine zf_bipush hC (v := 123) dX5_atLeast_16 rfl ?_
  refine zf_icmp_eq hC (tgt := 32) dX5_atLeast_18 (by decide) (fun h10 => ?_) (fun h10 => ?_)
  · refine zf_aload_n hC dX5_atLeast_32 rfl 1 rfl ?_
    refine zf_iload_n hC dX5_atLeast_33 rfl 2 rfl ?_
    refine zf_callV hC (c_X5_enters l g a0) mt_X5_enters wd_774 sp_15 ci_4 ic_4 wd_772 rfl (show 1 + 1 ≤ R.frames ∧ 8 + (2 + 11) + 21 ≤ R.locals by omega) rfl rfl (rest := []) rfl (Nat.le_of_ble_eq_true rfl) dX5_atLeast_34 (fun r11 k12 h13 => ?_)
    refine zf_ifb_eq hC (tgt := 115) dX5_atLeast_37 (by decide) (fun h14 => ?_) (fun h14 => ?_)
    · refine zf_aload_n hC dX5_atLeast_40 rfl 1 rfl ?_
      refine zf_iload_n hC dX5_atLeast_41 rfl 2 rfl ?_
      refine zf_iconst hC (v := 1) dX5_atLeast_42 rfl ?_
      refine zf_iadd hC dX5_atLeast_43 ?_
      refine zf_callV hC (cF_X5_any l g hu (a0 + 1)) mt_X5_any wd_754 sp_10 ci_4 ic_4 wd_752 rfl (show fu + 3 + 1 ≤ R.frames ∧ 8 + (3 + 11) + (lu + 63) ≤ R.locals by omega) rfl rfl (rest := []) rfl (Nat.le_of_ble_eq_true rfl) dX5_atLeast_44 (fun r15 k16 h17 => ?_)
      refine zf_iconst hC (v := 1) dX5_atLeast_47 rfl ?_
      refine zf_istore_n hC (LV' := [(3, .int 1), (2, .int r1), (0, .ref (g.2.1 4)), (1, .int a0)]) dX5_atLeast_48 rfl (by decide) rfl ?_
      refine zf_iconst hC (v := 0) dX5_atLeast_49 rfl ?_
      refine zf_istore hC (LV' := [(4, .int 0), (3, .int 1), (2, .int r1), (0, .ref (g.2.1 4)), (1, .int a0)]) dX5_atLeast_50 (by decide) rfl ?_
      refine zf_lv (LV' := [(0, .ref (g.2.1 4)), (1, .int a0), (2, .int r1), (3, .int 1), (4, .int 0)]) [3, 4, 2, 1, 0] rfl ?_
      refine zlpX5_atLeast_52 hC hR hu a0 r1 (fun y26 y27 k28 => ?_) FU 1 0 k16
      exact zjbX5_atLeast_85 hC hR hu a0 r1 y26 y27 k28
    · exact zf_vret hC rfl dX5_atLeast_115
  · refine zf_aload_n hC dX5_atLeast_21 rfl 1 rfl ?_
    refine zf_aload_n hC dX5_atLeast_22 rfl 1 rfl ?_
    refine gf_184 hC dX5_atLeast_23 ?_
    refine zf_callV hC (c_X5_stop l g (gI k8 4 6)) mt_X5_stop wd_778 sp_16 ci_4 ic_4 wd_776 rfl (show 0 + 1 ≤ R.frames ∧ 8 + (2 + 11) + 0 ≤ R.locals by omega) rfl rfl (rest := []) rfl (Nat.le_of_ble_eq_true rfl) dX5_atLeast_26 (fun r42 k43 h44 => ?_)
    refine zf_goto hC (tgt := 115) dX5_atLeast_29 (by decide) ?_
    exact zf_vret hC rfl dX5_atLeast_115
/-! LifeKeys.Rules.unit -/
theorem dX5_unit_0 : decode cX5_unit 0 = .ok (.aload_n 0, 1) := by decide +kernel
theorem dX5_unit_1 : decode cX5_unit 1 = .ok (.invokevirtual 79, 3) := by decide +kernel
theorem dX5_unit_4 : decode cX5_unit 4 = .ok (.aload_n 0, 1) := by decide +kernel
theorem dX5_unit_5 : decode cX5_unit 5 = .ok (.invokevirtual 82, 3) := by decide +kernel
theorem dX5_unit_8 : decode cX5_unit 8 = .ok (.istore_n 2, 1) := by decide +kernel
theorem dX5_unit_9 : decode cX5_unit 9 = .ok (.iload_n 2, 1) := by decide +kernel
theorem dX5_unit_10 : decode cX5_unit 10 = .ok (.bipush 33, 2) := by decide +kernel
theorem dX5_unit_12 : decode cX5_unit 12 = .ok (.if_icmp .ne 28, 3) := by decide +kernel
theorem dX5_unit_15 : decode cX5_unit 15 = .ok (.aload_n 0, 1) := by decide +kernel
theorem dX5_unit_16 : decode cX5_unit 16 = .ok (.iload_n 1, 1) := by decide +kernel
theorem dX5_unit_17 : decode cX5_unit 17 = .ok (.invokevirtual 86, 3) := by decide +kernel
theorem dX5_unit_20 : decode cX5_unit 20 = .ok (.ifCond .eq 64, 3) := by decide +kernel
theorem dX5_unit_23 : decode cX5_unit 23 = .ok (.aload_n 0, 1) := by decide +kernel
theorem dX5_unit_24 : decode cX5_unit 24 = .ok (.iload_n 1, 1) := by decide +kernel
theorem dX5_unit_25 : decode cX5_unit 25 = .ok (.iconst 1, 1) := by decide +kernel
theorem dX5_unit_26 : decode cX5_unit 26 = .ok (.iadd, 1) := by decide +kernel
theorem dX5_unit_27 : decode cX5_unit 27 = .ok (.invokevirtual 76, 3) := by decide +kernel
theorem dX5_unit_30 : decode cX5_unit 30 = .ok (.aload_n 0, 1) := by decide +kernel
theorem dX5_unit_31 : decode cX5_unit 31 = .ok (.bipush 33, 2) := by decide +kernel
theorem dX5_unit_33 : decode cX5_unit 33 = .ok (.iconst 0, 1) := by decide +kernel
theorem dX5_unit_34 : decode cX5_unit 34 = .ok (.invokevirtual 72, 3) := by decide +kernel
theorem dX5_unit_37 : decode cX5_unit 37 = .ok (.goto 47, 3) := by decide +kernel
theorem dX5_unit_40 : decode cX5_unit 40 = .ok (.iload_n 2, 1) := by decide +kernel
theorem dX5_unit_41 : decode cX5_unit 41 = .ok (.bipush 40, 2) := by decide +kernel
theorem dX5_unit_43 : decode cX5_unit 43 = .ok (.if_icmp .ne 21, 3) := by decide +kernel
theorem dX5_unit_46 : decode cX5_unit 46 = .ok (.aload_n 0, 1) := by decide +kernel
theorem dX5_unit_47 : decode cX5_unit 47 = .ok (.iload_n 1, 1) := by decide +kernel
theorem dX5_unit_48 : decode cX5_unit 48 = .ok (.invokevirtual 86, 3) := by decide +kernel
theorem dX5_unit_51 : decode cX5_unit 51 = .ok (.ifCond .eq 33, 3) := by decide +kernel
theorem dX5_unit_54 : decode cX5_unit 54 = .ok (.aload_n 0, 1) := by decide +kernel
theorem dX5_unit_55 : decode cX5_unit 55 = .ok (.iload_n 1, 1) := by decide +kernel
theorem dX5_unit_56 : decode cX5_unit 56 = .ok (.iconst 1, 1) := by decide +kernel
theorem dX5_unit_57 : decode cX5_unit 57 = .ok (.iadd, 1) := by decide +kernel
theorem dX5_unit_58 : decode cX5_unit 58 = .ok (.invokevirtual 89, 3) := by decide +kernel
theorem dX5_unit_61 : decode cX5_unit 61 = .ok (.goto 23, 3) := by decide +kernel
theorem dX5_unit_64 : decode cX5_unit 64 = .ok (.iload_n 2, 1) := by decide +kernel
theorem dX5_unit_65 : decode cX5_unit 65 = .ok (.invokestatic 92, 3) := by decide +kernel
theorem dX5_unit_68 : decode cX5_unit 68 = .ok (.ifCond .eq 11, 3) := by decide +kernel
theorem dX5_unit_71 : decode cX5_unit 71 = .ok (.aload_n 0, 1) := by decide +kernel
theorem dX5_unit_72 : decode cX5_unit 72 = .ok (.iload_n 1, 1) := by decide +kernel
theorem dX5_unit_73 : decode cX5_unit 73 = .ok (.invokevirtual 95, 3) := by decide +kernel
theorem dX5_unit_76 : decode cX5_unit 76 = .ok (.goto 8, 3) := by decide +kernel
theorem dX5_unit_79 : decode cX5_unit 79 = .ok (.aload_n 0, 1) := by decide +kernel
theorem dX5_unit_80 : decode cX5_unit 80 = .ok (.iload_n 2, 1) := by decide +kernel
theorem dX5_unit_81 : decode cX5_unit 81 = .ok (.invokevirtual 98, 3) := by decide +kernel
theorem dX5_unit_84 : decode cX5_unit 84 = .ok (.return_, 1) := by decide +kernel
def FX5_unit (u : ST → Int32 → Option (Unit × ST)) (k : ST) (a0 : Int32) : Option (Unit × ST) := ob (fX5_skipBlanks k) fun r1 k2 => ob (fX5_here k2) fun r4 k5 => if r4 = 33 then ob (fX5_enters k5 a0) fun r8 k9 => if r8 = true then ob (u k9 (a0 + 1)) fun r12 k13 => ob (fX5_write k13 33 0) fun r15 k16 => some ((), k16) else some ((), k9) else if r4 = 40 then ob (fX5_enters k5 a0) fun r19 k20 => if r19 = true then ob (FX5_within u k20 (a0 + 1)) fun r23 k24 => some ((), k24) else some ((), k20) else ob (fX5_isDigit k5 r4) fun r26 k27 => if r26 = true then ob (FX5_atLeast u k27 a0) fun r30 k31 => some ((), k31) else ob (fX5_fact k27 r4) fun r33 k34 => some ((), k34)
set_option maxRecDepth 20000 in
theorem cF_X5_unit (l : Launch) (g : GT) {fu lu : Nat} {u : ST → Int32 → Option (Unit × ST)} (hu : ∀ (z0 : Int32), CN l yX5_unit cX5_unit 3 none { frames := fu, cells := 0, slots := 0, locals := lu } g TK voV [.ref (g.2.1 4), .int z0] (fun k => u k z0)) (a0 : Int32) : CN l yX5_unit cX5_unit 3 none { frames := fu + 5, cells := 0, slots := 0, locals := lu + 109 } g TK voV [.ref (g.2.1 4), .int a0] (fun k => FX5_unit u k a0) := by
  refine cn_of (by decide) (Nat.le_of_ble_eq_true rfl) ?_
  intro p e s m args below meth c hC k
  have hC : HC p s m args meth c cX5_unit 3 RX5 none g := hC
  generalize hRe : ({ frames := fu + 5, cells := 0, slots := 0, locals := lu + 109 } : Room) = R
  have hR : fu + 5 ≤ R.frames ∧ lu + 109 ≤ R.locals := by rw [← hRe]; exact ⟨Nat.le_refl _, Nat.le_refl _⟩
  show ZF p l e _ s m args below meth c g TK voV 3 k 0 [(0, .ref (g.2.1 4)), (1, .int a0)] [] (FX5_unit u k a0)
  unfold FX5_unit
  refine zf_aload_n hC dX5_unit_0 rfl 0 rfl ?_
  refine zf_callV hC (c_X5_skipBlanks l g) mt_X5_skipBlanks wd_766 sp_13 ci_4 ic_4 wd_764 rfl (show 0 + 1 ≤ R.frames ∧ 8 + (1 + 11) + 0 ≤ R.locals by omega) rfl rfl (rest := []) rfl (Nat.le_of_ble_eq_true rfl) dX5_unit_1 (fun r1 k2 h3 => ?_)
  refine zf_aload_n hC dX5_unit_4 rfl 0 rfl ?_
  refine zf_callV hC (c_X5_here l g) mt_X5_here wd_770 sp_14 ci_4 ic_4 wd_768 rfl (show 0 + 1 ≤ R.frames ∧ 8 + (1 + 11) + 0 ≤ R.locals by omega) rfl rfl (rest := []) rfl (Nat.le_of_ble_eq_true rfl) dX5_unit_5 (fun r4 k5 h6 => ?_)
  refine zf_istore_n hC (LV' := [(2, .int r4), (0, .ref (g.2.1 4)), (1, .int a0)]) dX5_unit_8 rfl (by decide) rfl ?_
  refine zf_iload_n hC dX5_unit_9 rfl 0 rfl ?_
  refine zf_bipush hC (v := 33) dX5_unit_10 rfl ?_
  refine zf_icmp_ne hC (tgt := 40) dX5_unit_12 (by decide) (fun h7 => ?_) (fun h7 => ?_)
  · refine zf_aload_n hC dX5_unit_15 rfl 1 rfl ?_
    refine zf_iload_n hC dX5_unit_16 rfl 2 rfl ?_
    refine zf_callV hC (c_X5_enters l g a0) mt_X5_enters wd_774 sp_15 ci_4 ic_4 wd_772 rfl (show 1 + 1 ≤ R.frames ∧ 8 + (2 + 11) + 21 ≤ R.locals by omega) rfl rfl (rest := []) rfl (Nat.le_of_ble_eq_true rfl) dX5_unit_17 (fun r8 k9 h10 => ?_)
    refine zf_ifb_eq hC (tgt := 84) dX5_unit_20 (by decide) (fun h11 => ?_) (fun h11 => ?_)
    · refine zf_aload_n hC dX5_unit_23 rfl 1 rfl ?_
      refine zf_iload_n hC dX5_unit_24 rfl 2 rfl ?_
      refine zf_iconst hC (v := 1) dX5_unit_25 rfl ?_
      refine zf_iadd hC dX5_unit_26 ?_
      refine zf_callV hC (hu (a0 + 1)) mt_X5_unit wd_762 sp_12 ci_4 ic_4 wd_760 rfl (show fu + 0 + 1 ≤ R.frames ∧ 8 + (3 + 11) + (lu + 0) ≤ R.locals by omega) rfl rfl (rest := []) rfl (Nat.le_of_ble_eq_true rfl) dX5_unit_27 (fun r12 k13 h14 => ?_)
      refine zf_aload_n hC dX5_unit_30 rfl 1 rfl ?_
      refine zf_bipush hC (v := 33) dX5_unit_31 rfl ?_
      refine zf_iconst hC (v := 0) dX5_unit_33 rfl ?_
      refine zf_callV hC (c_X5_write l g 33 0) mt_X5_write wd_782 sp_17 ci_4 ic_4 wd_780 rfl (show 0 + 1 ≤ R.frames ∧ 8 + (3 + 11) + 0 ≤ R.locals by omega) rfl rfl (rest := []) rfl (Nat.le_of_ble_eq_true rfl) dX5_unit_34 (fun r15 k16 h17 => ?_)
      refine zf_goto hC (tgt := 84) dX5_unit_37 (by decide) ?_
      exact zf_vret hC rfl dX5_unit_84
    · exact zf_vret hC rfl dX5_unit_84
  · refine zf_iload_n hC dX5_unit_40 rfl 0 rfl ?_
    refine zf_bipush hC (v := 40) dX5_unit_41 rfl ?_
    refine zf_icmp_ne hC (tgt := 64) dX5_unit_43 (by decide) (fun h18 => ?_) (fun h18 => ?_)
    · refine zf_aload_n hC dX5_unit_46 rfl 1 rfl ?_
      refine zf_iload_n hC dX5_unit_47 rfl 2 rfl ?_
      refine zf_callV hC (c_X5_enters l g a0) mt_X5_enters wd_774 sp_15 ci_4 ic_4 wd_772 rfl (show 1 + 1 ≤ R.frames ∧ 8 + (2 + 11) + 21 ≤ R.locals by omega) rfl rfl (rest := []) rfl (Nat.le_of_ble_eq_true rfl) dX5_unit_48 (fun r19 k20 h21 => ?_)
      refine zf_ifb_eq hC (tgt := 84) dX5_unit_51 (by decide) (fun h22 => ?_) (fun h22 => ?_)
      · refine zf_aload_n hC dX5_unit_54 rfl 1 rfl ?_
        refine zf_iload_n hC dX5_unit_55 rfl 2 rfl ?_
        refine zf_iconst hC (v := 1) dX5_unit_56 rfl ?_
        refine zf_iadd hC dX5_unit_57 ?_
        refine zf_callV hC (cF_X5_within l g hu (a0 + 1)) mt_X5_within wd_786 sp_18 ci_4 ic_4 wd_784 rfl (show fu + 4 + 1 ≤ R.frames ∧ 8 + (2 + 11) + (lu + 85) ≤ R.locals by omega) rfl rfl (rest := []) rfl (Nat.le_of_ble_eq_true rfl) dX5_unit_58 (fun r23 k24 h25 => ?_)
        refine zf_goto hC (tgt := 84) dX5_unit_61 (by decide) ?_
        exact zf_vret hC rfl dX5_unit_84
      · exact zf_vret hC rfl dX5_unit_84
    · refine zf_iload_n hC dX5_unit_64 rfl 0 rfl ?_
      refine zf_callS hC (c_X5_isDigit l g TK r4) mt_X5_isDigit wd_793 wd_792 rfl (show 0 + 1 ≤ R.frames ∧ 8 + (1 + 11) + 0 ≤ R.locals by omega) rfl rfl (rest := []) rfl (Nat.le_of_ble_eq_true rfl) dX5_unit_65 (fun r26 k27 h28 => ?_)
      refine zf_ifb_eq hC (tgt := 79) dX5_unit_68 (by decide) (fun h29 => ?_) (fun h29 => ?_)
      · refine zf_aload_n hC dX5_unit_71 rfl 1 rfl ?_
        refine zf_iload_n hC dX5_unit_72 rfl 2 rfl ?_
        refine zf_callV hC (cF_X5_atLeast l g hu a0) mt_X5_atLeast wd_797 sp_20 ci_4 ic_4 wd_795 rfl (show fu + 4 + 1 ≤ R.frames ∧ 8 + (5 + 11) + (lu + 85) ≤ R.locals by omega) rfl rfl (rest := []) rfl (Nat.le_of_ble_eq_true rfl) dX5_unit_73 (fun r30 k31 h32 => ?_)
        refine zf_goto hC (tgt := 84) dX5_unit_76 (by decide) ?_
        exact zf_vret hC rfl dX5_unit_84
      · refine zf_aload_n hC dX5_unit_79 rfl 1 rfl ?_
        refine zf_iload_n hC dX5_unit_80 rfl 0 rfl ?_
        refine zf_callV hC (c_X5_fact l g r4) mt_X5_fact wd_805 sp_22 ci_4 ic_4 wd_803 rfl (show 2 + 1 ≤ R.frames ∧ 8 + (3 + 11) + 44 ≤ R.locals by omega) rfl rfl (rest := []) rfl (Nat.le_of_ble_eq_true rfl) dX5_unit_81 (fun r33 k34 h35 => ?_)
        exact zf_vret hC rfl dX5_unit_84
def fX5_unit : Nat → ST → Int32 → Option (Unit × ST)
  | 0 => fun _ _ => none
  | n + 1 => FX5_unit (fX5_unit n)
theorem c_X5_unit (l : Launch) (g : GT) : ∀ (n : Nat) (z0 : Int32), CN l yX5_unit cX5_unit 3 none { frames := 5 * n, cells := 0, slots := 0, locals := 109 * n } g TK voV [.ref (g.2.1 4), .int z0] (fun k => fX5_unit n k z0) := by
  intro n
  induction n with
  | zero => intro z0 k r k' h; cases h
  | succ n ih => intro z0; exact cF_X5_unit l g ih z0
def fX5_all (k : ST) (a0 : Int32) : Option (Unit × ST) := FX5_all (fX5_unit 10) k a0
theorem c_X5_all (l : Launch) (g : GT) (a0 : Int32) : CN l yX5_all cX5_all 3 none { frames := 52, cells := 0, slots := 0, locals := 1131 } g TK voV [.ref (g.2.1 4), .int a0] (fun k => fX5_all k a0) := cF_X5_all l g (fu := 5 * 10) (lu := 109 * 10) (c_X5_unit l g 10) a0
def fX5_any (k : ST) (a0 : Int32) : Option (Unit × ST) := FX5_any (fX5_unit 10) k a0
theorem c_X5_any (l : Launch) (g : GT) (a0 : Int32) : CN l yX5_any cX5_any 3 none { frames := 53, cells := 0, slots := 0, locals := 1153 } g TK voV [.ref (g.2.1 4), .int a0] (fun k => fX5_any k a0) := cF_X5_any l g (fu := 5 * 10) (lu := 109 * 10) (c_X5_unit l g 10) a0
def fX5_within (k : ST) (a0 : Int32) : Option (Unit × ST) := FX5_within (fX5_unit 10) k a0
theorem c_X5_within (l : Launch) (g : GT) (a0 : Int32) : CN l yX5_within cX5_within 2 none { frames := 54, cells := 0, slots := 0, locals := 1175 } g TK voV [.ref (g.2.1 4), .int a0] (fun k => fX5_within k a0) := cF_X5_within l g (fu := 5 * 10) (lu := 109 * 10) (c_X5_unit l g 10) a0
def fX5_atLeast (k : ST) (a0 : Int32) : Option (Unit × ST) := FX5_atLeast (fX5_unit 10) k a0
theorem c_X5_atLeast (l : Launch) (g : GT) (a0 : Int32) : CN l yX5_atLeast cX5_atLeast 5 none { frames := 54, cells := 0, slots := 0, locals := 1175 } g TK voV [.ref (g.2.1 4), .int a0] (fun k => fX5_atLeast k a0) := cF_X5_atLeast l g (fu := 5 * 10) (lu := 109 * 10) (c_X5_unit l g 10) a0
/-! LifeKeys.Rules.faultOf -/
theorem dX5_faultOf_0 : decode cX5_faultOf 0 = .ok (.aload_n 0, 1) := by decide +kernel
theorem dX5_faultOf_1 : decode cX5_faultOf 1 = .ok (.aload_n 1, 1) := by decide +kernel
theorem dX5_faultOf_2 : decode cX5_faultOf 2 = .ok (.putfield 23, 3) := by decide +kernel
theorem dX5_faultOf_5 : decode cX5_faultOf 5 = .ok (.aload_n 0, 1) := by decide +kernel
theorem dX5_faultOf_6 : decode cX5_faultOf 6 = .ok (.iconst 0, 1) := by decide +kernel
theorem dX5_faultOf_7 : decode cX5_faultOf 7 = .ok (.putfield 34, 3) := by decide +kernel
theorem dX5_faultOf_10 : decode cX5_faultOf 10 = .ok (.aload_n 0, 1) := by decide +kernel
theorem dX5_faultOf_11 : decode cX5_faultOf 11 = .ok (.iload_n 2, 1) := by decide +kernel
theorem dX5_faultOf_12 : decode cX5_faultOf 12 = .ok (.aload_n 1, 1) := by decide +kernel
theorem dX5_faultOf_13 : decode cX5_faultOf 13 = .ok (.arraylength, 1) := by decide +kernel
theorem dX5_faultOf_14 : decode cX5_faultOf 14 = .ok (.invokestatic 37, 3) := by decide +kernel
theorem dX5_faultOf_17 : decode cX5_faultOf 17 = .ok (.putfield 43, 3) := by decide +kernel
theorem dX5_faultOf_20 : decode cX5_faultOf 20 = .ok (.aload_n 0, 1) := by decide +kernel
theorem dX5_faultOf_21 : decode cX5_faultOf 21 = .ok (.iconst (-1), 1) := by decide +kernel
theorem dX5_faultOf_22 : decode cX5_faultOf 22 = .ok (.putfield 46, 3) := by decide +kernel
theorem dX5_faultOf_25 : decode cX5_faultOf 25 = .ok (.aload_n 0, 1) := by decide +kernel
theorem dX5_faultOf_26 : decode cX5_faultOf 26 = .ok (.iconst 0, 1) := by decide +kernel
theorem dX5_faultOf_27 : decode cX5_faultOf 27 = .ok (.putfield 49, 3) := by decide +kernel
theorem dX5_faultOf_30 : decode cX5_faultOf 30 = .ok (.aload_n 0, 1) := by decide +kernel
theorem dX5_faultOf_31 : decode cX5_faultOf 31 = .ok (.iconst 0, 1) := by decide +kernel
theorem dX5_faultOf_32 : decode cX5_faultOf 32 = .ok (.invokevirtual 52, 3) := by decide +kernel
theorem dX5_faultOf_35 : decode cX5_faultOf 35 = .ok (.aload_n 0, 1) := by decide +kernel
theorem dX5_faultOf_36 : decode cX5_faultOf 36 = .ok (.getfield 34, 3) := by decide +kernel
theorem dX5_faultOf_39 : decode cX5_faultOf 39 = .ok (.aload_n 0, 1) := by decide +kernel
theorem dX5_faultOf_40 : decode cX5_faultOf 40 = .ok (.getfield 43, 3) := by decide +kernel
theorem dX5_faultOf_43 : decode cX5_faultOf 43 = .ok (.if_icmp .ge 11, 3) := by decide +kernel
theorem dX5_faultOf_46 : decode cX5_faultOf 46 = .ok (.aload_n 0, 1) := by decide +kernel
theorem dX5_faultOf_47 : decode cX5_faultOf 47 = .ok (.aload_n 0, 1) := by decide +kernel
theorem dX5_faultOf_48 : decode cX5_faultOf 48 = .ok (.getfield 34, 3) := by decide +kernel
theorem dX5_faultOf_51 : decode cX5_faultOf 51 = .ok (.invokevirtual 56, 3) := by decide +kernel
theorem dX5_faultOf_54 : decode cX5_faultOf 54 = .ok (.aload_n 0, 1) := by decide +kernel
theorem dX5_faultOf_55 : decode cX5_faultOf 55 = .ok (.getfield 46, 3) := by decide +kernel
theorem dX5_faultOf_58 : decode cX5_faultOf 58 = .ok (.ireturn, 1) := by decide +kernel
def fX5_faultOf (k : ST) (a1 : Int32) : Option (Int32 × ST) := nm (sI k 4 5 55) fun k1 => nm (sI k1 4 6 0) fun k2 => ob (fJ9_min_7cf53 k2 a1 160) fun r3 k4 => nm (sI k4 4 7 r3) fun k6 => nm (sI k6 4 8 (-1)) fun k7 => nm (sI k7 4 4 0) fun k8 => ob (fX5_any k8 0) fun r9 k10 => if (gI k10 4 7) ≤ (gI k10 4 6) then some (gI k10 4 8, k10) else ob (fX5_stop k10 (gI k10 4 6)) fun r13 k14 => some (gI k14 4 8, k14)
set_option maxRecDepth 20000 in
theorem c_X5_faultOf (l : Launch) (g : GT) (a1 : Int32) : CN l yX5_faultOf cX5_faultOf 3 (some .int) { frames := 54, cells := 0, slots := 0, locals := 1175 } g TK voI [.ref (g.2.1 4), .ref (g.2.1 55), .int a1] (fun k => fX5_faultOf k a1) := by
  refine cn_of (by decide) (Nat.le_of_ble_eq_true rfl) ?_
  intro p e s m args below meth c hC k
  have hC : HC p s m args meth c cX5_faultOf 3 RX5 (some .int) g := hC
  have hR : 54 ≤ ({ frames := 54, cells := 0, slots := 0, locals := 1175 } : Room).frames ∧ 1175 ≤ ({ frames := 54, cells := 0, slots := 0, locals := 1175 } : Room).locals := ⟨Nat.le_refl _, Nat.le_refl _⟩
  show ZF p l e _ s m args below meth c g TK voI 3 k 0 [(0, .ref (g.2.1 4)), (1, .ref (g.2.1 55)), (2, .int a1)] [] (fX5_faultOf k a1)
  unfold fX5_faultOf
  refine zf_aload_n hC dX5_faultOf_0 rfl 0 rfl ?_
  refine zf_aload_n hC dX5_faultOf_1 rfl 1 rfl ?_
  refine pf_183 hC 55 (n := 55) rfl dX5_faultOf_2 ?_
  refine zf_nmk (fun k1 => ?_)
  refine zf_aload_n hC dX5_faultOf_5 rfl 0 rfl ?_
  refine zf_iconst hC (v := 0) dX5_faultOf_6 rfl ?_
  refine pf_184 hC dX5_faultOf_7 ?_
  refine zf_nmk (fun k2 => ?_)
  refine zf_aload_n hC dX5_faultOf_10 rfl 0 rfl ?_
  refine zf_iload_n hC dX5_faultOf_11 rfl 2 rfl ?_
  refine zf_aload_n hC dX5_faultOf_12 rfl 1 rfl ?_
  refine zf_alen hC (j := 43) ia_43 (v := 160) rfl dX5_faultOf_13 ?_
  refine zf_callS hC (c_J9_min_7cf53 l g TK a1 160) mt_J9_min_7cf53 wd_750 wd_749 rfl (rm_le hR rfl) rfl rfl (rest := [.ref (g.2.1 4)]) rfl (Nat.le_of_ble_eq_true rfl) dX5_faultOf_14 (fun r3 k4 h5 => ?_)
  refine pf_185 hC dX5_faultOf_17 ?_
  refine zf_nmk (fun k6 => ?_)
  refine zf_aload_n hC dX5_faultOf_20 rfl 0 rfl ?_
  refine zf_iconst hC (v := (-1)) dX5_faultOf_21 rfl ?_
  refine pf_186 hC dX5_faultOf_22 ?_
  refine zf_nmk (fun k7 => ?_)
  refine zf_aload_n hC dX5_faultOf_25 rfl 0 rfl ?_
  refine zf_iconst hC (v := 0) dX5_faultOf_26 rfl ?_
  refine pf_182 hC dX5_faultOf_27 ?_
  refine zf_nmk (fun k8 => ?_)
  refine zf_aload_n hC dX5_faultOf_30 rfl 0 rfl ?_
  refine zf_iconst hC (v := 0) dX5_faultOf_31 rfl ?_
  refine zf_callV hC (c_X5_any l g 0) mt_X5_any wd_754 sp_10 ci_4 ic_4 wd_752 rfl (rm_le hR rfl) rfl rfl (rest := []) rfl (Nat.le_of_ble_eq_true rfl) dX5_faultOf_32 (fun r9 k10 h11 => ?_)
  refine zf_aload_n hC dX5_faultOf_35 rfl 0 rfl ?_
  refine gf_184 hC dX5_faultOf_36 ?_
  refine zf_aload_n hC dX5_faultOf_39 rfl 0 rfl ?_
  refine gf_185 hC dX5_faultOf_40 ?_
  refine zf_icmp_ge hC (tgt := 54) dX5_faultOf_43 (by decide) (fun h12 => ?_) (fun h12 => ?_)
  · refine zf_aload_n hC dX5_faultOf_54 rfl 0 rfl ?_
    refine gf_186 hC dX5_faultOf_55 ?_
    exact zf_iret hC rfl dX5_faultOf_58
  · refine zf_aload_n hC dX5_faultOf_46 rfl 0 rfl ?_
    refine zf_aload_n hC dX5_faultOf_47 rfl 0 rfl ?_
    refine gf_184 hC dX5_faultOf_48 ?_
    refine zf_callV hC (c_X5_stop l g (gI k10 4 6)) mt_X5_stop wd_778 sp_16 ci_4 ic_4 wd_776 rfl (rm_le hR rfl) rfl rfl (rest := []) rfl (Nat.le_of_ble_eq_true rfl) dX5_faultOf_51 (fun r13 k14 h15 => ?_)
    refine zf_aload_n hC dX5_faultOf_54 rfl 0 rfl ?_
    refine gf_186 hC dX5_faultOf_55 ?_
    exact zf_iret hC rfl dX5_faultOf_58
/-! LifeKeys.Rules.knows -/
theorem dX5_knows_0 : decode cX5_knows 0 = .ok (.iload_n 1, 1) := by decide +kernel
theorem dX5_knows_1 : decode cX5_knows 1 = .ok (.ifCond .lt 15, 3) := by decide +kernel
theorem dX5_knows_4 : decode cX5_knows 4 = .ok (.iload_n 1, 1) := by decide +kernel
theorem dX5_knows_5 : decode cX5_knows 5 = .ok (.aload_n 0, 1) := by decide +kernel
theorem dX5_knows_6 : decode cX5_knows 6 = .ok (.getfield 30, 3) := by decide +kernel
theorem dX5_knows_9 : decode cX5_knows 9 = .ok (.if_icmp .ge 7, 3) := by decide +kernel
theorem dX5_knows_12 : decode cX5_knows 12 = .ok (.iconst 1, 1) := by decide +kernel
theorem dX5_knows_13 : decode cX5_knows 13 = .ok (.goto 4, 3) := by decide +kernel
theorem dX5_knows_16 : decode cX5_knows 16 = .ok (.iconst 0, 1) := by decide +kernel
theorem dX5_knows_17 : decode cX5_knows 17 = .ok (.ireturn, 1) := by decide +kernel
def fX5_knows (k : ST) (a0 : Int32) : Option (Bool × ST) := if a0 < 0 then some (false, k) else if (gI k 4 0) ≤ a0 then some (false, k) else some (true, k)
set_option maxRecDepth 20000 in
theorem c_X5_knows (l : Launch) (g : GT) (a0 : Int32) : CN l yX5_knows cX5_knows 2 (some .boolean) { frames := 0, cells := 0, slots := 0, locals := 0 } g TK voB [.ref (g.2.1 4), .int a0] (fun k => fX5_knows k a0) := by
  refine cn_of (by decide) (Nat.le_of_ble_eq_true rfl) ?_
  intro p e s m args below meth c hC k
  have hC : HC p s m args meth c cX5_knows 2 RX5 (some .boolean) g := hC
  have hR : 0 ≤ ({ frames := 0, cells := 0, slots := 0, locals := 0 } : Room).frames ∧ 0 ≤ ({ frames := 0, cells := 0, slots := 0, locals := 0 } : Room).locals := ⟨Nat.le_refl _, Nat.le_refl _⟩
  show ZF p l e _ s m args below meth c g TK voB 2 k 0 [(0, .ref (g.2.1 4)), (1, .int a0)] [] (fX5_knows k a0)
  unfold fX5_knows
  refine zf_iload_n hC dX5_knows_0 rfl 1 rfl ?_
  refine zf_if_lt hC (tgt := 16) dX5_knows_1 (by decide) (fun h1 => ?_) (fun h1 => ?_)
  · refine zf_iconst hC (v := 0) dX5_knows_16 rfl ?_
    exact zf_zret hC rfl false rfl dX5_knows_17
  · refine zf_iload_n hC dX5_knows_4 rfl 1 rfl ?_
    refine zf_aload_n hC dX5_knows_5 rfl 0 rfl ?_
    refine gf_177 hC dX5_knows_6 ?_
    refine zf_icmp_ge hC (tgt := 16) dX5_knows_9 (by decide) (fun h2 => ?_) (fun h2 => ?_)
    · refine zf_iconst hC (v := 0) dX5_knows_16 rfl ?_
      exact zf_zret hC rfl false rfl dX5_knows_17
    · refine zf_iconst hC (v := 1) dX5_knows_12 rfl ?_
      refine zf_goto hC (tgt := 17) dX5_knows_13 (by decide) ?_
      exact zf_zret hC rfl true rfl dX5_knows_17
/-! LifeKeys.Rules.pop -/
theorem dX5_pop_0 : decode cX5_pop 0 = .ok (.aload_n 0, 1) := by decide +kernel
theorem dX5_pop_1 : decode cX5_pop 1 = .ok (.getfield 122, 3) := by decide +kernel
theorem dX5_pop_4 : decode cX5_pop 4 = .ok (.ifCond .gt 5, 3) := by decide +kernel
theorem dX5_pop_7 : decode cX5_pop 7 = .ok (.iconst 0, 1) := by decide +kernel
theorem dX5_pop_8 : decode cX5_pop 8 = .ok (.ireturn, 1) := by decide +kernel
theorem dX5_pop_9 : decode cX5_pop 9 = .ok (.aload_n 0, 1) := by decide +kernel
theorem dX5_pop_10 : decode cX5_pop 10 = .ok (.dup, 1) := by decide +kernel
theorem dX5_pop_11 : decode cX5_pop 11 = .ok (.getfield 122, 3) := by decide +kernel
theorem dX5_pop_14 : decode cX5_pop 14 = .ok (.iconst 1, 1) := by decide +kernel
theorem dX5_pop_15 : decode cX5_pop 15 = .ok (.isub, 1) := by decide +kernel
theorem dX5_pop_16 : decode cX5_pop 16 = .ok (.putfield 122, 3) := by decide +kernel
theorem dX5_pop_19 : decode cX5_pop 19 = .ok (.aload_n 0, 1) := by decide +kernel
theorem dX5_pop_20 : decode cX5_pop 20 = .ok (.getfield 26, 3) := by decide +kernel
theorem dX5_pop_23 : decode cX5_pop 23 = .ok (.aload_n 0, 1) := by decide +kernel
theorem dX5_pop_24 : decode cX5_pop 24 = .ok (.getfield 122, 3) := by decide +kernel
theorem dX5_pop_27 : decode cX5_pop 27 = .ok (.baload, 1) := by decide +kernel
theorem dX5_pop_28 : decode cX5_pop 28 = .ok (.ireturn, 1) := by decide +kernel
def fX5_pop (k : ST)  : Option (Bool × ST) := if 0 < (gI k 4 10) then nm (sI k 4 10 ((gI k 4 10) - 1)) fun k2 => ck (inb (gI k2 4 10) 160) (if gA k2 29 (ix (gI k2 4 10)) = 0 then some (false, k2) else if gA k2 29 (ix (gI k2 4 10)) = 1 then some (true, k2) else none) else some (false, k)
set_option maxRecDepth 20000 in
theorem c_X5_pop (l : Launch) (g : GT)  : CN l yX5_pop cX5_pop 1 (some .boolean) { frames := 0, cells := 0, slots := 0, locals := 0 } g TK voB [.ref (g.2.1 4)] (fun k => fX5_pop k) := by
  refine cn_of (by decide) (Nat.le_of_ble_eq_true rfl) ?_
  intro p e s m args below meth c hC k
  have hC : HC p s m args meth c cX5_pop 1 RX5 (some .boolean) g := hC
  have hR : 0 ≤ ({ frames := 0, cells := 0, slots := 0, locals := 0 } : Room).frames ∧ 0 ≤ ({ frames := 0, cells := 0, slots := 0, locals := 0 } : Room).locals := ⟨Nat.le_refl _, Nat.le_refl _⟩
  show ZF p l e _ s m args below meth c g TK voB 1 k 0 [(0, .ref (g.2.1 4))] [] (fX5_pop k)
  unfold fX5_pop
  refine zf_aload_n hC dX5_pop_0 rfl 0 rfl ?_
  refine gf_188 hC dX5_pop_1 ?_
  refine zf_if_gt hC (tgt := 9) dX5_pop_4 (by decide) (fun h1 => ?_) (fun h1 => ?_)
  · refine zf_aload_n hC dX5_pop_9 rfl 0 rfl ?_
    refine zf_dup hC dX5_pop_10 rfl ?_
    refine gf_188 hC dX5_pop_11 ?_
    refine zf_iconst hC (v := 1) dX5_pop_14 rfl ?_
    refine zf_isub hC dX5_pop_15 ?_
    refine pf_188 hC dX5_pop_16 ?_
    refine zf_nmk (fun k2 => ?_)
    refine zf_aload_n hC dX5_pop_19 rfl 0 rfl ?_
    refine gf_187 hC dX5_pop_20 ?_
    refine zf_aload_n hC dX5_pop_23 rfl 0 rfl ?_
    refine gf_188 hC dX5_pop_24 ?_
    refine zf_zald hC (j := 29) ia_29 rfl rfl dX5_pop_27 (fun h3 => ?_)
    exact zf_zretI hC rfl dX5_pop_28
  · refine zf_iconst hC (v := 0) dX5_pop_7 rfl ?_
    exact zf_zret hC rfl false rfl dX5_pop_8
/-! LifeKeys.Rules.push -/
theorem dX5_push_0 : decode cX5_push 0 = .ok (.aload_n 0, 1) := by decide +kernel
theorem dX5_push_1 : decode cX5_push 1 = .ok (.getfield 122, 3) := by decide +kernel
theorem dX5_push_4 : decode cX5_push 4 = .ok (.aload_n 0, 1) := by decide +kernel
theorem dX5_push_5 : decode cX5_push 5 = .ok (.getfield 26, 3) := by decide +kernel
theorem dX5_push_8 : decode cX5_push 8 = .ok (.arraylength, 1) := by decide +kernel
theorem dX5_push_9 : decode cX5_push 9 = .ok (.if_icmp .ge 23, 3) := by decide +kernel
theorem dX5_push_12 : decode cX5_push 12 = .ok (.aload_n 0, 1) := by decide +kernel
theorem dX5_push_13 : decode cX5_push 13 = .ok (.getfield 26, 3) := by decide +kernel
theorem dX5_push_16 : decode cX5_push 16 = .ok (.aload_n 0, 1) := by decide +kernel
theorem dX5_push_17 : decode cX5_push 17 = .ok (.getfield 122, 3) := by decide +kernel
theorem dX5_push_20 : decode cX5_push 20 = .ok (.iload_n 1, 1) := by decide +kernel
theorem dX5_push_21 : decode cX5_push 21 = .ok (.bastore, 1) := by decide +kernel
theorem dX5_push_22 : decode cX5_push 22 = .ok (.aload_n 0, 1) := by decide +kernel
theorem dX5_push_23 : decode cX5_push 23 = .ok (.dup, 1) := by decide +kernel
theorem dX5_push_24 : decode cX5_push 24 = .ok (.getfield 122, 3) := by decide +kernel
theorem dX5_push_27 : decode cX5_push 27 = .ok (.iconst 1, 1) := by decide +kernel
theorem dX5_push_28 : decode cX5_push 28 = .ok (.iadd, 1) := by decide +kernel
theorem dX5_push_29 : decode cX5_push 29 = .ok (.putfield 122, 3) := by decide +kernel
theorem dX5_push_32 : decode cX5_push 32 = .ok (.return_, 1) := by decide +kernel
def fX5_push (k : ST) (a0 : Bool) : Option (Unit × ST) := if 160 ≤ (gI k 4 10) then some ((), k) else ck (inb (gI k 4 10) 160) (nm (sA k 29 (ix (gI k 4 10)) (b2i a0)) fun k3 => nm (sI k3 4 10 ((gI k3 4 10) + 1)) fun k4 => some ((), k4))
set_option maxRecDepth 20000 in
theorem c_X5_push (l : Launch) (g : GT) (a0 : Bool) : CN l yX5_push cX5_push 2 none { frames := 0, cells := 0, slots := 0, locals := 0 } g TK voV [.ref (g.2.1 4), .int (b2i a0)] (fun k => fX5_push k a0) := by
  refine cn_of (by decide) (Nat.le_of_ble_eq_true rfl) ?_
  intro p e s m args below meth c hC k
  have hC : HC p s m args meth c cX5_push 2 RX5 none g := hC
  have hR : 0 ≤ ({ frames := 0, cells := 0, slots := 0, locals := 0 } : Room).frames ∧ 0 ≤ ({ frames := 0, cells := 0, slots := 0, locals := 0 } : Room).locals := ⟨Nat.le_refl _, Nat.le_refl _⟩
  show ZF p l e _ s m args below meth c g TK voV 2 k 0 [(0, .ref (g.2.1 4)), (1, .int (b2i a0))] [] (fX5_push k a0)
  unfold fX5_push
  refine zf_aload_n hC dX5_push_0 rfl 0 rfl ?_
  refine gf_188 hC dX5_push_1 ?_
  refine zf_aload_n hC dX5_push_4 rfl 0 rfl ?_
  refine gf_187 hC dX5_push_5 ?_
  refine zf_alen hC (j := 29) ia_29 (v := 160) rfl dX5_push_8 ?_
  refine zf_icmp_ge hC (tgt := 32) dX5_push_9 (by decide) (fun h1 => ?_) (fun h1 => ?_)
  · exact zf_vret hC rfl dX5_push_32
  · refine zf_aload_n hC dX5_push_12 rfl 0 rfl ?_
    refine gf_187 hC dX5_push_13 ?_
    refine zf_aload_n hC dX5_push_16 rfl 0 rfl ?_
    refine gf_188 hC dX5_push_17 ?_
    refine zf_iload_n hC dX5_push_20 rfl 1 rfl ?_
    refine zf_zast hC (j := 29) ia_29 rfl rfl (nar_b _) dX5_push_21 (fun h2 => ?_)
    refine zf_nmk (fun k3 => ?_)
    refine zf_aload_n hC dX5_push_22 rfl 0 rfl ?_
    refine zf_dup hC dX5_push_23 rfl ?_
    refine gf_188 hC dX5_push_24 ?_
    refine zf_iconst hC (v := 1) dX5_push_27 rfl ?_
    refine zf_iadd hC dX5_push_28 ?_
    refine pf_188 hC dX5_push_29 ?_
    refine zf_nmk (fun k4 => ?_)
    exact zf_vret hC rfl dX5_push_32
/-! LifeKeys.Rules.popHolding -/
theorem dX5_popHolding_0 : decode cX5_popHolding 0 = .ok (.iconst 0, 1) := by decide +kernel
theorem dX5_popHolding_1 : decode cX5_popHolding 1 = .ok (.istore_n 2, 1) := by decide +kernel
theorem dX5_popHolding_2 : decode cX5_popHolding 2 = .ok (.iconst 0, 1) := by decide +kernel
theorem dX5_popHolding_3 : decode cX5_popHolding 3 = .ok (.istore_n 3, 1) := by decide +kernel
theorem dX5_popHolding_4 : decode cX5_popHolding 4 = .ok (.iload_n 3, 1) := by decide +kernel
theorem dX5_popHolding_5 : decode cX5_popHolding 5 = .ok (.iload_n 1, 1) := by decide +kernel
theorem dX5_popHolding_6 : decode cX5_popHolding 6 = .ok (.if_icmp .ge 19, 3) := by decide +kernel
theorem dX5_popHolding_9 : decode cX5_popHolding 9 = .ok (.aload_n 0, 1) := by decide +kernel
theorem dX5_popHolding_10 : decode cX5_popHolding 10 = .ok (.invokevirtual 128, 3) := by decide +kernel
theorem dX5_popHolding_13 : decode cX5_popHolding 13 = .ok (.ifCond .eq 6, 3) := by decide +kernel
theorem dX5_popHolding_16 : decode cX5_popHolding 16 = .ok (.iinc 2 1, 3) := by decide +kernel
theorem dX5_popHolding_19 : decode cX5_popHolding 19 = .ok (.iinc 3 1, 3) := by decide +kernel
theorem dX5_popHolding_22 : decode cX5_popHolding 22 = .ok (.goto (-18), 3) := by decide +kernel
theorem dX5_popHolding_25 : decode cX5_popHolding 25 = .ok (.iload_n 2, 1) := by decide +kernel
theorem dX5_popHolding_26 : decode cX5_popHolding 26 = .ok (.ireturn, 1) := by decide +kernel
def lpX5_popHolding_4 (v1 : Int32) : Nat → Int32 → Int32 → ST → (Int32 → Int32 → ST → Option (Int32 × ST)) → Option (Int32 × ST)
  | 0, _, _, _, _ => none
  | n + 1, v2, v3, k, cont => if v1 ≤ v3 then cont v2 v3 k else ob (fX5_pop k) fun r2 k3 => if r2 = true then lpX5_popHolding_4 v1 n (v2 + 1) (v3 + 1) k3 cont else lpX5_popHolding_4 v1 n v2 (v3 + 1) k3 cont
set_option maxRecDepth 20000 in
theorem zlpX5_popHolding_4 {p : Program} {l : Launch} {e : Env} {R : Room} {s : State} {m : MethodId} {args : Array Value} {below : List Frame} {meth : Method} {c : Code} {g : GT} (hC : HC p s m args meth c cX5_popHolding 4 RX5 (some .int) g) (hR : 1 ≤ R.frames ∧ 20 ≤ R.locals)  (v1 : Int32) {cont : Int32 → Int32 → ST → Option (Int32 × ST)} (hk : ∀ (v2 : Int32) (v3 : Int32) (k : ST), ZF p l e R s m args below meth c g TK voI 4 k 25 [(0, .ref (g.2.1 4)), (1, .int v1), (2, .int v2), (3, .int v3)] [] (cont v2 v3 k)) : ∀ (n : Nat) (v2 : Int32) (v3 : Int32) (k : ST), ZF p l e R s m args below meth c g TK voI 4 k 4 [(0, .ref (g.2.1 4)), (1, .int v1), (2, .int v2), (3, .int v3)] [] (lpX5_popHolding_4 v1 n v2 v3 k cont) := by
  intro n
  induction n with
  | zero => intros; exact zf_none
  | succ n ih =>
    intro v2 v3 k
    rw [lpX5_popHolding_4]
    refine zf_iload_n hC dX5_popHolding_4 rfl 3 rfl ?_
    refine zf_iload_n hC dX5_popHolding_5 rfl 1 rfl ?_
    refine zf_icmp_ge hC (tgt := 25) dX5_popHolding_6 (by decide) (fun h1 => ?_) (fun h1 => ?_)
    · refine zf_lv (LV' := [(0, .ref (g.2.1 4)), (1, .int v1), (2, .int v2), (3, .int v3)]) [0, 1, 2, 3] rfl ?_
      exact hk v2 v3 k
    · refine zf_aload_n hC dX5_popHolding_9 rfl 0 rfl ?_
      refine zf_callV hC (c_X5_pop l g) mt_X5_pop wd_905 sp_26 ci_4 ic_4 wd_903 rfl (rm_le hR rfl) rfl rfl (rest := []) rfl (Nat.le_of_ble_eq_true rfl) dX5_popHolding_10 (fun r2 k3 h4 => ?_)
      refine zf_ifb_eq hC (tgt := 19) dX5_popHolding_13 (by decide) (fun h5 => ?_) (fun h5 => ?_)
      · refine zf_iinc hC (q := 2) (v := v2 + 1) (LV' := [(2, .int (v2 + 1)), (0, .ref (g.2.1 4)), (1, .int v1), (3, .int v3)]) dX5_popHolding_16 rfl rfl (by decide) rfl ?_
        refine zf_iinc hC (q := 3) (v := v3 + 1) (LV' := [(3, .int (v3 + 1)), (2, .int (v2 + 1)), (0, .ref (g.2.1 4)), (1, .int v1)]) dX5_popHolding_19 rfl rfl (by decide) rfl ?_
        refine zf_goto hC (tgt := 4) dX5_popHolding_22 (by decide) ?_
        refine zf_lv (LV' := [(0, .ref (g.2.1 4)), (1, .int v1), (2, .int (v2 + 1)), (3, .int (v3 + 1))]) [2, 3, 1, 0] rfl ?_
        exact ih (v2 + 1) (v3 + 1) k3
      · refine zf_iinc hC (q := 3) (v := v3 + 1) (LV' := [(3, .int (v3 + 1)), (0, .ref (g.2.1 4)), (1, .int v1), (2, .int v2)]) dX5_popHolding_19 rfl rfl (by decide) rfl ?_
        refine zf_goto hC (tgt := 4) dX5_popHolding_22 (by decide) ?_
        refine zf_lv (LV' := [(0, .ref (g.2.1 4)), (1, .int v1), (2, .int v2), (3, .int (v3 + 1))]) [1, 2, 3, 0] rfl ?_
        exact ih v2 (v3 + 1) k3
def fX5_popHolding (k : ST) (a0 : Int32) : Option (Int32 × ST) := lpX5_popHolding_4 a0 FU 0 0 k fun y6 y7 k8 => some (y6, k8)
set_option maxRecDepth 20000 in
theorem c_X5_popHolding (l : Launch) (g : GT) (a0 : Int32) : CN l yX5_popHolding cX5_popHolding 4 (some .int) { frames := 1, cells := 0, slots := 0, locals := 20 } g TK voI [.ref (g.2.1 4), .int a0] (fun k => fX5_popHolding k a0) := by
  refine cn_of (by decide) (Nat.le_of_ble_eq_true rfl) ?_
  intro p e s m args below meth c hC k
  have hC : HC p s m args meth c cX5_popHolding 4 RX5 (some .int) g := hC
  have hR : 1 ≤ ({ frames := 1, cells := 0, slots := 0, locals := 20 } : Room).frames ∧ 20 ≤ ({ frames := 1, cells := 0, slots := 0, locals := 20 } : Room).locals := ⟨Nat.le_refl _, Nat.le_refl _⟩
  show ZF p l e _ s m args below meth c g TK voI 4 k 0 [(0, .ref (g.2.1 4)), (1, .int a0)] [] (fX5_popHolding k a0)
  unfold fX5_popHolding
  refine zf_iconst hC (v := 0) dX5_popHolding_0 rfl ?_
  refine zf_istore_n hC (LV' := [(2, .int 0), (0, .ref (g.2.1 4)), (1, .int a0)]) dX5_popHolding_1 rfl (by decide) rfl ?_
  refine zf_iconst hC (v := 0) dX5_popHolding_2 rfl ?_
  refine zf_istore_n hC (LV' := [(3, .int 0), (2, .int 0), (0, .ref (g.2.1 4)), (1, .int a0)]) dX5_popHolding_3 rfl (by decide) rfl ?_
  refine zf_lv (LV' := [(0, .ref (g.2.1 4)), (1, .int a0), (2, .int 0), (3, .int 0)]) [2, 3, 1, 0] rfl ?_
  refine zlpX5_popHolding_4 hC hR a0 (fun y6 y7 k8 => ?_) FU 0 0 k
  refine zf_iload_n hC dX5_popHolding_25 rfl 2 rfl ?_
  exact zf_iret hC rfl dX5_popHolding_26
/-! LifeKeys.Rules.weigh -/
theorem dX5_weigh_0 : decode cX5_weigh 0 = .ok (.iload_n 1, 1) := by decide +kernel
theorem dX5_weigh_1 : decode cX5_weigh 1 = .ok (.sipush 256, 3) := by decide +kernel
theorem dX5_weigh_4 : decode cX5_weigh 4 = .ok (.idiv, 1) := by decide +kernel
theorem dX5_weigh_5 : decode cX5_weigh 5 = .ok (.istore_n 2, 1) := by decide +kernel
theorem dX5_weigh_6 : decode cX5_weigh 6 = .ok (.iload_n 1, 1) := by decide +kernel
theorem dX5_weigh_7 : decode cX5_weigh 7 = .ok (.sipush 256, 3) := by decide +kernel
theorem dX5_weigh_10 : decode cX5_weigh 10 = .ok (.irem, 1) := by decide +kernel
theorem dX5_weigh_11 : decode cX5_weigh 11 = .ok (.lookupswitch 200 #[(33, 65), (38, 84), (100, 185), (104, 155), (110, 170), (123, 126), (124, 105)], 65) := by decide +kernel
theorem dX5_weigh_76 : decode cX5_weigh 76 = .ok (.aload_n 0, 1) := by decide +kernel
theorem dX5_weigh_77 : decode cX5_weigh 77 = .ok (.aload_n 0, 1) := by decide +kernel
theorem dX5_weigh_78 : decode cX5_weigh 78 = .ok (.invokevirtual 128, 3) := by decide +kernel
theorem dX5_weigh_81 : decode cX5_weigh 81 = .ok (.ifCond .ne 7, 3) := by decide +kernel
theorem dX5_weigh_84 : decode cX5_weigh 84 = .ok (.iconst 1, 1) := by decide +kernel
theorem dX5_weigh_85 : decode cX5_weigh 85 = .ok (.goto 4, 3) := by decide +kernel
theorem dX5_weigh_88 : decode cX5_weigh 88 = .ok (.iconst 0, 1) := by decide +kernel
theorem dX5_weigh_89 : decode cX5_weigh 89 = .ok (.invokevirtual 132, 3) := by decide +kernel
theorem dX5_weigh_92 : decode cX5_weigh 92 = .ok (.goto 136, 3) := by decide +kernel
theorem dX5_weigh_95 : decode cX5_weigh 95 = .ok (.aload_n 0, 1) := by decide +kernel
theorem dX5_weigh_96 : decode cX5_weigh 96 = .ok (.aload_n 0, 1) := by decide +kernel
theorem dX5_weigh_97 : decode cX5_weigh 97 = .ok (.iconst 2, 1) := by decide +kernel
theorem dX5_weigh_98 : decode cX5_weigh 98 = .ok (.invokevirtual 136, 3) := by decide +kernel
theorem dX5_weigh_101 : decode cX5_weigh 101 = .ok (.iconst 2, 1) := by decide +kernel
theorem dX5_weigh_102 : decode cX5_weigh 102 = .ok (.if_icmp .ne 7, 3) := by decide +kernel
theorem dX5_weigh_105 : decode cX5_weigh 105 = .ok (.iconst 1, 1) := by decide +kernel
theorem dX5_weigh_106 : decode cX5_weigh 106 = .ok (.goto 4, 3) := by decide +kernel
theorem dX5_weigh_109 : decode cX5_weigh 109 = .ok (.iconst 0, 1) := by decide +kernel
theorem dX5_weigh_110 : decode cX5_weigh 110 = .ok (.invokevirtual 132, 3) := by decide +kernel
theorem dX5_weigh_113 : decode cX5_weigh 113 = .ok (.goto 115, 3) := by decide +kernel
theorem dX5_weigh_116 : decode cX5_weigh 116 = .ok (.aload_n 0, 1) := by decide +kernel
theorem dX5_weigh_117 : decode cX5_weigh 117 = .ok (.aload_n 0, 1) := by decide +kernel
theorem dX5_weigh_118 : decode cX5_weigh 118 = .ok (.iconst 2, 1) := by decide +kernel
theorem dX5_weigh_119 : decode cX5_weigh 119 = .ok (.invokevirtual 136, 3) := by decide +kernel
theorem dX5_weigh_122 : decode cX5_weigh 122 = .ok (.iconst 1, 1) := by decide +kernel
theorem dX5_weigh_123 : decode cX5_weigh 123 = .ok (.if_icmp .lt 7, 3) := by decide +kernel
theorem dX5_weigh_126 : decode cX5_weigh 126 = .ok (.iconst 1, 1) := by decide +kernel
theorem dX5_weigh_127 : decode cX5_weigh 127 = .ok (.goto 4, 3) := by decide +kernel
theorem dX5_weigh_130 : decode cX5_weigh 130 = .ok (.iconst 0, 1) := by decide +kernel
theorem dX5_weigh_131 : decode cX5_weigh 131 = .ok (.invokevirtual 132, 3) := by decide +kernel
theorem dX5_weigh_134 : decode cX5_weigh 134 = .ok (.goto 94, 3) := by decide +kernel
theorem dX5_weigh_137 : decode cX5_weigh 137 = .ok (.aload_n 0, 1) := by decide +kernel
theorem dX5_weigh_138 : decode cX5_weigh 138 = .ok (.aload_n 0, 1) := by decide +kernel
theorem dX5_weigh_139 : decode cX5_weigh 139 = .ok (.iload_n 2, 1) := by decide +kernel
theorem dX5_weigh_140 : decode cX5_weigh 140 = .ok (.sipush 1000, 3) := by decide +kernel
theorem dX5_weigh_143 : decode cX5_weigh 143 = .ok (.idiv, 1) := by decide +kernel
theorem dX5_weigh_144 : decode cX5_weigh 144 = .ok (.invokevirtual 136, 3) := by decide +kernel
theorem dX5_weigh_147 : decode cX5_weigh 147 = .ok (.iload_n 2, 1) := by decide +kernel
theorem dX5_weigh_148 : decode cX5_weigh 148 = .ok (.sipush 1000, 3) := by decide +kernel
theorem dX5_weigh_151 : decode cX5_weigh 151 = .ok (.irem, 1) := by decide +kernel
theorem dX5_weigh_152 : decode cX5_weigh 152 = .ok (.if_icmp .lt 7, 3) := by decide +kernel
theorem dX5_weigh_155 : decode cX5_weigh 155 = .ok (.iconst 1, 1) := by decide +kernel
theorem dX5_weigh_156 : decode cX5_weigh 156 = .ok (.goto 4, 3) := by decide +kernel
theorem dX5_weigh_159 : decode cX5_weigh 159 = .ok (.iconst 0, 1) := by decide +kernel
theorem dX5_weigh_160 : decode cX5_weigh 160 = .ok (.invokevirtual 132, 3) := by decide +kernel
theorem dX5_weigh_163 : decode cX5_weigh 163 = .ok (.goto 65, 3) := by decide +kernel
theorem dX5_weigh_166 : decode cX5_weigh 166 = .ok (.aload_n 0, 1) := by decide +kernel
theorem dX5_weigh_167 : decode cX5_weigh 167 = .ok (.aload_n 0, 1) := by decide +kernel
theorem dX5_weigh_168 : decode cX5_weigh 168 = .ok (.getfield 110, 3) := by decide +kernel
theorem dX5_weigh_171 : decode cX5_weigh 171 = .ok (.iload_n 2, 1) := by decide +kernel
theorem dX5_weigh_172 : decode cX5_weigh 172 = .ok (.invokestatic 139, 3) := by decide +kernel
theorem dX5_weigh_175 : decode cX5_weigh 175 = .ok (.invokevirtual 132, 3) := by decide +kernel
theorem dX5_weigh_178 : decode cX5_weigh 178 = .ok (.goto 50, 3) := by decide +kernel
theorem dX5_weigh_181 : decode cX5_weigh 181 = .ok (.aload_n 0, 1) := by decide +kernel
theorem dX5_weigh_182 : decode cX5_weigh 182 = .ok (.aload_n 0, 1) := by decide +kernel
theorem dX5_weigh_183 : decode cX5_weigh 183 = .ok (.getfield 113, 3) := by decide +kernel
theorem dX5_weigh_186 : decode cX5_weigh 186 = .ok (.iload_n 2, 1) := by decide +kernel
theorem dX5_weigh_187 : decode cX5_weigh 187 = .ok (.invokestatic 139, 3) := by decide +kernel
theorem dX5_weigh_190 : decode cX5_weigh 190 = .ok (.invokevirtual 132, 3) := by decide +kernel
theorem dX5_weigh_193 : decode cX5_weigh 193 = .ok (.goto 35, 3) := by decide +kernel
theorem dX5_weigh_196 : decode cX5_weigh 196 = .ok (.aload_n 0, 1) := by decide +kernel
theorem dX5_weigh_197 : decode cX5_weigh 197 = .ok (.aload_n 0, 1) := by decide +kernel
theorem dX5_weigh_198 : decode cX5_weigh 198 = .ok (.getfield 116, 3) := by decide +kernel
theorem dX5_weigh_201 : decode cX5_weigh 201 = .ok (.iload_n 2, 1) := by decide +kernel
theorem dX5_weigh_202 : decode cX5_weigh 202 = .ok (.invokestatic 139, 3) := by decide +kernel
theorem dX5_weigh_205 : decode cX5_weigh 205 = .ok (.invokevirtual 132, 3) := by decide +kernel
theorem dX5_weigh_208 : decode cX5_weigh 208 = .ok (.goto 20, 3) := by decide +kernel
theorem dX5_weigh_211 : decode cX5_weigh 211 = .ok (.aload_n 0, 1) := by decide +kernel
theorem dX5_weigh_212 : decode cX5_weigh 212 = .ok (.aload_n 0, 1) := by decide +kernel
theorem dX5_weigh_213 : decode cX5_weigh 213 = .ok (.getfield 119, 3) := by decide +kernel
theorem dX5_weigh_216 : decode cX5_weigh 216 = .ok (.iload_n 2, 1) := by decide +kernel
theorem dX5_weigh_217 : decode cX5_weigh 217 = .ok (.if_icmp .lt 7, 3) := by decide +kernel
theorem dX5_weigh_220 : decode cX5_weigh 220 = .ok (.iconst 1, 1) := by decide +kernel
theorem dX5_weigh_221 : decode cX5_weigh 221 = .ok (.goto 4, 3) := by decide +kernel
theorem dX5_weigh_224 : decode cX5_weigh 224 = .ok (.iconst 0, 1) := by decide +kernel
theorem dX5_weigh_225 : decode cX5_weigh 225 = .ok (.invokevirtual 132, 3) := by decide +kernel
theorem dX5_weigh_228 : decode cX5_weigh 228 = .ok (.return_, 1) := by decide +kernel
def fX5_weigh (k : ST) (a0 : Int32) : Option (Unit × ST) := nm (j_rem a0 256) fun x1 => if x1 = 33 then ob (fX5_pop k) fun r3 k4 => if r3 = true then ob (fX5_push k4 false) fun r7 k8 => some ((), k8) else ob (fX5_push k4 true) fun r10 k11 => some ((), k11) else if x1 = 38 then ob (fX5_popHolding k 2) fun r14 k15 => if r14 = 2 then ob (fX5_push k15 true) fun r18 k19 => some ((), k19) else ob (fX5_push k15 false) fun r21 k22 => some ((), k22) else if x1 = 100 then ob (fX11_hasBit k (gI k 4 13) (a0 / 256)) fun r25 k26 => ob (fX5_push k26 r25) fun r28 k29 => some ((), k29) else if x1 = 104 then ob (fX11_hasBit k (gI k 4 11) (a0 / 256)) fun r32 k33 => ob (fX5_push k33 r32) fun r35 k36 => some ((), k36) else if x1 = 110 then ob (fX11_hasBit k (gI k 4 12) (a0 / 256)) fun r39 k40 => ob (fX5_push k40 r39) fun r42 k43 => some ((), k43) else if x1 = 123 then ob (fX5_popHolding k ((a0 / 256) / 1000)) fun r46 k47 => if r46 < (j_rem (a0 / 256) 1000) then ob (fX5_push k47 false) fun r50 k51 => some ((), k51) else ob (fX5_push k47 true) fun r53 k54 => some ((), k54) else if x1 = 124 then ob (fX5_popHolding k 2) fun r57 k58 => if r57 < 1 then ob (fX5_push k58 false) fun r61 k62 => some ((), k62) else ob (fX5_push k58 true) fun r64 k65 => some ((), k65) else if (gI k 4 14) < (a0 / 256) then ob (fX5_push k false) fun r68 k69 => some ((), k69) else ob (fX5_push k true) fun r71 k72 => some ((), k72)
set_option maxRecDepth 20000 in
theorem c_X5_weigh (l : Launch) (g : GT) (a0 : Int32) : CN l yX5_weigh cX5_weigh 3 none { frames := 2, cells := 0, slots := 0, locals := 43 } g TK voV [.ref (g.2.1 4), .int a0] (fun k => fX5_weigh k a0) := by
  refine cn_of (by decide) (Nat.le_of_ble_eq_true rfl) ?_
  intro p e s m args below meth c hC k
  have hC : HC p s m args meth c cX5_weigh 3 RX5 none g := hC
  have hR : 2 ≤ ({ frames := 2, cells := 0, slots := 0, locals := 43 } : Room).frames ∧ 43 ≤ ({ frames := 2, cells := 0, slots := 0, locals := 43 } : Room).locals := ⟨Nat.le_refl _, Nat.le_refl _⟩
  show ZF p l e _ s m args below meth c g TK voV 3 k 0 [(0, .ref (g.2.1 4)), (1, .int a0)] [] (fX5_weigh k a0)
  unfold fX5_weigh
  refine zf_iload_n hC dX5_weigh_0 rfl 1 rfl ?_
  refine zf_sipush hC (v := 256) dX5_weigh_1 rfl ?_
  refine zf_idiv hC dX5_weigh_4 (by decide) ?_
  refine zf_istore_n hC (LV' := [(2, .int (a0 / 256)), (0, .ref (g.2.1 4)), (1, .int a0)]) dX5_weigh_5 rfl (by decide) rfl ?_
  refine zf_iload_n hC dX5_weigh_6 rfl 2 rfl ?_
  refine zf_sipush hC (v := 256) dX5_weigh_7 rfl ?_
  refine zf_irem hC dX5_weigh_10 (by decide) ?_
  refine zf_nmi (fun x1 => ?_)
  refine zf_ite (fun h2 => ?_) (fun h2 => ?_)
  · refine zf_look hC (tgt := 76) dX5_weigh_11 (by decide) (off := 65) (by rw [h2]; rfl) (by decide) ?_
    refine zf_aload_n hC dX5_weigh_76 rfl 1 rfl ?_
    refine zf_aload_n hC dX5_weigh_77 rfl 1 rfl ?_
    refine zf_callV hC (c_X5_pop l g) mt_X5_pop wd_905 sp_26 ci_4 ic_4 wd_903 rfl (rm_le hR rfl) rfl rfl (rest := [.ref (g.2.1 4)]) rfl (Nat.le_of_ble_eq_true rfl) dX5_weigh_78 (fun r3 k4 h5 => ?_)
    refine zf_ifb_ne hC (tgt := 88) dX5_weigh_81 (by decide) (fun h6 => ?_) (fun h6 => ?_)
    · refine zf_iconst hC (v := 0) dX5_weigh_88 rfl ?_
      refine zf_callV hC (c_X5_push l g false) mt_X5_push wd_909 sp_27 ci_4 ic_4 wd_907 rfl (rm_le hR rfl) rfl rfl (rest := []) rfl (Nat.le_of_ble_eq_true rfl) dX5_weigh_89 (fun r7 k8 h9 => ?_)
      refine zf_goto hC (tgt := 228) dX5_weigh_92 (by decide) ?_
      exact zf_vret hC rfl dX5_weigh_228
    · refine zf_iconst hC (v := 1) dX5_weigh_84 rfl ?_
      refine zf_goto hC (tgt := 89) dX5_weigh_85 (by decide) ?_
      refine zf_callV hC (c_X5_push l g true) mt_X5_push wd_909 sp_27 ci_4 ic_4 wd_907 rfl (rm_le hR rfl) rfl rfl (rest := []) rfl (Nat.le_of_ble_eq_true rfl) dX5_weigh_89 (fun r10 k11 h12 => ?_)
      refine zf_goto hC (tgt := 228) dX5_weigh_92 (by decide) ?_
      exact zf_vret hC rfl dX5_weigh_228
  refine zf_ite (fun h13 => ?_) (fun h13 => ?_)
  · refine zf_look hC (tgt := 95) dX5_weigh_11 (by decide) (off := 84) (by rw [h13]; rfl) (by decide) ?_
    refine zf_aload_n hC dX5_weigh_95 rfl 1 rfl ?_
    refine zf_aload_n hC dX5_weigh_96 rfl 1 rfl ?_
    refine zf_iconst hC (v := 2) dX5_weigh_97 rfl ?_
    refine zf_callV hC (c_X5_popHolding l g 2) mt_X5_popHolding wd_913 sp_28 ci_4 ic_4 wd_911 rfl (rm_le hR rfl) rfl rfl (rest := [.ref (g.2.1 4)]) rfl (Nat.le_of_ble_eq_true rfl) dX5_weigh_98 (fun r14 k15 h16 => ?_)
    refine zf_iconst hC (v := 2) dX5_weigh_101 rfl ?_
    refine zf_icmp_ne hC (tgt := 109) dX5_weigh_102 (by decide) (fun h17 => ?_) (fun h17 => ?_)
    · refine zf_iconst hC (v := 1) dX5_weigh_105 rfl ?_
      refine zf_goto hC (tgt := 110) dX5_weigh_106 (by decide) ?_
      refine zf_callV hC (c_X5_push l g true) mt_X5_push wd_909 sp_27 ci_4 ic_4 wd_907 rfl (rm_le hR rfl) rfl rfl (rest := []) rfl (Nat.le_of_ble_eq_true rfl) dX5_weigh_110 (fun r18 k19 h20 => ?_)
      refine zf_goto hC (tgt := 228) dX5_weigh_113 (by decide) ?_
      exact zf_vret hC rfl dX5_weigh_228
    · refine zf_iconst hC (v := 0) dX5_weigh_109 rfl ?_
      refine zf_callV hC (c_X5_push l g false) mt_X5_push wd_909 sp_27 ci_4 ic_4 wd_907 rfl (rm_le hR rfl) rfl rfl (rest := []) rfl (Nat.le_of_ble_eq_true rfl) dX5_weigh_110 (fun r21 k22 h23 => ?_)
      refine zf_goto hC (tgt := 228) dX5_weigh_113 (by decide) ?_
      exact zf_vret hC rfl dX5_weigh_228
  refine zf_ite (fun h24 => ?_) (fun h24 => ?_)
  · refine zf_look hC (tgt := 196) dX5_weigh_11 (by decide) (off := 185) (by rw [h24]; rfl) (by decide) ?_
    refine zf_aload_n hC dX5_weigh_196 rfl 1 rfl ?_
    refine zf_aload_n hC dX5_weigh_197 rfl 1 rfl ?_
    refine gf_191 hC dX5_weigh_198 ?_
    refine zf_iload_n hC dX5_weigh_201 rfl 0 rfl ?_
    refine zf_callSN hC (c_X11_hasBit l g TK (gI k 4 13) (a0 / 256)) mt_X11_hasBit wd_613 wd_915 rfl (rm_le hR rfl) rfl rfl (rest := [.ref (g.2.1 4)]) rfl (Nat.le_of_ble_eq_true rfl) dX5_weigh_202 (fun r25 k26 h27 => ?_)
    refine zf_callV hC (c_X5_push l g r25) mt_X5_push wd_909 sp_27 ci_4 ic_4 wd_907 rfl (rm_le hR rfl) rfl rfl (rest := []) rfl (Nat.le_of_ble_eq_true rfl) dX5_weigh_205 (fun r28 k29 h30 => ?_)
    refine zf_goto hC (tgt := 228) dX5_weigh_208 (by decide) ?_
    exact zf_vret hC rfl dX5_weigh_228
  refine zf_ite (fun h31 => ?_) (fun h31 => ?_)
  · refine zf_look hC (tgt := 166) dX5_weigh_11 (by decide) (off := 155) (by rw [h31]; rfl) (by decide) ?_
    refine zf_aload_n hC dX5_weigh_166 rfl 1 rfl ?_
    refine zf_aload_n hC dX5_weigh_167 rfl 1 rfl ?_
    refine gf_189 hC dX5_weigh_168 ?_
    refine zf_iload_n hC dX5_weigh_171 rfl 0 rfl ?_
    refine zf_callSN hC (c_X11_hasBit l g TK (gI k 4 11) (a0 / 256)) mt_X11_hasBit wd_613 wd_915 rfl (rm_le hR rfl) rfl rfl (rest := [.ref (g.2.1 4)]) rfl (Nat.le_of_ble_eq_true rfl) dX5_weigh_172 (fun r32 k33 h34 => ?_)
    refine zf_callV hC (c_X5_push l g r32) mt_X5_push wd_909 sp_27 ci_4 ic_4 wd_907 rfl (rm_le hR rfl) rfl rfl (rest := []) rfl (Nat.le_of_ble_eq_true rfl) dX5_weigh_175 (fun r35 k36 h37 => ?_)
    refine zf_goto hC (tgt := 228) dX5_weigh_178 (by decide) ?_
    exact zf_vret hC rfl dX5_weigh_228
  refine zf_ite (fun h38 => ?_) (fun h38 => ?_)
  · refine zf_look hC (tgt := 181) dX5_weigh_11 (by decide) (off := 170) (by rw [h38]; rfl) (by decide) ?_
    refine zf_aload_n hC dX5_weigh_181 rfl 1 rfl ?_
    refine zf_aload_n hC dX5_weigh_182 rfl 1 rfl ?_
    refine gf_190 hC dX5_weigh_183 ?_
    refine zf_iload_n hC dX5_weigh_186 rfl 0 rfl ?_
    refine zf_callSN hC (c_X11_hasBit l g TK (gI k 4 12) (a0 / 256)) mt_X11_hasBit wd_613 wd_915 rfl (rm_le hR rfl) rfl rfl (rest := [.ref (g.2.1 4)]) rfl (Nat.le_of_ble_eq_true rfl) dX5_weigh_187 (fun r39 k40 h41 => ?_)
    refine zf_callV hC (c_X5_push l g r39) mt_X5_push wd_909 sp_27 ci_4 ic_4 wd_907 rfl (rm_le hR rfl) rfl rfl (rest := []) rfl (Nat.le_of_ble_eq_true rfl) dX5_weigh_190 (fun r42 k43 h44 => ?_)
    refine zf_goto hC (tgt := 228) dX5_weigh_193 (by decide) ?_
    exact zf_vret hC rfl dX5_weigh_228
  refine zf_ite (fun h45 => ?_) (fun h45 => ?_)
  · refine zf_look hC (tgt := 137) dX5_weigh_11 (by decide) (off := 126) (by rw [h45]; rfl) (by decide) ?_
    refine zf_aload_n hC dX5_weigh_137 rfl 1 rfl ?_
    refine zf_aload_n hC dX5_weigh_138 rfl 1 rfl ?_
    refine zf_iload_n hC dX5_weigh_139 rfl 0 rfl ?_
    refine zf_sipush hC (v := 1000) dX5_weigh_140 rfl ?_
    refine zf_idiv hC dX5_weigh_143 (by decide) ?_
    refine zf_callV hC (c_X5_popHolding l g ((a0 / 256) / 1000)) mt_X5_popHolding wd_913 sp_28 ci_4 ic_4 wd_911 rfl (rm_le hR rfl) rfl rfl (rest := [.ref (g.2.1 4)]) rfl (Nat.le_of_ble_eq_true rfl) dX5_weigh_144 (fun r46 k47 h48 => ?_)
    refine zf_iload_n hC dX5_weigh_147 rfl 0 rfl ?_
    refine zf_sipush hC (v := 1000) dX5_weigh_148 rfl ?_
    refine zf_irem hC dX5_weigh_151 (by decide) ?_
    refine zf_icmp_lt hC (tgt := 159) dX5_weigh_152 (by decide) (fun h49 => ?_) (fun h49 => ?_)
    · refine zf_iconst hC (v := 0) dX5_weigh_159 rfl ?_
      refine zf_callV hC (c_X5_push l g false) mt_X5_push wd_909 sp_27 ci_4 ic_4 wd_907 rfl (rm_le hR rfl) rfl rfl (rest := []) rfl (Nat.le_of_ble_eq_true rfl) dX5_weigh_160 (fun r50 k51 h52 => ?_)
      refine zf_goto hC (tgt := 228) dX5_weigh_163 (by decide) ?_
      exact zf_vret hC rfl dX5_weigh_228
    · refine zf_iconst hC (v := 1) dX5_weigh_155 rfl ?_
      refine zf_goto hC (tgt := 160) dX5_weigh_156 (by decide) ?_
      refine zf_callV hC (c_X5_push l g true) mt_X5_push wd_909 sp_27 ci_4 ic_4 wd_907 rfl (rm_le hR rfl) rfl rfl (rest := []) rfl (Nat.le_of_ble_eq_true rfl) dX5_weigh_160 (fun r53 k54 h55 => ?_)
      refine zf_goto hC (tgt := 228) dX5_weigh_163 (by decide) ?_
      exact zf_vret hC rfl dX5_weigh_228
  refine zf_ite (fun h56 => ?_) (fun h56 => ?_)
  · refine zf_look hC (tgt := 116) dX5_weigh_11 (by decide) (off := 105) (by rw [h56]; rfl) (by decide) ?_
    refine zf_aload_n hC dX5_weigh_116 rfl 1 rfl ?_
    refine zf_aload_n hC dX5_weigh_117 rfl 1 rfl ?_
    refine zf_iconst hC (v := 2) dX5_weigh_118 rfl ?_
    refine zf_callV hC (c_X5_popHolding l g 2) mt_X5_popHolding wd_913 sp_28 ci_4 ic_4 wd_911 rfl (rm_le hR rfl) rfl rfl (rest := [.ref (g.2.1 4)]) rfl (Nat.le_of_ble_eq_true rfl) dX5_weigh_119 (fun r57 k58 h59 => ?_)
    refine zf_iconst hC (v := 1) dX5_weigh_122 rfl ?_
    refine zf_icmp_lt hC (tgt := 130) dX5_weigh_123 (by decide) (fun h60 => ?_) (fun h60 => ?_)
    · refine zf_iconst hC (v := 0) dX5_weigh_130 rfl ?_
      refine zf_callV hC (c_X5_push l g false) mt_X5_push wd_909 sp_27 ci_4 ic_4 wd_907 rfl (rm_le hR rfl) rfl rfl (rest := []) rfl (Nat.le_of_ble_eq_true rfl) dX5_weigh_131 (fun r61 k62 h63 => ?_)
      refine zf_goto hC (tgt := 228) dX5_weigh_134 (by decide) ?_
      exact zf_vret hC rfl dX5_weigh_228
    · refine zf_iconst hC (v := 1) dX5_weigh_126 rfl ?_
      refine zf_goto hC (tgt := 131) dX5_weigh_127 (by decide) ?_
      refine zf_callV hC (c_X5_push l g true) mt_X5_push wd_909 sp_27 ci_4 ic_4 wd_907 rfl (rm_le hR rfl) rfl rfl (rest := []) rfl (Nat.le_of_ble_eq_true rfl) dX5_weigh_131 (fun r64 k65 h66 => ?_)
      refine zf_goto hC (tgt := 228) dX5_weigh_134 (by decide) ?_
      exact zf_vret hC rfl dX5_weigh_228
  refine zf_look hC (tgt := 211) dX5_weigh_11 (by decide) (off := 200) (by show Op.lookupswitch.offset [(33, 65), (38, 84), (100, 185), (104, 155), (110, 170), (123, 126), (124, 105)] _ _ = _; rw [lv_osw h2 (a := 33) (by decide), lv_osw h13 (a := 38) (by decide), lv_osw h24 (a := 100) (by decide), lv_osw h31 (a := 104) (by decide), lv_osw h38 (a := 110) (by decide), lv_osw h45 (a := 123) (by decide), lv_osw h56 (a := 124) (by decide)]; rfl) (by decide) ?_
  refine zf_aload_n hC dX5_weigh_211 rfl 1 rfl ?_
  refine zf_aload_n hC dX5_weigh_212 rfl 1 rfl ?_
  refine gf_192 hC dX5_weigh_213 ?_
  refine zf_iload_n hC dX5_weigh_216 rfl 0 rfl ?_
  refine zf_icmp_lt hC (tgt := 224) dX5_weigh_217 (by decide) (fun h67 => ?_) (fun h67 => ?_)
  · refine zf_iconst hC (v := 0) dX5_weigh_224 rfl ?_
    refine zf_callV hC (c_X5_push l g false) mt_X5_push wd_909 sp_27 ci_4 ic_4 wd_907 rfl (rm_le hR rfl) rfl rfl (rest := []) rfl (Nat.le_of_ble_eq_true rfl) dX5_weigh_225 (fun r68 k69 h70 => ?_)
    exact zf_vret hC rfl dX5_weigh_228
  · refine zf_iconst hC (v := 1) dX5_weigh_220 rfl ?_
    refine zf_goto hC (tgt := 225) dX5_weigh_221 (by decide) ?_
    refine zf_callV hC (c_X5_push l g true) mt_X5_push wd_909 sp_27 ci_4 ic_4 wd_907 rfl (rm_le hR rfl) rfl rfl (rest := []) rfl (Nat.le_of_ble_eq_true rfl) dX5_weigh_225 (fun r71 k72 h73 => ?_)
    exact zf_vret hC rfl dX5_weigh_228
/-! LifeKeys.Rules.holds -/
theorem dX5_holds_0 : decode cX5_holds 0 = .ok (.aload_n 0, 1) := by decide +kernel
theorem dX5_holds_1 : decode cX5_holds 1 = .ok (.iload_n 1, 1) := by decide +kernel
theorem dX5_holds_2 : decode cX5_holds 2 = .ok (.invokevirtual 105, 3) := by decide +kernel
theorem dX5_holds_5 : decode cX5_holds 5 = .ok (.ifCond .ne 5, 3) := by decide +kernel
theorem dX5_holds_8 : decode cX5_holds 8 = .ok (.iconst 0, 1) := by decide +kernel
theorem dX5_holds_9 : decode cX5_holds 9 = .ok (.ireturn, 1) := by decide +kernel
theorem dX5_holds_10 : decode cX5_holds 10 = .ok (.aload_n 0, 1) := by decide +kernel
theorem dX5_holds_11 : decode cX5_holds 11 = .ok (.iload_n 2, 1) := by decide +kernel
theorem dX5_holds_12 : decode cX5_holds 12 = .ok (.sipush 4095, 3) := by decide +kernel
theorem dX5_holds_15 : decode cX5_holds 15 = .ok (.iand, 1) := by decide +kernel
theorem dX5_holds_16 : decode cX5_holds 16 = .ok (.putfield 110, 3) := by decide +kernel
theorem dX5_holds_19 : decode cX5_holds 19 = .ok (.aload_n 0, 1) := by decide +kernel
theorem dX5_holds_20 : decode cX5_holds 20 = .ok (.iload_n 2, 1) := by decide +kernel
theorem dX5_holds_21 : decode cX5_holds 21 = .ok (.bipush 12, 2) := by decide +kernel
theorem dX5_holds_23 : decode cX5_holds 23 = .ok (.iushr, 1) := by decide +kernel
theorem dX5_holds_24 : decode cX5_holds 24 = .ok (.putfield 113, 3) := by decide +kernel
theorem dX5_holds_27 : decode cX5_holds 27 = .ok (.aload_n 0, 1) := by decide +kernel
theorem dX5_holds_28 : decode cX5_holds 28 = .ok (.iload_n 3, 1) := by decide +kernel
theorem dX5_holds_29 : decode cX5_holds 29 = .ok (.putfield 116, 3) := by decide +kernel
theorem dX5_holds_32 : decode cX5_holds 32 = .ok (.aload_n 0, 1) := by decide +kernel
theorem dX5_holds_33 : decode cX5_holds 33 = .ok (.iload 4, 2) := by decide +kernel
theorem dX5_holds_35 : decode cX5_holds 35 = .ok (.putfield 119, 3) := by decide +kernel
theorem dX5_holds_38 : decode cX5_holds 38 = .ok (.aload_n 0, 1) := by decide +kernel
theorem dX5_holds_39 : decode cX5_holds 39 = .ok (.iconst 0, 1) := by decide +kernel
theorem dX5_holds_40 : decode cX5_holds 40 = .ok (.putfield 122, 3) := by decide +kernel
theorem dX5_holds_43 : decode cX5_holds 43 = .ok (.iload_n 1, 1) := by decide +kernel
theorem dX5_holds_44 : decode cX5_holds 44 = .ok (.sipush 160, 3) := by decide +kernel
theorem dX5_holds_47 : decode cX5_holds 47 = .ok (.imul, 1) := by decide +kernel
theorem dX5_holds_48 : decode cX5_holds 48 = .ok (.istore 5, 2) := by decide +kernel
theorem dX5_holds_50 : decode cX5_holds 50 = .ok (.iconst 0, 1) := by decide +kernel
theorem dX5_holds_51 : decode cX5_holds 51 = .ok (.istore 6, 2) := by decide +kernel
theorem dX5_holds_53 : decode cX5_holds 53 = .ok (.iload 6, 2) := by decide +kernel
theorem dX5_holds_55 : decode cX5_holds 55 = .ok (.aload_n 0, 1) := by decide +kernel
theorem dX5_holds_56 : decode cX5_holds 56 = .ok (.getfield 17, 3) := by decide +kernel
theorem dX5_holds_59 : decode cX5_holds 59 = .ok (.iload_n 1, 1) := by decide +kernel
theorem dX5_holds_60 : decode cX5_holds 60 = .ok (.iaload, 1) := by decide +kernel
theorem dX5_holds_61 : decode cX5_holds 61 = .ok (.if_icmp .ge 23, 3) := by decide +kernel
theorem dX5_holds_64 : decode cX5_holds 64 = .ok (.aload_n 0, 1) := by decide +kernel
theorem dX5_holds_65 : decode cX5_holds 65 = .ok (.aload_n 0, 1) := by decide +kernel
theorem dX5_holds_66 : decode cX5_holds 66 = .ok (.getfield 13, 3) := by decide +kernel
theorem dX5_holds_69 : decode cX5_holds 69 = .ok (.iload 5, 2) := by decide +kernel
theorem dX5_holds_71 : decode cX5_holds 71 = .ok (.iload 6, 2) := by decide +kernel
theorem dX5_holds_73 : decode cX5_holds 73 = .ok (.iadd, 1) := by decide +kernel
theorem dX5_holds_74 : decode cX5_holds 74 = .ok (.iaload, 1) := by decide +kernel
theorem dX5_holds_75 : decode cX5_holds 75 = .ok (.invokevirtual 125, 3) := by decide +kernel
theorem dX5_holds_78 : decode cX5_holds 78 = .ok (.iinc 6 1, 3) := by decide +kernel
theorem dX5_holds_81 : decode cX5_holds 81 = .ok (.goto (-28), 3) := by decide +kernel
theorem dX5_holds_84 : decode cX5_holds 84 = .ok (.aload_n 0, 1) := by decide +kernel
theorem dX5_holds_85 : decode cX5_holds 85 = .ok (.invokevirtual 128, 3) := by decide +kernel
theorem dX5_holds_88 : decode cX5_holds 88 = .ok (.ireturn, 1) := by decide +kernel
def lpX5_holds_53 (v1 : Int32) (v2 : Int32) (v3 : Int32) (v4 : Int32) (v5 : Int32) : Nat → Int32 → ST → (Int32 → ST → Option (Bool × ST)) → Option (Bool × ST)
  | 0, _, _, _ => none
  | n + 1, v6, k, cont => ck (inb v1 20) (if (gA k 27 (ix v1)) ≤ v6 then cont v6 k else ck (inb (v5 + v6) 3200) (ob (fX5_weigh k (gA k 26 (ix (v5 + v6)))) fun r13 k14 => lpX5_holds_53 v1 v2 v3 v4 v5 n (v6 + 1) k14 cont))
set_option maxRecDepth 20000 in
theorem zlpX5_holds_53 {p : Program} {l : Launch} {e : Env} {R : Room} {s : State} {m : MethodId} {args : Array Value} {below : List Frame} {meth : Method} {c : Code} {g : GT} (hC : HC p s m args meth c cX5_holds 7 RX5 (some .boolean) g) (hR : 3 ≤ R.frames ∧ 65 ≤ R.locals)  (v1 : Int32) (v2 : Int32) (v3 : Int32) (v4 : Int32) (v5 : Int32) {cont : Int32 → ST → Option (Bool × ST)} (hk : ∀ (v6 : Int32) (k : ST), ZF p l e R s m args below meth c g TK voB 7 k 84 [(0, .ref (g.2.1 4)), (1, .int v1), (2, .int v2), (3, .int v3), (4, .int v4), (5, .int v5), (6, .int v6)] [] (cont v6 k)) : ∀ (n : Nat) (v6 : Int32) (k : ST), ZF p l e R s m args below meth c g TK voB 7 k 53 [(0, .ref (g.2.1 4)), (1, .int v1), (2, .int v2), (3, .int v3), (4, .int v4), (5, .int v5), (6, .int v6)] [] (lpX5_holds_53 v1 v2 v3 v4 v5 n v6 k cont) := by
  intro n
  induction n with
  | zero => intros; exact zf_none
  | succ n ih =>
    intro v6 k
    rw [lpX5_holds_53]
    refine zf_iload hC dX5_holds_53 6 rfl ?_
    refine zf_aload_n hC dX5_holds_55 rfl 0 rfl ?_
    refine gf_180 hC dX5_holds_56 ?_
    refine zf_iload_n hC dX5_holds_59 rfl 1 rfl ?_
    refine zf_iald hC (j := 27) ia_27 rfl rfl dX5_holds_60 (fun h10 => ?_)
    refine zf_icmp_ge hC (tgt := 84) dX5_holds_61 (by decide) (fun h11 => ?_) (fun h11 => ?_)
    · refine zf_lv (LV' := [(0, .ref (g.2.1 4)), (1, .int v1), (2, .int v2), (3, .int v3), (4, .int v4), (5, .int v5), (6, .int v6)]) [0, 1, 2, 3, 4, 5, 6] rfl ?_
      exact hk v6 k
    · refine zf_aload_n hC dX5_holds_64 rfl 0 rfl ?_
      refine zf_aload_n hC dX5_holds_65 rfl 0 rfl ?_
      refine gf_179 hC dX5_holds_66 ?_
      refine zf_iload hC dX5_holds_69 5 rfl ?_
      refine zf_iload hC dX5_holds_71 6 rfl ?_
      refine zf_iadd hC dX5_holds_73 ?_
      refine zf_iald hC (j := 26) ia_26 rfl rfl dX5_holds_74 (fun h12 => ?_)
      refine zf_callV hC (c_X5_weigh l g (gA k 26 (ix (v5 + v6)))) mt_X5_weigh wd_901 sp_25 ci_4 ic_4 wd_899 rfl (rm_le hR rfl) rfl rfl (rest := []) rfl (Nat.le_of_ble_eq_true rfl) dX5_holds_75 (fun r13 k14 h15 => ?_)
      refine zf_iinc hC (q := 6) (v := v6 + 1) (LV' := [(6, .int (v6 + 1)), (0, .ref (g.2.1 4)), (1, .int v1), (2, .int v2), (3, .int v3), (4, .int v4), (5, .int v5)]) dX5_holds_78 rfl rfl (by decide) rfl ?_
      refine zf_goto hC (tgt := 53) dX5_holds_81 (by decide) ?_
      refine zf_lv (LV' := [(0, .ref (g.2.1 4)), (1, .int v1), (2, .int v2), (3, .int v3), (4, .int v4), (5, .int v5), (6, .int (v6 + 1))]) [1, 2, 3, 4, 5, 6, 0] rfl ?_
      exact ih (v6 + 1) k14
def fX5_holds (k : ST) (a0 : Int32) (a1 : Int32) (a2 : Int32) (a3 : Int32) : Option (Bool × ST) := ob (fX5_knows k a0) fun r1 k2 => if r1 = true then nm (sI k2 4 11 (a1 &&& 4095)) fun k5 => nm (sI k5 4 12 (j_ushr a1 12)) fun k6 => nm (sI k6 4 13 a2) fun k7 => nm (sI k7 4 14 a3) fun k8 => nm (sI k8 4 10 0) fun k9 => lpX5_holds_53 a0 a1 a2 a3 (a0 * 160) FU 0 k9 fun y16 k17 => ob (fX5_pop k17) fun r18 k19 => some (r18, k19) else some (false, k2)
set_option maxRecDepth 20000 in
theorem c_X5_holds (l : Launch) (g : GT) (a0 : Int32) (a1 : Int32) (a2 : Int32) (a3 : Int32) : CN l yX5_holds cX5_holds 7 (some .boolean) { frames := 3, cells := 0, slots := 0, locals := 65 } g TK voB [.ref (g.2.1 4), .int a0, .int a1, .int a2, .int a3] (fun k => fX5_holds k a0 a1 a2 a3) := by
  refine cn_of (by decide) (Nat.le_of_ble_eq_true rfl) ?_
  intro p e s m args below meth c hC k
  have hC : HC p s m args meth c cX5_holds 7 RX5 (some .boolean) g := hC
  have hR : 3 ≤ ({ frames := 3, cells := 0, slots := 0, locals := 65 } : Room).frames ∧ 65 ≤ ({ frames := 3, cells := 0, slots := 0, locals := 65 } : Room).locals := ⟨Nat.le_refl _, Nat.le_refl _⟩
  show ZF p l e _ s m args below meth c g TK voB 7 k 0 [(0, .ref (g.2.1 4)), (1, .int a0), (2, .int a1), (3, .int a2), (4, .int a3)] [] (fX5_holds k a0 a1 a2 a3)
  unfold fX5_holds
  refine zf_aload_n hC dX5_holds_0 rfl 0 rfl ?_
  refine zf_iload_n hC dX5_holds_1 rfl 1 rfl ?_
  refine zf_callV hC (c_X5_knows l g a0) mt_X5_knows wd_823 wd_824 ci_4 ic_4 wd_898 rfl (rm_le hR rfl) rfl rfl (rest := []) rfl (Nat.le_of_ble_eq_true rfl) dX5_holds_2 (fun r1 k2 h3 => ?_)
  refine zf_ifb_ne hC (tgt := 10) dX5_holds_5 (by decide) (fun h4 => ?_) (fun h4 => ?_)
  · refine zf_aload_n hC dX5_holds_10 rfl 0 rfl ?_
    refine zf_iload_n hC dX5_holds_11 rfl 2 rfl ?_
    refine zf_sipush hC (v := 4095) dX5_holds_12 rfl ?_
    refine zf_iand hC dX5_holds_15 ?_
    refine pf_189 hC dX5_holds_16 ?_
    refine zf_nmk (fun k5 => ?_)
    refine zf_aload_n hC dX5_holds_19 rfl 0 rfl ?_
    refine zf_iload_n hC dX5_holds_20 rfl 2 rfl ?_
    refine zf_bipush hC (v := 12) dX5_holds_21 rfl ?_
    refine zf_iushr hC dX5_holds_23 ?_
    refine pf_190 hC dX5_holds_24 ?_
    refine zf_nmk (fun k6 => ?_)
    refine zf_aload_n hC dX5_holds_27 rfl 0 rfl ?_
    refine zf_iload_n hC dX5_holds_28 rfl 3 rfl ?_
    refine pf_191 hC dX5_holds_29 ?_
    refine zf_nmk (fun k7 => ?_)
    refine zf_aload_n hC dX5_holds_32 rfl 0 rfl ?_
    refine zf_iload hC dX5_holds_33 4 rfl ?_
    refine pf_192 hC dX5_holds_35 ?_
    refine zf_nmk (fun k8 => ?_)
    refine zf_aload_n hC dX5_holds_38 rfl 0 rfl ?_
    refine zf_iconst hC (v := 0) dX5_holds_39 rfl ?_
    refine pf_188 hC dX5_holds_40 ?_
    refine zf_nmk (fun k9 => ?_)
    refine zf_iload_n hC dX5_holds_43 rfl 1 rfl ?_
    refine zf_sipush hC (v := 160) dX5_holds_44 rfl ?_
    refine zf_imul hC dX5_holds_47 ?_
    refine zf_istore hC (LV' := [(5, .int (a0 * 160)), (0, .ref (g.2.1 4)), (1, .int a0), (2, .int a1), (3, .int a2), (4, .int a3)]) dX5_holds_48 (by decide) rfl ?_
    refine zf_iconst hC (v := 0) dX5_holds_50 rfl ?_
    refine zf_istore hC (LV' := [(6, .int 0), (5, .int (a0 * 160)), (0, .ref (g.2.1 4)), (1, .int a0), (2, .int a1), (3, .int a2), (4, .int a3)]) dX5_holds_51 (by decide) rfl ?_
    refine zf_lv (LV' := [(0, .ref (g.2.1 4)), (1, .int a0), (2, .int a1), (3, .int a2), (4, .int a3), (5, .int (a0 * 160)), (6, .int 0)]) [2, 3, 4, 5, 6, 1, 0] rfl ?_
    refine zlpX5_holds_53 hC hR a0 a1 a2 a3 (a0 * 160) (fun y16 k17 => ?_) FU 0 k9
    refine zf_aload_n hC dX5_holds_84 rfl 0 rfl ?_
    refine zf_callV hC (c_X5_pop l g) mt_X5_pop wd_905 sp_26 ci_4 ic_4 wd_903 rfl (rm_le hR rfl) rfl rfl (rest := []) rfl (Nat.le_of_ble_eq_true rfl) dX5_holds_85 (fun r18 k19 h20 => ?_)
    exact zf_zret hC rfl r18 rfl dX5_holds_88
  · refine zf_iconst hC (v := 0) dX5_holds_8 rfl ?_
    exact zf_zret hC rfl false rfl dX5_holds_9
