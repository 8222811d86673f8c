/-! LifeKeys.days -/
theorem dX11_days_0 : decode cX11_days 0 = .ok (.iload_n 1, 1) := by decide +kernel
theorem dX11_days_1 : decode cX11_days 1 = .ok (.ifCond .lt 22, 3) := by decide +kernel
theorem dX11_days_4 : decode cX11_days 4 = .ok (.iload_n 1, 1) := by decide +kernel
theorem dX11_days_5 : decode cX11_days 5 = .ok (.sipush 1000, 3) := by decide +kernel
theorem dX11_days_8 : decode cX11_days 8 = .ok (.if_icmp .gt 15, 3) := by decide +kernel
theorem dX11_days_11 : decode cX11_days 11 = .ok (.aload_n 0, 1) := by decide +kernel
theorem dX11_days_12 : decode cX11_days 12 = .ok (.getfield 86, 3) := by decide +kernel
theorem dX11_days_15 : decode cX11_days 15 = .ok (.iload_n 1, 1) := by decide +kernel
theorem dX11_days_16 : decode cX11_days 16 = .ok (.iadd, 1) := by decide +kernel
theorem dX11_days_17 : decode cX11_days 17 = .ok (.sipush 2000, 3) := by decide +kernel
theorem dX11_days_20 : decode cX11_days 20 = .ok (.if_icmp .le 5, 3) := by decide +kernel
theorem dX11_days_23 : decode cX11_days 23 = .ok (.iconst (-1), 1) := by decide +kernel
theorem dX11_days_24 : decode cX11_days 24 = .ok (.ireturn, 1) := by decide +kernel
theorem dX11_days_25 : decode cX11_days 25 = .ok (.aload_n 0, 1) := by decide +kernel
theorem dX11_days_26 : decode cX11_days 26 = .ok (.dup, 1) := by decide +kernel
theorem dX11_days_27 : decode cX11_days 27 = .ok (.getfield 86, 3) := by decide +kernel
theorem dX11_days_30 : decode cX11_days 30 = .ok (.iload_n 1, 1) := by decide +kernel
theorem dX11_days_31 : decode cX11_days 31 = .ok (.iadd, 1) := by decide +kernel
theorem dX11_days_32 : decode cX11_days 32 = .ok (.putfield 86, 3) := by decide +kernel
theorem dX11_days_35 : decode cX11_days 35 = .ok (.aload_n 0, 1) := by decide +kernel
theorem dX11_days_36 : decode cX11_days 36 = .ok (.getfield 86, 3) := by decide +kernel
theorem dX11_days_39 : decode cX11_days 39 = .ok (.ireturn, 1) := by decide +kernel
def fX11_days (k : ST) (a0 : Int32) : Option (Int32 × ST) := if a0 < 0 then some ((-1), k) else if 1000 < a0 then some ((-1), k) else if ((gI k 10 0) + a0) ≤ 2000 then nm (sI k 10 0 ((gI k 10 0) + a0)) fun k4 => some (gI k4 10 0, k4) else some ((-1), k)
set_option maxRecDepth 20000 in
theorem c_X11_days (l : Launch) (g : GT) (a0 : Int32) : CN l yX11_days cX11_days 2 (some .int) { frames := 0, cells := 0, slots := 0, locals := 0 } g TK voI [.ref (g.2.1 10), .int a0] (fun k => fX11_days k a0) := by
  refine cn_of (by decide) (Nat.le_of_ble_eq_true rfl) ?_
  intro p e s m args below meth c hC k
  have hC : HC p s m args meth c cX11_days 2 RX11 (some .int) g := hC
  have hR : 0 ≤ ({ frames := 0, cells := 0, slots := 0, locals := 0 } : Room).frames ∧ 0 ≤ ({ frames := 0, cells := 0, slots := 0, locals := 0 } : Room).locals := ⟨Nat.le_refl _, Nat.le_refl _⟩
  show ZF p l e _ s m args below meth c g TK voI 2 k 0 [(0, .ref (g.2.1 10)), (1, .int a0)] [] (fX11_days k a0)
  unfold fX11_days
  refine zf_iload_n hC dX11_days_0 rfl 1 rfl ?_
  refine zf_if_lt hC (tgt := 23) dX11_days_1 (by decide) (fun h1 => ?_) (fun h1 => ?_)
  · refine zf_iconst hC (v := (-1)) dX11_days_23 rfl ?_
    exact zf_iret hC rfl dX11_days_24
  · refine zf_iload_n hC dX11_days_4 rfl 1 rfl ?_
    refine zf_sipush hC (v := 1000) dX11_days_5 rfl ?_
    refine zf_icmp_gt hC (tgt := 23) dX11_days_8 (by decide) (fun h2 => ?_) (fun h2 => ?_)
    · refine zf_iconst hC (v := (-1)) dX11_days_23 rfl ?_
      exact zf_iret hC rfl dX11_days_24
    · refine zf_aload_n hC dX11_days_11 rfl 0 rfl ?_
      refine gf_400 hC dX11_days_12 ?_
      refine zf_iload_n hC dX11_days_15 rfl 1 rfl ?_
      refine zf_iadd hC dX11_days_16 ?_
      refine zf_sipush hC (v := 2000) dX11_days_17 rfl ?_
      refine zf_icmp_le hC (tgt := 25) dX11_days_20 (by decide) (fun h3 => ?_) (fun h3 => ?_)
      · refine zf_aload_n hC dX11_days_25 rfl 0 rfl ?_
        refine zf_dup hC dX11_days_26 rfl ?_
        refine gf_400 hC dX11_days_27 ?_
        refine zf_iload_n hC dX11_days_30 rfl 1 rfl ?_
        refine zf_iadd hC dX11_days_31 ?_
        refine pf_400 hC dX11_days_32 ?_
        refine zf_nmk (fun k4 => ?_)
        refine zf_aload_n hC dX11_days_35 rfl 0 rfl ?_
        refine gf_400 hC dX11_days_36 ?_
        exact zf_iret hC rfl dX11_days_39
      · refine zf_iconst hC (v := (-1)) dX11_days_23 rfl ?_
        exact zf_iret hC rfl dX11_days_24
/-! LifeKeys.holder -/
theorem dX11_holder_0 : decode cX11_holder 0 = .ok (.aload_n 0, 1) := by decide +kernel
theorem dX11_holder_1 : decode cX11_holder 1 = .ok (.getfield 90, 3) := by decide +kernel
theorem dX11_holder_4 : decode cX11_holder 4 = .ok (.bipush 12, 2) := by decide +kernel
theorem dX11_holder_6 : decode cX11_holder 6 = .ok (.if_icmp .lt 5, 3) := by decide +kernel
theorem dX11_holder_9 : decode cX11_holder 9 = .ok (.iconst (-1), 1) := by decide +kernel
theorem dX11_holder_10 : decode cX11_holder 10 = .ok (.ireturn, 1) := by decide +kernel
theorem dX11_holder_11 : decode cX11_holder 11 = .ok (.aload_n 0, 1) := by decide +kernel
theorem dX11_holder_12 : decode cX11_holder 12 = .ok (.dup, 1) := by decide +kernel
theorem dX11_holder_13 : decode cX11_holder 13 = .ok (.getfield 90, 3) := by decide +kernel
theorem dX11_holder_16 : decode cX11_holder 16 = .ok (.iconst 1, 1) := by decide +kernel
theorem dX11_holder_17 : decode cX11_holder 17 = .ok (.iadd, 1) := by decide +kernel
theorem dX11_holder_18 : decode cX11_holder 18 = .ok (.putfield 90, 3) := by decide +kernel
theorem dX11_holder_21 : decode cX11_holder 21 = .ok (.aload_n 0, 1) := by decide +kernel
theorem dX11_holder_22 : decode cX11_holder 22 = .ok (.getfield 90, 3) := by decide +kernel
theorem dX11_holder_25 : decode cX11_holder 25 = .ok (.iconst 1, 1) := by decide +kernel
theorem dX11_holder_26 : decode cX11_holder 26 = .ok (.isub, 1) := by decide +kernel
theorem dX11_holder_27 : decode cX11_holder 27 = .ok (.ireturn, 1) := by decide +kernel
def fX11_holder (k : ST)  : Option (Int32 × ST) := if (gI k 10 1) < 12 then nm (sI k 10 1 ((gI k 10 1) + 1)) fun k2 => some ((gI k2 10 1) - 1, k2) else some ((-1), k)
set_option maxRecDepth 20000 in
theorem c_X11_holder (l : Launch) (g : GT)  : CN l yX11_holder cX11_holder 1 (some .int) { frames := 0, cells := 0, slots := 0, locals := 0 } g TK voI [.ref (g.2.1 10)] (fun k => fX11_holder k) := by
  refine cn_of (by decide) (Nat.le_of_ble_eq_true rfl) ?_
  intro p e s m args below meth c hC k
  have hC : HC p s m args meth c cX11_holder 1 RX11 (some .int) g := hC
  have hR : 0 ≤ ({ frames := 0, cells := 0, slots := 0, locals := 0 } : Room).frames ∧ 0 ≤ ({ frames := 0, cells := 0, slots := 0, locals := 0 } : Room).locals := ⟨Nat.le_refl _, Nat.le_refl _⟩
  show ZF p l e _ s m args below meth c g TK voI 1 k 0 [(0, .ref (g.2.1 10))] [] (fX11_holder k)
  unfold fX11_holder
  refine zf_aload_n hC dX11_holder_0 rfl 0 rfl ?_
  refine gf_401 hC dX11_holder_1 ?_
  refine zf_bipush hC (v := 12) dX11_holder_4 rfl ?_
  refine zf_icmp_lt hC (tgt := 11) dX11_holder_6 (by decide) (fun h1 => ?_) (fun h1 => ?_)
  · refine zf_aload_n hC dX11_holder_11 rfl 0 rfl ?_
    refine zf_dup hC dX11_holder_12 rfl ?_
    refine gf_401 hC dX11_holder_13 ?_
    refine zf_iconst hC (v := 1) dX11_holder_16 rfl ?_
    refine zf_iadd hC dX11_holder_17 ?_
    refine pf_401 hC dX11_holder_18 ?_
    refine zf_nmk (fun k2 => ?_)
    refine zf_aload_n hC dX11_holder_21 rfl 0 rfl ?_
    refine gf_401 hC dX11_holder_22 ?_
    refine zf_iconst hC (v := 1) dX11_holder_25 rfl ?_
    refine zf_isub hC dX11_holder_26 ?_
    exact zf_iret hC rfl dX11_holder_27
  · refine zf_iconst hC (v := (-1)) dX11_holder_9 rfl ?_
    exact zf_iret hC rfl dX11_holder_10
/-! LifeKeys.key -/
theorem dX11_key_0 : decode cX11_key 0 = .ok (.iload_n 1, 1) := by decide +kernel
theorem dX11_key_1 : decode cX11_key 1 = .ok (.invokestatic 93, 3) := by decide +kernel
theorem dX11_key_4 : decode cX11_key 4 = .ok (.ifCond .ne 5, 3) := by decide +kernel
theorem dX11_key_7 : decode cX11_key 7 = .ok (.iconst (-1), 1) := by decide +kernel
theorem dX11_key_8 : decode cX11_key 8 = .ok (.ireturn, 1) := by decide +kernel
theorem dX11_key_9 : decode cX11_key 9 = .ok (.aload_n 0, 1) := by decide +kernel
theorem dX11_key_10 : decode cX11_key 10 = .ok (.getfield 26, 3) := by decide +kernel
theorem dX11_key_13 : decode cX11_key 13 = .ok (.iload_n 1, 1) := by decide +kernel
theorem dX11_key_14 : decode cX11_key 14 = .ok (.iload_n 2, 1) := by decide +kernel
theorem dX11_key_15 : decode cX11_key 15 = .ok (.ifCond .eq 7, 3) := by decide +kernel
theorem dX11_key_18 : decode cX11_key 18 = .ok (.iconst 1, 1) := by decide +kernel
theorem dX11_key_19 : decode cX11_key 19 = .ok (.goto 4, 3) := by decide +kernel
theorem dX11_key_22 : decode cX11_key 22 = .ok (.iconst 0, 1) := by decide +kernel
theorem dX11_key_23 : decode cX11_key 23 = .ok (.iconst (-1), 1) := by decide +kernel
theorem dX11_key_24 : decode cX11_key 24 = .ok (.aload_n 0, 1) := by decide +kernel
theorem dX11_key_25 : decode cX11_key 25 = .ok (.getfield 86, 3) := by decide +kernel
theorem dX11_key_28 : decode cX11_key 28 = .ok (.invokevirtual 99, 3) := by decide +kernel
theorem dX11_key_31 : decode cX11_key 31 = .ok (.ireturn, 1) := by decide +kernel
def fX11_key (k : ST) (a0 : Int32) (a1 : Bool) : Option (Int32 × ST) := ob (fX0_isSecret k a0) fun r1 k2 => if r1 = true then if a1 = true then ob (fX1_add k2 a0 1 (-1) (gI k2 10 0)) fun r6 k7 => some (r6, k7) else ob (fX1_add k2 a0 0 (-1) (gI k2 10 0)) fun r9 k10 => some (r9, k10) else some ((-1), k2)
set_option maxRecDepth 20000 in
theorem c_X11_key (l : Launch) (g : GT) (a0 : Int32) (a1 : Bool) : CN l yX11_key cX11_key 3 (some .int) { frames := 1, cells := 0, slots := 0, locals := 24 } g TK voI [.ref (g.2.1 10), .int a0, .int (b2i a1)] (fun k => fX11_key k a0 a1) := by
  refine cn_of (by decide) (Nat.le_of_ble_eq_true rfl) ?_
  intro p e s m args below meth c hC k
  have hC : HC p s m args meth c cX11_key 3 RX11 (some .int) g := hC
  have hR : 1 ≤ ({ frames := 1, cells := 0, slots := 0, locals := 24 } : Room).frames ∧ 24 ≤ ({ frames := 1, cells := 0, slots := 0, locals := 24 } : Room).locals := ⟨Nat.le_refl _, Nat.le_refl _⟩
  show ZF p l e _ s m args below meth c g TK voI 3 k 0 [(0, .ref (g.2.1 10)), (1, .int a0), (2, .int (b2i a1))] [] (fX11_key k a0 a1)
  unfold fX11_key
  refine zf_iload_n hC dX11_key_0 rfl 1 rfl ?_
  refine zf_callS hC (c_X0_isSecret l g TK a0) mt_X0_isSecret wd_465 wd_464 rfl (rm_le hR rfl) rfl rfl (rest := []) rfl (Nat.le_of_ble_eq_true rfl) dX11_key_1 (fun r1 k2 h3 => ?_)
  refine zf_ifb_ne hC (tgt := 9) dX11_key_4 (by decide) (fun h4 => ?_) (fun h4 => ?_)
  · refine zf_aload_n hC dX11_key_9 rfl 0 rfl ?_
    refine gf_408 hC dX11_key_10 ?_
    refine zf_iload_n hC dX11_key_13 rfl 1 rfl ?_
    refine zf_iload_n hC dX11_key_14 rfl 2 rfl ?_
    refine zf_ifb_eq hC (tgt := 22) dX11_key_15 (by decide) (fun h5 => ?_) (fun h5 => ?_)
    · refine zf_iconst hC (v := 1) dX11_key_18 rfl ?_
      refine zf_goto hC (tgt := 23) dX11_key_19 (by decide) ?_
      refine zf_iconst hC (v := (-1)) dX11_key_23 rfl ?_
      refine zf_aload_n hC dX11_key_24 rfl 0 rfl ?_
      refine gf_400 hC dX11_key_25 ?_
      refine zf_callV hC (c_X1_add l g a0 1 (-1) (gI k2 10 0)) mt_X1_add wd_468 wd_469 ci_0 ic_0 wd_467 rfl (rm_le hR rfl) rfl rfl (rest := []) rfl (Nat.le_of_ble_eq_true rfl) dX11_key_28 (fun r6 k7 h8 => ?_)
      exact zf_iret hC rfl dX11_key_31
    · refine zf_iconst hC (v := 0) dX11_key_22 rfl ?_
      refine zf_iconst hC (v := (-1)) dX11_key_23 rfl ?_
      refine zf_aload_n hC dX11_key_24 rfl 0 rfl ?_
      refine gf_400 hC dX11_key_25 ?_
      refine zf_callV hC (c_X1_add l g a0 0 (-1) (gI k2 10 0)) mt_X1_add wd_468 wd_469 ci_0 ic_0 wd_467 rfl (rm_le hR rfl) rfl rfl (rest := []) rfl (Nat.le_of_ble_eq_true rfl) dX11_key_28 (fun r9 k10 h11 => ?_)
      exact zf_iret hC rfl dX11_key_31
  · refine zf_iconst hC (v := (-1)) dX11_key_7 rfl ?_
    exact zf_iret hC rfl dX11_key_8
/-! LifeKeys.feed -/
theorem dX11_feed_0 : decode cX11_feed 0 = .ok (.iload_n 1, 1) := by decide +kernel
theorem dX11_feed_1 : decode cX11_feed 1 = .ok (.invokestatic 103, 3) := by decide +kernel
theorem dX11_feed_4 : decode cX11_feed 4 = .ok (.iload_n 2, 1) := by decide +kernel
theorem dX11_feed_5 : decode cX11_feed 5 = .ok (.invokestatic 103, 3) := by decide +kernel
theorem dX11_feed_8 : decode cX11_feed 8 = .ok (.iadd, 1) := by decide +kernel
theorem dX11_feed_9 : decode cX11_feed 9 = .ok (.iload_n 3, 1) := by decide +kernel
theorem dX11_feed_10 : decode cX11_feed 10 = .ok (.invokestatic 103, 3) := by decide +kernel
theorem dX11_feed_13 : decode cX11_feed 13 = .ok (.iadd, 1) := by decide +kernel
theorem dX11_feed_14 : decode cX11_feed 14 = .ok (.iload 4, 2) := by decide +kernel
theorem dX11_feed_16 : decode cX11_feed 16 = .ok (.invokestatic 103, 3) := by decide +kernel
theorem dX11_feed_19 : decode cX11_feed 19 = .ok (.iadd, 1) := by decide +kernel
theorem dX11_feed_20 : decode cX11_feed 20 = .ok (.iload 5, 2) := by decide +kernel
theorem dX11_feed_22 : decode cX11_feed 22 = .ok (.invokestatic 103, 3) := by decide +kernel
theorem dX11_feed_25 : decode cX11_feed 25 = .ok (.iadd, 1) := by decide +kernel
theorem dX11_feed_26 : decode cX11_feed 26 = .ok (.istore 6, 2) := by decide +kernel
theorem dX11_feed_28 : decode cX11_feed 28 = .ok (.aload_n 0, 1) := by decide +kernel
theorem dX11_feed_29 : decode cX11_feed 29 = .ok (.getfield 19, 3) := by decide +kernel
theorem dX11_feed_32 : decode cX11_feed 32 = .ok (.getfield 107, 3) := by decide +kernel
theorem dX11_feed_35 : decode cX11_feed 35 = .ok (.iload 6, 2) := by decide +kernel
theorem dX11_feed_37 : decode cX11_feed 37 = .ok (.iadd, 1) := by decide +kernel
theorem dX11_feed_38 : decode cX11_feed 38 = .ok (.sipush 160, 3) := by decide +kernel
theorem dX11_feed_41 : decode cX11_feed 41 = .ok (.if_icmp .le 5, 3) := by decide +kernel
theorem dX11_feed_44 : decode cX11_feed 44 = .ok (.iconst (-1), 1) := by decide +kernel
theorem dX11_feed_45 : decode cX11_feed 45 = .ok (.ireturn, 1) := by decide +kernel
theorem dX11_feed_46 : decode cX11_feed 46 = .ok (.aload_n 0, 1) := by decide +kernel
theorem dX11_feed_47 : decode cX11_feed 47 = .ok (.getfield 19, 3) := by decide +kernel
theorem dX11_feed_50 : decode cX11_feed 50 = .ok (.iload_n 1, 1) := by decide +kernel
theorem dX11_feed_51 : decode cX11_feed 51 = .ok (.invokevirtual 110, 3) := by decide +kernel
theorem dX11_feed_54 : decode cX11_feed 54 = .ok (.aload_n 0, 1) := by decide +kernel
theorem dX11_feed_55 : decode cX11_feed 55 = .ok (.getfield 19, 3) := by decide +kernel
theorem dX11_feed_58 : decode cX11_feed 58 = .ok (.iload_n 2, 1) := by decide +kernel
theorem dX11_feed_59 : decode cX11_feed 59 = .ok (.invokevirtual 110, 3) := by decide +kernel
theorem dX11_feed_62 : decode cX11_feed 62 = .ok (.aload_n 0, 1) := by decide +kernel
theorem dX11_feed_63 : decode cX11_feed 63 = .ok (.getfield 19, 3) := by decide +kernel
theorem dX11_feed_66 : decode cX11_feed 66 = .ok (.iload_n 3, 1) := by decide +kernel
theorem dX11_feed_67 : decode cX11_feed 67 = .ok (.invokevirtual 110, 3) := by decide +kernel
theorem dX11_feed_70 : decode cX11_feed 70 = .ok (.aload_n 0, 1) := by decide +kernel
theorem dX11_feed_71 : decode cX11_feed 71 = .ok (.getfield 19, 3) := by decide +kernel
theorem dX11_feed_74 : decode cX11_feed 74 = .ok (.iload 4, 2) := by decide +kernel
theorem dX11_feed_76 : decode cX11_feed 76 = .ok (.invokevirtual 110, 3) := by decide +kernel
theorem dX11_feed_79 : decode cX11_feed 79 = .ok (.aload_n 0, 1) := by decide +kernel
theorem dX11_feed_80 : decode cX11_feed 80 = .ok (.getfield 19, 3) := by decide +kernel
theorem dX11_feed_83 : decode cX11_feed 83 = .ok (.iload 5, 2) := by decide +kernel
theorem dX11_feed_85 : decode cX11_feed 85 = .ok (.invokevirtual 110, 3) := by decide +kernel
theorem dX11_feed_88 : decode cX11_feed 88 = .ok (.aload_n 0, 1) := by decide +kernel
theorem dX11_feed_89 : decode cX11_feed 89 = .ok (.getfield 19, 3) := by decide +kernel
theorem dX11_feed_92 : decode cX11_feed 92 = .ok (.getfield 107, 3) := by decide +kernel
theorem dX11_feed_95 : decode cX11_feed 95 = .ok (.ireturn, 1) := by decide +kernel
def fX11_feed (k : ST) (a0 : Int32) (a1 : Int32) (a2 : Int32) (a3 : Int32) (a4 : Int32) : Option (Int32 × ST) := ob (fX8_bytesIn k a0) fun r1 k2 => ob (fX8_bytesIn k2 a1) fun r4 k5 => ob (fX8_bytesIn k5 a2) fun r7 k8 => ob (fX8_bytesIn k8 a3) fun r10 k11 => ob (fX8_bytesIn k11 a4) fun r13 k14 => if ((gI k14 7 1) + ((((r1 + r4) + r7) + r10) + r13)) ≤ 160 then ob (fX8_append k14 a0) fun r17 k18 => ob (fX8_append k18 a1) fun r20 k21 => ob (fX8_append k21 a2) fun r23 k24 => ob (fX8_append k24 a3) fun r26 k27 => ob (fX8_append k27 a4) fun r29 k30 => some (gI k30 7 1, k30) else some ((-1), k14)
set_option maxRecDepth 20000 in
theorem c_X11_feed (l : Launch) (g : GT) (a0 : Int32) (a1 : Int32) (a2 : Int32) (a3 : Int32) (a4 : Int32) : CN l yX11_feed cX11_feed 7 (some .int) { frames := 1, cells := 0, slots := 0, locals := 23 } g TK voI [.ref (g.2.1 10), .int a0, .int a1, .int a2, .int a3, .int a4] (fun k => fX11_feed k a0 a1 a2 a3 a4) := by
  refine cn_of (by decide) (Nat.le_of_ble_eq_true rfl) ?_
  intro p e s m args below meth c hC k
  have hC : HC p s m args meth c cX11_feed 7 RX11 (some .int) g := hC
  have hR : 1 ≤ ({ frames := 1, cells := 0, slots := 0, locals := 23 } : Room).frames ∧ 23 ≤ ({ frames := 1, cells := 0, slots := 0, locals := 23 } : Room).locals := ⟨Nat.le_refl _, Nat.le_refl _⟩
  show ZF p l e _ s m args below meth c g TK voI 7 k 0 [(0, .ref (g.2.1 10)), (1, .int a0), (2, .int a1), (3, .int a2), (4, .int a3), (5, .int a4)] [] (fX11_feed k a0 a1 a2 a3 a4)
  unfold fX11_feed
  refine zf_iload_n hC dX11_feed_0 rfl 1 rfl ?_
  refine zf_callS hC (c_X8_bytesIn l g TK a0) mt_X8_bytesIn wd_476 wd_475 rfl (rm_le hR rfl) rfl rfl (rest := []) rfl (Nat.le_of_ble_eq_true rfl) dX11_feed_1 (fun r1 k2 h3 => ?_)
  refine zf_iload_n hC dX11_feed_4 rfl 2 rfl ?_
  refine zf_callS hC (c_X8_bytesIn l g TK a1) mt_X8_bytesIn wd_476 wd_475 rfl (rm_le hR rfl) rfl rfl (rest := [.int r1]) rfl (Nat.le_of_ble_eq_true rfl) dX11_feed_5 (fun r4 k5 h6 => ?_)
  refine zf_iadd hC dX11_feed_8 ?_
  refine zf_iload_n hC dX11_feed_9 rfl 3 rfl ?_
  refine zf_callS hC (c_X8_bytesIn l g TK a2) mt_X8_bytesIn wd_476 wd_475 rfl (rm_le hR rfl) rfl rfl (rest := [.int (r1 + r4)]) rfl (Nat.le_of_ble_eq_true rfl) dX11_feed_10 (fun r7 k8 h9 => ?_)
  refine zf_iadd hC dX11_feed_13 ?_
  refine zf_iload hC dX11_feed_14 4 rfl ?_
  refine zf_callS hC (c_X8_bytesIn l g TK a3) mt_X8_bytesIn wd_476 wd_475 rfl (rm_le hR rfl) rfl rfl (rest := [.int ((r1 + r4) + r7)]) rfl (Nat.le_of_ble_eq_true rfl) dX11_feed_16 (fun r10 k11 h12 => ?_)
  refine zf_iadd hC dX11_feed_19 ?_
  refine zf_iload hC dX11_feed_20 5 rfl ?_
  refine zf_callS hC (c_X8_bytesIn l g TK a4) mt_X8_bytesIn wd_476 wd_475 rfl (rm_le hR rfl) rfl rfl (rest := [.int (((r1 + r4) + r7) + r10)]) rfl (Nat.le_of_ble_eq_true rfl) dX11_feed_22 (fun r13 k14 h15 => ?_)
  refine zf_iadd hC dX11_feed_25 ?_
  refine zf_istore hC (LV' := [(6, .int ((((r1 + r4) + r7) + r10) + r13)), (0, .ref (g.2.1 10)), (1, .int a0), (2, .int a1), (3, .int a2), (4, .int a3), (5, .int a4)]) dX11_feed_26 (by decide) rfl ?_
  refine zf_aload_n hC dX11_feed_28 rfl 1 rfl ?_
  refine gf_407 hC dX11_feed_29 ?_
  refine gf_38 hC dX11_feed_32 ?_
  refine zf_iload hC dX11_feed_35 0 rfl ?_
  refine zf_iadd hC dX11_feed_37 ?_
  refine zf_sipush hC (v := 160) dX11_feed_38 rfl ?_
  refine zf_icmp_le hC (tgt := 46) dX11_feed_41 (by decide) (fun h16 => ?_) (fun h16 => ?_)
  · refine zf_aload_n hC dX11_feed_46 rfl 1 rfl ?_
    refine gf_407 hC dX11_feed_47 ?_
    refine zf_iload_n hC dX11_feed_50 rfl 2 rfl ?_
    refine zf_callV hC (c_X8_append l g a0) mt_X8_append wd_479 wd_480 ci_7 ic_7 wd_478 rfl (rm_le hR rfl) rfl rfl (rest := []) rfl (Nat.le_of_ble_eq_true rfl) dX11_feed_51 (fun r17 k18 h19 => ?_)
    refine zf_aload_n hC dX11_feed_54 rfl 1 rfl ?_
    refine gf_407 hC dX11_feed_55 ?_
    refine zf_iload_n hC dX11_feed_58 rfl 3 rfl ?_
    refine zf_callV hC (c_X8_append l g a1) mt_X8_append wd_479 wd_480 ci_7 ic_7 wd_478 rfl (rm_le hR rfl) rfl rfl (rest := []) rfl (Nat.le_of_ble_eq_true rfl) dX11_feed_59 (fun r20 k21 h22 => ?_)
    refine zf_aload_n hC dX11_feed_62 rfl 1 rfl ?_
    refine gf_407 hC dX11_feed_63 ?_
    refine zf_iload_n hC dX11_feed_66 rfl 4 rfl ?_
    refine zf_callV hC (c_X8_append l g a2) mt_X8_append wd_479 wd_480 ci_7 ic_7 wd_478 rfl (rm_le hR rfl) rfl rfl (rest := []) rfl (Nat.le_of_ble_eq_true rfl) dX11_feed_67 (fun r23 k24 h25 => ?_)
    refine zf_aload_n hC dX11_feed_70 rfl 1 rfl ?_
    refine gf_407 hC dX11_feed_71 ?_
    refine zf_iload hC dX11_feed_74 5 rfl ?_
    refine zf_callV hC (c_X8_append l g a3) mt_X8_append wd_479 wd_480 ci_7 ic_7 wd_478 rfl (rm_le hR rfl) rfl rfl (rest := []) rfl (Nat.le_of_ble_eq_true rfl) dX11_feed_76 (fun r26 k27 h28 => ?_)
    refine zf_aload_n hC dX11_feed_79 rfl 1 rfl ?_
    refine gf_407 hC dX11_feed_80 ?_
    refine zf_iload hC dX11_feed_83 6 rfl ?_
    refine zf_callV hC (c_X8_append l g a4) mt_X8_append wd_479 wd_480 ci_7 ic_7 wd_478 rfl (rm_le hR rfl) rfl rfl (rest := []) rfl (Nat.le_of_ble_eq_true rfl) dX11_feed_85 (fun r29 k30 h31 => ?_)
    refine zf_aload_n hC dX11_feed_88 rfl 1 rfl ?_
    refine gf_407 hC dX11_feed_89 ?_
    refine gf_38 hC dX11_feed_92 ?_
    exact zf_iret hC rfl dX11_feed_95
  · refine zf_iconst hC (v := (-1)) dX11_feed_44 rfl ?_
    exact zf_iret hC rfl dX11_feed_45
/-! LifeKeys.end -/
theorem dX11_end_0 : decode cX11_end 0 = .ok (.iload_n 1, 1) := by decide +kernel
theorem dX11_end_1 : decode cX11_end 1 = .ok (.ifCond .lt 14, 3) := by decide +kernel
theorem dX11_end_4 : decode cX11_end 4 = .ok (.iload_n 1, 1) := by decide +kernel
theorem dX11_end_5 : decode cX11_end 5 = .ok (.aload_n 0, 1) := by decide +kernel
theorem dX11_end_6 : decode cX11_end 6 = .ok (.getfield 19, 3) := by decide +kernel
theorem dX11_end_9 : decode cX11_end 9 = .ok (.getfield 107, 3) := by decide +kernel
theorem dX11_end_12 : decode cX11_end 12 = .ok (.if_icmp .le 5, 3) := by decide +kernel
theorem dX11_end_15 : decode cX11_end 15 = .ok (.iconst 0, 1) := by decide +kernel
theorem dX11_end_16 : decode cX11_end 16 = .ok (.ireturn, 1) := by decide +kernel
theorem dX11_end_17 : decode cX11_end 17 = .ok (.aload_n 0, 1) := by decide +kernel
theorem dX11_end_18 : decode cX11_end 18 = .ok (.getfield 19, 3) := by decide +kernel
theorem dX11_end_21 : decode cX11_end 21 = .ok (.iload_n 1, 1) := by decide +kernel
theorem dX11_end_22 : decode cX11_end 22 = .ok (.putfield 107, 3) := by decide +kernel
theorem dX11_end_25 : decode cX11_end 25 = .ok (.iconst 1, 1) := by decide +kernel
theorem dX11_end_26 : decode cX11_end 26 = .ok (.ireturn, 1) := by decide +kernel
def fX11_end (k : ST) (a0 : Int32) : Option (Bool × ST) := if a0 < 0 then some (false, k) else if a0 ≤ (gI k 7 1) then nm (sI k 7 1 a0) fun k3 => some (true, k3) else some (false, k)
set_option maxRecDepth 20000 in
theorem c_X11_end (l : Launch) (g : GT) (a0 : Int32) : CN l yX11_end cX11_end 2 (some .boolean) { frames := 0, cells := 0, slots := 0, locals := 0 } g TK voB [.ref (g.2.1 10), .int a0] (fun k => fX11_end k a0) := by
  refine cn_of (by decide) (Nat.le_of_ble_eq_true rfl) ?_
  intro p e s m args below meth c hC k
  have hC : HC p s m args meth c cX11_end 2 RX11 (some .boolean) g := hC
  have hR : 0 ≤ ({ frames := 0, cells := 0, slots := 0, locals := 0 } : Room).frames ∧ 0 ≤ ({ frames := 0, cells := 0, slots := 0, locals := 0 } : Room).locals := ⟨Nat.le_refl _, Nat.le_refl _⟩
  show ZF p l e _ s m args below meth c g TK voB 2 k 0 [(0, .ref (g.2.1 10)), (1, .int a0)] [] (fX11_end k a0)
  unfold fX11_end
  refine zf_iload_n hC dX11_end_0 rfl 1 rfl ?_
  refine zf_if_lt hC (tgt := 15) dX11_end_1 (by decide) (fun h1 => ?_) (fun h1 => ?_)
  · refine zf_iconst hC (v := 0) dX11_end_15 rfl ?_
    exact zf_zret hC rfl false rfl dX11_end_16
  · refine zf_iload_n hC dX11_end_4 rfl 1 rfl ?_
    refine zf_aload_n hC dX11_end_5 rfl 0 rfl ?_
    refine gf_407 hC dX11_end_6 ?_
    refine gf_38 hC dX11_end_9 ?_
    refine zf_icmp_le hC (tgt := 17) dX11_end_12 (by decide) (fun h2 => ?_) (fun h2 => ?_)
    · refine zf_aload_n hC dX11_end_17 rfl 0 rfl ?_
      refine gf_407 hC dX11_end_18 ?_
      refine zf_iload_n hC dX11_end_21 rfl 1 rfl ?_
      refine pf_38 hC dX11_end_22 ?_
      refine zf_nmk (fun k3 => ?_)
      refine zf_iconst hC (v := 1) dX11_end_25 rfl ?_
      exact zf_zret hC rfl true rfl dX11_end_26
    · refine zf_iconst hC (v := 0) dX11_end_15 rfl ?_
      exact zf_zret hC rfl false rfl dX11_end_16
/-! LifeKeys.make -/
theorem dX11_make_0 : decode cX11_make 0 = .ok (.aload_n 0, 1) := by decide +kernel
theorem dX11_make_1 : decode cX11_make 1 = .ok (.getfield 26, 3) := by decide +kernel
theorem dX11_make_4 : decode cX11_make 4 = .ok (.iload_n 1, 1) := by decide +kernel
theorem dX11_make_5 : decode cX11_make 5 = .ok (.invokevirtual 114, 3) := by decide +kernel
theorem dX11_make_8 : decode cX11_make 8 = .ok (.ifCond .eq 26, 3) := by decide +kernel
theorem dX11_make_11 : decode cX11_make 11 = .ok (.aload_n 0, 1) := by decide +kernel
theorem dX11_make_12 : decode cX11_make 12 = .ok (.getfield 26, 3) := by decide +kernel
theorem dX11_make_15 : decode cX11_make 15 = .ok (.getfield 117, 3) := by decide +kernel
theorem dX11_make_18 : decode cX11_make 18 = .ok (.iload_n 1, 1) := by decide +kernel
theorem dX11_make_19 : decode cX11_make 19 = .ok (.iaload, 1) := by decide +kernel
theorem dX11_make_20 : decode cX11_make 20 = .ok (.iconst 1, 1) := by decide +kernel
theorem dX11_make_21 : decode cX11_make 21 = .ok (.if_icmp .ne 13, 3) := by decide +kernel
theorem dX11_make_24 : decode cX11_make 24 = .ok (.aload_n 0, 1) := by decide +kernel
theorem dX11_make_25 : decode cX11_make 25 = .ok (.getfield 19, 3) := by decide +kernel
theorem dX11_make_28 : decode cX11_make 28 = .ok (.invokevirtual 120, 3) := by decide +kernel
theorem dX11_make_31 : decode cX11_make 31 = .ok (.ifCond .ne 5, 3) := by decide +kernel
theorem dX11_make_34 : decode cX11_make 34 = .ok (.iconst (-1), 1) := by decide +kernel
theorem dX11_make_35 : decode cX11_make 35 = .ok (.ireturn, 1) := by decide +kernel
theorem dX11_make_36 : decode cX11_make 36 = .ok (.aload_n 0, 1) := by decide +kernel
theorem dX11_make_37 : decode cX11_make 37 = .ok (.getfield 26, 3) := by decide +kernel
theorem dX11_make_40 : decode cX11_make 40 = .ok (.getfield 124, 3) := by decide +kernel
theorem dX11_make_43 : decode cX11_make 43 = .ok (.iload_n 1, 1) := by decide +kernel
theorem dX11_make_44 : decode cX11_make 44 = .ok (.iaload, 1) := by decide +kernel
theorem dX11_make_45 : decode cX11_make 45 = .ok (.aload_n 0, 1) := by decide +kernel
theorem dX11_make_46 : decode cX11_make 46 = .ok (.getfield 19, 3) := by decide +kernel
theorem dX11_make_49 : decode cX11_make 49 = .ok (.invokevirtual 127, 3) := by decide +kernel
theorem dX11_make_52 : decode cX11_make 52 = .ok (.invokestatic 131, 3) := by decide +kernel
theorem dX11_make_55 : decode cX11_make 55 = .ok (.istore_n 2, 1) := by decide +kernel
theorem dX11_make_56 : decode cX11_make 56 = .ok (.aload_n 0, 1) := by decide +kernel
theorem dX11_make_57 : decode cX11_make 57 = .ok (.getfield 26, 3) := by decide +kernel
theorem dX11_make_60 : decode cX11_make 60 = .ok (.iload_n 2, 1) := by decide +kernel
theorem dX11_make_61 : decode cX11_make 61 = .ok (.iconst 2, 1) := by decide +kernel
theorem dX11_make_62 : decode cX11_make 62 = .ok (.iload_n 1, 1) := by decide +kernel
theorem dX11_make_63 : decode cX11_make 63 = .ok (.aload_n 0, 1) := by decide +kernel
theorem dX11_make_64 : decode cX11_make 64 = .ok (.getfield 86, 3) := by decide +kernel
theorem dX11_make_67 : decode cX11_make 67 = .ok (.invokevirtual 99, 3) := by decide +kernel
theorem dX11_make_70 : decode cX11_make 70 = .ok (.istore_n 3, 1) := by decide +kernel
theorem dX11_make_71 : decode cX11_make 71 = .ok (.iload_n 3, 1) := by decide +kernel
theorem dX11_make_72 : decode cX11_make 72 = .ok (.iconst (-1), 1) := by decide +kernel
theorem dX11_make_73 : decode cX11_make 73 = .ok (.if_icmp .eq 11, 3) := by decide +kernel
theorem dX11_make_76 : decode cX11_make 76 = .ok (.aload_n 0, 1) := by decide +kernel
theorem dX11_make_77 : decode cX11_make 77 = .ok (.getfield 19, 3) := by decide +kernel
theorem dX11_make_80 : decode cX11_make 80 = .ok (.iconst 0, 1) := by decide +kernel
theorem dX11_make_81 : decode cX11_make 81 = .ok (.putfield 107, 3) := by decide +kernel
theorem dX11_make_84 : decode cX11_make 84 = .ok (.iload_n 3, 1) := by decide +kernel
theorem dX11_make_85 : decode cX11_make 85 = .ok (.ireturn, 1) := by decide +kernel
def fX11_make (k : ST) (a0 : Int32) : Option (Int32 × ST) := ob (fX1_knows k a0) fun r1 k2 => if r1 = true then ck (inb a0 40) (if (gA k2 1 (ix a0)) = 1 then ob (fX8_isName k2) fun r7 k8 => if r7 = true then ck (inb a0 40) (ob (fX8_nameNumber k8) fun r12 k13 => ob (fX1_madeSecret k13 (gA k8 0 (ix a0)) r12) fun r15 k16 => ob (fX1_add k16 r15 2 a0 (gI k16 10 0)) fun r18 k19 => if r18 = (-1) then some (r18, k19) else nm (sI k19 7 1 0) fun k22 => some (r18, k22)) else some ((-1), k8) else some ((-1), k2)) else some ((-1), k2)
set_option maxRecDepth 20000 in
theorem c_X11_make (l : Launch) (g : GT) (a0 : Int32) : CN l yX11_make cX11_make 4 (some .int) { frames := 1, cells := 0, slots := 0, locals := 24 } g TK voI [.ref (g.2.1 10), .int a0] (fun k => fX11_make k a0) := by
  refine cn_of (by decide) (Nat.le_of_ble_eq_true rfl) ?_
  intro p e s m args below meth c hC k
  have hC : HC p s m args meth c cX11_make 4 RX11 (some .int) g := hC
  have hR : 1 ≤ ({ frames := 1, cells := 0, slots := 0, locals := 24 } : Room).frames ∧ 24 ≤ ({ frames := 1, cells := 0, slots := 0, locals := 24 } : Room).locals := ⟨Nat.le_refl _, Nat.le_refl _⟩
  show ZF p l e _ s m args below meth c g TK voI 4 k 0 [(0, .ref (g.2.1 10)), (1, .int a0)] [] (fX11_make k a0)
  unfold fX11_make
  refine zf_aload_n hC dX11_make_0 rfl 0 rfl ?_
  refine gf_408 hC dX11_make_1 ?_
  refine zf_iload_n hC dX11_make_4 rfl 1 rfl ?_
  refine zf_callV hC (c_X1_knows l g a0) mt_X1_knows wd_491 wd_492 ci_0 ic_0 wd_490 rfl (rm_le hR rfl) rfl rfl (rest := []) rfl (Nat.le_of_ble_eq_true rfl) dX11_make_5 (fun r1 k2 h3 => ?_)
  refine zf_ifb_eq hC (tgt := 34) dX11_make_8 (by decide) (fun h4 => ?_) (fun h4 => ?_)
  · refine zf_aload_n hC dX11_make_11 rfl 0 rfl ?_
    refine gf_408 hC dX11_make_12 ?_
    refine gf_58 hC dX11_make_15 ?_
    refine zf_iload_n hC dX11_make_18 rfl 1 rfl ?_
    refine zf_iald hC (j := 1) ia_1 rfl rfl dX11_make_19 (fun h5 => ?_)
    refine zf_iconst hC (v := 1) dX11_make_20 rfl ?_
    refine zf_icmp_ne hC (tgt := 34) dX11_make_21 (by decide) (fun h6 => ?_) (fun h6 => ?_)
    · refine zf_aload_n hC dX11_make_24 rfl 0 rfl ?_
      refine gf_407 hC dX11_make_25 ?_
      refine zf_callV hC (c_X8_isName l g) mt_X8_isName wd_495 wd_496 ci_7 ic_7 wd_494 rfl (rm_le hR rfl) rfl rfl (rest := []) rfl (Nat.le_of_ble_eq_true rfl) dX11_make_28 (fun r7 k8 h9 => ?_)
      refine zf_ifb_ne hC (tgt := 36) dX11_make_31 (by decide) (fun h10 => ?_) (fun h10 => ?_)
      · refine zf_aload_n hC dX11_make_36 rfl 0 rfl ?_
        refine gf_408 hC dX11_make_37 ?_
        refine gf_55 hC dX11_make_40 ?_
        refine zf_iload_n hC dX11_make_43 rfl 1 rfl ?_
        refine zf_iald hC (j := 0) ia_0 rfl rfl dX11_make_44 (fun h11 => ?_)
        refine zf_aload_n hC dX11_make_45 rfl 0 rfl ?_
        refine gf_407 hC dX11_make_46 ?_
        refine zf_callV hC (c_X8_nameNumber l g) mt_X8_nameNumber wd_499 wd_500 ci_7 ic_7 wd_498 rfl (rm_le hR rfl) rfl rfl (rest := [.int (gA k8 0 (ix a0))]) rfl (Nat.le_of_ble_eq_true rfl) dX11_make_49 (fun r12 k13 h14 => ?_)
        refine zf_callS hC (c_X1_madeSecret l g TK (gA k8 0 (ix a0)) r12) mt_X1_madeSecret wd_503 wd_502 rfl (rm_le hR rfl) rfl rfl (rest := []) rfl (Nat.le_of_ble_eq_true rfl) dX11_make_52 (fun r15 k16 h17 => ?_)
        refine zf_istore_n hC (LV' := [(2, .int r15), (0, .ref (g.2.1 10)), (1, .int a0)]) dX11_make_55 rfl (by decide) rfl ?_
        refine zf_aload_n hC dX11_make_56 rfl 1 rfl ?_
        refine gf_408 hC dX11_make_57 ?_
        refine zf_iload_n hC dX11_make_60 rfl 0 rfl ?_
        refine zf_iconst hC (v := 2) dX11_make_61 rfl ?_
        refine zf_iload_n hC dX11_make_62 rfl 2 rfl ?_
        refine zf_aload_n hC dX11_make_63 rfl 1 rfl ?_
        refine gf_400 hC dX11_make_64 ?_
        refine zf_callV hC (c_X1_add l g r15 2 a0 (gI k16 10 0)) mt_X1_add wd_468 wd_469 ci_0 ic_0 wd_467 rfl (rm_le hR rfl) rfl rfl (rest := []) rfl (Nat.le_of_ble_eq_true rfl) dX11_make_67 (fun r18 k19 h20 => ?_)
        refine zf_istore_n hC (LV' := [(3, .int r18), (2, .int r15), (0, .ref (g.2.1 10)), (1, .int a0)]) dX11_make_70 rfl (by decide) rfl ?_
        refine zf_iload_n hC dX11_make_71 rfl 0 rfl ?_
        refine zf_iconst hC (v := (-1)) dX11_make_72 rfl ?_
        refine zf_icmp_eq hC (tgt := 84) dX11_make_73 (by decide) (fun h21 => ?_) (fun h21 => ?_)
        · refine zf_iload_n hC dX11_make_84 rfl 0 rfl ?_
          exact zf_iret hC rfl dX11_make_85
        · refine zf_aload_n hC dX11_make_76 rfl 2 rfl ?_
          refine gf_407 hC dX11_make_77 ?_
          refine zf_iconst hC (v := 0) dX11_make_80 rfl ?_
          refine pf_38 hC dX11_make_81 ?_
          refine zf_nmk (fun k22 => ?_)
          refine zf_iload_n hC dX11_make_84 rfl 0 rfl ?_
          exact zf_iret hC rfl dX11_make_85
      · refine zf_iconst hC (v := (-1)) dX11_make_34 rfl ?_
        exact zf_iret hC rfl dX11_make_35
    · refine zf_iconst hC (v := (-1)) dX11_make_34 rfl ?_
      exact zf_iret hC rfl dX11_make_35
  · refine zf_iconst hC (v := (-1)) dX11_make_34 rfl ?_
    exact zf_iret hC rfl dX11_make_35
/-! LifeKeys.told -/
theorem dX11_told_0 : decode cX11_told 0 = .ok (.aload_n 0, 1) := by decide +kernel
theorem dX11_told_1 : decode cX11_told 1 = .ok (.getfield 26, 3) := by decide +kernel
theorem dX11_told_4 : decode cX11_told 4 = .ok (.iload_n 1, 1) := by decide +kernel
theorem dX11_told_5 : decode cX11_told 5 = .ok (.invokevirtual 114, 3) := by decide +kernel
theorem dX11_told_8 : decode cX11_told 8 = .ok (.ifCond .ne 5, 3) := by decide +kernel
theorem dX11_told_11 : decode cX11_told 11 = .ok (.iconst (-1), 1) := by decide +kernel
theorem dX11_told_12 : decode cX11_told 12 = .ok (.ireturn, 1) := by decide +kernel
theorem dX11_told_13 : decode cX11_told 13 = .ok (.iload_n 2, 1) := by decide +kernel
theorem dX11_told_14 : decode cX11_told 14 = .ok (.tableswitch 90 0 4 #[34, 44, 54, 67, 77], 34) := by decide +kernel
theorem dX11_told_48 : decode cX11_told 48 = .ok (.aload_n 0, 1) := by decide +kernel
theorem dX11_told_49 : decode cX11_told 49 = .ok (.getfield 26, 3) := by decide +kernel
theorem dX11_told_52 : decode cX11_told 52 = .ok (.getfield 117, 3) := by decide +kernel
theorem dX11_told_55 : decode cX11_told 55 = .ok (.iload_n 1, 1) := by decide +kernel
theorem dX11_told_56 : decode cX11_told 56 = .ok (.iaload, 1) := by decide +kernel
theorem dX11_told_57 : decode cX11_told 57 = .ok (.ireturn, 1) := by decide +kernel
theorem dX11_told_58 : decode cX11_told 58 = .ok (.aload_n 0, 1) := by decide +kernel
theorem dX11_told_59 : decode cX11_told 59 = .ok (.getfield 26, 3) := by decide +kernel
theorem dX11_told_62 : decode cX11_told 62 = .ok (.getfield 145, 3) := by decide +kernel
theorem dX11_told_65 : decode cX11_told 65 = .ok (.iload_n 1, 1) := by decide +kernel
theorem dX11_told_66 : decode cX11_told 66 = .ok (.iaload, 1) := by decide +kernel
theorem dX11_told_67 : decode cX11_told 67 = .ok (.ireturn, 1) := by decide +kernel
theorem dX11_told_68 : decode cX11_told 68 = .ok (.aload_n 0, 1) := by decide +kernel
theorem dX11_told_69 : decode cX11_told 69 = .ok (.getfield 26, 3) := by decide +kernel
theorem dX11_told_72 : decode cX11_told 72 = .ok (.iload_n 1, 1) := by decide +kernel
theorem dX11_told_73 : decode cX11_told 73 = .ok (.aload_n 0, 1) := by decide +kernel
theorem dX11_told_74 : decode cX11_told 74 = .ok (.getfield 86, 3) := by decide +kernel
theorem dX11_told_77 : decode cX11_told 77 = .ok (.invokevirtual 148, 3) := by decide +kernel
theorem dX11_told_80 : decode cX11_told 80 = .ok (.ireturn, 1) := by decide +kernel
theorem dX11_told_81 : decode cX11_told 81 = .ok (.aload_n 0, 1) := by decide +kernel
theorem dX11_told_82 : decode cX11_told 82 = .ok (.getfield 26, 3) := by decide +kernel
theorem dX11_told_85 : decode cX11_told 85 = .ok (.getfield 151, 3) := by decide +kernel
theorem dX11_told_88 : decode cX11_told 88 = .ok (.iload_n 1, 1) := by decide +kernel
theorem dX11_told_89 : decode cX11_told 89 = .ok (.iaload, 1) := by decide +kernel
theorem dX11_told_90 : decode cX11_told 90 = .ok (.ireturn, 1) := by decide +kernel
theorem dX11_told_91 : decode cX11_told 91 = .ok (.aload_n 0, 1) := by decide +kernel
theorem dX11_told_92 : decode cX11_told 92 = .ok (.getfield 40, 3) := by decide +kernel
theorem dX11_told_95 : decode cX11_told 95 = .ok (.iload_n 1, 1) := by decide +kernel
theorem dX11_told_96 : decode cX11_told 96 = .ok (.aload_n 0, 1) := by decide +kernel
theorem dX11_told_97 : decode cX11_told 97 = .ok (.getfield 86, 3) := by decide +kernel
theorem dX11_told_100 : decode cX11_told 100 = .ok (.invokevirtual 154, 3) := by decide +kernel
theorem dX11_told_103 : decode cX11_told 103 = .ok (.ireturn, 1) := by decide +kernel
theorem dX11_told_104 : decode cX11_told 104 = .ok (.iconst (-1), 1) := by decide +kernel
theorem dX11_told_105 : decode cX11_told 105 = .ok (.ireturn, 1) := by decide +kernel
def fX11_told (k : ST) (a0 : Int32) (a1 : Int32) : Option (Int32 × ST) := ob (fX1_knows k a0) fun r1 k2 => if r1 = true then if a1 = 0 then ck (inb a0 40) (some (gA k2 1 (ix a0), k2)) else if a1 = 1 then ck (inb a0 40) (some (gA k2 2 (ix a0), k2)) else if a1 = 2 then ob (fX1_burntFrom k2 a0 (gI k2 10 0)) fun r10 k11 => some (r10, k11) else if a1 = 3 then ck (inb a0 40) (some (gA k2 4 (ix a0), k2)) else if a1 = 4 then ob (fX3_lastInForce k2 a0 (gI k2 10 0)) fun r16 k17 => some (r16, k17) else some ((-1), k2) else some ((-1), k2)
set_option maxRecDepth 20000 in
theorem c_X11_told (l : Launch) (g : GT) (a0 : Int32) (a1 : Int32) : CN l yX11_told cX11_told 3 (some .int) { frames := 3, cells := 0, slots := 0, locals := 66 } g TK voI [.ref (g.2.1 10), .int a0, .int a1] (fun k => fX11_told k a0 a1) := by
  refine cn_of (by decide) (Nat.le_of_ble_eq_true rfl) ?_
  intro p e s m args below meth c hC k
  have hC : HC p s m args meth c cX11_told 3 RX11 (some .int) g := hC
  have hR : 3 ≤ ({ frames := 3, cells := 0, slots := 0, locals := 66 } : Room).frames ∧ 66 ≤ ({ frames := 3, cells := 0, slots := 0, locals := 66 } : Room).locals := ⟨Nat.le_refl _, Nat.le_refl _⟩
  show ZF p l e _ s m args below meth c g TK voI 3 k 0 [(0, .ref (g.2.1 10)), (1, .int a0), (2, .int a1)] [] (fX11_told k a0 a1)
  unfold fX11_told
  refine zf_aload_n hC dX11_told_0 rfl 0 rfl ?_
  refine gf_408 hC dX11_told_1 ?_
  refine zf_iload_n hC dX11_told_4 rfl 1 rfl ?_
  refine zf_callV hC (c_X1_knows l g a0) mt_X1_knows wd_491 wd_492 ci_0 ic_0 wd_490 rfl (rm_le hR rfl) rfl rfl (rest := []) rfl (Nat.le_of_ble_eq_true rfl) dX11_told_5 (fun r1 k2 h3 => ?_)
  refine zf_ifb_ne hC (tgt := 13) dX11_told_8 (by decide) (fun h4 => ?_) (fun h4 => ?_)
  · refine zf_iload_n hC dX11_told_13 rfl 2 rfl ?_
    refine zf_ite (fun h5 => ?_) (fun h5 => ?_)
    · refine zf_tabIn hC (tgt := 48) (off := 34) dX11_told_14 (by rw [h5]; decide) (by rw [h5]; decide) (by rw [h5]; rfl) (by decide) ?_
      refine zf_aload_n hC dX11_told_48 rfl 0 rfl ?_
      refine gf_408 hC dX11_told_49 ?_
      refine gf_58 hC dX11_told_52 ?_
      refine zf_iload_n hC dX11_told_55 rfl 1 rfl ?_
      refine zf_iald hC (j := 1) ia_1 rfl rfl dX11_told_56 (fun h6 => ?_)
      exact zf_iret hC rfl dX11_told_57
    refine zf_ite (fun h7 => ?_) (fun h7 => ?_)
    · refine zf_tabIn hC (tgt := 58) (off := 44) dX11_told_14 (by rw [h7]; decide) (by rw [h7]; decide) (by rw [h7]; rfl) (by decide) ?_
      refine zf_aload_n hC dX11_told_58 rfl 0 rfl ?_
      refine gf_408 hC dX11_told_59 ?_
      refine gf_61 hC dX11_told_62 ?_
      refine zf_iload_n hC dX11_told_65 rfl 1 rfl ?_
      refine zf_iald hC (j := 2) ia_2 rfl rfl dX11_told_66 (fun h8 => ?_)
      exact zf_iret hC rfl dX11_told_67
    refine zf_ite (fun h9 => ?_) (fun h9 => ?_)
    · refine zf_tabIn hC (tgt := 68) (off := 54) dX11_told_14 (by rw [h9]; decide) (by rw [h9]; decide) (by rw [h9]; rfl) (by decide) ?_
      refine zf_aload_n hC dX11_told_68 rfl 0 rfl ?_
      refine gf_408 hC dX11_told_69 ?_
      refine zf_iload_n hC dX11_told_72 rfl 1 rfl ?_
      refine zf_aload_n hC dX11_told_73 rfl 0 rfl ?_
      refine gf_400 hC dX11_told_74 ?_
      refine zf_callV hC (c_X1_burntFrom l g a0 (gI k2 10 0)) mt_X1_burntFrom wd_510 wd_511 ci_0 ic_0 wd_509 rfl (rm_le hR rfl) rfl rfl (rest := []) rfl (Nat.le_of_ble_eq_true rfl) dX11_told_77 (fun r10 k11 h12 => ?_)
      exact zf_iret hC rfl dX11_told_80
    refine zf_ite (fun h13 => ?_) (fun h13 => ?_)
    · refine zf_tabIn hC (tgt := 81) (off := 67) dX11_told_14 (by rw [h13]; decide) (by rw [h13]; decide) (by rw [h13]; rfl) (by decide) ?_
      refine zf_aload_n hC dX11_told_81 rfl 0 rfl ?_
      refine gf_408 hC dX11_told_82 ?_
      refine gf_65 hC dX11_told_85 ?_
      refine zf_iload_n hC dX11_told_88 rfl 1 rfl ?_
      refine zf_iald hC (j := 4) ia_4 rfl rfl dX11_told_89 (fun h14 => ?_)
      exact zf_iret hC rfl dX11_told_90
    refine zf_ite (fun h15 => ?_) (fun h15 => ?_)
    · refine zf_tabIn hC (tgt := 91) (off := 77) dX11_told_14 (by rw [h15]; decide) (by rw [h15]; decide) (by rw [h15]; rfl) (by decide) ?_
      refine zf_aload_n hC dX11_told_91 rfl 0 rfl ?_
      refine gf_410 hC dX11_told_92 ?_
      refine zf_iload_n hC dX11_told_95 rfl 1 rfl ?_
      refine zf_aload_n hC dX11_told_96 rfl 0 rfl ?_
      refine gf_400 hC dX11_told_97 ?_
      refine zf_callV hC (c_X3_lastInForce l g a0 (gI k2 10 0)) mt_X3_lastInForce wd_514 wd_515 ci_2 ic_2 wd_513 rfl (rm_le hR rfl) rfl rfl (rest := []) rfl (Nat.le_of_ble_eq_true rfl) dX11_told_100 (fun r16 k17 h18 => ?_)
      exact zf_iret hC rfl dX11_told_103
    refine zf_tabOut hC (tgt := 104) dX11_told_14 (by have zh5 := lv_neT h5 (a := 0) rfl; have zh7 := lv_neT h7 (a := 1) rfl; have zh9 := lv_neT h9 (a := 2) rfl; have zh13 := lv_neT h13 (a := 3) rfl; have zh15 := lv_neT h15 (a := 4) rfl; omega) (by decide) ?_
    refine zf_iconst hC (v := (-1)) dX11_told_104 rfl ?_
    exact zf_iret hC rfl dX11_told_105
  · refine zf_iconst hC (v := (-1)) dX11_told_11 rfl ?_
    exact zf_iret hC rfl dX11_told_12
/-! LifeKeys.isHolder -/
theorem dX11_isHolder_0 : decode cX11_isHolder 0 = .ok (.iload_n 1, 1) := by decide +kernel
theorem dX11_isHolder_1 : decode cX11_isHolder 1 = .ok (.ifCond .lt 15, 3) := by decide +kernel
theorem dX11_isHolder_4 : decode cX11_isHolder 4 = .ok (.iload_n 1, 1) := by decide +kernel
theorem dX11_isHolder_5 : decode cX11_isHolder 5 = .ok (.aload_n 0, 1) := by decide +kernel
theorem dX11_isHolder_6 : decode cX11_isHolder 6 = .ok (.getfield 90, 3) := by decide +kernel
theorem dX11_isHolder_9 : decode cX11_isHolder 9 = .ok (.if_icmp .ge 7, 3) := by decide +kernel
theorem dX11_isHolder_12 : decode cX11_isHolder 12 = .ok (.iconst 1, 1) := by decide +kernel
theorem dX11_isHolder_13 : decode cX11_isHolder 13 = .ok (.goto 4, 3) := by decide +kernel
theorem dX11_isHolder_16 : decode cX11_isHolder 16 = .ok (.iconst 0, 1) := by decide +kernel
theorem dX11_isHolder_17 : decode cX11_isHolder 17 = .ok (.ireturn, 1) := by decide +kernel
def fX11_isHolder (k : ST) (a0 : Int32) : Option (Bool × ST) := if a0 < 0 then some (false, k) else if (gI k 10 1) ≤ a0 then some (false, k) else some (true, k)
set_option maxRecDepth 20000 in
theorem c_X11_isHolder (l : Launch) (g : GT) (a0 : Int32) : CN l yX11_isHolder cX11_isHolder 2 (some .boolean) { frames := 0, cells := 0, slots := 0, locals := 0 } g TK voB [.ref (g.2.1 10), .int a0] (fun k => fX11_isHolder k a0) := by
  refine cn_of (by decide) (Nat.le_of_ble_eq_true rfl) ?_
  intro p e s m args below meth c hC k
  have hC : HC p s m args meth c cX11_isHolder 2 RX11 (some .boolean) g := hC
  have hR : 0 ≤ ({ frames := 0, cells := 0, slots := 0, locals := 0 } : Room).frames ∧ 0 ≤ ({ frames := 0, cells := 0, slots := 0, locals := 0 } : Room).locals := ⟨Nat.le_refl _, Nat.le_refl _⟩
  show ZF p l e _ s m args below meth c g TK voB 2 k 0 [(0, .ref (g.2.1 10)), (1, .int a0)] [] (fX11_isHolder k a0)
  unfold fX11_isHolder
  refine zf_iload_n hC dX11_isHolder_0 rfl 1 rfl ?_
  refine zf_if_lt hC (tgt := 16) dX11_isHolder_1 (by decide) (fun h1 => ?_) (fun h1 => ?_)
  · refine zf_iconst hC (v := 0) dX11_isHolder_16 rfl ?_
    exact zf_zret hC rfl false rfl dX11_isHolder_17
  · refine zf_iload_n hC dX11_isHolder_4 rfl 1 rfl ?_
    refine zf_aload_n hC dX11_isHolder_5 rfl 0 rfl ?_
    refine gf_401 hC dX11_isHolder_6 ?_
    refine zf_icmp_ge hC (tgt := 16) dX11_isHolder_9 (by decide) (fun h2 => ?_) (fun h2 => ?_)
    · refine zf_iconst hC (v := 0) dX11_isHolder_16 rfl ?_
      exact zf_zret hC rfl false rfl dX11_isHolder_17
    · refine zf_iconst hC (v := 1) dX11_isHolder_12 rfl ?_
      refine zf_goto hC (tgt := 17) dX11_isHolder_13 (by decide) ?_
      exact zf_zret hC rfl true rfl dX11_isHolder_17
/-! LifeKeys.give -/
theorem dX11_give_0 : decode cX11_give 0 = .ok (.aload_n 0, 1) := by decide +kernel
theorem dX11_give_1 : decode cX11_give 1 = .ok (.iload_n 1, 1) := by decide +kernel
theorem dX11_give_2 : decode cX11_give 2 = .ok (.invokevirtual 157, 3) := by decide +kernel
theorem dX11_give_5 : decode cX11_give 5 = .ok (.ifCond .eq 26, 3) := by decide +kernel
theorem dX11_give_8 : decode cX11_give 8 = .ok (.aload_n 0, 1) := by decide +kernel
theorem dX11_give_9 : decode cX11_give 9 = .ok (.getfield 26, 3) := by decide +kernel
theorem dX11_give_12 : decode cX11_give 12 = .ok (.iload_n 2, 1) := by decide +kernel
theorem dX11_give_13 : decode cX11_give 13 = .ok (.invokevirtual 114, 3) := by decide +kernel
theorem dX11_give_16 : decode cX11_give 16 = .ok (.ifCond .eq 15, 3) := by decide +kernel
theorem dX11_give_19 : decode cX11_give 19 = .ok (.aload_n 0, 1) := by decide +kernel
theorem dX11_give_20 : decode cX11_give 20 = .ok (.getfield 33, 3) := by decide +kernel
theorem dX11_give_23 : decode cX11_give 23 = .ok (.iload_n 1, 1) := by decide +kernel
theorem dX11_give_24 : decode cX11_give 24 = .ok (.iload_n 2, 1) := by decide +kernel
theorem dX11_give_25 : decode cX11_give 25 = .ok (.invokevirtual 160, 3) := by decide +kernel
theorem dX11_give_28 : decode cX11_give 28 = .ok (.ifCond .eq 5, 3) := by decide +kernel
theorem dX11_give_31 : decode cX11_give 31 = .ok (.iconst 0, 1) := by decide +kernel
theorem dX11_give_32 : decode cX11_give 32 = .ok (.ireturn, 1) := by decide +kernel
theorem dX11_give_33 : decode cX11_give 33 = .ok (.aload_n 0, 1) := by decide +kernel
theorem dX11_give_34 : decode cX11_give 34 = .ok (.getfield 33, 3) := by decide +kernel
theorem dX11_give_37 : decode cX11_give 37 = .ok (.iload_n 1, 1) := by decide +kernel
theorem dX11_give_38 : decode cX11_give 38 = .ok (.iload_n 2, 1) := by decide +kernel
theorem dX11_give_39 : decode cX11_give 39 = .ok (.aload_n 0, 1) := by decide +kernel
theorem dX11_give_40 : decode cX11_give 40 = .ok (.getfield 86, 3) := by decide +kernel
theorem dX11_give_43 : decode cX11_give 43 = .ok (.invokevirtual 164, 3) := by decide +kernel
theorem dX11_give_46 : decode cX11_give 46 = .ok (.ireturn, 1) := by decide +kernel
def fX11_give (k : ST) (a0 : Int32) (a1 : Int32) : Option (Bool × ST) := ob (fX11_isHolder k a0) fun r1 k2 => if r1 = true then ob (fX1_knows k2 a1) fun r5 k6 => if r5 = true then ob (fX10_hasNow k6 a0 a1) fun r9 k10 => if r9 = true then some (false, k10) else ob (fX10_turn k10 a0 a1 (gI k10 10 0)) fun r13 k14 => some (r13, k14) else some (false, k6) else some (false, k2)
set_option maxRecDepth 20000 in
theorem c_X11_give (l : Launch) (g : GT) (a0 : Int32) (a1 : Int32) : CN l yX11_give cX11_give 3 (some .boolean) { frames := 2, cells := 0, slots := 0, locals := 44 } g TK voB [.ref (g.2.1 10), .int a0, .int a1] (fun k => fX11_give k a0 a1) := by
  refine cn_of (by decide) (Nat.le_of_ble_eq_true rfl) ?_
  intro p e s m args below meth c hC k
  have hC : HC p s m args meth c cX11_give 3 RX11 (some .boolean) g := hC
  have hR : 2 ≤ ({ frames := 2, cells := 0, slots := 0, locals := 44 } : Room).frames ∧ 44 ≤ ({ frames := 2, cells := 0, slots := 0, locals := 44 } : Room).locals := ⟨Nat.le_refl _, Nat.le_refl _⟩
  show ZF p l e _ s m args below meth c g TK voB 3 k 0 [(0, .ref (g.2.1 10)), (1, .int a0), (2, .int a1)] [] (fX11_give k a0 a1)
  unfold fX11_give
  refine zf_aload_n hC dX11_give_0 rfl 0 rfl ?_
  refine zf_iload_n hC dX11_give_1 rfl 1 rfl ?_
  refine zf_callV hC (c_X11_isHolder l g a0) mt_X11_isHolder wd_531 sp_0 ci_10 ic_10 wd_529 rfl (rm_le hR rfl) rfl rfl (rest := []) rfl (Nat.le_of_ble_eq_true rfl) dX11_give_2 (fun r1 k2 h3 => ?_)
  refine zf_ifb_eq hC (tgt := 31) dX11_give_5 (by decide) (fun h4 => ?_) (fun h4 => ?_)
  · refine zf_aload_n hC dX11_give_8 rfl 0 rfl ?_
    refine gf_408 hC dX11_give_9 ?_
    refine zf_iload_n hC dX11_give_12 rfl 2 rfl ?_
    refine zf_callV hC (c_X1_knows l g a1) mt_X1_knows wd_491 wd_492 ci_0 ic_0 wd_490 rfl (rm_le hR rfl) rfl rfl (rest := []) rfl (Nat.le_of_ble_eq_true rfl) dX11_give_13 (fun r5 k6 h7 => ?_)
    refine zf_ifb_eq hC (tgt := 31) dX11_give_16 (by decide) (fun h8 => ?_) (fun h8 => ?_)
    · refine zf_aload_n hC dX11_give_19 rfl 0 rfl ?_
      refine gf_409 hC dX11_give_20 ?_
      refine zf_iload_n hC dX11_give_23 rfl 1 rfl ?_
      refine zf_iload_n hC dX11_give_24 rfl 2 rfl ?_
      refine zf_callV hC (c_X10_hasNow l g a0 a1) mt_X10_hasNow wd_534 wd_535 ci_9 ic_9 wd_533 rfl (rm_le hR rfl) rfl rfl (rest := []) rfl (Nat.le_of_ble_eq_true rfl) dX11_give_25 (fun r9 k10 h11 => ?_)
      refine zf_ifb_eq hC (tgt := 33) dX11_give_28 (by decide) (fun h12 => ?_) (fun h12 => ?_)
      · refine zf_iconst hC (v := 0) dX11_give_31 rfl ?_
        exact zf_zret hC rfl false rfl dX11_give_32
      · refine zf_aload_n hC dX11_give_33 rfl 0 rfl ?_
        refine gf_409 hC dX11_give_34 ?_
        refine zf_iload_n hC dX11_give_37 rfl 1 rfl ?_
        refine zf_iload_n hC dX11_give_38 rfl 2 rfl ?_
        refine zf_aload_n hC dX11_give_39 rfl 0 rfl ?_
        refine gf_400 hC dX11_give_40 ?_
        refine zf_callV hC (c_X10_turn l g a0 a1 (gI k10 10 0)) mt_X10_turn wd_541 wd_542 ci_9 ic_9 wd_540 rfl (rm_le hR rfl) rfl rfl (rest := []) rfl (Nat.le_of_ble_eq_true rfl) dX11_give_43 (fun r13 k14 h15 => ?_)
        exact zf_zret hC rfl r13 rfl dX11_give_46
    · refine zf_iconst hC (v := 0) dX11_give_31 rfl ?_
      exact zf_zret hC rfl false rfl dX11_give_32
  · refine zf_iconst hC (v := 0) dX11_give_31 rfl ?_
    exact zf_zret hC rfl false rfl dX11_give_32
/-! LifeKeys.take -/
theorem dX11_take_0 : decode cX11_take 0 = .ok (.aload_n 0, 1) := by decide +kernel
theorem dX11_take_1 : decode cX11_take 1 = .ok (.iload_n 1, 1) := by decide +kernel
theorem dX11_take_2 : decode cX11_take 2 = .ok (.invokevirtual 157, 3) := by decide +kernel
theorem dX11_take_5 : decode cX11_take 5 = .ok (.ifCond .eq 26, 3) := by decide +kernel
theorem dX11_take_8 : decode cX11_take 8 = .ok (.aload_n 0, 1) := by decide +kernel
theorem dX11_take_9 : decode cX11_take 9 = .ok (.getfield 26, 3) := by decide +kernel
theorem dX11_take_12 : decode cX11_take 12 = .ok (.iload_n 2, 1) := by decide +kernel
theorem dX11_take_13 : decode cX11_take 13 = .ok (.invokevirtual 114, 3) := by decide +kernel
theorem dX11_take_16 : decode cX11_take 16 = .ok (.ifCond .eq 15, 3) := by decide +kernel
theorem dX11_take_19 : decode cX11_take 19 = .ok (.aload_n 0, 1) := by decide +kernel
theorem dX11_take_20 : decode cX11_take 20 = .ok (.getfield 33, 3) := by decide +kernel
theorem dX11_take_23 : decode cX11_take 23 = .ok (.iload_n 1, 1) := by decide +kernel
theorem dX11_take_24 : decode cX11_take 24 = .ok (.iload_n 2, 1) := by decide +kernel
theorem dX11_take_25 : decode cX11_take 25 = .ok (.invokevirtual 160, 3) := by decide +kernel
theorem dX11_take_28 : decode cX11_take 28 = .ok (.ifCond .ne 5, 3) := by decide +kernel
theorem dX11_take_31 : decode cX11_take 31 = .ok (.iconst 0, 1) := by decide +kernel
theorem dX11_take_32 : decode cX11_take 32 = .ok (.ireturn, 1) := by decide +kernel
theorem dX11_take_33 : decode cX11_take 33 = .ok (.aload_n 0, 1) := by decide +kernel
theorem dX11_take_34 : decode cX11_take 34 = .ok (.getfield 33, 3) := by decide +kernel
theorem dX11_take_37 : decode cX11_take 37 = .ok (.iload_n 1, 1) := by decide +kernel
theorem dX11_take_38 : decode cX11_take 38 = .ok (.iload_n 2, 1) := by decide +kernel
theorem dX11_take_39 : decode cX11_take 39 = .ok (.aload_n 0, 1) := by decide +kernel
theorem dX11_take_40 : decode cX11_take 40 = .ok (.getfield 86, 3) := by decide +kernel
theorem dX11_take_43 : decode cX11_take 43 = .ok (.invokevirtual 164, 3) := by decide +kernel
theorem dX11_take_46 : decode cX11_take 46 = .ok (.ireturn, 1) := by decide +kernel
def fX11_take (k : ST) (a0 : Int32) (a1 : Int32) : Option (Bool × ST) := ob (fX11_isHolder k a0) fun r1 k2 => if r1 = true then ob (fX1_knows k2 a1) fun r5 k6 => if r5 = true then ob (fX10_hasNow k6 a0 a1) fun r9 k10 => if r9 = true then ob (fX10_turn k10 a0 a1 (gI k10 10 0)) fun r13 k14 => some (r13, k14) else some (false, k10) else some (false, k6) else some (false, k2)
set_option maxRecDepth 20000 in
theorem c_X11_take (l : Launch) (g : GT) (a0 : Int32) (a1 : Int32) : CN l yX11_take cX11_take 3 (some .boolean) { frames := 2, cells := 0, slots := 0, locals := 44 } g TK voB [.ref (g.2.1 10), .int a0, .int a1] (fun k => fX11_take k a0 a1) := by
  refine cn_of (by decide) (Nat.le_of_ble_eq_true rfl) ?_
  intro p e s m args below meth c hC k
  have hC : HC p s m args meth c cX11_take 3 RX11 (some .boolean) g := hC
  have hR : 2 ≤ ({ frames := 2, cells := 0, slots := 0, locals := 44 } : Room).frames ∧ 44 ≤ ({ frames := 2, cells := 0, slots := 0, locals := 44 } : Room).locals := ⟨Nat.le_refl _, Nat.le_refl _⟩
  show ZF p l e _ s m args below meth c g TK voB 3 k 0 [(0, .ref (g.2.1 10)), (1, .int a0), (2, .int a1)] [] (fX11_take k a0 a1)
  unfold fX11_take
  refine zf_aload_n hC dX11_take_0 rfl 0 rfl ?_
  refine zf_iload_n hC dX11_take_1 rfl 1 rfl ?_
  refine zf_callV hC (c_X11_isHolder l g a0) mt_X11_isHolder wd_531 sp_0 ci_10 ic_10 wd_529 rfl (rm_le hR rfl) rfl rfl (rest := []) rfl (Nat.le_of_ble_eq_true rfl) dX11_take_2 (fun r1 k2 h3 => ?_)
  refine zf_ifb_eq hC (tgt := 31) dX11_take_5 (by decide) (fun h4 => ?_) (fun h4 => ?_)
  · refine zf_aload_n hC dX11_take_8 rfl 0 rfl ?_
    refine gf_408 hC dX11_take_9 ?_
    refine zf_iload_n hC dX11_take_12 rfl 2 rfl ?_
    refine zf_callV hC (c_X1_knows l g a1) mt_X1_knows wd_491 wd_492 ci_0 ic_0 wd_490 rfl (rm_le hR rfl) rfl rfl (rest := []) rfl (Nat.le_of_ble_eq_true rfl) dX11_take_13 (fun r5 k6 h7 => ?_)
    refine zf_ifb_eq hC (tgt := 31) dX11_take_16 (by decide) (fun h8 => ?_) (fun h8 => ?_)
    · refine zf_aload_n hC dX11_take_19 rfl 0 rfl ?_
      refine gf_409 hC dX11_take_20 ?_
      refine zf_iload_n hC dX11_take_23 rfl 1 rfl ?_
      refine zf_iload_n hC dX11_take_24 rfl 2 rfl ?_
      refine zf_callV hC (c_X10_hasNow l g a0 a1) mt_X10_hasNow wd_534 wd_535 ci_9 ic_9 wd_533 rfl (rm_le hR rfl) rfl rfl (rest := []) rfl (Nat.le_of_ble_eq_true rfl) dX11_take_25 (fun r9 k10 h11 => ?_)
      refine zf_ifb_ne hC (tgt := 33) dX11_take_28 (by decide) (fun h12 => ?_) (fun h12 => ?_)
      · refine zf_aload_n hC dX11_take_33 rfl 0 rfl ?_
        refine gf_409 hC dX11_take_34 ?_
        refine zf_iload_n hC dX11_take_37 rfl 1 rfl ?_
        refine zf_iload_n hC dX11_take_38 rfl 2 rfl ?_
        refine zf_aload_n hC dX11_take_39 rfl 0 rfl ?_
        refine gf_400 hC dX11_take_40 ?_
        refine zf_callV hC (c_X10_turn l g a0 a1 (gI k10 10 0)) mt_X10_turn wd_541 wd_542 ci_9 ic_9 wd_540 rfl (rm_le hR rfl) rfl rfl (rest := []) rfl (Nat.le_of_ble_eq_true rfl) dX11_take_43 (fun r13 k14 h15 => ?_)
        exact zf_zret hC rfl r13 rfl dX11_take_46
      · refine zf_iconst hC (v := 0) dX11_take_31 rfl ?_
        exact zf_zret hC rfl false rfl dX11_take_32
    · refine zf_iconst hC (v := 0) dX11_take_31 rfl ?_
      exact zf_zret hC rfl false rfl dX11_take_32
  · refine zf_iconst hC (v := 0) dX11_take_31 rfl ?_
    exact zf_zret hC rfl false rfl dX11_take_32
/-! LifeKeys.wrap -/
theorem dX11_wrap_0 : decode cX11_wrap 0 = .ok (.aload_n 0, 1) := by decide +kernel
theorem dX11_wrap_1 : decode cX11_wrap 1 = .ok (.getfield 26, 3) := by decide +kernel
theorem dX11_wrap_4 : decode cX11_wrap 4 = .ok (.iload_n 1, 1) := by decide +kernel
theorem dX11_wrap_5 : decode cX11_wrap 5 = .ok (.invokevirtual 114, 3) := by decide +kernel
theorem dX11_wrap_8 : decode cX11_wrap 8 = .ok (.ifCond .eq 19, 3) := by decide +kernel
theorem dX11_wrap_11 : decode cX11_wrap 11 = .ok (.aload_n 0, 1) := by decide +kernel
theorem dX11_wrap_12 : decode cX11_wrap 12 = .ok (.getfield 26, 3) := by decide +kernel
theorem dX11_wrap_15 : decode cX11_wrap 15 = .ok (.iload_n 2, 1) := by decide +kernel
theorem dX11_wrap_16 : decode cX11_wrap 16 = .ok (.invokevirtual 114, 3) := by decide +kernel
theorem dX11_wrap_19 : decode cX11_wrap 19 = .ok (.ifCond .eq 8, 3) := by decide +kernel
theorem dX11_wrap_22 : decode cX11_wrap 22 = .ok (.iload_n 1, 1) := by decide +kernel
theorem dX11_wrap_23 : decode cX11_wrap 23 = .ok (.iload_n 2, 1) := by decide +kernel
theorem dX11_wrap_24 : decode cX11_wrap 24 = .ok (.if_icmp .ne 5, 3) := by decide +kernel
theorem dX11_wrap_27 : decode cX11_wrap 27 = .ok (.iconst (-1), 1) := by decide +kernel
theorem dX11_wrap_28 : decode cX11_wrap 28 = .ok (.ireturn, 1) := by decide +kernel
theorem dX11_wrap_29 : decode cX11_wrap 29 = .ok (.aload_n 0, 1) := by decide +kernel
theorem dX11_wrap_30 : decode cX11_wrap 30 = .ok (.getfield 33, 3) := by decide +kernel
theorem dX11_wrap_33 : decode cX11_wrap 33 = .ok (.iload_n 1, 1) := by decide +kernel
theorem dX11_wrap_34 : decode cX11_wrap 34 = .ok (.iload_n 2, 1) := by decide +kernel
theorem dX11_wrap_35 : decode cX11_wrap 35 = .ok (.aload_n 0, 1) := by decide +kernel
theorem dX11_wrap_36 : decode cX11_wrap 36 = .ok (.getfield 86, 3) := by decide +kernel
theorem dX11_wrap_39 : decode cX11_wrap 39 = .ok (.invokevirtual 168, 3) := by decide +kernel
theorem dX11_wrap_42 : decode cX11_wrap 42 = .ok (.ireturn, 1) := by decide +kernel
def fX11_wrap (k : ST) (a0 : Int32) (a1 : Int32) : Option (Int32 × ST) := ob (fX1_knows k a0) fun r1 k2 => if r1 = true then ob (fX1_knows k2 a1) fun r5 k6 => if r5 = true then if a0 = a1 then some ((-1), k6) else ob (fX10_addWrap k6 a0 a1 (gI k6 10 0)) fun r10 k11 => some (r10, k11) else some ((-1), k6) else some ((-1), k2)
set_option maxRecDepth 20000 in
theorem c_X11_wrap (l : Launch) (g : GT) (a0 : Int32) (a1 : Int32) : CN l yX11_wrap cX11_wrap 3 (some .int) { frames := 1, cells := 0, slots := 0, locals := 23 } g TK voI [.ref (g.2.1 10), .int a0, .int a1] (fun k => fX11_wrap k a0 a1) := by
  refine cn_of (by decide) (Nat.le_of_ble_eq_true rfl) ?_
  intro p e s m args below meth c hC k
  have hC : HC p s m args meth c cX11_wrap 3 RX11 (some .int) g := hC
  have hR : 1 ≤ ({ frames := 1, cells := 0, slots := 0, locals := 23 } : Room).frames ∧ 23 ≤ ({ frames := 1, cells := 0, slots := 0, locals := 23 } : Room).locals := ⟨Nat.le_refl _, Nat.le_refl _⟩
  show ZF p l e _ s m args below meth c g TK voI 3 k 0 [(0, .ref (g.2.1 10)), (1, .int a0), (2, .int a1)] [] (fX11_wrap k a0 a1)
  unfold fX11_wrap
  refine zf_aload_n hC dX11_wrap_0 rfl 0 rfl ?_
  refine gf_408 hC dX11_wrap_1 ?_
  refine zf_iload_n hC dX11_wrap_4 rfl 1 rfl ?_
  refine zf_callV hC (c_X1_knows l g a0) mt_X1_knows wd_491 wd_492 ci_0 ic_0 wd_490 rfl (rm_le hR rfl) rfl rfl (rest := []) rfl (Nat.le_of_ble_eq_true rfl) dX11_wrap_5 (fun r1 k2 h3 => ?_)
  refine zf_ifb_eq hC (tgt := 27) dX11_wrap_8 (by decide) (fun h4 => ?_) (fun h4 => ?_)
  · refine zf_aload_n hC dX11_wrap_11 rfl 0 rfl ?_
    refine gf_408 hC dX11_wrap_12 ?_
    refine zf_iload_n hC dX11_wrap_15 rfl 2 rfl ?_
    refine zf_callV hC (c_X1_knows l g a1) mt_X1_knows wd_491 wd_492 ci_0 ic_0 wd_490 rfl (rm_le hR rfl) rfl rfl (rest := []) rfl (Nat.le_of_ble_eq_true rfl) dX11_wrap_16 (fun r5 k6 h7 => ?_)
    refine zf_ifb_eq hC (tgt := 27) dX11_wrap_19 (by decide) (fun h8 => ?_) (fun h8 => ?_)
    · refine zf_iload_n hC dX11_wrap_22 rfl 1 rfl ?_
      refine zf_iload_n hC dX11_wrap_23 rfl 2 rfl ?_
      refine zf_icmp_ne hC (tgt := 29) dX11_wrap_24 (by decide) (fun h9 => ?_) (fun h9 => ?_)
      · refine zf_iconst hC (v := (-1)) dX11_wrap_27 rfl ?_
        exact zf_iret hC rfl dX11_wrap_28
      · refine zf_aload_n hC dX11_wrap_29 rfl 0 rfl ?_
        refine gf_409 hC dX11_wrap_30 ?_
        refine zf_iload_n hC dX11_wrap_33 rfl 1 rfl ?_
        refine zf_iload_n hC dX11_wrap_34 rfl 2 rfl ?_
        refine zf_aload_n hC dX11_wrap_35 rfl 0 rfl ?_
        refine gf_400 hC dX11_wrap_36 ?_
        refine zf_callV hC (c_X10_addWrap l g a0 a1 (gI k6 10 0)) mt_X10_addWrap wd_553 wd_554 ci_9 ic_9 wd_552 rfl (rm_le hR rfl) rfl rfl (rest := []) rfl (Nat.le_of_ble_eq_true rfl) dX11_wrap_39 (fun r10 k11 h12 => ?_)
        exact zf_iret hC rfl dX11_wrap_42
    · refine zf_iconst hC (v := (-1)) dX11_wrap_27 rfl ?_
      exact zf_iret hC rfl dX11_wrap_28
  · refine zf_iconst hC (v := (-1)) dX11_wrap_27 rfl ?_
    exact zf_iret hC rfl dX11_wrap_28
/-! LifeKeys.cut -/
theorem dX11_cut_0 : decode cX11_cut 0 = .ok (.aload_n 0, 1) := by decide +kernel
theorem dX11_cut_1 : decode cX11_cut 1 = .ok (.getfield 33, 3) := by decide +kernel
theorem dX11_cut_4 : decode cX11_cut 4 = .ok (.iload_n 1, 1) := by decide +kernel
theorem dX11_cut_5 : decode cX11_cut 5 = .ok (.aload_n 0, 1) := by decide +kernel
theorem dX11_cut_6 : decode cX11_cut 6 = .ok (.getfield 86, 3) := by decide +kernel
theorem dX11_cut_9 : decode cX11_cut 9 = .ok (.invokevirtual 172, 3) := by decide +kernel
theorem dX11_cut_12 : decode cX11_cut 12 = .ok (.ireturn, 1) := by decide +kernel
def fX11_cut (k : ST) (a0 : Int32) : Option (Bool × ST) := ob (fX10_cutWrap k a0 (gI k 10 0)) fun r1 k2 => some (r1, k2)
set_option maxRecDepth 20000 in
theorem c_X11_cut (l : Launch) (g : GT) (a0 : Int32) : CN l yX11_cut cX11_cut 2 (some .boolean) { frames := 1, cells := 0, slots := 0, locals := 22 } g TK voB [.ref (g.2.1 10), .int a0] (fun k => fX11_cut k a0) := by
  refine cn_of (by decide) (Nat.le_of_ble_eq_true rfl) ?_
  intro p e s m args below meth c hC k
  have hC : HC p s m args meth c cX11_cut 2 RX11 (some .boolean) g := hC
  have hR : 1 ≤ ({ frames := 1, cells := 0, slots := 0, locals := 22 } : Room).frames ∧ 22 ≤ ({ frames := 1, cells := 0, slots := 0, locals := 22 } : Room).locals := ⟨Nat.le_refl _, Nat.le_refl _⟩
  show ZF p l e _ s m args below meth c g TK voB 2 k 0 [(0, .ref (g.2.1 10)), (1, .int a0)] [] (fX11_cut k a0)
  unfold fX11_cut
  refine zf_aload_n hC dX11_cut_0 rfl 0 rfl ?_
  refine gf_409 hC dX11_cut_1 ?_
  refine zf_iload_n hC dX11_cut_4 rfl 1 rfl ?_
  refine zf_aload_n hC dX11_cut_5 rfl 0 rfl ?_
  refine gf_400 hC dX11_cut_6 ?_
  refine zf_callV hC (c_X10_cutWrap l g a0 (gI k 10 0)) mt_X10_cutWrap wd_561 wd_562 ci_9 ic_9 wd_560 rfl (rm_le hR rfl) rfl rfl (rest := []) rfl (Nat.le_of_ble_eq_true rfl) dX11_cut_9 (fun r1 k2 h3 => ?_)
  exact zf_zret hC rfl r1 rfl dX11_cut_12
/-! LifeKeys.allHolders -/
theorem dX11_allHolders_0 : decode cX11_allHolders 0 = .ok (.iconst 1, 1) := by decide +kernel
theorem dX11_allHolders_1 : decode cX11_allHolders 1 = .ok (.aload_n 0, 1) := by decide +kernel
theorem dX11_allHolders_2 : decode cX11_allHolders 2 = .ok (.getfield 90, 3) := by decide +kernel
theorem dX11_allHolders_5 : decode cX11_allHolders 5 = .ok (.ishl, 1) := by decide +kernel
theorem dX11_allHolders_6 : decode cX11_allHolders 6 = .ok (.iconst 1, 1) := by decide +kernel
theorem dX11_allHolders_7 : decode cX11_allHolders 7 = .ok (.isub, 1) := by decide +kernel
theorem dX11_allHolders_8 : decode cX11_allHolders 8 = .ok (.ireturn, 1) := by decide +kernel
def fX11_allHolders (k : ST)  : Option (Int32 × ST) := some ((j_shl 1 (gI k 10 1)) - 1, k)
set_option maxRecDepth 20000 in
theorem c_X11_allHolders (l : Launch) (g : GT)  : CN l yX11_allHolders cX11_allHolders 1 (some .int) { frames := 0, cells := 0, slots := 0, locals := 0 } g TK voI [.ref (g.2.1 10)] (fun k => fX11_allHolders k) := by
  refine cn_of (by decide) (Nat.le_of_ble_eq_true rfl) ?_
  intro p e s m args below meth c hC k
  have hC : HC p s m args meth c cX11_allHolders 1 RX11 (some .int) g := hC
  have hR : 0 ≤ ({ frames := 0, cells := 0, slots := 0, locals := 0 } : Room).frames ∧ 0 ≤ ({ frames := 0, cells := 0, slots := 0, locals := 0 } : Room).locals := ⟨Nat.le_refl _, Nat.le_refl _⟩
  show ZF p l e _ s m args below meth c g TK voI 1 k 0 [(0, .ref (g.2.1 10))] [] (fX11_allHolders k)
  unfold fX11_allHolders
  refine zf_iconst hC (v := 1) dX11_allHolders_0 rfl ?_
  refine zf_aload_n hC dX11_allHolders_1 rfl 0 rfl ?_
  refine gf_401 hC dX11_allHolders_2 ?_
  refine zf_ishl hC dX11_allHolders_5 ?_
  refine zf_iconst hC (v := 1) dX11_allHolders_6 rfl ?_
  refine zf_isub hC dX11_allHolders_7 ?_
  exact zf_iret hC rfl dX11_allHolders_8
/-! LifeKeys.isSet -/
theorem dX11_isSet_0 : decode cX11_isSet 0 = .ok (.iload_n 1, 1) := by decide +kernel
theorem dX11_isSet_1 : decode cX11_isSet 1 = .ok (.iconst 1, 1) := by decide +kernel
theorem dX11_isSet_2 : decode cX11_isSet 2 = .ok (.if_icmp .lt 15, 3) := by decide +kernel
theorem dX11_isSet_5 : decode cX11_isSet 5 = .ok (.iload_n 1, 1) := by decide +kernel
theorem dX11_isSet_6 : decode cX11_isSet 6 = .ok (.aload_n 0, 1) := by decide +kernel
theorem dX11_isSet_7 : decode cX11_isSet 7 = .ok (.invokevirtual 415, 3) := by decide +kernel
theorem dX11_isSet_10 : decode cX11_isSet 10 = .ok (.if_icmp .gt 7, 3) := by decide +kernel
theorem dX11_isSet_13 : decode cX11_isSet 13 = .ok (.iconst 1, 1) := by decide +kernel
theorem dX11_isSet_14 : decode cX11_isSet 14 = .ok (.goto 4, 3) := by decide +kernel
theorem dX11_isSet_17 : decode cX11_isSet 17 = .ok (.iconst 0, 1) := by decide +kernel
theorem dX11_isSet_18 : decode cX11_isSet 18 = .ok (.ireturn, 1) := by decide +kernel
def fX11_isSet (k : ST) (a0 : Int32) : Option (Bool × ST) := if a0 < 1 then some (false, k) else ob (fX11_allHolders k) fun r2 k3 => if r2 < a0 then some (false, k3) else some (true, k3)
set_option maxRecDepth 20000 in
theorem c_X11_isSet (l : Launch) (g : GT) (a0 : Int32) : CN l yX11_isSet cX11_isSet 2 (some .boolean) { frames := 1, cells := 0, slots := 0, locals := 20 } g TK voB [.ref (g.2.1 10), .int a0] (fun k => fX11_isSet k a0) := by
  refine cn_of (by decide) (Nat.le_of_ble_eq_true rfl) ?_
  intro p e s m args below meth c hC k
  have hC : HC p s m args meth c cX11_isSet 2 RX11 (some .boolean) g := hC
  have hR : 1 ≤ ({ frames := 1, cells := 0, slots := 0, locals := 20 } : Room).frames ∧ 20 ≤ ({ frames := 1, cells := 0, slots := 0, locals := 20 } : Room).locals := ⟨Nat.le_refl _, Nat.le_refl _⟩
  show ZF p l e _ s m args below meth c g TK voB 2 k 0 [(0, .ref (g.2.1 10)), (1, .int a0)] [] (fX11_isSet k a0)
  unfold fX11_isSet
  refine zf_iload_n hC dX11_isSet_0 rfl 1 rfl ?_
  refine zf_iconst hC (v := 1) dX11_isSet_1 rfl ?_
  refine zf_icmp_lt hC (tgt := 17) dX11_isSet_2 (by decide) (fun h1 => ?_) (fun h1 => ?_)
  · refine zf_iconst hC (v := 0) dX11_isSet_17 rfl ?_
    exact zf_zret hC rfl false rfl dX11_isSet_18
  · refine zf_iload_n hC dX11_isSet_5 rfl 1 rfl ?_
    refine zf_aload_n hC dX11_isSet_6 rfl 0 rfl ?_
    refine zf_callV hC (c_X11_allHolders l g) mt_X11_allHolders wd_574 sp_2 ci_10 ic_10 wd_572 rfl (rm_le hR rfl) rfl rfl (rest := [.int a0]) rfl (Nat.le_of_ble_eq_true rfl) dX11_isSet_7 (fun r2 k3 h4 => ?_)
    refine zf_icmp_gt hC (tgt := 17) dX11_isSet_10 (by decide) (fun h5 => ?_) (fun h5 => ?_)
    · refine zf_iconst hC (v := 0) dX11_isSet_17 rfl ?_
      exact zf_zret hC rfl false rfl dX11_isSet_18
    · refine zf_iconst hC (v := 1) dX11_isSet_13 rfl ?_
      refine zf_goto hC (tgt := 18) dX11_isSet_14 (by decide) ?_
      exact zf_zret hC rfl true rfl dX11_isSet_18
/-! LifeKeys.part -/
theorem dX11_part_0 : decode cX11_part 0 = .ok (.aload_n 0, 1) := by decide +kernel
theorem dX11_part_1 : decode cX11_part 1 = .ok (.getfield 26, 3) := by decide +kernel
theorem dX11_part_4 : decode cX11_part 4 = .ok (.iload_n 1, 1) := by decide +kernel
theorem dX11_part_5 : decode cX11_part 5 = .ok (.invokevirtual 114, 3) := by decide +kernel
theorem dX11_part_8 : decode cX11_part 8 = .ok (.ifCond .eq 24, 3) := by decide +kernel
theorem dX11_part_11 : decode cX11_part 11 = .ok (.aload_n 0, 1) := by decide +kernel
theorem dX11_part_12 : decode cX11_part 12 = .ok (.iload_n 2, 1) := by decide +kernel
theorem dX11_part_13 : decode cX11_part 13 = .ok (.invokevirtual 175, 3) := by decide +kernel
theorem dX11_part_16 : decode cX11_part 16 = .ok (.ifCond .eq 16, 3) := by decide +kernel
theorem dX11_part_19 : decode cX11_part 19 = .ok (.iload_n 3, 1) := by decide +kernel
theorem dX11_part_20 : decode cX11_part 20 = .ok (.iconst 1, 1) := by decide +kernel
theorem dX11_part_21 : decode cX11_part 21 = .ok (.if_icmp .lt 11, 3) := by decide +kernel
theorem dX11_part_24 : decode cX11_part 24 = .ok (.iload_n 3, 1) := by decide +kernel
theorem dX11_part_25 : decode cX11_part 25 = .ok (.iload_n 2, 1) := by decide +kernel
theorem dX11_part_26 : decode cX11_part 26 = .ok (.invokestatic 178, 3) := by decide +kernel
theorem dX11_part_29 : decode cX11_part 29 = .ok (.if_icmp .le 5, 3) := by decide +kernel
theorem dX11_part_32 : decode cX11_part 32 = .ok (.iconst (-1), 1) := by decide +kernel
theorem dX11_part_33 : decode cX11_part 33 = .ok (.ireturn, 1) := by decide +kernel
theorem dX11_part_34 : decode cX11_part 34 = .ok (.aload_n 0, 1) := by decide +kernel
theorem dX11_part_35 : decode cX11_part 35 = .ok (.getfield 40, 3) := by decide +kernel
theorem dX11_part_38 : decode cX11_part 38 = .ok (.iload_n 1, 1) := by decide +kernel
theorem dX11_part_39 : decode cX11_part 39 = .ok (.iload_n 2, 1) := by decide +kernel
theorem dX11_part_40 : decode cX11_part 40 = .ok (.iload_n 3, 1) := by decide +kernel
theorem dX11_part_41 : decode cX11_part 41 = .ok (.aload_n 0, 1) := by decide +kernel
theorem dX11_part_42 : decode cX11_part 42 = .ok (.getfield 86, 3) := by decide +kernel
theorem dX11_part_45 : decode cX11_part 45 = .ok (.invokevirtual 183, 3) := by decide +kernel
theorem dX11_part_48 : decode cX11_part 48 = .ok (.istore 6, 2) := by decide +kernel
theorem dX11_part_50 : decode cX11_part 50 = .ok (.iload 6, 2) := by decide +kernel
theorem dX11_part_52 : decode cX11_part 52 = .ok (.iconst (-1), 1) := by decide +kernel
theorem dX11_part_53 : decode cX11_part 53 = .ok (.if_icmp .eq 23, 3) := by decide +kernel
theorem dX11_part_56 : decode cX11_part 56 = .ok (.aload_n 0, 1) := by decide +kernel
theorem dX11_part_57 : decode cX11_part 57 = .ok (.getfield 40, 3) := by decide +kernel
theorem dX11_part_60 : decode cX11_part 60 = .ok (.iload 6, 2) := by decide +kernel
theorem dX11_part_62 : decode cX11_part 62 = .ok (.aload_n 0, 1) := by decide +kernel
theorem dX11_part_63 : decode cX11_part 63 = .ok (.getfield 26, 3) := by decide +kernel
theorem dX11_part_66 : decode cX11_part 66 = .ok (.getfield 124, 3) := by decide +kernel
theorem dX11_part_69 : decode cX11_part 69 = .ok (.iload_n 1, 1) := by decide +kernel
theorem dX11_part_70 : decode cX11_part 70 = .ok (.iaload, 1) := by decide +kernel
theorem dX11_part_71 : decode cX11_part 71 = .ok (.lload 4, 2) := by decide +kernel
theorem dX11_part_73 : decode cX11_part 73 = .ok (.invokevirtual 184, 3) := by decide +kernel
theorem dX11_part_76 : decode cX11_part 76 = .ok (.iload 6, 2) := by decide +kernel
theorem dX11_part_78 : decode cX11_part 78 = .ok (.ireturn, 1) := by decide +kernel
def fX11_part (k : ST) (a0 : Int32) (a1 : Int32) (a2 : Int32) (a3 : Int64) : Option (Int32 × ST) := ob (fX1_knows k a0) fun r1 k2 => if r1 = true then ob (fX11_isSet k2 a1) fun r5 k6 => if r5 = true then if a2 < 1 then some ((-1), k6) else ob (fJ6_bitCount_0f7a4 k6 a1) fun r10 k11 => if a2 ≤ r10 then ob (fX3_add k11 a0 a1 a2 (gI k11 10 0)) fun r14 k15 => if r14 = (-1) then some (r14, k15) else ck (inb a0 40) (ob (fX3_drawCurve k15 r14 (gA k15 0 (ix a0)) a3) fun r19 k20 => some (r14, k20)) else some ((-1), k11) else some ((-1), k6) else some ((-1), k2)
set_option maxRecDepth 20000 in
theorem c_X11_part (l : Launch) (g : GT) (a0 : Int32) (a1 : Int32) (a2 : Int32) (a3 : Int64) : CN l yX11_part cX11_part 7 (some .int) { frames := 2, cells := 0, slots := 0, locals := 48 } g TK voI [.ref (g.2.1 10), .int a0, .int a1, .int a2, .long a3] (fun k => fX11_part k a0 a1 a2 a3) := by
  refine cn_of (by decide) (Nat.le_of_ble_eq_true rfl) ?_
  intro p e s m args below meth c hC k
  have hC : HC p s m args meth c cX11_part 7 RX11 (some .int) g := hC
  have hR : 2 ≤ ({ frames := 2, cells := 0, slots := 0, locals := 48 } : Room).frames ∧ 48 ≤ ({ frames := 2, cells := 0, slots := 0, locals := 48 } : Room).locals := ⟨Nat.le_refl _, Nat.le_refl _⟩
  show ZF p l e _ s m args below meth c g TK voI 7 k 0 [(0, .ref (g.2.1 10)), (1, .int a0), (2, .int a1), (3, .int a2), (4, .long a3)] [] (fX11_part k a0 a1 a2 a3)
  unfold fX11_part
  refine zf_aload_n hC dX11_part_0 rfl 0 rfl ?_
  refine gf_408 hC dX11_part_1 ?_
  refine zf_iload_n hC dX11_part_4 rfl 1 rfl ?_
  refine zf_callV hC (c_X1_knows l g a0) mt_X1_knows wd_491 wd_492 ci_0 ic_0 wd_490 rfl (rm_le hR rfl) rfl rfl (rest := []) rfl (Nat.le_of_ble_eq_true rfl) dX11_part_5 (fun r1 k2 h3 => ?_)
  refine zf_ifb_eq hC (tgt := 32) dX11_part_8 (by decide) (fun h4 => ?_) (fun h4 => ?_)
  · refine zf_aload_n hC dX11_part_11 rfl 0 rfl ?_
    refine zf_iload_n hC dX11_part_12 rfl 2 rfl ?_
    refine zf_callV hC (c_X11_isSet l g a1) mt_X11_isSet wd_570 sp_1 ci_10 ic_10 wd_568 rfl (rm_le hR rfl) rfl rfl (rest := []) rfl (Nat.le_of_ble_eq_true rfl) dX11_part_13 (fun r5 k6 h7 => ?_)
    refine zf_ifb_eq hC (tgt := 32) dX11_part_16 (by decide) (fun h8 => ?_) (fun h8 => ?_)
    · refine zf_iload_n hC dX11_part_19 rfl 3 rfl ?_
      refine zf_iconst hC (v := 1) dX11_part_20 rfl ?_
      refine zf_icmp_lt hC (tgt := 32) dX11_part_21 (by decide) (fun h9 => ?_) (fun h9 => ?_)
      · refine zf_iconst hC (v := (-1)) dX11_part_32 rfl ?_
        exact zf_iret hC rfl dX11_part_33
      · refine zf_iload_n hC dX11_part_24 rfl 3 rfl ?_
        refine zf_iload_n hC dX11_part_25 rfl 2 rfl ?_
        refine zf_callS hC (c_J6_bitCount_0f7a4 l g TK a1) mt_J6_bitCount_0f7a4 wd_577 wd_576 rfl (rm_le hR rfl) rfl rfl (rest := [.int a2]) rfl (Nat.le_of_ble_eq_true rfl) dX11_part_26 (fun r10 k11 h12 => ?_)
        refine zf_icmp_le hC (tgt := 34) dX11_part_29 (by decide) (fun h13 => ?_) (fun h13 => ?_)
        · refine zf_aload_n hC dX11_part_34 rfl 0 rfl ?_
          refine gf_410 hC dX11_part_35 ?_
          refine zf_iload_n hC dX11_part_38 rfl 1 rfl ?_
          refine zf_iload_n hC dX11_part_39 rfl 2 rfl ?_
          refine zf_iload_n hC dX11_part_40 rfl 3 rfl ?_
          refine zf_aload_n hC dX11_part_41 rfl 0 rfl ?_
          refine gf_400 hC dX11_part_42 ?_
          refine zf_callV hC (c_X3_add l g a0 a1 a2 (gI k11 10 0)) mt_X3_add wd_583 wd_584 ci_2 ic_2 wd_582 rfl (rm_le hR rfl) rfl rfl (rest := []) rfl (Nat.le_of_ble_eq_true rfl) dX11_part_45 (fun r14 k15 h16 => ?_)
          refine zf_istore hC (LV' := [(6, .int r14), (0, .ref (g.2.1 10)), (1, .int a0), (2, .int a1), (3, .int a2), (4, .long a3)]) dX11_part_48 (by decide) rfl ?_
          refine zf_iload hC dX11_part_50 0 rfl ?_
          refine zf_iconst hC (v := (-1)) dX11_part_52 rfl ?_
          refine zf_icmp_eq hC (tgt := 76) dX11_part_53 (by decide) (fun h17 => ?_) (fun h17 => ?_)
          · refine zf_iload hC dX11_part_76 0 rfl ?_
            exact zf_iret hC rfl dX11_part_78
          · refine zf_aload_n hC dX11_part_56 rfl 1 rfl ?_
            refine gf_410 hC dX11_part_57 ?_
            refine zf_iload hC dX11_part_60 0 rfl ?_
            refine zf_aload_n hC dX11_part_62 rfl 1 rfl ?_
            refine gf_408 hC dX11_part_63 ?_
            refine gf_55 hC dX11_part_66 ?_
            refine zf_iload_n hC dX11_part_69 rfl 2 rfl ?_
            refine zf_iald hC (j := 0) ia_0 rfl rfl dX11_part_70 (fun h18 => ?_)
            refine zf_lload hC dX11_part_71 5 rfl ?_
            refine zf_callV hC (c_X3_drawCurve l g r14 (gA k15 0 (ix a0)) a3) mt_X3_drawCurve wd_587 wd_588 ci_2 ic_2 wd_586 rfl (rm_le hR rfl) rfl rfl (rest := []) rfl (Nat.le_of_ble_eq_true rfl) dX11_part_73 (fun r19 k20 h21 => ?_)
            refine zf_iload hC dX11_part_76 0 rfl ?_
            exact zf_iret hC rfl dX11_part_78
        · refine zf_iconst hC (v := (-1)) dX11_part_32 rfl ?_
          exact zf_iret hC rfl dX11_part_33
    · refine zf_iconst hC (v := (-1)) dX11_part_32 rfl ?_
      exact zf_iret hC rfl dX11_part_33
  · refine zf_iconst hC (v := (-1)) dX11_part_32 rfl ?_
    exact zf_iret hC rfl dX11_part_33
/-! LifeKeys.again -/
theorem dX11_again_0 : decode cX11_again 0 = .ok (.aload_n 0, 1) := by decide +kernel
theorem dX11_again_1 : decode cX11_again 1 = .ok (.getfield 40, 3) := by decide +kernel
theorem dX11_again_4 : decode cX11_again 4 = .ok (.iload_n 1, 1) := by decide +kernel
theorem dX11_again_5 : decode cX11_again 5 = .ok (.aload_n 0, 1) := by decide +kernel
theorem dX11_again_6 : decode cX11_again 6 = .ok (.getfield 86, 3) := by decide +kernel
theorem dX11_again_9 : decode cX11_again 9 = .ok (.invokevirtual 188, 3) := by decide +kernel
theorem dX11_again_12 : decode cX11_again 12 = .ok (.ifCond .ne 5, 3) := by decide +kernel
theorem dX11_again_15 : decode cX11_again 15 = .ok (.iconst (-1), 1) := by decide +kernel
theorem dX11_again_16 : decode cX11_again 16 = .ok (.ireturn, 1) := by decide +kernel
theorem dX11_again_17 : decode cX11_again 17 = .ok (.aload_n 0, 1) := by decide +kernel
theorem dX11_again_18 : decode cX11_again 18 = .ok (.getfield 40, 3) := by decide +kernel
theorem dX11_again_21 : decode cX11_again 21 = .ok (.getfield 191, 3) := by decide +kernel
theorem dX11_again_24 : decode cX11_again 24 = .ok (.iload_n 1, 1) := by decide +kernel
theorem dX11_again_25 : decode cX11_again 25 = .ok (.iaload, 1) := by decide +kernel
theorem dX11_again_26 : decode cX11_again 26 = .ok (.istore 4, 2) := by decide +kernel
theorem dX11_again_28 : decode cX11_again 28 = .ok (.aload_n 0, 1) := by decide +kernel
theorem dX11_again_29 : decode cX11_again 29 = .ok (.getfield 40, 3) := by decide +kernel
theorem dX11_again_32 : decode cX11_again 32 = .ok (.iload 4, 2) := by decide +kernel
theorem dX11_again_34 : decode cX11_again 34 = .ok (.aload_n 0, 1) := by decide +kernel
theorem dX11_again_35 : decode cX11_again 35 = .ok (.getfield 40, 3) := by decide +kernel
theorem dX11_again_38 : decode cX11_again 38 = .ok (.getfield 194, 3) := by decide +kernel
theorem dX11_again_41 : decode cX11_again 41 = .ok (.iload_n 1, 1) := by decide +kernel
theorem dX11_again_42 : decode cX11_again 42 = .ok (.iaload, 1) := by decide +kernel
theorem dX11_again_43 : decode cX11_again 43 = .ok (.aload_n 0, 1) := by decide +kernel
theorem dX11_again_44 : decode cX11_again 44 = .ok (.getfield 40, 3) := by decide +kernel
theorem dX11_again_47 : decode cX11_again 47 = .ok (.getfield 197, 3) := by decide +kernel
theorem dX11_again_50 : decode cX11_again 50 = .ok (.iload_n 1, 1) := by decide +kernel
theorem dX11_again_51 : decode cX11_again 51 = .ok (.iaload, 1) := by decide +kernel
theorem dX11_again_52 : decode cX11_again 52 = .ok (.aload_n 0, 1) := by decide +kernel
theorem dX11_again_53 : decode cX11_again 53 = .ok (.getfield 86, 3) := by decide +kernel
theorem dX11_again_56 : decode cX11_again 56 = .ok (.invokevirtual 183, 3) := by decide +kernel
theorem dX11_again_59 : decode cX11_again 59 = .ok (.istore 5, 2) := by decide +kernel
theorem dX11_again_61 : decode cX11_again 61 = .ok (.iload 5, 2) := by decide +kernel
theorem dX11_again_63 : decode cX11_again 63 = .ok (.iconst (-1), 1) := by decide +kernel
theorem dX11_again_64 : decode cX11_again 64 = .ok (.if_icmp .eq 36, 3) := by decide +kernel
theorem dX11_again_67 : decode cX11_again 67 = .ok (.aload_n 0, 1) := by decide +kernel
theorem dX11_again_68 : decode cX11_again 68 = .ok (.getfield 40, 3) := by decide +kernel
theorem dX11_again_71 : decode cX11_again 71 = .ok (.getfield 200, 3) := by decide +kernel
theorem dX11_again_74 : decode cX11_again 74 = .ok (.iload_n 1, 1) := by decide +kernel
theorem dX11_again_75 : decode cX11_again 75 = .ok (.aload_n 0, 1) := by decide +kernel
theorem dX11_again_76 : decode cX11_again 76 = .ok (.getfield 86, 3) := by decide +kernel
theorem dX11_again_79 : decode cX11_again 79 = .ok (.iastore, 1) := by decide +kernel
theorem dX11_again_80 : decode cX11_again 80 = .ok (.aload_n 0, 1) := by decide +kernel
theorem dX11_again_81 : decode cX11_again 81 = .ok (.getfield 40, 3) := by decide +kernel
theorem dX11_again_84 : decode cX11_again 84 = .ok (.iload 5, 2) := by decide +kernel
theorem dX11_again_86 : decode cX11_again 86 = .ok (.aload_n 0, 1) := by decide +kernel
theorem dX11_again_87 : decode cX11_again 87 = .ok (.getfield 26, 3) := by decide +kernel
theorem dX11_again_90 : decode cX11_again 90 = .ok (.getfield 124, 3) := by decide +kernel
theorem dX11_again_93 : decode cX11_again 93 = .ok (.iload 4, 2) := by decide +kernel
theorem dX11_again_95 : decode cX11_again 95 = .ok (.iaload, 1) := by decide +kernel
theorem dX11_again_96 : decode cX11_again 96 = .ok (.lload_n 2, 1) := by decide +kernel
theorem dX11_again_97 : decode cX11_again 97 = .ok (.invokevirtual 184, 3) := by decide +kernel
theorem dX11_again_100 : decode cX11_again 100 = .ok (.iload 5, 2) := by decide +kernel
theorem dX11_again_102 : decode cX11_again 102 = .ok (.ireturn, 1) := by decide +kernel
def fX11_again (k : ST) (a0 : Int32) (a1 : Int64) : Option (Int32 × ST) := ob (fX3_inForce k a0 (gI k 10 0)) fun r1 k2 => if r1 = true then ck (inb a0 40) (ck (inb a0 40) (ck (inb a0 40) (ob (fX3_add k2 (gA k2 13 (ix a0)) (gA k2 14 (ix a0)) (gA k2 15 (ix a0)) (gI k2 10 0)) fun r8 k9 => if r8 = (-1) then some (r8, k9) else ck (inb a0 40) (nm (sA k9 17 (ix a0) (gI k9 10 0)) fun k13 => ck (inb (gA k2 13 (ix a0)) 40) (ob (fX3_drawCurve k13 r8 (gA k13 0 (ix (gA k2 13 (ix a0)))) a1) fun r15 k16 => some (r8, k16)))))) else some ((-1), k2)
set_option maxRecDepth 20000 in
theorem c_X11_again (l : Launch) (g : GT) (a0 : Int32) (a1 : Int64) : CN l yX11_again cX11_again 6 (some .int) { frames := 2, cells := 0, slots := 0, locals := 48 } g TK voI [.ref (g.2.1 10), .int a0, .long a1] (fun k => fX11_again k a0 a1) := by
  refine cn_of (by decide) (Nat.le_of_ble_eq_true rfl) ?_
  intro p e s m args below meth c hC k
  have hC : HC p s m args meth c cX11_again 6 RX11 (some .int) g := hC
  have hR : 2 ≤ ({ frames := 2, cells := 0, slots := 0, locals := 48 } : Room).frames ∧ 48 ≤ ({ frames := 2, cells := 0, slots := 0, locals := 48 } : Room).locals := ⟨Nat.le_refl _, Nat.le_refl _⟩
  show ZF p l e _ s m args below meth c g TK voI 6 k 0 [(0, .ref (g.2.1 10)), (1, .int a0), (2, .long a1)] [] (fX11_again k a0 a1)
  unfold fX11_again
  refine zf_aload_n hC dX11_again_0 rfl 0 rfl ?_
  refine gf_410 hC dX11_again_1 ?_
  refine zf_iload_n hC dX11_again_4 rfl 1 rfl ?_
  refine zf_aload_n hC dX11_again_5 rfl 0 rfl ?_
  refine gf_400 hC dX11_again_6 ?_
  refine zf_callV hC (c_X3_inForce l g a0 (gI k 10 0)) mt_X3_inForce wd_518 wd_519 ci_2 ic_2 wd_603 rfl (rm_le hR rfl) rfl rfl (rest := []) rfl (Nat.le_of_ble_eq_true rfl) dX11_again_9 (fun r1 k2 h3 => ?_)
  refine zf_ifb_ne hC (tgt := 17) dX11_again_12 (by decide) (fun h4 => ?_) (fun h4 => ?_)
  · refine zf_aload_n hC dX11_again_17 rfl 0 rfl ?_
    refine gf_410 hC dX11_again_18 ?_
    refine gf_145 hC dX11_again_21 ?_
    refine zf_iload_n hC dX11_again_24 rfl 1 rfl ?_
    refine zf_iald hC (j := 13) ia_13 rfl rfl dX11_again_25 (fun h5 => ?_)
    refine zf_istore hC (LV' := [(4, .int (gA k2 13 (ix a0))), (0, .ref (g.2.1 10)), (1, .int a0), (2, .long a1)]) dX11_again_26 (by decide) rfl ?_
    refine zf_aload_n hC dX11_again_28 rfl 1 rfl ?_
    refine gf_410 hC dX11_again_29 ?_
    refine zf_iload hC dX11_again_32 0 rfl ?_
    refine zf_aload_n hC dX11_again_34 rfl 1 rfl ?_
    refine gf_410 hC dX11_again_35 ?_
    refine gf_148 hC dX11_again_38 ?_
    refine zf_iload_n hC dX11_again_41 rfl 2 rfl ?_
    refine zf_iald hC (j := 14) ia_14 rfl rfl dX11_again_42 (fun h6 => ?_)
    refine zf_aload_n hC dX11_again_43 rfl 1 rfl ?_
    refine gf_410 hC dX11_again_44 ?_
    refine gf_151 hC dX11_again_47 ?_
    refine zf_iload_n hC dX11_again_50 rfl 2 rfl ?_
    refine zf_iald hC (j := 15) ia_15 rfl rfl dX11_again_51 (fun h7 => ?_)
    refine zf_aload_n hC dX11_again_52 rfl 1 rfl ?_
    refine gf_400 hC dX11_again_53 ?_
    refine zf_callV hC (c_X3_add l g (gA k2 13 (ix a0)) (gA k2 14 (ix a0)) (gA k2 15 (ix a0)) (gI k2 10 0)) mt_X3_add wd_583 wd_584 ci_2 ic_2 wd_582 rfl (rm_le hR rfl) rfl rfl (rest := []) rfl (Nat.le_of_ble_eq_true rfl) dX11_again_56 (fun r8 k9 h10 => ?_)
    refine zf_istore hC (LV' := [(5, .int r8), (4, .int (gA k2 13 (ix a0))), (0, .ref (g.2.1 10)), (1, .int a0), (2, .long a1)]) dX11_again_59 (by decide) rfl ?_
    refine zf_iload hC dX11_again_61 0 rfl ?_
    refine zf_iconst hC (v := (-1)) dX11_again_63 rfl ?_
    refine zf_icmp_eq hC (tgt := 100) dX11_again_64 (by decide) (fun h11 => ?_) (fun h11 => ?_)
    · refine zf_iload hC dX11_again_100 0 rfl ?_
      exact zf_iret hC rfl dX11_again_102
    · refine zf_aload_n hC dX11_again_67 rfl 2 rfl ?_
      refine gf_410 hC dX11_again_68 ?_
      refine gf_154 hC dX11_again_71 ?_
      refine zf_iload_n hC dX11_again_74 rfl 3 rfl ?_
      refine zf_aload_n hC dX11_again_75 rfl 2 rfl ?_
      refine gf_400 hC dX11_again_76 ?_
      refine zf_iast hC (j := 17) ia_17 rfl rfl dX11_again_79 (fun h12 => ?_)
      refine zf_nmk (fun k13 => ?_)
      refine zf_aload_n hC dX11_again_80 rfl 2 rfl ?_
      refine gf_410 hC dX11_again_81 ?_
      refine zf_iload hC dX11_again_84 0 rfl ?_
      refine zf_aload_n hC dX11_again_86 rfl 2 rfl ?_
      refine gf_408 hC dX11_again_87 ?_
      refine gf_55 hC dX11_again_90 ?_
      refine zf_iload hC dX11_again_93 1 rfl ?_
      refine zf_iald hC (j := 0) ia_0 rfl rfl dX11_again_95 (fun h14 => ?_)
      refine zf_lload_n hC dX11_again_96 rfl 4 rfl ?_
      refine zf_callV hC (c_X3_drawCurve l g r8 (gA k13 0 (ix (gA k2 13 (ix a0)))) a1) mt_X3_drawCurve wd_587 wd_588 ci_2 ic_2 wd_586 rfl (rm_le hR rfl) rfl rfl (rest := []) rfl (Nat.le_of_ble_eq_true rfl) dX11_again_97 (fun r15 k16 h17 => ?_)
      refine zf_iload hC dX11_again_100 0 rfl ?_
      exact zf_iret hC rfl dX11_again_102
  · refine zf_iconst hC (v := (-1)) dX11_again_15 rfl ?_
    exact zf_iret hC rfl dX11_again_16
/-! LifeKeys.piece -/
theorem dX11_piece_0 : decode cX11_piece 0 = .ok (.aload_n 0, 1) := by decide +kernel
theorem dX11_piece_1 : decode cX11_piece 1 = .ok (.getfield 40, 3) := by decide +kernel
theorem dX11_piece_4 : decode cX11_piece 4 = .ok (.iload_n 1, 1) := by decide +kernel
theorem dX11_piece_5 : decode cX11_piece 5 = .ok (.iload_n 2, 1) := by decide +kernel
theorem dX11_piece_6 : decode cX11_piece 6 = .ok (.invokevirtual 203, 3) := by decide +kernel
theorem dX11_piece_9 : decode cX11_piece 9 = .ok (.ifCond .eq 15, 3) := by decide +kernel
theorem dX11_piece_12 : decode cX11_piece 12 = .ok (.aload_n 0, 1) := by decide +kernel
theorem dX11_piece_13 : decode cX11_piece 13 = .ok (.getfield 40, 3) := by decide +kernel
theorem dX11_piece_16 : decode cX11_piece 16 = .ok (.iload_n 1, 1) := by decide +kernel
theorem dX11_piece_17 : decode cX11_piece 17 = .ok (.iload_n 2, 1) := by decide +kernel
theorem dX11_piece_18 : decode cX11_piece 18 = .ok (.invokevirtual 206, 3) := by decide +kernel
theorem dX11_piece_21 : decode cX11_piece 21 = .ok (.goto 4, 3) := by decide +kernel
theorem dX11_piece_24 : decode cX11_piece 24 = .ok (.iconst (-1), 1) := by decide +kernel
theorem dX11_piece_25 : decode cX11_piece 25 = .ok (.ireturn, 1) := by decide +kernel
def fX11_piece (k : ST) (a0 : Int32) (a1 : Int32) : Option (Int32 × ST) := ob (fX3_isAmong k a0 a1) fun r1 k2 => if r1 = true then ob (fX3_partOf k2 a0 a1) fun r5 k6 => some (r5, k6) else some ((-1), k2)
set_option maxRecDepth 20000 in
theorem c_X11_piece (l : Launch) (g : GT) (a0 : Int32) (a1 : Int32) : CN l yX11_piece cX11_piece 3 (some .int) { frames := 2, cells := 0, slots := 0, locals := 45 } g TK voI [.ref (g.2.1 10), .int a0, .int a1] (fun k => fX11_piece k a0 a1) := by
  refine cn_of (by decide) (Nat.le_of_ble_eq_true rfl) ?_
  intro p e s m args below meth c hC k
  have hC : HC p s m args meth c cX11_piece 3 RX11 (some .int) g := hC
  have hR : 2 ≤ ({ frames := 2, cells := 0, slots := 0, locals := 45 } : Room).frames ∧ 45 ≤ ({ frames := 2, cells := 0, slots := 0, locals := 45 } : Room).locals := ⟨Nat.le_refl _, Nat.le_refl _⟩
  show ZF p l e _ s m args below meth c g TK voI 3 k 0 [(0, .ref (g.2.1 10)), (1, .int a0), (2, .int a1)] [] (fX11_piece k a0 a1)
  unfold fX11_piece
  refine zf_aload_n hC dX11_piece_0 rfl 0 rfl ?_
  refine gf_410 hC dX11_piece_1 ?_
  refine zf_iload_n hC dX11_piece_4 rfl 1 rfl ?_
  refine zf_iload_n hC dX11_piece_5 rfl 2 rfl ?_
  refine zf_callV hC (c_X3_isAmong l g a0 a1) mt_X3_isAmong wd_609 wd_610 ci_2 ic_2 wd_608 rfl (rm_le hR rfl) rfl rfl (rest := []) rfl (Nat.le_of_ble_eq_true rfl) dX11_piece_6 (fun r1 k2 h3 => ?_)
  refine zf_ifb_eq hC (tgt := 24) dX11_piece_9 (by decide) (fun h4 => ?_) (fun h4 => ?_)
  · refine zf_aload_n hC dX11_piece_12 rfl 0 rfl ?_
    refine gf_410 hC dX11_piece_13 ?_
    refine zf_iload_n hC dX11_piece_16 rfl 1 rfl ?_
    refine zf_iload_n hC dX11_piece_17 rfl 2 rfl ?_
    refine zf_callV hC (c_X3_partOf l g a0 a1) mt_X3_partOf wd_616 wd_617 ci_2 ic_2 wd_615 rfl (rm_le hR rfl) rfl rfl (rest := []) rfl (Nat.le_of_ble_eq_true rfl) dX11_piece_18 (fun r5 k6 h7 => ?_)
    refine zf_goto hC (tgt := 25) dX11_piece_21 (by decide) ?_
    exact zf_iret hC rfl dX11_piece_25
  · refine zf_iconst hC (v := (-1)) dX11_piece_24 rfl ?_
    exact zf_iret hC rfl dX11_piece_25
/-! LifeKeys.checks -/
theorem dX11_checks_0 : decode cX11_checks 0 = .ok (.aload_n 0, 1) := by decide +kernel
theorem dX11_checks_1 : decode cX11_checks 1 = .ok (.getfield 40, 3) := by decide +kernel
theorem dX11_checks_4 : decode cX11_checks 4 = .ok (.iload_n 1, 1) := by decide +kernel
theorem dX11_checks_5 : decode cX11_checks 5 = .ok (.invokevirtual 209, 3) := by decide +kernel
theorem dX11_checks_8 : decode cX11_checks 8 = .ok (.ifCond .eq 20, 3) := by decide +kernel
theorem dX11_checks_11 : decode cX11_checks 11 = .ok (.iload_n 2, 1) := by decide +kernel
theorem dX11_checks_12 : decode cX11_checks 12 = .ok (.ifCond .lt 16, 3) := by decide +kernel
theorem dX11_checks_15 : decode cX11_checks 15 = .ok (.iload_n 2, 1) := by decide +kernel
theorem dX11_checks_16 : decode cX11_checks 16 = .ok (.aload_n 0, 1) := by decide +kernel
theorem dX11_checks_17 : decode cX11_checks 17 = .ok (.getfield 40, 3) := by decide +kernel
theorem dX11_checks_20 : decode cX11_checks 20 = .ok (.getfield 197, 3) := by decide +kernel
theorem dX11_checks_23 : decode cX11_checks 23 = .ok (.iload_n 1, 1) := by decide +kernel
theorem dX11_checks_24 : decode cX11_checks 24 = .ok (.iaload, 1) := by decide +kernel
theorem dX11_checks_25 : decode cX11_checks 25 = .ok (.if_icmp .lt 5, 3) := by decide +kernel
theorem dX11_checks_28 : decode cX11_checks 28 = .ok (.iconst (-1), 1) := by decide +kernel
theorem dX11_checks_29 : decode cX11_checks 29 = .ok (.ireturn, 1) := by decide +kernel
theorem dX11_checks_30 : decode cX11_checks 30 = .ok (.aload_n 0, 1) := by decide +kernel
theorem dX11_checks_31 : decode cX11_checks 31 = .ok (.getfield 40, 3) := by decide +kernel
theorem dX11_checks_34 : decode cX11_checks 34 = .ok (.iload_n 1, 1) := by decide +kernel
theorem dX11_checks_35 : decode cX11_checks 35 = .ok (.iload_n 2, 1) := by decide +kernel
theorem dX11_checks_36 : decode cX11_checks 36 = .ok (.invokevirtual 210, 3) := by decide +kernel
theorem dX11_checks_39 : decode cX11_checks 39 = .ok (.ireturn, 1) := by decide +kernel
def fX11_checks (k : ST) (a0 : Int32) (a1 : Int32) : Option (Int32 × ST) := ob (fX3_knows k a0) fun r1 k2 => if r1 = true then if a1 < 0 then some ((-1), k2) else ck (inb a0 40) (if a1 < (gA k2 15 (ix a0)) then ob (fX3_checkOf k2 a0 a1) fun r8 k9 => some (r8, k9) else some ((-1), k2)) else some ((-1), k2)
set_option maxRecDepth 20000 in
theorem c_X11_checks (l : Launch) (g : GT) (a0 : Int32) (a1 : Int32) : CN l yX11_checks cX11_checks 3 (some .int) { frames := 4, cells := 0, slots := 0, locals := 87 } g TK voI [.ref (g.2.1 10), .int a0, .int a1] (fun k => fX11_checks k a0 a1) := by
  refine cn_of (by decide) (Nat.le_of_ble_eq_true rfl) ?_
  intro p e s m args below meth c hC k
  have hC : HC p s m args meth c cX11_checks 3 RX11 (some .int) g := hC
  have hR : 4 ≤ ({ frames := 4, cells := 0, slots := 0, locals := 87 } : Room).frames ∧ 87 ≤ ({ frames := 4, cells := 0, slots := 0, locals := 87 } : Room).locals := ⟨Nat.le_refl _, Nat.le_refl _⟩
  show ZF p l e _ s m args below meth c g TK voI 3 k 0 [(0, .ref (g.2.1 10)), (1, .int a0), (2, .int a1)] [] (fX11_checks k a0 a1)
  unfold fX11_checks
  refine zf_aload_n hC dX11_checks_0 rfl 0 rfl ?_
  refine gf_410 hC dX11_checks_1 ?_
  refine zf_iload_n hC dX11_checks_4 rfl 1 rfl ?_
  refine zf_callV hC (c_X3_knows l g a0) mt_X3_knows wd_522 wd_523 ci_2 ic_2 wd_629 rfl (rm_le hR rfl) rfl rfl (rest := []) rfl (Nat.le_of_ble_eq_true rfl) dX11_checks_5 (fun r1 k2 h3 => ?_)
  refine zf_ifb_eq hC (tgt := 28) dX11_checks_8 (by decide) (fun h4 => ?_) (fun h4 => ?_)
  · refine zf_iload_n hC dX11_checks_11 rfl 2 rfl ?_
    refine zf_if_lt hC (tgt := 28) dX11_checks_12 (by decide) (fun h5 => ?_) (fun h5 => ?_)
    · refine zf_iconst hC (v := (-1)) dX11_checks_28 rfl ?_
      exact zf_iret hC rfl dX11_checks_29
    · refine zf_iload_n hC dX11_checks_15 rfl 2 rfl ?_
      refine zf_aload_n hC dX11_checks_16 rfl 0 rfl ?_
      refine gf_410 hC dX11_checks_17 ?_
      refine gf_151 hC dX11_checks_20 ?_
      refine zf_iload_n hC dX11_checks_23 rfl 1 rfl ?_
      refine zf_iald hC (j := 15) ia_15 rfl rfl dX11_checks_24 (fun h6 => ?_)
      refine zf_icmp_lt hC (tgt := 30) dX11_checks_25 (by decide) (fun h7 => ?_) (fun h7 => ?_)
      · refine zf_aload_n hC dX11_checks_30 rfl 0 rfl ?_
        refine gf_410 hC dX11_checks_31 ?_
        refine zf_iload_n hC dX11_checks_34 rfl 1 rfl ?_
        refine zf_iload_n hC dX11_checks_35 rfl 2 rfl ?_
        refine zf_callV hC (c_X3_checkOf l g a0 a1) mt_X3_checkOf wd_631 wd_632 ci_2 ic_2 wd_630 rfl (rm_le hR rfl) rfl rfl (rest := []) rfl (Nat.le_of_ble_eq_true rfl) dX11_checks_36 (fun r8 k9 h10 => ?_)
        exact zf_iret hC rfl dX11_checks_39
      · refine zf_iconst hC (v := (-1)) dX11_checks_28 rfl ?_
        exact zf_iret hC rfl dX11_checks_29
  · refine zf_iconst hC (v := (-1)) dX11_checks_28 rfl ?_
    exact zf_iret hC rfl dX11_checks_29
/-! LifeKeys.fits -/
theorem dX11_fits_0 : decode cX11_fits 0 = .ok (.aload_n 0, 1) := by decide +kernel
theorem dX11_fits_1 : decode cX11_fits 1 = .ok (.getfield 40, 3) := by decide +kernel
theorem dX11_fits_4 : decode cX11_fits 4 = .ok (.iload_n 1, 1) := by decide +kernel
theorem dX11_fits_5 : decode cX11_fits 5 = .ok (.iload_n 2, 1) := by decide +kernel
theorem dX11_fits_6 : decode cX11_fits 6 = .ok (.invokevirtual 203, 3) := by decide +kernel
theorem dX11_fits_9 : decode cX11_fits 9 = .ok (.ifCond .eq 10, 3) := by decide +kernel
theorem dX11_fits_12 : decode cX11_fits 12 = .ok (.iload_n 3, 1) := by decide +kernel
theorem dX11_fits_13 : decode cX11_fits 13 = .ok (.invokestatic 213, 3) := by decide +kernel
theorem dX11_fits_16 : decode cX11_fits 16 = .ok (.ifCond .ne 5, 3) := by decide +kernel
theorem dX11_fits_19 : decode cX11_fits 19 = .ok (.iconst (-1), 1) := by decide +kernel
theorem dX11_fits_20 : decode cX11_fits 20 = .ok (.ireturn, 1) := by decide +kernel
theorem dX11_fits_21 : decode cX11_fits 21 = .ok (.iload_n 3, 1) := by decide +kernel
theorem dX11_fits_22 : decode cX11_fits 22 = .ok (.invokestatic 216, 3) := by decide +kernel
theorem dX11_fits_25 : decode cX11_fits 25 = .ok (.aload_n 0, 1) := by decide +kernel
theorem dX11_fits_26 : decode cX11_fits 26 = .ok (.getfield 40, 3) := by decide +kernel
theorem dX11_fits_29 : decode cX11_fits 29 = .ok (.iload_n 1, 1) := by decide +kernel
theorem dX11_fits_30 : decode cX11_fits 30 = .ok (.iload_n 2, 1) := by decide +kernel
theorem dX11_fits_31 : decode cX11_fits 31 = .ok (.invokevirtual 219, 3) := by decide +kernel
theorem dX11_fits_34 : decode cX11_fits 34 = .ok (.if_icmp .ne 7, 3) := by decide +kernel
theorem dX11_fits_37 : decode cX11_fits 37 = .ok (.iconst 1, 1) := by decide +kernel
theorem dX11_fits_38 : decode cX11_fits 38 = .ok (.goto 4, 3) := by decide +kernel
theorem dX11_fits_41 : decode cX11_fits 41 = .ok (.iconst 0, 1) := by decide +kernel
theorem dX11_fits_42 : decode cX11_fits 42 = .ok (.ireturn, 1) := by decide +kernel
def fX11_fits (k : ST) (a0 : Int32) (a1 : Int32) (a2 : Int32) : Option (Int32 × ST) := ob (fX3_isAmong k a0 a1) fun r1 k2 => if r1 = true then ob (fX0_isNumber k2 a2) fun r5 k6 => if r5 = true then ob (fX0_powerOf4 k6 a2) fun r9 k10 => ob (fX3_checkedPart k10 a0 a1) fun r12 k13 => if r9 = r12 then some (1, k13) else some (0, k13) else some ((-1), k6) else some ((-1), k2)
set_option maxRecDepth 20000 in
theorem c_X11_fits (l : Launch) (g : GT) (a0 : Int32) (a1 : Int32) (a2 : Int32) : CN l yX11_fits cX11_fits 4 (some .int) { frames := 5, cells := 0, slots := 0, locals := 112 } g TK voI [.ref (g.2.1 10), .int a0, .int a1, .int a2] (fun k => fX11_fits k a0 a1 a2) := by
  refine cn_of (by decide) (Nat.le_of_ble_eq_true rfl) ?_
  intro p e s m args below meth c hC k
  have hC : HC p s m args meth c cX11_fits 4 RX11 (some .int) g := hC
  have hR : 5 ≤ ({ frames := 5, cells := 0, slots := 0, locals := 112 } : Room).frames ∧ 112 ≤ ({ frames := 5, cells := 0, slots := 0, locals := 112 } : Room).locals := ⟨Nat.le_refl _, Nat.le_refl _⟩
  show ZF p l e _ s m args below meth c g TK voI 4 k 0 [(0, .ref (g.2.1 10)), (1, .int a0), (2, .int a1), (3, .int a2)] [] (fX11_fits k a0 a1 a2)
  unfold fX11_fits
  refine zf_aload_n hC dX11_fits_0 rfl 0 rfl ?_
  refine gf_410 hC dX11_fits_1 ?_
  refine zf_iload_n hC dX11_fits_4 rfl 1 rfl ?_
  refine zf_iload_n hC dX11_fits_5 rfl 2 rfl ?_
  refine zf_callV hC (c_X3_isAmong l g a0 a1) mt_X3_isAmong wd_609 wd_610 ci_2 ic_2 wd_608 rfl (rm_le hR rfl) rfl rfl (rest := []) rfl (Nat.le_of_ble_eq_true rfl) dX11_fits_6 (fun r1 k2 h3 => ?_)
  refine zf_ifb_eq hC (tgt := 19) dX11_fits_9 (by decide) (fun h4 => ?_) (fun h4 => ?_)
  · refine zf_iload_n hC dX11_fits_12 rfl 3 rfl ?_
    refine zf_callS hC (c_X0_isNumber l g TK a2) mt_X0_isNumber wd_648 wd_647 rfl (rm_le hR rfl) rfl rfl (rest := []) rfl (Nat.le_of_ble_eq_true rfl) dX11_fits_13 (fun r5 k6 h7 => ?_)
    refine zf_ifb_ne hC (tgt := 21) dX11_fits_16 (by decide) (fun h8 => ?_) (fun h8 => ?_)
    · refine zf_iload_n hC dX11_fits_21 rfl 3 rfl ?_
      refine zf_callS hC (c_X0_powerOf4 l g TK a2) mt_X0_powerOf4 wd_635 wd_650 rfl (rm_le hR rfl) rfl rfl (rest := []) rfl (Nat.le_of_ble_eq_true rfl) dX11_fits_22 (fun r9 k10 h11 => ?_)
      refine zf_aload_n hC dX11_fits_25 rfl 0 rfl ?_
      refine gf_410 hC dX11_fits_26 ?_
      refine zf_iload_n hC dX11_fits_29 rfl 1 rfl ?_
      refine zf_iload_n hC dX11_fits_30 rfl 2 rfl ?_
      refine zf_callV hC (c_X3_checkedPart l g a0 a1) mt_X3_checkedPart wd_652 wd_653 ci_2 ic_2 wd_651 rfl (rm_le hR rfl) rfl rfl (rest := [.int r9]) rfl (Nat.le_of_ble_eq_true rfl) dX11_fits_31 (fun r12 k13 h14 => ?_)
      refine zf_icmp_ne hC (tgt := 41) dX11_fits_34 (by decide) (fun h15 => ?_) (fun h15 => ?_)
      · refine zf_iconst hC (v := 1) dX11_fits_37 rfl ?_
        refine zf_goto hC (tgt := 42) dX11_fits_38 (by decide) ?_
        exact zf_iret hC rfl dX11_fits_42
      · refine zf_iconst hC (v := 0) dX11_fits_41 rfl ?_
        exact zf_iret hC rfl dX11_fits_42
    · refine zf_iconst hC (v := (-1)) dX11_fits_19 rfl ?_
      exact zf_iret hC rfl dX11_fits_20
  · refine zf_iconst hC (v := (-1)) dX11_fits_19 rfl ?_
    exact zf_iret hC rfl dX11_fits_20
/-! LifeKeys.lay -/
theorem dX11_lay_0 : decode cX11_lay 0 = .ok (.aload_n 0, 1) := by decide +kernel
theorem dX11_lay_1 : decode cX11_lay 1 = .ok (.iload_n 1, 1) := by decide +kernel
theorem dX11_lay_2 : decode cX11_lay 2 = .ok (.invokevirtual 157, 3) := by decide +kernel
theorem dX11_lay_5 : decode cX11_lay 5 = .ok (.ifCond .eq 21, 3) := by decide +kernel
theorem dX11_lay_8 : decode cX11_lay 8 = .ok (.iload_n 2, 1) := by decide +kernel
theorem dX11_lay_9 : decode cX11_lay 9 = .ok (.invokestatic 213, 3) := by decide +kernel
theorem dX11_lay_12 : decode cX11_lay 12 = .ok (.ifCond .eq 14, 3) := by decide +kernel
theorem dX11_lay_15 : decode cX11_lay 15 = .ok (.aload_n 0, 1) := by decide +kernel
theorem dX11_lay_16 : decode cX11_lay 16 = .ok (.getfield 222, 3) := by decide +kernel
theorem dX11_lay_19 : decode cX11_lay 19 = .ok (.iload_n 1, 1) := by decide +kernel
theorem dX11_lay_20 : decode cX11_lay 20 = .ok (.invokestatic 225, 3) := by decide +kernel
theorem dX11_lay_23 : decode cX11_lay 23 = .ok (.ifCond .eq 5, 3) := by decide +kernel
theorem dX11_lay_26 : decode cX11_lay 26 = .ok (.iconst (-1), 1) := by decide +kernel
theorem dX11_lay_27 : decode cX11_lay 27 = .ok (.ireturn, 1) := by decide +kernel
theorem dX11_lay_28 : decode cX11_lay 28 = .ok (.aload_n 0, 1) := by decide +kernel
theorem dX11_lay_29 : decode cX11_lay 29 = .ok (.getfield 9, 3) := by decide +kernel
theorem dX11_lay_32 : decode cX11_lay 32 = .ok (.iload_n 1, 1) := by decide +kernel
theorem dX11_lay_33 : decode cX11_lay 33 = .ok (.iload_n 2, 1) := by decide +kernel
theorem dX11_lay_34 : decode cX11_lay 34 = .ok (.iastore, 1) := by decide +kernel
theorem dX11_lay_35 : decode cX11_lay 35 = .ok (.aload_n 0, 1) := by decide +kernel
theorem dX11_lay_36 : decode cX11_lay 36 = .ok (.dup, 1) := by decide +kernel
theorem dX11_lay_37 : decode cX11_lay 37 = .ok (.getfield 222, 3) := by decide +kernel
theorem dX11_lay_40 : decode cX11_lay 40 = .ok (.iconst 1, 1) := by decide +kernel
theorem dX11_lay_41 : decode cX11_lay 41 = .ok (.iload_n 1, 1) := by decide +kernel
theorem dX11_lay_42 : decode cX11_lay 42 = .ok (.ishl, 1) := by decide +kernel
theorem dX11_lay_43 : decode cX11_lay 43 = .ok (.ior, 1) := by decide +kernel
theorem dX11_lay_44 : decode cX11_lay 44 = .ok (.putfield 222, 3) := by decide +kernel
theorem dX11_lay_47 : decode cX11_lay 47 = .ok (.aload_n 0, 1) := by decide +kernel
theorem dX11_lay_48 : decode cX11_lay 48 = .ok (.getfield 222, 3) := by decide +kernel
theorem dX11_lay_51 : decode cX11_lay 51 = .ok (.invokestatic 178, 3) := by decide +kernel
theorem dX11_lay_54 : decode cX11_lay 54 = .ok (.ireturn, 1) := by decide +kernel
def fX11_lay (k : ST) (a0 : Int32) (a1 : Int32) : Option (Int32 × ST) := ob (fX11_isHolder k a0) fun r1 k2 => if r1 = true then ob (fX0_isNumber k2 a1) fun r5 k6 => if r5 = true then ob (fX11_hasBit k6 (gI k6 10 3) a0) fun r9 k10 => if r9 = true then some ((-1), k10) else ck (inb a0 12) (nm (sA k10 57 (ix a0) a1) fun k14 => nm (sI k14 10 3 ((gI k14 10 3) ||| (j_shl 1 a0))) fun k15 => ob (fJ6_bitCount_0f7a4 k15 (gI k15 10 3)) fun r16 k17 => some (r16, k17)) else some ((-1), k6) else some ((-1), k2)
set_option maxRecDepth 20000 in
theorem c_X11_lay (l : Launch) (g : GT) (a0 : Int32) (a1 : Int32) : CN l yX11_lay cX11_lay 3 (some .int) { frames := 1, cells := 0, slots := 0, locals := 21 } g TK voI [.ref (g.2.1 10), .int a0, .int a1] (fun k => fX11_lay k a0 a1) := by
  refine cn_of (by decide) (Nat.le_of_ble_eq_true rfl) ?_
  intro p e s m args below meth c hC k
  have hC : HC p s m args meth c cX11_lay 3 RX11 (some .int) g := hC
  have hR : 1 ≤ ({ frames := 1, cells := 0, slots := 0, locals := 21 } : Room).frames ∧ 21 ≤ ({ frames := 1, cells := 0, slots := 0, locals := 21 } : Room).locals := ⟨Nat.le_refl _, Nat.le_refl _⟩
  show ZF p l e _ s m args below meth c g TK voI 3 k 0 [(0, .ref (g.2.1 10)), (1, .int a0), (2, .int a1)] [] (fX11_lay k a0 a1)
  unfold fX11_lay
  refine zf_aload_n hC dX11_lay_0 rfl 0 rfl ?_
  refine zf_iload_n hC dX11_lay_1 rfl 1 rfl ?_
  refine zf_callV hC (c_X11_isHolder l g a0) mt_X11_isHolder wd_531 sp_0 ci_10 ic_10 wd_529 rfl (rm_le hR rfl) rfl rfl (rest := []) rfl (Nat.le_of_ble_eq_true rfl) dX11_lay_2 (fun r1 k2 h3 => ?_)
  refine zf_ifb_eq hC (tgt := 26) dX11_lay_5 (by decide) (fun h4 => ?_) (fun h4 => ?_)
  · refine zf_iload_n hC dX11_lay_8 rfl 2 rfl ?_
    refine zf_callS hC (c_X0_isNumber l g TK a1) mt_X0_isNumber wd_648 wd_647 rfl (rm_le hR rfl) rfl rfl (rest := []) rfl (Nat.le_of_ble_eq_true rfl) dX11_lay_9 (fun r5 k6 h7 => ?_)
    refine zf_ifb_eq hC (tgt := 26) dX11_lay_12 (by decide) (fun h8 => ?_) (fun h8 => ?_)
    · refine zf_aload_n hC dX11_lay_15 rfl 0 rfl ?_
      refine gf_403 hC dX11_lay_16 ?_
      refine zf_iload_n hC dX11_lay_19 rfl 1 rfl ?_
      refine zf_callS hC (c_X11_hasBit l g TK (gI k6 10 3) a0) mt_X11_hasBit wd_613 wd_662 rfl (rm_le hR rfl) rfl rfl (rest := []) rfl (Nat.le_of_ble_eq_true rfl) dX11_lay_20 (fun r9 k10 h11 => ?_)
      refine zf_ifb_eq hC (tgt := 28) dX11_lay_23 (by decide) (fun h12 => ?_) (fun h12 => ?_)
      · refine zf_iconst hC (v := (-1)) dX11_lay_26 rfl ?_
        exact zf_iret hC rfl dX11_lay_27
      · refine zf_aload_n hC dX11_lay_28 rfl 0 rfl ?_
        refine gf_404 hC dX11_lay_29 ?_
        refine zf_iload_n hC dX11_lay_32 rfl 1 rfl ?_
        refine zf_iload_n hC dX11_lay_33 rfl 2 rfl ?_
        refine zf_iast hC (j := 57) ia_57 rfl rfl dX11_lay_34 (fun h13 => ?_)
        refine zf_nmk (fun k14 => ?_)
        refine zf_aload_n hC dX11_lay_35 rfl 0 rfl ?_
        refine zf_dup hC dX11_lay_36 rfl ?_
        refine gf_403 hC dX11_lay_37 ?_
        refine zf_iconst hC (v := 1) dX11_lay_40 rfl ?_
        refine zf_iload_n hC dX11_lay_41 rfl 1 rfl ?_
        refine zf_ishl hC dX11_lay_42 ?_
        refine zf_ior hC dX11_lay_43 ?_
        refine pf_403 hC dX11_lay_44 ?_
        refine zf_nmk (fun k15 => ?_)
        refine zf_aload_n hC dX11_lay_47 rfl 0 rfl ?_
        refine gf_403 hC dX11_lay_48 ?_
        refine zf_callS hC (c_J6_bitCount_0f7a4 l g TK (gI k15 10 3)) mt_J6_bitCount_0f7a4 wd_577 wd_576 rfl (rm_le hR rfl) rfl rfl (rest := []) rfl (Nat.le_of_ble_eq_true rfl) dX11_lay_51 (fun r16 k17 h18 => ?_)
        exact zf_iret hC rfl dX11_lay_54
    · refine zf_iconst hC (v := (-1)) dX11_lay_26 rfl ?_
      exact zf_iret hC rfl dX11_lay_27
  · refine zf_iconst hC (v := (-1)) dX11_lay_26 rfl ?_
    exact zf_iret hC rfl dX11_lay_27
/-! LifeKeys.join -/
theorem dX11_join_0 : decode cX11_join 0 = .ok (.aload_n 0, 1) := by decide +kernel
theorem dX11_join_1 : decode cX11_join 1 = .ok (.getfield 222, 3) := by decide +kernel
theorem dX11_join_4 : decode cX11_join 4 = .ok (.ifCond .ne 5, 3) := by decide +kernel
theorem dX11_join_7 : decode cX11_join 7 = .ok (.iconst (-1), 1) := by decide +kernel
theorem dX11_join_8 : decode cX11_join 8 = .ok (.ireturn, 1) := by decide +kernel
theorem dX11_join_9 : decode cX11_join 9 = .ok (.iconst 0, 1) := by decide +kernel
theorem dX11_join_10 : decode cX11_join 10 = .ok (.istore_n 1, 1) := by decide +kernel
theorem dX11_join_11 : decode cX11_join 11 = .ok (.iconst 0, 1) := by decide +kernel
theorem dX11_join_12 : decode cX11_join 12 = .ok (.istore_n 2, 1) := by decide +kernel
theorem dX11_join_13 : decode cX11_join 13 = .ok (.iload_n 2, 1) := by decide +kernel
theorem dX11_join_14 : decode cX11_join 14 = .ok (.bipush 12, 2) := by decide +kernel
theorem dX11_join_16 : decode cX11_join 16 = .ok (.if_icmp .ge 42, 3) := by decide +kernel
theorem dX11_join_19 : decode cX11_join 19 = .ok (.aload_n 0, 1) := by decide +kernel
theorem dX11_join_20 : decode cX11_join 20 = .ok (.getfield 222, 3) := by decide +kernel
theorem dX11_join_23 : decode cX11_join 23 = .ok (.iload_n 2, 1) := by decide +kernel
theorem dX11_join_24 : decode cX11_join 24 = .ok (.invokestatic 225, 3) := by decide +kernel
theorem dX11_join_27 : decode cX11_join 27 = .ok (.ifCond .eq 25, 3) := by decide +kernel
theorem dX11_join_30 : decode cX11_join 30 = .ok (.iload_n 1, 1) := by decide +kernel
theorem dX11_join_31 : decode cX11_join 31 = .ok (.aload_n 0, 1) := by decide +kernel
theorem dX11_join_32 : decode cX11_join 32 = .ok (.getfield 9, 3) := by decide +kernel
theorem dX11_join_35 : decode cX11_join 35 = .ok (.iload_n 2, 1) := by decide +kernel
theorem dX11_join_36 : decode cX11_join 36 = .ok (.iaload, 1) := by decide +kernel
theorem dX11_join_37 : decode cX11_join 37 = .ok (.iload_n 2, 1) := by decide +kernel
theorem dX11_join_38 : decode cX11_join 38 = .ok (.aload_n 0, 1) := by decide +kernel
theorem dX11_join_39 : decode cX11_join 39 = .ok (.getfield 222, 3) := by decide +kernel
theorem dX11_join_42 : decode cX11_join 42 = .ok (.invokestatic 228, 3) := by decide +kernel
theorem dX11_join_45 : decode cX11_join 45 = .ok (.invokestatic 231, 3) := by decide +kernel
theorem dX11_join_48 : decode cX11_join 48 = .ok (.invokestatic 234, 3) := by decide +kernel
theorem dX11_join_51 : decode cX11_join 51 = .ok (.istore_n 1, 1) := by decide +kernel
theorem dX11_join_52 : decode cX11_join 52 = .ok (.iinc 2 1, 3) := by decide +kernel
theorem dX11_join_55 : decode cX11_join 55 = .ok (.goto (-42), 3) := by decide +kernel
theorem dX11_join_58 : decode cX11_join 58 = .ok (.aload_n 0, 1) := by decide +kernel
theorem dX11_join_59 : decode cX11_join 59 = .ok (.iconst 0, 1) := by decide +kernel
theorem dX11_join_60 : decode cX11_join 60 = .ok (.putfield 222, 3) := by decide +kernel
theorem dX11_join_63 : decode cX11_join 63 = .ok (.iload_n 1, 1) := by decide +kernel
theorem dX11_join_64 : decode cX11_join 64 = .ok (.ireturn, 1) := by decide +kernel
def lpX11_join_13  : Nat → Int32 → Int32 → ST → (Int32 → Int32 → ST → Option (Int32 × ST)) → Option (Int32 × ST)
  | 0, _, _, _, _ => none
  | n + 1, v1, v2, k, cont => if 12 ≤ v2 then cont v1 v2 k else ob (fX11_hasBit k (gI k 10 3) v2) fun r3 k4 => if r3 = true then ck (inb v2 12) (ob (fX0_weight k4 v2 (gI k4 10 3)) fun r8 k9 => ob (fX0_times k9 (gA k4 57 (ix v2)) r8) fun r11 k12 => ob (fX0_sum k12 v1 r11) fun r14 k15 => lpX11_join_13 n r14 (v2 + 1) k15 cont) else lpX11_join_13 n v1 (v2 + 1) k4 cont
set_option maxRecDepth 20000 in
theorem zlpX11_join_13 {p : Program} {l : Launch} {e : Env} {R : Room} {s : State} {m : MethodId} {args : Array Value} {below : List Frame} {meth : Method} {c : Code} {g : GT} (hC : HC p s m args meth c cX11_join 3 RX11 (some .int) g) (hR : 3 ≤ R.frames ∧ 68 ≤ R.locals)   {cont : Int32 → Int32 → ST → Option (Int32 × ST)} (hk : ∀ (v1 : Int32) (v2 : Int32) (k : ST), ZF p l e R s m args below meth c g TK voI 3 k 58 [(0, .ref (g.2.1 10)), (1, .int v1), (2, .int v2)] [] (cont v1 v2 k)) : ∀ (n : Nat) (v1 : Int32) (v2 : Int32) (k : ST), ZF p l e R s m args below meth c g TK voI 3 k 13 [(0, .ref (g.2.1 10)), (1, .int v1), (2, .int v2)] [] (lpX11_join_13 n v1 v2 k cont) := by
  intro n
  induction n with
  | zero => intros; exact zf_none
  | succ n ih =>
    intro v1 v2 k
    rw [lpX11_join_13]
    refine zf_iload_n hC dX11_join_13 rfl 2 rfl ?_
    refine zf_bipush hC (v := 12) dX11_join_14 rfl ?_
    refine zf_icmp_ge hC (tgt := 58) dX11_join_16 (by decide) (fun h2 => ?_) (fun h2 => ?_)
    · refine zf_lv (LV' := [(0, .ref (g.2.1 10)), (1, .int v1), (2, .int v2)]) [0, 1, 2] rfl ?_
      exact hk v1 v2 k
    · refine zf_aload_n hC dX11_join_19 rfl 0 rfl ?_
      refine gf_403 hC dX11_join_20 ?_
      refine zf_iload_n hC dX11_join_23 rfl 2 rfl ?_
      refine zf_callS hC (c_X11_hasBit l g TK (gI k 10 3) v2) mt_X11_hasBit wd_613 wd_662 rfl (rm_le hR rfl) rfl rfl (rest := []) rfl (Nat.le_of_ble_eq_true rfl) dX11_join_24 (fun r3 k4 h5 => ?_)
      refine zf_ifb_eq hC (tgt := 52) dX11_join_27 (by decide) (fun h6 => ?_) (fun h6 => ?_)
      · refine zf_iload_n hC dX11_join_30 rfl 1 rfl ?_
        refine zf_aload_n hC dX11_join_31 rfl 0 rfl ?_
        refine gf_404 hC dX11_join_32 ?_
        refine zf_iload_n hC dX11_join_35 rfl 2 rfl ?_
        refine zf_iald hC (j := 57) ia_57 rfl rfl dX11_join_36 (fun h7 => ?_)
        refine zf_iload_n hC dX11_join_37 rfl 2 rfl ?_
        refine zf_aload_n hC dX11_join_38 rfl 0 rfl ?_
        refine gf_403 hC dX11_join_39 ?_
        refine zf_callS hC (c_X0_weight l g TK v2 (gI k4 10 3)) mt_X0_weight wd_668 wd_667 rfl (rm_le hR rfl) rfl rfl (rest := [.int (gA k4 57 (ix v2)), .int v1]) rfl (Nat.le_of_ble_eq_true rfl) dX11_join_42 (fun r8 k9 h10 => ?_)
        refine zf_callS hC (c_X0_times l g TK (gA k4 57 (ix v2)) r8) mt_X0_times wd_620 wd_678 rfl (rm_le hR rfl) rfl rfl (rest := [.int v1]) rfl (Nat.le_of_ble_eq_true rfl) dX11_join_45 (fun r11 k12 h13 => ?_)
        refine zf_callS hC (c_X0_sum l g TK v1 r11) mt_X0_sum wd_623 wd_679 rfl (rm_le hR rfl) rfl rfl (rest := []) rfl (Nat.le_of_ble_eq_true rfl) dX11_join_48 (fun r14 k15 h16 => ?_)
        refine zf_istore_n hC (LV' := [(1, .int r14), (0, .ref (g.2.1 10)), (2, .int v2)]) dX11_join_51 rfl (by decide) rfl ?_
        refine zf_iinc hC (q := 2) (v := v2 + 1) (LV' := [(2, .int (v2 + 1)), (1, .int r14), (0, .ref (g.2.1 10))]) dX11_join_52 rfl rfl (by decide) rfl ?_
        refine zf_goto hC (tgt := 13) dX11_join_55 (by decide) ?_
        refine zf_lv (LV' := [(0, .ref (g.2.1 10)), (1, .int r14), (2, .int (v2 + 1))]) [2, 1, 0] rfl ?_
        exact ih r14 (v2 + 1) k15
      · refine zf_iinc hC (q := 2) (v := v2 + 1) (LV' := [(2, .int (v2 + 1)), (0, .ref (g.2.1 10)), (1, .int v1)]) dX11_join_52 rfl rfl (by decide) rfl ?_
        refine zf_goto hC (tgt := 13) dX11_join_55 (by decide) ?_
        refine zf_lv (LV' := [(0, .ref (g.2.1 10)), (1, .int v1), (2, .int (v2 + 1))]) [1, 2, 0] rfl ?_
        exact ih v1 (v2 + 1) k4
def fX11_join (k : ST)  : Option (Int32 × ST) := if (gI k 10 3) = 0 then some ((-1), k) else lpX11_join_13 FU 0 0 k fun y17 y18 k19 => nm (sI k19 10 3 0) fun k20 => some (y17, k20)
set_option maxRecDepth 20000 in
theorem c_X11_join (l : Launch) (g : GT)  : CN l yX11_join cX11_join 3 (some .int) { frames := 3, cells := 0, slots := 0, locals := 68 } g TK voI [.ref (g.2.1 10)] (fun k => fX11_join k) := by
  refine cn_of (by decide) (Nat.le_of_ble_eq_true rfl) ?_
  intro p e s m args below meth c hC k
  have hC : HC p s m args meth c cX11_join 3 RX11 (some .int) g := hC
  have hR : 3 ≤ ({ frames := 3, cells := 0, slots := 0, locals := 68 } : Room).frames ∧ 68 ≤ ({ frames := 3, cells := 0, slots := 0, locals := 68 } : Room).locals := ⟨Nat.le_refl _, Nat.le_refl _⟩
  show ZF p l e _ s m args below meth c g TK voI 3 k 0 [(0, .ref (g.2.1 10))] [] (fX11_join k)
  unfold fX11_join
  refine zf_aload_n hC dX11_join_0 rfl 0 rfl ?_
  refine gf_403 hC dX11_join_1 ?_
  refine zf_if_ne hC (tgt := 9) dX11_join_4 (by decide) (fun h1 => ?_) (fun h1 => ?_)
  · refine zf_iconst hC (v := (-1)) dX11_join_7 rfl ?_
    exact zf_iret hC rfl dX11_join_8
  · refine zf_iconst hC (v := 0) dX11_join_9 rfl ?_
    refine zf_istore_n hC (LV' := [(1, .int 0), (0, .ref (g.2.1 10))]) dX11_join_10 rfl (by decide) rfl ?_
    refine zf_iconst hC (v := 0) dX11_join_11 rfl ?_
    refine zf_istore_n hC (LV' := [(2, .int 0), (1, .int 0), (0, .ref (g.2.1 10))]) dX11_join_12 rfl (by decide) rfl ?_
    refine zf_lv (LV' := [(0, .ref (g.2.1 10)), (1, .int 0), (2, .int 0)]) [2, 1, 0] rfl ?_
    refine zlpX11_join_13 hC hR (fun y17 y18 k19 => ?_) FU 0 0 k
    refine zf_aload_n hC dX11_join_58 rfl 0 rfl ?_
    refine zf_iconst hC (v := 0) dX11_join_59 rfl ?_
    refine pf_403 hC dX11_join_60 ?_
    refine zf_nmk (fun k20 => ?_)
    refine zf_iload_n hC dX11_join_63 rfl 1 rfl ?_
    exact zf_iret hC rfl dX11_join_64
/-! LifeKeys.left -/
theorem dX11_left_0 : decode cX11_left 0 = .ok (.aload_n 0, 1) := by decide +kernel
theorem dX11_left_1 : decode cX11_left 1 = .ok (.getfield 40, 3) := by decide +kernel
theorem dX11_left_4 : decode cX11_left 4 = .ok (.iload_n 1, 1) := by decide +kernel
theorem dX11_left_5 : decode cX11_left 5 = .ok (.invokevirtual 209, 3) := by decide +kernel
theorem dX11_left_8 : decode cX11_left 8 = .ok (.ifCond .eq 11, 3) := by decide +kernel
theorem dX11_left_11 : decode cX11_left 11 = .ok (.aload_n 0, 1) := by decide +kernel
theorem dX11_left_12 : decode cX11_left 12 = .ok (.iload_n 2, 1) := by decide +kernel
theorem dX11_left_13 : decode cX11_left 13 = .ok (.invokevirtual 175, 3) := by decide +kernel
theorem dX11_left_16 : decode cX11_left 16 = .ok (.ifCond .ne 5, 3) := by decide +kernel
theorem dX11_left_19 : decode cX11_left 19 = .ok (.iconst (-1), 1) := by decide +kernel
theorem dX11_left_20 : decode cX11_left 20 = .ok (.ireturn, 1) := by decide +kernel
theorem dX11_left_21 : decode cX11_left 21 = .ok (.iconst 0, 1) := by decide +kernel
theorem dX11_left_22 : decode cX11_left 22 = .ok (.aload_n 0, 1) := by decide +kernel
theorem dX11_left_23 : decode cX11_left 23 = .ok (.getfield 40, 3) := by decide +kernel
theorem dX11_left_26 : decode cX11_left 26 = .ok (.getfield 197, 3) := by decide +kernel
theorem dX11_left_29 : decode cX11_left 29 = .ok (.iload_n 1, 1) := by decide +kernel
theorem dX11_left_30 : decode cX11_left 30 = .ok (.iaload, 1) := by decide +kernel
theorem dX11_left_31 : decode cX11_left 31 = .ok (.iload_n 2, 1) := by decide +kernel
theorem dX11_left_32 : decode cX11_left 32 = .ok (.aload_n 0, 1) := by decide +kernel
theorem dX11_left_33 : decode cX11_left 33 = .ok (.getfield 40, 3) := by decide +kernel
theorem dX11_left_36 : decode cX11_left 36 = .ok (.getfield 194, 3) := by decide +kernel
theorem dX11_left_39 : decode cX11_left 39 = .ok (.iload_n 1, 1) := by decide +kernel
theorem dX11_left_40 : decode cX11_left 40 = .ok (.iaload, 1) := by decide +kernel
theorem dX11_left_41 : decode cX11_left 41 = .ok (.iand, 1) := by decide +kernel
theorem dX11_left_42 : decode cX11_left 42 = .ok (.invokestatic 178, 3) := by decide +kernel
theorem dX11_left_45 : decode cX11_left 45 = .ok (.isub, 1) := by decide +kernel
theorem dX11_left_46 : decode cX11_left 46 = .ok (.invokestatic 237, 3) := by decide +kernel
theorem dX11_left_49 : decode cX11_left 49 = .ok (.ireturn, 1) := by decide +kernel
def fX11_left (k : ST) (a0 : Int32) (a1 : Int32) : Option (Int32 × ST) := ob (fX3_knows k a0) fun r1 k2 => if r1 = true then ob (fX11_isSet k2 a1) fun r5 k6 => if r5 = true then ck (inb a0 40) (ck (inb a0 40) (ob (fJ6_bitCount_0f7a4 k6 (a1 &&& (gA k6 14 (ix a0)))) fun r11 k12 => ob (fJ9_max_7cf53 k12 0 ((gA k6 15 (ix a0)) - r11)) fun r14 k15 => some (r14, k15))) else some ((-1), k6) else some ((-1), k2)
set_option maxRecDepth 20000 in
theorem c_X11_left (l : Launch) (g : GT) (a0 : Int32) (a1 : Int32) : CN l yX11_left cX11_left 3 (some .int) { frames := 2, cells := 0, slots := 0, locals := 41 } g TK voI [.ref (g.2.1 10), .int a0, .int a1] (fun k => fX11_left k a0 a1) := by
  refine cn_of (by decide) (Nat.le_of_ble_eq_true rfl) ?_
  intro p e s m args below meth c hC k
  have hC : HC p s m args meth c cX11_left 3 RX11 (some .int) g := hC
  have hR : 2 ≤ ({ frames := 2, cells := 0, slots := 0, locals := 41 } : Room).frames ∧ 41 ≤ ({ frames := 2, cells := 0, slots := 0, locals := 41 } : Room).locals := ⟨Nat.le_refl _, Nat.le_refl _⟩
  show ZF p l e _ s m args below meth c g TK voI 3 k 0 [(0, .ref (g.2.1 10)), (1, .int a0), (2, .int a1)] [] (fX11_left k a0 a1)
  unfold fX11_left
  refine zf_aload_n hC dX11_left_0 rfl 0 rfl ?_
  refine gf_410 hC dX11_left_1 ?_
  refine zf_iload_n hC dX11_left_4 rfl 1 rfl ?_
  refine zf_callV hC (c_X3_knows l g a0) mt_X3_knows wd_522 wd_523 ci_2 ic_2 wd_629 rfl (rm_le hR rfl) rfl rfl (rest := []) rfl (Nat.le_of_ble_eq_true rfl) dX11_left_5 (fun r1 k2 h3 => ?_)
  refine zf_ifb_eq hC (tgt := 19) dX11_left_8 (by decide) (fun h4 => ?_) (fun h4 => ?_)
  · refine zf_aload_n hC dX11_left_11 rfl 0 rfl ?_
    refine zf_iload_n hC dX11_left_12 rfl 2 rfl ?_
    refine zf_callV hC (c_X11_isSet l g a1) mt_X11_isSet wd_570 sp_1 ci_10 ic_10 wd_568 rfl (rm_le hR rfl) rfl rfl (rest := []) rfl (Nat.le_of_ble_eq_true rfl) dX11_left_13 (fun r5 k6 h7 => ?_)
    refine zf_ifb_ne hC (tgt := 21) dX11_left_16 (by decide) (fun h8 => ?_) (fun h8 => ?_)
    · refine zf_iconst hC (v := 0) dX11_left_21 rfl ?_
      refine zf_aload_n hC dX11_left_22 rfl 0 rfl ?_
      refine gf_410 hC dX11_left_23 ?_
      refine gf_151 hC dX11_left_26 ?_
      refine zf_iload_n hC dX11_left_29 rfl 1 rfl ?_
      refine zf_iald hC (j := 15) ia_15 rfl rfl dX11_left_30 (fun h9 => ?_)
      refine zf_iload_n hC dX11_left_31 rfl 2 rfl ?_
      refine zf_aload_n hC dX11_left_32 rfl 0 rfl ?_
      refine gf_410 hC dX11_left_33 ?_
      refine gf_148 hC dX11_left_36 ?_
      refine zf_iload_n hC dX11_left_39 rfl 1 rfl ?_
      refine zf_iald hC (j := 14) ia_14 rfl rfl dX11_left_40 (fun h10 => ?_)
      refine zf_iand hC dX11_left_41 ?_
      refine zf_callS hC (c_J6_bitCount_0f7a4 l g TK (a1 &&& (gA k6 14 (ix a0)))) mt_J6_bitCount_0f7a4 wd_577 wd_576 rfl (rm_le hR rfl) rfl rfl (rest := [.int (gA k6 15 (ix a0)), .int 0]) rfl (Nat.le_of_ble_eq_true rfl) dX11_left_42 (fun r11 k12 h13 => ?_)
      refine zf_isub hC dX11_left_45 ?_
      refine zf_callS hC (c_J9_max_7cf53 l g TK 0 ((gA k6 15 (ix a0)) - r11)) mt_J9_max_7cf53 wd_685 wd_684 rfl (rm_le hR rfl) rfl rfl (rest := []) rfl (Nat.le_of_ble_eq_true rfl) dX11_left_46 (fun r14 k15 h16 => ?_)
      exact zf_iret hC rfl dX11_left_49
    · refine zf_iconst hC (v := (-1)) dX11_left_19 rfl ?_
      exact zf_iret hC rfl dX11_left_20
  · refine zf_iconst hC (v := (-1)) dX11_left_19 rfl ?_
    exact zf_iret hC rfl dX11_left_20
/-! LifeKeys.isPast -/
theorem dX11_isPast_0 : decode cX11_isPast 0 = .ok (.iload_n 1, 1) := by decide +kernel
theorem dX11_isPast_1 : decode cX11_isPast 1 = .ok (.ifCond .lt 15, 3) := by decide +kernel
theorem dX11_isPast_4 : decode cX11_isPast 4 = .ok (.iload_n 1, 1) := by decide +kernel
theorem dX11_isPast_5 : decode cX11_isPast 5 = .ok (.aload_n 0, 1) := by decide +kernel
theorem dX11_isPast_6 : decode cX11_isPast 6 = .ok (.getfield 86, 3) := by decide +kernel
theorem dX11_isPast_9 : decode cX11_isPast 9 = .ok (.if_icmp .gt 7, 3) := by decide +kernel
theorem dX11_isPast_12 : decode cX11_isPast 12 = .ok (.iconst 1, 1) := by decide +kernel
theorem dX11_isPast_13 : decode cX11_isPast 13 = .ok (.goto 4, 3) := by decide +kernel
theorem dX11_isPast_16 : decode cX11_isPast 16 = .ok (.iconst 0, 1) := by decide +kernel
theorem dX11_isPast_17 : decode cX11_isPast 17 = .ok (.ireturn, 1) := by decide +kernel
def fX11_isPast (k : ST) (a0 : Int32) : Option (Bool × ST) := if a0 < 0 then some (false, k) else if (gI k 10 0) < a0 then some (false, k) else some (true, k)
set_option maxRecDepth 20000 in
theorem c_X11_isPast (l : Launch) (g : GT) (a0 : Int32) : CN l yX11_isPast cX11_isPast 2 (some .boolean) { frames := 0, cells := 0, slots := 0, locals := 0 } g TK voB [.ref (g.2.1 10), .int a0] (fun k => fX11_isPast k a0) := by
  refine cn_of (by decide) (Nat.le_of_ble_eq_true rfl) ?_
  intro p e s m args below meth c hC k
  have hC : HC p s m args meth c cX11_isPast 2 RX11 (some .boolean) g := hC
  have hR : 0 ≤ ({ frames := 0, cells := 0, slots := 0, locals := 0 } : Room).frames ∧ 0 ≤ ({ frames := 0, cells := 0, slots := 0, locals := 0 } : Room).locals := ⟨Nat.le_refl _, Nat.le_refl _⟩
  show ZF p l e _ s m args below meth c g TK voB 2 k 0 [(0, .ref (g.2.1 10)), (1, .int a0)] [] (fX11_isPast k a0)
  unfold fX11_isPast
  refine zf_iload_n hC dX11_isPast_0 rfl 1 rfl ?_
  refine zf_if_lt hC (tgt := 16) dX11_isPast_1 (by decide) (fun h1 => ?_) (fun h1 => ?_)
  · refine zf_iconst hC (v := 0) dX11_isPast_16 rfl ?_
    exact zf_zret hC rfl false rfl dX11_isPast_17
  · refine zf_iload_n hC dX11_isPast_4 rfl 1 rfl ?_
    refine zf_aload_n hC dX11_isPast_5 rfl 0 rfl ?_
    refine gf_400 hC dX11_isPast_6 ?_
    refine zf_icmp_gt hC (tgt := 16) dX11_isPast_9 (by decide) (fun h2 => ?_) (fun h2 => ?_)
    · refine zf_iconst hC (v := 0) dX11_isPast_16 rfl ?_
      exact zf_zret hC rfl false rfl dX11_isPast_17
    · refine zf_iconst hC (v := 1) dX11_isPast_12 rfl ?_
      refine zf_goto hC (tgt := 17) dX11_isPast_13 (by decide) ?_
      exact zf_zret hC rfl true rfl dX11_isPast_17
/-! LifeKeys.settleReach -/
theorem dX11_settleReach_0 : decode cX11_settleReach 0 = .ok (.aload_n 0, 1) := by decide +kernel
theorem dX11_settleReach_1 : decode cX11_settleReach 1 = .ok (.getfield 82, 3) := by decide +kernel
theorem dX11_settleReach_4 : decode cX11_settleReach 4 = .ok (.iload_n 1, 1) := by decide +kernel
theorem dX11_settleReach_5 : decode cX11_settleReach 5 = .ok (.aload_n 0, 1) := by decide +kernel
theorem dX11_settleReach_6 : decode cX11_settleReach 6 = .ok (.getfield 26, 3) := by decide +kernel
theorem dX11_settleReach_9 : decode cX11_settleReach 9 = .ok (.aload_n 0, 1) := by decide +kernel
theorem dX11_settleReach_10 : decode cX11_settleReach 10 = .ok (.getfield 33, 3) := by decide +kernel
theorem dX11_settleReach_13 : decode cX11_settleReach 13 = .ok (.aload_n 0, 1) := by decide +kernel
theorem dX11_settleReach_14 : decode cX11_settleReach 14 = .ok (.getfield 40, 3) := by decide +kernel
theorem dX11_settleReach_17 : decode cX11_settleReach 17 = .ok (.invokevirtual 437, 3) := by decide +kernel
theorem dX11_settleReach_20 : decode cX11_settleReach 20 = .ok (.return_, 1) := by decide +kernel
def fX11_settleReach (k : ST) (a0 : Int32) : Option (Unit × ST) := ob (fX4_settle k a0) fun r1 k2 => some ((), k2)
set_option maxRecDepth 20000 in
theorem c_X11_settleReach (l : Launch) (g : GT) (a0 : Int32) : CN l yX11_settleReach cX11_settleReach 2 none { frames := 4, cells := 0, slots := 0, locals := 91 } g TK voV [.ref (g.2.1 10), .int a0] (fun k => fX11_settleReach k a0) := by
  refine cn_of (by decide) (Nat.le_of_ble_eq_true rfl) ?_
  intro p e s m args below meth c hC k
  have hC : HC p s m args meth c cX11_settleReach 2 RX11 none g := hC
  have hR : 4 ≤ ({ frames := 4, cells := 0, slots := 0, locals := 91 } : Room).frames ∧ 91 ≤ ({ frames := 4, cells := 0, slots := 0, locals := 91 } : Room).locals := ⟨Nat.le_refl _, Nat.le_refl _⟩
  show ZF p l e _ s m args below meth c g TK voV 2 k 0 [(0, .ref (g.2.1 10)), (1, .int a0)] [] (fX11_settleReach k a0)
  unfold fX11_settleReach
  refine zf_aload_n hC dX11_settleReach_0 rfl 0 rfl ?_
  refine gf_416 hC dX11_settleReach_1 ?_
  refine zf_iload_n hC dX11_settleReach_4 rfl 1 rfl ?_
  refine zf_aload_n hC dX11_settleReach_5 rfl 0 rfl ?_
  refine gf_408 hC dX11_settleReach_6 ?_
  refine zf_aload_n hC dX11_settleReach_9 rfl 0 rfl ?_
  refine gf_409 hC dX11_settleReach_10 ?_
  refine zf_aload_n hC dX11_settleReach_13 rfl 0 rfl ?_
  refine gf_410 hC dX11_settleReach_14 ?_
  refine zf_callV hC (c_X4_settle l g a0) mt_X4_settle wd_701 wd_702 ci_3 ic_3 wd_700 rfl (rm_le hR rfl) rfl rfl (rest := []) rfl (Nat.le_of_ble_eq_true rfl) dX11_settleReach_17 (fun r1 k2 h3 => ?_)
  exact zf_vret hC rfl dX11_settleReach_20
/-! LifeKeys.got -/
theorem dX11_got_0 : decode cX11_got 0 = .ok (.aload_n 0, 1) := by decide +kernel
theorem dX11_got_1 : decode cX11_got 1 = .ok (.iload_n 1, 1) := by decide +kernel
theorem dX11_got_2 : decode cX11_got 2 = .ok (.invokevirtual 175, 3) := by decide +kernel
theorem dX11_got_5 : decode cX11_got 5 = .ok (.ifCond .eq 11, 3) := by decide +kernel
theorem dX11_got_8 : decode cX11_got 8 = .ok (.aload_n 0, 1) := by decide +kernel
theorem dX11_got_9 : decode cX11_got 9 = .ok (.iload_n 2, 1) := by decide +kernel
theorem dX11_got_10 : decode cX11_got 10 = .ok (.invokevirtual 242, 3) := by decide +kernel
theorem dX11_got_13 : decode cX11_got 13 = .ok (.ifCond .ne 7, 3) := by decide +kernel
theorem dX11_got_16 : decode cX11_got 16 = .ok (.ldc2_w 245, 3) := by decide +kernel
theorem dX11_got_19 : decode cX11_got 19 = .ok (.lreturn, 1) := by decide +kernel
theorem dX11_got_20 : decode cX11_got 20 = .ok (.aload_n 0, 1) := by decide +kernel
theorem dX11_got_21 : decode cX11_got 21 = .ok (.iload_n 2, 1) := by decide +kernel
theorem dX11_got_22 : decode cX11_got 22 = .ok (.invokevirtual 247, 3) := by decide +kernel
theorem dX11_got_25 : decode cX11_got 25 = .ok (.aload_n 0, 1) := by decide +kernel
theorem dX11_got_26 : decode cX11_got 26 = .ok (.getfield 82, 3) := by decide +kernel
theorem dX11_got_29 : decode cX11_got 29 = .ok (.iload_n 1, 1) := by decide +kernel
theorem dX11_got_30 : decode cX11_got 30 = .ok (.invokevirtual 250, 3) := by decide +kernel
theorem dX11_got_33 : decode cX11_got 33 = .ok (.lreturn, 1) := by decide +kernel
def fX11_got (k : ST) (a0 : Int32) (a1 : Int32) : Option (Int64 × ST) := ob (fX11_isSet k a0) fun r1 k2 => if r1 = true then ob (fX11_isPast k2 a1) fun r5 k6 => if r5 = true then ob (fX11_settleReach k6 a1) fun r9 k10 => ob (fX4_gets k10 a0) fun r12 k13 => some (r12, k13) else some (-1, k6) else some (-1, k2)
set_option maxRecDepth 20000 in
theorem c_X11_got (l : Launch) (g : GT) (a0 : Int32) (a1 : Int32) : CN l yX11_got cX11_got 3 (some .long) { frames := 5, cells := 0, slots := 0, locals := 112 } g TK voL [.ref (g.2.1 10), .int a0, .int a1] (fun k => fX11_got k a0 a1) := by
  refine cn_of (by decide) (Nat.le_of_ble_eq_true rfl) ?_
  intro p e s m args below meth c hC k
  have hC : HC p s m args meth c cX11_got 3 RX11 (some .long) g := hC
  have hR : 5 ≤ ({ frames := 5, cells := 0, slots := 0, locals := 112 } : Room).frames ∧ 112 ≤ ({ frames := 5, cells := 0, slots := 0, locals := 112 } : Room).locals := ⟨Nat.le_refl _, Nat.le_refl _⟩
  show ZF p l e _ s m args below meth c g TK voL 3 k 0 [(0, .ref (g.2.1 10)), (1, .int a0), (2, .int a1)] [] (fX11_got k a0 a1)
  unfold fX11_got
  refine zf_aload_n hC dX11_got_0 rfl 0 rfl ?_
  refine zf_iload_n hC dX11_got_1 rfl 1 rfl ?_
  refine zf_callV hC (c_X11_isSet l g a0) mt_X11_isSet wd_570 sp_1 ci_10 ic_10 wd_568 rfl (rm_le hR rfl) rfl rfl (rest := []) rfl (Nat.le_of_ble_eq_true rfl) dX11_got_2 (fun r1 k2 h3 => ?_)
  refine zf_ifb_eq hC (tgt := 16) dX11_got_5 (by decide) (fun h4 => ?_) (fun h4 => ?_)
  · refine zf_aload_n hC dX11_got_8 rfl 0 rfl ?_
    refine zf_iload_n hC dX11_got_9 rfl 2 rfl ?_
    refine zf_callV hC (c_X11_isPast l g a1) mt_X11_isPast wd_693 sp_3 ci_10 ic_10 wd_691 rfl (rm_le hR rfl) rfl rfl (rest := []) rfl (Nat.le_of_ble_eq_true rfl) dX11_got_10 (fun r5 k6 h7 => ?_)
    refine zf_ifb_ne hC (tgt := 20) dX11_got_13 (by decide) (fun h8 => ?_) (fun h8 => ?_)
    · refine zf_aload_n hC dX11_got_20 rfl 0 rfl ?_
      refine zf_iload_n hC dX11_got_21 rfl 2 rfl ?_
      refine zf_callV hC (c_X11_settleReach l g a1) mt_X11_settleReach wd_698 sp_4 ci_10 ic_10 wd_696 rfl (rm_le hR rfl) rfl rfl (rest := []) rfl (Nat.le_of_ble_eq_true rfl) dX11_got_22 (fun r9 k10 h11 => ?_)
      refine zf_aload_n hC dX11_got_25 rfl 0 rfl ?_
      refine gf_416 hC dX11_got_26 ?_
      refine zf_iload_n hC dX11_got_29 rfl 1 rfl ?_
      refine zf_callV hC (c_X4_gets l g a0) mt_X4_gets wd_722 wd_723 ci_3 ic_3 wd_721 rfl (rm_le hR rfl) rfl rfl (rest := []) rfl (Nat.le_of_ble_eq_true rfl) dX11_got_30 (fun r12 k13 h14 => ?_)
      exact zf_lret hC rfl dX11_got_33
    · refine zf_ldc2 hC wd_695 dX11_got_16 ?_
      exact zf_lret hC rfl dX11_got_19
  · refine zf_ldc2 hC wd_695 dX11_got_16 ?_
    exact zf_lret hC rfl dX11_got_19
/-! LifeKeys.fault -/
theorem dX11_fault_0 : decode cX11_fault 0 = .ok (.aload_n 0, 1) := by decide +kernel
theorem dX11_fault_1 : decode cX11_fault 1 = .ok (.getfield 47, 3) := by decide +kernel
theorem dX11_fault_4 : decode cX11_fault 4 = .ok (.aload_n 0, 1) := by decide +kernel
theorem dX11_fault_5 : decode cX11_fault 5 = .ok (.getfield 19, 3) := by decide +kernel
theorem dX11_fault_8 : decode cX11_fault 8 = .ok (.getfield 254, 3) := by decide +kernel
theorem dX11_fault_11 : decode cX11_fault 11 = .ok (.aload_n 0, 1) := by decide +kernel
theorem dX11_fault_12 : decode cX11_fault 12 = .ok (.getfield 19, 3) := by decide +kernel
theorem dX11_fault_15 : decode cX11_fault 15 = .ok (.getfield 107, 3) := by decide +kernel
theorem dX11_fault_18 : decode cX11_fault 18 = .ok (.invokevirtual 257, 3) := by decide +kernel
theorem dX11_fault_21 : decode cX11_fault 21 = .ok (.ireturn, 1) := by decide +kernel
def fX11_fault (k : ST)  : Option (Int32 × ST) := ob (fX5_faultOf k (gI k 7 1)) fun r1 k2 => some (r1, k2)
set_option maxRecDepth 20000 in
theorem c_X11_fault (l : Launch) (g : GT)  : CN l yX11_fault cX11_fault 1 (some .int) { frames := 55, cells := 0, slots := 0, locals := 1197 } g TK voI [.ref (g.2.1 10)] (fun k => fX11_fault k) := by
  refine cn_of (by decide) (Nat.le_of_ble_eq_true rfl) ?_
  intro p e s m args below meth c hC k
  have hC : HC p s m args meth c cX11_fault 1 RX11 (some .int) g := hC
  have hR : 55 ≤ ({ frames := 55, cells := 0, slots := 0, locals := 1197 } : Room).frames ∧ 1197 ≤ ({ frames := 55, cells := 0, slots := 0, locals := 1197 } : Room).locals := ⟨Nat.le_refl _, Nat.le_refl _⟩
  show ZF p l e _ s m args below meth c g TK voI 1 k 0 [(0, .ref (g.2.1 10))] [] (fX11_fault k)
  unfold fX11_fault
  refine zf_aload_n hC dX11_fault_0 rfl 0 rfl ?_
  refine gf_411 hC dX11_fault_1 ?_
  refine zf_aload_n hC dX11_fault_4 rfl 0 rfl ?_
  refine gf_407 hC dX11_fault_5 ?_
  refine gf_36 hC dX11_fault_8 ?_
  refine zf_aload_n hC dX11_fault_11 rfl 0 rfl ?_
  refine gf_407 hC dX11_fault_12 ?_
  refine gf_38 hC dX11_fault_15 ?_
  refine zf_callV hC (c_X5_faultOf l g (gI k 7 1)) mt_X5_faultOf wd_746 wd_747 ci_4 ic_4 wd_745 rfl (rm_le hR rfl) rfl rfl (rest := []) rfl (Nat.le_of_ble_eq_true rfl) dX11_fault_18 (fun r1 k2 h3 => ?_)
  exact zf_iret hC rfl dX11_fault_21
/-! LifeKeys.death -/
theorem dX11_death_0 : decode cX11_death 0 = .ok (.aload_n 0, 1) := by decide +kernel
theorem dX11_death_1 : decode cX11_death 1 = .ok (.iload_n 1, 1) := by decide +kernel
theorem dX11_death_2 : decode cX11_death 2 = .ok (.invokevirtual 157, 3) := by decide +kernel
theorem dX11_death_5 : decode cX11_death 5 = .ok (.ifCond .eq 14, 3) := by decide +kernel
theorem dX11_death_8 : decode cX11_death 8 = .ok (.aload_n 0, 1) := by decide +kernel
theorem dX11_death_9 : decode cX11_death 9 = .ok (.getfield 47, 3) := by decide +kernel
theorem dX11_death_12 : decode cX11_death 12 = .ok (.iload_n 2, 1) := by decide +kernel
theorem dX11_death_13 : decode cX11_death 13 = .ok (.invokevirtual 264, 3) := by decide +kernel
theorem dX11_death_16 : decode cX11_death 16 = .ok (.ifCond .ne 5, 3) := by decide +kernel
theorem dX11_death_19 : decode cX11_death 19 = .ok (.iconst 0, 1) := by decide +kernel
theorem dX11_death_20 : decode cX11_death 20 = .ok (.ireturn, 1) := by decide +kernel
theorem dX11_death_21 : decode cX11_death 21 = .ok (.aload_n 0, 1) := by decide +kernel
theorem dX11_death_22 : decode cX11_death 22 = .ok (.getfield 54, 3) := by decide +kernel
theorem dX11_death_25 : decode cX11_death 25 = .ok (.iload_n 1, 1) := by decide +kernel
theorem dX11_death_26 : decode cX11_death 26 = .ok (.iload_n 2, 1) := by decide +kernel
theorem dX11_death_27 : decode cX11_death 27 = .ok (.aload_n 0, 1) := by decide +kernel
theorem dX11_death_28 : decode cX11_death 28 = .ok (.getfield 86, 3) := by decide +kernel
theorem dX11_death_31 : decode cX11_death 31 = .ok (.invokevirtual 265, 3) := by decide +kernel
theorem dX11_death_34 : decode cX11_death 34 = .ok (.ireturn, 1) := by decide +kernel
def fX11_death (k : ST) (a0 : Int32) (a1 : Int32) : Option (Bool × ST) := ob (fX11_isHolder k a0) fun r1 k2 => if r1 = true then ob (fX5_knows k2 a1) fun r5 k6 => if r5 = true then ob (fX6_addRuleOfDeath k6 a0 a1 (gI k6 10 0)) fun r9 k10 => some (r9, k10) else some (false, k6) else some (false, k2)
set_option maxRecDepth 20000 in
theorem c_X11_death (l : Launch) (g : GT) (a0 : Int32) (a1 : Int32) : CN l yX11_death cX11_death 3 (some .boolean) { frames := 1, cells := 0, slots := 0, locals := 23 } g TK voB [.ref (g.2.1 10), .int a0, .int a1] (fun k => fX11_death k a0 a1) := by
  refine cn_of (by decide) (Nat.le_of_ble_eq_true rfl) ?_
  intro p e s m args below meth c hC k
  have hC : HC p s m args meth c cX11_death 3 RX11 (some .boolean) g := hC
  have hR : 1 ≤ ({ frames := 1, cells := 0, slots := 0, locals := 23 } : Room).frames ∧ 23 ≤ ({ frames := 1, cells := 0, slots := 0, locals := 23 } : Room).locals := ⟨Nat.le_refl _, Nat.le_refl _⟩
  show ZF p l e _ s m args below meth c g TK voB 3 k 0 [(0, .ref (g.2.1 10)), (1, .int a0), (2, .int a1)] [] (fX11_death k a0 a1)
  unfold fX11_death
  refine zf_aload_n hC dX11_death_0 rfl 0 rfl ?_
  refine zf_iload_n hC dX11_death_1 rfl 1 rfl ?_
  refine zf_callV hC (c_X11_isHolder l g a0) mt_X11_isHolder wd_531 sp_0 ci_10 ic_10 wd_529 rfl (rm_le hR rfl) rfl rfl (rest := []) rfl (Nat.le_of_ble_eq_true rfl) dX11_death_2 (fun r1 k2 h3 => ?_)
  refine zf_ifb_eq hC (tgt := 19) dX11_death_5 (by decide) (fun h4 => ?_) (fun h4 => ?_)
  · refine zf_aload_n hC dX11_death_8 rfl 0 rfl ?_
    refine gf_411 hC dX11_death_9 ?_
    refine zf_iload_n hC dX11_death_12 rfl 2 rfl ?_
    refine zf_callV hC (c_X5_knows l g a1) mt_X5_knows wd_823 wd_824 ci_4 ic_4 wd_822 rfl (rm_le hR rfl) rfl rfl (rest := []) rfl (Nat.le_of_ble_eq_true rfl) dX11_death_13 (fun r5 k6 h7 => ?_)
    refine zf_ifb_ne hC (tgt := 21) dX11_death_16 (by decide) (fun h8 => ?_) (fun h8 => ?_)
    · refine zf_aload_n hC dX11_death_21 rfl 0 rfl ?_
      refine gf_412 hC dX11_death_22 ?_
      refine zf_iload_n hC dX11_death_25 rfl 1 rfl ?_
      refine zf_iload_n hC dX11_death_26 rfl 2 rfl ?_
      refine zf_aload_n hC dX11_death_27 rfl 0 rfl ?_
      refine gf_400 hC dX11_death_28 ?_
      refine zf_callV hC (c_X6_addRuleOfDeath l g a0 a1 (gI k6 10 0)) mt_X6_addRuleOfDeath wd_827 wd_828 ci_5 ic_5 wd_826 rfl (rm_le hR rfl) rfl rfl (rest := []) rfl (Nat.le_of_ble_eq_true rfl) dX11_death_31 (fun r9 k10 h11 => ?_)
      exact zf_zret hC rfl r9 rfl dX11_death_34
    · refine zf_iconst hC (v := 0) dX11_death_19 rfl ?_
      exact zf_zret hC rfl false rfl dX11_death_20
  · refine zf_iconst hC (v := 0) dX11_death_19 rfl ?_
    exact zf_zret hC rfl false rfl dX11_death_20
/-! LifeKeys.seal -/
theorem dX11_seal_0 : decode cX11_seal 0 = .ok (.iload_n 3, 1) := by decide +kernel
theorem dX11_seal_1 : decode cX11_seal 1 = .ok (.ifCond .eq 14, 3) := by decide +kernel
theorem dX11_seal_4 : decode cX11_seal 4 = .ok (.aload_n 0, 1) := by decide +kernel
theorem dX11_seal_5 : decode cX11_seal 5 = .ok (.getfield 47, 3) := by decide +kernel
theorem dX11_seal_8 : decode cX11_seal 8 = .ok (.iload_n 2, 1) := by decide +kernel
theorem dX11_seal_9 : decode cX11_seal 9 = .ok (.invokevirtual 264, 3) := by decide +kernel
theorem dX11_seal_12 : decode cX11_seal 12 = .ok (.goto 11, 3) := by decide +kernel
theorem dX11_seal_15 : decode cX11_seal 15 = .ok (.aload_n 0, 1) := by decide +kernel
theorem dX11_seal_16 : decode cX11_seal 16 = .ok (.getfield 26, 3) := by decide +kernel
theorem dX11_seal_19 : decode cX11_seal 19 = .ok (.iload_n 2, 1) := by decide +kernel
theorem dX11_seal_20 : decode cX11_seal 20 = .ok (.invokevirtual 114, 3) := by decide +kernel
theorem dX11_seal_23 : decode cX11_seal 23 = .ok (.istore 4, 2) := by decide +kernel
theorem dX11_seal_25 : decode cX11_seal 25 = .ok (.iload 4, 2) := by decide +kernel
theorem dX11_seal_27 : decode cX11_seal 27 = .ok (.ifCond .eq 10, 3) := by decide +kernel
theorem dX11_seal_30 : decode cX11_seal 30 = .ok (.iload_n 1, 1) := by decide +kernel
theorem dX11_seal_31 : decode cX11_seal 31 = .ok (.invokestatic 213, 3) := by decide +kernel
theorem dX11_seal_34 : decode cX11_seal 34 = .ok (.ifCond .ne 5, 3) := by decide +kernel
theorem dX11_seal_37 : decode cX11_seal 37 = .ok (.iconst (-1), 1) := by decide +kernel
theorem dX11_seal_38 : decode cX11_seal 38 = .ok (.ireturn, 1) := by decide +kernel
theorem dX11_seal_39 : decode cX11_seal 39 = .ok (.aload_n 0, 1) := by decide +kernel
theorem dX11_seal_40 : decode cX11_seal 40 = .ok (.getfield 61, 3) := by decide +kernel
theorem dX11_seal_43 : decode cX11_seal 43 = .ok (.iload_n 1, 1) := by decide +kernel
theorem dX11_seal_44 : decode cX11_seal 44 = .ok (.iload_n 2, 1) := by decide +kernel
theorem dX11_seal_45 : decode cX11_seal 45 = .ok (.iload_n 3, 1) := by decide +kernel
theorem dX11_seal_46 : decode cX11_seal 46 = .ok (.invokevirtual 268, 3) := by decide +kernel
theorem dX11_seal_49 : decode cX11_seal 49 = .ok (.ireturn, 1) := by decide +kernel
def jbX11_seal_23 (v1 : Int32) (v2 : Int32) (v3 : Bool) (s0 : Bool) (k : ST) : Option (Int32 × ST) := if s0 = true then ob (fX0_isNumber k v1) fun r6 k7 => if r6 = true then ob (fX9_add k7 v1 v2 v3) fun r10 k11 => some (r10, k11) else some ((-1), k7) else some ((-1), k)
set_option maxRecDepth 20000 in
theorem zjbX11_seal_23 {p : Program} {l : Launch} {e : Env} {R : Room} {s : State} {m : MethodId} {args : Array Value} {below : List Frame} {meth : Method} {c : Code} {g : GT} (hC : HC p s m args meth c cX11_seal 5 RX11 (some .int) g) (hR : 1 ≤ R.frames ∧ 23 ≤ R.locals)  (v1 : Int32) (v2 : Int32) (v3 : Bool) (s0 : Bool) (k : ST) : ZF p l e R s m args below meth c g TK voI 5 k 23 [(0, .ref (g.2.1 10)), (1, .int v1), (2, .int v2), (3, .int (b2i v3))] [.int (b2i s0)] (jbX11_seal_23  v1 v2 v3 s0 k) := by
  unfold jbX11_seal_23
  refine zf_istore hC (LV' := [(4, .int (b2i s0)), (0, .ref (g.2.1 10)), (1, .int v1), (2, .int v2), (3, .int (b2i v3))]) dX11_seal_23 (by decide) rfl ?_
  refine zf_iload hC dX11_seal_25 0 rfl ?_
  refine zf_ifb_eq hC (tgt := 37) dX11_seal_27 (by decide) (fun h5 => ?_) (fun h5 => ?_)
  · refine zf_iload_n hC dX11_seal_30 rfl 2 rfl ?_
    refine zf_callS hC (c_X0_isNumber l g TK v1) mt_X0_isNumber wd_648 wd_647 rfl (rm_le hR rfl) rfl rfl (rest := []) rfl (Nat.le_of_ble_eq_true rfl) dX11_seal_31 (fun r6 k7 h8 => ?_)
    refine zf_ifb_ne hC (tgt := 39) dX11_seal_34 (by decide) (fun h9 => ?_) (fun h9 => ?_)
    · refine zf_aload_n hC dX11_seal_39 rfl 1 rfl ?_
      refine gf_413 hC dX11_seal_40 ?_
      refine zf_iload_n hC dX11_seal_43 rfl 2 rfl ?_
      refine zf_iload_n hC dX11_seal_44 rfl 3 rfl ?_
      refine zf_iload_n hC dX11_seal_45 rfl 4 rfl ?_
      refine zf_callV hC (c_X9_add l g v1 v2 v3) mt_X9_add wd_835 wd_836 ci_8 ic_8 wd_834 rfl (rm_le hR rfl) rfl rfl (rest := []) rfl (Nat.le_of_ble_eq_true rfl) dX11_seal_46 (fun r10 k11 h12 => ?_)
      exact zf_iret hC rfl dX11_seal_49
    · refine zf_iconst hC (v := (-1)) dX11_seal_37 rfl ?_
      exact zf_iret hC rfl dX11_seal_38
  · refine zf_iconst hC (v := (-1)) dX11_seal_37 rfl ?_
    exact zf_iret hC rfl dX11_seal_38
def fX11_seal (k : ST) (a0 : Int32) (a1 : Int32) (a2 : Bool) : Option (Int32 × ST) := if a2 = true then ob (fX5_knows k a1) fun r2 k3 => jbX11_seal_23 a0 a1 a2 r2 k3 else ob (fX1_knows k a1) fun r13 k14 => jbX11_seal_23 a0 a1 a2 r13 k14
set_option maxRecDepth 20000 in
theorem c_X11_seal (l : Launch) (g : GT) (a0 : Int32) (a1 : Int32) (a2 : Bool) : CN l yX11_seal cX11_seal 5 (some .int) { frames := 1, cells := 0, slots := 0, locals := 23 } g TK voI [.ref (g.2.1 10), .int a0, .int a1, .int (b2i a2)] (fun k => fX11_seal k a0 a1 a2) := by
  refine cn_of (by decide) (Nat.le_of_ble_eq_true rfl) ?_
  intro p e s m args below meth c hC k
  have hC : HC p s m args meth c cX11_seal 5 RX11 (some .int) g := hC
  have hR : 1 ≤ ({ frames := 1, cells := 0, slots := 0, locals := 23 } : Room).frames ∧ 23 ≤ ({ frames := 1, cells := 0, slots := 0, locals := 23 } : Room).locals := ⟨Nat.le_refl _, Nat.le_refl _⟩
  show ZF p l e _ s m args below meth c g TK voI 5 k 0 [(0, .ref (g.2.1 10)), (1, .int a0), (2, .int a1), (3, .int (b2i a2))] [] (fX11_seal k a0 a1 a2)
  unfold fX11_seal
  refine zf_iload_n hC dX11_seal_0 rfl 3 rfl ?_
  refine zf_ifb_eq hC (tgt := 15) dX11_seal_1 (by decide) (fun h1 => ?_) (fun h1 => ?_)
  · refine zf_aload_n hC dX11_seal_4 rfl 0 rfl ?_
    refine gf_411 hC dX11_seal_5 ?_
    refine zf_iload_n hC dX11_seal_8 rfl 2 rfl ?_
    refine zf_callV hC (c_X5_knows l g a1) mt_X5_knows wd_823 wd_824 ci_4 ic_4 wd_822 rfl (rm_le hR rfl) rfl rfl (rest := []) rfl (Nat.le_of_ble_eq_true rfl) dX11_seal_9 (fun r2 k3 h4 => ?_)
    refine zf_goto hC (tgt := 23) dX11_seal_12 (by decide) ?_
    exact zjbX11_seal_23 hC hR a0 a1 a2 r2 k3
  · refine zf_aload_n hC dX11_seal_15 rfl 0 rfl ?_
    refine gf_408 hC dX11_seal_16 ?_
    refine zf_iload_n hC dX11_seal_19 rfl 2 rfl ?_
    refine zf_callV hC (c_X1_knows l g a1) mt_X1_knows wd_491 wd_492 ci_0 ic_0 wd_490 rfl (rm_le hR rfl) rfl rfl (rest := []) rfl (Nat.le_of_ble_eq_true rfl) dX11_seal_20 (fun r13 k14 h15 => ?_)
    exact zjbX11_seal_23 hC hR a0 a1 a2 r13 k14
/-! LifeKeys.say -/
theorem dX11_say_0 : decode cX11_say 0 = .ok (.aload_n 0, 1) := by decide +kernel
theorem dX11_say_1 : decode cX11_say 1 = .ok (.iload_n 1, 1) := by decide +kernel
theorem dX11_say_2 : decode cX11_say 2 = .ok (.invokevirtual 157, 3) := by decide +kernel
theorem dX11_say_5 : decode cX11_say 5 = .ok (.ifCond .eq 14, 3) := by decide +kernel
theorem dX11_say_8 : decode cX11_say 8 = .ok (.aload_n 0, 1) := by decide +kernel
theorem dX11_say_9 : decode cX11_say 9 = .ok (.getfield 61, 3) := by decide +kernel
theorem dX11_say_12 : decode cX11_say 12 = .ok (.iload_n 2, 1) := by decide +kernel
theorem dX11_say_13 : decode cX11_say 13 = .ok (.invokevirtual 271, 3) := by decide +kernel
theorem dX11_say_16 : decode cX11_say 16 = .ok (.ifCond .ne 5, 3) := by decide +kernel
theorem dX11_say_19 : decode cX11_say 19 = .ok (.iconst 0, 1) := by decide +kernel
theorem dX11_say_20 : decode cX11_say 20 = .ok (.ireturn, 1) := by decide +kernel
theorem dX11_say_21 : decode cX11_say 21 = .ok (.aload_n 0, 1) := by decide +kernel
theorem dX11_say_22 : decode cX11_say 22 = .ok (.getfield 54, 3) := by decide +kernel
theorem dX11_say_25 : decode cX11_say 25 = .ok (.iload_n 1, 1) := by decide +kernel
theorem dX11_say_26 : decode cX11_say 26 = .ok (.iload_n 2, 1) := by decide +kernel
theorem dX11_say_27 : decode cX11_say 27 = .ok (.iload_n 3, 1) := by decide +kernel
theorem dX11_say_28 : decode cX11_say 28 = .ok (.aload_n 0, 1) := by decide +kernel
theorem dX11_say_29 : decode cX11_say 29 = .ok (.getfield 86, 3) := by decide +kernel
theorem dX11_say_32 : decode cX11_say 32 = .ok (.invokevirtual 272, 3) := by decide +kernel
theorem dX11_say_35 : decode cX11_say 35 = .ok (.ireturn, 1) := by decide +kernel
def fX11_say (k : ST) (a0 : Int32) (a1 : Int32) (a2 : Bool) : Option (Bool × ST) := ob (fX11_isHolder k a0) fun r1 k2 => if r1 = true then ob (fX9_knows k2 a1) fun r5 k6 => if r5 = true then ob (fX6_add k6 a0 a1 a2 (gI k6 10 0)) fun r9 k10 => some (r9, k10) else some (false, k6) else some (false, k2)
set_option maxRecDepth 20000 in
theorem c_X11_say (l : Launch) (g : GT) (a0 : Int32) (a1 : Int32) (a2 : Bool) : CN l yX11_say cX11_say 4 (some .boolean) { frames := 1, cells := 0, slots := 0, locals := 24 } g TK voB [.ref (g.2.1 10), .int a0, .int a1, .int (b2i a2)] (fun k => fX11_say k a0 a1 a2) := by
  refine cn_of (by decide) (Nat.le_of_ble_eq_true rfl) ?_
  intro p e s m args below meth c hC k
  have hC : HC p s m args meth c cX11_say 4 RX11 (some .boolean) g := hC
  have hR : 1 ≤ ({ frames := 1, cells := 0, slots := 0, locals := 24 } : Room).frames ∧ 24 ≤ ({ frames := 1, cells := 0, slots := 0, locals := 24 } : Room).locals := ⟨Nat.le_refl _, Nat.le_refl _⟩
  show ZF p l e _ s m args below meth c g TK voB 4 k 0 [(0, .ref (g.2.1 10)), (1, .int a0), (2, .int a1), (3, .int (b2i a2))] [] (fX11_say k a0 a1 a2)
  unfold fX11_say
  refine zf_aload_n hC dX11_say_0 rfl 0 rfl ?_
  refine zf_iload_n hC dX11_say_1 rfl 1 rfl ?_
  refine zf_callV hC (c_X11_isHolder l g a0) mt_X11_isHolder wd_531 sp_0 ci_10 ic_10 wd_529 rfl (rm_le hR rfl) rfl rfl (rest := []) rfl (Nat.le_of_ble_eq_true rfl) dX11_say_2 (fun r1 k2 h3 => ?_)
  refine zf_ifb_eq hC (tgt := 19) dX11_say_5 (by decide) (fun h4 => ?_) (fun h4 => ?_)
  · refine zf_aload_n hC dX11_say_8 rfl 0 rfl ?_
    refine gf_413 hC dX11_say_9 ?_
    refine zf_iload_n hC dX11_say_12 rfl 2 rfl ?_
    refine zf_callV hC (c_X9_knows l g a1) mt_X9_knows wd_843 wd_844 ci_8 ic_8 wd_842 rfl (rm_le hR rfl) rfl rfl (rest := []) rfl (Nat.le_of_ble_eq_true rfl) dX11_say_13 (fun r5 k6 h7 => ?_)
    refine zf_ifb_ne hC (tgt := 21) dX11_say_16 (by decide) (fun h8 => ?_) (fun h8 => ?_)
    · refine zf_aload_n hC dX11_say_21 rfl 0 rfl ?_
      refine gf_412 hC dX11_say_22 ?_
      refine zf_iload_n hC dX11_say_25 rfl 1 rfl ?_
      refine zf_iload_n hC dX11_say_26 rfl 2 rfl ?_
      refine zf_iload_n hC dX11_say_27 rfl 3 rfl ?_
      refine zf_aload_n hC dX11_say_28 rfl 0 rfl ?_
      refine gf_400 hC dX11_say_29 ?_
      refine zf_callV hC (c_X6_add l g a0 a1 a2 (gI k6 10 0)) mt_X6_add wd_847 wd_848 ci_5 ic_5 wd_846 rfl (rm_le hR rfl) rfl rfl (rest := []) rfl (Nat.le_of_ble_eq_true rfl) dX11_say_32 (fun r9 k10 h11 => ?_)
      exact zf_zret hC rfl r9 rfl dX11_say_35
    · refine zf_iconst hC (v := 0) dX11_say_19 rfl ?_
      exact zf_zret hC rfl false rfl dX11_say_20
  · refine zf_iconst hC (v := 0) dX11_say_19 rfl ?_
    exact zf_zret hC rfl false rfl dX11_say_20
/-! LifeKeys.mourn -/
theorem dX11_mourn_0 : decode cX11_mourn 0 = .ok (.aload_n 0, 1) := by decide +kernel
theorem dX11_mourn_1 : decode cX11_mourn 1 = .ok (.iload_n 1, 1) := by decide +kernel
theorem dX11_mourn_2 : decode cX11_mourn 2 = .ok (.invokevirtual 157, 3) := by decide +kernel
theorem dX11_mourn_5 : decode cX11_mourn 5 = .ok (.ifCond .eq 16, 3) := by decide +kernel
theorem dX11_mourn_8 : decode cX11_mourn 8 = .ok (.aload_n 0, 1) := by decide +kernel
theorem dX11_mourn_9 : decode cX11_mourn 9 = .ok (.iload_n 2, 1) := by decide +kernel
theorem dX11_mourn_10 : decode cX11_mourn 10 = .ok (.invokevirtual 157, 3) := by decide +kernel
theorem dX11_mourn_13 : decode cX11_mourn 13 = .ok (.ifCond .eq 8, 3) := by decide +kernel
theorem dX11_mourn_16 : decode cX11_mourn 16 = .ok (.iload_n 1, 1) := by decide +kernel
theorem dX11_mourn_17 : decode cX11_mourn 17 = .ok (.iload_n 2, 1) := by decide +kernel
theorem dX11_mourn_18 : decode cX11_mourn 18 = .ok (.if_icmp .ne 5, 3) := by decide +kernel
theorem dX11_mourn_21 : decode cX11_mourn 21 = .ok (.iconst 0, 1) := by decide +kernel
theorem dX11_mourn_22 : decode cX11_mourn 22 = .ok (.ireturn, 1) := by decide +kernel
theorem dX11_mourn_23 : decode cX11_mourn 23 = .ok (.aload_n 0, 1) := by decide +kernel
theorem dX11_mourn_24 : decode cX11_mourn 24 = .ok (.getfield 54, 3) := by decide +kernel
theorem dX11_mourn_27 : decode cX11_mourn 27 = .ok (.iload_n 1, 1) := by decide +kernel
theorem dX11_mourn_28 : decode cX11_mourn 28 = .ok (.iload_n 2, 1) := by decide +kernel
theorem dX11_mourn_29 : decode cX11_mourn 29 = .ok (.invokestatic 275, 3) := by decide +kernel
theorem dX11_mourn_32 : decode cX11_mourn 32 = .ok (.iload_n 3, 1) := by decide +kernel
theorem dX11_mourn_33 : decode cX11_mourn 33 = .ok (.aload_n 0, 1) := by decide +kernel
theorem dX11_mourn_34 : decode cX11_mourn 34 = .ok (.getfield 86, 3) := by decide +kernel
theorem dX11_mourn_37 : decode cX11_mourn 37 = .ok (.invokevirtual 272, 3) := by decide +kernel
theorem dX11_mourn_40 : decode cX11_mourn 40 = .ok (.ireturn, 1) := by decide +kernel
def fX11_mourn (k : ST) (a0 : Int32) (a1 : Int32) (a2 : Bool) : Option (Bool × ST) := ob (fX11_isHolder k a0) fun r1 k2 => if r1 = true then ob (fX11_isHolder k2 a1) fun r5 k6 => if r5 = true then if a0 = a1 then some (false, k6) else ob (fX6_deathOf k6 a1) fun r10 k11 => ob (fX6_add k11 a0 r10 a2 (gI k11 10 0)) fun r13 k14 => some (r13, k14) else some (false, k6) else some (false, k2)
set_option maxRecDepth 20000 in
theorem c_X11_mourn (l : Launch) (g : GT) (a0 : Int32) (a1 : Int32) (a2 : Bool) : CN l yX11_mourn cX11_mourn 4 (some .boolean) { frames := 1, cells := 0, slots := 0, locals := 24 } g TK voB [.ref (g.2.1 10), .int a0, .int a1, .int (b2i a2)] (fun k => fX11_mourn k a0 a1 a2) := by
  refine cn_of (by decide) (Nat.le_of_ble_eq_true rfl) ?_
  intro p e s m args below meth c hC k
  have hC : HC p s m args meth c cX11_mourn 4 RX11 (some .boolean) g := hC
  have hR : 1 ≤ ({ frames := 1, cells := 0, slots := 0, locals := 24 } : Room).frames ∧ 24 ≤ ({ frames := 1, cells := 0, slots := 0, locals := 24 } : Room).locals := ⟨Nat.le_refl _, Nat.le_refl _⟩
  show ZF p l e _ s m args below meth c g TK voB 4 k 0 [(0, .ref (g.2.1 10)), (1, .int a0), (2, .int a1), (3, .int (b2i a2))] [] (fX11_mourn k a0 a1 a2)
  unfold fX11_mourn
  refine zf_aload_n hC dX11_mourn_0 rfl 0 rfl ?_
  refine zf_iload_n hC dX11_mourn_1 rfl 1 rfl ?_
  refine zf_callV hC (c_X11_isHolder l g a0) mt_X11_isHolder wd_531 sp_0 ci_10 ic_10 wd_529 rfl (rm_le hR rfl) rfl rfl (rest := []) rfl (Nat.le_of_ble_eq_true rfl) dX11_mourn_2 (fun r1 k2 h3 => ?_)
  refine zf_ifb_eq hC (tgt := 21) dX11_mourn_5 (by decide) (fun h4 => ?_) (fun h4 => ?_)
  · refine zf_aload_n hC dX11_mourn_8 rfl 0 rfl ?_
    refine zf_iload_n hC dX11_mourn_9 rfl 2 rfl ?_
    refine zf_callV hC (c_X11_isHolder l g a1) mt_X11_isHolder wd_531 sp_0 ci_10 ic_10 wd_529 rfl (rm_le hR rfl) rfl rfl (rest := []) rfl (Nat.le_of_ble_eq_true rfl) dX11_mourn_10 (fun r5 k6 h7 => ?_)
    refine zf_ifb_eq hC (tgt := 21) dX11_mourn_13 (by decide) (fun h8 => ?_) (fun h8 => ?_)
    · refine zf_iload_n hC dX11_mourn_16 rfl 1 rfl ?_
      refine zf_iload_n hC dX11_mourn_17 rfl 2 rfl ?_
      refine zf_icmp_ne hC (tgt := 23) dX11_mourn_18 (by decide) (fun h9 => ?_) (fun h9 => ?_)
      · refine zf_iconst hC (v := 0) dX11_mourn_21 rfl ?_
        exact zf_zret hC rfl false rfl dX11_mourn_22
      · refine zf_aload_n hC dX11_mourn_23 rfl 0 rfl ?_
        refine gf_412 hC dX11_mourn_24 ?_
        refine zf_iload_n hC dX11_mourn_27 rfl 1 rfl ?_
        refine zf_iload_n hC dX11_mourn_28 rfl 2 rfl ?_
        refine zf_callS hC (c_X6_deathOf l g TK a1) mt_X6_deathOf wd_855 wd_854 rfl (rm_le hR rfl) rfl rfl (rest := [.int a0, .ref (g.2.1 5)]) rfl (Nat.le_of_ble_eq_true rfl) dX11_mourn_29 (fun r10 k11 h12 => ?_)
        refine zf_iload_n hC dX11_mourn_32 rfl 3 rfl ?_
        refine zf_aload_n hC dX11_mourn_33 rfl 0 rfl ?_
        refine gf_400 hC dX11_mourn_34 ?_
        refine zf_callV hC (c_X6_add l g a0 r10 a2 (gI k11 10 0)) mt_X6_add wd_847 wd_848 ci_5 ic_5 wd_846 rfl (rm_le hR rfl) rfl rfl (rest := []) rfl (Nat.le_of_ble_eq_true rfl) dX11_mourn_37 (fun r13 k14 h15 => ?_)
        exact zf_zret hC rfl r13 rfl dX11_mourn_40
    · refine zf_iconst hC (v := 0) dX11_mourn_21 rfl ?_
      exact zf_zret hC rfl false rfl dX11_mourn_22
  · refine zf_iconst hC (v := 0) dX11_mourn_21 rfl ?_
    exact zf_zret hC rfl false rfl dX11_mourn_22
/-! LifeKeys.ask -/
theorem dX11_ask_0 : decode cX11_ask 0 = .ok (.aload_n 0, 1) := by decide +kernel
theorem dX11_ask_1 : decode cX11_ask 1 = .ok (.getfield 61, 3) := by decide +kernel
theorem dX11_ask_4 : decode cX11_ask 4 = .ok (.iload_n 1, 1) := by decide +kernel
theorem dX11_ask_5 : decode cX11_ask 5 = .ok (.invokevirtual 271, 3) := by decide +kernel
theorem dX11_ask_8 : decode cX11_ask 8 = .ok (.ifCond .eq 16, 3) := by decide +kernel
theorem dX11_ask_11 : decode cX11_ask 11 = .ok (.aload_n 0, 1) := by decide +kernel
theorem dX11_ask_12 : decode cX11_ask 12 = .ok (.getfield 61, 3) := by decide +kernel
theorem dX11_ask_15 : decode cX11_ask 15 = .ok (.getfield 278, 3) := by decide +kernel
theorem dX11_ask_18 : decode cX11_ask 18 = .ok (.iload_n 1, 1) := by decide +kernel
theorem dX11_ask_19 : decode cX11_ask 19 = .ok (.iaload, 1) := by decide +kernel
theorem dX11_ask_20 : decode cX11_ask 20 = .ok (.iconst (-1), 1) := by decide +kernel
theorem dX11_ask_21 : decode cX11_ask 21 = .ok (.if_icmp .eq 5, 3) := by decide +kernel
theorem dX11_ask_24 : decode cX11_ask 24 = .ok (.iconst 0, 1) := by decide +kernel
theorem dX11_ask_25 : decode cX11_ask 25 = .ok (.ireturn, 1) := by decide +kernel
theorem dX11_ask_26 : decode cX11_ask 26 = .ok (.aload_n 0, 1) := by decide +kernel
theorem dX11_ask_27 : decode cX11_ask 27 = .ok (.getfield 61, 3) := by decide +kernel
theorem dX11_ask_30 : decode cX11_ask 30 = .ok (.getfield 278, 3) := by decide +kernel
theorem dX11_ask_33 : decode cX11_ask 33 = .ok (.iload_n 1, 1) := by decide +kernel
theorem dX11_ask_34 : decode cX11_ask 34 = .ok (.aload_n 0, 1) := by decide +kernel
theorem dX11_ask_35 : decode cX11_ask 35 = .ok (.getfield 86, 3) := by decide +kernel
theorem dX11_ask_38 : decode cX11_ask 38 = .ok (.iastore, 1) := by decide +kernel
theorem dX11_ask_39 : decode cX11_ask 39 = .ok (.iconst 1, 1) := by decide +kernel
theorem dX11_ask_40 : decode cX11_ask 40 = .ok (.ireturn, 1) := by decide +kernel
def fX11_ask (k : ST) (a0 : Int32) : Option (Bool × ST) := ob (fX9_knows k a0) fun r1 k2 => if r1 = true then ck (inb a0 40) (if (gA k2 47 (ix a0)) = (-1) then ck (inb a0 40) (nm (sA k2 47 (ix a0) (gI k2 10 0)) fun k8 => some (true, k8)) else some (false, k2)) else some (false, k2)
set_option maxRecDepth 20000 in
theorem c_X11_ask (l : Launch) (g : GT) (a0 : Int32) : CN l yX11_ask cX11_ask 2 (some .boolean) { frames := 1, cells := 0, slots := 0, locals := 21 } g TK voB [.ref (g.2.1 10), .int a0] (fun k => fX11_ask k a0) := by
  refine cn_of (by decide) (Nat.le_of_ble_eq_true rfl) ?_
  intro p e s m args below meth c hC k
  have hC : HC p s m args meth c cX11_ask 2 RX11 (some .boolean) g := hC
  have hR : 1 ≤ ({ frames := 1, cells := 0, slots := 0, locals := 21 } : Room).frames ∧ 21 ≤ ({ frames := 1, cells := 0, slots := 0, locals := 21 } : Room).locals := ⟨Nat.le_refl _, Nat.le_refl _⟩
  show ZF p l e _ s m args below meth c g TK voB 2 k 0 [(0, .ref (g.2.1 10)), (1, .int a0)] [] (fX11_ask k a0)
  unfold fX11_ask
  refine zf_aload_n hC dX11_ask_0 rfl 0 rfl ?_
  refine gf_413 hC dX11_ask_1 ?_
  refine zf_iload_n hC dX11_ask_4 rfl 1 rfl ?_
  refine zf_callV hC (c_X9_knows l g a0) mt_X9_knows wd_843 wd_844 ci_8 ic_8 wd_842 rfl (rm_le hR rfl) rfl rfl (rest := []) rfl (Nat.le_of_ble_eq_true rfl) dX11_ask_5 (fun r1 k2 h3 => ?_)
  refine zf_ifb_eq hC (tgt := 24) dX11_ask_8 (by decide) (fun h4 => ?_) (fun h4 => ?_)
  · refine zf_aload_n hC dX11_ask_11 rfl 0 rfl ?_
    refine gf_413 hC dX11_ask_12 ?_
    refine gf_274 hC dX11_ask_15 ?_
    refine zf_iload_n hC dX11_ask_18 rfl 1 rfl ?_
    refine zf_iald hC (j := 47) ia_47 rfl rfl dX11_ask_19 (fun h5 => ?_)
    refine zf_iconst hC (v := (-1)) dX11_ask_20 rfl ?_
    refine zf_icmp_eq hC (tgt := 26) dX11_ask_21 (by decide) (fun h6 => ?_) (fun h6 => ?_)
    · refine zf_aload_n hC dX11_ask_26 rfl 0 rfl ?_
      refine gf_413 hC dX11_ask_27 ?_
      refine gf_274 hC dX11_ask_30 ?_
      refine zf_iload_n hC dX11_ask_33 rfl 1 rfl ?_
      refine zf_aload_n hC dX11_ask_34 rfl 0 rfl ?_
      refine gf_400 hC dX11_ask_35 ?_
      refine zf_iast hC (j := 47) ia_47 rfl rfl dX11_ask_38 (fun h7 => ?_)
      refine zf_nmk (fun k8 => ?_)
      refine zf_iconst hC (v := 1) dX11_ask_39 rfl ?_
      exact zf_zret hC rfl true rfl dX11_ask_40
    · refine zf_iconst hC (v := 0) dX11_ask_24 rfl ?_
      exact zf_zret hC rfl false rfl dX11_ask_25
  · refine zf_iconst hC (v := 0) dX11_ask_24 rfl ?_
    exact zf_zret hC rfl false rfl dX11_ask_25
/-! LifeKeys.isDay -/
theorem dX11_isDay_0 : decode cX11_isDay 0 = .ok (.iload_n 0, 1) := by decide +kernel
theorem dX11_isDay_1 : decode cX11_isDay 1 = .ok (.ifCond .lt 14, 3) := by decide +kernel
theorem dX11_isDay_4 : decode cX11_isDay 4 = .ok (.iload_n 0, 1) := by decide +kernel
theorem dX11_isDay_5 : decode cX11_isDay 5 = .ok (.sipush 2000, 3) := by decide +kernel
theorem dX11_isDay_8 : decode cX11_isDay 8 = .ok (.if_icmp .gt 7, 3) := by decide +kernel
theorem dX11_isDay_11 : decode cX11_isDay 11 = .ok (.iconst 1, 1) := by decide +kernel
theorem dX11_isDay_12 : decode cX11_isDay 12 = .ok (.goto 4, 3) := by decide +kernel
theorem dX11_isDay_15 : decode cX11_isDay 15 = .ok (.iconst 0, 1) := by decide +kernel
theorem dX11_isDay_16 : decode cX11_isDay 16 = .ok (.ireturn, 1) := by decide +kernel
def fX11_isDay (k : ST) (a0 : Int32) : Option (Bool × ST) := if a0 < 0 then some (false, k) else if 2000 < a0 then some (false, k) else some (true, k)
set_option maxRecDepth 20000 in
theorem c_X11_isDay (l : Launch) (g : GT) (T : TT) (a0 : Int32) : CN l yX11_isDay cX11_isDay 1 (some .boolean) { frames := 0, cells := 0, slots := 0, locals := 0 } g T voB [.int a0] (fun k => fX11_isDay k a0) := by
  refine cn_of (by decide) (Nat.le_of_ble_eq_true rfl) ?_
  intro p e s m args below meth c hC k
  have hC : HC p s m args meth c cX11_isDay 1 RX11 (some .boolean) g := hC
  have hR : 0 ≤ ({ frames := 0, cells := 0, slots := 0, locals := 0 } : Room).frames ∧ 0 ≤ ({ frames := 0, cells := 0, slots := 0, locals := 0 } : Room).locals := ⟨Nat.le_refl _, Nat.le_refl _⟩
  show ZF p l e _ s m args below meth c g T voB 1 k 0 [(0, .int a0)] [] (fX11_isDay k a0)
  unfold fX11_isDay
  refine zf_iload_n hC dX11_isDay_0 rfl 0 rfl ?_
  refine zf_if_lt hC (tgt := 15) dX11_isDay_1 (by decide) (fun h1 => ?_) (fun h1 => ?_)
  · refine zf_iconst hC (v := 0) dX11_isDay_15 rfl ?_
    exact zf_zret hC rfl false rfl dX11_isDay_16
  · refine zf_iload_n hC dX11_isDay_4 rfl 0 rfl ?_
    refine zf_sipush hC (v := 2000) dX11_isDay_5 rfl ?_
    refine zf_icmp_gt hC (tgt := 15) dX11_isDay_8 (by decide) (fun h2 => ?_) (fun h2 => ?_)
    · refine zf_iconst hC (v := 0) dX11_isDay_15 rfl ?_
      exact zf_zret hC rfl false rfl dX11_isDay_16
    · refine zf_iconst hC (v := 1) dX11_isDay_11 rfl ?_
      refine zf_goto hC (tgt := 16) dX11_isDay_12 (by decide) ?_
      exact zf_zret hC rfl true rfl dX11_isDay_16
/-! LifeKeys.isDead -/
theorem dX11_isDead_0 : decode cX11_isDead 0 = .ok (.aload_n 0, 1) := by decide +kernel
theorem dX11_isDead_1 : decode cX11_isDead 1 = .ok (.getfield 54, 3) := by decide +kernel
theorem dX11_isDead_4 : decode cX11_isDead 4 = .ok (.iload_n 1, 1) := by decide +kernel
theorem dX11_isDead_5 : decode cX11_isDead 5 = .ok (.iload_n 3, 1) := by decide +kernel
theorem dX11_isDead_6 : decode cX11_isDead 6 = .ok (.invokevirtual 431, 3) := by decide +kernel
theorem dX11_isDead_9 : decode cX11_isDead 9 = .ok (.istore 4, 2) := by decide +kernel
theorem dX11_isDead_11 : decode cX11_isDead 11 = .ok (.iload 4, 2) := by decide +kernel
theorem dX11_isDead_13 : decode cX11_isDead 13 = .ok (.iconst (-1), 1) := by decide +kernel
theorem dX11_isDead_14 : decode cX11_isDead 14 = .ok (.if_icmp .ne 5, 3) := by decide +kernel
theorem dX11_isDead_17 : decode cX11_isDead 17 = .ok (.iconst 0, 1) := by decide +kernel
theorem dX11_isDead_18 : decode cX11_isDead 18 = .ok (.ireturn, 1) := by decide +kernel
theorem dX11_isDead_19 : decode cX11_isDead 19 = .ok (.iload_n 2, 1) := by decide +kernel
theorem dX11_isDead_20 : decode cX11_isDead 20 = .ok (.iload_n 3, 1) := by decide +kernel
theorem dX11_isDead_21 : decode cX11_isDead 21 = .ok (.invokestatic 418, 3) := by decide +kernel
theorem dX11_isDead_24 : decode cX11_isDead 24 = .ok (.istore 5, 2) := by decide +kernel
theorem dX11_isDead_26 : decode cX11_isDead 26 = .ok (.iload_n 1, 1) := by decide +kernel
theorem dX11_isDead_27 : decode cX11_isDead 27 = .ok (.invokestatic 275, 3) := by decide +kernel
theorem dX11_isDead_30 : decode cX11_isDead 30 = .ok (.istore 6, 2) := by decide +kernel
theorem dX11_isDead_32 : decode cX11_isDead 32 = .ok (.aload_n 0, 1) := by decide +kernel
theorem dX11_isDead_33 : decode cX11_isDead 33 = .ok (.getfield 54, 3) := by decide +kernel
theorem dX11_isDead_36 : decode cX11_isDead 36 = .ok (.iload 6, 2) := by decide +kernel
theorem dX11_isDead_38 : decode cX11_isDead 38 = .ok (.iload 5, 2) := by decide +kernel
theorem dX11_isDead_40 : decode cX11_isDead 40 = .ok (.invokevirtual 434, 3) := by decide +kernel
theorem dX11_isDead_43 : decode cX11_isDead 43 = .ok (.istore 7, 2) := by decide +kernel
theorem dX11_isDead_45 : decode cX11_isDead 45 = .ok (.iload 7, 2) := by decide +kernel
theorem dX11_isDead_47 : decode cX11_isDead 47 = .ok (.iconst (-1), 1) := by decide +kernel
theorem dX11_isDead_48 : decode cX11_isDead 48 = .ok (.if_icmp .ne 7, 3) := by decide +kernel
theorem dX11_isDead_51 : decode cX11_isDead 51 = .ok (.iconst (-1), 1) := by decide +kernel
theorem dX11_isDead_52 : decode cX11_isDead 52 = .ok (.goto 7, 3) := by decide +kernel
theorem dX11_isDead_55 : decode cX11_isDead 55 = .ok (.iload_n 2, 1) := by decide +kernel
theorem dX11_isDead_56 : decode cX11_isDead 56 = .ok (.iload 7, 2) := by decide +kernel
theorem dX11_isDead_58 : decode cX11_isDead 58 = .ok (.isub, 1) := by decide +kernel
theorem dX11_isDead_59 : decode cX11_isDead 59 = .ok (.istore 8, 2) := by decide +kernel
theorem dX11_isDead_61 : decode cX11_isDead 61 = .ok (.aload_n 0, 1) := by decide +kernel
theorem dX11_isDead_62 : decode cX11_isDead 62 = .ok (.getfield 47, 3) := by decide +kernel
theorem dX11_isDead_65 : decode cX11_isDead 65 = .ok (.iload 4, 2) := by decide +kernel
theorem dX11_isDead_67 : decode cX11_isDead 67 = .ok (.aload_n 0, 1) := by decide +kernel
theorem dX11_isDead_68 : decode cX11_isDead 68 = .ok (.getfield 54, 3) := by decide +kernel
theorem dX11_isDead_71 : decode cX11_isDead 71 = .ok (.iload 6, 2) := by decide +kernel
theorem dX11_isDead_73 : decode cX11_isDead 73 = .ok (.iload 5, 2) := by decide +kernel
theorem dX11_isDead_75 : decode cX11_isDead 75 = .ok (.invokevirtual 424, 3) := by decide +kernel
theorem dX11_isDead_78 : decode cX11_isDead 78 = .ok (.iconst 0, 1) := by decide +kernel
theorem dX11_isDead_79 : decode cX11_isDead 79 = .ok (.iload 8, 2) := by decide +kernel
theorem dX11_isDead_81 : decode cX11_isDead 81 = .ok (.invokevirtual 427, 3) := by decide +kernel
theorem dX11_isDead_84 : decode cX11_isDead 84 = .ok (.ireturn, 1) := by decide +kernel
def fX11_isDead (k : ST) (a0 : Int32) (a1 : Int32) (a2 : Int32) : Option (Bool × ST) := ob (fX6_ruleOfDeath k a0 a2) fun r1 k2 => if r1 = (-1) then some (false, k2) else ob (fJ9_min_7cf53 k2 a1 a2) fun r5 k6 => ob (fX6_deathOf k6 a0) fun r8 k9 => ob (fX6_firstYes k9 r8 r5) fun r11 k12 => if r11 = (-1) then ob (fX6_voices k12 r8 r5) fun r15 k16 => ob (fX5_holds k16 r1 r15 0 (-1)) fun r18 k19 => some (r18, k19) else ob (fX6_voices k12 r8 r5) fun r21 k22 => ob (fX5_holds k22 r1 r21 0 (a1 - r11)) fun r24 k25 => some (r24, k25)
set_option maxRecDepth 20000 in
theorem c_X11_isDead (l : Launch) (g : GT) (a0 : Int32) (a1 : Int32) (a2 : Int32) : CN l yX11_isDead cX11_isDead 9 (some .boolean) { frames := 4, cells := 0, slots := 0, locals := 91 } g TK voB [.ref (g.2.1 10), .int a0, .int a1, .int a2] (fun k => fX11_isDead k a0 a1 a2) := by
  refine cn_of (by decide) (Nat.le_of_ble_eq_true rfl) ?_
  intro p e s m args below meth c hC k
  have hC : HC p s m args meth c cX11_isDead 9 RX11 (some .boolean) g := hC
  have hR : 4 ≤ ({ frames := 4, cells := 0, slots := 0, locals := 91 } : Room).frames ∧ 91 ≤ ({ frames := 4, cells := 0, slots := 0, locals := 91 } : Room).locals := ⟨Nat.le_refl _, Nat.le_refl _⟩
  show ZF p l e _ s m args below meth c g TK voB 9 k 0 [(0, .ref (g.2.1 10)), (1, .int a0), (2, .int a1), (3, .int a2)] [] (fX11_isDead k a0 a1 a2)
  unfold fX11_isDead
  refine zf_aload_n hC dX11_isDead_0 rfl 0 rfl ?_
  refine gf_412 hC dX11_isDead_1 ?_
  refine zf_iload_n hC dX11_isDead_4 rfl 1 rfl ?_
  refine zf_iload_n hC dX11_isDead_5 rfl 3 rfl ?_
  refine zf_callV hC (c_X6_ruleOfDeath l g a0 a2) mt_X6_ruleOfDeath wd_883 wd_884 ci_5 ic_5 wd_882 rfl (rm_le hR rfl) rfl rfl (rest := []) rfl (Nat.le_of_ble_eq_true rfl) dX11_isDead_6 (fun r1 k2 h3 => ?_)
  refine zf_istore hC (LV' := [(4, .int r1), (0, .ref (g.2.1 10)), (1, .int a0), (2, .int a1), (3, .int a2)]) dX11_isDead_9 (by decide) rfl ?_
  refine zf_iload hC dX11_isDead_11 0 rfl ?_
  refine zf_iconst hC (v := (-1)) dX11_isDead_13 rfl ?_
  refine zf_icmp_ne hC (tgt := 19) dX11_isDead_14 (by decide) (fun h4 => ?_) (fun h4 => ?_)
  · refine zf_iconst hC (v := 0) dX11_isDead_17 rfl ?_
    exact zf_zret hC rfl false rfl dX11_isDead_18
  · refine zf_iload_n hC dX11_isDead_19 rfl 3 rfl ?_
    refine zf_iload_n hC dX11_isDead_20 rfl 4 rfl ?_
    refine zf_callS hC (c_J9_min_7cf53 l g TK a1 a2) mt_J9_min_7cf53 wd_750 wd_877 rfl (rm_le hR rfl) rfl rfl (rest := []) rfl (Nat.le_of_ble_eq_true rfl) dX11_isDead_21 (fun r5 k6 h7 => ?_)
    refine zf_istore hC (LV' := [(5, .int r5), (4, .int r1), (0, .ref (g.2.1 10)), (1, .int a0), (2, .int a1), (3, .int a2)]) dX11_isDead_24 (by decide) rfl ?_
    refine zf_iload_n hC dX11_isDead_26 rfl 3 rfl ?_
    refine zf_callS hC (c_X6_deathOf l g TK a0) mt_X6_deathOf wd_855 wd_854 rfl (rm_le hR rfl) rfl rfl (rest := []) rfl (Nat.le_of_ble_eq_true rfl) dX11_isDead_27 (fun r8 k9 h10 => ?_)
    refine zf_istore hC (LV' := [(6, .int r8), (5, .int r5), (4, .int r1), (0, .ref (g.2.1 10)), (1, .int a0), (2, .int a1), (3, .int a2)]) dX11_isDead_30 (by decide) rfl ?_
    refine zf_aload_n hC dX11_isDead_32 rfl 3 rfl ?_
    refine gf_412 hC dX11_isDead_33 ?_
    refine zf_iload hC dX11_isDead_36 0 rfl ?_
    refine zf_iload hC dX11_isDead_38 1 rfl ?_
    refine zf_callV hC (c_X6_firstYes l g r8 r5) mt_X6_firstYes wd_887 wd_888 ci_5 ic_5 wd_886 rfl (rm_le hR rfl) rfl rfl (rest := []) rfl (Nat.le_of_ble_eq_true rfl) dX11_isDead_40 (fun r11 k12 h13 => ?_)
    refine zf_istore hC (LV' := [(7, .int r11), (6, .int r8), (5, .int r5), (4, .int r1), (0, .ref (g.2.1 10)), (1, .int a0), (2, .int a1), (3, .int a2)]) dX11_isDead_43 (by decide) rfl ?_
    refine zf_iload hC dX11_isDead_45 0 rfl ?_
    refine zf_iconst hC (v := (-1)) dX11_isDead_47 rfl ?_
    refine zf_icmp_ne hC (tgt := 55) dX11_isDead_48 (by decide) (fun h14 => ?_) (fun h14 => ?_)
    · refine zf_iconst hC (v := (-1)) dX11_isDead_51 rfl ?_
      refine zf_goto hC (tgt := 59) dX11_isDead_52 (by decide) ?_
      refine zf_istore hC (LV' := [(8, .int (-1)), (7, .int r11), (6, .int r8), (5, .int r5), (4, .int r1), (0, .ref (g.2.1 10)), (1, .int a0), (2, .int a1), (3, .int a2)]) dX11_isDead_59 (by decide) rfl ?_
      refine zf_aload_n hC dX11_isDead_61 rfl 5 rfl ?_
      refine gf_411 hC dX11_isDead_62 ?_
      refine zf_iload hC dX11_isDead_65 4 rfl ?_
      refine zf_aload_n hC dX11_isDead_67 rfl 5 rfl ?_
      refine gf_412 hC dX11_isDead_68 ?_
      refine zf_iload hC dX11_isDead_71 2 rfl ?_
      refine zf_iload hC dX11_isDead_73 3 rfl ?_
      refine zf_callV hC (c_X6_voices l g r8 r5) mt_X6_voices wd_891 wd_892 ci_5 ic_5 wd_890 rfl (rm_le hR rfl) rfl rfl (rest := [.int r1, .ref (g.2.1 4)]) rfl (Nat.le_of_ble_eq_true rfl) dX11_isDead_75 (fun r15 k16 h17 => ?_)
      refine zf_iconst hC (v := 0) dX11_isDead_78 rfl ?_
      refine zf_iload hC dX11_isDead_79 0 rfl ?_
      refine zf_callV hC (c_X5_holds l g r1 r15 0 (-1)) mt_X5_holds wd_895 wd_896 ci_4 ic_4 wd_894 rfl (rm_le hR rfl) rfl rfl (rest := []) rfl (Nat.le_of_ble_eq_true rfl) dX11_isDead_81 (fun r18 k19 h20 => ?_)
      exact zf_zret hC rfl r18 rfl dX11_isDead_84
    · refine zf_iload_n hC dX11_isDead_55 rfl 6 rfl ?_
      refine zf_iload hC dX11_isDead_56 0 rfl ?_
      refine zf_isub hC dX11_isDead_58 ?_
      refine zf_istore hC (LV' := [(8, .int (a1 - r11)), (7, .int r11), (6, .int r8), (5, .int r5), (4, .int r1), (0, .ref (g.2.1 10)), (1, .int a0), (2, .int a1), (3, .int a2)]) dX11_isDead_59 (by decide) rfl ?_
      refine zf_aload_n hC dX11_isDead_61 rfl 5 rfl ?_
      refine gf_411 hC dX11_isDead_62 ?_
      refine zf_iload hC dX11_isDead_65 4 rfl ?_
      refine zf_aload_n hC dX11_isDead_67 rfl 5 rfl ?_
      refine gf_412 hC dX11_isDead_68 ?_
      refine zf_iload hC dX11_isDead_71 2 rfl ?_
      refine zf_iload hC dX11_isDead_73 3 rfl ?_
      refine zf_callV hC (c_X6_voices l g r8 r5) mt_X6_voices wd_891 wd_892 ci_5 ic_5 wd_890 rfl (rm_le hR rfl) rfl rfl (rest := [.int r1, .ref (g.2.1 4)]) rfl (Nat.le_of_ble_eq_true rfl) dX11_isDead_75 (fun r21 k22 h23 => ?_)
      refine zf_iconst hC (v := 0) dX11_isDead_78 rfl ?_
      refine zf_iload hC dX11_isDead_79 0 rfl ?_
      refine zf_callV hC (c_X5_holds l g r1 r21 0 (a1 - r11)) mt_X5_holds wd_895 wd_896 ci_4 ic_4 wd_894 rfl (rm_le hR rfl) rfl rfl (rest := []) rfl (Nat.le_of_ble_eq_true rfl) dX11_isDead_81 (fun r24 k25 h26 => ?_)
      exact zf_zret hC rfl r24 rfl dX11_isDead_84
