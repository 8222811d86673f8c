/-! LifeKeysModel.thrown -/
theorem dX12_thrown_0 : decode cX12_thrown 0 = .ok (.aload_n 0, 1) := by decide +kernel
theorem dX12_thrown_1 : decode cX12_thrown 1 = .ok (.getfield 181, 3) := by decide +kernel
theorem dX12_thrown_4 : decode cX12_thrown 4 = .ok (.ireturn, 1) := by decide +kernel
def fX12_thrown (k : ST)  : Option (Int32 × ST) := some (gI k 11 0, k)
set_option maxRecDepth 20000 in
theorem c_X12_thrown (l : Launch) (g : GT)  : CN l yX12_thrown cX12_thrown 1 (some .int) { frames := 0, cells := 0, slots := 0, locals := 0 } g TM voI [.ref (g.2.1 11)] (fun k => fX12_thrown k) := by
  refine cn_of (by decide) (Nat.le_of_ble_eq_true rfl) ?_
  intro p e s m args below meth c hC k
  have hC : HC p s m args meth c cX12_thrown 1 RX12 (some .int) g := hC
  have hR : 0 ≤ ({ frames := 0, cells := 0, slots := 0, locals := 0 } : Room).frames ∧ 0 ≤ ({ frames := 0, cells := 0, slots := 0, locals := 0 } : Room).locals := ⟨Nat.le_refl _, Nat.le_refl _⟩
  show ZF p l e _ s m args below meth c g TM voI 1 k 0 [(0, .ref (g.2.1 11))] [] (fX12_thrown k)
  unfold fX12_thrown
  refine zf_aload_n hC dX12_thrown_0 rfl 0 rfl ?_
  refine gf_1230 hC dX12_thrown_1 ?_
  exact zf_iret hC rfl dX12_thrown_4
/-! LifeKeysModel.isIn -/
theorem dX12_isIn_0 : decode cX12_isIn 0 = .ok (.iload_n 0, 1) := by decide +kernel
theorem dX12_isIn_1 : decode cX12_isIn 1 = .ok (.iload_n 1, 1) := by decide +kernel
theorem dX12_isIn_2 : decode cX12_isIn 2 = .ok (.if_icmp .lt 12, 3) := by decide +kernel
theorem dX12_isIn_5 : decode cX12_isIn 5 = .ok (.iload_n 0, 1) := by decide +kernel
theorem dX12_isIn_6 : decode cX12_isIn 6 = .ok (.iload_n 2, 1) := by decide +kernel
theorem dX12_isIn_7 : decode cX12_isIn 7 = .ok (.if_icmp .gt 7, 3) := by decide +kernel
theorem dX12_isIn_10 : decode cX12_isIn 10 = .ok (.iconst 1, 1) := by decide +kernel
theorem dX12_isIn_11 : decode cX12_isIn 11 = .ok (.goto 4, 3) := by decide +kernel
theorem dX12_isIn_14 : decode cX12_isIn 14 = .ok (.iconst 0, 1) := by decide +kernel
theorem dX12_isIn_15 : decode cX12_isIn 15 = .ok (.ireturn, 1) := by decide +kernel
def fX12_isIn (k : ST) (a0 : Int32) (a1 : Int32) (a2 : Int32) : Option (Bool × ST) := if a0 < a1 then some (false, k) else if a2 < a0 then some (false, k) else some (true, k)
set_option maxRecDepth 20000 in
theorem c_X12_isIn (l : Launch) (g : GT) (T : TT) (a0 : Int32) (a1 : Int32) (a2 : Int32) : CN l yX12_isIn cX12_isIn 3 (some .boolean) { frames := 0, cells := 0, slots := 0, locals := 0 } g T voB [.int a0, .int a1, .int a2] (fun k => fX12_isIn k a0 a1 a2) := by
  refine cn_of (by decide) (Nat.le_of_ble_eq_true rfl) ?_
  intro p e s m args below meth c hC k
  have hC : HC p s m args meth c cX12_isIn 3 RX12 (some .boolean) g := hC
  have hR : 0 ≤ ({ frames := 0, cells := 0, slots := 0, locals := 0 } : Room).frames ∧ 0 ≤ ({ frames := 0, cells := 0, slots := 0, locals := 0 } : Room).locals := ⟨Nat.le_refl _, Nat.le_refl _⟩
  show ZF p l e _ s m args below meth c g T voB 3 k 0 [(0, .int a0), (1, .int a1), (2, .int a2)] [] (fX12_isIn k a0 a1 a2)
  unfold fX12_isIn
  refine zf_iload_n hC dX12_isIn_0 rfl 0 rfl ?_
  refine zf_iload_n hC dX12_isIn_1 rfl 1 rfl ?_
  refine zf_icmp_lt hC (tgt := 14) dX12_isIn_2 (by decide) (fun h1 => ?_) (fun h1 => ?_)
  · refine zf_iconst hC (v := 0) dX12_isIn_14 rfl ?_
    exact zf_zret hC rfl false rfl dX12_isIn_15
  · refine zf_iload_n hC dX12_isIn_5 rfl 0 rfl ?_
    refine zf_iload_n hC dX12_isIn_6 rfl 2 rfl ?_
    refine zf_icmp_gt hC (tgt := 14) dX12_isIn_7 (by decide) (fun h2 => ?_) (fun h2 => ?_)
    · refine zf_iconst hC (v := 0) dX12_isIn_14 rfl ?_
      exact zf_zret hC rfl false rfl dX12_isIn_15
    · refine zf_iconst hC (v := 1) dX12_isIn_10 rfl ?_
      refine zf_goto hC (tgt := 15) dX12_isIn_11 (by decide) ?_
      exact zf_zret hC rfl true rfl dX12_isIn_15
/-! LifeKeysModel.days -/
theorem dX12_days_0 : decode cX12_days 0 = .ok (.aload_n 0, 1) := by decide +kernel
theorem dX12_days_1 : decode cX12_days 1 = .ok (.iconst 0, 1) := by decide +kernel
theorem dX12_days_2 : decode cX12_days 2 = .ok (.putfield 181, 3) := by decide +kernel
theorem dX12_days_5 : decode cX12_days 5 = .ok (.iload_n 1, 1) := by decide +kernel
theorem dX12_days_6 : decode cX12_days 6 = .ok (.iconst 0, 1) := by decide +kernel
theorem dX12_days_7 : decode cX12_days 7 = .ok (.sipush 1000, 3) := by decide +kernel
theorem dX12_days_10 : decode cX12_days 10 = .ok (.invokestatic 188, 3) := by decide +kernel
theorem dX12_days_13 : decode cX12_days 13 = .ok (.ifCond .eq 15, 3) := by decide +kernel
theorem dX12_days_16 : decode cX12_days 16 = .ok (.aload_n 0, 1) := by decide +kernel
theorem dX12_days_17 : decode cX12_days 17 = .ok (.getfield 185, 3) := by decide +kernel
theorem dX12_days_20 : decode cX12_days 20 = .ok (.iload_n 1, 1) := by decide +kernel
theorem dX12_days_21 : decode cX12_days 21 = .ok (.iadd, 1) := by decide +kernel
theorem dX12_days_22 : decode cX12_days 22 = .ok (.sipush 2000, 3) := by decide +kernel
theorem dX12_days_25 : decode cX12_days 25 = .ok (.if_icmp .le 5, 3) := by decide +kernel
theorem dX12_days_28 : decode cX12_days 28 = .ok (.iconst (-1), 1) := by decide +kernel
theorem dX12_days_29 : decode cX12_days 29 = .ok (.ireturn, 1) := by decide +kernel
theorem dX12_days_30 : decode cX12_days 30 = .ok (.aload_n 0, 1) := by decide +kernel
theorem dX12_days_31 : decode cX12_days 31 = .ok (.dup, 1) := by decide +kernel
theorem dX12_days_32 : decode cX12_days 32 = .ok (.getfield 185, 3) := by decide +kernel
theorem dX12_days_35 : decode cX12_days 35 = .ok (.iload_n 1, 1) := by decide +kernel
theorem dX12_days_36 : decode cX12_days 36 = .ok (.iadd, 1) := by decide +kernel
theorem dX12_days_37 : decode cX12_days 37 = .ok (.putfield 185, 3) := by decide +kernel
theorem dX12_days_40 : decode cX12_days 40 = .ok (.aload_n 0, 1) := by decide +kernel
theorem dX12_days_41 : decode cX12_days 41 = .ok (.getfield 185, 3) := by decide +kernel
theorem dX12_days_44 : decode cX12_days 44 = .ok (.ireturn, 1) := by decide +kernel
def fX12_days (k : ST) (a0 : Int32) : Option (Int32 × ST) := nm (sI k 11 0 0) fun k1 => ob (fX12_isIn k1 a0 0 1000) fun r2 k3 => if r2 = true then if ((gI k3 11 1) + a0) ≤ 2000 then nm (sI k3 11 1 ((gI k3 11 1) + a0)) fun k7 => some (gI k7 11 1, k7) else some ((-1), k3) else some ((-1), k3)
set_option maxRecDepth 20000 in
theorem c_X12_days (l : Launch) (g : GT) (a0 : Int32) : CN l yX12_days cX12_days 2 (some .int) { frames := 1, cells := 0, slots := 0, locals := 22 } g TM voI [.ref (g.2.1 11), .int a0] (fun k => fX12_days k a0) := by
  refine cn_of (by decide) (Nat.le_of_ble_eq_true rfl) ?_
  intro p e s m args below meth c hC k
  have hC : HC p s m args meth c cX12_days 2 RX12 (some .int) g := hC
  have hR : 1 ≤ ({ frames := 1, cells := 0, slots := 0, locals := 22 } : Room).frames ∧ 22 ≤ ({ frames := 1, cells := 0, slots := 0, locals := 22 } : Room).locals := ⟨Nat.le_refl _, Nat.le_refl _⟩
  show ZF p l e _ s m args below meth c g TM voI 2 k 0 [(0, .ref (g.2.1 11)), (1, .int a0)] [] (fX12_days k a0)
  unfold fX12_days
  refine zf_aload_n hC dX12_days_0 rfl 0 rfl ?_
  refine zf_iconst hC (v := 0) dX12_days_1 rfl ?_
  refine pf_1230 hC dX12_days_2 ?_
  refine zf_nmk (fun k1 => ?_)
  refine zf_iload_n hC dX12_days_5 rfl 1 rfl ?_
  refine zf_iconst hC (v := 0) dX12_days_6 rfl ?_
  refine zf_sipush hC (v := 1000) dX12_days_7 rfl ?_
  refine zf_callS hC (c_X12_isIn l g TM a0 0 1000) mt_X12_isIn wd_1495 wd_1494 rfl (rm_le hR rfl) rfl rfl (rest := []) rfl (Nat.le_of_ble_eq_true rfl) dX12_days_10 (fun r2 k3 h4 => ?_)
  refine zf_ifb_eq hC (tgt := 28) dX12_days_13 (by decide) (fun h5 => ?_) (fun h5 => ?_)
  · refine zf_aload_n hC dX12_days_16 rfl 0 rfl ?_
    refine gf_1231 hC dX12_days_17 ?_
    refine zf_iload_n hC dX12_days_20 rfl 1 rfl ?_
    refine zf_iadd hC dX12_days_21 ?_
    refine zf_sipush hC (v := 2000) dX12_days_22 rfl ?_
    refine zf_icmp_le hC (tgt := 30) dX12_days_25 (by decide) (fun h6 => ?_) (fun h6 => ?_)
    · refine zf_aload_n hC dX12_days_30 rfl 0 rfl ?_
      refine zf_dup hC dX12_days_31 rfl ?_
      refine gf_1231 hC dX12_days_32 ?_
      refine zf_iload_n hC dX12_days_35 rfl 1 rfl ?_
      refine zf_iadd hC dX12_days_36 ?_
      refine pf_1231 hC dX12_days_37 ?_
      refine zf_nmk (fun k7 => ?_)
      refine zf_aload_n hC dX12_days_40 rfl 0 rfl ?_
      refine gf_1231 hC dX12_days_41 ?_
      exact zf_iret hC rfl dX12_days_44
    · refine zf_iconst hC (v := (-1)) dX12_days_28 rfl ?_
      exact zf_iret hC rfl dX12_days_29
  · refine zf_iconst hC (v := (-1)) dX12_days_28 rfl ?_
    exact zf_iret hC rfl dX12_days_29
/-! LifeKeysModel.holder -/
theorem dX12_holder_0 : decode cX12_holder 0 = .ok (.aload_n 0, 1) := by decide +kernel
theorem dX12_holder_1 : decode cX12_holder 1 = .ok (.iconst 0, 1) := by decide +kernel
theorem dX12_holder_2 : decode cX12_holder 2 = .ok (.putfield 181, 3) := by decide +kernel
theorem dX12_holder_5 : decode cX12_holder 5 = .ok (.aload_n 0, 1) := by decide +kernel
theorem dX12_holder_6 : decode cX12_holder 6 = .ok (.getfield 196, 3) := by decide +kernel
theorem dX12_holder_9 : decode cX12_holder 9 = .ok (.bipush 12, 2) := by decide +kernel
theorem dX12_holder_11 : decode cX12_holder 11 = .ok (.if_icmp .ne 5, 3) := by decide +kernel
theorem dX12_holder_14 : decode cX12_holder 14 = .ok (.iconst (-1), 1) := by decide +kernel
theorem dX12_holder_15 : decode cX12_holder 15 = .ok (.ireturn, 1) := by decide +kernel
theorem dX12_holder_16 : decode cX12_holder 16 = .ok (.aload_n 0, 1) := by decide +kernel
theorem dX12_holder_17 : decode cX12_holder 17 = .ok (.dup, 1) := by decide +kernel
theorem dX12_holder_18 : decode cX12_holder 18 = .ok (.getfield 196, 3) := by decide +kernel
theorem dX12_holder_21 : decode cX12_holder 21 = .ok (.iconst 1, 1) := by decide +kernel
theorem dX12_holder_22 : decode cX12_holder 22 = .ok (.iadd, 1) := by decide +kernel
theorem dX12_holder_23 : decode cX12_holder 23 = .ok (.putfield 196, 3) := by decide +kernel
theorem dX12_holder_26 : decode cX12_holder 26 = .ok (.aload_n 0, 1) := by decide +kernel
theorem dX12_holder_27 : decode cX12_holder 27 = .ok (.getfield 196, 3) := by decide +kernel
theorem dX12_holder_30 : decode cX12_holder 30 = .ok (.iconst 1, 1) := by decide +kernel
theorem dX12_holder_31 : decode cX12_holder 31 = .ok (.isub, 1) := by decide +kernel
theorem dX12_holder_32 : decode cX12_holder 32 = .ok (.ireturn, 1) := by decide +kernel
def fX12_holder (k : ST)  : Option (Int32 × ST) := nm (sI k 11 0 0) fun k1 => if (gI k1 11 12) = 12 then some ((-1), k1) else nm (sI k1 11 12 ((gI k1 11 12) + 1)) fun k3 => some ((gI k3 11 12) - 1, k3)
set_option maxRecDepth 20000 in
theorem c_X12_holder (l : Launch) (g : GT)  : CN l yX12_holder cX12_holder 1 (some .int) { frames := 0, cells := 0, slots := 0, locals := 0 } g TM voI [.ref (g.2.1 11)] (fun k => fX12_holder k) := by
  refine cn_of (by decide) (Nat.le_of_ble_eq_true rfl) ?_
  intro p e s m args below meth c hC k
  have hC : HC p s m args meth c cX12_holder 1 RX12 (some .int) g := hC
  have hR : 0 ≤ ({ frames := 0, cells := 0, slots := 0, locals := 0 } : Room).frames ∧ 0 ≤ ({ frames := 0, cells := 0, slots := 0, locals := 0 } : Room).locals := ⟨Nat.le_refl _, Nat.le_refl _⟩
  show ZF p l e _ s m args below meth c g TM voI 1 k 0 [(0, .ref (g.2.1 11))] [] (fX12_holder k)
  unfold fX12_holder
  refine zf_aload_n hC dX12_holder_0 rfl 0 rfl ?_
  refine zf_iconst hC (v := 0) dX12_holder_1 rfl ?_
  refine pf_1230 hC dX12_holder_2 ?_
  refine zf_nmk (fun k1 => ?_)
  refine zf_aload_n hC dX12_holder_5 rfl 0 rfl ?_
  refine gf_1242 hC dX12_holder_6 ?_
  refine zf_bipush hC (v := 12) dX12_holder_9 rfl ?_
  refine zf_icmp_ne hC (tgt := 16) dX12_holder_11 (by decide) (fun h2 => ?_) (fun h2 => ?_)
  · refine zf_iconst hC (v := (-1)) dX12_holder_14 rfl ?_
    exact zf_iret hC rfl dX12_holder_15
  · refine zf_aload_n hC dX12_holder_16 rfl 0 rfl ?_
    refine zf_dup hC dX12_holder_17 rfl ?_
    refine gf_1242 hC dX12_holder_18 ?_
    refine zf_iconst hC (v := 1) dX12_holder_21 rfl ?_
    refine zf_iadd hC dX12_holder_22 ?_
    refine pf_1242 hC dX12_holder_23 ?_
    refine zf_nmk (fun k3 => ?_)
    refine zf_aload_n hC dX12_holder_26 rfl 0 rfl ?_
    refine gf_1242 hC dX12_holder_27 ?_
    refine zf_iconst hC (v := 1) dX12_holder_30 rfl ?_
    refine zf_isub hC dX12_holder_31 ?_
    exact zf_iret hC rfl dX12_holder_32
/-! LifeKeysModel.add -/
theorem dX12_add_0 : decode cX12_add 0 = .ok (.aload_n 0, 1) := by decide +kernel
theorem dX12_add_1 : decode cX12_add 1 = .ok (.getfield 9, 3) := by decide +kernel
theorem dX12_add_4 : decode cX12_add 4 = .ok (.aload_n 0, 1) := by decide +kernel
theorem dX12_add_5 : decode cX12_add 5 = .ok (.getfield 199, 3) := by decide +kernel
theorem dX12_add_8 : decode cX12_add 8 = .ok (.iload_n 1, 1) := by decide +kernel
theorem dX12_add_9 : decode cX12_add 9 = .ok (.iastore, 1) := by decide +kernel
theorem dX12_add_10 : decode cX12_add 10 = .ok (.aload_n 0, 1) := by decide +kernel
theorem dX12_add_11 : decode cX12_add 11 = .ok (.getfield 13, 3) := by decide +kernel
theorem dX12_add_14 : decode cX12_add 14 = .ok (.aload_n 0, 1) := by decide +kernel
theorem dX12_add_15 : decode cX12_add 15 = .ok (.getfield 199, 3) := by decide +kernel
theorem dX12_add_18 : decode cX12_add 18 = .ok (.iload_n 2, 1) := by decide +kernel
theorem dX12_add_19 : decode cX12_add 19 = .ok (.iastore, 1) := by decide +kernel
theorem dX12_add_20 : decode cX12_add 20 = .ok (.aload_n 0, 1) := by decide +kernel
theorem dX12_add_21 : decode cX12_add 21 = .ok (.getfield 16, 3) := by decide +kernel
theorem dX12_add_24 : decode cX12_add 24 = .ok (.aload_n 0, 1) := by decide +kernel
theorem dX12_add_25 : decode cX12_add 25 = .ok (.getfield 199, 3) := by decide +kernel
theorem dX12_add_28 : decode cX12_add 28 = .ok (.iload_n 3, 1) := by decide +kernel
theorem dX12_add_29 : decode cX12_add 29 = .ok (.iastore, 1) := by decide +kernel
theorem dX12_add_30 : decode cX12_add 30 = .ok (.aload_n 0, 1) := by decide +kernel
theorem dX12_add_31 : decode cX12_add 31 = .ok (.getfield 19, 3) := by decide +kernel
theorem dX12_add_34 : decode cX12_add 34 = .ok (.aload_n 0, 1) := by decide +kernel
theorem dX12_add_35 : decode cX12_add 35 = .ok (.getfield 199, 3) := by decide +kernel
theorem dX12_add_38 : decode cX12_add 38 = .ok (.aload_n 0, 1) := by decide +kernel
theorem dX12_add_39 : decode cX12_add 39 = .ok (.getfield 185, 3) := by decide +kernel
theorem dX12_add_42 : decode cX12_add 42 = .ok (.iastore, 1) := by decide +kernel
theorem dX12_add_43 : decode cX12_add 43 = .ok (.aload_n 0, 1) := by decide +kernel
theorem dX12_add_44 : decode cX12_add 44 = .ok (.getfield 22, 3) := by decide +kernel
theorem dX12_add_47 : decode cX12_add 47 = .ok (.aload_n 0, 1) := by decide +kernel
theorem dX12_add_48 : decode cX12_add 48 = .ok (.getfield 199, 3) := by decide +kernel
theorem dX12_add_51 : decode cX12_add 51 = .ok (.iconst (-1), 1) := by decide +kernel
theorem dX12_add_52 : decode cX12_add 52 = .ok (.iastore, 1) := by decide +kernel
theorem dX12_add_53 : decode cX12_add 53 = .ok (.aload_n 0, 1) := by decide +kernel
theorem dX12_add_54 : decode cX12_add 54 = .ok (.dup, 1) := by decide +kernel
theorem dX12_add_55 : decode cX12_add 55 = .ok (.getfield 199, 3) := by decide +kernel
theorem dX12_add_58 : decode cX12_add 58 = .ok (.iconst 1, 1) := by decide +kernel
theorem dX12_add_59 : decode cX12_add 59 = .ok (.iadd, 1) := by decide +kernel
theorem dX12_add_60 : decode cX12_add 60 = .ok (.putfield 199, 3) := by decide +kernel
theorem dX12_add_63 : decode cX12_add 63 = .ok (.aload_n 0, 1) := by decide +kernel
theorem dX12_add_64 : decode cX12_add 64 = .ok (.getfield 199, 3) := by decide +kernel
theorem dX12_add_67 : decode cX12_add 67 = .ok (.iconst 1, 1) := by decide +kernel
theorem dX12_add_68 : decode cX12_add 68 = .ok (.isub, 1) := by decide +kernel
theorem dX12_add_69 : decode cX12_add 69 = .ok (.ireturn, 1) := by decide +kernel
def fX12_add (k : ST) (a0 : Int32) (a1 : Int32) (a2 : Int32) : Option (Int32 × ST) := ck (inb (gI k 11 13) 40) (nm (sA k 99 (ix (gI k 11 13)) a0) fun k2 => ck (inb (gI k2 11 13) 40) (nm (sA k2 100 (ix (gI k2 11 13)) a1) fun k4 => ck (inb (gI k4 11 13) 40) (nm (sA k4 101 (ix (gI k4 11 13)) a2) fun k6 => ck (inb (gI k6 11 13) 40) (nm (sA k6 102 (ix (gI k6 11 13)) (gI k6 11 1)) fun k8 => ck (inb (gI k8 11 13) 40) (nm (sA k8 103 (ix (gI k8 11 13)) (-1)) fun k10 => nm (sI k10 11 13 ((gI k10 11 13) + 1)) fun k11 => some ((gI k11 11 13) - 1, k11))))))
set_option maxRecDepth 20000 in
theorem c_X12_add (l : Launch) (g : GT) (a0 : Int32) (a1 : Int32) (a2 : Int32) : CN l yX12_add cX12_add 4 (some .int) { frames := 0, cells := 0, slots := 0, locals := 0 } g TM voI [.ref (g.2.1 11), .int a0, .int a1, .int a2] (fun k => fX12_add k a0 a1 a2) := by
  refine cn_of (by decide) (Nat.le_of_ble_eq_true rfl) ?_
  intro p e s m args below meth c hC k
  have hC : HC p s m args meth c cX12_add 4 RX12 (some .int) g := hC
  have hR : 0 ≤ ({ frames := 0, cells := 0, slots := 0, locals := 0 } : Room).frames ∧ 0 ≤ ({ frames := 0, cells := 0, slots := 0, locals := 0 } : Room).locals := ⟨Nat.le_refl _, Nat.le_refl _⟩
  show ZF p l e _ s m args below meth c g TM voI 4 k 0 [(0, .ref (g.2.1 11)), (1, .int a0), (2, .int a1), (3, .int a2)] [] (fX12_add k a0 a1 a2)
  unfold fX12_add
  refine zf_aload_n hC dX12_add_0 rfl 0 rfl ?_
  refine gf_1232 hC dX12_add_1 ?_
  refine zf_aload_n hC dX12_add_4 rfl 0 rfl ?_
  refine gf_1243 hC dX12_add_5 ?_
  refine zf_iload_n hC dX12_add_8 rfl 1 rfl ?_
  refine zf_iast hC (j := 99) ia_99 rfl rfl dX12_add_9 (fun h1 => ?_)
  refine zf_nmk (fun k2 => ?_)
  refine zf_aload_n hC dX12_add_10 rfl 0 rfl ?_
  refine gf_1233 hC dX12_add_11 ?_
  refine zf_aload_n hC dX12_add_14 rfl 0 rfl ?_
  refine gf_1243 hC dX12_add_15 ?_
  refine zf_iload_n hC dX12_add_18 rfl 2 rfl ?_
  refine zf_iast hC (j := 100) ia_100 rfl rfl dX12_add_19 (fun h3 => ?_)
  refine zf_nmk (fun k4 => ?_)
  refine zf_aload_n hC dX12_add_20 rfl 0 rfl ?_
  refine gf_1234 hC dX12_add_21 ?_
  refine zf_aload_n hC dX12_add_24 rfl 0 rfl ?_
  refine gf_1243 hC dX12_add_25 ?_
  refine zf_iload_n hC dX12_add_28 rfl 3 rfl ?_
  refine zf_iast hC (j := 101) ia_101 rfl rfl dX12_add_29 (fun h5 => ?_)
  refine zf_nmk (fun k6 => ?_)
  refine zf_aload_n hC dX12_add_30 rfl 0 rfl ?_
  refine gf_1235 hC dX12_add_31 ?_
  refine zf_aload_n hC dX12_add_34 rfl 0 rfl ?_
  refine gf_1243 hC dX12_add_35 ?_
  refine zf_aload_n hC dX12_add_38 rfl 0 rfl ?_
  refine gf_1231 hC dX12_add_39 ?_
  refine zf_iast hC (j := 102) ia_102 rfl rfl dX12_add_42 (fun h7 => ?_)
  refine zf_nmk (fun k8 => ?_)
  refine zf_aload_n hC dX12_add_43 rfl 0 rfl ?_
  refine gf_1236 hC dX12_add_44 ?_
  refine zf_aload_n hC dX12_add_47 rfl 0 rfl ?_
  refine gf_1243 hC dX12_add_48 ?_
  refine zf_iconst hC (v := (-1)) dX12_add_51 rfl ?_
  refine zf_iast hC (j := 103) ia_103 rfl rfl dX12_add_52 (fun h9 => ?_)
  refine zf_nmk (fun k10 => ?_)
  refine zf_aload_n hC dX12_add_53 rfl 0 rfl ?_
  refine zf_dup hC dX12_add_54 rfl ?_
  refine gf_1243 hC dX12_add_55 ?_
  refine zf_iconst hC (v := 1) dX12_add_58 rfl ?_
  refine zf_iadd hC dX12_add_59 ?_
  refine pf_1243 hC dX12_add_60 ?_
  refine zf_nmk (fun k11 => ?_)
  refine zf_aload_n hC dX12_add_63 rfl 0 rfl ?_
  refine gf_1243 hC dX12_add_64 ?_
  refine zf_iconst hC (v := 1) dX12_add_67 rfl ?_
  refine zf_isub hC dX12_add_68 ?_
  exact zf_iret hC rfl dX12_add_69
/-! LifeKeysModel.key -/
theorem dX12_key_0 : decode cX12_key 0 = .ok (.aload_n 0, 1) := by decide +kernel
theorem dX12_key_1 : decode cX12_key 1 = .ok (.iconst 0, 1) := by decide +kernel
theorem dX12_key_2 : decode cX12_key 2 = .ok (.putfield 181, 3) := by decide +kernel
theorem dX12_key_5 : decode cX12_key 5 = .ok (.aload_n 0, 1) := by decide +kernel
theorem dX12_key_6 : decode cX12_key 6 = .ok (.getfield 199, 3) := by decide +kernel
theorem dX12_key_9 : decode cX12_key 9 = .ok (.bipush 40, 2) := by decide +kernel
theorem dX12_key_11 : decode cX12_key 11 = .ok (.if_icmp .ge 32, 3) := by decide +kernel
theorem dX12_key_14 : decode cX12_key 14 = .ok (.iload_n 1, 1) := by decide +kernel
theorem dX12_key_15 : decode cX12_key 15 = .ok (.iconst 1, 1) := by decide +kernel
theorem dX12_key_16 : decode cX12_key 16 = .ok (.sipush 1018, 3) := by decide +kernel
theorem dX12_key_19 : decode cX12_key 19 = .ok (.invokestatic 188, 3) := by decide +kernel
theorem dX12_key_22 : decode cX12_key 22 = .ok (.ifCond .eq 21, 3) := by decide +kernel
theorem dX12_key_25 : decode cX12_key 25 = .ok (.aload_n 0, 1) := by decide +kernel
theorem dX12_key_26 : decode cX12_key 26 = .ok (.iload_n 2, 1) := by decide +kernel
theorem dX12_key_27 : decode cX12_key 27 = .ok (.ifCond .eq 7, 3) := by decide +kernel
theorem dX12_key_30 : decode cX12_key 30 = .ok (.iconst 1, 1) := by decide +kernel
theorem dX12_key_31 : decode cX12_key 31 = .ok (.goto 4, 3) := by decide +kernel
theorem dX12_key_34 : decode cX12_key 34 = .ok (.iconst 0, 1) := by decide +kernel
theorem dX12_key_35 : decode cX12_key 35 = .ok (.iload_n 1, 1) := by decide +kernel
theorem dX12_key_36 : decode cX12_key 36 = .ok (.iconst (-1), 1) := by decide +kernel
theorem dX12_key_37 : decode cX12_key 37 = .ok (.invokevirtual 202, 3) := by decide +kernel
theorem dX12_key_40 : decode cX12_key 40 = .ok (.goto 4, 3) := by decide +kernel
theorem dX12_key_43 : decode cX12_key 43 = .ok (.iconst (-1), 1) := by decide +kernel
theorem dX12_key_44 : decode cX12_key 44 = .ok (.ireturn, 1) := by decide +kernel
def fX12_key (k : ST) (a0 : Int32) (a1 : Bool) : Option (Int32 × ST) := nm (sI k 11 0 0) fun k1 => if 40 ≤ (gI k1 11 13) then some ((-1), k1) else ob (fX12_isIn k1 a0 1 1018) fun r3 k4 => if r3 = true then if a1 = true then ob (fX12_add k4 1 a0 (-1)) fun r8 k9 => some (r8, k9) else ob (fX12_add k4 0 a0 (-1)) fun r11 k12 => some (r11, k12) else some ((-1), k4)
set_option maxRecDepth 20000 in
theorem c_X12_key (l : Launch) (g : GT) (a0 : Int32) (a1 : Bool) : CN l yX12_key cX12_key 3 (some .int) { frames := 1, cells := 0, slots := 0, locals := 23 } g TM voI [.ref (g.2.1 11), .int a0, .int (b2i a1)] (fun k => fX12_key k a0 a1) := by
  refine cn_of (by decide) (Nat.le_of_ble_eq_true rfl) ?_
  intro p e s m args below meth c hC k
  have hC : HC p s m args meth c cX12_key 3 RX12 (some .int) g := hC
  have hR : 1 ≤ ({ frames := 1, cells := 0, slots := 0, locals := 23 } : Room).frames ∧ 23 ≤ ({ frames := 1, cells := 0, slots := 0, locals := 23 } : Room).locals := ⟨Nat.le_refl _, Nat.le_refl _⟩
  show ZF p l e _ s m args below meth c g TM voI 3 k 0 [(0, .ref (g.2.1 11)), (1, .int a0), (2, .int (b2i a1))] [] (fX12_key k a0 a1)
  unfold fX12_key
  refine zf_aload_n hC dX12_key_0 rfl 0 rfl ?_
  refine zf_iconst hC (v := 0) dX12_key_1 rfl ?_
  refine pf_1230 hC dX12_key_2 ?_
  refine zf_nmk (fun k1 => ?_)
  refine zf_aload_n hC dX12_key_5 rfl 0 rfl ?_
  refine gf_1243 hC dX12_key_6 ?_
  refine zf_bipush hC (v := 40) dX12_key_9 rfl ?_
  refine zf_icmp_ge hC (tgt := 43) dX12_key_11 (by decide) (fun h2 => ?_) (fun h2 => ?_)
  · refine zf_iconst hC (v := (-1)) dX12_key_43 rfl ?_
    exact zf_iret hC rfl dX12_key_44
  · refine zf_iload_n hC dX12_key_14 rfl 1 rfl ?_
    refine zf_iconst hC (v := 1) dX12_key_15 rfl ?_
    refine zf_sipush hC (v := 1018) dX12_key_16 rfl ?_
    refine zf_callS hC (c_X12_isIn l g TM a0 1 1018) mt_X12_isIn wd_1495 wd_1494 rfl (rm_le hR rfl) rfl rfl (rest := []) rfl (Nat.le_of_ble_eq_true rfl) dX12_key_19 (fun r3 k4 h5 => ?_)
    refine zf_ifb_eq hC (tgt := 43) dX12_key_22 (by decide) (fun h6 => ?_) (fun h6 => ?_)
    · refine zf_aload_n hC dX12_key_25 rfl 0 rfl ?_
      refine zf_iload_n hC dX12_key_26 rfl 2 rfl ?_
      refine zf_ifb_eq hC (tgt := 34) dX12_key_27 (by decide) (fun h7 => ?_) (fun h7 => ?_)
      · refine zf_iconst hC (v := 1) dX12_key_30 rfl ?_
        refine zf_goto hC (tgt := 35) dX12_key_31 (by decide) ?_
        refine zf_iload_n hC dX12_key_35 rfl 1 rfl ?_
        refine zf_iconst hC (v := (-1)) dX12_key_36 rfl ?_
        refine zf_callV hC (c_X12_add l g 1 a0 (-1)) mt_X12_add wd_1507 sp_45 ci_11 ic_11 wd_1505 rfl (rm_le hR rfl) rfl rfl (rest := []) rfl (Nat.le_of_ble_eq_true rfl) dX12_key_37 (fun r8 k9 h10 => ?_)
        refine zf_goto hC (tgt := 44) dX12_key_40 (by decide) ?_
        exact zf_iret hC rfl dX12_key_44
      · refine zf_iconst hC (v := 0) dX12_key_34 rfl ?_
        refine zf_iload_n hC dX12_key_35 rfl 1 rfl ?_
        refine zf_iconst hC (v := (-1)) dX12_key_36 rfl ?_
        refine zf_callV hC (c_X12_add l g 0 a0 (-1)) mt_X12_add wd_1507 sp_45 ci_11 ic_11 wd_1505 rfl (rm_le hR rfl) rfl rfl (rest := []) rfl (Nat.le_of_ble_eq_true rfl) dX12_key_37 (fun r11 k12 h13 => ?_)
        refine zf_goto hC (tgt := 44) dX12_key_40 (by decide) ?_
        exact zf_iret hC rfl dX12_key_44
    · refine zf_iconst hC (v := (-1)) dX12_key_43 rfl ?_
      exact zf_iret hC rfl dX12_key_44
/-! LifeKeysModel.bytesIn -/
theorem dX12_bytesIn_0 : decode cX12_bytesIn 0 = .ok (.iconst 0, 1) := by decide +kernel
theorem dX12_bytesIn_1 : decode cX12_bytesIn 1 = .ok (.istore_n 1, 1) := by decide +kernel
theorem dX12_bytesIn_2 : decode cX12_bytesIn 2 = .ok (.bipush 24, 2) := by decide +kernel
theorem dX12_bytesIn_4 : decode cX12_bytesIn 4 = .ok (.istore_n 2, 1) := by decide +kernel
theorem dX12_bytesIn_5 : decode cX12_bytesIn 5 = .ok (.iload_n 2, 1) := by decide +kernel
theorem dX12_bytesIn_6 : decode cX12_bytesIn 6 = .ok (.ifCond .lt 27, 3) := by decide +kernel
theorem dX12_bytesIn_9 : decode cX12_bytesIn 9 = .ok (.iload_n 1, 1) := by decide +kernel
theorem dX12_bytesIn_10 : decode cX12_bytesIn 10 = .ok (.iload_n 0, 1) := by decide +kernel
theorem dX12_bytesIn_11 : decode cX12_bytesIn 11 = .ok (.iload_n 2, 1) := by decide +kernel
theorem dX12_bytesIn_12 : decode cX12_bytesIn 12 = .ok (.ishr, 1) := by decide +kernel
theorem dX12_bytesIn_13 : decode cX12_bytesIn 13 = .ok (.sipush 255, 3) := by decide +kernel
theorem dX12_bytesIn_16 : decode cX12_bytesIn 16 = .ok (.iand, 1) := by decide +kernel
theorem dX12_bytesIn_17 : decode cX12_bytesIn 17 = .ok (.ifCond .eq 7, 3) := by decide +kernel
theorem dX12_bytesIn_20 : decode cX12_bytesIn 20 = .ok (.iconst 1, 1) := by decide +kernel
theorem dX12_bytesIn_21 : decode cX12_bytesIn 21 = .ok (.goto 4, 3) := by decide +kernel
theorem dX12_bytesIn_24 : decode cX12_bytesIn 24 = .ok (.iconst 0, 1) := by decide +kernel
theorem dX12_bytesIn_25 : decode cX12_bytesIn 25 = .ok (.iadd, 1) := by decide +kernel
theorem dX12_bytesIn_26 : decode cX12_bytesIn 26 = .ok (.istore_n 1, 1) := by decide +kernel
theorem dX12_bytesIn_27 : decode cX12_bytesIn 27 = .ok (.iinc 2 (-8), 3) := by decide +kernel
theorem dX12_bytesIn_30 : decode cX12_bytesIn 30 = .ok (.goto (-25), 3) := by decide +kernel
theorem dX12_bytesIn_33 : decode cX12_bytesIn 33 = .ok (.iload_n 1, 1) := by decide +kernel
theorem dX12_bytesIn_34 : decode cX12_bytesIn 34 = .ok (.ireturn, 1) := by decide +kernel
def lpX12_bytesIn_5 (v0 : Int32) : Nat → Int32 → Int32 → ST → (Int32 → Int32 → ST → Option (Int32 × ST)) → Option (Int32 × ST)
  | 0, _, _, _, _ => none
  | n + 1, v1, v2, k, cont => if v2 < 0 then cont v1 v2 k else if ((j_shr v0 v2) &&& 255) = 0 then lpX12_bytesIn_5 v0 n (v1 + 0) (v2 + (-8)) k cont else lpX12_bytesIn_5 v0 n (v1 + 1) (v2 + (-8)) k cont
set_option maxRecDepth 20000 in
theorem zlpX12_bytesIn_5 {p : Program} {l : Launch} {e : Env} {R : Room} {s : State} {m : MethodId} {args : Array Value} {below : List Frame} {meth : Method} {c : Code} {g : GT} {T : TT} (hC : HC p s m args meth c cX12_bytesIn 3 RX12 (some .int) g) (hR : 0 ≤ R.frames ∧ 0 ≤ R.locals)  (v0 : Int32) {cont : Int32 → Int32 → ST → Option (Int32 × ST)} (hk : ∀ (v1 : Int32) (v2 : Int32) (k : ST), ZF p l e R s m args below meth c g T voI 3 k 33 [(0, .int v0), (1, .int v1), (2, .int v2)] [] (cont v1 v2 k)) : ∀ (n : Nat) (v1 : Int32) (v2 : Int32) (k : ST), ZF p l e R s m args below meth c g T voI 3 k 5 [(0, .int v0), (1, .int v1), (2, .int v2)] [] (lpX12_bytesIn_5 v0 n v1 v2 k cont) := by
  intro n
  induction n with
  | zero => intros; exact zf_none
  | succ n ih =>
    intro v1 v2 k
    rw [lpX12_bytesIn_5]
    refine zf_iload_n hC dX12_bytesIn_5 rfl 2 rfl ?_
    refine zf_if_lt hC (tgt := 33) dX12_bytesIn_6 (by decide) (fun h1 => ?_) (fun h1 => ?_)
    · refine zf_lv (LV' := [(0, .int v0), (1, .int v1), (2, .int v2)]) [0, 1, 2] rfl ?_
      exact hk v1 v2 k
    · refine zf_iload_n hC dX12_bytesIn_9 rfl 1 rfl ?_
      refine zf_iload_n hC dX12_bytesIn_10 rfl 0 rfl ?_
      refine zf_iload_n hC dX12_bytesIn_11 rfl 2 rfl ?_
      refine zf_ishr hC dX12_bytesIn_12 ?_
      refine zf_sipush hC (v := 255) dX12_bytesIn_13 rfl ?_
      refine zf_iand hC dX12_bytesIn_16 ?_
      refine zf_if_eq hC (tgt := 24) dX12_bytesIn_17 (by decide) (fun h2 => ?_) (fun h2 => ?_)
      · refine zf_iconst hC (v := 0) dX12_bytesIn_24 rfl ?_
        refine zf_iadd hC dX12_bytesIn_25 ?_
        refine zf_istore_n hC (LV' := [(1, .int (v1 + 0)), (0, .int v0), (2, .int v2)]) dX12_bytesIn_26 rfl (by decide) rfl ?_
        refine zf_iinc hC (q := 2) (v := v2 + (-8)) (LV' := [(2, .int (v2 + (-8))), (1, .int (v1 + 0)), (0, .int v0)]) dX12_bytesIn_27 rfl rfl (by decide) rfl ?_
        refine zf_goto hC (tgt := 5) dX12_bytesIn_30 (by decide) ?_
        refine zf_lv (LV' := [(0, .int v0), (1, .int (v1 + 0)), (2, .int (v2 + (-8)))]) [2, 1, 0] rfl ?_
        exact ih (v1 + 0) (v2 + (-8)) k
      · refine zf_iconst hC (v := 1) dX12_bytesIn_20 rfl ?_
        refine zf_goto hC (tgt := 25) dX12_bytesIn_21 (by decide) ?_
        refine zf_iadd hC dX12_bytesIn_25 ?_
        refine zf_istore_n hC (LV' := [(1, .int (v1 + 1)), (0, .int v0), (2, .int v2)]) dX12_bytesIn_26 rfl (by decide) rfl ?_
        refine zf_iinc hC (q := 2) (v := v2 + (-8)) (LV' := [(2, .int (v2 + (-8))), (1, .int (v1 + 1)), (0, .int v0)]) dX12_bytesIn_27 rfl rfl (by decide) rfl ?_
        refine zf_goto hC (tgt := 5) dX12_bytesIn_30 (by decide) ?_
        refine zf_lv (LV' := [(0, .int v0), (1, .int (v1 + 1)), (2, .int (v2 + (-8)))]) [2, 1, 0] rfl ?_
        exact ih (v1 + 1) (v2 + (-8)) k
def fX12_bytesIn (k : ST) (a0 : Int32) : Option (Int32 × ST) := lpX12_bytesIn_5 a0 FU 0 24 k fun y3 y4 k5 => some (y3, k5)
set_option maxRecDepth 20000 in
theorem c_X12_bytesIn (l : Launch) (g : GT) (T : TT) (a0 : Int32) : CN l yX12_bytesIn cX12_bytesIn 3 (some .int) { frames := 0, cells := 0, slots := 0, locals := 0 } g T voI [.int a0] (fun k => fX12_bytesIn k a0) := by
  refine cn_of (by decide) (Nat.le_of_ble_eq_true rfl) ?_
  intro p e s m args below meth c hC k
  have hC : HC p s m args meth c cX12_bytesIn 3 RX12 (some .int) g := hC
  have hR : 0 ≤ ({ frames := 0, cells := 0, slots := 0, locals := 0 } : Room).frames ∧ 0 ≤ ({ frames := 0, cells := 0, slots := 0, locals := 0 } : Room).locals := ⟨Nat.le_refl _, Nat.le_refl _⟩
  show ZF p l e _ s m args below meth c g T voI 3 k 0 [(0, .int a0)] [] (fX12_bytesIn k a0)
  unfold fX12_bytesIn
  refine zf_iconst hC (v := 0) dX12_bytesIn_0 rfl ?_
  refine zf_istore_n hC (LV' := [(1, .int 0), (0, .int a0)]) dX12_bytesIn_1 rfl (by decide) rfl ?_
  refine zf_bipush hC (v := 24) dX12_bytesIn_2 rfl ?_
  refine zf_istore_n hC (LV' := [(2, .int 24), (1, .int 0), (0, .int a0)]) dX12_bytesIn_4 rfl (by decide) rfl ?_
  refine zf_lv (LV' := [(0, .int a0), (1, .int 0), (2, .int 24)]) [2, 1, 0] rfl ?_
  refine zlpX12_bytesIn_5 hC hR a0 (fun y3 y4 k5 => ?_) FU 0 24 k
  refine zf_iload_n hC dX12_bytesIn_33 rfl 1 rfl ?_
  exact zf_iret hC rfl dX12_bytesIn_34
/-! LifeKeysModel.put -/
theorem dX12_put_0 : decode cX12_put 0 = .ok (.bipush 24, 2) := by decide +kernel
theorem dX12_put_2 : decode cX12_put 2 = .ok (.istore_n 2, 1) := by decide +kernel
theorem dX12_put_3 : decode cX12_put 3 = .ok (.iload_n 2, 1) := by decide +kernel
theorem dX12_put_4 : decode cX12_put 4 = .ok (.ifCond .lt 45, 3) := by decide +kernel
theorem dX12_put_7 : decode cX12_put 7 = .ok (.iload_n 1, 1) := by decide +kernel
theorem dX12_put_8 : decode cX12_put 8 = .ok (.iload_n 2, 1) := by decide +kernel
theorem dX12_put_9 : decode cX12_put 9 = .ok (.ishr, 1) := by decide +kernel
theorem dX12_put_10 : decode cX12_put 10 = .ok (.sipush 255, 3) := by decide +kernel
theorem dX12_put_13 : decode cX12_put 13 = .ok (.iand, 1) := by decide +kernel
theorem dX12_put_14 : decode cX12_put 14 = .ok (.ifCond .ne 6, 3) := by decide +kernel
theorem dX12_put_17 : decode cX12_put 17 = .ok (.goto 26, 3) := by decide +kernel
theorem dX12_put_20 : decode cX12_put 20 = .ok (.aload_n 0, 1) := by decide +kernel
theorem dX12_put_21 : decode cX12_put 21 = .ok (.getfield 41, 3) := by decide +kernel
theorem dX12_put_24 : decode cX12_put 24 = .ok (.aload_n 0, 1) := by decide +kernel
theorem dX12_put_25 : decode cX12_put 25 = .ok (.getfield 205, 3) := by decide +kernel
theorem dX12_put_28 : decode cX12_put 28 = .ok (.iload_n 1, 1) := by decide +kernel
theorem dX12_put_29 : decode cX12_put 29 = .ok (.iload_n 2, 1) := by decide +kernel
theorem dX12_put_30 : decode cX12_put 30 = .ok (.ishr, 1) := by decide +kernel
theorem dX12_put_31 : decode cX12_put 31 = .ok (.i2b, 1) := by decide +kernel
theorem dX12_put_32 : decode cX12_put 32 = .ok (.bastore, 1) := by decide +kernel
theorem dX12_put_33 : decode cX12_put 33 = .ok (.aload_n 0, 1) := by decide +kernel
theorem dX12_put_34 : decode cX12_put 34 = .ok (.dup, 1) := by decide +kernel
theorem dX12_put_35 : decode cX12_put 35 = .ok (.getfield 205, 3) := by decide +kernel
theorem dX12_put_38 : decode cX12_put 38 = .ok (.iconst 1, 1) := by decide +kernel
theorem dX12_put_39 : decode cX12_put 39 = .ok (.iadd, 1) := by decide +kernel
theorem dX12_put_40 : decode cX12_put 40 = .ok (.putfield 205, 3) := by decide +kernel
theorem dX12_put_43 : decode cX12_put 43 = .ok (.iinc 2 (-8), 3) := by decide +kernel
theorem dX12_put_46 : decode cX12_put 46 = .ok (.goto (-43), 3) := by decide +kernel
theorem dX12_put_49 : decode cX12_put 49 = .ok (.return_, 1) := by decide +kernel
def lpX12_put_3 (v1 : Int32) : Nat → Int32 → ST → (Int32 → ST → Option (Unit × ST)) → Option (Unit × ST)
  | 0, _, _, _ => none
  | n + 1, v2, k, cont => if v2 < 0 then cont v2 k else if ((j_shr v1 v2) &&& 255) = 0 then lpX12_put_3 v1 n (v2 + (-8)) k cont else ck (inb (gI k 11 16) 160) (nm (sA k 109 (ix (gI k 11 16)) (Int8.toInt32 (Int32.toInt8 (Int8.toInt32 (Int32.toInt8 (j_shr v1 v2)))))) fun k4 => nm (sI k4 11 16 ((gI k4 11 16) + 1)) fun k5 => lpX12_put_3 v1 n (v2 + (-8)) k5 cont)
set_option maxRecDepth 20000 in
theorem zlpX12_put_3 {p : Program} {l : Launch} {e : Env} {R : Room} {s : State} {m : MethodId} {args : Array Value} {below : List Frame} {meth : Method} {c : Code} {g : GT} (hC : HC p s m args meth c cX12_put 3 RX12 none g) (hR : 0 ≤ R.frames ∧ 0 ≤ R.locals)  (v1 : Int32) {cont : Int32 → ST → Option (Unit × ST)} (hk : ∀ (v2 : Int32) (k : ST), ZF p l e R s m args below meth c g TM voV 3 k 49 [(0, .ref (g.2.1 11)), (1, .int v1), (2, .int v2)] [] (cont v2 k)) : ∀ (n : Nat) (v2 : Int32) (k : ST), ZF p l e R s m args below meth c g TM voV 3 k 3 [(0, .ref (g.2.1 11)), (1, .int v1), (2, .int v2)] [] (lpX12_put_3 v1 n v2 k cont) := by
  intro n
  induction n with
  | zero => intros; exact zf_none
  | succ n ih =>
    intro v2 k
    rw [lpX12_put_3]
    refine zf_iload_n hC dX12_put_3 rfl 2 rfl ?_
    refine zf_if_lt hC (tgt := 49) dX12_put_4 (by decide) (fun h1 => ?_) (fun h1 => ?_)
    · refine zf_lv (LV' := [(0, .ref (g.2.1 11)), (1, .int v1), (2, .int v2)]) [0, 1, 2] rfl ?_
      exact hk v2 k
    · refine zf_iload_n hC dX12_put_7 rfl 1 rfl ?_
      refine zf_iload_n hC dX12_put_8 rfl 2 rfl ?_
      refine zf_ishr hC dX12_put_9 ?_
      refine zf_sipush hC (v := 255) dX12_put_10 rfl ?_
      refine zf_iand hC dX12_put_13 ?_
      refine zf_if_ne hC (tgt := 20) dX12_put_14 (by decide) (fun h2 => ?_) (fun h2 => ?_)
      · refine zf_goto hC (tgt := 43) dX12_put_17 (by decide) ?_
        refine zf_iinc hC (q := 2) (v := v2 + (-8)) (LV' := [(2, .int (v2 + (-8))), (0, .ref (g.2.1 11)), (1, .int v1)]) dX12_put_43 rfl rfl (by decide) rfl ?_
        refine zf_goto hC (tgt := 3) dX12_put_46 (by decide) ?_
        refine zf_lv (LV' := [(0, .ref (g.2.1 11)), (1, .int v1), (2, .int (v2 + (-8)))]) [1, 2, 0] rfl ?_
        exact ih (v2 + (-8)) k
      · refine zf_aload_n hC dX12_put_20 rfl 0 rfl ?_
        refine gf_1245 hC dX12_put_21 ?_
        refine zf_aload_n hC dX12_put_24 rfl 0 rfl ?_
        refine gf_1246 hC dX12_put_25 ?_
        refine zf_iload_n hC dX12_put_28 rfl 1 rfl ?_
        refine zf_iload_n hC dX12_put_29 rfl 2 rfl ?_
        refine zf_ishr hC dX12_put_30 ?_
        refine zf_i2b hC dX12_put_31 ?_
        refine zf_bast hC (j := 109) ia_109 rfl rfl dX12_put_32 (fun h3 => ?_)
        refine zf_nmk (fun k4 => ?_)
        refine zf_aload_n hC dX12_put_33 rfl 0 rfl ?_
        refine zf_dup hC dX12_put_34 rfl ?_
        refine gf_1246 hC dX12_put_35 ?_
        refine zf_iconst hC (v := 1) dX12_put_38 rfl ?_
        refine zf_iadd hC dX12_put_39 ?_
        refine pf_1246 hC dX12_put_40 ?_
        refine zf_nmk (fun k5 => ?_)
        refine zf_iinc hC (q := 2) (v := v2 + (-8)) (LV' := [(2, .int (v2 + (-8))), (0, .ref (g.2.1 11)), (1, .int v1)]) dX12_put_43 rfl rfl (by decide) rfl ?_
        refine zf_goto hC (tgt := 3) dX12_put_46 (by decide) ?_
        refine zf_lv (LV' := [(0, .ref (g.2.1 11)), (1, .int v1), (2, .int (v2 + (-8)))]) [1, 2, 0] rfl ?_
        exact ih (v2 + (-8)) k5
def fX12_put (k : ST) (a0 : Int32) : Option (Unit × ST) := lpX12_put_3 a0 FU 24 k fun y6 k7 => some ((), k7)
set_option maxRecDepth 20000 in
theorem c_X12_put (l : Launch) (g : GT) (a0 : Int32) : CN l yX12_put cX12_put 3 none { frames := 0, cells := 0, slots := 0, locals := 0 } g TM voV [.ref (g.2.1 11), .int a0] (fun k => fX12_put k a0) := by
  refine cn_of (by decide) (Nat.le_of_ble_eq_true rfl) ?_
  intro p e s m args below meth c hC k
  have hC : HC p s m args meth c cX12_put 3 RX12 none g := hC
  have hR : 0 ≤ ({ frames := 0, cells := 0, slots := 0, locals := 0 } : Room).frames ∧ 0 ≤ ({ frames := 0, cells := 0, slots := 0, locals := 0 } : Room).locals := ⟨Nat.le_refl _, Nat.le_refl _⟩
  show ZF p l e _ s m args below meth c g TM voV 3 k 0 [(0, .ref (g.2.1 11)), (1, .int a0)] [] (fX12_put k a0)
  unfold fX12_put
  refine zf_bipush hC (v := 24) dX12_put_0 rfl ?_
  refine zf_istore_n hC (LV' := [(2, .int 24), (0, .ref (g.2.1 11)), (1, .int a0)]) dX12_put_2 rfl (by decide) rfl ?_
  refine zf_lv (LV' := [(0, .ref (g.2.1 11)), (1, .int a0), (2, .int 24)]) [1, 2, 0] rfl ?_
  refine zlpX12_put_3 hC hR a0 (fun y6 k7 => ?_) FU 24 k
  exact zf_vret hC rfl dX12_put_49
/-! LifeKeysModel.feed -/
theorem dX12_feed_0 : decode cX12_feed 0 = .ok (.aload_n 0, 1) := by decide +kernel
theorem dX12_feed_1 : decode cX12_feed 1 = .ok (.iconst 0, 1) := by decide +kernel
theorem dX12_feed_2 : decode cX12_feed 2 = .ok (.putfield 181, 3) := by decide +kernel
theorem dX12_feed_5 : decode cX12_feed 5 = .ok (.aload_n 0, 1) := by decide +kernel
theorem dX12_feed_6 : decode cX12_feed 6 = .ok (.getfield 205, 3) := by decide +kernel
theorem dX12_feed_9 : decode cX12_feed 9 = .ok (.iload_n 1, 1) := by decide +kernel
theorem dX12_feed_10 : decode cX12_feed 10 = .ok (.invokestatic 208, 3) := by decide +kernel
theorem dX12_feed_13 : decode cX12_feed 13 = .ok (.iadd, 1) := by decide +kernel
theorem dX12_feed_14 : decode cX12_feed 14 = .ok (.iload_n 2, 1) := by decide +kernel
theorem dX12_feed_15 : decode cX12_feed 15 = .ok (.invokestatic 208, 3) := by decide +kernel
theorem dX12_feed_18 : decode cX12_feed 18 = .ok (.iadd, 1) := by decide +kernel
theorem dX12_feed_19 : decode cX12_feed 19 = .ok (.iload_n 3, 1) := by decide +kernel
theorem dX12_feed_20 : decode cX12_feed 20 = .ok (.invokestatic 208, 3) := by decide +kernel
theorem dX12_feed_23 : decode cX12_feed 23 = .ok (.iadd, 1) := by decide +kernel
theorem dX12_feed_24 : decode cX12_feed 24 = .ok (.iload 4, 2) := by decide +kernel
theorem dX12_feed_26 : decode cX12_feed 26 = .ok (.invokestatic 208, 3) := by decide +kernel
theorem dX12_feed_29 : decode cX12_feed 29 = .ok (.iadd, 1) := by decide +kernel
theorem dX12_feed_30 : decode cX12_feed 30 = .ok (.iload 5, 2) := by decide +kernel
theorem dX12_feed_32 : decode cX12_feed 32 = .ok (.invokestatic 208, 3) := by decide +kernel
theorem dX12_feed_35 : decode cX12_feed 35 = .ok (.iadd, 1) := by decide +kernel
theorem dX12_feed_36 : decode cX12_feed 36 = .ok (.sipush 160, 3) := by decide +kernel
theorem dX12_feed_39 : decode cX12_feed 39 = .ok (.if_icmp .le 5, 3) := by decide +kernel
theorem dX12_feed_42 : decode cX12_feed 42 = .ok (.iconst (-1), 1) := by decide +kernel
theorem dX12_feed_43 : decode cX12_feed 43 = .ok (.ireturn, 1) := by decide +kernel
theorem dX12_feed_44 : decode cX12_feed 44 = .ok (.aload_n 0, 1) := by decide +kernel
theorem dX12_feed_45 : decode cX12_feed 45 = .ok (.iload_n 1, 1) := by decide +kernel
theorem dX12_feed_46 : decode cX12_feed 46 = .ok (.invokevirtual 212, 3) := by decide +kernel
theorem dX12_feed_49 : decode cX12_feed 49 = .ok (.aload_n 0, 1) := by decide +kernel
theorem dX12_feed_50 : decode cX12_feed 50 = .ok (.iload_n 2, 1) := by decide +kernel
theorem dX12_feed_51 : decode cX12_feed 51 = .ok (.invokevirtual 212, 3) := by decide +kernel
theorem dX12_feed_54 : decode cX12_feed 54 = .ok (.aload_n 0, 1) := by decide +kernel
theorem dX12_feed_55 : decode cX12_feed 55 = .ok (.iload_n 3, 1) := by decide +kernel
theorem dX12_feed_56 : decode cX12_feed 56 = .ok (.invokevirtual 212, 3) := by decide +kernel
theorem dX12_feed_59 : decode cX12_feed 59 = .ok (.aload_n 0, 1) := by decide +kernel
theorem dX12_feed_60 : decode cX12_feed 60 = .ok (.iload 4, 2) := by decide +kernel
theorem dX12_feed_62 : decode cX12_feed 62 = .ok (.invokevirtual 212, 3) := by decide +kernel
theorem dX12_feed_65 : decode cX12_feed 65 = .ok (.aload_n 0, 1) := by decide +kernel
theorem dX12_feed_66 : decode cX12_feed 66 = .ok (.iload 5, 2) := by decide +kernel
theorem dX12_feed_68 : decode cX12_feed 68 = .ok (.invokevirtual 212, 3) := by decide +kernel
theorem dX12_feed_71 : decode cX12_feed 71 = .ok (.aload_n 0, 1) := by decide +kernel
theorem dX12_feed_72 : decode cX12_feed 72 = .ok (.getfield 205, 3) := by decide +kernel
theorem dX12_feed_75 : decode cX12_feed 75 = .ok (.ireturn, 1) := by decide +kernel
def fX12_feed (k : ST) (a0 : Int32) (a1 : Int32) (a2 : Int32) (a3 : Int32) (a4 : Int32) : Option (Int32 × ST) := nm (sI k 11 0 0) fun k1 => ob (fX12_bytesIn k1 a0) fun r2 k3 => ob (fX12_bytesIn k3 a1) fun r5 k6 => ob (fX12_bytesIn k6 a2) fun r8 k9 => ob (fX12_bytesIn k9 a3) fun r11 k12 => ob (fX12_bytesIn k12 a4) fun r14 k15 => if ((((((gI k1 11 16) + r2) + r5) + r8) + r11) + r14) ≤ 160 then ob (fX12_put k15 a0) fun r18 k19 => ob (fX12_put k19 a1) fun r21 k22 => ob (fX12_put k22 a2) fun r24 k25 => ob (fX12_put k25 a3) fun r27 k28 => ob (fX12_put k28 a4) fun r30 k31 => some (gI k31 11 16, k31) else some ((-1), k15)
set_option maxRecDepth 20000 in
theorem c_X12_feed (l : Launch) (g : GT) (a0 : Int32) (a1 : Int32) (a2 : Int32) (a3 : Int32) (a4 : Int32) : CN l yX12_feed cX12_feed 6 (some .int) { frames := 1, cells := 0, slots := 0, locals := 22 } g TM voI [.ref (g.2.1 11), .int a0, .int a1, .int a2, .int a3, .int a4] (fun k => fX12_feed k a0 a1 a2 a3 a4) := by
  refine cn_of (by decide) (Nat.le_of_ble_eq_true rfl) ?_
  intro p e s m args below meth c hC k
  have hC : HC p s m args meth c cX12_feed 6 RX12 (some .int) g := hC
  have hR : 1 ≤ ({ frames := 1, cells := 0, slots := 0, locals := 22 } : Room).frames ∧ 22 ≤ ({ frames := 1, cells := 0, slots := 0, locals := 22 } : Room).locals := ⟨Nat.le_refl _, Nat.le_refl _⟩
  show ZF p l e _ s m args below meth c g TM voI 6 k 0 [(0, .ref (g.2.1 11)), (1, .int a0), (2, .int a1), (3, .int a2), (4, .int a3), (5, .int a4)] [] (fX12_feed k a0 a1 a2 a3 a4)
  unfold fX12_feed
  refine zf_aload_n hC dX12_feed_0 rfl 0 rfl ?_
  refine zf_iconst hC (v := 0) dX12_feed_1 rfl ?_
  refine pf_1230 hC dX12_feed_2 ?_
  refine zf_nmk (fun k1 => ?_)
  refine zf_aload_n hC dX12_feed_5 rfl 0 rfl ?_
  refine gf_1246 hC dX12_feed_6 ?_
  refine zf_iload_n hC dX12_feed_9 rfl 1 rfl ?_
  refine zf_callS hC (c_X12_bytesIn l g TM a0) mt_X12_bytesIn wd_1514 wd_1513 rfl (rm_le hR rfl) rfl rfl (rest := [.int (gI k1 11 16)]) rfl (Nat.le_of_ble_eq_true rfl) dX12_feed_10 (fun r2 k3 h4 => ?_)
  refine zf_iadd hC dX12_feed_13 ?_
  refine zf_iload_n hC dX12_feed_14 rfl 2 rfl ?_
  refine zf_callS hC (c_X12_bytesIn l g TM a1) mt_X12_bytesIn wd_1514 wd_1513 rfl (rm_le hR rfl) rfl rfl (rest := [.int ((gI k1 11 16) + r2)]) rfl (Nat.le_of_ble_eq_true rfl) dX12_feed_15 (fun r5 k6 h7 => ?_)
  refine zf_iadd hC dX12_feed_18 ?_
  refine zf_iload_n hC dX12_feed_19 rfl 3 rfl ?_
  refine zf_callS hC (c_X12_bytesIn l g TM a2) mt_X12_bytesIn wd_1514 wd_1513 rfl (rm_le hR rfl) rfl rfl (rest := [.int (((gI k1 11 16) + r2) + r5)]) rfl (Nat.le_of_ble_eq_true rfl) dX12_feed_20 (fun r8 k9 h10 => ?_)
  refine zf_iadd hC dX12_feed_23 ?_
  refine zf_iload hC dX12_feed_24 4 rfl ?_
  refine zf_callS hC (c_X12_bytesIn l g TM a3) mt_X12_bytesIn wd_1514 wd_1513 rfl (rm_le hR rfl) rfl rfl (rest := [.int ((((gI k1 11 16) + r2) + r5) + r8)]) rfl (Nat.le_of_ble_eq_true rfl) dX12_feed_26 (fun r11 k12 h13 => ?_)
  refine zf_iadd hC dX12_feed_29 ?_
  refine zf_iload hC dX12_feed_30 5 rfl ?_
  refine zf_callS hC (c_X12_bytesIn l g TM a4) mt_X12_bytesIn wd_1514 wd_1513 rfl (rm_le hR rfl) rfl rfl (rest := [.int (((((gI k1 11 16) + r2) + r5) + r8) + r11)]) rfl (Nat.le_of_ble_eq_true rfl) dX12_feed_32 (fun r14 k15 h16 => ?_)
  refine zf_iadd hC dX12_feed_35 ?_
  refine zf_sipush hC (v := 160) dX12_feed_36 rfl ?_
  refine zf_icmp_le hC (tgt := 44) dX12_feed_39 (by decide) (fun h17 => ?_) (fun h17 => ?_)
  · refine zf_aload_n hC dX12_feed_44 rfl 0 rfl ?_
    refine zf_iload_n hC dX12_feed_45 rfl 1 rfl ?_
    refine zf_callV hC (c_X12_put l g a0) mt_X12_put wd_1518 sp_46 ci_11 ic_11 wd_1516 rfl (rm_le hR rfl) rfl rfl (rest := []) rfl (Nat.le_of_ble_eq_true rfl) dX12_feed_46 (fun r18 k19 h20 => ?_)
    refine zf_aload_n hC dX12_feed_49 rfl 0 rfl ?_
    refine zf_iload_n hC dX12_feed_50 rfl 2 rfl ?_
    refine zf_callV hC (c_X12_put l g a1) mt_X12_put wd_1518 sp_46 ci_11 ic_11 wd_1516 rfl (rm_le hR rfl) rfl rfl (rest := []) rfl (Nat.le_of_ble_eq_true rfl) dX12_feed_51 (fun r21 k22 h23 => ?_)
    refine zf_aload_n hC dX12_feed_54 rfl 0 rfl ?_
    refine zf_iload_n hC dX12_feed_55 rfl 3 rfl ?_
    refine zf_callV hC (c_X12_put l g a2) mt_X12_put wd_1518 sp_46 ci_11 ic_11 wd_1516 rfl (rm_le hR rfl) rfl rfl (rest := []) rfl (Nat.le_of_ble_eq_true rfl) dX12_feed_56 (fun r24 k25 h26 => ?_)
    refine zf_aload_n hC dX12_feed_59 rfl 0 rfl ?_
    refine zf_iload hC dX12_feed_60 4 rfl ?_
    refine zf_callV hC (c_X12_put l g a3) mt_X12_put wd_1518 sp_46 ci_11 ic_11 wd_1516 rfl (rm_le hR rfl) rfl rfl (rest := []) rfl (Nat.le_of_ble_eq_true rfl) dX12_feed_62 (fun r27 k28 h29 => ?_)
    refine zf_aload_n hC dX12_feed_65 rfl 0 rfl ?_
    refine zf_iload hC dX12_feed_66 5 rfl ?_
    refine zf_callV hC (c_X12_put l g a4) mt_X12_put wd_1518 sp_46 ci_11 ic_11 wd_1516 rfl (rm_le hR rfl) rfl rfl (rest := []) rfl (Nat.le_of_ble_eq_true rfl) dX12_feed_68 (fun r30 k31 h32 => ?_)
    refine zf_aload_n hC dX12_feed_71 rfl 0 rfl ?_
    refine gf_1246 hC dX12_feed_72 ?_
    exact zf_iret hC rfl dX12_feed_75
  · refine zf_iconst hC (v := (-1)) dX12_feed_42 rfl ?_
    exact zf_iret hC rfl dX12_feed_43
/-! LifeKeysModel.end -/
theorem dX12_end_0 : decode cX12_end 0 = .ok (.aload_n 0, 1) := by decide +kernel
theorem dX12_end_1 : decode cX12_end 1 = .ok (.iconst 0, 1) := by decide +kernel
theorem dX12_end_2 : decode cX12_end 2 = .ok (.putfield 181, 3) := by decide +kernel
theorem dX12_end_5 : decode cX12_end 5 = .ok (.iload_n 1, 1) := by decide +kernel
theorem dX12_end_6 : decode cX12_end 6 = .ok (.ifCond .lt 11, 3) := by decide +kernel
theorem dX12_end_9 : decode cX12_end 9 = .ok (.iload_n 1, 1) := by decide +kernel
theorem dX12_end_10 : decode cX12_end 10 = .ok (.aload_n 0, 1) := by decide +kernel
theorem dX12_end_11 : decode cX12_end 11 = .ok (.getfield 205, 3) := by decide +kernel
theorem dX12_end_14 : decode cX12_end 14 = .ok (.if_icmp .le 5, 3) := by decide +kernel
theorem dX12_end_17 : decode cX12_end 17 = .ok (.iconst 0, 1) := by decide +kernel
theorem dX12_end_18 : decode cX12_end 18 = .ok (.ireturn, 1) := by decide +kernel
theorem dX12_end_19 : decode cX12_end 19 = .ok (.aload_n 0, 1) := by decide +kernel
theorem dX12_end_20 : decode cX12_end 20 = .ok (.iload_n 1, 1) := by decide +kernel
theorem dX12_end_21 : decode cX12_end 21 = .ok (.putfield 205, 3) := by decide +kernel
theorem dX12_end_24 : decode cX12_end 24 = .ok (.iconst 1, 1) := by decide +kernel
theorem dX12_end_25 : decode cX12_end 25 = .ok (.ireturn, 1) := by decide +kernel
def fX12_end (k : ST) (a0 : Int32) : Option (Bool × ST) := nm (sI k 11 0 0) fun k1 => if a0 < 0 then some (false, k1) else if a0 ≤ (gI k1 11 16) then nm (sI k1 11 16 a0) fun k4 => some (true, k4) else some (false, k1)
set_option maxRecDepth 20000 in
theorem c_X12_end (l : Launch) (g : GT) (a0 : Int32) : CN l yX12_end cX12_end 2 (some .boolean) { frames := 0, cells := 0, slots := 0, locals := 0 } g TM voB [.ref (g.2.1 11), .int a0] (fun k => fX12_end k a0) := by
  refine cn_of (by decide) (Nat.le_of_ble_eq_true rfl) ?_
  intro p e s m args below meth c hC k
  have hC : HC p s m args meth c cX12_end 2 RX12 (some .boolean) g := hC
  have hR : 0 ≤ ({ frames := 0, cells := 0, slots := 0, locals := 0 } : Room).frames ∧ 0 ≤ ({ frames := 0, cells := 0, slots := 0, locals := 0 } : Room).locals := ⟨Nat.le_refl _, Nat.le_refl _⟩
  show ZF p l e _ s m args below meth c g TM voB 2 k 0 [(0, .ref (g.2.1 11)), (1, .int a0)] [] (fX12_end k a0)
  unfold fX12_end
  refine zf_aload_n hC dX12_end_0 rfl 0 rfl ?_
  refine zf_iconst hC (v := 0) dX12_end_1 rfl ?_
  refine pf_1230 hC dX12_end_2 ?_
  refine zf_nmk (fun k1 => ?_)
  refine zf_iload_n hC dX12_end_5 rfl 1 rfl ?_
  refine zf_if_lt hC (tgt := 17) dX12_end_6 (by decide) (fun h2 => ?_) (fun h2 => ?_)
  · refine zf_iconst hC (v := 0) dX12_end_17 rfl ?_
    exact zf_zret hC rfl false rfl dX12_end_18
  · refine zf_iload_n hC dX12_end_9 rfl 1 rfl ?_
    refine zf_aload_n hC dX12_end_10 rfl 0 rfl ?_
    refine gf_1246 hC dX12_end_11 ?_
    refine zf_icmp_le hC (tgt := 19) dX12_end_14 (by decide) (fun h3 => ?_) (fun h3 => ?_)
    · refine zf_aload_n hC dX12_end_19 rfl 0 rfl ?_
      refine zf_iload_n hC dX12_end_20 rfl 1 rfl ?_
      refine pf_1246 hC dX12_end_21 ?_
      refine zf_nmk (fun k4 => ?_)
      refine zf_iconst hC (v := 1) dX12_end_24 rfl ?_
      exact zf_zret hC rfl true rfl dX12_end_25
    · refine zf_iconst hC (v := 0) dX12_end_17 rfl ?_
      exact zf_zret hC rfl false rfl dX12_end_18
/-! LifeKeysModel.isKey -/
theorem dX12_isKey_0 : decode cX12_isKey 0 = .ok (.iload_n 1, 1) := by decide +kernel
theorem dX12_isKey_1 : decode cX12_isKey 1 = .ok (.ifCond .lt 15, 3) := by decide +kernel
theorem dX12_isKey_4 : decode cX12_isKey 4 = .ok (.iload_n 1, 1) := by decide +kernel
theorem dX12_isKey_5 : decode cX12_isKey 5 = .ok (.aload_n 0, 1) := by decide +kernel
theorem dX12_isKey_6 : decode cX12_isKey 6 = .ok (.getfield 199, 3) := by decide +kernel
theorem dX12_isKey_9 : decode cX12_isKey 9 = .ok (.if_icmp .ge 7, 3) := by decide +kernel
theorem dX12_isKey_12 : decode cX12_isKey 12 = .ok (.iconst 1, 1) := by decide +kernel
theorem dX12_isKey_13 : decode cX12_isKey 13 = .ok (.goto 4, 3) := by decide +kernel
theorem dX12_isKey_16 : decode cX12_isKey 16 = .ok (.iconst 0, 1) := by decide +kernel
theorem dX12_isKey_17 : decode cX12_isKey 17 = .ok (.ireturn, 1) := by decide +kernel
def fX12_isKey (k : ST) (a0 : Int32) : Option (Bool × ST) := if a0 < 0 then some (false, k) else if (gI k 11 13) ≤ a0 then some (false, k) else some (true, k)
set_option maxRecDepth 20000 in
theorem c_X12_isKey (l : Launch) (g : GT) (a0 : Int32) : CN l yX12_isKey cX12_isKey 2 (some .boolean) { frames := 0, cells := 0, slots := 0, locals := 0 } g TM voB [.ref (g.2.1 11), .int a0] (fun k => fX12_isKey k a0) := by
  refine cn_of (by decide) (Nat.le_of_ble_eq_true rfl) ?_
  intro p e s m args below meth c hC k
  have hC : HC p s m args meth c cX12_isKey 2 RX12 (some .boolean) g := hC
  have hR : 0 ≤ ({ frames := 0, cells := 0, slots := 0, locals := 0 } : Room).frames ∧ 0 ≤ ({ frames := 0, cells := 0, slots := 0, locals := 0 } : Room).locals := ⟨Nat.le_refl _, Nat.le_refl _⟩
  show ZF p l e _ s m args below meth c g TM voB 2 k 0 [(0, .ref (g.2.1 11)), (1, .int a0)] [] (fX12_isKey k a0)
  unfold fX12_isKey
  refine zf_iload_n hC dX12_isKey_0 rfl 1 rfl ?_
  refine zf_if_lt hC (tgt := 16) dX12_isKey_1 (by decide) (fun h1 => ?_) (fun h1 => ?_)
  · refine zf_iconst hC (v := 0) dX12_isKey_16 rfl ?_
    exact zf_zret hC rfl false rfl dX12_isKey_17
  · refine zf_iload_n hC dX12_isKey_4 rfl 1 rfl ?_
    refine zf_aload_n hC dX12_isKey_5 rfl 0 rfl ?_
    refine gf_1243 hC dX12_isKey_6 ?_
    refine zf_icmp_ge hC (tgt := 16) dX12_isKey_9 (by decide) (fun h2 => ?_) (fun h2 => ?_)
    · refine zf_iconst hC (v := 0) dX12_isKey_16 rfl ?_
      exact zf_zret hC rfl false rfl dX12_isKey_17
    · refine zf_iconst hC (v := 1) dX12_isKey_12 rfl ?_
      refine zf_goto hC (tgt := 17) dX12_isKey_13 (by decide) ?_
      exact zf_zret hC rfl true rfl dX12_isKey_17
/-! LifeKeysModel.make -/
theorem dX12_make_0 : decode cX12_make 0 = .ok (.aload_n 0, 1) := by decide +kernel
theorem dX12_make_1 : decode cX12_make 1 = .ok (.iconst 0, 1) := by decide +kernel
theorem dX12_make_2 : decode cX12_make 2 = .ok (.putfield 181, 3) := by decide +kernel
theorem dX12_make_5 : decode cX12_make 5 = .ok (.aload_n 0, 1) := by decide +kernel
theorem dX12_make_6 : decode cX12_make 6 = .ok (.getfield 199, 3) := by decide +kernel
theorem dX12_make_9 : decode cX12_make 9 = .ok (.bipush 40, 2) := by decide +kernel
theorem dX12_make_11 : decode cX12_make 11 = .ok (.if_icmp .eq 34, 3) := by decide +kernel
theorem dX12_make_14 : decode cX12_make 14 = .ok (.aload_n 0, 1) := by decide +kernel
theorem dX12_make_15 : decode cX12_make 15 = .ok (.iload_n 1, 1) := by decide +kernel
theorem dX12_make_16 : decode cX12_make 16 = .ok (.invokevirtual 216, 3) := by decide +kernel
theorem dX12_make_19 : decode cX12_make 19 = .ok (.ifCond .eq 26, 3) := by decide +kernel
theorem dX12_make_22 : decode cX12_make 22 = .ok (.aload_n 0, 1) := by decide +kernel
theorem dX12_make_23 : decode cX12_make 23 = .ok (.getfield 9, 3) := by decide +kernel
theorem dX12_make_26 : decode cX12_make 26 = .ok (.iload_n 1, 1) := by decide +kernel
theorem dX12_make_27 : decode cX12_make 27 = .ok (.iaload, 1) := by decide +kernel
theorem dX12_make_28 : decode cX12_make 28 = .ok (.iconst 1, 1) := by decide +kernel
theorem dX12_make_29 : decode cX12_make 29 = .ok (.if_icmp .ne 16, 3) := by decide +kernel
theorem dX12_make_32 : decode cX12_make 32 = .ok (.aload_n 0, 1) := by decide +kernel
theorem dX12_make_33 : decode cX12_make 33 = .ok (.getfield 205, 3) := by decide +kernel
theorem dX12_make_36 : decode cX12_make 36 = .ok (.iconst 1, 1) := by decide +kernel
theorem dX12_make_37 : decode cX12_make 37 = .ok (.bipush 40, 2) := by decide +kernel
theorem dX12_make_39 : decode cX12_make 39 = .ok (.invokestatic 188, 3) := by decide +kernel
theorem dX12_make_42 : decode cX12_make 42 = .ok (.ifCond .ne 5, 3) := by decide +kernel
theorem dX12_make_45 : decode cX12_make 45 = .ok (.iconst (-1), 1) := by decide +kernel
theorem dX12_make_46 : decode cX12_make 46 = .ok (.ireturn, 1) := by decide +kernel
theorem dX12_make_47 : decode cX12_make 47 = .ok (.iconst 0, 1) := by decide +kernel
theorem dX12_make_48 : decode cX12_make 48 = .ok (.istore_n 2, 1) := by decide +kernel
theorem dX12_make_49 : decode cX12_make 49 = .ok (.iconst 0, 1) := by decide +kernel
theorem dX12_make_50 : decode cX12_make 50 = .ok (.istore_n 3, 1) := by decide +kernel
theorem dX12_make_51 : decode cX12_make 51 = .ok (.iload_n 3, 1) := by decide +kernel
theorem dX12_make_52 : decode cX12_make 52 = .ok (.aload_n 0, 1) := by decide +kernel
theorem dX12_make_53 : decode cX12_make 53 = .ok (.getfield 205, 3) := by decide +kernel
theorem dX12_make_56 : decode cX12_make 56 = .ok (.if_icmp .ge 30, 3) := by decide +kernel
theorem dX12_make_59 : decode cX12_make 59 = .ok (.sipush 131, 3) := by decide +kernel
theorem dX12_make_62 : decode cX12_make 62 = .ok (.iload_n 2, 1) := by decide +kernel
theorem dX12_make_63 : decode cX12_make 63 = .ok (.imul, 1) := by decide +kernel
theorem dX12_make_64 : decode cX12_make 64 = .ok (.aload_n 0, 1) := by decide +kernel
theorem dX12_make_65 : decode cX12_make 65 = .ok (.getfield 41, 3) := by decide +kernel
theorem dX12_make_68 : decode cX12_make 68 = .ok (.iload_n 3, 1) := by decide +kernel
theorem dX12_make_69 : decode cX12_make 69 = .ok (.baload, 1) := by decide +kernel
theorem dX12_make_70 : decode cX12_make 70 = .ok (.sipush 255, 3) := by decide +kernel
theorem dX12_make_73 : decode cX12_make 73 = .ok (.iand, 1) := by decide +kernel
theorem dX12_make_74 : decode cX12_make 74 = .ok (.iadd, 1) := by decide +kernel
theorem dX12_make_75 : decode cX12_make 75 = .ok (.sipush 1019, 3) := by decide +kernel
theorem dX12_make_78 : decode cX12_make 78 = .ok (.irem, 1) := by decide +kernel
theorem dX12_make_79 : decode cX12_make 79 = .ok (.istore_n 2, 1) := by decide +kernel
theorem dX12_make_80 : decode cX12_make 80 = .ok (.iinc 3 1, 3) := by decide +kernel
theorem dX12_make_83 : decode cX12_make 83 = .ok (.goto (-32), 3) := by decide +kernel
theorem dX12_make_86 : decode cX12_make 86 = .ok (.aload_n 0, 1) := by decide +kernel
theorem dX12_make_87 : decode cX12_make 87 = .ok (.iconst 0, 1) := by decide +kernel
theorem dX12_make_88 : decode cX12_make 88 = .ok (.putfield 205, 3) := by decide +kernel
theorem dX12_make_91 : decode cX12_make 91 = .ok (.aload_n 0, 1) := by decide +kernel
theorem dX12_make_92 : decode cX12_make 92 = .ok (.iconst 2, 1) := by decide +kernel
theorem dX12_make_93 : decode cX12_make 93 = .ok (.bipush 37, 2) := by decide +kernel
theorem dX12_make_95 : decode cX12_make 95 = .ok (.aload_n 0, 1) := by decide +kernel
theorem dX12_make_96 : decode cX12_make 96 = .ok (.getfield 13, 3) := by decide +kernel
theorem dX12_make_99 : decode cX12_make 99 = .ok (.iload_n 1, 1) := by decide +kernel
theorem dX12_make_100 : decode cX12_make 100 = .ok (.iaload, 1) := by decide +kernel
theorem dX12_make_101 : decode cX12_make 101 = .ok (.imul, 1) := by decide +kernel
theorem dX12_make_102 : decode cX12_make 102 = .ok (.iload_n 2, 1) := by decide +kernel
theorem dX12_make_103 : decode cX12_make 103 = .ok (.iadd, 1) := by decide +kernel
theorem dX12_make_104 : decode cX12_make 104 = .ok (.sipush 1018, 3) := by decide +kernel
theorem dX12_make_107 : decode cX12_make 107 = .ok (.irem, 1) := by decide +kernel
theorem dX12_make_108 : decode cX12_make 108 = .ok (.iconst 1, 1) := by decide +kernel
theorem dX12_make_109 : decode cX12_make 109 = .ok (.iadd, 1) := by decide +kernel
theorem dX12_make_110 : decode cX12_make 110 = .ok (.iload_n 1, 1) := by decide +kernel
theorem dX12_make_111 : decode cX12_make 111 = .ok (.invokevirtual 202, 3) := by decide +kernel
theorem dX12_make_114 : decode cX12_make 114 = .ok (.ireturn, 1) := by decide +kernel
def lpX12_make_51 (v1 : Int32) : Nat → Int32 → Int32 → ST → (Int32 → Int32 → ST → Option (Int32 × ST)) → Option (Int32 × ST)
  | 0, _, _, _, _ => none
  | n + 1, v2, v3, k, cont => if (gI k 11 16) ≤ v3 then cont v2 v3 k else ck (inb v3 160) (nm (j_rem ((131 * v2) + ((gA k 109 (ix v3)) &&& 255)) 1019) fun x15 => lpX12_make_51 v1 n x15 (v3 + 1) k cont)
set_option maxRecDepth 20000 in
theorem zlpX12_make_51 {p : Program} {l : Launch} {e : Env} {R : Room} {s : State} {m : MethodId} {args : Array Value} {below : List Frame} {meth : Method} {c : Code} {g : GT} (hC : HC p s m args meth c cX12_make 4 RX12 (some .int) g) (hR : 1 ≤ R.frames ∧ 23 ≤ R.locals)  (v1 : Int32) {cont : Int32 → Int32 → ST → Option (Int32 × ST)} (hk : ∀ (v2 : Int32) (v3 : Int32) (k : ST), ZF p l e R s m args below meth c g TM voI 4 k 86 [(0, .ref (g.2.1 11)), (1, .int v1), (2, .int v2), (3, .int v3)] [] (cont v2 v3 k)) : ∀ (n : Nat) (v2 : Int32) (v3 : Int32) (k : ST), ZF p l e R s m args below meth c g TM voI 4 k 51 [(0, .ref (g.2.1 11)), (1, .int v1), (2, .int v2), (3, .int v3)] [] (lpX12_make_51 v1 n v2 v3 k cont) := by
  intro n
  induction n with
  | zero => intros; exact zf_none
  | succ n ih =>
    intro v2 v3 k
    rw [lpX12_make_51]
    refine zf_iload_n hC dX12_make_51 rfl 3 rfl ?_
    refine zf_aload_n hC dX12_make_52 rfl 0 rfl ?_
    refine gf_1246 hC dX12_make_53 ?_
    refine zf_icmp_ge hC (tgt := 86) dX12_make_56 (by decide) (fun h13 => ?_) (fun h13 => ?_)
    · refine zf_lv (LV' := [(0, .ref (g.2.1 11)), (1, .int v1), (2, .int v2), (3, .int v3)]) [0, 1, 2, 3] rfl ?_
      exact hk v2 v3 k
    · refine zf_sipush hC (v := 131) dX12_make_59 rfl ?_
      refine zf_iload_n hC dX12_make_62 rfl 2 rfl ?_
      refine zf_imul hC dX12_make_63 ?_
      refine zf_aload_n hC dX12_make_64 rfl 0 rfl ?_
      refine gf_1245 hC dX12_make_65 ?_
      refine zf_iload_n hC dX12_make_68 rfl 3 rfl ?_
      refine zf_bald hC (j := 109) ia_109 rfl rfl dX12_make_69 (fun h14 => ?_)
      refine zf_sipush hC (v := 255) dX12_make_70 rfl ?_
      refine zf_iand hC dX12_make_73 ?_
      refine zf_iadd hC dX12_make_74 ?_
      refine zf_sipush hC (v := 1019) dX12_make_75 rfl ?_
      refine zf_irem hC dX12_make_78 (by decide) ?_
      refine zf_nmi (fun x15 => ?_)
      refine zf_istore_n hC (LV' := [(2, .int x15), (0, .ref (g.2.1 11)), (1, .int v1), (3, .int v3)]) dX12_make_79 rfl (by decide) rfl ?_
      refine zf_iinc hC (q := 3) (v := v3 + 1) (LV' := [(3, .int (v3 + 1)), (2, .int x15), (0, .ref (g.2.1 11)), (1, .int v1)]) dX12_make_80 rfl rfl (by decide) rfl ?_
      refine zf_goto hC (tgt := 51) dX12_make_83 (by decide) ?_
      refine zf_lv (LV' := [(0, .ref (g.2.1 11)), (1, .int v1), (2, .int x15), (3, .int (v3 + 1))]) [2, 3, 1, 0] rfl ?_
      exact ih x15 (v3 + 1) k
def fX12_make (k : ST) (a0 : Int32) : Option (Int32 × ST) := nm (sI k 11 0 0) fun k1 => if (gI k1 11 13) = 40 then some ((-1), k1) else ob (fX12_isKey k1 a0) fun r3 k4 => if r3 = true then ck (inb a0 40) (if (gA k4 99 (ix a0)) = 1 then ob (fX12_isIn k4 (gI k4 11 16) 1 40) fun r9 k10 => if r9 = true then lpX12_make_51 a0 FU 0 0 k10 fun y16 y17 k18 => nm (sI k18 11 16 0) fun k19 => ck (inb a0 40) (ob (fX12_add k19 2 ((j_rem ((37 * (gA k19 100 (ix a0))) + y16) 1018) + 1) a0) fun r21 k22 => some (r21, k22)) else some ((-1), k10) else some ((-1), k4)) else some ((-1), k4)
set_option maxRecDepth 20000 in
theorem c_X12_make (l : Launch) (g : GT) (a0 : Int32) : CN l yX12_make cX12_make 4 (some .int) { frames := 1, cells := 0, slots := 0, locals := 23 } g TM voI [.ref (g.2.1 11), .int a0] (fun k => fX12_make k a0) := by
  refine cn_of (by decide) (Nat.le_of_ble_eq_true rfl) ?_
  intro p e s m args below meth c hC k
  have hC : HC p s m args meth c cX12_make 4 RX12 (some .int) g := hC
  have hR : 1 ≤ ({ frames := 1, cells := 0, slots := 0, locals := 23 } : Room).frames ∧ 23 ≤ ({ frames := 1, cells := 0, slots := 0, locals := 23 } : Room).locals := ⟨Nat.le_refl _, Nat.le_refl _⟩
  show ZF p l e _ s m args below meth c g TM voI 4 k 0 [(0, .ref (g.2.1 11)), (1, .int a0)] [] (fX12_make k a0)
  unfold fX12_make
  refine zf_aload_n hC dX12_make_0 rfl 0 rfl ?_
  refine zf_iconst hC (v := 0) dX12_make_1 rfl ?_
  refine pf_1230 hC dX12_make_2 ?_
  refine zf_nmk (fun k1 => ?_)
  refine zf_aload_n hC dX12_make_5 rfl 0 rfl ?_
  refine gf_1243 hC dX12_make_6 ?_
  refine zf_bipush hC (v := 40) dX12_make_9 rfl ?_
  refine zf_icmp_eq hC (tgt := 45) dX12_make_11 (by decide) (fun h2 => ?_) (fun h2 => ?_)
  · refine zf_iconst hC (v := (-1)) dX12_make_45 rfl ?_
    exact zf_iret hC rfl dX12_make_46
  · refine zf_aload_n hC dX12_make_14 rfl 0 rfl ?_
    refine zf_iload_n hC dX12_make_15 rfl 1 rfl ?_
    refine zf_callV hC (c_X12_isKey l g a0) mt_X12_isKey wd_1530 sp_47 ci_11 ic_11 wd_1528 rfl (rm_le hR rfl) rfl rfl (rest := []) rfl (Nat.le_of_ble_eq_true rfl) dX12_make_16 (fun r3 k4 h5 => ?_)
    refine zf_ifb_eq hC (tgt := 45) dX12_make_19 (by decide) (fun h6 => ?_) (fun h6 => ?_)
    · refine zf_aload_n hC dX12_make_22 rfl 0 rfl ?_
      refine gf_1232 hC dX12_make_23 ?_
      refine zf_iload_n hC dX12_make_26 rfl 1 rfl ?_
      refine zf_iald hC (j := 99) ia_99 rfl rfl dX12_make_27 (fun h7 => ?_)
      refine zf_iconst hC (v := 1) dX12_make_28 rfl ?_
      refine zf_icmp_ne hC (tgt := 45) dX12_make_29 (by decide) (fun h8 => ?_) (fun h8 => ?_)
      · refine zf_aload_n hC dX12_make_32 rfl 0 rfl ?_
        refine gf_1246 hC dX12_make_33 ?_
        refine zf_iconst hC (v := 1) dX12_make_36 rfl ?_
        refine zf_bipush hC (v := 40) dX12_make_37 rfl ?_
        refine zf_callS hC (c_X12_isIn l g TM (gI k4 11 16) 1 40) mt_X12_isIn wd_1495 wd_1494 rfl (rm_le hR rfl) rfl rfl (rest := []) rfl (Nat.le_of_ble_eq_true rfl) dX12_make_39 (fun r9 k10 h11 => ?_)
        refine zf_ifb_ne hC (tgt := 47) dX12_make_42 (by decide) (fun h12 => ?_) (fun h12 => ?_)
        · refine zf_iconst hC (v := 0) dX12_make_47 rfl ?_
          refine zf_istore_n hC (LV' := [(2, .int 0), (0, .ref (g.2.1 11)), (1, .int a0)]) dX12_make_48 rfl (by decide) rfl ?_
          refine zf_iconst hC (v := 0) dX12_make_49 rfl ?_
          refine zf_istore_n hC (LV' := [(3, .int 0), (2, .int 0), (0, .ref (g.2.1 11)), (1, .int a0)]) dX12_make_50 rfl (by decide) rfl ?_
          refine zf_lv (LV' := [(0, .ref (g.2.1 11)), (1, .int a0), (2, .int 0), (3, .int 0)]) [2, 3, 1, 0] rfl ?_
          refine zlpX12_make_51 hC hR a0 (fun y16 y17 k18 => ?_) FU 0 0 k10
          refine zf_aload_n hC dX12_make_86 rfl 0 rfl ?_
          refine zf_iconst hC (v := 0) dX12_make_87 rfl ?_
          refine pf_1246 hC dX12_make_88 ?_
          refine zf_nmk (fun k19 => ?_)
          refine zf_aload_n hC dX12_make_91 rfl 0 rfl ?_
          refine zf_iconst hC (v := 2) dX12_make_92 rfl ?_
          refine zf_bipush hC (v := 37) dX12_make_93 rfl ?_
          refine zf_aload_n hC dX12_make_95 rfl 0 rfl ?_
          refine gf_1233 hC dX12_make_96 ?_
          refine zf_iload_n hC dX12_make_99 rfl 1 rfl ?_
          refine zf_iald hC (j := 100) ia_100 rfl rfl dX12_make_100 (fun h20 => ?_)
          refine zf_imul hC dX12_make_101 ?_
          refine zf_iload_n hC dX12_make_102 rfl 2 rfl ?_
          refine zf_iadd hC dX12_make_103 ?_
          refine zf_sipush hC (v := 1018) dX12_make_104 rfl ?_
          refine zf_irem hC dX12_make_107 (by decide) ?_
          refine zf_iconst hC (v := 1) dX12_make_108 rfl ?_
          refine zf_iadd hC dX12_make_109 ?_
          refine zf_iload_n hC dX12_make_110 rfl 1 rfl ?_
          refine zf_callV hC (c_X12_add l g 2 ((j_rem ((37 * (gA k19 100 (ix a0))) + y16) 1018) + 1) a0) mt_X12_add wd_1507 sp_45 ci_11 ic_11 wd_1505 rfl (rm_le hR rfl) rfl rfl (rest := []) rfl (Nat.le_of_ble_eq_true rfl) dX12_make_111 (fun r21 k22 h23 => ?_)
          exact zf_iret hC rfl dX12_make_114
        · refine zf_iconst hC (v := (-1)) dX12_make_45 rfl ?_
          exact zf_iret hC rfl dX12_make_46
      · refine zf_iconst hC (v := (-1)) dX12_make_45 rfl ?_
        exact zf_iret hC rfl dX12_make_46
    · refine zf_iconst hC (v := (-1)) dX12_make_45 rfl ?_
      exact zf_iret hC rfl dX12_make_46
/-! LifeKeysModel.power -/
theorem dX12_power_0 : decode cX12_power 0 = .ok (.iconst 1, 1) := by decide +kernel
theorem dX12_power_1 : decode cX12_power 1 = .ok (.istore_n 3, 1) := by decide +kernel
theorem dX12_power_2 : decode cX12_power 2 = .ok (.iconst 0, 1) := by decide +kernel
theorem dX12_power_3 : decode cX12_power 3 = .ok (.istore 4, 2) := by decide +kernel
theorem dX12_power_5 : decode cX12_power 5 = .ok (.iload 4, 2) := by decide +kernel
theorem dX12_power_7 : decode cX12_power 7 = .ok (.iload_n 1, 1) := by decide +kernel
theorem dX12_power_8 : decode cX12_power 8 = .ok (.if_icmp .ge 15, 3) := by decide +kernel
theorem dX12_power_11 : decode cX12_power 11 = .ok (.iload_n 3, 1) := by decide +kernel
theorem dX12_power_12 : decode cX12_power 12 = .ok (.iload_n 0, 1) := by decide +kernel
theorem dX12_power_13 : decode cX12_power 13 = .ok (.imul, 1) := by decide +kernel
theorem dX12_power_14 : decode cX12_power 14 = .ok (.iload_n 2, 1) := by decide +kernel
theorem dX12_power_15 : decode cX12_power 15 = .ok (.irem, 1) := by decide +kernel
theorem dX12_power_16 : decode cX12_power 16 = .ok (.istore_n 3, 1) := by decide +kernel
theorem dX12_power_17 : decode cX12_power 17 = .ok (.iinc 4 1, 3) := by decide +kernel
theorem dX12_power_20 : decode cX12_power 20 = .ok (.goto (-15), 3) := by decide +kernel
theorem dX12_power_23 : decode cX12_power 23 = .ok (.iload_n 3, 1) := by decide +kernel
theorem dX12_power_24 : decode cX12_power 24 = .ok (.ireturn, 1) := by decide +kernel
def lpX12_power_5 (v0 : Int32) (v1 : Int32) (v2 : Int32) : Nat → Int32 → Int32 → ST → (Int32 → Int32 → ST → Option (Int32 × ST)) → Option (Int32 × ST)
  | 0, _, _, _, _ => none
  | n + 1, v3, v4, k, cont => if v1 ≤ v4 then cont v3 v4 k else ck (!decide (v2 = 0)) (lpX12_power_5 v0 v1 v2 n (j_rem (v3 * v0) v2) (v4 + 1) k cont)
set_option maxRecDepth 20000 in
theorem zlpX12_power_5 {p : Program} {l : Launch} {e : Env} {R : Room} {s : State} {m : MethodId} {args : Array Value} {below : List Frame} {meth : Method} {c : Code} {g : GT} {T : TT} (hC : HC p s m args meth c cX12_power 5 RX12 (some .int) g) (hR : 0 ≤ R.frames ∧ 0 ≤ R.locals)  (v0 : Int32) (v1 : Int32) (v2 : Int32) {cont : Int32 → Int32 → ST → Option (Int32 × ST)} (hk : ∀ (v3 : Int32) (v4 : Int32) (k : ST), ZF p l e R s m args below meth c g T voI 5 k 23 [(0, .int v0), (1, .int v1), (2, .int v2), (3, .int v3), (4, .int v4)] [] (cont v3 v4 k)) : ∀ (n : Nat) (v3 : Int32) (v4 : Int32) (k : ST), ZF p l e R s m args below meth c g T voI 5 k 5 [(0, .int v0), (1, .int v1), (2, .int v2), (3, .int v3), (4, .int v4)] [] (lpX12_power_5 v0 v1 v2 n v3 v4 k cont) := by
  intro n
  induction n with
  | zero => intros; exact zf_none
  | succ n ih =>
    intro v3 v4 k
    rw [lpX12_power_5]
    refine zf_iload hC dX12_power_5 4 rfl ?_
    refine zf_iload_n hC dX12_power_7 rfl 1 rfl ?_
    refine zf_icmp_ge hC (tgt := 23) dX12_power_8 (by decide) (fun h1 => ?_) (fun h1 => ?_)
    · refine zf_lv (LV' := [(0, .int v0), (1, .int v1), (2, .int v2), (3, .int v3), (4, .int v4)]) [0, 1, 2, 3, 4] rfl ?_
      exact hk v3 v4 k
    · refine zf_iload_n hC dX12_power_11 rfl 3 rfl ?_
      refine zf_iload_n hC dX12_power_12 rfl 0 rfl ?_
      refine zf_imul hC dX12_power_13 ?_
      refine zf_iload_n hC dX12_power_14 rfl 2 rfl ?_
      refine zf_ck (fun h2 => ?_)
      refine zf_irem hC dX12_power_15 (ne_of_ck h2) ?_
      refine zf_istore_n hC (LV' := [(3, .int (j_rem (v3 * v0) v2)), (0, .int v0), (1, .int v1), (2, .int v2), (4, .int v4)]) dX12_power_16 rfl (by decide) rfl ?_
      refine zf_iinc hC (q := 4) (v := v4 + 1) (LV' := [(4, .int (v4 + 1)), (3, .int (j_rem (v3 * v0) v2)), (0, .int v0), (1, .int v1), (2, .int v2)]) dX12_power_17 rfl rfl (by decide) rfl ?_
      refine zf_goto hC (tgt := 5) dX12_power_20 (by decide) ?_
      refine zf_lv (LV' := [(0, .int v0), (1, .int v1), (2, .int v2), (3, .int (j_rem (v3 * v0) v2)), (4, .int (v4 + 1))]) [2, 3, 4, 1, 0] rfl ?_
      exact ih (j_rem (v3 * v0) v2) (v4 + 1) k
def fX12_power (k : ST) (a0 : Int32) (a1 : Int32) (a2 : Int32) : Option (Int32 × ST) := lpX12_power_5 a0 a1 a2 FU 1 0 k fun y3 y4 k5 => some (y3, k5)
set_option maxRecDepth 20000 in
theorem c_X12_power (l : Launch) (g : GT) (T : TT) (a0 : Int32) (a1 : Int32) (a2 : Int32) : CN l yX12_power cX12_power 5 (some .int) { frames := 0, cells := 0, slots := 0, locals := 0 } g T voI [.int a0, .int a1, .int a2] (fun k => fX12_power k a0 a1 a2) := by
  refine cn_of (by decide) (Nat.le_of_ble_eq_true rfl) ?_
  intro p e s m args below meth c hC k
  have hC : HC p s m args meth c cX12_power 5 RX12 (some .int) g := hC
  have hR : 0 ≤ ({ frames := 0, cells := 0, slots := 0, locals := 0 } : Room).frames ∧ 0 ≤ ({ frames := 0, cells := 0, slots := 0, locals := 0 } : Room).locals := ⟨Nat.le_refl _, Nat.le_refl _⟩
  show ZF p l e _ s m args below meth c g T voI 5 k 0 [(0, .int a0), (1, .int a1), (2, .int a2)] [] (fX12_power k a0 a1 a2)
  unfold fX12_power
  refine zf_iconst hC (v := 1) dX12_power_0 rfl ?_
  refine zf_istore_n hC (LV' := [(3, .int 1), (0, .int a0), (1, .int a1), (2, .int a2)]) dX12_power_1 rfl (by decide) rfl ?_
  refine zf_iconst hC (v := 0) dX12_power_2 rfl ?_
  refine zf_istore hC (LV' := [(4, .int 0), (3, .int 1), (0, .int a0), (1, .int a1), (2, .int a2)]) dX12_power_3 (by decide) rfl ?_
  refine zf_lv (LV' := [(0, .int a0), (1, .int a1), (2, .int a2), (3, .int 1), (4, .int 0)]) [2, 3, 4, 1, 0] rfl ?_
  refine zlpX12_power_5 hC hR a0 a1 a2 (fun y3 y4 k5 => ?_) FU 1 0 k
  refine zf_iload_n hC dX12_power_23 rfl 3 rfl ?_
  exact zf_iret hC rfl dX12_power_24
/-! LifeKeysModel.four -/
theorem dX12_four_0 : decode cX12_four 0 = .ok (.iconst 4, 1) := by decide +kernel
theorem dX12_four_1 : decode cX12_four 1 = .ok (.iload_n 0, 1) := by decide +kernel
theorem dX12_four_2 : decode cX12_four 2 = .ok (.sipush 2039, 3) := by decide +kernel
theorem dX12_four_5 : decode cX12_four 5 = .ok (.invokestatic 192, 3) := by decide +kernel
theorem dX12_four_8 : decode cX12_four 8 = .ok (.ireturn, 1) := by decide +kernel
def fX12_four (k : ST) (a0 : Int32) : Option (Int32 × ST) := ob (fX12_power k 4 a0 2039) fun r1 k2 => some (r1, k2)
set_option maxRecDepth 20000 in
theorem c_X12_four (l : Launch) (g : GT) (T : TT) (a0 : Int32) : CN l yX12_four cX12_four 1 (some .int) { frames := 1, cells := 0, slots := 0, locals := 24 } g T voI [.int a0] (fun k => fX12_four k a0) := by
  refine cn_of (by decide) (Nat.le_of_ble_eq_true rfl) ?_
  intro p e s m args below meth c hC k
  have hC : HC p s m args meth c cX12_four 1 RX12 (some .int) g := hC
  have hR : 1 ≤ ({ frames := 1, cells := 0, slots := 0, locals := 24 } : Room).frames ∧ 24 ≤ ({ frames := 1, cells := 0, slots := 0, locals := 24 } : Room).locals := ⟨Nat.le_refl _, Nat.le_refl _⟩
  show ZF p l e _ s m args below meth c g T voI 1 k 0 [(0, .int a0)] [] (fX12_four k a0)
  unfold fX12_four
  refine zf_iconst hC (v := 4) dX12_four_0 rfl ?_
  refine zf_iload_n hC dX12_four_1 rfl 0 rfl ?_
  refine zf_sipush hC (v := 2039) dX12_four_2 rfl ?_
  refine zf_callS hC (c_X12_power l g T 4 a0 2039) mt_X12_power wd_1540 wd_1539 rfl (rm_le hR rfl) rfl rfl (rest := []) rfl (Nat.le_of_ble_eq_true rfl) dX12_four_5 (fun r1 k2 h3 => ?_)
  exact zf_iret hC rfl dX12_four_8
/-! LifeKeysModel.open -/
theorem dX12_open_0 : decode cX12_open 0 = .ok (.aload_n 0, 1) := by decide +kernel
theorem dX12_open_1 : decode cX12_open 1 = .ok (.aload_n 0, 1) := by decide +kernel
theorem dX12_open_2 : decode cX12_open 2 = .ok (.iload_n 1, 1) := by decide +kernel
theorem dX12_open_3 : decode cX12_open 3 = .ok (.invokevirtual 216, 3) := by decide +kernel
theorem dX12_open_6 : decode cX12_open 6 = .ok (.ifCond .eq 7, 3) := by decide +kernel
theorem dX12_open_9 : decode cX12_open 9 = .ok (.iconst 0, 1) := by decide +kernel
theorem dX12_open_10 : decode cX12_open 10 = .ok (.goto 4, 3) := by decide +kernel
theorem dX12_open_13 : decode cX12_open 13 = .ok (.iconst 1, 1) := by decide +kernel
theorem dX12_open_14 : decode cX12_open 14 = .ok (.putfield 181, 3) := by decide +kernel
theorem dX12_open_17 : decode cX12_open 17 = .ok (.aload_n 0, 1) := by decide +kernel
theorem dX12_open_18 : decode cX12_open 18 = .ok (.getfield 181, 3) := by decide +kernel
theorem dX12_open_21 : decode cX12_open 21 = .ok (.ifCond .le 7, 3) := by decide +kernel
theorem dX12_open_24 : decode cX12_open 24 = .ok (.iconst 0, 1) := by decide +kernel
theorem dX12_open_25 : decode cX12_open 25 = .ok (.goto 12, 3) := by decide +kernel
theorem dX12_open_28 : decode cX12_open 28 = .ok (.aload_n 0, 1) := by decide +kernel
theorem dX12_open_29 : decode cX12_open 29 = .ok (.getfield 13, 3) := by decide +kernel
theorem dX12_open_32 : decode cX12_open 32 = .ok (.iload_n 1, 1) := by decide +kernel
theorem dX12_open_33 : decode cX12_open 33 = .ok (.iaload, 1) := by decide +kernel
theorem dX12_open_34 : decode cX12_open 34 = .ok (.invokestatic 220, 3) := by decide +kernel
theorem dX12_open_37 : decode cX12_open 37 = .ok (.ireturn, 1) := by decide +kernel
def fX12_open (k : ST) (a0 : Int32) : Option (Int32 × ST) := ob (fX12_isKey k a0) fun r1 k2 => if r1 = true then nm (sI k2 11 0 0) fun k5 => if (gI k5 11 0) ≤ 0 then ck (inb a0 40) (ob (fX12_four k5 (gA k5 100 (ix a0))) fun r8 k9 => some (r8, k9)) else some (0, k5) else nm (sI k2 11 0 1) fun k11 => if (gI k11 11 0) ≤ 0 then ck (inb a0 40) (ob (fX12_four k11 (gA k11 100 (ix a0))) fun r14 k15 => some (r14, k15)) else some (0, k11)
set_option maxRecDepth 20000 in
theorem c_X12_open (l : Launch) (g : GT) (a0 : Int32) : CN l yX12_open cX12_open 2 (some .int) { frames := 2, cells := 0, slots := 0, locals := 44 } g TM voI [.ref (g.2.1 11), .int a0] (fun k => fX12_open k a0) := by
  refine cn_of (by decide) (Nat.le_of_ble_eq_true rfl) ?_
  intro p e s m args below meth c hC k
  have hC : HC p s m args meth c cX12_open 2 RX12 (some .int) g := hC
  have hR : 2 ≤ ({ frames := 2, cells := 0, slots := 0, locals := 44 } : Room).frames ∧ 44 ≤ ({ frames := 2, cells := 0, slots := 0, locals := 44 } : Room).locals := ⟨Nat.le_refl _, Nat.le_refl _⟩
  show ZF p l e _ s m args below meth c g TM voI 2 k 0 [(0, .ref (g.2.1 11)), (1, .int a0)] [] (fX12_open k a0)
  unfold fX12_open
  refine zf_aload_n hC dX12_open_0 rfl 0 rfl ?_
  refine zf_aload_n hC dX12_open_1 rfl 0 rfl ?_
  refine zf_iload_n hC dX12_open_2 rfl 1 rfl ?_
  refine zf_callV hC (c_X12_isKey l g a0) mt_X12_isKey wd_1530 sp_47 ci_11 ic_11 wd_1528 rfl (rm_le hR rfl) rfl rfl (rest := [.ref (g.2.1 11)]) rfl (Nat.le_of_ble_eq_true rfl) dX12_open_3 (fun r1 k2 h3 => ?_)
  refine zf_ifb_eq hC (tgt := 13) dX12_open_6 (by decide) (fun h4 => ?_) (fun h4 => ?_)
  · refine zf_iconst hC (v := 0) dX12_open_9 rfl ?_
    refine zf_goto hC (tgt := 14) dX12_open_10 (by decide) ?_
    refine pf_1230 hC dX12_open_14 ?_
    refine zf_nmk (fun k5 => ?_)
    refine zf_aload_n hC dX12_open_17 rfl 0 rfl ?_
    refine gf_1230 hC dX12_open_18 ?_
    refine zf_if_le hC (tgt := 28) dX12_open_21 (by decide) (fun h6 => ?_) (fun h6 => ?_)
    · refine zf_aload_n hC dX12_open_28 rfl 0 rfl ?_
      refine gf_1233 hC dX12_open_29 ?_
      refine zf_iload_n hC dX12_open_32 rfl 1 rfl ?_
      refine zf_iald hC (j := 100) ia_100 rfl rfl dX12_open_33 (fun h7 => ?_)
      refine zf_callS hC (c_X12_four l g TM (gA k5 100 (ix a0))) mt_X12_four wd_1537 wd_1536 rfl (rm_le hR rfl) rfl rfl (rest := []) rfl (Nat.le_of_ble_eq_true rfl) dX12_open_34 (fun r8 k9 h10 => ?_)
      exact zf_iret hC rfl dX12_open_37
    · refine zf_iconst hC (v := 0) dX12_open_24 rfl ?_
      refine zf_goto hC (tgt := 37) dX12_open_25 (by decide) ?_
      exact zf_iret hC rfl dX12_open_37
  · refine zf_iconst hC (v := 1) dX12_open_13 rfl ?_
    refine pf_1230 hC dX12_open_14 ?_
    refine zf_nmk (fun k11 => ?_)
    refine zf_aload_n hC dX12_open_17 rfl 0 rfl ?_
    refine gf_1230 hC dX12_open_18 ?_
    refine zf_if_le hC (tgt := 28) dX12_open_21 (by decide) (fun h12 => ?_) (fun h12 => ?_)
    · refine zf_aload_n hC dX12_open_28 rfl 0 rfl ?_
      refine gf_1233 hC dX12_open_29 ?_
      refine zf_iload_n hC dX12_open_32 rfl 1 rfl ?_
      refine zf_iald hC (j := 100) ia_100 rfl rfl dX12_open_33 (fun h13 => ?_)
      refine zf_callS hC (c_X12_four l g TM (gA k11 100 (ix a0))) mt_X12_four wd_1537 wd_1536 rfl (rm_le hR rfl) rfl rfl (rest := []) rfl (Nat.le_of_ble_eq_true rfl) dX12_open_34 (fun r14 k15 h16 => ?_)
      exact zf_iret hC rfl dX12_open_37
    · refine zf_iconst hC (v := 0) dX12_open_24 rfl ?_
      refine zf_goto hC (tgt := 37) dX12_open_25 (by decide) ?_
      exact zf_iret hC rfl dX12_open_37
/-! LifeKeysModel.isHolder -/
theorem dX12_isHolder_0 : decode cX12_isHolder 0 = .ok (.iload_n 1, 1) := by decide +kernel
theorem dX12_isHolder_1 : decode cX12_isHolder 1 = .ok (.ifCond .lt 15, 3) := by decide +kernel
theorem dX12_isHolder_4 : decode cX12_isHolder 4 = .ok (.iload_n 1, 1) := by decide +kernel
theorem dX12_isHolder_5 : decode cX12_isHolder 5 = .ok (.aload_n 0, 1) := by decide +kernel
theorem dX12_isHolder_6 : decode cX12_isHolder 6 = .ok (.getfield 196, 3) := by decide +kernel
theorem dX12_isHolder_9 : decode cX12_isHolder 9 = .ok (.if_icmp .ge 7, 3) := by decide +kernel
theorem dX12_isHolder_12 : decode cX12_isHolder 12 = .ok (.iconst 1, 1) := by decide +kernel
theorem dX12_isHolder_13 : decode cX12_isHolder 13 = .ok (.goto 4, 3) := by decide +kernel
theorem dX12_isHolder_16 : decode cX12_isHolder 16 = .ok (.iconst 0, 1) := by decide +kernel
theorem dX12_isHolder_17 : decode cX12_isHolder 17 = .ok (.ireturn, 1) := by decide +kernel
def fX12_isHolder (k : ST) (a0 : Int32) : Option (Bool × ST) := if a0 < 0 then some (false, k) else if (gI k 11 12) ≤ a0 then some (false, k) else some (true, k)
set_option maxRecDepth 20000 in
theorem c_X12_isHolder (l : Launch) (g : GT) (a0 : Int32) : CN l yX12_isHolder cX12_isHolder 2 (some .boolean) { frames := 0, cells := 0, slots := 0, locals := 0 } g TM voB [.ref (g.2.1 11), .int a0] (fun k => fX12_isHolder k a0) := by
  refine cn_of (by decide) (Nat.le_of_ble_eq_true rfl) ?_
  intro p e s m args below meth c hC k
  have hC : HC p s m args meth c cX12_isHolder 2 RX12 (some .boolean) g := hC
  have hR : 0 ≤ ({ frames := 0, cells := 0, slots := 0, locals := 0 } : Room).frames ∧ 0 ≤ ({ frames := 0, cells := 0, slots := 0, locals := 0 } : Room).locals := ⟨Nat.le_refl _, Nat.le_refl _⟩
  show ZF p l e _ s m args below meth c g TM voB 2 k 0 [(0, .ref (g.2.1 11)), (1, .int a0)] [] (fX12_isHolder k a0)
  unfold fX12_isHolder
  refine zf_iload_n hC dX12_isHolder_0 rfl 1 rfl ?_
  refine zf_if_lt hC (tgt := 16) dX12_isHolder_1 (by decide) (fun h1 => ?_) (fun h1 => ?_)
  · refine zf_iconst hC (v := 0) dX12_isHolder_16 rfl ?_
    exact zf_zret hC rfl false rfl dX12_isHolder_17
  · refine zf_iload_n hC dX12_isHolder_4 rfl 1 rfl ?_
    refine zf_aload_n hC dX12_isHolder_5 rfl 0 rfl ?_
    refine gf_1242 hC dX12_isHolder_6 ?_
    refine zf_icmp_ge hC (tgt := 16) dX12_isHolder_9 (by decide) (fun h2 => ?_) (fun h2 => ?_)
    · refine zf_iconst hC (v := 0) dX12_isHolder_16 rfl ?_
      exact zf_zret hC rfl false rfl dX12_isHolder_17
    · refine zf_iconst hC (v := 1) dX12_isHolder_12 rfl ?_
      refine zf_goto hC (tgt := 17) dX12_isHolder_13 (by decide) ?_
      exact zf_zret hC rfl true rfl dX12_isHolder_17
/-! LifeKeysModel.has -/
theorem dX12_has_0 : decode cX12_has 0 = .ok (.iconst 0, 1) := by decide +kernel
theorem dX12_has_1 : decode cX12_has 1 = .ok (.istore 4, 2) := by decide +kernel
theorem dX12_has_3 : decode cX12_has 3 = .ok (.iconst 0, 1) := by decide +kernel
theorem dX12_has_4 : decode cX12_has 4 = .ok (.istore 5, 2) := by decide +kernel
theorem dX12_has_6 : decode cX12_has 6 = .ok (.iload 5, 2) := by decide +kernel
theorem dX12_has_8 : decode cX12_has 8 = .ok (.aload_n 0, 1) := by decide +kernel
theorem dX12_has_9 : decode cX12_has 9 = .ok (.getfield 223, 3) := by decide +kernel
theorem dX12_has_12 : decode cX12_has 12 = .ok (.if_icmp .ge 51, 3) := by decide +kernel
theorem dX12_has_15 : decode cX12_has 15 = .ok (.aload_n 0, 1) := by decide +kernel
theorem dX12_has_16 : decode cX12_has 16 = .ok (.getfield 25, 3) := by decide +kernel
theorem dX12_has_19 : decode cX12_has 19 = .ok (.iload 5, 2) := by decide +kernel
theorem dX12_has_21 : decode cX12_has 21 = .ok (.iaload, 1) := by decide +kernel
theorem dX12_has_22 : decode cX12_has 22 = .ok (.iload_n 1, 1) := by decide +kernel
theorem dX12_has_23 : decode cX12_has 23 = .ok (.if_icmp .ne 34, 3) := by decide +kernel
theorem dX12_has_26 : decode cX12_has 26 = .ok (.aload_n 0, 1) := by decide +kernel
theorem dX12_has_27 : decode cX12_has 27 = .ok (.getfield 28, 3) := by decide +kernel
theorem dX12_has_30 : decode cX12_has 30 = .ok (.iload 5, 2) := by decide +kernel
theorem dX12_has_32 : decode cX12_has 32 = .ok (.iaload, 1) := by decide +kernel
theorem dX12_has_33 : decode cX12_has 33 = .ok (.iload_n 2, 1) := by decide +kernel
theorem dX12_has_34 : decode cX12_has 34 = .ok (.if_icmp .ne 23, 3) := by decide +kernel
theorem dX12_has_37 : decode cX12_has 37 = .ok (.aload_n 0, 1) := by decide +kernel
theorem dX12_has_38 : decode cX12_has 38 = .ok (.getfield 31, 3) := by decide +kernel
theorem dX12_has_41 : decode cX12_has 41 = .ok (.iload 5, 2) := by decide +kernel
theorem dX12_has_43 : decode cX12_has 43 = .ok (.iaload, 1) := by decide +kernel
theorem dX12_has_44 : decode cX12_has 44 = .ok (.iload_n 3, 1) := by decide +kernel
theorem dX12_has_45 : decode cX12_has 45 = .ok (.if_icmp .gt 12, 3) := by decide +kernel
theorem dX12_has_48 : decode cX12_has 48 = .ok (.aload_n 0, 1) := by decide +kernel
theorem dX12_has_49 : decode cX12_has 49 = .ok (.getfield 34, 3) := by decide +kernel
theorem dX12_has_52 : decode cX12_has 52 = .ok (.iload 5, 2) := by decide +kernel
theorem dX12_has_54 : decode cX12_has 54 = .ok (.baload, 1) := by decide +kernel
theorem dX12_has_55 : decode cX12_has 55 = .ok (.istore 4, 2) := by decide +kernel
theorem dX12_has_57 : decode cX12_has 57 = .ok (.iinc 5 1, 3) := by decide +kernel
theorem dX12_has_60 : decode cX12_has 60 = .ok (.goto (-54), 3) := by decide +kernel
theorem dX12_has_63 : decode cX12_has 63 = .ok (.iload 4, 2) := by decide +kernel
theorem dX12_has_65 : decode cX12_has 65 = .ok (.ireturn, 1) := by decide +kernel
def lpX12_has_6 (v1 : Int32) (v2 : Int32) (v3 : Int32) : Nat → Int32 → Int32 → ST → (Int32 → Int32 → ST → Option (Bool × ST)) → Option (Bool × ST)
  | 0, _, _, _, _ => none
  | n + 1, v4, v5, k, cont => if (gI k 11 14) ≤ v5 then cont v4 v5 k else ck (inb v5 600) (if (gA k 104 (ix v5)) = v1 then ck (inb v5 600) (if (gA k 105 (ix v5)) = v2 then ck (inb v5 600) (if v3 < (gA k 106 (ix v5)) then lpX12_has_6 v1 v2 v3 n v4 (v5 + 1) k cont else ck (inb v5 600) (lpX12_has_6 v1 v2 v3 n (gA k 107 (ix v5)) (v5 + 1) k cont)) else lpX12_has_6 v1 v2 v3 n v4 (v5 + 1) k cont) else lpX12_has_6 v1 v2 v3 n v4 (v5 + 1) k cont)
set_option maxRecDepth 20000 in
theorem zlpX12_has_6 {p : Program} {l : Launch} {e : Env} {R : Room} {s : State} {m : MethodId} {args : Array Value} {below : List Frame} {meth : Method} {c : Code} {g : GT} (hC : HC p s m args meth c cX12_has 6 RX12 (some .boolean) g) (hR : 0 ≤ R.frames ∧ 0 ≤ R.locals)  (v1 : Int32) (v2 : Int32) (v3 : Int32) {cont : Int32 → Int32 → ST → Option (Bool × ST)} (hk : ∀ (v4 : Int32) (v5 : Int32) (k : ST), ZF p l e R s m args below meth c g TM voB 6 k 63 [(0, .ref (g.2.1 11)), (1, .int v1), (2, .int v2), (3, .int v3), (4, .int v4), (5, .int v5)] [] (cont v4 v5 k)) : ∀ (n : Nat) (v4 : Int32) (v5 : Int32) (k : ST), ZF p l e R s m args below meth c g TM voB 6 k 6 [(0, .ref (g.2.1 11)), (1, .int v1), (2, .int v2), (3, .int v3), (4, .int v4), (5, .int v5)] [] (lpX12_has_6 v1 v2 v3 n v4 v5 k cont) := by
  intro n
  induction n with
  | zero => intros; exact zf_none
  | succ n ih =>
    intro v4 v5 k
    rw [lpX12_has_6]
    refine zf_iload hC dX12_has_6 5 rfl ?_
    refine zf_aload_n hC dX12_has_8 rfl 0 rfl ?_
    refine gf_1244 hC dX12_has_9 ?_
    refine zf_icmp_ge hC (tgt := 63) dX12_has_12 (by decide) (fun h1 => ?_) (fun h1 => ?_)
    · refine zf_lv (LV' := [(0, .ref (g.2.1 11)), (1, .int v1), (2, .int v2), (3, .int v3), (4, .int v4), (5, .int v5)]) [0, 1, 2, 3, 4, 5] rfl ?_
      exact hk v4 v5 k
    · refine zf_aload_n hC dX12_has_15 rfl 0 rfl ?_
      refine gf_1237 hC dX12_has_16 ?_
      refine zf_iload hC dX12_has_19 5 rfl ?_
      refine zf_iald hC (j := 104) ia_104 rfl rfl dX12_has_21 (fun h2 => ?_)
      refine zf_iload_n hC dX12_has_22 rfl 1 rfl ?_
      refine zf_icmp_ne hC (tgt := 57) dX12_has_23 (by decide) (fun h3 => ?_) (fun h3 => ?_)
      · refine zf_aload_n hC dX12_has_26 rfl 0 rfl ?_
        refine gf_1238 hC dX12_has_27 ?_
        refine zf_iload hC dX12_has_30 5 rfl ?_
        refine zf_iald hC (j := 105) ia_105 rfl rfl dX12_has_32 (fun h4 => ?_)
        refine zf_iload_n hC dX12_has_33 rfl 2 rfl ?_
        refine zf_icmp_ne hC (tgt := 57) dX12_has_34 (by decide) (fun h5 => ?_) (fun h5 => ?_)
        · refine zf_aload_n hC dX12_has_37 rfl 0 rfl ?_
          refine gf_1239 hC dX12_has_38 ?_
          refine zf_iload hC dX12_has_41 5 rfl ?_
          refine zf_iald hC (j := 106) ia_106 rfl rfl dX12_has_43 (fun h6 => ?_)
          refine zf_iload_n hC dX12_has_44 rfl 3 rfl ?_
          refine zf_icmp_gt hC (tgt := 57) dX12_has_45 (by decide) (fun h7 => ?_) (fun h7 => ?_)
          · refine zf_iinc hC (q := 5) (v := v5 + 1) (LV' := [(5, .int (v5 + 1)), (0, .ref (g.2.1 11)), (1, .int v1), (2, .int v2), (3, .int v3), (4, .int v4)]) dX12_has_57 rfl rfl (by decide) rfl ?_
            refine zf_goto hC (tgt := 6) dX12_has_60 (by decide) ?_
            refine zf_lv (LV' := [(0, .ref (g.2.1 11)), (1, .int v1), (2, .int v2), (3, .int v3), (4, .int v4), (5, .int (v5 + 1))]) [1, 2, 3, 4, 5, 0] rfl ?_
            exact ih v4 (v5 + 1) k
          · refine zf_aload_n hC dX12_has_48 rfl 0 rfl ?_
            refine gf_1240 hC dX12_has_49 ?_
            refine zf_iload hC dX12_has_52 5 rfl ?_
            refine zf_zald hC (j := 107) ia_107 rfl rfl dX12_has_54 (fun h8 => ?_)
            refine zf_istore hC (LV' := [(4, .int (gA k 107 (ix v5))), (0, .ref (g.2.1 11)), (1, .int v1), (2, .int v2), (3, .int v3), (5, .int v5)]) dX12_has_55 (by decide) rfl ?_
            refine zf_iinc hC (q := 5) (v := v5 + 1) (LV' := [(5, .int (v5 + 1)), (4, .int (gA k 107 (ix v5))), (0, .ref (g.2.1 11)), (1, .int v1), (2, .int v2), (3, .int v3)]) dX12_has_57 rfl rfl (by decide) rfl ?_
            refine zf_goto hC (tgt := 6) dX12_has_60 (by decide) ?_
            refine zf_lv (LV' := [(0, .ref (g.2.1 11)), (1, .int v1), (2, .int v2), (3, .int v3), (4, .int (gA k 107 (ix v5))), (5, .int (v5 + 1))]) [2, 3, 4, 5, 1, 0] rfl ?_
            exact ih (gA k 107 (ix v5)) (v5 + 1) k
        · refine zf_iinc hC (q := 5) (v := v5 + 1) (LV' := [(5, .int (v5 + 1)), (0, .ref (g.2.1 11)), (1, .int v1), (2, .int v2), (3, .int v3), (4, .int v4)]) dX12_has_57 rfl rfl (by decide) rfl ?_
          refine zf_goto hC (tgt := 6) dX12_has_60 (by decide) ?_
          refine zf_lv (LV' := [(0, .ref (g.2.1 11)), (1, .int v1), (2, .int v2), (3, .int v3), (4, .int v4), (5, .int (v5 + 1))]) [1, 2, 3, 4, 5, 0] rfl ?_
          exact ih v4 (v5 + 1) k
      · refine zf_iinc hC (q := 5) (v := v5 + 1) (LV' := [(5, .int (v5 + 1)), (0, .ref (g.2.1 11)), (1, .int v1), (2, .int v2), (3, .int v3), (4, .int v4)]) dX12_has_57 rfl rfl (by decide) rfl ?_
        refine zf_goto hC (tgt := 6) dX12_has_60 (by decide) ?_
        refine zf_lv (LV' := [(0, .ref (g.2.1 11)), (1, .int v1), (2, .int v2), (3, .int v3), (4, .int v4), (5, .int (v5 + 1))]) [1, 2, 3, 4, 5, 0] rfl ?_
        exact ih v4 (v5 + 1) k
def fX12_has (k : ST) (a0 : Int32) (a1 : Int32) (a2 : Int32) : Option (Bool × ST) := lpX12_has_6 a0 a1 a2 FU 0 0 k fun y9 y10 k11 => if y9 = 0 then some (false, k11) else if y9 = 1 then some (true, k11) else none
set_option maxRecDepth 20000 in
theorem c_X12_has (l : Launch) (g : GT) (a0 : Int32) (a1 : Int32) (a2 : Int32) : CN l yX12_has cX12_has 6 (some .boolean) { frames := 0, cells := 0, slots := 0, locals := 0 } g TM voB [.ref (g.2.1 11), .int a0, .int a1, .int a2] (fun k => fX12_has k a0 a1 a2) := by
  refine cn_of (by decide) (Nat.le_of_ble_eq_true rfl) ?_
  intro p e s m args below meth c hC k
  have hC : HC p s m args meth c cX12_has 6 RX12 (some .boolean) g := hC
  have hR : 0 ≤ ({ frames := 0, cells := 0, slots := 0, locals := 0 } : Room).frames ∧ 0 ≤ ({ frames := 0, cells := 0, slots := 0, locals := 0 } : Room).locals := ⟨Nat.le_refl _, Nat.le_refl _⟩
  show ZF p l e _ s m args below meth c g TM voB 6 k 0 [(0, .ref (g.2.1 11)), (1, .int a0), (2, .int a1), (3, .int a2)] [] (fX12_has k a0 a1 a2)
  unfold fX12_has
  refine zf_iconst hC (v := 0) dX12_has_0 rfl ?_
  refine zf_istore hC (LV' := [(4, .int 0), (0, .ref (g.2.1 11)), (1, .int a0), (2, .int a1), (3, .int a2)]) dX12_has_1 (by decide) rfl ?_
  refine zf_iconst hC (v := 0) dX12_has_3 rfl ?_
  refine zf_istore hC (LV' := [(5, .int 0), (4, .int 0), (0, .ref (g.2.1 11)), (1, .int a0), (2, .int a1), (3, .int a2)]) dX12_has_4 (by decide) rfl ?_
  refine zf_lv (LV' := [(0, .ref (g.2.1 11)), (1, .int a0), (2, .int a1), (3, .int a2), (4, .int 0), (5, .int 0)]) [2, 3, 4, 5, 1, 0] rfl ?_
  refine zlpX12_has_6 hC hR a0 a1 a2 (fun y9 y10 k11 => ?_) FU 0 0 k
  refine zf_iload hC dX12_has_63 4 rfl ?_
  exact zf_zretI hC rfl dX12_has_65
/-! LifeKeysModel.hands -/
theorem dX12_hands_0 : decode cX12_hands 0 = .ok (.aload_n 0, 1) := by decide +kernel
theorem dX12_hands_1 : decode cX12_hands 1 = .ok (.iconst 0, 1) := by decide +kernel
theorem dX12_hands_2 : decode cX12_hands 2 = .ok (.putfield 181, 3) := by decide +kernel
theorem dX12_hands_5 : decode cX12_hands 5 = .ok (.aload_n 0, 1) := by decide +kernel
theorem dX12_hands_6 : decode cX12_hands 6 = .ok (.iload_n 1, 1) := by decide +kernel
theorem dX12_hands_7 : decode cX12_hands 7 = .ok (.invokevirtual 226, 3) := by decide +kernel
theorem dX12_hands_10 : decode cX12_hands 10 = .ok (.ifCond .eq 25, 3) := by decide +kernel
theorem dX12_hands_13 : decode cX12_hands 13 = .ok (.aload_n 0, 1) := by decide +kernel
theorem dX12_hands_14 : decode cX12_hands 14 = .ok (.iload_n 2, 1) := by decide +kernel
theorem dX12_hands_15 : decode cX12_hands 15 = .ok (.invokevirtual 216, 3) := by decide +kernel
theorem dX12_hands_18 : decode cX12_hands 18 = .ok (.ifCond .eq 17, 3) := by decide +kernel
theorem dX12_hands_21 : decode cX12_hands 21 = .ok (.aload_n 0, 1) := by decide +kernel
theorem dX12_hands_22 : decode cX12_hands 22 = .ok (.iload_n 1, 1) := by decide +kernel
theorem dX12_hands_23 : decode cX12_hands 23 = .ok (.iload_n 2, 1) := by decide +kernel
theorem dX12_hands_24 : decode cX12_hands 24 = .ok (.aload_n 0, 1) := by decide +kernel
theorem dX12_hands_25 : decode cX12_hands 25 = .ok (.getfield 185, 3) := by decide +kernel
theorem dX12_hands_28 : decode cX12_hands 28 = .ok (.invokevirtual 229, 3) := by decide +kernel
theorem dX12_hands_31 : decode cX12_hands 31 = .ok (.iload_n 3, 1) := by decide +kernel
theorem dX12_hands_32 : decode cX12_hands 32 = .ok (.if_icmp .ne 5, 3) := by decide +kernel
theorem dX12_hands_35 : decode cX12_hands 35 = .ok (.iconst 0, 1) := by decide +kernel
theorem dX12_hands_36 : decode cX12_hands 36 = .ok (.ireturn, 1) := by decide +kernel
theorem dX12_hands_37 : decode cX12_hands 37 = .ok (.aload_n 0, 1) := by decide +kernel
theorem dX12_hands_38 : decode cX12_hands 38 = .ok (.getfield 25, 3) := by decide +kernel
theorem dX12_hands_41 : decode cX12_hands 41 = .ok (.aload_n 0, 1) := by decide +kernel
theorem dX12_hands_42 : decode cX12_hands 42 = .ok (.getfield 223, 3) := by decide +kernel
theorem dX12_hands_45 : decode cX12_hands 45 = .ok (.iload_n 1, 1) := by decide +kernel
theorem dX12_hands_46 : decode cX12_hands 46 = .ok (.iastore, 1) := by decide +kernel
theorem dX12_hands_47 : decode cX12_hands 47 = .ok (.aload_n 0, 1) := by decide +kernel
theorem dX12_hands_48 : decode cX12_hands 48 = .ok (.getfield 28, 3) := by decide +kernel
theorem dX12_hands_51 : decode cX12_hands 51 = .ok (.aload_n 0, 1) := by decide +kernel
theorem dX12_hands_52 : decode cX12_hands 52 = .ok (.getfield 223, 3) := by decide +kernel
theorem dX12_hands_55 : decode cX12_hands 55 = .ok (.iload_n 2, 1) := by decide +kernel
theorem dX12_hands_56 : decode cX12_hands 56 = .ok (.iastore, 1) := by decide +kernel
theorem dX12_hands_57 : decode cX12_hands 57 = .ok (.aload_n 0, 1) := by decide +kernel
theorem dX12_hands_58 : decode cX12_hands 58 = .ok (.getfield 31, 3) := by decide +kernel
theorem dX12_hands_61 : decode cX12_hands 61 = .ok (.aload_n 0, 1) := by decide +kernel
theorem dX12_hands_62 : decode cX12_hands 62 = .ok (.getfield 223, 3) := by decide +kernel
theorem dX12_hands_65 : decode cX12_hands 65 = .ok (.aload_n 0, 1) := by decide +kernel
theorem dX12_hands_66 : decode cX12_hands 66 = .ok (.getfield 185, 3) := by decide +kernel
theorem dX12_hands_69 : decode cX12_hands 69 = .ok (.iastore, 1) := by decide +kernel
theorem dX12_hands_70 : decode cX12_hands 70 = .ok (.aload_n 0, 1) := by decide +kernel
theorem dX12_hands_71 : decode cX12_hands 71 = .ok (.getfield 34, 3) := by decide +kernel
theorem dX12_hands_74 : decode cX12_hands 74 = .ok (.aload_n 0, 1) := by decide +kernel
theorem dX12_hands_75 : decode cX12_hands 75 = .ok (.getfield 223, 3) := by decide +kernel
theorem dX12_hands_78 : decode cX12_hands 78 = .ok (.iload_n 3, 1) := by decide +kernel
theorem dX12_hands_79 : decode cX12_hands 79 = .ok (.bastore, 1) := by decide +kernel
theorem dX12_hands_80 : decode cX12_hands 80 = .ok (.aload_n 0, 1) := by decide +kernel
theorem dX12_hands_81 : decode cX12_hands 81 = .ok (.dup, 1) := by decide +kernel
theorem dX12_hands_82 : decode cX12_hands 82 = .ok (.getfield 223, 3) := by decide +kernel
theorem dX12_hands_85 : decode cX12_hands 85 = .ok (.iconst 1, 1) := by decide +kernel
theorem dX12_hands_86 : decode cX12_hands 86 = .ok (.iadd, 1) := by decide +kernel
theorem dX12_hands_87 : decode cX12_hands 87 = .ok (.putfield 223, 3) := by decide +kernel
theorem dX12_hands_90 : decode cX12_hands 90 = .ok (.iconst 1, 1) := by decide +kernel
theorem dX12_hands_91 : decode cX12_hands 91 = .ok (.ireturn, 1) := by decide +kernel
def fX12_hands (k : ST) (a0 : Int32) (a1 : Int32) (a2 : Bool) : Option (Bool × ST) := nm (sI k 11 0 0) fun k1 => ob (fX12_isHolder k1 a0) fun r2 k3 => if r2 = true then ob (fX12_isKey k3 a1) fun r6 k7 => if r6 = true then ob (fX12_has k7 a0 a1 (gI k7 11 1)) fun r10 k11 => if (b2i r10) = (b2i a2) then some (false, k11) else ck (inb (gI k11 11 14) 600) (nm (sA k11 104 (ix (gI k11 11 14)) a0) fun k15 => ck (inb (gI k15 11 14) 600) (nm (sA k15 105 (ix (gI k15 11 14)) a1) fun k17 => ck (inb (gI k17 11 14) 600) (nm (sA k17 106 (ix (gI k17 11 14)) (gI k17 11 1)) fun k19 => ck (inb (gI k19 11 14) 600) (nm (sA k19 107 (ix (gI k19 11 14)) (b2i a2)) fun k21 => nm (sI k21 11 14 ((gI k21 11 14) + 1)) fun k22 => some (true, k22))))) else some (false, k7) else some (false, k3)
set_option maxRecDepth 20000 in
theorem c_X12_hands (l : Launch) (g : GT) (a0 : Int32) (a1 : Int32) (a2 : Bool) : CN l yX12_hands cX12_hands 4 (some .boolean) { frames := 1, cells := 0, slots := 0, locals := 25 } g TM voB [.ref (g.2.1 11), .int a0, .int a1, .int (b2i a2)] (fun k => fX12_hands k a0 a1 a2) := by
  refine cn_of (by decide) (Nat.le_of_ble_eq_true rfl) ?_
  intro p e s m args below meth c hC k
  have hC : HC p s m args meth c cX12_hands 4 RX12 (some .boolean) g := hC
  have hR : 1 ≤ ({ frames := 1, cells := 0, slots := 0, locals := 25 } : Room).frames ∧ 25 ≤ ({ frames := 1, cells := 0, slots := 0, locals := 25 } : Room).locals := ⟨Nat.le_refl _, Nat.le_refl _⟩
  show ZF p l e _ s m args below meth c g TM voB 4 k 0 [(0, .ref (g.2.1 11)), (1, .int a0), (2, .int a1), (3, .int (b2i a2))] [] (fX12_hands k a0 a1 a2)
  unfold fX12_hands
  refine zf_aload_n hC dX12_hands_0 rfl 0 rfl ?_
  refine zf_iconst hC (v := 0) dX12_hands_1 rfl ?_
  refine pf_1230 hC dX12_hands_2 ?_
  refine zf_nmk (fun k1 => ?_)
  refine zf_aload_n hC dX12_hands_5 rfl 0 rfl ?_
  refine zf_iload_n hC dX12_hands_6 rfl 1 rfl ?_
  refine zf_callV hC (c_X12_isHolder l g a0) mt_X12_isHolder wd_1552 sp_49 ci_11 ic_11 wd_1550 rfl (rm_le hR rfl) rfl rfl (rest := []) rfl (Nat.le_of_ble_eq_true rfl) dX12_hands_7 (fun r2 k3 h4 => ?_)
  refine zf_ifb_eq hC (tgt := 35) dX12_hands_10 (by decide) (fun h5 => ?_) (fun h5 => ?_)
  · refine zf_aload_n hC dX12_hands_13 rfl 0 rfl ?_
    refine zf_iload_n hC dX12_hands_14 rfl 2 rfl ?_
    refine zf_callV hC (c_X12_isKey l g a1) mt_X12_isKey wd_1530 sp_47 ci_11 ic_11 wd_1528 rfl (rm_le hR rfl) rfl rfl (rest := []) rfl (Nat.le_of_ble_eq_true rfl) dX12_hands_15 (fun r6 k7 h8 => ?_)
    refine zf_ifb_eq hC (tgt := 35) dX12_hands_18 (by decide) (fun h9 => ?_) (fun h9 => ?_)
    · refine zf_aload_n hC dX12_hands_21 rfl 0 rfl ?_
      refine zf_iload_n hC dX12_hands_22 rfl 1 rfl ?_
      refine zf_iload_n hC dX12_hands_23 rfl 2 rfl ?_
      refine zf_aload_n hC dX12_hands_24 rfl 0 rfl ?_
      refine gf_1231 hC dX12_hands_25 ?_
      refine zf_callV hC (c_X12_has l g a0 a1 (gI k7 11 1)) mt_X12_has wd_1556 sp_50 ci_11 ic_11 wd_1554 rfl (rm_le hR rfl) rfl rfl (rest := []) rfl (Nat.le_of_ble_eq_true rfl) dX12_hands_28 (fun r10 k11 h12 => ?_)
      refine zf_iload_n hC dX12_hands_31 rfl 3 rfl ?_
      refine zf_icmp_ne hC (tgt := 37) dX12_hands_32 (by decide) (fun h13 => ?_) (fun h13 => ?_)
      · refine zf_iconst hC (v := 0) dX12_hands_35 rfl ?_
        exact zf_zret hC rfl false rfl dX12_hands_36
      · refine zf_aload_n hC dX12_hands_37 rfl 0 rfl ?_
        refine gf_1237 hC dX12_hands_38 ?_
        refine zf_aload_n hC dX12_hands_41 rfl 0 rfl ?_
        refine gf_1244 hC dX12_hands_42 ?_
        refine zf_iload_n hC dX12_hands_45 rfl 1 rfl ?_
        refine zf_iast hC (j := 104) ia_104 rfl rfl dX12_hands_46 (fun h14 => ?_)
        refine zf_nmk (fun k15 => ?_)
        refine zf_aload_n hC dX12_hands_47 rfl 0 rfl ?_
        refine gf_1238 hC dX12_hands_48 ?_
        refine zf_aload_n hC dX12_hands_51 rfl 0 rfl ?_
        refine gf_1244 hC dX12_hands_52 ?_
        refine zf_iload_n hC dX12_hands_55 rfl 2 rfl ?_
        refine zf_iast hC (j := 105) ia_105 rfl rfl dX12_hands_56 (fun h16 => ?_)
        refine zf_nmk (fun k17 => ?_)
        refine zf_aload_n hC dX12_hands_57 rfl 0 rfl ?_
        refine gf_1239 hC dX12_hands_58 ?_
        refine zf_aload_n hC dX12_hands_61 rfl 0 rfl ?_
        refine gf_1244 hC dX12_hands_62 ?_
        refine zf_aload_n hC dX12_hands_65 rfl 0 rfl ?_
        refine gf_1231 hC dX12_hands_66 ?_
        refine zf_iast hC (j := 106) ia_106 rfl rfl dX12_hands_69 (fun h18 => ?_)
        refine zf_nmk (fun k19 => ?_)
        refine zf_aload_n hC dX12_hands_70 rfl 0 rfl ?_
        refine gf_1240 hC dX12_hands_71 ?_
        refine zf_aload_n hC dX12_hands_74 rfl 0 rfl ?_
        refine gf_1244 hC dX12_hands_75 ?_
        refine zf_iload_n hC dX12_hands_78 rfl 3 rfl ?_
        refine zf_zast hC (j := 107) ia_107 rfl rfl (nar_b _) dX12_hands_79 (fun h20 => ?_)
        refine zf_nmk (fun k21 => ?_)
        refine zf_aload_n hC dX12_hands_80 rfl 0 rfl ?_
        refine zf_dup hC dX12_hands_81 rfl ?_
        refine gf_1244 hC dX12_hands_82 ?_
        refine zf_iconst hC (v := 1) dX12_hands_85 rfl ?_
        refine zf_iadd hC dX12_hands_86 ?_
        refine pf_1244 hC dX12_hands_87 ?_
        refine zf_nmk (fun k22 => ?_)
        refine zf_iconst hC (v := 1) dX12_hands_90 rfl ?_
        exact zf_zret hC rfl true rfl dX12_hands_91
    · refine zf_iconst hC (v := 0) dX12_hands_35 rfl ?_
      exact zf_zret hC rfl false rfl dX12_hands_36
  · refine zf_iconst hC (v := 0) dX12_hands_35 rfl ?_
    exact zf_zret hC rfl false rfl dX12_hands_36
/-! LifeKeysModel.give -/
theorem dX12_give_0 : decode cX12_give 0 = .ok (.aload_n 0, 1) := by decide +kernel
theorem dX12_give_1 : decode cX12_give 1 = .ok (.iload_n 1, 1) := by decide +kernel
theorem dX12_give_2 : decode cX12_give 2 = .ok (.iload_n 2, 1) := by decide +kernel
theorem dX12_give_3 : decode cX12_give 3 = .ok (.iconst 1, 1) := by decide +kernel
theorem dX12_give_4 : decode cX12_give 4 = .ok (.invokevirtual 232, 3) := by decide +kernel
theorem dX12_give_7 : decode cX12_give 7 = .ok (.ireturn, 1) := by decide +kernel
def fX12_give (k : ST) (a0 : Int32) (a1 : Int32) : Option (Bool × ST) := ob (fX12_hands k a0 a1 true) fun r1 k2 => some (r1, k2)
set_option maxRecDepth 20000 in
theorem c_X12_give (l : Launch) (g : GT) (a0 : Int32) (a1 : Int32) : CN l yX12_give cX12_give 3 (some .boolean) { frames := 2, cells := 0, slots := 0, locals := 48 } g TM voB [.ref (g.2.1 11), .int a0, .int a1] (fun k => fX12_give k a0 a1) := by
  refine cn_of (by decide) (Nat.le_of_ble_eq_true rfl) ?_
  intro p e s m args below meth c hC k
  have hC : HC p s m args meth c cX12_give 3 RX12 (some .boolean) g := hC
  have hR : 2 ≤ ({ frames := 2, cells := 0, slots := 0, locals := 48 } : Room).frames ∧ 48 ≤ ({ frames := 2, cells := 0, slots := 0, locals := 48 } : Room).locals := ⟨Nat.le_refl _, Nat.le_refl _⟩
  show ZF p l e _ s m args below meth c g TM voB 3 k 0 [(0, .ref (g.2.1 11)), (1, .int a0), (2, .int a1)] [] (fX12_give k a0 a1)
  unfold fX12_give
  refine zf_aload_n hC dX12_give_0 rfl 0 rfl ?_
  refine zf_iload_n hC dX12_give_1 rfl 1 rfl ?_
  refine zf_iload_n hC dX12_give_2 rfl 2 rfl ?_
  refine zf_iconst hC (v := 1) dX12_give_3 rfl ?_
  refine zf_callV hC (c_X12_hands l g a0 a1 true) mt_X12_hands wd_1548 sp_48 ci_11 ic_11 wd_1546 rfl (rm_le hR rfl) rfl rfl (rest := []) rfl (Nat.le_of_ble_eq_true rfl) dX12_give_4 (fun r1 k2 h3 => ?_)
  exact zf_zret hC rfl r1 rfl dX12_give_7
/-! LifeKeysModel.take -/
theorem dX12_take_0 : decode cX12_take 0 = .ok (.aload_n 0, 1) := by decide +kernel
theorem dX12_take_1 : decode cX12_take 1 = .ok (.iload_n 1, 1) := by decide +kernel
theorem dX12_take_2 : decode cX12_take 2 = .ok (.iload_n 2, 1) := by decide +kernel
theorem dX12_take_3 : decode cX12_take 3 = .ok (.iconst 0, 1) := by decide +kernel
theorem dX12_take_4 : decode cX12_take 4 = .ok (.invokevirtual 232, 3) := by decide +kernel
theorem dX12_take_7 : decode cX12_take 7 = .ok (.ireturn, 1) := by decide +kernel
def fX12_take (k : ST) (a0 : Int32) (a1 : Int32) : Option (Bool × ST) := ob (fX12_hands k a0 a1 false) fun r1 k2 => some (r1, k2)
set_option maxRecDepth 20000 in
theorem c_X12_take (l : Launch) (g : GT) (a0 : Int32) (a1 : Int32) : CN l yX12_take cX12_take 3 (some .boolean) { frames := 2, cells := 0, slots := 0, locals := 48 } g TM voB [.ref (g.2.1 11), .int a0, .int a1] (fun k => fX12_take k a0 a1) := by
  refine cn_of (by decide) (Nat.le_of_ble_eq_true rfl) ?_
  intro p e s m args below meth c hC k
  have hC : HC p s m args meth c cX12_take 3 RX12 (some .boolean) g := hC
  have hR : 2 ≤ ({ frames := 2, cells := 0, slots := 0, locals := 48 } : Room).frames ∧ 48 ≤ ({ frames := 2, cells := 0, slots := 0, locals := 48 } : Room).locals := ⟨Nat.le_refl _, Nat.le_refl _⟩
  show ZF p l e _ s m args below meth c g TM voB 3 k 0 [(0, .ref (g.2.1 11)), (1, .int a0), (2, .int a1)] [] (fX12_take k a0 a1)
  unfold fX12_take
  refine zf_aload_n hC dX12_take_0 rfl 0 rfl ?_
  refine zf_iload_n hC dX12_take_1 rfl 1 rfl ?_
  refine zf_iload_n hC dX12_take_2 rfl 2 rfl ?_
  refine zf_iconst hC (v := 0) dX12_take_3 rfl ?_
  refine zf_callV hC (c_X12_hands l g a0 a1 false) mt_X12_hands wd_1548 sp_48 ci_11 ic_11 wd_1546 rfl (rm_le hR rfl) rfl rfl (rest := []) rfl (Nat.le_of_ble_eq_true rfl) dX12_take_4 (fun r1 k2 h3 => ?_)
  exact zf_zret hC rfl r1 rfl dX12_take_7
/-! LifeKeysModel.wrap -/
theorem dX12_wrap_0 : decode cX12_wrap 0 = .ok (.aload_n 0, 1) := by decide +kernel
theorem dX12_wrap_1 : decode cX12_wrap 1 = .ok (.iconst 0, 1) := by decide +kernel
theorem dX12_wrap_2 : decode cX12_wrap 2 = .ok (.putfield 181, 3) := by decide +kernel
theorem dX12_wrap_5 : decode cX12_wrap 5 = .ok (.aload_n 0, 1) := by decide +kernel
theorem dX12_wrap_6 : decode cX12_wrap 6 = .ok (.getfield 236, 3) := by decide +kernel
theorem dX12_wrap_9 : decode cX12_wrap 9 = .ok (.bipush 40, 2) := by decide +kernel
theorem dX12_wrap_11 : decode cX12_wrap 11 = .ok (.if_icmp .eq 24, 3) := by decide +kernel
theorem dX12_wrap_14 : decode cX12_wrap 14 = .ok (.aload_n 0, 1) := by decide +kernel
theorem dX12_wrap_15 : decode cX12_wrap 15 = .ok (.iload_n 1, 1) := by decide +kernel
theorem dX12_wrap_16 : decode cX12_wrap 16 = .ok (.invokevirtual 216, 3) := by decide +kernel
theorem dX12_wrap_19 : decode cX12_wrap 19 = .ok (.ifCond .eq 16, 3) := by decide +kernel
theorem dX12_wrap_22 : decode cX12_wrap 22 = .ok (.aload_n 0, 1) := by decide +kernel
theorem dX12_wrap_23 : decode cX12_wrap 23 = .ok (.iload_n 2, 1) := by decide +kernel
theorem dX12_wrap_24 : decode cX12_wrap 24 = .ok (.invokevirtual 216, 3) := by decide +kernel
theorem dX12_wrap_27 : decode cX12_wrap 27 = .ok (.ifCond .eq 8, 3) := by decide +kernel
theorem dX12_wrap_30 : decode cX12_wrap 30 = .ok (.iload_n 1, 1) := by decide +kernel
theorem dX12_wrap_31 : decode cX12_wrap 31 = .ok (.iload_n 2, 1) := by decide +kernel
theorem dX12_wrap_32 : decode cX12_wrap 32 = .ok (.if_icmp .ne 5, 3) := by decide +kernel
theorem dX12_wrap_35 : decode cX12_wrap 35 = .ok (.iconst (-1), 1) := by decide +kernel
theorem dX12_wrap_36 : decode cX12_wrap 36 = .ok (.ireturn, 1) := by decide +kernel
theorem dX12_wrap_37 : decode cX12_wrap 37 = .ok (.aload_n 0, 1) := by decide +kernel
theorem dX12_wrap_38 : decode cX12_wrap 38 = .ok (.getfield 45, 3) := by decide +kernel
theorem dX12_wrap_41 : decode cX12_wrap 41 = .ok (.aload_n 0, 1) := by decide +kernel
theorem dX12_wrap_42 : decode cX12_wrap 42 = .ok (.getfield 236, 3) := by decide +kernel
theorem dX12_wrap_45 : decode cX12_wrap 45 = .ok (.iload_n 1, 1) := by decide +kernel
theorem dX12_wrap_46 : decode cX12_wrap 46 = .ok (.iastore, 1) := by decide +kernel
theorem dX12_wrap_47 : decode cX12_wrap 47 = .ok (.aload_n 0, 1) := by decide +kernel
theorem dX12_wrap_48 : decode cX12_wrap 48 = .ok (.getfield 48, 3) := by decide +kernel
theorem dX12_wrap_51 : decode cX12_wrap 51 = .ok (.aload_n 0, 1) := by decide +kernel
theorem dX12_wrap_52 : decode cX12_wrap 52 = .ok (.getfield 236, 3) := by decide +kernel
theorem dX12_wrap_55 : decode cX12_wrap 55 = .ok (.iload_n 2, 1) := by decide +kernel
theorem dX12_wrap_56 : decode cX12_wrap 56 = .ok (.iastore, 1) := by decide +kernel
theorem dX12_wrap_57 : decode cX12_wrap 57 = .ok (.aload_n 0, 1) := by decide +kernel
theorem dX12_wrap_58 : decode cX12_wrap 58 = .ok (.getfield 51, 3) := by decide +kernel
theorem dX12_wrap_61 : decode cX12_wrap 61 = .ok (.aload_n 0, 1) := by decide +kernel
theorem dX12_wrap_62 : decode cX12_wrap 62 = .ok (.getfield 236, 3) := by decide +kernel
theorem dX12_wrap_65 : decode cX12_wrap 65 = .ok (.aload_n 0, 1) := by decide +kernel
theorem dX12_wrap_66 : decode cX12_wrap 66 = .ok (.getfield 185, 3) := by decide +kernel
theorem dX12_wrap_69 : decode cX12_wrap 69 = .ok (.iastore, 1) := by decide +kernel
theorem dX12_wrap_70 : decode cX12_wrap 70 = .ok (.aload_n 0, 1) := by decide +kernel
theorem dX12_wrap_71 : decode cX12_wrap 71 = .ok (.getfield 54, 3) := by decide +kernel
theorem dX12_wrap_74 : decode cX12_wrap 74 = .ok (.aload_n 0, 1) := by decide +kernel
theorem dX12_wrap_75 : decode cX12_wrap 75 = .ok (.getfield 236, 3) := by decide +kernel
theorem dX12_wrap_78 : decode cX12_wrap 78 = .ok (.sipush 9999, 3) := by decide +kernel
theorem dX12_wrap_81 : decode cX12_wrap 81 = .ok (.iastore, 1) := by decide +kernel
theorem dX12_wrap_82 : decode cX12_wrap 82 = .ok (.aload_n 0, 1) := by decide +kernel
theorem dX12_wrap_83 : decode cX12_wrap 83 = .ok (.dup, 1) := by decide +kernel
theorem dX12_wrap_84 : decode cX12_wrap 84 = .ok (.getfield 236, 3) := by decide +kernel
theorem dX12_wrap_87 : decode cX12_wrap 87 = .ok (.iconst 1, 1) := by decide +kernel
theorem dX12_wrap_88 : decode cX12_wrap 88 = .ok (.iadd, 1) := by decide +kernel
theorem dX12_wrap_89 : decode cX12_wrap 89 = .ok (.putfield 236, 3) := by decide +kernel
theorem dX12_wrap_92 : decode cX12_wrap 92 = .ok (.aload_n 0, 1) := by decide +kernel
theorem dX12_wrap_93 : decode cX12_wrap 93 = .ok (.getfield 236, 3) := by decide +kernel
theorem dX12_wrap_96 : decode cX12_wrap 96 = .ok (.iconst 1, 1) := by decide +kernel
theorem dX12_wrap_97 : decode cX12_wrap 97 = .ok (.isub, 1) := by decide +kernel
theorem dX12_wrap_98 : decode cX12_wrap 98 = .ok (.ireturn, 1) := by decide +kernel
def fX12_wrap (k : ST) (a0 : Int32) (a1 : Int32) : Option (Int32 × ST) := nm (sI k 11 0 0) fun k1 => if (gI k1 11 29) = 40 then some ((-1), k1) else ob (fX12_isKey k1 a0) fun r3 k4 => if r3 = true then ob (fX12_isKey k4 a1) fun r7 k8 => if r7 = true then if a0 = a1 then some ((-1), k8) else ck (inb (gI k8 11 29) 40) (nm (sA k8 110 (ix (gI k8 11 29)) a0) fun k13 => ck (inb (gI k13 11 29) 40) (nm (sA k13 111 (ix (gI k13 11 29)) a1) fun k15 => ck (inb (gI k15 11 29) 40) (nm (sA k15 112 (ix (gI k15 11 29)) (gI k15 11 1)) fun k17 => ck (inb (gI k17 11 29) 40) (nm (sA k17 113 (ix (gI k17 11 29)) 9999) fun k19 => nm (sI k19 11 29 ((gI k19 11 29) + 1)) fun k20 => some ((gI k20 11 29) - 1, k20))))) else some ((-1), k8) else some ((-1), k4)
set_option maxRecDepth 20000 in
theorem c_X12_wrap (l : Launch) (g : GT) (a0 : Int32) (a1 : Int32) : CN l yX12_wrap cX12_wrap 3 (some .int) { frames := 1, cells := 0, slots := 0, locals := 21 } g TM voI [.ref (g.2.1 11), .int a0, .int a1] (fun k => fX12_wrap k a0 a1) := by
  refine cn_of (by decide) (Nat.le_of_ble_eq_true rfl) ?_
  intro p e s m args below meth c hC k
  have hC : HC p s m args meth c cX12_wrap 3 RX12 (some .int) g := hC
  have hR : 1 ≤ ({ frames := 1, cells := 0, slots := 0, locals := 21 } : Room).frames ∧ 21 ≤ ({ frames := 1, cells := 0, slots := 0, locals := 21 } : Room).locals := ⟨Nat.le_refl _, Nat.le_refl _⟩
  show ZF p l e _ s m args below meth c g TM voI 3 k 0 [(0, .ref (g.2.1 11)), (1, .int a0), (2, .int a1)] [] (fX12_wrap k a0 a1)
  unfold fX12_wrap
  refine zf_aload_n hC dX12_wrap_0 rfl 0 rfl ?_
  refine zf_iconst hC (v := 0) dX12_wrap_1 rfl ?_
  refine pf_1230 hC dX12_wrap_2 ?_
  refine zf_nmk (fun k1 => ?_)
  refine zf_aload_n hC dX12_wrap_5 rfl 0 rfl ?_
  refine gf_1259 hC dX12_wrap_6 ?_
  refine zf_bipush hC (v := 40) dX12_wrap_9 rfl ?_
  refine zf_icmp_eq hC (tgt := 35) dX12_wrap_11 (by decide) (fun h2 => ?_) (fun h2 => ?_)
  · refine zf_iconst hC (v := (-1)) dX12_wrap_35 rfl ?_
    exact zf_iret hC rfl dX12_wrap_36
  · refine zf_aload_n hC dX12_wrap_14 rfl 0 rfl ?_
    refine zf_iload_n hC dX12_wrap_15 rfl 1 rfl ?_
    refine zf_callV hC (c_X12_isKey l g a0) mt_X12_isKey wd_1530 sp_47 ci_11 ic_11 wd_1528 rfl (rm_le hR rfl) rfl rfl (rest := []) rfl (Nat.le_of_ble_eq_true rfl) dX12_wrap_16 (fun r3 k4 h5 => ?_)
    refine zf_ifb_eq hC (tgt := 35) dX12_wrap_19 (by decide) (fun h6 => ?_) (fun h6 => ?_)
    · refine zf_aload_n hC dX12_wrap_22 rfl 0 rfl ?_
      refine zf_iload_n hC dX12_wrap_23 rfl 2 rfl ?_
      refine zf_callV hC (c_X12_isKey l g a1) mt_X12_isKey wd_1530 sp_47 ci_11 ic_11 wd_1528 rfl (rm_le hR rfl) rfl rfl (rest := []) rfl (Nat.le_of_ble_eq_true rfl) dX12_wrap_24 (fun r7 k8 h9 => ?_)
      refine zf_ifb_eq hC (tgt := 35) dX12_wrap_27 (by decide) (fun h10 => ?_) (fun h10 => ?_)
      · refine zf_iload_n hC dX12_wrap_30 rfl 1 rfl ?_
        refine zf_iload_n hC dX12_wrap_31 rfl 2 rfl ?_
        refine zf_icmp_ne hC (tgt := 37) dX12_wrap_32 (by decide) (fun h11 => ?_) (fun h11 => ?_)
        · refine zf_iconst hC (v := (-1)) dX12_wrap_35 rfl ?_
          exact zf_iret hC rfl dX12_wrap_36
        · refine zf_aload_n hC dX12_wrap_37 rfl 0 rfl ?_
          refine gf_1247 hC dX12_wrap_38 ?_
          refine zf_aload_n hC dX12_wrap_41 rfl 0 rfl ?_
          refine gf_1259 hC dX12_wrap_42 ?_
          refine zf_iload_n hC dX12_wrap_45 rfl 1 rfl ?_
          refine zf_iast hC (j := 110) ia_110 rfl rfl dX12_wrap_46 (fun h12 => ?_)
          refine zf_nmk (fun k13 => ?_)
          refine zf_aload_n hC dX12_wrap_47 rfl 0 rfl ?_
          refine gf_1248 hC dX12_wrap_48 ?_
          refine zf_aload_n hC dX12_wrap_51 rfl 0 rfl ?_
          refine gf_1259 hC dX12_wrap_52 ?_
          refine zf_iload_n hC dX12_wrap_55 rfl 2 rfl ?_
          refine zf_iast hC (j := 111) ia_111 rfl rfl dX12_wrap_56 (fun h14 => ?_)
          refine zf_nmk (fun k15 => ?_)
          refine zf_aload_n hC dX12_wrap_57 rfl 0 rfl ?_
          refine gf_1249 hC dX12_wrap_58 ?_
          refine zf_aload_n hC dX12_wrap_61 rfl 0 rfl ?_
          refine gf_1259 hC dX12_wrap_62 ?_
          refine zf_aload_n hC dX12_wrap_65 rfl 0 rfl ?_
          refine gf_1231 hC dX12_wrap_66 ?_
          refine zf_iast hC (j := 112) ia_112 rfl rfl dX12_wrap_69 (fun h16 => ?_)
          refine zf_nmk (fun k17 => ?_)
          refine zf_aload_n hC dX12_wrap_70 rfl 0 rfl ?_
          refine gf_1250 hC dX12_wrap_71 ?_
          refine zf_aload_n hC dX12_wrap_74 rfl 0 rfl ?_
          refine gf_1259 hC dX12_wrap_75 ?_
          refine zf_sipush hC (v := 9999) dX12_wrap_78 rfl ?_
          refine zf_iast hC (j := 113) ia_113 rfl rfl dX12_wrap_81 (fun h18 => ?_)
          refine zf_nmk (fun k19 => ?_)
          refine zf_aload_n hC dX12_wrap_82 rfl 0 rfl ?_
          refine zf_dup hC dX12_wrap_83 rfl ?_
          refine gf_1259 hC dX12_wrap_84 ?_
          refine zf_iconst hC (v := 1) dX12_wrap_87 rfl ?_
          refine zf_iadd hC dX12_wrap_88 ?_
          refine pf_1259 hC dX12_wrap_89 ?_
          refine zf_nmk (fun k20 => ?_)
          refine zf_aload_n hC dX12_wrap_92 rfl 0 rfl ?_
          refine gf_1259 hC dX12_wrap_93 ?_
          refine zf_iconst hC (v := 1) dX12_wrap_96 rfl ?_
          refine zf_isub hC dX12_wrap_97 ?_
          exact zf_iret hC rfl dX12_wrap_98
      · refine zf_iconst hC (v := (-1)) dX12_wrap_35 rfl ?_
        exact zf_iret hC rfl dX12_wrap_36
    · refine zf_iconst hC (v := (-1)) dX12_wrap_35 rfl ?_
      exact zf_iret hC rfl dX12_wrap_36
/-! LifeKeysModel.cut -/
theorem dX12_cut_0 : decode cX12_cut 0 = .ok (.aload_n 0, 1) := by decide +kernel
theorem dX12_cut_1 : decode cX12_cut 1 = .ok (.iconst 0, 1) := by decide +kernel
theorem dX12_cut_2 : decode cX12_cut 2 = .ok (.putfield 181, 3) := by decide +kernel
theorem dX12_cut_5 : decode cX12_cut 5 = .ok (.iload_n 1, 1) := by decide +kernel
theorem dX12_cut_6 : decode cX12_cut 6 = .ok (.iconst 0, 1) := by decide +kernel
theorem dX12_cut_7 : decode cX12_cut 7 = .ok (.aload_n 0, 1) := by decide +kernel
theorem dX12_cut_8 : decode cX12_cut 8 = .ok (.getfield 236, 3) := by decide +kernel
theorem dX12_cut_11 : decode cX12_cut 11 = .ok (.iconst 1, 1) := by decide +kernel
theorem dX12_cut_12 : decode cX12_cut 12 = .ok (.isub, 1) := by decide +kernel
theorem dX12_cut_13 : decode cX12_cut 13 = .ok (.invokestatic 188, 3) := by decide +kernel
theorem dX12_cut_16 : decode cX12_cut 16 = .ok (.ifCond .eq 15, 3) := by decide +kernel
theorem dX12_cut_19 : decode cX12_cut 19 = .ok (.aload_n 0, 1) := by decide +kernel
theorem dX12_cut_20 : decode cX12_cut 20 = .ok (.getfield 54, 3) := by decide +kernel
theorem dX12_cut_23 : decode cX12_cut 23 = .ok (.iload_n 1, 1) := by decide +kernel
theorem dX12_cut_24 : decode cX12_cut 24 = .ok (.iaload, 1) := by decide +kernel
theorem dX12_cut_25 : decode cX12_cut 25 = .ok (.sipush 9999, 3) := by decide +kernel
theorem dX12_cut_28 : decode cX12_cut 28 = .ok (.if_icmp .eq 5, 3) := by decide +kernel
theorem dX12_cut_31 : decode cX12_cut 31 = .ok (.iconst 0, 1) := by decide +kernel
theorem dX12_cut_32 : decode cX12_cut 32 = .ok (.ireturn, 1) := by decide +kernel
theorem dX12_cut_33 : decode cX12_cut 33 = .ok (.aload_n 0, 1) := by decide +kernel
theorem dX12_cut_34 : decode cX12_cut 34 = .ok (.getfield 54, 3) := by decide +kernel
theorem dX12_cut_37 : decode cX12_cut 37 = .ok (.iload_n 1, 1) := by decide +kernel
theorem dX12_cut_38 : decode cX12_cut 38 = .ok (.aload_n 0, 1) := by decide +kernel
theorem dX12_cut_39 : decode cX12_cut 39 = .ok (.getfield 185, 3) := by decide +kernel
theorem dX12_cut_42 : decode cX12_cut 42 = .ok (.iastore, 1) := by decide +kernel
theorem dX12_cut_43 : decode cX12_cut 43 = .ok (.iconst 1, 1) := by decide +kernel
theorem dX12_cut_44 : decode cX12_cut 44 = .ok (.ireturn, 1) := by decide +kernel
def fX12_cut (k : ST) (a0 : Int32) : Option (Bool × ST) := nm (sI k 11 0 0) fun k1 => ob (fX12_isIn k1 a0 0 ((gI k1 11 29) - 1)) fun r2 k3 => if r2 = true then ck (inb a0 40) (if (gA k3 113 (ix a0)) = 9999 then ck (inb a0 40) (nm (sA k3 113 (ix a0) (gI k3 11 1)) fun k9 => some (true, k9)) else some (false, k3)) else some (false, k3)
set_option maxRecDepth 20000 in
theorem c_X12_cut (l : Launch) (g : GT) (a0 : Int32) : CN l yX12_cut cX12_cut 2 (some .boolean) { frames := 1, cells := 0, slots := 0, locals := 22 } g TM voB [.ref (g.2.1 11), .int a0] (fun k => fX12_cut k a0) := by
  refine cn_of (by decide) (Nat.le_of_ble_eq_true rfl) ?_
  intro p e s m args below meth c hC k
  have hC : HC p s m args meth c cX12_cut 2 RX12 (some .boolean) g := hC
  have hR : 1 ≤ ({ frames := 1, cells := 0, slots := 0, locals := 22 } : Room).frames ∧ 22 ≤ ({ frames := 1, cells := 0, slots := 0, locals := 22 } : Room).locals := ⟨Nat.le_refl _, Nat.le_refl _⟩
  show ZF p l e _ s m args below meth c g TM voB 2 k 0 [(0, .ref (g.2.1 11)), (1, .int a0)] [] (fX12_cut k a0)
  unfold fX12_cut
  refine zf_aload_n hC dX12_cut_0 rfl 0 rfl ?_
  refine zf_iconst hC (v := 0) dX12_cut_1 rfl ?_
  refine pf_1230 hC dX12_cut_2 ?_
  refine zf_nmk (fun k1 => ?_)
  refine zf_iload_n hC dX12_cut_5 rfl 1 rfl ?_
  refine zf_iconst hC (v := 0) dX12_cut_6 rfl ?_
  refine zf_aload_n hC dX12_cut_7 rfl 0 rfl ?_
  refine gf_1259 hC dX12_cut_8 ?_
  refine zf_iconst hC (v := 1) dX12_cut_11 rfl ?_
  refine zf_isub hC dX12_cut_12 ?_
  refine zf_callS hC (c_X12_isIn l g TM a0 0 ((gI k1 11 29) - 1)) mt_X12_isIn wd_1495 wd_1494 rfl (rm_le hR rfl) rfl rfl (rest := []) rfl (Nat.le_of_ble_eq_true rfl) dX12_cut_13 (fun r2 k3 h4 => ?_)
  refine zf_ifb_eq hC (tgt := 31) dX12_cut_16 (by decide) (fun h5 => ?_) (fun h5 => ?_)
  · refine zf_aload_n hC dX12_cut_19 rfl 0 rfl ?_
    refine gf_1250 hC dX12_cut_20 ?_
    refine zf_iload_n hC dX12_cut_23 rfl 1 rfl ?_
    refine zf_iald hC (j := 113) ia_113 rfl rfl dX12_cut_24 (fun h6 => ?_)
    refine zf_sipush hC (v := 9999) dX12_cut_25 rfl ?_
    refine zf_icmp_eq hC (tgt := 33) dX12_cut_28 (by decide) (fun h7 => ?_) (fun h7 => ?_)
    · refine zf_aload_n hC dX12_cut_33 rfl 0 rfl ?_
      refine gf_1250 hC dX12_cut_34 ?_
      refine zf_iload_n hC dX12_cut_37 rfl 1 rfl ?_
      refine zf_aload_n hC dX12_cut_38 rfl 0 rfl ?_
      refine gf_1231 hC dX12_cut_39 ?_
      refine zf_iast hC (j := 113) ia_113 rfl rfl dX12_cut_42 (fun h8 => ?_)
      refine zf_nmk (fun k9 => ?_)
      refine zf_iconst hC (v := 1) dX12_cut_43 rfl ?_
      exact zf_zret hC rfl true rfl dX12_cut_44
    · refine zf_iconst hC (v := 0) dX12_cut_31 rfl ?_
      exact zf_zret hC rfl false rfl dX12_cut_32
  · refine zf_iconst hC (v := 0) dX12_cut_31 rfl ?_
    exact zf_zret hC rfl false rfl dX12_cut_32
/-! LifeKeysModel.areHolders -/
theorem dX12_areHolders_0 : decode cX12_areHolders 0 = .ok (.iload_n 1, 1) := by decide +kernel
theorem dX12_areHolders_1 : decode cX12_areHolders 1 = .ok (.iload_n 2, 1) := by decide +kernel
theorem dX12_areHolders_2 : decode cX12_areHolders 2 = .ok (.if_icmp .lt 17, 3) := by decide +kernel
theorem dX12_areHolders_5 : decode cX12_areHolders 5 = .ok (.iload_n 1, 1) := by decide +kernel
theorem dX12_areHolders_6 : decode cX12_areHolders 6 = .ok (.iconst 1, 1) := by decide +kernel
theorem dX12_areHolders_7 : decode cX12_areHolders 7 = .ok (.aload_n 0, 1) := by decide +kernel
theorem dX12_areHolders_8 : decode cX12_areHolders 8 = .ok (.getfield 196, 3) := by decide +kernel
theorem dX12_areHolders_11 : decode cX12_areHolders 11 = .ok (.ishl, 1) := by decide +kernel
theorem dX12_areHolders_12 : decode cX12_areHolders 12 = .ok (.if_icmp .ge 7, 3) := by decide +kernel
theorem dX12_areHolders_15 : decode cX12_areHolders 15 = .ok (.iconst 1, 1) := by decide +kernel
theorem dX12_areHolders_16 : decode cX12_areHolders 16 = .ok (.goto 4, 3) := by decide +kernel
theorem dX12_areHolders_19 : decode cX12_areHolders 19 = .ok (.iconst 0, 1) := by decide +kernel
theorem dX12_areHolders_20 : decode cX12_areHolders 20 = .ok (.ireturn, 1) := by decide +kernel
def fX12_areHolders (k : ST) (a0 : Int32) (a1 : Int32) : Option (Bool × ST) := if a0 < a1 then some (false, k) else if (j_shl 1 (gI k 11 12)) ≤ a0 then some (false, k) else some (true, k)
set_option maxRecDepth 20000 in
theorem c_X12_areHolders (l : Launch) (g : GT) (a0 : Int32) (a1 : Int32) : CN l yX12_areHolders cX12_areHolders 3 (some .boolean) { frames := 0, cells := 0, slots := 0, locals := 0 } g TM voB [.ref (g.2.1 11), .int a0, .int a1] (fun k => fX12_areHolders k a0 a1) := by
  refine cn_of (by decide) (Nat.le_of_ble_eq_true rfl) ?_
  intro p e s m args below meth c hC k
  have hC : HC p s m args meth c cX12_areHolders 3 RX12 (some .boolean) g := hC
  have hR : 0 ≤ ({ frames := 0, cells := 0, slots := 0, locals := 0 } : Room).frames ∧ 0 ≤ ({ frames := 0, cells := 0, slots := 0, locals := 0 } : Room).locals := ⟨Nat.le_refl _, Nat.le_refl _⟩
  show ZF p l e _ s m args below meth c g TM voB 3 k 0 [(0, .ref (g.2.1 11)), (1, .int a0), (2, .int a1)] [] (fX12_areHolders k a0 a1)
  unfold fX12_areHolders
  refine zf_iload_n hC dX12_areHolders_0 rfl 1 rfl ?_
  refine zf_iload_n hC dX12_areHolders_1 rfl 2 rfl ?_
  refine zf_icmp_lt hC (tgt := 19) dX12_areHolders_2 (by decide) (fun h1 => ?_) (fun h1 => ?_)
  · refine zf_iconst hC (v := 0) dX12_areHolders_19 rfl ?_
    exact zf_zret hC rfl false rfl dX12_areHolders_20
  · refine zf_iload_n hC dX12_areHolders_5 rfl 1 rfl ?_
    refine zf_iconst hC (v := 1) dX12_areHolders_6 rfl ?_
    refine zf_aload_n hC dX12_areHolders_7 rfl 0 rfl ?_
    refine gf_1242 hC dX12_areHolders_8 ?_
    refine zf_ishl hC dX12_areHolders_11 ?_
    refine zf_icmp_ge hC (tgt := 19) dX12_areHolders_12 (by decide) (fun h2 => ?_) (fun h2 => ?_)
    · refine zf_iconst hC (v := 0) dX12_areHolders_19 rfl ?_
      exact zf_zret hC rfl false rfl dX12_areHolders_20
    · refine zf_iconst hC (v := 1) dX12_areHolders_15 rfl ?_
      refine zf_goto hC (tgt := 20) dX12_areHolders_16 (by decide) ?_
      exact zf_zret hC rfl true rfl dX12_areHolders_20
/-! LifeKeysModel.next -/
theorem dX12_next_0 : decode cX12_next 0 = .ok (.lload_n 0, 1) := by decide +kernel
theorem dX12_next_1 : decode cX12_next 1 = .ok (.ldc2_w 239, 3) := by decide +kernel
theorem dX12_next_4 : decode cX12_next 4 = .ok (.lmul, 1) := by decide +kernel
theorem dX12_next_5 : decode cX12_next 5 = .ok (.ldc2_w 241, 3) := by decide +kernel
theorem dX12_next_8 : decode cX12_next 8 = .ok (.ladd, 1) := by decide +kernel
theorem dX12_next_9 : decode cX12_next 9 = .ok (.lreturn, 1) := by decide +kernel
def fX12_next (k : ST) (a0 : Int64) : Option (Int64 × ST) := some ((a0 * 6364136223846793005) + 1442695040888963407, k)
set_option maxRecDepth 20000 in
theorem c_X12_next (l : Launch) (g : GT) (T : TT) (a0 : Int64) : CN l yX12_next cX12_next 2 (some .long) { frames := 0, cells := 0, slots := 0, locals := 0 } g T voL [.long a0] (fun k => fX12_next k a0) := by
  refine cn_of (by decide) (Nat.le_of_ble_eq_true rfl) ?_
  intro p e s m args below meth c hC k
  have hC : HC p s m args meth c cX12_next 2 RX12 (some .long) g := hC
  have hR : 0 ≤ ({ frames := 0, cells := 0, slots := 0, locals := 0 } : Room).frames ∧ 0 ≤ ({ frames := 0, cells := 0, slots := 0, locals := 0 } : Room).locals := ⟨Nat.le_refl _, Nat.le_refl _⟩
  show ZF p l e _ s m args below meth c g T voL 2 k 0 [(0, .long a0)] [] (fX12_next k a0)
  unfold fX12_next
  refine zf_lload_n hC dX12_next_0 rfl 0 rfl ?_
  refine zf_ldc2 hC wd_1586 dX12_next_1 ?_
  refine zf_lmul hC dX12_next_4 ?_
  refine zf_ldc2 hC wd_1587 dX12_next_5 ?_
  refine zf_ladd hC dX12_next_8 ?_
  exact zf_lret hC rfl dX12_next_9
/-! LifeKeysModel.drawn -/
theorem dX12_drawn_0 : decode cX12_drawn 0 = .ok (.lload_n 0, 1) := by decide +kernel
theorem dX12_drawn_1 : decode cX12_drawn 1 = .ok (.bipush 33, 2) := by decide +kernel
theorem dX12_drawn_3 : decode cX12_drawn 3 = .ok (.lushr, 1) := by decide +kernel
theorem dX12_drawn_4 : decode cX12_drawn 4 = .ok (.iload_n 2, 1) := by decide +kernel
theorem dX12_drawn_5 : decode cX12_drawn 5 = .ok (.i2l, 1) := by decide +kernel
theorem dX12_drawn_6 : decode cX12_drawn 6 = .ok (.lrem, 1) := by decide +kernel
theorem dX12_drawn_7 : decode cX12_drawn 7 = .ok (.l2i, 1) := by decide +kernel
theorem dX12_drawn_8 : decode cX12_drawn 8 = .ok (.ireturn, 1) := by decide +kernel
def fX12_drawn (k : ST) (a0 : Int64) (a1 : Int32) : Option (Int32 × ST) := ck (!decide (Int32.toInt64 a1 = 0)) (some (Int64.toInt32 (j_lrem (j_lushr a0 33) (Int32.toInt64 a1)), k))
set_option maxRecDepth 20000 in
theorem c_X12_drawn (l : Launch) (g : GT) (T : TT) (a0 : Int64) (a1 : Int32) : CN l yX12_drawn cX12_drawn 3 (some .int) { frames := 0, cells := 0, slots := 0, locals := 0 } g T voI [.long a0, .int a1] (fun k => fX12_drawn k a0 a1) := by
  refine cn_of (by decide) (Nat.le_of_ble_eq_true rfl) ?_
  intro p e s m args below meth c hC k
  have hC : HC p s m args meth c cX12_drawn 3 RX12 (some .int) g := hC
  have hR : 0 ≤ ({ frames := 0, cells := 0, slots := 0, locals := 0 } : Room).frames ∧ 0 ≤ ({ frames := 0, cells := 0, slots := 0, locals := 0 } : Room).locals := ⟨Nat.le_refl _, Nat.le_refl _⟩
  show ZF p l e _ s m args below meth c g T voI 3 k 0 [(0, .long a0), (2, .int a1)] [] (fX12_drawn k a0 a1)
  unfold fX12_drawn
  refine zf_lload_n hC dX12_drawn_0 rfl 0 rfl ?_
  refine zf_bipush hC (v := 33) dX12_drawn_1 rfl ?_
  refine zf_lushr hC dX12_drawn_3 ?_
  refine zf_iload_n hC dX12_drawn_4 rfl 1 rfl ?_
  refine zf_i2l hC dX12_drawn_5 ?_
  refine zf_ck (fun h1 => ?_)
  refine zf_lrem hC dX12_drawn_6 (ne_of_ck h1) ?_
  refine zf_l2i hC dX12_drawn_7 ?_
  exact zf_iret hC rfl dX12_drawn_8
/-! LifeKeysModel.parted -/
theorem dX12_parted_0 : decode cX12_parted 0 = .ok (.aload_n 0, 1) := by decide +kernel
theorem dX12_parted_1 : decode cX12_parted 1 = .ok (.getfield 243, 3) := by decide +kernel
theorem dX12_parted_4 : decode cX12_parted 4 = .ok (.istore 6, 2) := by decide +kernel
theorem dX12_parted_6 : decode cX12_parted 6 = .ok (.aload_n 0, 1) := by decide +kernel
theorem dX12_parted_7 : decode cX12_parted 7 = .ok (.getfield 57, 3) := by decide +kernel
theorem dX12_parted_10 : decode cX12_parted 10 = .ok (.iload 6, 2) := by decide +kernel
theorem dX12_parted_12 : decode cX12_parted 12 = .ok (.iload_n 1, 1) := by decide +kernel
theorem dX12_parted_13 : decode cX12_parted 13 = .ok (.iastore, 1) := by decide +kernel
theorem dX12_parted_14 : decode cX12_parted 14 = .ok (.aload_n 0, 1) := by decide +kernel
theorem dX12_parted_15 : decode cX12_parted 15 = .ok (.getfield 60, 3) := by decide +kernel
theorem dX12_parted_18 : decode cX12_parted 18 = .ok (.iload 6, 2) := by decide +kernel
theorem dX12_parted_20 : decode cX12_parted 20 = .ok (.iload_n 2, 1) := by decide +kernel
theorem dX12_parted_21 : decode cX12_parted 21 = .ok (.iastore, 1) := by decide +kernel
theorem dX12_parted_22 : decode cX12_parted 22 = .ok (.aload_n 0, 1) := by decide +kernel
theorem dX12_parted_23 : decode cX12_parted 23 = .ok (.getfield 63, 3) := by decide +kernel
theorem dX12_parted_26 : decode cX12_parted 26 = .ok (.iload 6, 2) := by decide +kernel
theorem dX12_parted_28 : decode cX12_parted 28 = .ok (.iload_n 3, 1) := by decide +kernel
theorem dX12_parted_29 : decode cX12_parted 29 = .ok (.iastore, 1) := by decide +kernel
theorem dX12_parted_30 : decode cX12_parted 30 = .ok (.aload_n 0, 1) := by decide +kernel
theorem dX12_parted_31 : decode cX12_parted 31 = .ok (.getfield 66, 3) := by decide +kernel
theorem dX12_parted_34 : decode cX12_parted 34 = .ok (.iload 6, 2) := by decide +kernel
theorem dX12_parted_36 : decode cX12_parted 36 = .ok (.aload_n 0, 1) := by decide +kernel
theorem dX12_parted_37 : decode cX12_parted 37 = .ok (.getfield 185, 3) := by decide +kernel
theorem dX12_parted_40 : decode cX12_parted 40 = .ok (.iastore, 1) := by decide +kernel
theorem dX12_parted_41 : decode cX12_parted 41 = .ok (.aload_n 0, 1) := by decide +kernel
theorem dX12_parted_42 : decode cX12_parted 42 = .ok (.getfield 69, 3) := by decide +kernel
theorem dX12_parted_45 : decode cX12_parted 45 = .ok (.iload 6, 2) := by decide +kernel
theorem dX12_parted_47 : decode cX12_parted 47 = .ok (.sipush 9999, 3) := by decide +kernel
theorem dX12_parted_50 : decode cX12_parted 50 = .ok (.iastore, 1) := by decide +kernel
theorem dX12_parted_51 : decode cX12_parted 51 = .ok (.aload_n 0, 1) := by decide +kernel
theorem dX12_parted_52 : decode cX12_parted 52 = .ok (.getfield 72, 3) := by decide +kernel
theorem dX12_parted_55 : decode cX12_parted 55 = .ok (.bipush 12, 2) := by decide +kernel
theorem dX12_parted_57 : decode cX12_parted 57 = .ok (.iload 6, 2) := by decide +kernel
theorem dX12_parted_59 : decode cX12_parted 59 = .ok (.imul, 1) := by decide +kernel
theorem dX12_parted_60 : decode cX12_parted 60 = .ok (.aload_n 0, 1) := by decide +kernel
theorem dX12_parted_61 : decode cX12_parted 61 = .ok (.getfield 13, 3) := by decide +kernel
theorem dX12_parted_64 : decode cX12_parted 64 = .ok (.iload_n 1, 1) := by decide +kernel
theorem dX12_parted_65 : decode cX12_parted 65 = .ok (.iaload, 1) := by decide +kernel
theorem dX12_parted_66 : decode cX12_parted 66 = .ok (.sipush 1019, 3) := by decide +kernel
theorem dX12_parted_69 : decode cX12_parted 69 = .ok (.irem, 1) := by decide +kernel
theorem dX12_parted_70 : decode cX12_parted 70 = .ok (.iastore, 1) := by decide +kernel
theorem dX12_parted_71 : decode cX12_parted 71 = .ok (.lload 4, 2) := by decide +kernel
theorem dX12_parted_73 : decode cX12_parted 73 = .ok (.lstore 7, 2) := by decide +kernel
theorem dX12_parted_75 : decode cX12_parted 75 = .ok (.iconst 1, 1) := by decide +kernel
theorem dX12_parted_76 : decode cX12_parted 76 = .ok (.istore 9, 2) := by decide +kernel
theorem dX12_parted_78 : decode cX12_parted 78 = .ok (.iload 9, 2) := by decide +kernel
theorem dX12_parted_80 : decode cX12_parted 80 = .ok (.iload_n 3, 1) := by decide +kernel
theorem dX12_parted_81 : decode cX12_parted 81 = .ok (.if_icmp .ge 37, 3) := by decide +kernel
theorem dX12_parted_84 : decode cX12_parted 84 = .ok (.lload 7, 2) := by decide +kernel
theorem dX12_parted_86 : decode cX12_parted 86 = .ok (.invokestatic 246, 3) := by decide +kernel
theorem dX12_parted_89 : decode cX12_parted 89 = .ok (.lstore 7, 2) := by decide +kernel
theorem dX12_parted_91 : decode cX12_parted 91 = .ok (.aload_n 0, 1) := by decide +kernel
theorem dX12_parted_92 : decode cX12_parted 92 = .ok (.getfield 72, 3) := by decide +kernel
theorem dX12_parted_95 : decode cX12_parted 95 = .ok (.bipush 12, 2) := by decide +kernel
theorem dX12_parted_97 : decode cX12_parted 97 = .ok (.iload 6, 2) := by decide +kernel
theorem dX12_parted_99 : decode cX12_parted 99 = .ok (.imul, 1) := by decide +kernel
theorem dX12_parted_100 : decode cX12_parted 100 = .ok (.iload 9, 2) := by decide +kernel
theorem dX12_parted_102 : decode cX12_parted 102 = .ok (.iadd, 1) := by decide +kernel
theorem dX12_parted_103 : decode cX12_parted 103 = .ok (.lload 7, 2) := by decide +kernel
theorem dX12_parted_105 : decode cX12_parted 105 = .ok (.sipush 1019, 3) := by decide +kernel
theorem dX12_parted_108 : decode cX12_parted 108 = .ok (.invokestatic 250, 3) := by decide +kernel
theorem dX12_parted_111 : decode cX12_parted 111 = .ok (.iastore, 1) := by decide +kernel
theorem dX12_parted_112 : decode cX12_parted 112 = .ok (.iinc 9 1, 3) := by decide +kernel
theorem dX12_parted_115 : decode cX12_parted 115 = .ok (.goto (-37), 3) := by decide +kernel
theorem dX12_parted_118 : decode cX12_parted 118 = .ok (.aload_n 0, 1) := by decide +kernel
theorem dX12_parted_119 : decode cX12_parted 119 = .ok (.dup, 1) := by decide +kernel
theorem dX12_parted_120 : decode cX12_parted 120 = .ok (.getfield 243, 3) := by decide +kernel
theorem dX12_parted_123 : decode cX12_parted 123 = .ok (.iconst 1, 1) := by decide +kernel
theorem dX12_parted_124 : decode cX12_parted 124 = .ok (.iadd, 1) := by decide +kernel
theorem dX12_parted_125 : decode cX12_parted 125 = .ok (.putfield 243, 3) := by decide +kernel
theorem dX12_parted_128 : decode cX12_parted 128 = .ok (.iload 6, 2) := by decide +kernel
theorem dX12_parted_130 : decode cX12_parted 130 = .ok (.ireturn, 1) := by decide +kernel
def lpX12_parted_78 (v1 : Int32) (v2 : Int32) (v3 : Int32) (v4 : Int64) (v6 : Int32) : Nat → Int64 → Int32 → ST → (Int64 → Int32 → ST → Option (Int32 × ST)) → Option (Int32 × ST)
  | 0, _, _, _, _ => none
  | n + 1, v7, v9, k, cont => if v3 ≤ v9 then cont v7 v9 k else ob (fX12_next k v7) fun r15 k16 => ob (fX12_drawn k16 r15 1019) fun r18 k19 => ck (inb ((12 * v6) + v9) 480) (nm (sA k19 119 (ix ((12 * v6) + v9)) r18) fun k22 => lpX12_parted_78 v1 v2 v3 v4 v6 n r15 (v9 + 1) k22 cont)
set_option maxRecDepth 20000 in
theorem zlpX12_parted_78 {p : Program} {l : Launch} {e : Env} {R : Room} {s : State} {m : MethodId} {args : Array Value} {below : List Frame} {meth : Method} {c : Code} {g : GT} (hC : HC p s m args meth c cX12_parted 10 RX12 (some .int) g) (hR : 1 ≤ R.frames ∧ 22 ≤ R.locals)  (v1 : Int32) (v2 : Int32) (v3 : Int32) (v4 : Int64) (v6 : Int32) {cont : Int64 → Int32 → ST → Option (Int32 × ST)} (hk : ∀ (v7 : Int64) (v9 : Int32) (k : ST), ZF p l e R s m args below meth c g TM voI 10 k 118 [(0, .ref (g.2.1 11)), (1, .int v1), (2, .int v2), (3, .int v3), (4, .long v4), (6, .int v6), (7, .long v7), (9, .int v9)] [] (cont v7 v9 k)) : ∀ (n : Nat) (v7 : Int64) (v9 : Int32) (k : ST), ZF p l e R s m args below meth c g TM voI 10 k 78 [(0, .ref (g.2.1 11)), (1, .int v1), (2, .int v2), (3, .int v3), (4, .long v4), (6, .int v6), (7, .long v7), (9, .int v9)] [] (lpX12_parted_78 v1 v2 v3 v4 v6 n v7 v9 k cont) := by
  intro n
  induction n with
  | zero => intros; exact zf_none
  | succ n ih =>
    intro v7 v9 k
    rw [lpX12_parted_78]
    refine zf_iload hC dX12_parted_78 7 rfl ?_
    refine zf_iload_n hC dX12_parted_80 rfl 3 rfl ?_
    refine zf_icmp_ge hC (tgt := 118) dX12_parted_81 (by decide) (fun h14 => ?_) (fun h14 => ?_)
    · refine zf_lv (LV' := [(0, .ref (g.2.1 11)), (1, .int v1), (2, .int v2), (3, .int v3), (4, .long v4), (6, .int v6), (7, .long v7), (9, .int v9)]) [0, 1, 2, 3, 4, 5, 6, 7] rfl ?_
      exact hk v7 v9 k
    · refine zf_lload hC dX12_parted_84 6 rfl ?_
      refine zf_callS hC (c_X12_next l g TM v7) mt_X12_next wd_1584 wd_1583 rfl (rm_le hR rfl) rfl rfl (rest := []) rfl (Nat.le_of_ble_eq_true rfl) dX12_parted_86 (fun r15 k16 h17 => ?_)
      refine zf_lstore hC (LV' := [(7, .long r15), (0, .ref (g.2.1 11)), (1, .int v1), (2, .int v2), (3, .int v3), (4, .long v4), (6, .int v6), (9, .int v9)]) dX12_parted_89 (by decide) rfl ?_
      refine zf_aload_n hC dX12_parted_91 rfl 1 rfl ?_
      refine gf_1256 hC dX12_parted_92 ?_
      refine zf_bipush hC (v := 12) dX12_parted_95 rfl ?_
      refine zf_iload hC dX12_parted_97 6 rfl ?_
      refine zf_imul hC dX12_parted_99 ?_
      refine zf_iload hC dX12_parted_100 7 rfl ?_
      refine zf_iadd hC dX12_parted_102 ?_
      refine zf_lload hC dX12_parted_103 0 rfl ?_
      refine zf_sipush hC (v := 1019) dX12_parted_105 rfl ?_
      refine zf_callS hC (c_X12_drawn l g TM r15 1019) mt_X12_drawn wd_1589 wd_1588 rfl (rm_le hR rfl) rfl rfl (rest := [.int ((12 * v6) + v9), .ref (g.2.1 131)]) rfl (Nat.le_of_ble_eq_true rfl) dX12_parted_108 (fun r18 k19 h20 => ?_)
      refine zf_iast hC (j := 119) ia_119 rfl rfl dX12_parted_111 (fun h21 => ?_)
      refine zf_nmk (fun k22 => ?_)
      refine zf_iinc hC (q := 7) (v := v9 + 1) (LV' := [(9, .int (v9 + 1)), (7, .long r15), (0, .ref (g.2.1 11)), (1, .int v1), (2, .int v2), (3, .int v3), (4, .long v4), (6, .int v6)]) dX12_parted_112 rfl rfl (by decide) rfl ?_
      refine zf_goto hC (tgt := 78) dX12_parted_115 (by decide) ?_
      refine zf_lv (LV' := [(0, .ref (g.2.1 11)), (1, .int v1), (2, .int v2), (3, .int v3), (4, .long v4), (6, .int v6), (7, .long r15), (9, .int (v9 + 1))]) [2, 3, 4, 5, 6, 7, 1, 0] rfl ?_
      exact ih r15 (v9 + 1) k22
def fX12_parted (k : ST) (a0 : Int32) (a1 : Int32) (a2 : Int32) (a3 : Int64) : Option (Int32 × ST) := ck (inb (gI k 11 30) 40) (nm (sA k 114 (ix (gI k 11 30)) a0) fun k2 => ck (inb (gI k 11 30) 40) (nm (sA k2 115 (ix (gI k 11 30)) a1) fun k4 => ck (inb (gI k 11 30) 40) (nm (sA k4 116 (ix (gI k 11 30)) a2) fun k6 => ck (inb (gI k 11 30) 40) (nm (sA k6 117 (ix (gI k 11 30)) (gI k6 11 1)) fun k8 => ck (inb (gI k 11 30) 40) (nm (sA k8 118 (ix (gI k 11 30)) 9999) fun k10 => ck (inb a0 40) (ck (inb (12 * (gI k 11 30)) 480) (nm (sA k10 119 (ix (12 * (gI k 11 30))) (j_rem (gA k10 100 (ix a0)) 1019)) fun k13 => lpX12_parted_78 a0 a1 a2 a3 (gI k 11 30) FU a3 1 k13 fun y23 y24 k25 => nm (sI k25 11 30 ((gI k25 11 30) + 1)) fun k26 => some ((gI k 11 30), k26))))))))
set_option maxRecDepth 20000 in
theorem c_X12_parted (l : Launch) (g : GT) (a0 : Int32) (a1 : Int32) (a2 : Int32) (a3 : Int64) : CN l yX12_parted cX12_parted 10 (some .int) { frames := 1, cells := 0, slots := 0, locals := 22 } g TM voI [.ref (g.2.1 11), .int a0, .int a1, .int a2, .long a3] (fun k => fX12_parted k a0 a1 a2 a3) := by
  refine cn_of (by decide) (Nat.le_of_ble_eq_true rfl) ?_
  intro p e s m args below meth c hC k
  have hC : HC p s m args meth c cX12_parted 10 RX12 (some .int) g := hC
  have hR : 1 ≤ ({ frames := 1, cells := 0, slots := 0, locals := 22 } : Room).frames ∧ 22 ≤ ({ frames := 1, cells := 0, slots := 0, locals := 22 } : Room).locals := ⟨Nat.le_refl _, Nat.le_refl _⟩
  show ZF p l e _ s m args below meth c g TM voI 10 k 0 [(0, .ref (g.2.1 11)), (1, .int a0), (2, .int a1), (3, .int a2), (4, .long a3)] [] (fX12_parted k a0 a1 a2 a3)
  unfold fX12_parted
  refine zf_aload_n hC dX12_parted_0 rfl 0 rfl ?_
  refine gf_1260 hC dX12_parted_1 ?_
  refine zf_istore hC (LV' := [(6, .int (gI k 11 30)), (0, .ref (g.2.1 11)), (1, .int a0), (2, .int a1), (3, .int a2), (4, .long a3)]) dX12_parted_4 (by decide) rfl ?_
  refine zf_aload_n hC dX12_parted_6 rfl 1 rfl ?_
  refine gf_1251 hC dX12_parted_7 ?_
  refine zf_iload hC dX12_parted_10 0 rfl ?_
  refine zf_iload_n hC dX12_parted_12 rfl 2 rfl ?_
  refine zf_iast hC (j := 114) ia_114 rfl rfl dX12_parted_13 (fun h1 => ?_)
  refine zf_nmk (fun k2 => ?_)
  refine zf_aload_n hC dX12_parted_14 rfl 1 rfl ?_
  refine gf_1252 hC dX12_parted_15 ?_
  refine zf_iload hC dX12_parted_18 0 rfl ?_
  refine zf_iload_n hC dX12_parted_20 rfl 3 rfl ?_
  refine zf_iast hC (j := 115) ia_115 rfl rfl dX12_parted_21 (fun h3 => ?_)
  refine zf_nmk (fun k4 => ?_)
  refine zf_aload_n hC dX12_parted_22 rfl 1 rfl ?_
  refine gf_1253 hC dX12_parted_23 ?_
  refine zf_iload hC dX12_parted_26 0 rfl ?_
  refine zf_iload_n hC dX12_parted_28 rfl 4 rfl ?_
  refine zf_iast hC (j := 116) ia_116 rfl rfl dX12_parted_29 (fun h5 => ?_)
  refine zf_nmk (fun k6 => ?_)
  refine zf_aload_n hC dX12_parted_30 rfl 1 rfl ?_
  refine gf_1254 hC dX12_parted_31 ?_
  refine zf_iload hC dX12_parted_34 0 rfl ?_
  refine zf_aload_n hC dX12_parted_36 rfl 1 rfl ?_
  refine gf_1231 hC dX12_parted_37 ?_
  refine zf_iast hC (j := 117) ia_117 rfl rfl dX12_parted_40 (fun h7 => ?_)
  refine zf_nmk (fun k8 => ?_)
  refine zf_aload_n hC dX12_parted_41 rfl 1 rfl ?_
  refine gf_1255 hC dX12_parted_42 ?_
  refine zf_iload hC dX12_parted_45 0 rfl ?_
  refine zf_sipush hC (v := 9999) dX12_parted_47 rfl ?_
  refine zf_iast hC (j := 118) ia_118 rfl rfl dX12_parted_50 (fun h9 => ?_)
  refine zf_nmk (fun k10 => ?_)
  refine zf_aload_n hC dX12_parted_51 rfl 1 rfl ?_
  refine gf_1256 hC dX12_parted_52 ?_
  refine zf_bipush hC (v := 12) dX12_parted_55 rfl ?_
  refine zf_iload hC dX12_parted_57 0 rfl ?_
  refine zf_imul hC dX12_parted_59 ?_
  refine zf_aload_n hC dX12_parted_60 rfl 1 rfl ?_
  refine gf_1233 hC dX12_parted_61 ?_
  refine zf_iload_n hC dX12_parted_64 rfl 2 rfl ?_
  refine zf_iald hC (j := 100) ia_100 rfl rfl dX12_parted_65 (fun h11 => ?_)
  refine zf_sipush hC (v := 1019) dX12_parted_66 rfl ?_
  refine zf_irem hC dX12_parted_69 (by decide) ?_
  refine zf_iast hC (j := 119) ia_119 rfl rfl dX12_parted_70 (fun h12 => ?_)
  refine zf_nmk (fun k13 => ?_)
  refine zf_lload hC dX12_parted_71 5 rfl ?_
  refine zf_lstore hC (LV' := [(7, .long a3), (6, .int (gI k 11 30)), (0, .ref (g.2.1 11)), (1, .int a0), (2, .int a1), (3, .int a2), (4, .long a3)]) dX12_parted_73 (by decide) rfl ?_
  refine zf_iconst hC (v := 1) dX12_parted_75 rfl ?_
  refine zf_istore hC (LV' := [(9, .int 1), (7, .long a3), (6, .int (gI k 11 30)), (0, .ref (g.2.1 11)), (1, .int a0), (2, .int a1), (3, .int a2), (4, .long a3)]) dX12_parted_76 (by decide) rfl ?_
  refine zf_lv (LV' := [(0, .ref (g.2.1 11)), (1, .int a0), (2, .int a1), (3, .int a2), (4, .long a3), (6, .int (gI k 11 30)), (7, .long a3), (9, .int 1)]) [3, 4, 5, 6, 7, 2, 1, 0] rfl ?_
  refine zlpX12_parted_78 hC hR a0 a1 a2 a3 (gI k 11 30) (fun y23 y24 k25 => ?_) FU a3 1 k13
  refine zf_aload_n hC dX12_parted_118 rfl 0 rfl ?_
  refine zf_dup hC dX12_parted_119 rfl ?_
  refine gf_1260 hC dX12_parted_120 ?_
  refine zf_iconst hC (v := 1) dX12_parted_123 rfl ?_
  refine zf_iadd hC dX12_parted_124 ?_
  refine pf_1260 hC dX12_parted_125 ?_
  refine zf_nmk (fun k26 => ?_)
  refine zf_iload hC dX12_parted_128 5 rfl ?_
  exact zf_iret hC rfl dX12_parted_130
