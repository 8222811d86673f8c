/-! LifeKeys.Keys.add -/
theorem dX1_add_0 : decode cX1_add 0 = .ok (.aload_n 0, 1) := by decide +kernel
theorem dX1_add_1 : decode cX1_add 1 = .ok (.getfield 36, 3) := by decide +kernel
theorem dX1_add_4 : decode cX1_add 4 = .ok (.bipush 40, 2) := by decide +kernel
theorem dX1_add_6 : decode cX1_add 6 = .ok (.if_icmp .lt 5, 3) := by decide +kernel
theorem dX1_add_9 : decode cX1_add 9 = .ok (.iconst (-1), 1) := by decide +kernel
theorem dX1_add_10 : decode cX1_add 10 = .ok (.ireturn, 1) := by decide +kernel
theorem dX1_add_11 : decode cX1_add 11 = .ok (.aload_n 0, 1) := by decide +kernel
theorem dX1_add_12 : decode cX1_add 12 = .ok (.getfield 11, 3) := by decide +kernel
theorem dX1_add_15 : decode cX1_add 15 = .ok (.aload_n 0, 1) := by decide +kernel
theorem dX1_add_16 : decode cX1_add 16 = .ok (.getfield 36, 3) := by decide +kernel
theorem dX1_add_19 : decode cX1_add 19 = .ok (.iload_n 1, 1) := by decide +kernel
theorem dX1_add_20 : decode cX1_add 20 = .ok (.iastore, 1) := by decide +kernel
theorem dX1_add_21 : decode cX1_add 21 = .ok (.aload_n 0, 1) := by decide +kernel
theorem dX1_add_22 : decode cX1_add 22 = .ok (.getfield 15, 3) := by decide +kernel
theorem dX1_add_25 : decode cX1_add 25 = .ok (.aload_n 0, 1) := by decide +kernel
theorem dX1_add_26 : decode cX1_add 26 = .ok (.getfield 36, 3) := by decide +kernel
theorem dX1_add_29 : decode cX1_add 29 = .ok (.iload_n 2, 1) := by decide +kernel
theorem dX1_add_30 : decode cX1_add 30 = .ok (.iastore, 1) := by decide +kernel
theorem dX1_add_31 : decode cX1_add 31 = .ok (.aload_n 0, 1) := by decide +kernel
theorem dX1_add_32 : decode cX1_add 32 = .ok (.getfield 18, 3) := by decide +kernel
theorem dX1_add_35 : decode cX1_add 35 = .ok (.aload_n 0, 1) := by decide +kernel
theorem dX1_add_36 : decode cX1_add 36 = .ok (.getfield 36, 3) := by decide +kernel
theorem dX1_add_39 : decode cX1_add 39 = .ok (.iload_n 3, 1) := by decide +kernel
theorem dX1_add_40 : decode cX1_add 40 = .ok (.iastore, 1) := by decide +kernel
theorem dX1_add_41 : decode cX1_add 41 = .ok (.aload_n 0, 1) := by decide +kernel
theorem dX1_add_42 : decode cX1_add 42 = .ok (.getfield 21, 3) := by decide +kernel
theorem dX1_add_45 : decode cX1_add 45 = .ok (.aload_n 0, 1) := by decide +kernel
theorem dX1_add_46 : decode cX1_add 46 = .ok (.getfield 36, 3) := by decide +kernel
theorem dX1_add_49 : decode cX1_add 49 = .ok (.iload 4, 2) := by decide +kernel
theorem dX1_add_51 : decode cX1_add 51 = .ok (.iastore, 1) := by decide +kernel
theorem dX1_add_52 : decode cX1_add 52 = .ok (.aload_n 0, 1) := by decide +kernel
theorem dX1_add_53 : decode cX1_add 53 = .ok (.getfield 24, 3) := by decide +kernel
theorem dX1_add_56 : decode cX1_add 56 = .ok (.aload_n 0, 1) := by decide +kernel
theorem dX1_add_57 : decode cX1_add 57 = .ok (.getfield 36, 3) := by decide +kernel
theorem dX1_add_60 : decode cX1_add 60 = .ok (.iconst (-1), 1) := by decide +kernel
theorem dX1_add_61 : decode cX1_add 61 = .ok (.iastore, 1) := by decide +kernel
theorem dX1_add_62 : decode cX1_add 62 = .ok (.aload_n 0, 1) := by decide +kernel
theorem dX1_add_63 : decode cX1_add 63 = .ok (.dup, 1) := by decide +kernel
theorem dX1_add_64 : decode cX1_add 64 = .ok (.getfield 36, 3) := by decide +kernel
theorem dX1_add_67 : decode cX1_add 67 = .ok (.iconst 1, 1) := by decide +kernel
theorem dX1_add_68 : decode cX1_add 68 = .ok (.iadd, 1) := by decide +kernel
theorem dX1_add_69 : decode cX1_add 69 = .ok (.putfield 36, 3) := by decide +kernel
theorem dX1_add_72 : decode cX1_add 72 = .ok (.aload_n 0, 1) := by decide +kernel
theorem dX1_add_73 : decode cX1_add 73 = .ok (.getfield 36, 3) := by decide +kernel
theorem dX1_add_76 : decode cX1_add 76 = .ok (.iconst 1, 1) := by decide +kernel
theorem dX1_add_77 : decode cX1_add 77 = .ok (.isub, 1) := by decide +kernel
theorem dX1_add_78 : decode cX1_add 78 = .ok (.ireturn, 1) := by decide +kernel
def fX1_add (k : ST) (a0 : Int32) (a1 : Int32) (a2 : Int32) (a3 : Int32) : Option (Int32 × ST) := if (gI k 0 0) < 40 then ck (inb (gI k 0 0) 40) (nm (sA k 0 (ix (gI k 0 0)) a0) fun k3 => ck (inb (gI k3 0 0) 40) (nm (sA k3 1 (ix (gI k3 0 0)) a1) fun k5 => ck (inb (gI k5 0 0) 40) (nm (sA k5 2 (ix (gI k5 0 0)) a2) fun k7 => ck (inb (gI k7 0 0) 40) (nm (sA k7 3 (ix (gI k7 0 0)) a3) fun k9 => ck (inb (gI k9 0 0) 40) (nm (sA k9 4 (ix (gI k9 0 0)) (-1)) fun k11 => nm (sI k11 0 0 ((gI k11 0 0) + 1)) fun k12 => some ((gI k12 0 0) - 1, k12)))))) else some ((-1), k)
set_option maxRecDepth 20000 in
theorem c_X1_add (l : Launch) (g : GT) (a0 : Int32) (a1 : Int32) (a2 : Int32) (a3 : Int32) : CN l yX1_add cX1_add 5 (some .int) { frames := 0, cells := 0, slots := 0, locals := 0 } g TK voI [.ref (g.2.1 0), .int a0, .int a1, .int a2, .int a3] (fun k => fX1_add k a0 a1 a2 a3) := by
  refine cn_of (by decide) (Nat.le_of_ble_eq_true rfl) ?_
  intro p e s m args below meth c hC k
  have hC : HC p s m args meth c cX1_add 5 RX1 (some .int) g := hC
  have hR : 0 ≤ ({ frames := 0, cells := 0, slots := 0, locals := 0 } : Room).frames ∧ 0 ≤ ({ frames := 0, cells := 0, slots := 0, locals := 0 } : Room).locals := ⟨Nat.le_refl _, Nat.le_refl _⟩
  show ZF p l e _ s m args below meth c g TK voI 5 k 0 [(0, .ref (g.2.1 0)), (1, .int a0), (2, .int a1), (3, .int a2), (4, .int a3)] [] (fX1_add k a0 a1 a2 a3)
  unfold fX1_add
  refine zf_aload_n hC dX1_add_0 rfl 0 rfl ?_
  refine gf_51 hC dX1_add_1 ?_
  refine zf_bipush hC (v := 40) dX1_add_4 rfl ?_
  refine zf_icmp_lt hC (tgt := 11) dX1_add_6 (by decide) (fun h1 => ?_) (fun h1 => ?_)
  · refine zf_aload_n hC dX1_add_11 rfl 0 rfl ?_
    refine gf_54 hC dX1_add_12 ?_
    refine zf_aload_n hC dX1_add_15 rfl 0 rfl ?_
    refine gf_51 hC dX1_add_16 ?_
    refine zf_iload_n hC dX1_add_19 rfl 1 rfl ?_
    refine zf_iast hC (j := 0) ia_0 rfl rfl dX1_add_20 (fun h2 => ?_)
    refine zf_nmk (fun k3 => ?_)
    refine zf_aload_n hC dX1_add_21 rfl 0 rfl ?_
    refine gf_56 hC dX1_add_22 ?_
    refine zf_aload_n hC dX1_add_25 rfl 0 rfl ?_
    refine gf_51 hC dX1_add_26 ?_
    refine zf_iload_n hC dX1_add_29 rfl 2 rfl ?_
    refine zf_iast hC (j := 1) ia_1 rfl rfl dX1_add_30 (fun h4 => ?_)
    refine zf_nmk (fun k5 => ?_)
    refine zf_aload_n hC dX1_add_31 rfl 0 rfl ?_
    refine gf_59 hC dX1_add_32 ?_
    refine zf_aload_n hC dX1_add_35 rfl 0 rfl ?_
    refine gf_51 hC dX1_add_36 ?_
    refine zf_iload_n hC dX1_add_39 rfl 3 rfl ?_
    refine zf_iast hC (j := 2) ia_2 rfl rfl dX1_add_40 (fun h6 => ?_)
    refine zf_nmk (fun k7 => ?_)
    refine zf_aload_n hC dX1_add_41 rfl 0 rfl ?_
    refine gf_62 hC dX1_add_42 ?_
    refine zf_aload_n hC dX1_add_45 rfl 0 rfl ?_
    refine gf_51 hC dX1_add_46 ?_
    refine zf_iload hC dX1_add_49 4 rfl ?_
    refine zf_iast hC (j := 3) ia_3 rfl rfl dX1_add_51 (fun h8 => ?_)
    refine zf_nmk (fun k9 => ?_)
    refine zf_aload_n hC dX1_add_52 rfl 0 rfl ?_
    refine gf_64 hC dX1_add_53 ?_
    refine zf_aload_n hC dX1_add_56 rfl 0 rfl ?_
    refine gf_51 hC dX1_add_57 ?_
    refine zf_iconst hC (v := (-1)) dX1_add_60 rfl ?_
    refine zf_iast hC (j := 4) ia_4 rfl rfl dX1_add_61 (fun h10 => ?_)
    refine zf_nmk (fun k11 => ?_)
    refine zf_aload_n hC dX1_add_62 rfl 0 rfl ?_
    refine zf_dup hC dX1_add_63 rfl ?_
    refine gf_51 hC dX1_add_64 ?_
    refine zf_iconst hC (v := 1) dX1_add_67 rfl ?_
    refine zf_iadd hC dX1_add_68 ?_
    refine pf_51 hC dX1_add_69 ?_
    refine zf_nmk (fun k12 => ?_)
    refine zf_aload_n hC dX1_add_72 rfl 0 rfl ?_
    refine gf_51 hC dX1_add_73 ?_
    refine zf_iconst hC (v := 1) dX1_add_76 rfl ?_
    refine zf_isub hC dX1_add_77 ?_
    exact zf_iret hC rfl dX1_add_78
  · refine zf_iconst hC (v := (-1)) dX1_add_9 rfl ?_
    exact zf_iret hC rfl dX1_add_10
/-! LifeKeys.Keys.knows -/
theorem dX1_knows_0 : decode cX1_knows 0 = .ok (.iload_n 1, 1) := by decide +kernel
theorem dX1_knows_1 : decode cX1_knows 1 = .ok (.ifCond .lt 15, 3) := by decide +kernel
theorem dX1_knows_4 : decode cX1_knows 4 = .ok (.iload_n 1, 1) := by decide +kernel
theorem dX1_knows_5 : decode cX1_knows 5 = .ok (.aload_n 0, 1) := by decide +kernel
theorem dX1_knows_6 : decode cX1_knows 6 = .ok (.getfield 36, 3) := by decide +kernel
theorem dX1_knows_9 : decode cX1_knows 9 = .ok (.if_icmp .ge 7, 3) := by decide +kernel
theorem dX1_knows_12 : decode cX1_knows 12 = .ok (.iconst 1, 1) := by decide +kernel
theorem dX1_knows_13 : decode cX1_knows 13 = .ok (.goto 4, 3) := by decide +kernel
theorem dX1_knows_16 : decode cX1_knows 16 = .ok (.iconst 0, 1) := by decide +kernel
theorem dX1_knows_17 : decode cX1_knows 17 = .ok (.ireturn, 1) := by decide +kernel
def fX1_knows (k : ST) (a0 : Int32) : Option (Bool × ST) := if a0 < 0 then some (false, k) else if (gI k 0 0) ≤ a0 then some (false, k) else some (true, k)
set_option maxRecDepth 20000 in
theorem c_X1_knows (l : Launch) (g : GT) (a0 : Int32) : CN l yX1_knows cX1_knows 2 (some .boolean) { frames := 0, cells := 0, slots := 0, locals := 0 } g TK voB [.ref (g.2.1 0), .int a0] (fun k => fX1_knows k a0) := by
  refine cn_of (by decide) (Nat.le_of_ble_eq_true rfl) ?_
  intro p e s m args below meth c hC k
  have hC : HC p s m args meth c cX1_knows 2 RX1 (some .boolean) g := hC
  have hR : 0 ≤ ({ frames := 0, cells := 0, slots := 0, locals := 0 } : Room).frames ∧ 0 ≤ ({ frames := 0, cells := 0, slots := 0, locals := 0 } : Room).locals := ⟨Nat.le_refl _, Nat.le_refl _⟩
  show ZF p l e _ s m args below meth c g TK voB 2 k 0 [(0, .ref (g.2.1 0)), (1, .int a0)] [] (fX1_knows k a0)
  unfold fX1_knows
  refine zf_iload_n hC dX1_knows_0 rfl 1 rfl ?_
  refine zf_if_lt hC (tgt := 16) dX1_knows_1 (by decide) (fun h1 => ?_) (fun h1 => ?_)
  · refine zf_iconst hC (v := 0) dX1_knows_16 rfl ?_
    exact zf_zret hC rfl false rfl dX1_knows_17
  · refine zf_iload_n hC dX1_knows_4 rfl 1 rfl ?_
    refine zf_aload_n hC dX1_knows_5 rfl 0 rfl ?_
    refine gf_51 hC dX1_knows_6 ?_
    refine zf_icmp_ge hC (tgt := 16) dX1_knows_9 (by decide) (fun h2 => ?_) (fun h2 => ?_)
    · refine zf_iconst hC (v := 0) dX1_knows_16 rfl ?_
      exact zf_zret hC rfl false rfl dX1_knows_17
    · refine zf_iconst hC (v := 1) dX1_knows_12 rfl ?_
      refine zf_goto hC (tgt := 17) dX1_knows_13 (by decide) ?_
      exact zf_zret hC rfl true rfl dX1_knows_17
/-! LifeKeys.Keys.madeSecret -/
theorem dX1_madeSecret_0 : decode cX1_madeSecret 0 = .ok (.bipush 37, 2) := by decide +kernel
theorem dX1_madeSecret_2 : decode cX1_madeSecret 2 = .ok (.iload_n 0, 1) := by decide +kernel
theorem dX1_madeSecret_3 : decode cX1_madeSecret 3 = .ok (.imul, 1) := by decide +kernel
theorem dX1_madeSecret_4 : decode cX1_madeSecret 4 = .ok (.iload_n 1, 1) := by decide +kernel
theorem dX1_madeSecret_5 : decode cX1_madeSecret 5 = .ok (.iadd, 1) := by decide +kernel
theorem dX1_madeSecret_6 : decode cX1_madeSecret 6 = .ok (.sipush 1018, 3) := by decide +kernel
theorem dX1_madeSecret_9 : decode cX1_madeSecret 9 = .ok (.irem, 1) := by decide +kernel
theorem dX1_madeSecret_10 : decode cX1_madeSecret 10 = .ok (.iconst 1, 1) := by decide +kernel
theorem dX1_madeSecret_11 : decode cX1_madeSecret 11 = .ok (.iadd, 1) := by decide +kernel
theorem dX1_madeSecret_12 : decode cX1_madeSecret 12 = .ok (.ireturn, 1) := by decide +kernel
def fX1_madeSecret (k : ST) (a0 : Int32) (a1 : Int32) : Option (Int32 × ST) := some ((j_rem ((37 * a0) + a1) 1018) + 1, k)
set_option maxRecDepth 20000 in
theorem c_X1_madeSecret (l : Launch) (g : GT) (T : TT) (a0 : Int32) (a1 : Int32) : CN l yX1_madeSecret cX1_madeSecret 2 (some .int) { frames := 0, cells := 0, slots := 0, locals := 0 } g T voI [.int a0, .int a1] (fun k => fX1_madeSecret k a0 a1) := by
  refine cn_of (by decide) (Nat.le_of_ble_eq_true rfl) ?_
  intro p e s m args below meth c hC k
  have hC : HC p s m args meth c cX1_madeSecret 2 RX1 (some .int) g := hC
  have hR : 0 ≤ ({ frames := 0, cells := 0, slots := 0, locals := 0 } : Room).frames ∧ 0 ≤ ({ frames := 0, cells := 0, slots := 0, locals := 0 } : Room).locals := ⟨Nat.le_refl _, Nat.le_refl _⟩
  show ZF p l e _ s m args below meth c g T voI 2 k 0 [(0, .int a0), (1, .int a1)] [] (fX1_madeSecret k a0 a1)
  unfold fX1_madeSecret
  refine zf_bipush hC (v := 37) dX1_madeSecret_0 rfl ?_
  refine zf_iload_n hC dX1_madeSecret_2 rfl 0 rfl ?_
  refine zf_imul hC dX1_madeSecret_3 ?_
  refine zf_iload_n hC dX1_madeSecret_4 rfl 1 rfl ?_
  refine zf_iadd hC dX1_madeSecret_5 ?_
  refine zf_sipush hC (v := 1018) dX1_madeSecret_6 rfl ?_
  refine zf_irem hC dX1_madeSecret_9 (by decide) ?_
  refine zf_iconst hC (v := 1) dX1_madeSecret_10 rfl ?_
  refine zf_iadd hC dX1_madeSecret_11 ?_
  exact zf_iret hC rfl dX1_madeSecret_12
/-! LifeKeys.Keys.burntFrom -/
theorem dX1_burntFrom_0 : decode cX1_burntFrom 0 = .ok (.iconst (-1), 1) := by decide +kernel
theorem dX1_burntFrom_1 : decode cX1_burntFrom 1 = .ok (.istore_n 3, 1) := by decide +kernel
theorem dX1_burntFrom_2 : decode cX1_burntFrom 2 = .ok (.iconst 0, 1) := by decide +kernel
theorem dX1_burntFrom_3 : decode cX1_burntFrom 3 = .ok (.istore 4, 2) := by decide +kernel
theorem dX1_burntFrom_5 : decode cX1_burntFrom 5 = .ok (.iload 4, 2) := by decide +kernel
theorem dX1_burntFrom_7 : decode cX1_burntFrom 7 = .ok (.aload_n 0, 1) := by decide +kernel
theorem dX1_burntFrom_8 : decode cX1_burntFrom 8 = .ok (.getfield 46, 3) := by decide +kernel
theorem dX1_burntFrom_11 : decode cX1_burntFrom 11 = .ok (.if_icmp .ge 55, 3) := by decide +kernel
theorem dX1_burntFrom_14 : decode cX1_burntFrom 14 = .ok (.aload_n 0, 1) := by decide +kernel
theorem dX1_burntFrom_15 : decode cX1_burntFrom 15 = .ok (.getfield 27, 3) := by decide +kernel
theorem dX1_burntFrom_18 : decode cX1_burntFrom 18 = .ok (.iload 4, 2) := by decide +kernel
theorem dX1_burntFrom_20 : decode cX1_burntFrom 20 = .ok (.iaload, 1) := by decide +kernel
theorem dX1_burntFrom_21 : decode cX1_burntFrom 21 = .ok (.iload_n 1, 1) := by decide +kernel
theorem dX1_burntFrom_22 : decode cX1_burntFrom 22 = .ok (.if_icmp .ne 38, 3) := by decide +kernel
theorem dX1_burntFrom_25 : decode cX1_burntFrom 25 = .ok (.aload_n 0, 1) := by decide +kernel
theorem dX1_burntFrom_26 : decode cX1_burntFrom 26 = .ok (.getfield 33, 3) := by decide +kernel
theorem dX1_burntFrom_29 : decode cX1_burntFrom 29 = .ok (.iload 4, 2) := by decide +kernel
theorem dX1_burntFrom_31 : decode cX1_burntFrom 31 = .ok (.iaload, 1) := by decide +kernel
theorem dX1_burntFrom_32 : decode cX1_burntFrom 32 = .ok (.iload_n 2, 1) := by decide +kernel
theorem dX1_burntFrom_33 : decode cX1_burntFrom 33 = .ok (.if_icmp .gt 27, 3) := by decide +kernel
theorem dX1_burntFrom_36 : decode cX1_burntFrom 36 = .ok (.iload_n 3, 1) := by decide +kernel
theorem dX1_burntFrom_37 : decode cX1_burntFrom 37 = .ok (.iconst (-1), 1) := by decide +kernel
theorem dX1_burntFrom_38 : decode cX1_burntFrom 38 = .ok (.if_icmp .eq 14, 3) := by decide +kernel
theorem dX1_burntFrom_41 : decode cX1_burntFrom 41 = .ok (.aload_n 0, 1) := by decide +kernel
theorem dX1_burntFrom_42 : decode cX1_burntFrom 42 = .ok (.getfield 30, 3) := by decide +kernel
theorem dX1_burntFrom_45 : decode cX1_burntFrom 45 = .ok (.iload 4, 2) := by decide +kernel
theorem dX1_burntFrom_47 : decode cX1_burntFrom 47 = .ok (.iaload, 1) := by decide +kernel
theorem dX1_burntFrom_48 : decode cX1_burntFrom 48 = .ok (.iload_n 3, 1) := by decide +kernel
theorem dX1_burntFrom_49 : decode cX1_burntFrom 49 = .ok (.if_icmp .ge 11, 3) := by decide +kernel
theorem dX1_burntFrom_52 : decode cX1_burntFrom 52 = .ok (.aload_n 0, 1) := by decide +kernel
theorem dX1_burntFrom_53 : decode cX1_burntFrom 53 = .ok (.getfield 30, 3) := by decide +kernel
theorem dX1_burntFrom_56 : decode cX1_burntFrom 56 = .ok (.iload 4, 2) := by decide +kernel
theorem dX1_burntFrom_58 : decode cX1_burntFrom 58 = .ok (.iaload, 1) := by decide +kernel
theorem dX1_burntFrom_59 : decode cX1_burntFrom 59 = .ok (.istore_n 3, 1) := by decide +kernel
theorem dX1_burntFrom_60 : decode cX1_burntFrom 60 = .ok (.iinc 4 1, 3) := by decide +kernel
theorem dX1_burntFrom_63 : decode cX1_burntFrom 63 = .ok (.goto (-58), 3) := by decide +kernel
theorem dX1_burntFrom_66 : decode cX1_burntFrom 66 = .ok (.iload_n 3, 1) := by decide +kernel
theorem dX1_burntFrom_67 : decode cX1_burntFrom 67 = .ok (.ireturn, 1) := by decide +kernel
def lpX1_burntFrom_5 (v1 : Int32) (v2 : Int32) : Nat → Int32 → Int32 → ST → (Int32 → Int32 → ST → Option (Int32 × ST)) → Option (Int32 × ST)
  | 0, _, _, _, _ => none
  | n + 1, v3, v4, k, cont => if (gI k 0 6) ≤ v4 then cont v3 v4 k else ck (inb v4 60) (if (gA k 5 (ix v4)) = v1 then ck (inb v4 60) (if v2 < (gA k 7 (ix v4)) then lpX1_burntFrom_5 v1 v2 n v3 (v4 + 1) k cont else if v3 = (-1) then ck (inb v4 60) (lpX1_burntFrom_5 v1 v2 n (gA k 6 (ix v4)) (v4 + 1) k cont) else ck (inb v4 60) (if v3 ≤ (gA k 6 (ix v4)) then lpX1_burntFrom_5 v1 v2 n v3 (v4 + 1) k cont else ck (inb v4 60) (lpX1_burntFrom_5 v1 v2 n (gA k 6 (ix v4)) (v4 + 1) k cont))) else lpX1_burntFrom_5 v1 v2 n v3 (v4 + 1) k cont)
set_option maxRecDepth 20000 in
theorem zlpX1_burntFrom_5 {p : Program} {l : Launch} {e : Env} {R : Room} {s : State} {m : MethodId} {args : Array Value} {below : List Frame} {meth : Method} {c : Code} {g : GT} (hC : HC p s m args meth c cX1_burntFrom 5 RX1 (some .int) g) (hR : 0 ≤ R.frames ∧ 0 ≤ R.locals) (v1 : Int32) (v2 : Int32) {cont : Int32 → Int32 → ST → Option (Int32 × ST)} (hk : ∀ (v3 : Int32) (v4 : Int32) (k : ST), ZF p l e R s m args below meth c g TK voI 5 k 66 [(0, .ref (g.2.1 0)), (1, .int v1), (2, .int v2), (3, .int v3), (4, .int v4)] [] (cont v3 v4 k)) : ∀ (n : Nat) (v3 : Int32) (v4 : Int32) (k : ST), ZF p l e R s m args below meth c g TK voI 5 k 5 [(0, .ref (g.2.1 0)), (1, .int v1), (2, .int v2), (3, .int v3), (4, .int v4)] [] (lpX1_burntFrom_5 v1 v2 n v3 v4 k cont) := by
  intro n
  induction n with
  | zero => intros; exact zf_none
  | succ n ih =>
    intro v3 v4 k
    rw [lpX1_burntFrom_5]
    refine zf_iload hC dX1_burntFrom_5 4 rfl ?_
    refine zf_aload_n hC dX1_burntFrom_7 rfl 0 rfl ?_
    refine gf_66 hC dX1_burntFrom_8 ?_
    refine zf_icmp_ge hC (tgt := 66) dX1_burntFrom_11 (by decide) (fun h1 => ?_) (fun h1 => ?_)
    · refine zf_lv (LV' := [(0, .ref (g.2.1 0)), (1, .int v1), (2, .int v2), (3, .int v3), (4, .int v4)]) [0, 1, 2, 3, 4] rfl ?_
      exact hk v3 v4 k
    · refine zf_aload_n hC dX1_burntFrom_14 rfl 0 rfl ?_
      refine gf_67 hC dX1_burntFrom_15 ?_
      refine zf_iload hC dX1_burntFrom_18 4 rfl ?_
      refine zf_iald hC (j := 5) ia_5 rfl rfl dX1_burntFrom_20 (fun h2 => ?_)
      refine zf_iload_n hC dX1_burntFrom_21 rfl 1 rfl ?_
      refine zf_icmp_ne hC (tgt := 60) dX1_burntFrom_22 (by decide) (fun h3 => ?_) (fun h3 => ?_)
      · refine zf_aload_n hC dX1_burntFrom_25 rfl 0 rfl ?_
        refine gf_69 hC dX1_burntFrom_26 ?_
        refine zf_iload hC dX1_burntFrom_29 4 rfl ?_
        refine zf_iald hC (j := 7) ia_7 rfl rfl dX1_burntFrom_31 (fun h4 => ?_)
        refine zf_iload_n hC dX1_burntFrom_32 rfl 2 rfl ?_
        refine zf_icmp_gt hC (tgt := 60) dX1_burntFrom_33 (by decide) (fun h5 => ?_) (fun h5 => ?_)
        · refine zf_iinc hC (q := 4) (v := v4 + 1) (LV' := [(4, .int (v4 + 1)), (0, .ref (g.2.1 0)), (1, .int v1), (2, .int v2), (3, .int v3)]) dX1_burntFrom_60 rfl rfl (by decide) rfl ?_
          refine zf_goto hC (tgt := 5) dX1_burntFrom_63 (by decide) ?_
          refine zf_lv (LV' := [(0, .ref (g.2.1 0)), (1, .int v1), (2, .int v2), (3, .int v3), (4, .int (v4 + 1))]) [1, 2, 3, 4, 0] rfl ?_
          exact ih v3 (v4 + 1) k
        · refine zf_iload_n hC dX1_burntFrom_36 rfl 3 rfl ?_
          refine zf_iconst hC (v := (-1)) dX1_burntFrom_37 rfl ?_
          refine zf_icmp_eq hC (tgt := 52) dX1_burntFrom_38 (by decide) (fun h6 => ?_) (fun h6 => ?_)
          · refine zf_aload_n hC dX1_burntFrom_52 rfl 0 rfl ?_
            refine gf_68 hC dX1_burntFrom_53 ?_
            refine zf_iload hC dX1_burntFrom_56 4 rfl ?_
            refine zf_iald hC (j := 6) ia_6 rfl rfl dX1_burntFrom_58 (fun h7 => ?_)
            refine zf_istore_n hC (LV' := [(3, .int (gA k 6 (ix v4))), (0, .ref (g.2.1 0)), (1, .int v1), (2, .int v2), (4, .int v4)]) dX1_burntFrom_59 rfl (by decide) rfl ?_
            refine zf_iinc hC (q := 4) (v := v4 + 1) (LV' := [(4, .int (v4 + 1)), (3, .int (gA k 6 (ix v4))), (0, .ref (g.2.1 0)), (1, .int v1), (2, .int v2)]) dX1_burntFrom_60 rfl rfl (by decide) rfl ?_
            refine zf_goto hC (tgt := 5) dX1_burntFrom_63 (by decide) ?_
            refine zf_lv (LV' := [(0, .ref (g.2.1 0)), (1, .int v1), (2, .int v2), (3, .int (gA k 6 (ix v4))), (4, .int (v4 + 1))]) [2, 3, 4, 1, 0] rfl ?_
            exact ih (gA k 6 (ix v4)) (v4 + 1) k
          · refine zf_aload_n hC dX1_burntFrom_41 rfl 0 rfl ?_
            refine gf_68 hC dX1_burntFrom_42 ?_
            refine zf_iload hC dX1_burntFrom_45 4 rfl ?_
            refine zf_iald hC (j := 6) ia_6 rfl rfl dX1_burntFrom_47 (fun h8 => ?_)
            refine zf_iload_n hC dX1_burntFrom_48 rfl 3 rfl ?_
            refine zf_icmp_ge hC (tgt := 60) dX1_burntFrom_49 (by decide) (fun h9 => ?_) (fun h9 => ?_)
            · refine zf_iinc hC (q := 4) (v := v4 + 1) (LV' := [(4, .int (v4 + 1)), (0, .ref (g.2.1 0)), (1, .int v1), (2, .int v2), (3, .int v3)]) dX1_burntFrom_60 rfl rfl (by decide) rfl ?_
              refine zf_goto hC (tgt := 5) dX1_burntFrom_63 (by decide) ?_
              refine zf_lv (LV' := [(0, .ref (g.2.1 0)), (1, .int v1), (2, .int v2), (3, .int v3), (4, .int (v4 + 1))]) [1, 2, 3, 4, 0] rfl ?_
              exact ih v3 (v4 + 1) k
            · refine zf_aload_n hC dX1_burntFrom_52 rfl 0 rfl ?_
              refine gf_68 hC dX1_burntFrom_53 ?_
              refine zf_iload hC dX1_burntFrom_56 4 rfl ?_
              refine zf_iald hC (j := 6) ia_6 rfl rfl dX1_burntFrom_58 (fun h10 => ?_)
              refine zf_istore_n hC (LV' := [(3, .int (gA k 6 (ix v4))), (0, .ref (g.2.1 0)), (1, .int v1), (2, .int v2), (4, .int v4)]) dX1_burntFrom_59 rfl (by decide) rfl ?_
              refine zf_iinc hC (q := 4) (v := v4 + 1) (LV' := [(4, .int (v4 + 1)), (3, .int (gA k 6 (ix v4))), (0, .ref (g.2.1 0)), (1, .int v1), (2, .int v2)]) dX1_burntFrom_60 rfl rfl (by decide) rfl ?_
              refine zf_goto hC (tgt := 5) dX1_burntFrom_63 (by decide) ?_
              refine zf_lv (LV' := [(0, .ref (g.2.1 0)), (1, .int v1), (2, .int v2), (3, .int (gA k 6 (ix v4))), (4, .int (v4 + 1))]) [2, 3, 4, 1, 0] rfl ?_
              exact ih (gA k 6 (ix v4)) (v4 + 1) k
      · refine zf_iinc hC (q := 4) (v := v4 + 1) (LV' := [(4, .int (v4 + 1)), (0, .ref (g.2.1 0)), (1, .int v1), (2, .int v2), (3, .int v3)]) dX1_burntFrom_60 rfl rfl (by decide) rfl ?_
        refine zf_goto hC (tgt := 5) dX1_burntFrom_63 (by decide) ?_
        refine zf_lv (LV' := [(0, .ref (g.2.1 0)), (1, .int v1), (2, .int v2), (3, .int v3), (4, .int (v4 + 1))]) [1, 2, 3, 4, 0] rfl ?_
        exact ih v3 (v4 + 1) k
def fX1_burntFrom (k : ST) (a0 : Int32) (a1 : Int32) : Option (Int32 × ST) := lpX1_burntFrom_5 a0 a1 FU (-1) 0 k fun y11 y12 k13 => some (y11, k13)
set_option maxRecDepth 20000 in
theorem c_X1_burntFrom (l : Launch) (g : GT) (a0 : Int32) (a1 : Int32) : CN l yX1_burntFrom cX1_burntFrom 5 (some .int) { frames := 0, cells := 0, slots := 0, locals := 0 } g TK voI [.ref (g.2.1 0), .int a0, .int a1] (fun k => fX1_burntFrom k a0 a1) := by
  refine cn_of (by decide) (Nat.le_of_ble_eq_true rfl) ?_
  intro p e s m args below meth c hC k
  have hC : HC p s m args meth c cX1_burntFrom 5 RX1 (some .int) g := hC
  have hR : 0 ≤ ({ frames := 0, cells := 0, slots := 0, locals := 0 } : Room).frames ∧ 0 ≤ ({ frames := 0, cells := 0, slots := 0, locals := 0 } : Room).locals := ⟨Nat.le_refl _, Nat.le_refl _⟩
  show ZF p l e _ s m args below meth c g TK voI 5 k 0 [(0, .ref (g.2.1 0)), (1, .int a0), (2, .int a1)] [] (fX1_burntFrom k a0 a1)
  unfold fX1_burntFrom
  refine zf_iconst hC (v := (-1)) dX1_burntFrom_0 rfl ?_
  refine zf_istore_n hC (LV' := [(3, .int (-1)), (0, .ref (g.2.1 0)), (1, .int a0), (2, .int a1)]) dX1_burntFrom_1 rfl (by decide) rfl ?_
  refine zf_iconst hC (v := 0) dX1_burntFrom_2 rfl ?_
  refine zf_istore hC (LV' := [(4, .int 0), (3, .int (-1)), (0, .ref (g.2.1 0)), (1, .int a0), (2, .int a1)]) dX1_burntFrom_3 (by decide) rfl ?_
  refine zf_lv (LV' := [(0, .ref (g.2.1 0)), (1, .int a0), (2, .int a1), (3, .int (-1)), (4, .int 0)]) [2, 3, 4, 1, 0] rfl ?_
  refine zlpX1_burntFrom_5 hC hR a0 a1 (fun y11 y12 k13 => ?_) FU (-1) 0 k
  refine zf_iload_n hC dX1_burntFrom_66 rfl 3 rfl ?_
  exact zf_iret hC rfl dX1_burntFrom_67
/-! LifeKeys.Ties.hasNow -/
theorem dX10_hasNow_0 : decode cX10_hasNow 0 = .ok (.aload_n 0, 1) := by decide +kernel
theorem dX10_hasNow_1 : decode cX10_hasNow 1 = .ok (.getfield 9, 3) := by decide +kernel
theorem dX10_hasNow_4 : decode cX10_hasNow 4 = .ok (.iload_n 1, 1) := by decide +kernel
theorem dX10_hasNow_5 : decode cX10_hasNow 5 = .ok (.laload, 1) := by decide +kernel
theorem dX10_hasNow_6 : decode cX10_hasNow 6 = .ok (.iload_n 2, 1) := by decide +kernel
theorem dX10_hasNow_7 : decode cX10_hasNow 7 = .ok (.invokestatic 37, 3) := by decide +kernel
theorem dX10_hasNow_10 : decode cX10_hasNow 10 = .ok (.ireturn, 1) := by decide +kernel
def fX10_hasNow (k : ST) (a0 : Int32) (a1 : Int32) : Option (Bool × ST) := ck (inb a0 12) (ob (fX11_hasKey k (gL k 49 (ix a0)) a1) fun r2 k3 => some (r2, k3))
set_option maxRecDepth 20000 in
theorem c_X10_hasNow (l : Launch) (g : GT) (a0 : Int32) (a1 : Int32) : CN l yX10_hasNow cX10_hasNow 3 (some .boolean) { frames := 1, cells := 0, slots := 0, locals := 22 } g TK voB [.ref (g.2.1 9), .int a0, .int a1] (fun k => fX10_hasNow k a0 a1) := by
  refine cn_of (by decide) (Nat.le_of_ble_eq_true rfl) ?_
  intro p e s m args below meth c hC k
  have hC : HC p s m args meth c cX10_hasNow 3 RX10 (some .boolean) g := hC
  have hR : 1 ≤ ({ frames := 1, cells := 0, slots := 0, locals := 22 } : Room).frames ∧ 22 ≤ ({ frames := 1, cells := 0, slots := 0, locals := 22 } : Room).locals := ⟨Nat.le_refl _, Nat.le_refl _⟩
  show ZF p l e _ s m args below meth c g TK voB 3 k 0 [(0, .ref (g.2.1 9)), (1, .int a0), (2, .int a1)] [] (fX10_hasNow k a0 a1)
  unfold fX10_hasNow
  refine zf_aload_n hC dX10_hasNow_0 rfl 0 rfl ?_
  refine gf_97 hC dX10_hasNow_1 ?_
  refine zf_iload_n hC dX10_hasNow_4 rfl 1 rfl ?_
  refine zf_lald hC (j := 49) ia_49 rfl rfl dX10_hasNow_5 (fun h1 => ?_)
  refine zf_iload_n hC dX10_hasNow_6 rfl 2 rfl ?_
  refine zf_callSN hC (c_X11_hasKey l g TK (gL k 49 (ix a0)) a1) mt_X11_hasKey wd_538 wd_537 rfl (rm_le hR rfl) rfl rfl (rest := []) rfl (Nat.le_of_ble_eq_true rfl) dX10_hasNow_7 (fun r2 k3 h4 => ?_)
  exact zf_zret hC rfl r2 rfl dX10_hasNow_10
/-! LifeKeys.Ties.turn -/
theorem dX10_turn_0 : decode cX10_turn 0 = .ok (.aload_n 0, 1) := by decide +kernel
theorem dX10_turn_1 : decode cX10_turn 1 = .ok (.getfield 41, 3) := by decide +kernel
theorem dX10_turn_4 : decode cX10_turn 4 = .ok (.sipush 512, 3) := by decide +kernel
theorem dX10_turn_7 : decode cX10_turn 7 = .ok (.if_icmp .lt 5, 3) := by decide +kernel
theorem dX10_turn_10 : decode cX10_turn 10 = .ok (.iconst 0, 1) := by decide +kernel
theorem dX10_turn_11 : decode cX10_turn 11 = .ok (.ireturn, 1) := by decide +kernel
theorem dX10_turn_12 : decode cX10_turn 12 = .ok (.aload_n 0, 1) := by decide +kernel
theorem dX10_turn_13 : decode cX10_turn 13 = .ok (.getfield 9, 3) := by decide +kernel
theorem dX10_turn_16 : decode cX10_turn 16 = .ok (.iload_n 1, 1) := by decide +kernel
theorem dX10_turn_17 : decode cX10_turn 17 = .ok (.dup2, 1) := by decide +kernel
theorem dX10_turn_18 : decode cX10_turn 18 = .ok (.laload, 1) := by decide +kernel
theorem dX10_turn_19 : decode cX10_turn 19 = .ok (.lconst 1, 1) := by decide +kernel
theorem dX10_turn_20 : decode cX10_turn 20 = .ok (.iload_n 2, 1) := by decide +kernel
theorem dX10_turn_21 : decode cX10_turn 21 = .ok (.lshl, 1) := by decide +kernel
theorem dX10_turn_22 : decode cX10_turn 22 = .ok (.lxor, 1) := by decide +kernel
theorem dX10_turn_23 : decode cX10_turn 23 = .ok (.lastore, 1) := by decide +kernel
theorem dX10_turn_24 : decode cX10_turn 24 = .ok (.aload_n 0, 1) := by decide +kernel
theorem dX10_turn_25 : decode cX10_turn 25 = .ok (.getfield 15, 3) := by decide +kernel
theorem dX10_turn_28 : decode cX10_turn 28 = .ok (.aload_n 0, 1) := by decide +kernel
theorem dX10_turn_29 : decode cX10_turn 29 = .ok (.getfield 41, 3) := by decide +kernel
theorem dX10_turn_32 : decode cX10_turn 32 = .ok (.iload_n 1, 1) := by decide +kernel
theorem dX10_turn_33 : decode cX10_turn 33 = .ok (.iastore, 1) := by decide +kernel
theorem dX10_turn_34 : decode cX10_turn 34 = .ok (.aload_n 0, 1) := by decide +kernel
theorem dX10_turn_35 : decode cX10_turn 35 = .ok (.getfield 19, 3) := by decide +kernel
theorem dX10_turn_38 : decode cX10_turn 38 = .ok (.aload_n 0, 1) := by decide +kernel
theorem dX10_turn_39 : decode cX10_turn 39 = .ok (.getfield 41, 3) := by decide +kernel
theorem dX10_turn_42 : decode cX10_turn 42 = .ok (.iload_n 2, 1) := by decide +kernel
theorem dX10_turn_43 : decode cX10_turn 43 = .ok (.iastore, 1) := by decide +kernel
theorem dX10_turn_44 : decode cX10_turn 44 = .ok (.aload_n 0, 1) := by decide +kernel
theorem dX10_turn_45 : decode cX10_turn 45 = .ok (.getfield 22, 3) := by decide +kernel
theorem dX10_turn_48 : decode cX10_turn 48 = .ok (.aload_n 0, 1) := by decide +kernel
theorem dX10_turn_49 : decode cX10_turn 49 = .ok (.getfield 41, 3) := by decide +kernel
theorem dX10_turn_52 : decode cX10_turn 52 = .ok (.iload_n 3, 1) := by decide +kernel
theorem dX10_turn_53 : decode cX10_turn 53 = .ok (.iastore, 1) := by decide +kernel
theorem dX10_turn_54 : decode cX10_turn 54 = .ok (.aload_n 0, 1) := by decide +kernel
theorem dX10_turn_55 : decode cX10_turn 55 = .ok (.dup, 1) := by decide +kernel
theorem dX10_turn_56 : decode cX10_turn 56 = .ok (.getfield 41, 3) := by decide +kernel
theorem dX10_turn_59 : decode cX10_turn 59 = .ok (.iconst 1, 1) := by decide +kernel
theorem dX10_turn_60 : decode cX10_turn 60 = .ok (.iadd, 1) := by decide +kernel
theorem dX10_turn_61 : decode cX10_turn 61 = .ok (.putfield 41, 3) := by decide +kernel
theorem dX10_turn_64 : decode cX10_turn 64 = .ok (.iconst 1, 1) := by decide +kernel
theorem dX10_turn_65 : decode cX10_turn 65 = .ok (.ireturn, 1) := by decide +kernel
def fX10_turn (k : ST) (a0 : Int32) (a1 : Int32) (a2 : Int32) : Option (Bool × ST) := if (gI k 9 1) < 512 then ck (inb a0 12) (ck (inb a0 12) (nm (sL k 49 (ix a0) ((gL k 49 (ix a0)) ^^^ (j_lshl 1 a1))) fun k4 => ck (inb (gI k4 9 1) 512) (nm (sA k4 50 (ix (gI k4 9 1)) a0) fun k6 => ck (inb (gI k6 9 1) 512) (nm (sA k6 51 (ix (gI k6 9 1)) a1) fun k8 => ck (inb (gI k8 9 1) 512) (nm (sA k8 52 (ix (gI k8 9 1)) a2) fun k10 => nm (sI k10 9 1 ((gI k10 9 1) + 1)) fun k11 => some (true, k11)))))) else some (false, k)
set_option maxRecDepth 20000 in
theorem c_X10_turn (l : Launch) (g : GT) (a0 : Int32) (a1 : Int32) (a2 : Int32) : CN l yX10_turn cX10_turn 4 (some .boolean) { frames := 0, cells := 0, slots := 0, locals := 0 } g TK voB [.ref (g.2.1 9), .int a0, .int a1, .int a2] (fun k => fX10_turn k a0 a1 a2) := by
  refine cn_of (by decide) (Nat.le_of_ble_eq_true rfl) ?_
  intro p e s m args below meth c hC k
  have hC : HC p s m args meth c cX10_turn 4 RX10 (some .boolean) g := hC
  have hR : 0 ≤ ({ frames := 0, cells := 0, slots := 0, locals := 0 } : Room).frames ∧ 0 ≤ ({ frames := 0, cells := 0, slots := 0, locals := 0 } : Room).locals := ⟨Nat.le_refl _, Nat.le_refl _⟩
  show ZF p l e _ s m args below meth c g TK voB 4 k 0 [(0, .ref (g.2.1 9)), (1, .int a0), (2, .int a1), (3, .int a2)] [] (fX10_turn k a0 a1 a2)
  unfold fX10_turn
  refine zf_aload_n hC dX10_turn_0 rfl 0 rfl ?_
  refine gf_98 hC dX10_turn_1 ?_
  refine zf_sipush hC (v := 512) dX10_turn_4 rfl ?_
  refine zf_icmp_lt hC (tgt := 12) dX10_turn_7 (by decide) (fun h1 => ?_) (fun h1 => ?_)
  · refine zf_aload_n hC dX10_turn_12 rfl 0 rfl ?_
    refine gf_97 hC dX10_turn_13 ?_
    refine zf_iload_n hC dX10_turn_16 rfl 1 rfl ?_
    refine zf_dup2 hC dX10_turn_17 rfl rfl ?_
    refine zf_lald hC (j := 49) ia_49 rfl rfl dX10_turn_18 (fun h2 => ?_)
    refine zf_lconst hC (v := 1) dX10_turn_19 rfl ?_
    refine zf_iload_n hC dX10_turn_20 rfl 2 rfl ?_
    refine zf_lshl hC dX10_turn_21 ?_
    refine zf_lxor hC dX10_turn_22 ?_
    refine zf_last hC (j := 49) ia_49 rfl rfl dX10_turn_23 (fun h3 => ?_)
    refine zf_nmk (fun k4 => ?_)
    refine zf_aload_n hC dX10_turn_24 rfl 0 rfl ?_
    refine gf_99 hC dX10_turn_25 ?_
    refine zf_aload_n hC dX10_turn_28 rfl 0 rfl ?_
    refine gf_98 hC dX10_turn_29 ?_
    refine zf_iload_n hC dX10_turn_32 rfl 1 rfl ?_
    refine zf_iast hC (j := 50) ia_50 rfl rfl dX10_turn_33 (fun h5 => ?_)
    refine zf_nmk (fun k6 => ?_)
    refine zf_aload_n hC dX10_turn_34 rfl 0 rfl ?_
    refine gf_100 hC dX10_turn_35 ?_
    refine zf_aload_n hC dX10_turn_38 rfl 0 rfl ?_
    refine gf_98 hC dX10_turn_39 ?_
    refine zf_iload_n hC dX10_turn_42 rfl 2 rfl ?_
    refine zf_iast hC (j := 51) ia_51 rfl rfl dX10_turn_43 (fun h7 => ?_)
    refine zf_nmk (fun k8 => ?_)
    refine zf_aload_n hC dX10_turn_44 rfl 0 rfl ?_
    refine gf_101 hC dX10_turn_45 ?_
    refine zf_aload_n hC dX10_turn_48 rfl 0 rfl ?_
    refine gf_98 hC dX10_turn_49 ?_
    refine zf_iload_n hC dX10_turn_52 rfl 3 rfl ?_
    refine zf_iast hC (j := 52) ia_52 rfl rfl dX10_turn_53 (fun h9 => ?_)
    refine zf_nmk (fun k10 => ?_)
    refine zf_aload_n hC dX10_turn_54 rfl 0 rfl ?_
    refine zf_dup hC dX10_turn_55 rfl ?_
    refine gf_98 hC dX10_turn_56 ?_
    refine zf_iconst hC (v := 1) dX10_turn_59 rfl ?_
    refine zf_iadd hC dX10_turn_60 ?_
    refine pf_98 hC dX10_turn_61 ?_
    refine zf_nmk (fun k11 => ?_)
    refine zf_iconst hC (v := 1) dX10_turn_64 rfl ?_
    exact zf_zret hC rfl true rfl dX10_turn_65
  · refine zf_iconst hC (v := 0) dX10_turn_10 rfl ?_
    exact zf_zret hC rfl false rfl dX10_turn_11
/-! LifeKeys.Ties.addWrap -/
theorem dX10_addWrap_0 : decode cX10_addWrap 0 = .ok (.aload_n 0, 1) := by decide +kernel
theorem dX10_addWrap_1 : decode cX10_addWrap 1 = .ok (.getfield 45, 3) := by decide +kernel
theorem dX10_addWrap_4 : decode cX10_addWrap 4 = .ok (.bipush 40, 2) := by decide +kernel
theorem dX10_addWrap_6 : decode cX10_addWrap 6 = .ok (.if_icmp .lt 5, 3) := by decide +kernel
theorem dX10_addWrap_9 : decode cX10_addWrap 9 = .ok (.iconst (-1), 1) := by decide +kernel
theorem dX10_addWrap_10 : decode cX10_addWrap 10 = .ok (.ireturn, 1) := by decide +kernel
theorem dX10_addWrap_11 : decode cX10_addWrap 11 = .ok (.aload_n 0, 1) := by decide +kernel
theorem dX10_addWrap_12 : decode cX10_addWrap 12 = .ok (.getfield 25, 3) := by decide +kernel
theorem dX10_addWrap_15 : decode cX10_addWrap 15 = .ok (.aload_n 0, 1) := by decide +kernel
theorem dX10_addWrap_16 : decode cX10_addWrap 16 = .ok (.getfield 45, 3) := by decide +kernel
theorem dX10_addWrap_19 : decode cX10_addWrap 19 = .ok (.iload_n 1, 1) := by decide +kernel
theorem dX10_addWrap_20 : decode cX10_addWrap 20 = .ok (.iastore, 1) := by decide +kernel
theorem dX10_addWrap_21 : decode cX10_addWrap 21 = .ok (.aload_n 0, 1) := by decide +kernel
theorem dX10_addWrap_22 : decode cX10_addWrap 22 = .ok (.getfield 28, 3) := by decide +kernel
theorem dX10_addWrap_25 : decode cX10_addWrap 25 = .ok (.aload_n 0, 1) := by decide +kernel
theorem dX10_addWrap_26 : decode cX10_addWrap 26 = .ok (.getfield 45, 3) := by decide +kernel
theorem dX10_addWrap_29 : decode cX10_addWrap 29 = .ok (.iload_n 2, 1) := by decide +kernel
theorem dX10_addWrap_30 : decode cX10_addWrap 30 = .ok (.iastore, 1) := by decide +kernel
theorem dX10_addWrap_31 : decode cX10_addWrap 31 = .ok (.aload_n 0, 1) := by decide +kernel
theorem dX10_addWrap_32 : decode cX10_addWrap 32 = .ok (.getfield 31, 3) := by decide +kernel
theorem dX10_addWrap_35 : decode cX10_addWrap 35 = .ok (.aload_n 0, 1) := by decide +kernel
theorem dX10_addWrap_36 : decode cX10_addWrap 36 = .ok (.getfield 45, 3) := by decide +kernel
theorem dX10_addWrap_39 : decode cX10_addWrap 39 = .ok (.iload_n 3, 1) := by decide +kernel
theorem dX10_addWrap_40 : decode cX10_addWrap 40 = .ok (.iastore, 1) := by decide +kernel
theorem dX10_addWrap_41 : decode cX10_addWrap 41 = .ok (.aload_n 0, 1) := by decide +kernel
theorem dX10_addWrap_42 : decode cX10_addWrap 42 = .ok (.getfield 34, 3) := by decide +kernel
theorem dX10_addWrap_45 : decode cX10_addWrap 45 = .ok (.aload_n 0, 1) := by decide +kernel
theorem dX10_addWrap_46 : decode cX10_addWrap 46 = .ok (.getfield 45, 3) := by decide +kernel
theorem dX10_addWrap_49 : decode cX10_addWrap 49 = .ok (.iconst (-1), 1) := by decide +kernel
theorem dX10_addWrap_50 : decode cX10_addWrap 50 = .ok (.iastore, 1) := by decide +kernel
theorem dX10_addWrap_51 : decode cX10_addWrap 51 = .ok (.aload_n 0, 1) := by decide +kernel
theorem dX10_addWrap_52 : decode cX10_addWrap 52 = .ok (.dup, 1) := by decide +kernel
theorem dX10_addWrap_53 : decode cX10_addWrap 53 = .ok (.getfield 45, 3) := by decide +kernel
theorem dX10_addWrap_56 : decode cX10_addWrap 56 = .ok (.iconst 1, 1) := by decide +kernel
theorem dX10_addWrap_57 : decode cX10_addWrap 57 = .ok (.iadd, 1) := by decide +kernel
theorem dX10_addWrap_58 : decode cX10_addWrap 58 = .ok (.putfield 45, 3) := by decide +kernel
theorem dX10_addWrap_61 : decode cX10_addWrap 61 = .ok (.aload_n 0, 1) := by decide +kernel
theorem dX10_addWrap_62 : decode cX10_addWrap 62 = .ok (.getfield 45, 3) := by decide +kernel
theorem dX10_addWrap_65 : decode cX10_addWrap 65 = .ok (.iconst 1, 1) := by decide +kernel
theorem dX10_addWrap_66 : decode cX10_addWrap 66 = .ok (.isub, 1) := by decide +kernel
theorem dX10_addWrap_67 : decode cX10_addWrap 67 = .ok (.ireturn, 1) := by decide +kernel
def fX10_addWrap (k : ST) (a0 : Int32) (a1 : Int32) (a2 : Int32) : Option (Int32 × ST) := if (gI k 9 5) < 40 then ck (inb (gI k 9 5) 40) (nm (sA k 53 (ix (gI k 9 5)) a0) fun k3 => ck (inb (gI k3 9 5) 40) (nm (sA k3 54 (ix (gI k3 9 5)) a1) fun k5 => ck (inb (gI k5 9 5) 40) (nm (sA k5 55 (ix (gI k5 9 5)) a2) fun k7 => ck (inb (gI k7 9 5) 40) (nm (sA k7 56 (ix (gI k7 9 5)) (-1)) fun k9 => nm (sI k9 9 5 ((gI k9 9 5) + 1)) fun k10 => some ((gI k10 9 5) - 1, k10))))) else some ((-1), k)
set_option maxRecDepth 20000 in
theorem c_X10_addWrap (l : Launch) (g : GT) (a0 : Int32) (a1 : Int32) (a2 : Int32) : CN l yX10_addWrap cX10_addWrap 4 (some .int) { frames := 0, cells := 0, slots := 0, locals := 0 } g TK voI [.ref (g.2.1 9), .int a0, .int a1, .int a2] (fun k => fX10_addWrap k a0 a1 a2) := by
  refine cn_of (by decide) (Nat.le_of_ble_eq_true rfl) ?_
  intro p e s m args below meth c hC k
  have hC : HC p s m args meth c cX10_addWrap 4 RX10 (some .int) g := hC
  have hR : 0 ≤ ({ frames := 0, cells := 0, slots := 0, locals := 0 } : Room).frames ∧ 0 ≤ ({ frames := 0, cells := 0, slots := 0, locals := 0 } : Room).locals := ⟨Nat.le_refl _, Nat.le_refl _⟩
  show ZF p l e _ s m args below meth c g TK voI 4 k 0 [(0, .ref (g.2.1 9)), (1, .int a0), (2, .int a1), (3, .int a2)] [] (fX10_addWrap k a0 a1 a2)
  unfold fX10_addWrap
  refine zf_aload_n hC dX10_addWrap_0 rfl 0 rfl ?_
  refine gf_103 hC dX10_addWrap_1 ?_
  refine zf_bipush hC (v := 40) dX10_addWrap_4 rfl ?_
  refine zf_icmp_lt hC (tgt := 11) dX10_addWrap_6 (by decide) (fun h1 => ?_) (fun h1 => ?_)
  · refine zf_aload_n hC dX10_addWrap_11 rfl 0 rfl ?_
    refine gf_104 hC dX10_addWrap_12 ?_
    refine zf_aload_n hC dX10_addWrap_15 rfl 0 rfl ?_
    refine gf_103 hC dX10_addWrap_16 ?_
    refine zf_iload_n hC dX10_addWrap_19 rfl 1 rfl ?_
    refine zf_iast hC (j := 53) ia_53 rfl rfl dX10_addWrap_20 (fun h2 => ?_)
    refine zf_nmk (fun k3 => ?_)
    refine zf_aload_n hC dX10_addWrap_21 rfl 0 rfl ?_
    refine gf_106 hC dX10_addWrap_22 ?_
    refine zf_aload_n hC dX10_addWrap_25 rfl 0 rfl ?_
    refine gf_103 hC dX10_addWrap_26 ?_
    refine zf_iload_n hC dX10_addWrap_29 rfl 2 rfl ?_
    refine zf_iast hC (j := 54) ia_54 rfl rfl dX10_addWrap_30 (fun h4 => ?_)
    refine zf_nmk (fun k5 => ?_)
    refine zf_aload_n hC dX10_addWrap_31 rfl 0 rfl ?_
    refine gf_108 hC dX10_addWrap_32 ?_
    refine zf_aload_n hC dX10_addWrap_35 rfl 0 rfl ?_
    refine gf_103 hC dX10_addWrap_36 ?_
    refine zf_iload_n hC dX10_addWrap_39 rfl 3 rfl ?_
    refine zf_iast hC (j := 55) ia_55 rfl rfl dX10_addWrap_40 (fun h6 => ?_)
    refine zf_nmk (fun k7 => ?_)
    refine zf_aload_n hC dX10_addWrap_41 rfl 0 rfl ?_
    refine gf_109 hC dX10_addWrap_42 ?_
    refine zf_aload_n hC dX10_addWrap_45 rfl 0 rfl ?_
    refine gf_103 hC dX10_addWrap_46 ?_
    refine zf_iconst hC (v := (-1)) dX10_addWrap_49 rfl ?_
    refine zf_iast hC (j := 56) ia_56 rfl rfl dX10_addWrap_50 (fun h8 => ?_)
    refine zf_nmk (fun k9 => ?_)
    refine zf_aload_n hC dX10_addWrap_51 rfl 0 rfl ?_
    refine zf_dup hC dX10_addWrap_52 rfl ?_
    refine gf_103 hC dX10_addWrap_53 ?_
    refine zf_iconst hC (v := 1) dX10_addWrap_56 rfl ?_
    refine zf_iadd hC dX10_addWrap_57 ?_
    refine pf_103 hC dX10_addWrap_58 ?_
    refine zf_nmk (fun k10 => ?_)
    refine zf_aload_n hC dX10_addWrap_61 rfl 0 rfl ?_
    refine gf_103 hC dX10_addWrap_62 ?_
    refine zf_iconst hC (v := 1) dX10_addWrap_65 rfl ?_
    refine zf_isub hC dX10_addWrap_66 ?_
    exact zf_iret hC rfl dX10_addWrap_67
  · refine zf_iconst hC (v := (-1)) dX10_addWrap_9 rfl ?_
    exact zf_iret hC rfl dX10_addWrap_10
/-! LifeKeys.Ties.cutWrap -/
theorem dX10_cutWrap_0 : decode cX10_cutWrap 0 = .ok (.iload_n 1, 1) := by decide +kernel
theorem dX10_cutWrap_1 : decode cX10_cutWrap 1 = .ok (.ifCond .lt 21, 3) := by decide +kernel
theorem dX10_cutWrap_4 : decode cX10_cutWrap 4 = .ok (.iload_n 1, 1) := by decide +kernel
theorem dX10_cutWrap_5 : decode cX10_cutWrap 5 = .ok (.aload_n 0, 1) := by decide +kernel
theorem dX10_cutWrap_6 : decode cX10_cutWrap 6 = .ok (.getfield 45, 3) := by decide +kernel
theorem dX10_cutWrap_9 : decode cX10_cutWrap 9 = .ok (.if_icmp .ge 13, 3) := by decide +kernel
theorem dX10_cutWrap_12 : decode cX10_cutWrap 12 = .ok (.aload_n 0, 1) := by decide +kernel
theorem dX10_cutWrap_13 : decode cX10_cutWrap 13 = .ok (.getfield 34, 3) := by decide +kernel
theorem dX10_cutWrap_16 : decode cX10_cutWrap 16 = .ok (.iload_n 1, 1) := by decide +kernel
theorem dX10_cutWrap_17 : decode cX10_cutWrap 17 = .ok (.iaload, 1) := by decide +kernel
theorem dX10_cutWrap_18 : decode cX10_cutWrap 18 = .ok (.iconst (-1), 1) := by decide +kernel
theorem dX10_cutWrap_19 : decode cX10_cutWrap 19 = .ok (.if_icmp .eq 5, 3) := by decide +kernel
theorem dX10_cutWrap_22 : decode cX10_cutWrap 22 = .ok (.iconst 0, 1) := by decide +kernel
theorem dX10_cutWrap_23 : decode cX10_cutWrap 23 = .ok (.ireturn, 1) := by decide +kernel
theorem dX10_cutWrap_24 : decode cX10_cutWrap 24 = .ok (.aload_n 0, 1) := by decide +kernel
theorem dX10_cutWrap_25 : decode cX10_cutWrap 25 = .ok (.getfield 34, 3) := by decide +kernel
theorem dX10_cutWrap_28 : decode cX10_cutWrap 28 = .ok (.iload_n 1, 1) := by decide +kernel
theorem dX10_cutWrap_29 : decode cX10_cutWrap 29 = .ok (.iload_n 2, 1) := by decide +kernel
theorem dX10_cutWrap_30 : decode cX10_cutWrap 30 = .ok (.iastore, 1) := by decide +kernel
theorem dX10_cutWrap_31 : decode cX10_cutWrap 31 = .ok (.iconst 1, 1) := by decide +kernel
theorem dX10_cutWrap_32 : decode cX10_cutWrap 32 = .ok (.ireturn, 1) := by decide +kernel
def fX10_cutWrap (k : ST) (a0 : Int32) (a1 : Int32) : Option (Bool × ST) := if a0 < 0 then some (false, k) else if (gI k 9 5) ≤ a0 then some (false, k) else ck (inb a0 40) (if (gA k 56 (ix a0)) = (-1) then ck (inb a0 40) (nm (sA k 56 (ix a0) a1) fun k6 => some (true, k6)) else some (false, k))
set_option maxRecDepth 20000 in
theorem c_X10_cutWrap (l : Launch) (g : GT) (a0 : Int32) (a1 : Int32) : CN l yX10_cutWrap cX10_cutWrap 3 (some .boolean) { frames := 0, cells := 0, slots := 0, locals := 0 } g TK voB [.ref (g.2.1 9), .int a0, .int a1] (fun k => fX10_cutWrap k a0 a1) := by
  refine cn_of (by decide) (Nat.le_of_ble_eq_true rfl) ?_
  intro p e s m args below meth c hC k
  have hC : HC p s m args meth c cX10_cutWrap 3 RX10 (some .boolean) g := hC
  have hR : 0 ≤ ({ frames := 0, cells := 0, slots := 0, locals := 0 } : Room).frames ∧ 0 ≤ ({ frames := 0, cells := 0, slots := 0, locals := 0 } : Room).locals := ⟨Nat.le_refl _, Nat.le_refl _⟩
  show ZF p l e _ s m args below meth c g TK voB 3 k 0 [(0, .ref (g.2.1 9)), (1, .int a0), (2, .int a1)] [] (fX10_cutWrap k a0 a1)
  unfold fX10_cutWrap
  refine zf_iload_n hC dX10_cutWrap_0 rfl 1 rfl ?_
  refine zf_if_lt hC (tgt := 22) dX10_cutWrap_1 (by decide) (fun h1 => ?_) (fun h1 => ?_)
  · refine zf_iconst hC (v := 0) dX10_cutWrap_22 rfl ?_
    exact zf_zret hC rfl false rfl dX10_cutWrap_23
  · refine zf_iload_n hC dX10_cutWrap_4 rfl 1 rfl ?_
    refine zf_aload_n hC dX10_cutWrap_5 rfl 0 rfl ?_
    refine gf_103 hC dX10_cutWrap_6 ?_
    refine zf_icmp_ge hC (tgt := 22) dX10_cutWrap_9 (by decide) (fun h2 => ?_) (fun h2 => ?_)
    · refine zf_iconst hC (v := 0) dX10_cutWrap_22 rfl ?_
      exact zf_zret hC rfl false rfl dX10_cutWrap_23
    · refine zf_aload_n hC dX10_cutWrap_12 rfl 0 rfl ?_
      refine gf_109 hC dX10_cutWrap_13 ?_
      refine zf_iload_n hC dX10_cutWrap_16 rfl 1 rfl ?_
      refine zf_iald hC (j := 56) ia_56 rfl rfl dX10_cutWrap_17 (fun h3 => ?_)
      refine zf_iconst hC (v := (-1)) dX10_cutWrap_18 rfl ?_
      refine zf_icmp_eq hC (tgt := 24) dX10_cutWrap_19 (by decide) (fun h4 => ?_) (fun h4 => ?_)
      · refine zf_aload_n hC dX10_cutWrap_24 rfl 0 rfl ?_
        refine gf_109 hC dX10_cutWrap_25 ?_
        refine zf_iload_n hC dX10_cutWrap_28 rfl 1 rfl ?_
        refine zf_iload_n hC dX10_cutWrap_29 rfl 2 rfl ?_
        refine zf_iast hC (j := 56) ia_56 rfl rfl dX10_cutWrap_30 (fun h5 => ?_)
        refine zf_nmk (fun k6 => ?_)
        refine zf_iconst hC (v := 1) dX10_cutWrap_31 rfl ?_
        exact zf_zret hC rfl true rfl dX10_cutWrap_32
      · refine zf_iconst hC (v := 0) dX10_cutWrap_22 rfl ?_
        exact zf_zret hC rfl false rfl dX10_cutWrap_23
/-! LifeKeys.Ties.heldOn -/
theorem dX10_heldOn_0 : decode cX10_heldOn 0 = .ok (.iconst 0, 1) := by decide +kernel
theorem dX10_heldOn_1 : decode cX10_heldOn 1 = .ok (.istore_n 3, 1) := by decide +kernel
theorem dX10_heldOn_2 : decode cX10_heldOn 2 = .ok (.iload_n 3, 1) := by decide +kernel
theorem dX10_heldOn_3 : decode cX10_heldOn 3 = .ok (.bipush 12, 2) := by decide +kernel
theorem dX10_heldOn_5 : decode cX10_heldOn 5 = .ok (.if_icmp .ge 19, 3) := by decide +kernel
theorem dX10_heldOn_8 : decode cX10_heldOn 8 = .ok (.iload_n 3, 1) := by decide +kernel
theorem dX10_heldOn_9 : decode cX10_heldOn 9 = .ok (.aload_n 2, 1) := by decide +kernel
theorem dX10_heldOn_10 : decode cX10_heldOn 10 = .ok (.arraylength, 1) := by decide +kernel
theorem dX10_heldOn_11 : decode cX10_heldOn 11 = .ok (.if_icmp .ge 13, 3) := by decide +kernel
theorem dX10_heldOn_14 : decode cX10_heldOn 14 = .ok (.aload_n 2, 1) := by decide +kernel
theorem dX10_heldOn_15 : decode cX10_heldOn 15 = .ok (.iload_n 3, 1) := by decide +kernel
theorem dX10_heldOn_16 : decode cX10_heldOn 16 = .ok (.lconst 0, 1) := by decide +kernel
theorem dX10_heldOn_17 : decode cX10_heldOn 17 = .ok (.lastore, 1) := by decide +kernel
theorem dX10_heldOn_18 : decode cX10_heldOn 18 = .ok (.iinc 3 1, 3) := by decide +kernel
theorem dX10_heldOn_21 : decode cX10_heldOn 21 = .ok (.goto (-19), 3) := by decide +kernel
theorem dX10_heldOn_24 : decode cX10_heldOn 24 = .ok (.iconst 0, 1) := by decide +kernel
theorem dX10_heldOn_25 : decode cX10_heldOn 25 = .ok (.istore_n 3, 1) := by decide +kernel
theorem dX10_heldOn_26 : decode cX10_heldOn 26 = .ok (.iload_n 3, 1) := by decide +kernel
theorem dX10_heldOn_27 : decode cX10_heldOn 27 = .ok (.aload_n 0, 1) := by decide +kernel
theorem dX10_heldOn_28 : decode cX10_heldOn 28 = .ok (.getfield 41, 3) := by decide +kernel
theorem dX10_heldOn_31 : decode cX10_heldOn 31 = .ok (.if_icmp .ge 49, 3) := by decide +kernel
theorem dX10_heldOn_34 : decode cX10_heldOn 34 = .ok (.aload_n 0, 1) := by decide +kernel
theorem dX10_heldOn_35 : decode cX10_heldOn 35 = .ok (.getfield 22, 3) := by decide +kernel
theorem dX10_heldOn_38 : decode cX10_heldOn 38 = .ok (.iload_n 3, 1) := by decide +kernel
theorem dX10_heldOn_39 : decode cX10_heldOn 39 = .ok (.iaload, 1) := by decide +kernel
theorem dX10_heldOn_40 : decode cX10_heldOn 40 = .ok (.iload_n 1, 1) := by decide +kernel
theorem dX10_heldOn_41 : decode cX10_heldOn 41 = .ok (.if_icmp .gt 39, 3) := by decide +kernel
theorem dX10_heldOn_44 : decode cX10_heldOn 44 = .ok (.aload_n 0, 1) := by decide +kernel
theorem dX10_heldOn_45 : decode cX10_heldOn 45 = .ok (.getfield 15, 3) := by decide +kernel
theorem dX10_heldOn_48 : decode cX10_heldOn 48 = .ok (.iload_n 3, 1) := by decide +kernel
theorem dX10_heldOn_49 : decode cX10_heldOn 49 = .ok (.iaload, 1) := by decide +kernel
theorem dX10_heldOn_50 : decode cX10_heldOn 50 = .ok (.aload_n 2, 1) := by decide +kernel
theorem dX10_heldOn_51 : decode cX10_heldOn 51 = .ok (.arraylength, 1) := by decide +kernel
theorem dX10_heldOn_52 : decode cX10_heldOn 52 = .ok (.if_icmp .ge 22, 3) := by decide +kernel
theorem dX10_heldOn_55 : decode cX10_heldOn 55 = .ok (.aload_n 2, 1) := by decide +kernel
theorem dX10_heldOn_56 : decode cX10_heldOn 56 = .ok (.aload_n 0, 1) := by decide +kernel
theorem dX10_heldOn_57 : decode cX10_heldOn 57 = .ok (.getfield 15, 3) := by decide +kernel
theorem dX10_heldOn_60 : decode cX10_heldOn 60 = .ok (.iload_n 3, 1) := by decide +kernel
theorem dX10_heldOn_61 : decode cX10_heldOn 61 = .ok (.iaload, 1) := by decide +kernel
theorem dX10_heldOn_62 : decode cX10_heldOn 62 = .ok (.dup2, 1) := by decide +kernel
theorem dX10_heldOn_63 : decode cX10_heldOn 63 = .ok (.laload, 1) := by decide +kernel
theorem dX10_heldOn_64 : decode cX10_heldOn 64 = .ok (.lconst 1, 1) := by decide +kernel
theorem dX10_heldOn_65 : decode cX10_heldOn 65 = .ok (.aload_n 0, 1) := by decide +kernel
theorem dX10_heldOn_66 : decode cX10_heldOn 66 = .ok (.getfield 19, 3) := by decide +kernel
theorem dX10_heldOn_69 : decode cX10_heldOn 69 = .ok (.iload_n 3, 1) := by decide +kernel
theorem dX10_heldOn_70 : decode cX10_heldOn 70 = .ok (.iaload, 1) := by decide +kernel
theorem dX10_heldOn_71 : decode cX10_heldOn 71 = .ok (.lshl, 1) := by decide +kernel
theorem dX10_heldOn_72 : decode cX10_heldOn 72 = .ok (.lxor, 1) := by decide +kernel
theorem dX10_heldOn_73 : decode cX10_heldOn 73 = .ok (.lastore, 1) := by decide +kernel
theorem dX10_heldOn_74 : decode cX10_heldOn 74 = .ok (.iinc 3 1, 3) := by decide +kernel
theorem dX10_heldOn_77 : decode cX10_heldOn 77 = .ok (.goto (-51), 3) := by decide +kernel
theorem dX10_heldOn_80 : decode cX10_heldOn 80 = .ok (.return_, 1) := by decide +kernel
def lpX10_heldOn_2 (v1 : Int32) : Nat → Int32 → ST → (Int32 → ST → Option (Unit × ST)) → Option (Unit × ST)
  | 0, _, _, _ => none
  | n + 1, v3, k, cont => if 12 ≤ v3 then cont v3 k else if 12 ≤ v3 then cont v3 k else ck (inb v3 12) (nm (sL k 19 (ix v3) 0) fun k4 => lpX10_heldOn_2 v1 n (v3 + 1) k4 cont)
def lpX10_heldOn_26 (v1 : Int32) : Nat → Int32 → ST → (Int32 → ST → Option (Unit × ST)) → Option (Unit × ST)
  | 0, _, _, _ => none
  | n + 1, v3, k, cont => if (gI k 9 1) ≤ v3 then cont v3 k else ck (inb v3 512) (if v1 < (gA k 52 (ix v3)) then cont v3 k else ck (inb v3 512) (if 12 ≤ (gA k 50 (ix v3)) then lpX10_heldOn_26 v1 n (v3 + 1) k cont else ck (inb v3 512) (ck (inb (gA k 50 (ix v3)) 12) (ck (inb v3 512) (ck (inb (gA k 50 (ix v3)) 12) (nm (sL k 19 (ix (gA k 50 (ix v3))) ((gL k 19 (ix (gA k 50 (ix v3)))) ^^^ (j_lshl 1 (gA k 51 (ix v3))))) fun k16 => lpX10_heldOn_26 v1 n (v3 + 1) k16 cont))))))
set_option maxRecDepth 20000 in
theorem zlpX10_heldOn_2 {p : Program} {l : Launch} {e : Env} {R : Room} {s : State} {m : MethodId} {args : Array Value} {below : List Frame} {meth : Method} {c : Code} {g : GT} (hC : HC p s m args meth c cX10_heldOn 4 RX10 none g) (hR : 0 ≤ R.frames ∧ 0 ≤ R.locals) (v1 : Int32) {cont : Int32 → ST → Option (Unit × ST)} (hk : ∀ (v3 : Int32) (k : ST), ZF p l e R s m args below meth c g TK voV 4 k 24 [(0, .ref (g.2.1 9)), (1, .int v1), (2, .ref (g.2.1 31)), (3, .int v3)] [] (cont v3 k)) : ∀ (n : Nat) (v3 : Int32) (k : ST), ZF p l e R s m args below meth c g TK voV 4 k 2 [(0, .ref (g.2.1 9)), (1, .int v1), (2, .ref (g.2.1 31)), (3, .int v3)] [] (lpX10_heldOn_2 v1 n v3 k cont) := by
  intro n
  induction n with
  | zero => intros; exact zf_none
  | succ n ih =>
    intro v3 k
    rw [lpX10_heldOn_2]
    refine zf_iload_n hC dX10_heldOn_2 rfl 3 rfl ?_
    refine zf_bipush hC (v := 12) dX10_heldOn_3 rfl ?_
    refine zf_icmp_ge hC (tgt := 24) dX10_heldOn_5 (by decide) (fun h1 => ?_) (fun h1 => ?_)
    · refine zf_lv (LV' := [(0, .ref (g.2.1 9)), (1, .int v1), (2, .ref (g.2.1 31)), (3, .int v3)]) [0, 1, 2, 3] rfl ?_
      exact hk v3 k
    · refine zf_iload_n hC dX10_heldOn_8 rfl 3 rfl ?_
      refine zf_aload_n hC dX10_heldOn_9 rfl 2 rfl ?_
      refine zf_alen hC (j := 19) ia_19 (v := 12) rfl dX10_heldOn_10 ?_
      refine zf_icmp_ge hC (tgt := 24) dX10_heldOn_11 (by decide) (fun h2 => ?_) (fun h2 => ?_)
      · refine zf_lv (LV' := [(0, .ref (g.2.1 9)), (1, .int v1), (2, .ref (g.2.1 31)), (3, .int v3)]) [0, 1, 2, 3] rfl ?_
        exact hk v3 k
      · refine zf_aload_n hC dX10_heldOn_14 rfl 2 rfl ?_
        refine zf_iload_n hC dX10_heldOn_15 rfl 3 rfl ?_
        refine zf_lconst hC (v := 0) dX10_heldOn_16 rfl ?_
        refine zf_last hC (j := 19) ia_19 rfl rfl dX10_heldOn_17 (fun h3 => ?_)
        refine zf_nmk (fun k4 => ?_)
        refine zf_iinc hC (q := 3) (v := v3 + 1) (LV' := [(3, .int (v3 + 1)), (0, .ref (g.2.1 9)), (1, .int v1), (2, .ref (g.2.1 31))]) dX10_heldOn_18 rfl rfl (by decide) rfl ?_
        refine zf_goto hC (tgt := 2) dX10_heldOn_21 (by decide) ?_
        refine zf_lv (LV' := [(0, .ref (g.2.1 9)), (1, .int v1), (2, .ref (g.2.1 31)), (3, .int (v3 + 1))]) [1, 2, 3, 0] rfl ?_
        exact ih (v3 + 1) k4
set_option maxRecDepth 20000 in
theorem zlpX10_heldOn_26 {p : Program} {l : Launch} {e : Env} {R : Room} {s : State} {m : MethodId} {args : Array Value} {below : List Frame} {meth : Method} {c : Code} {g : GT} (hC : HC p s m args meth c cX10_heldOn 4 RX10 none g) (hR : 0 ≤ R.frames ∧ 0 ≤ R.locals) (v1 : Int32) {cont : Int32 → ST → Option (Unit × ST)} (hk : ∀ (v3 : Int32) (k : ST), ZF p l e R s m args below meth c g TK voV 4 k 80 [(0, .ref (g.2.1 9)), (1, .int v1), (2, .ref (g.2.1 31)), (3, .int v3)] [] (cont v3 k)) : ∀ (n : Nat) (v3 : Int32) (k : ST), ZF p l e R s m args below meth c g TK voV 4 k 26 [(0, .ref (g.2.1 9)), (1, .int v1), (2, .ref (g.2.1 31)), (3, .int v3)] [] (lpX10_heldOn_26 v1 n v3 k cont) := by
  intro n
  induction n with
  | zero => intros; exact zf_none
  | succ n ih =>
    intro v3 k
    rw [lpX10_heldOn_26]
    refine zf_iload_n hC dX10_heldOn_26 rfl 3 rfl ?_
    refine zf_aload_n hC dX10_heldOn_27 rfl 0 rfl ?_
    refine gf_98 hC dX10_heldOn_28 ?_
    refine zf_icmp_ge hC (tgt := 80) dX10_heldOn_31 (by decide) (fun h7 => ?_) (fun h7 => ?_)
    · refine zf_lv (LV' := [(0, .ref (g.2.1 9)), (1, .int v1), (2, .ref (g.2.1 31)), (3, .int v3)]) [0, 1, 2, 3] rfl ?_
      exact hk v3 k
    · refine zf_aload_n hC dX10_heldOn_34 rfl 0 rfl ?_
      refine gf_101 hC dX10_heldOn_35 ?_
      refine zf_iload_n hC dX10_heldOn_38 rfl 3 rfl ?_
      refine zf_iald hC (j := 52) ia_52 rfl rfl dX10_heldOn_39 (fun h8 => ?_)
      refine zf_iload_n hC dX10_heldOn_40 rfl 1 rfl ?_
      refine zf_icmp_gt hC (tgt := 80) dX10_heldOn_41 (by decide) (fun h9 => ?_) (fun h9 => ?_)
      · refine zf_lv (LV' := [(0, .ref (g.2.1 9)), (1, .int v1), (2, .ref (g.2.1 31)), (3, .int v3)]) [0, 1, 2, 3] rfl ?_
        exact hk v3 k
      · refine zf_aload_n hC dX10_heldOn_44 rfl 0 rfl ?_
        refine gf_99 hC dX10_heldOn_45 ?_
        refine zf_iload_n hC dX10_heldOn_48 rfl 3 rfl ?_
        refine zf_iald hC (j := 50) ia_50 rfl rfl dX10_heldOn_49 (fun h10 => ?_)
        refine zf_aload_n hC dX10_heldOn_50 rfl 2 rfl ?_
        refine zf_alen hC (j := 19) ia_19 (v := 12) rfl dX10_heldOn_51 ?_
        refine zf_icmp_ge hC (tgt := 74) dX10_heldOn_52 (by decide) (fun h11 => ?_) (fun h11 => ?_)
        · refine zf_iinc hC (q := 3) (v := v3 + 1) (LV' := [(3, .int (v3 + 1)), (0, .ref (g.2.1 9)), (1, .int v1), (2, .ref (g.2.1 31))]) dX10_heldOn_74 rfl rfl (by decide) rfl ?_
          refine zf_goto hC (tgt := 26) dX10_heldOn_77 (by decide) ?_
          refine zf_lv (LV' := [(0, .ref (g.2.1 9)), (1, .int v1), (2, .ref (g.2.1 31)), (3, .int (v3 + 1))]) [1, 2, 3, 0] rfl ?_
          exact ih (v3 + 1) k
        · refine zf_aload_n hC dX10_heldOn_55 rfl 2 rfl ?_
          refine zf_aload_n hC dX10_heldOn_56 rfl 0 rfl ?_
          refine gf_99 hC dX10_heldOn_57 ?_
          refine zf_iload_n hC dX10_heldOn_60 rfl 3 rfl ?_
          refine zf_iald hC (j := 50) ia_50 rfl rfl dX10_heldOn_61 (fun h12 => ?_)
          refine zf_dup2 hC dX10_heldOn_62 rfl rfl ?_
          refine zf_lald hC (j := 19) ia_19 rfl rfl dX10_heldOn_63 (fun h13 => ?_)
          refine zf_lconst hC (v := 1) dX10_heldOn_64 rfl ?_
          refine zf_aload_n hC dX10_heldOn_65 rfl 0 rfl ?_
          refine gf_100 hC dX10_heldOn_66 ?_
          refine zf_iload_n hC dX10_heldOn_69 rfl 3 rfl ?_
          refine zf_iald hC (j := 51) ia_51 rfl rfl dX10_heldOn_70 (fun h14 => ?_)
          refine zf_lshl hC dX10_heldOn_71 ?_
          refine zf_lxor hC dX10_heldOn_72 ?_
          refine zf_last hC (j := 19) ia_19 rfl rfl dX10_heldOn_73 (fun h15 => ?_)
          refine zf_nmk (fun k16 => ?_)
          refine zf_iinc hC (q := 3) (v := v3 + 1) (LV' := [(3, .int (v3 + 1)), (0, .ref (g.2.1 9)), (1, .int v1), (2, .ref (g.2.1 31))]) dX10_heldOn_74 rfl rfl (by decide) rfl ?_
          refine zf_goto hC (tgt := 26) dX10_heldOn_77 (by decide) ?_
          refine zf_lv (LV' := [(0, .ref (g.2.1 9)), (1, .int v1), (2, .ref (g.2.1 31)), (3, .int (v3 + 1))]) [1, 2, 3, 0] rfl ?_
          exact ih (v3 + 1) k16
def fX10_heldOn (k : ST) (a0 : Int32) : Option (Unit × ST) := lpX10_heldOn_2 a0 FU 0 k fun y5 k6 => lpX10_heldOn_26 a0 FU 0 k6 fun y17 k18 => some ((), k18)
set_option maxRecDepth 20000 in
theorem c_X10_heldOn (l : Launch) (g : GT) (a0 : Int32) : CN l yX10_heldOn cX10_heldOn 4 none { frames := 0, cells := 0, slots := 0, locals := 0 } g TK voV [.ref (g.2.1 9), .int a0, .ref (g.2.1 31)] (fun k => fX10_heldOn k a0) := by
  refine cn_of (by decide) (Nat.le_of_ble_eq_true rfl) ?_
  intro p e s m args below meth c hC k
  have hC : HC p s m args meth c cX10_heldOn 4 RX10 none g := hC
  have hR : 0 ≤ ({ frames := 0, cells := 0, slots := 0, locals := 0 } : Room).frames ∧ 0 ≤ ({ frames := 0, cells := 0, slots := 0, locals := 0 } : Room).locals := ⟨Nat.le_refl _, Nat.le_refl _⟩
  show ZF p l e _ s m args below meth c g TK voV 4 k 0 [(0, .ref (g.2.1 9)), (1, .int a0), (2, .ref (g.2.1 31))] [] (fX10_heldOn k a0)
  unfold fX10_heldOn
  refine zf_iconst hC (v := 0) dX10_heldOn_0 rfl ?_
  refine zf_istore_n hC (LV' := [(3, .int 0), (0, .ref (g.2.1 9)), (1, .int a0), (2, .ref (g.2.1 31))]) dX10_heldOn_1 rfl (by decide) rfl ?_
  refine zf_lv (LV' := [(0, .ref (g.2.1 9)), (1, .int a0), (2, .ref (g.2.1 31)), (3, .int 0)]) [1, 2, 3, 0] rfl ?_
  refine zlpX10_heldOn_2 hC hR a0 (fun y5 k6 => ?_) FU 0 k
  refine zf_iconst hC (v := 0) dX10_heldOn_24 rfl ?_
  refine zf_istore_n hC (LV' := [(3, .int 0), (0, .ref (g.2.1 9)), (1, .int a0), (2, .ref (g.2.1 31))]) dX10_heldOn_25 rfl (by decide) rfl ?_
  refine zf_lv (LV' := [(0, .ref (g.2.1 9)), (1, .int a0), (2, .ref (g.2.1 31)), (3, .int 0)]) [1, 2, 3, 0] rfl ?_
  refine zlpX10_heldOn_26 hC hR a0 (fun y17 k18 => ?_) FU 0 k6
  exact zf_vret hC rfl dX10_heldOn_80
/-! LifeKeys.Ties.isWrapOn -/
theorem dX10_isWrapOn_0 : decode cX10_isWrapOn 0 = .ok (.aload_n 0, 1) := by decide +kernel
theorem dX10_isWrapOn_1 : decode cX10_isWrapOn 1 = .ok (.getfield 31, 3) := by decide +kernel
theorem dX10_isWrapOn_4 : decode cX10_isWrapOn 4 = .ok (.iload_n 1, 1) := by decide +kernel
theorem dX10_isWrapOn_5 : decode cX10_isWrapOn 5 = .ok (.iaload, 1) := by decide +kernel
theorem dX10_isWrapOn_6 : decode cX10_isWrapOn 6 = .ok (.iload_n 2, 1) := by decide +kernel
theorem dX10_isWrapOn_7 : decode cX10_isWrapOn 7 = .ok (.if_icmp .gt 27, 3) := by decide +kernel
theorem dX10_isWrapOn_10 : decode cX10_isWrapOn 10 = .ok (.aload_n 0, 1) := by decide +kernel
theorem dX10_isWrapOn_11 : decode cX10_isWrapOn 11 = .ok (.getfield 34, 3) := by decide +kernel
theorem dX10_isWrapOn_14 : decode cX10_isWrapOn 14 = .ok (.iload_n 1, 1) := by decide +kernel
theorem dX10_isWrapOn_15 : decode cX10_isWrapOn 15 = .ok (.iaload, 1) := by decide +kernel
theorem dX10_isWrapOn_16 : decode cX10_isWrapOn 16 = .ok (.iconst (-1), 1) := by decide +kernel
theorem dX10_isWrapOn_17 : decode cX10_isWrapOn 17 = .ok (.if_icmp .eq 13, 3) := by decide +kernel
theorem dX10_isWrapOn_20 : decode cX10_isWrapOn 20 = .ok (.iload_n 2, 1) := by decide +kernel
theorem dX10_isWrapOn_21 : decode cX10_isWrapOn 21 = .ok (.aload_n 0, 1) := by decide +kernel
theorem dX10_isWrapOn_22 : decode cX10_isWrapOn 22 = .ok (.getfield 34, 3) := by decide +kernel
theorem dX10_isWrapOn_25 : decode cX10_isWrapOn 25 = .ok (.iload_n 1, 1) := by decide +kernel
theorem dX10_isWrapOn_26 : decode cX10_isWrapOn 26 = .ok (.iaload, 1) := by decide +kernel
theorem dX10_isWrapOn_27 : decode cX10_isWrapOn 27 = .ok (.if_icmp .ge 7, 3) := by decide +kernel
theorem dX10_isWrapOn_30 : decode cX10_isWrapOn 30 = .ok (.iconst 1, 1) := by decide +kernel
theorem dX10_isWrapOn_31 : decode cX10_isWrapOn 31 = .ok (.goto 4, 3) := by decide +kernel
theorem dX10_isWrapOn_34 : decode cX10_isWrapOn 34 = .ok (.iconst 0, 1) := by decide +kernel
theorem dX10_isWrapOn_35 : decode cX10_isWrapOn 35 = .ok (.ireturn, 1) := by decide +kernel
def fX10_isWrapOn (k : ST) (a0 : Int32) (a1 : Int32) : Option (Bool × ST) := ck (inb a0 40) (if a1 < (gA k 55 (ix a0)) then some (false, k) else ck (inb a0 40) (if (gA k 56 (ix a0)) = (-1) then some (true, k) else ck (inb a0 40) (if (gA k 56 (ix a0)) ≤ a1 then some (false, k) else some (true, k))))
set_option maxRecDepth 20000 in
theorem c_X10_isWrapOn (l : Launch) (g : GT) (a0 : Int32) (a1 : Int32) : CN l yX10_isWrapOn cX10_isWrapOn 3 (some .boolean) { frames := 0, cells := 0, slots := 0, locals := 0 } g TK voB [.ref (g.2.1 9), .int a0, .int a1] (fun k => fX10_isWrapOn k a0 a1) := by
  refine cn_of (by decide) (Nat.le_of_ble_eq_true rfl) ?_
  intro p e s m args below meth c hC k
  have hC : HC p s m args meth c cX10_isWrapOn 3 RX10 (some .boolean) g := hC
  have hR : 0 ≤ ({ frames := 0, cells := 0, slots := 0, locals := 0 } : Room).frames ∧ 0 ≤ ({ frames := 0, cells := 0, slots := 0, locals := 0 } : Room).locals := ⟨Nat.le_refl _, Nat.le_refl _⟩
  show ZF p l e _ s m args below meth c g TK voB 3 k 0 [(0, .ref (g.2.1 9)), (1, .int a0), (2, .int a1)] [] (fX10_isWrapOn k a0 a1)
  unfold fX10_isWrapOn
  refine zf_aload_n hC dX10_isWrapOn_0 rfl 0 rfl ?_
  refine gf_108 hC dX10_isWrapOn_1 ?_
  refine zf_iload_n hC dX10_isWrapOn_4 rfl 1 rfl ?_
  refine zf_iald hC (j := 55) ia_55 rfl rfl dX10_isWrapOn_5 (fun h1 => ?_)
  refine zf_iload_n hC dX10_isWrapOn_6 rfl 2 rfl ?_
  refine zf_icmp_gt hC (tgt := 34) dX10_isWrapOn_7 (by decide) (fun h2 => ?_) (fun h2 => ?_)
  · refine zf_iconst hC (v := 0) dX10_isWrapOn_34 rfl ?_
    exact zf_zret hC rfl false rfl dX10_isWrapOn_35
  · refine zf_aload_n hC dX10_isWrapOn_10 rfl 0 rfl ?_
    refine gf_109 hC dX10_isWrapOn_11 ?_
    refine zf_iload_n hC dX10_isWrapOn_14 rfl 1 rfl ?_
    refine zf_iald hC (j := 56) ia_56 rfl rfl dX10_isWrapOn_15 (fun h3 => ?_)
    refine zf_iconst hC (v := (-1)) dX10_isWrapOn_16 rfl ?_
    refine zf_icmp_eq hC (tgt := 30) dX10_isWrapOn_17 (by decide) (fun h4 => ?_) (fun h4 => ?_)
    · refine zf_iconst hC (v := 1) dX10_isWrapOn_30 rfl ?_
      refine zf_goto hC (tgt := 35) dX10_isWrapOn_31 (by decide) ?_
      exact zf_zret hC rfl true rfl dX10_isWrapOn_35
    · refine zf_iload_n hC dX10_isWrapOn_20 rfl 2 rfl ?_
      refine zf_aload_n hC dX10_isWrapOn_21 rfl 0 rfl ?_
      refine gf_109 hC dX10_isWrapOn_22 ?_
      refine zf_iload_n hC dX10_isWrapOn_25 rfl 1 rfl ?_
      refine zf_iald hC (j := 56) ia_56 rfl rfl dX10_isWrapOn_26 (fun h5 => ?_)
      refine zf_icmp_ge hC (tgt := 34) dX10_isWrapOn_27 (by decide) (fun h6 => ?_) (fun h6 => ?_)
      · refine zf_iconst hC (v := 0) dX10_isWrapOn_34 rfl ?_
        exact zf_zret hC rfl false rfl dX10_isWrapOn_35
      · refine zf_iconst hC (v := 1) dX10_isWrapOn_30 rfl ?_
        refine zf_goto hC (tgt := 35) dX10_isWrapOn_31 (by decide) ?_
        exact zf_zret hC rfl true rfl dX10_isWrapOn_35
/-! LifeKeys.Sayings.addRuleOfDeath -/
theorem dX6_addRuleOfDeath_0 : decode cX6_addRuleOfDeath 0 = .ok (.aload_n 0, 1) := by decide +kernel
theorem dX6_addRuleOfDeath_1 : decode cX6_addRuleOfDeath 1 = .ok (.getfield 40, 3) := by decide +kernel
theorem dX6_addRuleOfDeath_4 : decode cX6_addRuleOfDeath 4 = .ok (.bipush 40, 2) := by decide +kernel
theorem dX6_addRuleOfDeath_6 : decode cX6_addRuleOfDeath 6 = .ok (.if_icmp .lt 5, 3) := by decide +kernel
theorem dX6_addRuleOfDeath_9 : decode cX6_addRuleOfDeath 9 = .ok (.iconst 0, 1) := by decide +kernel
theorem dX6_addRuleOfDeath_10 : decode cX6_addRuleOfDeath 10 = .ok (.ireturn, 1) := by decide +kernel
theorem dX6_addRuleOfDeath_11 : decode cX6_addRuleOfDeath 11 = .ok (.aload_n 0, 1) := by decide +kernel
theorem dX6_addRuleOfDeath_12 : decode cX6_addRuleOfDeath 12 = .ok (.getfield 25, 3) := by decide +kernel
theorem dX6_addRuleOfDeath_15 : decode cX6_addRuleOfDeath 15 = .ok (.aload_n 0, 1) := by decide +kernel
theorem dX6_addRuleOfDeath_16 : decode cX6_addRuleOfDeath 16 = .ok (.getfield 40, 3) := by decide +kernel
theorem dX6_addRuleOfDeath_19 : decode cX6_addRuleOfDeath 19 = .ok (.iload_n 1, 1) := by decide +kernel
theorem dX6_addRuleOfDeath_20 : decode cX6_addRuleOfDeath 20 = .ok (.iastore, 1) := by decide +kernel
theorem dX6_addRuleOfDeath_21 : decode cX6_addRuleOfDeath 21 = .ok (.aload_n 0, 1) := by decide +kernel
theorem dX6_addRuleOfDeath_22 : decode cX6_addRuleOfDeath 22 = .ok (.getfield 28, 3) := by decide +kernel
theorem dX6_addRuleOfDeath_25 : decode cX6_addRuleOfDeath 25 = .ok (.aload_n 0, 1) := by decide +kernel
theorem dX6_addRuleOfDeath_26 : decode cX6_addRuleOfDeath 26 = .ok (.getfield 40, 3) := by decide +kernel
theorem dX6_addRuleOfDeath_29 : decode cX6_addRuleOfDeath 29 = .ok (.iload_n 2, 1) := by decide +kernel
theorem dX6_addRuleOfDeath_30 : decode cX6_addRuleOfDeath 30 = .ok (.iastore, 1) := by decide +kernel
theorem dX6_addRuleOfDeath_31 : decode cX6_addRuleOfDeath 31 = .ok (.aload_n 0, 1) := by decide +kernel
theorem dX6_addRuleOfDeath_32 : decode cX6_addRuleOfDeath 32 = .ok (.getfield 31, 3) := by decide +kernel
theorem dX6_addRuleOfDeath_35 : decode cX6_addRuleOfDeath 35 = .ok (.aload_n 0, 1) := by decide +kernel
theorem dX6_addRuleOfDeath_36 : decode cX6_addRuleOfDeath 36 = .ok (.getfield 40, 3) := by decide +kernel
theorem dX6_addRuleOfDeath_39 : decode cX6_addRuleOfDeath 39 = .ok (.iload_n 3, 1) := by decide +kernel
theorem dX6_addRuleOfDeath_40 : decode cX6_addRuleOfDeath 40 = .ok (.iastore, 1) := by decide +kernel
theorem dX6_addRuleOfDeath_41 : decode cX6_addRuleOfDeath 41 = .ok (.aload_n 0, 1) := by decide +kernel
theorem dX6_addRuleOfDeath_42 : decode cX6_addRuleOfDeath 42 = .ok (.dup, 1) := by decide +kernel
theorem dX6_addRuleOfDeath_43 : decode cX6_addRuleOfDeath 43 = .ok (.getfield 40, 3) := by decide +kernel
theorem dX6_addRuleOfDeath_46 : decode cX6_addRuleOfDeath 46 = .ok (.iconst 1, 1) := by decide +kernel
theorem dX6_addRuleOfDeath_47 : decode cX6_addRuleOfDeath 47 = .ok (.iadd, 1) := by decide +kernel
theorem dX6_addRuleOfDeath_48 : decode cX6_addRuleOfDeath 48 = .ok (.putfield 40, 3) := by decide +kernel
theorem dX6_addRuleOfDeath_51 : decode cX6_addRuleOfDeath 51 = .ok (.iconst 1, 1) := by decide +kernel
theorem dX6_addRuleOfDeath_52 : decode cX6_addRuleOfDeath 52 = .ok (.ireturn, 1) := by decide +kernel
def fX6_addRuleOfDeath (k : ST) (a0 : Int32) (a1 : Int32) (a2 : Int32) : Option (Bool × ST) := if (gI k 5 5) < 40 then ck (inb (gI k 5 5) 40) (nm (sA k 34 (ix (gI k 5 5)) a0) fun k3 => ck (inb (gI k3 5 5) 40) (nm (sA k3 35 (ix (gI k3 5 5)) a1) fun k5 => ck (inb (gI k5 5 5) 40) (nm (sA k5 36 (ix (gI k5 5 5)) a2) fun k7 => nm (sI k7 5 5 ((gI k7 5 5) + 1)) fun k8 => some (true, k8)))) else some (false, k)
set_option maxRecDepth 20000 in
theorem c_X6_addRuleOfDeath (l : Launch) (g : GT) (a0 : Int32) (a1 : Int32) (a2 : Int32) : CN l yX6_addRuleOfDeath cX6_addRuleOfDeath 4 (some .boolean) { frames := 0, cells := 0, slots := 0, locals := 0 } g TK voB [.ref (g.2.1 5), .int a0, .int a1, .int a2] (fun k => fX6_addRuleOfDeath k a0 a1 a2) := by
  refine cn_of (by decide) (Nat.le_of_ble_eq_true rfl) ?_
  intro p e s m args below meth c hC k
  have hC : HC p s m args meth c cX6_addRuleOfDeath 4 RX6 (some .boolean) g := hC
  have hR : 0 ≤ ({ frames := 0, cells := 0, slots := 0, locals := 0 } : Room).frames ∧ 0 ≤ ({ frames := 0, cells := 0, slots := 0, locals := 0 } : Room).locals := ⟨Nat.le_refl _, Nat.le_refl _⟩
  show ZF p l e _ s m args below meth c g TK voB 4 k 0 [(0, .ref (g.2.1 5)), (1, .int a0), (2, .int a1), (3, .int a2)] [] (fX6_addRuleOfDeath k a0 a1 a2)
  unfold fX6_addRuleOfDeath
  refine zf_aload_n hC dX6_addRuleOfDeath_0 rfl 0 rfl ?_
  refine gf_237 hC dX6_addRuleOfDeath_1 ?_
  refine zf_bipush hC (v := 40) dX6_addRuleOfDeath_4 rfl ?_
  refine zf_icmp_lt hC (tgt := 11) dX6_addRuleOfDeath_6 (by decide) (fun h1 => ?_) (fun h1 => ?_)
  · refine zf_aload_n hC dX6_addRuleOfDeath_11 rfl 0 rfl ?_
    refine gf_238 hC dX6_addRuleOfDeath_12 ?_
    refine zf_aload_n hC dX6_addRuleOfDeath_15 rfl 0 rfl ?_
    refine gf_237 hC dX6_addRuleOfDeath_16 ?_
    refine zf_iload_n hC dX6_addRuleOfDeath_19 rfl 1 rfl ?_
    refine zf_iast hC (j := 34) ia_34 rfl rfl dX6_addRuleOfDeath_20 (fun h2 => ?_)
    refine zf_nmk (fun k3 => ?_)
    refine zf_aload_n hC dX6_addRuleOfDeath_21 rfl 0 rfl ?_
    refine gf_239 hC dX6_addRuleOfDeath_22 ?_
    refine zf_aload_n hC dX6_addRuleOfDeath_25 rfl 0 rfl ?_
    refine gf_237 hC dX6_addRuleOfDeath_26 ?_
    refine zf_iload_n hC dX6_addRuleOfDeath_29 rfl 2 rfl ?_
    refine zf_iast hC (j := 35) ia_35 rfl rfl dX6_addRuleOfDeath_30 (fun h4 => ?_)
    refine zf_nmk (fun k5 => ?_)
    refine zf_aload_n hC dX6_addRuleOfDeath_31 rfl 0 rfl ?_
    refine gf_240 hC dX6_addRuleOfDeath_32 ?_
    refine zf_aload_n hC dX6_addRuleOfDeath_35 rfl 0 rfl ?_
    refine gf_237 hC dX6_addRuleOfDeath_36 ?_
    refine zf_iload_n hC dX6_addRuleOfDeath_39 rfl 3 rfl ?_
    refine zf_iast hC (j := 36) ia_36 rfl rfl dX6_addRuleOfDeath_40 (fun h6 => ?_)
    refine zf_nmk (fun k7 => ?_)
    refine zf_aload_n hC dX6_addRuleOfDeath_41 rfl 0 rfl ?_
    refine zf_dup hC dX6_addRuleOfDeath_42 rfl ?_
    refine gf_237 hC dX6_addRuleOfDeath_43 ?_
    refine zf_iconst hC (v := 1) dX6_addRuleOfDeath_46 rfl ?_
    refine zf_iadd hC dX6_addRuleOfDeath_47 ?_
    refine pf_237 hC dX6_addRuleOfDeath_48 ?_
    refine zf_nmk (fun k8 => ?_)
    refine zf_iconst hC (v := 1) dX6_addRuleOfDeath_51 rfl ?_
    exact zf_zret hC rfl true rfl dX6_addRuleOfDeath_52
  · refine zf_iconst hC (v := 0) dX6_addRuleOfDeath_9 rfl ?_
    exact zf_zret hC rfl false rfl dX6_addRuleOfDeath_10
/-! LifeKeys.Things.add -/
theorem dX9_add_0 : decode cX9_add 0 = .ok (.aload_n 0, 1) := by decide +kernel
theorem dX9_add_1 : decode cX9_add 1 = .ok (.getfield 28, 3) := by decide +kernel
theorem dX9_add_4 : decode cX9_add 4 = .ok (.bipush 40, 2) := by decide +kernel
theorem dX9_add_6 : decode cX9_add 6 = .ok (.if_icmp .lt 5, 3) := by decide +kernel
theorem dX9_add_9 : decode cX9_add 9 = .ok (.iconst (-1), 1) := by decide +kernel
theorem dX9_add_10 : decode cX9_add 10 = .ok (.ireturn, 1) := by decide +kernel
theorem dX9_add_11 : decode cX9_add 11 = .ok (.aload_n 0, 1) := by decide +kernel
theorem dX9_add_12 : decode cX9_add 12 = .ok (.getfield 11, 3) := by decide +kernel
theorem dX9_add_15 : decode cX9_add 15 = .ok (.aload_n 0, 1) := by decide +kernel
theorem dX9_add_16 : decode cX9_add 16 = .ok (.getfield 28, 3) := by decide +kernel
theorem dX9_add_19 : decode cX9_add 19 = .ok (.iload_n 1, 1) := by decide +kernel
theorem dX9_add_20 : decode cX9_add 20 = .ok (.iastore, 1) := by decide +kernel
theorem dX9_add_21 : decode cX9_add 21 = .ok (.aload_n 0, 1) := by decide +kernel
theorem dX9_add_22 : decode cX9_add 22 = .ok (.getfield 15, 3) := by decide +kernel
theorem dX9_add_25 : decode cX9_add 25 = .ok (.aload_n 0, 1) := by decide +kernel
theorem dX9_add_26 : decode cX9_add 26 = .ok (.getfield 28, 3) := by decide +kernel
theorem dX9_add_29 : decode cX9_add 29 = .ok (.iload_n 2, 1) := by decide +kernel
theorem dX9_add_30 : decode cX9_add 30 = .ok (.iastore, 1) := by decide +kernel
theorem dX9_add_31 : decode cX9_add 31 = .ok (.aload_n 0, 1) := by decide +kernel
theorem dX9_add_32 : decode cX9_add 32 = .ok (.getfield 18, 3) := by decide +kernel
theorem dX9_add_35 : decode cX9_add 35 = .ok (.aload_n 0, 1) := by decide +kernel
theorem dX9_add_36 : decode cX9_add 36 = .ok (.getfield 28, 3) := by decide +kernel
theorem dX9_add_39 : decode cX9_add 39 = .ok (.iload_n 3, 1) := by decide +kernel
theorem dX9_add_40 : decode cX9_add 40 = .ok (.bastore, 1) := by decide +kernel
theorem dX9_add_41 : decode cX9_add 41 = .ok (.aload_n 0, 1) := by decide +kernel
theorem dX9_add_42 : decode cX9_add 42 = .ok (.getfield 22, 3) := by decide +kernel
theorem dX9_add_45 : decode cX9_add 45 = .ok (.aload_n 0, 1) := by decide +kernel
theorem dX9_add_46 : decode cX9_add 46 = .ok (.getfield 28, 3) := by decide +kernel
theorem dX9_add_49 : decode cX9_add 49 = .ok (.iconst (-1), 1) := by decide +kernel
theorem dX9_add_50 : decode cX9_add 50 = .ok (.iastore, 1) := by decide +kernel
theorem dX9_add_51 : decode cX9_add 51 = .ok (.aload_n 0, 1) := by decide +kernel
theorem dX9_add_52 : decode cX9_add 52 = .ok (.dup, 1) := by decide +kernel
theorem dX9_add_53 : decode cX9_add 53 = .ok (.getfield 28, 3) := by decide +kernel
theorem dX9_add_56 : decode cX9_add 56 = .ok (.iconst 1, 1) := by decide +kernel
theorem dX9_add_57 : decode cX9_add 57 = .ok (.iadd, 1) := by decide +kernel
theorem dX9_add_58 : decode cX9_add 58 = .ok (.putfield 28, 3) := by decide +kernel
theorem dX9_add_61 : decode cX9_add 61 = .ok (.aload_n 0, 1) := by decide +kernel
theorem dX9_add_62 : decode cX9_add 62 = .ok (.getfield 28, 3) := by decide +kernel
theorem dX9_add_65 : decode cX9_add 65 = .ok (.iconst 1, 1) := by decide +kernel
theorem dX9_add_66 : decode cX9_add 66 = .ok (.isub, 1) := by decide +kernel
theorem dX9_add_67 : decode cX9_add 67 = .ok (.ireturn, 1) := by decide +kernel
def fX9_add (k : ST) (a0 : Int32) (a1 : Int32) (a2 : Bool) : Option (Int32 × ST) := if (gI k 8 0) < 40 then ck (inb (gI k 8 0) 40) (nm (sA k 44 (ix (gI k 8 0)) a0) fun k3 => ck (inb (gI k3 8 0) 40) (nm (sA k3 45 (ix (gI k3 8 0)) a1) fun k5 => ck (inb (gI k5 8 0) 40) (nm (sA k5 46 (ix (gI k5 8 0)) (b2i a2)) fun k7 => ck (inb (gI k7 8 0) 40) (nm (sA k7 47 (ix (gI k7 8 0)) (-1)) fun k9 => nm (sI k9 8 0 ((gI k9 8 0) + 1)) fun k10 => some ((gI k10 8 0) - 1, k10))))) else some ((-1), k)
set_option maxRecDepth 20000 in
theorem c_X9_add (l : Launch) (g : GT) (a0 : Int32) (a1 : Int32) (a2 : Bool) : CN l yX9_add cX9_add 4 (some .int) { frames := 0, cells := 0, slots := 0, locals := 0 } g TK voI [.ref (g.2.1 8), .int a0, .int a1, .int (b2i a2)] (fun k => fX9_add k a0 a1 a2) := by
  refine cn_of (by decide) (Nat.le_of_ble_eq_true rfl) ?_
  intro p e s m args below meth c hC k
  have hC : HC p s m args meth c cX9_add 4 RX9 (some .int) g := hC
  have hR : 0 ≤ ({ frames := 0, cells := 0, slots := 0, locals := 0 } : Room).frames ∧ 0 ≤ ({ frames := 0, cells := 0, slots := 0, locals := 0 } : Room).locals := ⟨Nat.le_refl _, Nat.le_refl _⟩
  show ZF p l e _ s m args below meth c g TK voI 4 k 0 [(0, .ref (g.2.1 8)), (1, .int a0), (2, .int a1), (3, .int (b2i a2))] [] (fX9_add k a0 a1 a2)
  unfold fX9_add
  refine zf_aload_n hC dX9_add_0 rfl 0 rfl ?_
  refine gf_266 hC dX9_add_1 ?_
  refine zf_bipush hC (v := 40) dX9_add_4 rfl ?_
  refine zf_icmp_lt hC (tgt := 11) dX9_add_6 (by decide) (fun h1 => ?_) (fun h1 => ?_)
  · refine zf_aload_n hC dX9_add_11 rfl 0 rfl ?_
    refine gf_268 hC dX9_add_12 ?_
    refine zf_aload_n hC dX9_add_15 rfl 0 rfl ?_
    refine gf_266 hC dX9_add_16 ?_
    refine zf_iload_n hC dX9_add_19 rfl 1 rfl ?_
    refine zf_iast hC (j := 44) ia_44 rfl rfl dX9_add_20 (fun h2 => ?_)
    refine zf_nmk (fun k3 => ?_)
    refine zf_aload_n hC dX9_add_21 rfl 0 rfl ?_
    refine gf_270 hC dX9_add_22 ?_
    refine zf_aload_n hC dX9_add_25 rfl 0 rfl ?_
    refine gf_266 hC dX9_add_26 ?_
    refine zf_iload_n hC dX9_add_29 rfl 2 rfl ?_
    refine zf_iast hC (j := 45) ia_45 rfl rfl dX9_add_30 (fun h4 => ?_)
    refine zf_nmk (fun k5 => ?_)
    refine zf_aload_n hC dX9_add_31 rfl 0 rfl ?_
    refine gf_272 hC dX9_add_32 ?_
    refine zf_aload_n hC dX9_add_35 rfl 0 rfl ?_
    refine gf_266 hC dX9_add_36 ?_
    refine zf_iload_n hC dX9_add_39 rfl 3 rfl ?_
    refine zf_zast hC (j := 46) ia_46 rfl rfl (nar_b _) dX9_add_40 (fun h6 => ?_)
    refine zf_nmk (fun k7 => ?_)
    refine zf_aload_n hC dX9_add_41 rfl 0 rfl ?_
    refine gf_273 hC dX9_add_42 ?_
    refine zf_aload_n hC dX9_add_45 rfl 0 rfl ?_
    refine gf_266 hC dX9_add_46 ?_
    refine zf_iconst hC (v := (-1)) dX9_add_49 rfl ?_
    refine zf_iast hC (j := 47) ia_47 rfl rfl dX9_add_50 (fun h8 => ?_)
    refine zf_nmk (fun k9 => ?_)
    refine zf_aload_n hC dX9_add_51 rfl 0 rfl ?_
    refine zf_dup hC dX9_add_52 rfl ?_
    refine gf_266 hC dX9_add_53 ?_
    refine zf_iconst hC (v := 1) dX9_add_56 rfl ?_
    refine zf_iadd hC dX9_add_57 ?_
    refine pf_266 hC dX9_add_58 ?_
    refine zf_nmk (fun k10 => ?_)
    refine zf_aload_n hC dX9_add_61 rfl 0 rfl ?_
    refine gf_266 hC dX9_add_62 ?_
    refine zf_iconst hC (v := 1) dX9_add_65 rfl ?_
    refine zf_isub hC dX9_add_66 ?_
    exact zf_iret hC rfl dX9_add_67
  · refine zf_iconst hC (v := (-1)) dX9_add_9 rfl ?_
    exact zf_iret hC rfl dX9_add_10
/-! LifeKeys.Things.knows -/
theorem dX9_knows_0 : decode cX9_knows 0 = .ok (.iload_n 1, 1) := by decide +kernel
theorem dX9_knows_1 : decode cX9_knows 1 = .ok (.ifCond .lt 15, 3) := by decide +kernel
theorem dX9_knows_4 : decode cX9_knows 4 = .ok (.iload_n 1, 1) := by decide +kernel
theorem dX9_knows_5 : decode cX9_knows 5 = .ok (.aload_n 0, 1) := by decide +kernel
theorem dX9_knows_6 : decode cX9_knows 6 = .ok (.getfield 28, 3) := by decide +kernel
theorem dX9_knows_9 : decode cX9_knows 9 = .ok (.if_icmp .ge 7, 3) := by decide +kernel
theorem dX9_knows_12 : decode cX9_knows 12 = .ok (.iconst 1, 1) := by decide +kernel
theorem dX9_knows_13 : decode cX9_knows 13 = .ok (.goto 4, 3) := by decide +kernel
theorem dX9_knows_16 : decode cX9_knows 16 = .ok (.iconst 0, 1) := by decide +kernel
theorem dX9_knows_17 : decode cX9_knows 17 = .ok (.ireturn, 1) := by decide +kernel
def fX9_knows (k : ST) (a0 : Int32) : Option (Bool × ST) := if a0 < 0 then some (false, k) else if (gI k 8 0) ≤ a0 then some (false, k) else some (true, k)
set_option maxRecDepth 20000 in
theorem c_X9_knows (l : Launch) (g : GT) (a0 : Int32) : CN l yX9_knows cX9_knows 2 (some .boolean) { frames := 0, cells := 0, slots := 0, locals := 0 } g TK voB [.ref (g.2.1 8), .int a0] (fun k => fX9_knows k a0) := by
  refine cn_of (by decide) (Nat.le_of_ble_eq_true rfl) ?_
  intro p e s m args below meth c hC k
  have hC : HC p s m args meth c cX9_knows 2 RX9 (some .boolean) g := hC
  have hR : 0 ≤ ({ frames := 0, cells := 0, slots := 0, locals := 0 } : Room).frames ∧ 0 ≤ ({ frames := 0, cells := 0, slots := 0, locals := 0 } : Room).locals := ⟨Nat.le_refl _, Nat.le_refl _⟩
  show ZF p l e _ s m args below meth c g TK voB 2 k 0 [(0, .ref (g.2.1 8)), (1, .int a0)] [] (fX9_knows k a0)
  unfold fX9_knows
  refine zf_iload_n hC dX9_knows_0 rfl 1 rfl ?_
  refine zf_if_lt hC (tgt := 16) dX9_knows_1 (by decide) (fun h1 => ?_) (fun h1 => ?_)
  · refine zf_iconst hC (v := 0) dX9_knows_16 rfl ?_
    exact zf_zret hC rfl false rfl dX9_knows_17
  · refine zf_iload_n hC dX9_knows_4 rfl 1 rfl ?_
    refine zf_aload_n hC dX9_knows_5 rfl 0 rfl ?_
    refine gf_266 hC dX9_knows_6 ?_
    refine zf_icmp_ge hC (tgt := 16) dX9_knows_9 (by decide) (fun h2 => ?_) (fun h2 => ?_)
    · refine zf_iconst hC (v := 0) dX9_knows_16 rfl ?_
      exact zf_zret hC rfl false rfl dX9_knows_17
    · refine zf_iconst hC (v := 1) dX9_knows_12 rfl ?_
      refine zf_goto hC (tgt := 17) dX9_knows_13 (by decide) ?_
      exact zf_zret hC rfl true rfl dX9_knows_17
/-! LifeKeys.Sayings.add -/
theorem dX6_add_0 : decode cX6_add 0 = .ok (.aload_n 0, 1) := by decide +kernel
theorem dX6_add_1 : decode cX6_add 1 = .ok (.getfield 36, 3) := by decide +kernel
theorem dX6_add_4 : decode cX6_add 4 = .ok (.sipush 200, 3) := by decide +kernel
theorem dX6_add_7 : decode cX6_add 7 = .ok (.if_icmp .lt 5, 3) := by decide +kernel
theorem dX6_add_10 : decode cX6_add 10 = .ok (.iconst 0, 1) := by decide +kernel
theorem dX6_add_11 : decode cX6_add 11 = .ok (.ireturn, 1) := by decide +kernel
theorem dX6_add_12 : decode cX6_add 12 = .ok (.aload_n 0, 1) := by decide +kernel
theorem dX6_add_13 : decode cX6_add 13 = .ok (.getfield 11, 3) := by decide +kernel
theorem dX6_add_16 : decode cX6_add 16 = .ok (.aload_n 0, 1) := by decide +kernel
theorem dX6_add_17 : decode cX6_add 17 = .ok (.getfield 36, 3) := by decide +kernel
theorem dX6_add_20 : decode cX6_add 20 = .ok (.iload_n 1, 1) := by decide +kernel
theorem dX6_add_21 : decode cX6_add 21 = .ok (.iastore, 1) := by decide +kernel
theorem dX6_add_22 : decode cX6_add 22 = .ok (.aload_n 0, 1) := by decide +kernel
theorem dX6_add_23 : decode cX6_add 23 = .ok (.getfield 15, 3) := by decide +kernel
theorem dX6_add_26 : decode cX6_add 26 = .ok (.aload_n 0, 1) := by decide +kernel
theorem dX6_add_27 : decode cX6_add 27 = .ok (.getfield 36, 3) := by decide +kernel
theorem dX6_add_30 : decode cX6_add 30 = .ok (.iload_n 2, 1) := by decide +kernel
theorem dX6_add_31 : decode cX6_add 31 = .ok (.iastore, 1) := by decide +kernel
theorem dX6_add_32 : decode cX6_add 32 = .ok (.aload_n 0, 1) := by decide +kernel
theorem dX6_add_33 : decode cX6_add 33 = .ok (.getfield 18, 3) := by decide +kernel
theorem dX6_add_36 : decode cX6_add 36 = .ok (.aload_n 0, 1) := by decide +kernel
theorem dX6_add_37 : decode cX6_add 37 = .ok (.getfield 36, 3) := by decide +kernel
theorem dX6_add_40 : decode cX6_add 40 = .ok (.iload_n 3, 1) := by decide +kernel
theorem dX6_add_41 : decode cX6_add 41 = .ok (.bastore, 1) := by decide +kernel
theorem dX6_add_42 : decode cX6_add 42 = .ok (.aload_n 0, 1) := by decide +kernel
theorem dX6_add_43 : decode cX6_add 43 = .ok (.getfield 22, 3) := by decide +kernel
theorem dX6_add_46 : decode cX6_add 46 = .ok (.aload_n 0, 1) := by decide +kernel
theorem dX6_add_47 : decode cX6_add 47 = .ok (.getfield 36, 3) := by decide +kernel
theorem dX6_add_50 : decode cX6_add 50 = .ok (.iload 4, 2) := by decide +kernel
theorem dX6_add_52 : decode cX6_add 52 = .ok (.iastore, 1) := by decide +kernel
theorem dX6_add_53 : decode cX6_add 53 = .ok (.aload_n 0, 1) := by decide +kernel
theorem dX6_add_54 : decode cX6_add 54 = .ok (.dup, 1) := by decide +kernel
theorem dX6_add_55 : decode cX6_add 55 = .ok (.getfield 36, 3) := by decide +kernel
theorem dX6_add_58 : decode cX6_add 58 = .ok (.iconst 1, 1) := by decide +kernel
theorem dX6_add_59 : decode cX6_add 59 = .ok (.iadd, 1) := by decide +kernel
theorem dX6_add_60 : decode cX6_add 60 = .ok (.putfield 36, 3) := by decide +kernel
theorem dX6_add_63 : decode cX6_add 63 = .ok (.iconst 1, 1) := by decide +kernel
theorem dX6_add_64 : decode cX6_add 64 = .ok (.ireturn, 1) := by decide +kernel
def fX6_add (k : ST) (a0 : Int32) (a1 : Int32) (a2 : Bool) (a3 : Int32) : Option (Bool × ST) := if (gI k 5 0) < 200 then ck (inb (gI k 5 0) 200) (nm (sA k 30 (ix (gI k 5 0)) a0) fun k3 => ck (inb (gI k3 5 0) 200) (nm (sA k3 31 (ix (gI k3 5 0)) a1) fun k5 => ck (inb (gI k5 5 0) 200) (nm (sA k5 32 (ix (gI k5 5 0)) (b2i a2)) fun k7 => ck (inb (gI k7 5 0) 200) (nm (sA k7 33 (ix (gI k7 5 0)) a3) fun k9 => nm (sI k9 5 0 ((gI k9 5 0) + 1)) fun k10 => some (true, k10))))) else some (false, k)
set_option maxRecDepth 20000 in
theorem c_X6_add (l : Launch) (g : GT) (a0 : Int32) (a1 : Int32) (a2 : Bool) (a3 : Int32) : CN l yX6_add cX6_add 5 (some .boolean) { frames := 0, cells := 0, slots := 0, locals := 0 } g TK voB [.ref (g.2.1 5), .int a0, .int a1, .int (b2i a2), .int a3] (fun k => fX6_add k a0 a1 a2 a3) := by
  refine cn_of (by decide) (Nat.le_of_ble_eq_true rfl) ?_
  intro p e s m args below meth c hC k
  have hC : HC p s m args meth c cX6_add 5 RX6 (some .boolean) g := hC
  have hR : 0 ≤ ({ frames := 0, cells := 0, slots := 0, locals := 0 } : Room).frames ∧ 0 ≤ ({ frames := 0, cells := 0, slots := 0, locals := 0 } : Room).locals := ⟨Nat.le_refl _, Nat.le_refl _⟩
  show ZF p l e _ s m args below meth c g TK voB 5 k 0 [(0, .ref (g.2.1 5)), (1, .int a0), (2, .int a1), (3, .int (b2i a2)), (4, .int a3)] [] (fX6_add k a0 a1 a2 a3)
  unfold fX6_add
  refine zf_aload_n hC dX6_add_0 rfl 0 rfl ?_
  refine gf_231 hC dX6_add_1 ?_
  refine zf_sipush hC (v := 200) dX6_add_4 rfl ?_
  refine zf_icmp_lt hC (tgt := 12) dX6_add_7 (by decide) (fun h1 => ?_) (fun h1 => ?_)
  · refine zf_aload_n hC dX6_add_12 rfl 0 rfl ?_
    refine gf_233 hC dX6_add_13 ?_
    refine zf_aload_n hC dX6_add_16 rfl 0 rfl ?_
    refine gf_231 hC dX6_add_17 ?_
    refine zf_iload_n hC dX6_add_20 rfl 1 rfl ?_
    refine zf_iast hC (j := 30) ia_30 rfl rfl dX6_add_21 (fun h2 => ?_)
    refine zf_nmk (fun k3 => ?_)
    refine zf_aload_n hC dX6_add_22 rfl 0 rfl ?_
    refine gf_234 hC dX6_add_23 ?_
    refine zf_aload_n hC dX6_add_26 rfl 0 rfl ?_
    refine gf_231 hC dX6_add_27 ?_
    refine zf_iload_n hC dX6_add_30 rfl 2 rfl ?_
    refine zf_iast hC (j := 31) ia_31 rfl rfl dX6_add_31 (fun h4 => ?_)
    refine zf_nmk (fun k5 => ?_)
    refine zf_aload_n hC dX6_add_32 rfl 0 rfl ?_
    refine gf_235 hC dX6_add_33 ?_
    refine zf_aload_n hC dX6_add_36 rfl 0 rfl ?_
    refine gf_231 hC dX6_add_37 ?_
    refine zf_iload_n hC dX6_add_40 rfl 3 rfl ?_
    refine zf_zast hC (j := 32) ia_32 rfl rfl (nar_b _) dX6_add_41 (fun h6 => ?_)
    refine zf_nmk (fun k7 => ?_)
    refine zf_aload_n hC dX6_add_42 rfl 0 rfl ?_
    refine gf_236 hC dX6_add_43 ?_
    refine zf_aload_n hC dX6_add_46 rfl 0 rfl ?_
    refine gf_231 hC dX6_add_47 ?_
    refine zf_iload hC dX6_add_50 4 rfl ?_
    refine zf_iast hC (j := 33) ia_33 rfl rfl dX6_add_52 (fun h8 => ?_)
    refine zf_nmk (fun k9 => ?_)
    refine zf_aload_n hC dX6_add_53 rfl 0 rfl ?_
    refine zf_dup hC dX6_add_54 rfl ?_
    refine gf_231 hC dX6_add_55 ?_
    refine zf_iconst hC (v := 1) dX6_add_58 rfl ?_
    refine zf_iadd hC dX6_add_59 ?_
    refine pf_231 hC dX6_add_60 ?_
    refine zf_nmk (fun k10 => ?_)
    refine zf_iconst hC (v := 1) dX6_add_63 rfl ?_
    exact zf_zret hC rfl true rfl dX6_add_64
  · refine zf_iconst hC (v := 0) dX6_add_10 rfl ?_
    exact zf_zret hC rfl false rfl dX6_add_11
/-! LifeKeys.Sayings.deathOf -/
theorem dX6_deathOf_0 : decode cX6_deathOf 0 = .ok (.bipush 40, 2) := by decide +kernel
theorem dX6_deathOf_2 : decode cX6_deathOf 2 = .ok (.iload_n 0, 1) := by decide +kernel
theorem dX6_deathOf_3 : decode cX6_deathOf 3 = .ok (.iadd, 1) := by decide +kernel
theorem dX6_deathOf_4 : decode cX6_deathOf 4 = .ok (.ireturn, 1) := by decide +kernel
def fX6_deathOf (k : ST) (a0 : Int32) : Option (Int32 × ST) := some (40 + a0, k)
set_option maxRecDepth 20000 in
theorem c_X6_deathOf (l : Launch) (g : GT) (T : TT) (a0 : Int32) : CN l yX6_deathOf cX6_deathOf 1 (some .int) { frames := 0, cells := 0, slots := 0, locals := 0 } g T voI [.int a0] (fun k => fX6_deathOf k a0) := by
  refine cn_of (by decide) (Nat.le_of_ble_eq_true rfl) ?_
  intro p e s m args below meth c hC k
  have hC : HC p s m args meth c cX6_deathOf 1 RX6 (some .int) g := hC
  have hR : 0 ≤ ({ frames := 0, cells := 0, slots := 0, locals := 0 } : Room).frames ∧ 0 ≤ ({ frames := 0, cells := 0, slots := 0, locals := 0 } : Room).locals := ⟨Nat.le_refl _, Nat.le_refl _⟩
  show ZF p l e _ s m args below meth c g T voI 1 k 0 [(0, .int a0)] [] (fX6_deathOf k a0)
  unfold fX6_deathOf
  refine zf_bipush hC (v := 40) dX6_deathOf_0 rfl ?_
  refine zf_iload_n hC dX6_deathOf_2 rfl 0 rfl ?_
  refine zf_iadd hC dX6_deathOf_3 ?_
  exact zf_iret hC rfl dX6_deathOf_4
/-! LifeKeys.Things.isByRule -/
theorem dX9_isByRule_0 : decode cX9_isByRule 0 = .ok (.aload_n 0, 1) := by decide +kernel
theorem dX9_isByRule_1 : decode cX9_isByRule 1 = .ok (.iload_n 1, 1) := by decide +kernel
theorem dX9_isByRule_2 : decode cX9_isByRule 2 = .ok (.invokevirtual 32, 3) := by decide +kernel
theorem dX9_isByRule_5 : decode cX9_isByRule 5 = .ok (.ifCond .eq 16, 3) := by decide +kernel
theorem dX9_isByRule_8 : decode cX9_isByRule 8 = .ok (.aload_n 0, 1) := by decide +kernel
theorem dX9_isByRule_9 : decode cX9_isByRule 9 = .ok (.getfield 18, 3) := by decide +kernel
theorem dX9_isByRule_12 : decode cX9_isByRule 12 = .ok (.iload_n 1, 1) := by decide +kernel
theorem dX9_isByRule_13 : decode cX9_isByRule 13 = .ok (.baload, 1) := by decide +kernel
theorem dX9_isByRule_14 : decode cX9_isByRule 14 = .ok (.ifCond .eq 7, 3) := by decide +kernel
theorem dX9_isByRule_17 : decode cX9_isByRule 17 = .ok (.iconst 1, 1) := by decide +kernel
theorem dX9_isByRule_18 : decode cX9_isByRule 18 = .ok (.goto 4, 3) := by decide +kernel
theorem dX9_isByRule_21 : decode cX9_isByRule 21 = .ok (.iconst 0, 1) := by decide +kernel
theorem dX9_isByRule_22 : decode cX9_isByRule 22 = .ok (.ireturn, 1) := by decide +kernel
def fX9_isByRule (k : ST) (a0 : Int32) : Option (Bool × ST) := ob (fX9_knows k a0) fun r1 k2 => if r1 = true then ck (inb a0 40) (if (gA k2 46 (ix a0)) = 0 then some (false, k2) else some (true, k2)) else some (false, k2)
set_option maxRecDepth 20000 in
theorem c_X9_isByRule (l : Launch) (g : GT) (a0 : Int32) : CN l yX9_isByRule cX9_isByRule 2 (some .boolean) { frames := 1, cells := 0, slots := 0, locals := 21 } g TK voB [.ref (g.2.1 8), .int a0] (fun k => fX9_isByRule k a0) := by
  refine cn_of (by decide) (Nat.le_of_ble_eq_true rfl) ?_
  intro p e s m args below meth c hC k
  have hC : HC p s m args meth c cX9_isByRule 2 RX9 (some .boolean) g := hC
  have hR : 1 ≤ ({ frames := 1, cells := 0, slots := 0, locals := 21 } : Room).frames ∧ 21 ≤ ({ frames := 1, cells := 0, slots := 0, locals := 21 } : Room).locals := ⟨Nat.le_refl _, Nat.le_refl _⟩
  show ZF p l e _ s m args below meth c g TK voB 2 k 0 [(0, .ref (g.2.1 8)), (1, .int a0)] [] (fX9_isByRule k a0)
  unfold fX9_isByRule
  refine zf_aload_n hC dX9_isByRule_0 rfl 0 rfl ?_
  refine zf_iload_n hC dX9_isByRule_1 rfl 1 rfl ?_
  refine zf_callV hC (c_X9_knows l g a0) mt_X9_knows wd_843 wd_844 ci_8 ic_8 wd_869 rfl (rm_le hR rfl) rfl rfl (rest := []) rfl (Nat.le_of_ble_eq_true rfl) dX9_isByRule_2 (fun r1 k2 h3 => ?_)
  refine zf_ifb_eq hC (tgt := 21) dX9_isByRule_5 (by decide) (fun h4 => ?_) (fun h4 => ?_)
  · refine zf_aload_n hC dX9_isByRule_8 rfl 0 rfl ?_
    refine gf_272 hC dX9_isByRule_9 ?_
    refine zf_iload_n hC dX9_isByRule_12 rfl 1 rfl ?_
    refine zf_zald hC (j := 46) ia_46 rfl rfl dX9_isByRule_13 (fun h5 => ?_)
    refine zf_if_eq hC (tgt := 21) dX9_isByRule_14 (by decide) (fun h6 => ?_) (fun h6 => ?_)
    · refine zf_iconst hC (v := 0) dX9_isByRule_21 rfl ?_
      exact zf_zret hC rfl false rfl dX9_isByRule_22
    · refine zf_iconst hC (v := 1) dX9_isByRule_17 rfl ?_
      refine zf_goto hC (tgt := 22) dX9_isByRule_18 (by decide) ?_
      exact zf_zret hC rfl true rfl dX9_isByRule_22
  · refine zf_iconst hC (v := 0) dX9_isByRule_21 rfl ?_
    exact zf_zret hC rfl false rfl dX9_isByRule_22
/-! LifeKeys.Sayings.ruleOfDeath -/
theorem dX6_ruleOfDeath_0 : decode cX6_ruleOfDeath 0 = .ok (.aload_n 0, 1) := by decide +kernel
theorem dX6_ruleOfDeath_1 : decode cX6_ruleOfDeath 1 = .ok (.getfield 40, 3) := by decide +kernel
theorem dX6_ruleOfDeath_4 : decode cX6_ruleOfDeath 4 = .ok (.iconst 1, 1) := by decide +kernel
theorem dX6_ruleOfDeath_5 : decode cX6_ruleOfDeath 5 = .ok (.isub, 1) := by decide +kernel
theorem dX6_ruleOfDeath_6 : decode cX6_ruleOfDeath 6 = .ok (.istore_n 3, 1) := by decide +kernel
theorem dX6_ruleOfDeath_7 : decode cX6_ruleOfDeath 7 = .ok (.iload_n 3, 1) := by decide +kernel
theorem dX6_ruleOfDeath_8 : decode cX6_ruleOfDeath 8 = .ok (.ifCond .lt 36, 3) := by decide +kernel
theorem dX6_ruleOfDeath_11 : decode cX6_ruleOfDeath 11 = .ok (.aload_n 0, 1) := by decide +kernel
theorem dX6_ruleOfDeath_12 : decode cX6_ruleOfDeath 12 = .ok (.getfield 25, 3) := by decide +kernel
theorem dX6_ruleOfDeath_15 : decode cX6_ruleOfDeath 15 = .ok (.iload_n 3, 1) := by decide +kernel
theorem dX6_ruleOfDeath_16 : decode cX6_ruleOfDeath 16 = .ok (.iaload, 1) := by decide +kernel
theorem dX6_ruleOfDeath_17 : decode cX6_ruleOfDeath 17 = .ok (.iload_n 1, 1) := by decide +kernel
theorem dX6_ruleOfDeath_18 : decode cX6_ruleOfDeath 18 = .ok (.if_icmp .ne 20, 3) := by decide +kernel
theorem dX6_ruleOfDeath_21 : decode cX6_ruleOfDeath 21 = .ok (.aload_n 0, 1) := by decide +kernel
theorem dX6_ruleOfDeath_22 : decode cX6_ruleOfDeath 22 = .ok (.getfield 31, 3) := by decide +kernel
theorem dX6_ruleOfDeath_25 : decode cX6_ruleOfDeath 25 = .ok (.iload_n 3, 1) := by decide +kernel
theorem dX6_ruleOfDeath_26 : decode cX6_ruleOfDeath 26 = .ok (.iaload, 1) := by decide +kernel
theorem dX6_ruleOfDeath_27 : decode cX6_ruleOfDeath 27 = .ok (.iload_n 2, 1) := by decide +kernel
theorem dX6_ruleOfDeath_28 : decode cX6_ruleOfDeath 28 = .ok (.if_icmp .gt 10, 3) := by decide +kernel
theorem dX6_ruleOfDeath_31 : decode cX6_ruleOfDeath 31 = .ok (.aload_n 0, 1) := by decide +kernel
theorem dX6_ruleOfDeath_32 : decode cX6_ruleOfDeath 32 = .ok (.getfield 28, 3) := by decide +kernel
theorem dX6_ruleOfDeath_35 : decode cX6_ruleOfDeath 35 = .ok (.iload_n 3, 1) := by decide +kernel
theorem dX6_ruleOfDeath_36 : decode cX6_ruleOfDeath 36 = .ok (.iaload, 1) := by decide +kernel
theorem dX6_ruleOfDeath_37 : decode cX6_ruleOfDeath 37 = .ok (.ireturn, 1) := by decide +kernel
theorem dX6_ruleOfDeath_38 : decode cX6_ruleOfDeath 38 = .ok (.iinc 3 (-1), 3) := by decide +kernel
theorem dX6_ruleOfDeath_41 : decode cX6_ruleOfDeath 41 = .ok (.goto (-34), 3) := by decide +kernel
theorem dX6_ruleOfDeath_44 : decode cX6_ruleOfDeath 44 = .ok (.iconst (-1), 1) := by decide +kernel
theorem dX6_ruleOfDeath_45 : decode cX6_ruleOfDeath 45 = .ok (.ireturn, 1) := by decide +kernel
def lpX6_ruleOfDeath_7 (v1 : Int32) (v2 : Int32) : Nat → Int32 → ST → (Int32 → ST → Option (Int32 × ST)) → Option (Int32 × ST)
  | 0, _, _, _ => none
  | n + 1, v3, k, cont => if v3 < 0 then cont v3 k else ck (inb v3 40) (if (gA k 34 (ix v3)) = v1 then ck (inb v3 40) (if v2 < (gA k 36 (ix v3)) then lpX6_ruleOfDeath_7 v1 v2 n (v3 + (-1)) k cont else ck (inb v3 40) (some (gA k 35 (ix v3), k))) else lpX6_ruleOfDeath_7 v1 v2 n (v3 + (-1)) k cont)
set_option maxRecDepth 20000 in
theorem zlpX6_ruleOfDeath_7 {p : Program} {l : Launch} {e : Env} {R : Room} {s : State} {m : MethodId} {args : Array Value} {below : List Frame} {meth : Method} {c : Code} {g : GT} (hC : HC p s m args meth c cX6_ruleOfDeath 4 RX6 (some .int) g) (hR : 0 ≤ R.frames ∧ 0 ≤ R.locals) (v1 : Int32) (v2 : Int32) {cont : Int32 → ST → Option (Int32 × ST)} (hk : ∀ (v3 : Int32) (k : ST), ZF p l e R s m args below meth c g TK voI 4 k 44 [(0, .ref (g.2.1 5)), (1, .int v1), (2, .int v2), (3, .int v3)] [] (cont v3 k)) : ∀ (n : Nat) (v3 : Int32) (k : ST), ZF p l e R s m args below meth c g TK voI 4 k 7 [(0, .ref (g.2.1 5)), (1, .int v1), (2, .int v2), (3, .int v3)] [] (lpX6_ruleOfDeath_7 v1 v2 n v3 k cont) := by
  intro n
  induction n with
  | zero => intros; exact zf_none
  | succ n ih =>
    intro v3 k
    rw [lpX6_ruleOfDeath_7]
    refine zf_iload_n hC dX6_ruleOfDeath_7 rfl 3 rfl ?_
    refine zf_if_lt hC (tgt := 44) dX6_ruleOfDeath_8 (by decide) (fun h1 => ?_) (fun h1 => ?_)
    · refine zf_lv (LV' := [(0, .ref (g.2.1 5)), (1, .int v1), (2, .int v2), (3, .int v3)]) [0, 1, 2, 3] rfl ?_
      exact hk v3 k
    · refine zf_aload_n hC dX6_ruleOfDeath_11 rfl 0 rfl ?_
      refine gf_238 hC dX6_ruleOfDeath_12 ?_
      refine zf_iload_n hC dX6_ruleOfDeath_15 rfl 3 rfl ?_
      refine zf_iald hC (j := 34) ia_34 rfl rfl dX6_ruleOfDeath_16 (fun h2 => ?_)
      refine zf_iload_n hC dX6_ruleOfDeath_17 rfl 1 rfl ?_
      refine zf_icmp_ne hC (tgt := 38) dX6_ruleOfDeath_18 (by decide) (fun h3 => ?_) (fun h3 => ?_)
      · refine zf_aload_n hC dX6_ruleOfDeath_21 rfl 0 rfl ?_
        refine gf_240 hC dX6_ruleOfDeath_22 ?_
        refine zf_iload_n hC dX6_ruleOfDeath_25 rfl 3 rfl ?_
        refine zf_iald hC (j := 36) ia_36 rfl rfl dX6_ruleOfDeath_26 (fun h4 => ?_)
        refine zf_iload_n hC dX6_ruleOfDeath_27 rfl 2 rfl ?_
        refine zf_icmp_gt hC (tgt := 38) dX6_ruleOfDeath_28 (by decide) (fun h5 => ?_) (fun h5 => ?_)
        · refine zf_iinc hC (q := 3) (v := v3 + (-1)) (LV' := [(3, .int (v3 + (-1))), (0, .ref (g.2.1 5)), (1, .int v1), (2, .int v2)]) dX6_ruleOfDeath_38 rfl rfl (by decide) rfl ?_
          refine zf_goto hC (tgt := 7) dX6_ruleOfDeath_41 (by decide) ?_
          refine zf_lv (LV' := [(0, .ref (g.2.1 5)), (1, .int v1), (2, .int v2), (3, .int (v3 + (-1)))]) [1, 2, 3, 0] rfl ?_
          exact ih (v3 + (-1)) k
        · refine zf_aload_n hC dX6_ruleOfDeath_31 rfl 0 rfl ?_
          refine gf_239 hC dX6_ruleOfDeath_32 ?_
          refine zf_iload_n hC dX6_ruleOfDeath_35 rfl 3 rfl ?_
          refine zf_iald hC (j := 35) ia_35 rfl rfl dX6_ruleOfDeath_36 (fun h6 => ?_)
          exact zf_iret hC rfl dX6_ruleOfDeath_37
      · refine zf_iinc hC (q := 3) (v := v3 + (-1)) (LV' := [(3, .int (v3 + (-1))), (0, .ref (g.2.1 5)), (1, .int v1), (2, .int v2)]) dX6_ruleOfDeath_38 rfl rfl (by decide) rfl ?_
        refine zf_goto hC (tgt := 7) dX6_ruleOfDeath_41 (by decide) ?_
        refine zf_lv (LV' := [(0, .ref (g.2.1 5)), (1, .int v1), (2, .int v2), (3, .int (v3 + (-1)))]) [1, 2, 3, 0] rfl ?_
        exact ih (v3 + (-1)) k
def fX6_ruleOfDeath (k : ST) (a0 : Int32) (a1 : Int32) : Option (Int32 × ST) := lpX6_ruleOfDeath_7 a0 a1 FU ((gI k 5 5) - 1) k fun y7 k8 => some ((-1), k8)
set_option maxRecDepth 20000 in
theorem c_X6_ruleOfDeath (l : Launch) (g : GT) (a0 : Int32) (a1 : Int32) : CN l yX6_ruleOfDeath cX6_ruleOfDeath 4 (some .int) { frames := 0, cells := 0, slots := 0, locals := 0 } g TK voI [.ref (g.2.1 5), .int a0, .int a1] (fun k => fX6_ruleOfDeath k a0 a1) := by
  refine cn_of (by decide) (Nat.le_of_ble_eq_true rfl) ?_
  intro p e s m args below meth c hC k
  have hC : HC p s m args meth c cX6_ruleOfDeath 4 RX6 (some .int) g := hC
  have hR : 0 ≤ ({ frames := 0, cells := 0, slots := 0, locals := 0 } : Room).frames ∧ 0 ≤ ({ frames := 0, cells := 0, slots := 0, locals := 0 } : Room).locals := ⟨Nat.le_refl _, Nat.le_refl _⟩
  show ZF p l e _ s m args below meth c g TK voI 4 k 0 [(0, .ref (g.2.1 5)), (1, .int a0), (2, .int a1)] [] (fX6_ruleOfDeath k a0 a1)
  unfold fX6_ruleOfDeath
  refine zf_aload_n hC dX6_ruleOfDeath_0 rfl 0 rfl ?_
  refine gf_237 hC dX6_ruleOfDeath_1 ?_
  refine zf_iconst hC (v := 1) dX6_ruleOfDeath_4 rfl ?_
  refine zf_isub hC dX6_ruleOfDeath_5 ?_
  refine zf_istore_n hC (LV' := [(3, .int ((gI k 5 5) - 1)), (0, .ref (g.2.1 5)), (1, .int a0), (2, .int a1)]) dX6_ruleOfDeath_6 rfl (by decide) rfl ?_
  refine zf_lv (LV' := [(0, .ref (g.2.1 5)), (1, .int a0), (2, .int a1), (3, .int ((gI k 5 5) - 1))]) [1, 2, 3, 0] rfl ?_
  refine zlpX6_ruleOfDeath_7 hC hR a0 a1 (fun y7 k8 => ?_) FU ((gI k 5 5) - 1) k
  refine zf_iconst hC (v := (-1)) dX6_ruleOfDeath_44 rfl ?_
  exact zf_iret hC rfl dX6_ruleOfDeath_45
/-! LifeKeys.Sayings.firstYes -/
theorem dX6_firstYes_0 : decode cX6_firstYes 0 = .ok (.iconst 0, 1) := by decide +kernel
theorem dX6_firstYes_1 : decode cX6_firstYes 1 = .ok (.istore_n 3, 1) := by decide +kernel
theorem dX6_firstYes_2 : decode cX6_firstYes 2 = .ok (.iload_n 3, 1) := by decide +kernel
theorem dX6_firstYes_3 : decode cX6_firstYes 3 = .ok (.aload_n 0, 1) := by decide +kernel
theorem dX6_firstYes_4 : decode cX6_firstYes 4 = .ok (.getfield 36, 3) := by decide +kernel
theorem dX6_firstYes_7 : decode cX6_firstYes 7 = .ok (.if_icmp .ge 45, 3) := by decide +kernel
theorem dX6_firstYes_10 : decode cX6_firstYes 10 = .ok (.aload_n 0, 1) := by decide +kernel
theorem dX6_firstYes_11 : decode cX6_firstYes 11 = .ok (.getfield 22, 3) := by decide +kernel
theorem dX6_firstYes_14 : decode cX6_firstYes 14 = .ok (.iload_n 3, 1) := by decide +kernel
theorem dX6_firstYes_15 : decode cX6_firstYes 15 = .ok (.iaload, 1) := by decide +kernel
theorem dX6_firstYes_16 : decode cX6_firstYes 16 = .ok (.iload_n 2, 1) := by decide +kernel
theorem dX6_firstYes_17 : decode cX6_firstYes 17 = .ok (.if_icmp .gt 35, 3) := by decide +kernel
theorem dX6_firstYes_20 : decode cX6_firstYes 20 = .ok (.aload_n 0, 1) := by decide +kernel
theorem dX6_firstYes_21 : decode cX6_firstYes 21 = .ok (.getfield 15, 3) := by decide +kernel
theorem dX6_firstYes_24 : decode cX6_firstYes 24 = .ok (.iload_n 3, 1) := by decide +kernel
theorem dX6_firstYes_25 : decode cX6_firstYes 25 = .ok (.iaload, 1) := by decide +kernel
theorem dX6_firstYes_26 : decode cX6_firstYes 26 = .ok (.iload_n 1, 1) := by decide +kernel
theorem dX6_firstYes_27 : decode cX6_firstYes 27 = .ok (.if_icmp .ne 19, 3) := by decide +kernel
theorem dX6_firstYes_30 : decode cX6_firstYes 30 = .ok (.aload_n 0, 1) := by decide +kernel
theorem dX6_firstYes_31 : decode cX6_firstYes 31 = .ok (.getfield 18, 3) := by decide +kernel
theorem dX6_firstYes_34 : decode cX6_firstYes 34 = .ok (.iload_n 3, 1) := by decide +kernel
theorem dX6_firstYes_35 : decode cX6_firstYes 35 = .ok (.baload, 1) := by decide +kernel
theorem dX6_firstYes_36 : decode cX6_firstYes 36 = .ok (.ifCond .eq 10, 3) := by decide +kernel
theorem dX6_firstYes_39 : decode cX6_firstYes 39 = .ok (.aload_n 0, 1) := by decide +kernel
theorem dX6_firstYes_40 : decode cX6_firstYes 40 = .ok (.getfield 22, 3) := by decide +kernel
theorem dX6_firstYes_43 : decode cX6_firstYes 43 = .ok (.iload_n 3, 1) := by decide +kernel
theorem dX6_firstYes_44 : decode cX6_firstYes 44 = .ok (.iaload, 1) := by decide +kernel
theorem dX6_firstYes_45 : decode cX6_firstYes 45 = .ok (.ireturn, 1) := by decide +kernel
theorem dX6_firstYes_46 : decode cX6_firstYes 46 = .ok (.iinc 3 1, 3) := by decide +kernel
theorem dX6_firstYes_49 : decode cX6_firstYes 49 = .ok (.goto (-47), 3) := by decide +kernel
theorem dX6_firstYes_52 : decode cX6_firstYes 52 = .ok (.iconst (-1), 1) := by decide +kernel
theorem dX6_firstYes_53 : decode cX6_firstYes 53 = .ok (.ireturn, 1) := by decide +kernel
def lpX6_firstYes_2 (v1 : Int32) (v2 : Int32) : Nat → Int32 → ST → (Int32 → ST → Option (Int32 × ST)) → Option (Int32 × ST)
  | 0, _, _, _ => none
  | n + 1, v3, k, cont => if (gI k 5 0) ≤ v3 then cont v3 k else ck (inb v3 200) (if v2 < (gA k 33 (ix v3)) then cont v3 k else ck (inb v3 200) (if (gA k 31 (ix v3)) = v1 then ck (inb v3 200) (if (gA k 32 (ix v3)) = 0 then lpX6_firstYes_2 v1 v2 n (v3 + 1) k cont else ck (inb v3 200) (some (gA k 33 (ix v3), k))) else lpX6_firstYes_2 v1 v2 n (v3 + 1) k cont))
set_option maxRecDepth 20000 in
theorem zlpX6_firstYes_2 {p : Program} {l : Launch} {e : Env} {R : Room} {s : State} {m : MethodId} {args : Array Value} {below : List Frame} {meth : Method} {c : Code} {g : GT} (hC : HC p s m args meth c cX6_firstYes 4 RX6 (some .int) g) (hR : 0 ≤ R.frames ∧ 0 ≤ R.locals) (v1 : Int32) (v2 : Int32) {cont : Int32 → ST → Option (Int32 × ST)} (hk : ∀ (v3 : Int32) (k : ST), ZF p l e R s m args below meth c g TK voI 4 k 52 [(0, .ref (g.2.1 5)), (1, .int v1), (2, .int v2), (3, .int v3)] [] (cont v3 k)) : ∀ (n : Nat) (v3 : Int32) (k : ST), ZF p l e R s m args below meth c g TK voI 4 k 2 [(0, .ref (g.2.1 5)), (1, .int v1), (2, .int v2), (3, .int v3)] [] (lpX6_firstYes_2 v1 v2 n v3 k cont) := by
  intro n
  induction n with
  | zero => intros; exact zf_none
  | succ n ih =>
    intro v3 k
    rw [lpX6_firstYes_2]
    refine zf_iload_n hC dX6_firstYes_2 rfl 3 rfl ?_
    refine zf_aload_n hC dX6_firstYes_3 rfl 0 rfl ?_
    refine gf_231 hC dX6_firstYes_4 ?_
    refine zf_icmp_ge hC (tgt := 52) dX6_firstYes_7 (by decide) (fun h1 => ?_) (fun h1 => ?_)
    · refine zf_lv (LV' := [(0, .ref (g.2.1 5)), (1, .int v1), (2, .int v2), (3, .int v3)]) [0, 1, 2, 3] rfl ?_
      exact hk v3 k
    · refine zf_aload_n hC dX6_firstYes_10 rfl 0 rfl ?_
      refine gf_236 hC dX6_firstYes_11 ?_
      refine zf_iload_n hC dX6_firstYes_14 rfl 3 rfl ?_
      refine zf_iald hC (j := 33) ia_33 rfl rfl dX6_firstYes_15 (fun h2 => ?_)
      refine zf_iload_n hC dX6_firstYes_16 rfl 2 rfl ?_
      refine zf_icmp_gt hC (tgt := 52) dX6_firstYes_17 (by decide) (fun h3 => ?_) (fun h3 => ?_)
      · refine zf_lv (LV' := [(0, .ref (g.2.1 5)), (1, .int v1), (2, .int v2), (3, .int v3)]) [0, 1, 2, 3] rfl ?_
        exact hk v3 k
      · refine zf_aload_n hC dX6_firstYes_20 rfl 0 rfl ?_
        refine gf_234 hC dX6_firstYes_21 ?_
        refine zf_iload_n hC dX6_firstYes_24 rfl 3 rfl ?_
        refine zf_iald hC (j := 31) ia_31 rfl rfl dX6_firstYes_25 (fun h4 => ?_)
        refine zf_iload_n hC dX6_firstYes_26 rfl 1 rfl ?_
        refine zf_icmp_ne hC (tgt := 46) dX6_firstYes_27 (by decide) (fun h5 => ?_) (fun h5 => ?_)
        · refine zf_aload_n hC dX6_firstYes_30 rfl 0 rfl ?_
          refine gf_235 hC dX6_firstYes_31 ?_
          refine zf_iload_n hC dX6_firstYes_34 rfl 3 rfl ?_
          refine zf_zald hC (j := 32) ia_32 rfl rfl dX6_firstYes_35 (fun h6 => ?_)
          refine zf_if_eq hC (tgt := 46) dX6_firstYes_36 (by decide) (fun h7 => ?_) (fun h7 => ?_)
          · refine zf_iinc hC (q := 3) (v := v3 + 1) (LV' := [(3, .int (v3 + 1)), (0, .ref (g.2.1 5)), (1, .int v1), (2, .int v2)]) dX6_firstYes_46 rfl rfl (by decide) rfl ?_
            refine zf_goto hC (tgt := 2) dX6_firstYes_49 (by decide) ?_
            refine zf_lv (LV' := [(0, .ref (g.2.1 5)), (1, .int v1), (2, .int v2), (3, .int (v3 + 1))]) [1, 2, 3, 0] rfl ?_
            exact ih (v3 + 1) k
          · refine zf_aload_n hC dX6_firstYes_39 rfl 0 rfl ?_
            refine gf_236 hC dX6_firstYes_40 ?_
            refine zf_iload_n hC dX6_firstYes_43 rfl 3 rfl ?_
            refine zf_iald hC (j := 33) ia_33 rfl rfl dX6_firstYes_44 (fun h8 => ?_)
            exact zf_iret hC rfl dX6_firstYes_45
        · refine zf_iinc hC (q := 3) (v := v3 + 1) (LV' := [(3, .int (v3 + 1)), (0, .ref (g.2.1 5)), (1, .int v1), (2, .int v2)]) dX6_firstYes_46 rfl rfl (by decide) rfl ?_
          refine zf_goto hC (tgt := 2) dX6_firstYes_49 (by decide) ?_
          refine zf_lv (LV' := [(0, .ref (g.2.1 5)), (1, .int v1), (2, .int v2), (3, .int (v3 + 1))]) [1, 2, 3, 0] rfl ?_
          exact ih (v3 + 1) k
def fX6_firstYes (k : ST) (a0 : Int32) (a1 : Int32) : Option (Int32 × ST) := lpX6_firstYes_2 a0 a1 FU 0 k fun y9 k10 => some ((-1), k10)
set_option maxRecDepth 20000 in
theorem c_X6_firstYes (l : Launch) (g : GT) (a0 : Int32) (a1 : Int32) : CN l yX6_firstYes cX6_firstYes 4 (some .int) { frames := 0, cells := 0, slots := 0, locals := 0 } g TK voI [.ref (g.2.1 5), .int a0, .int a1] (fun k => fX6_firstYes k a0 a1) := by
  refine cn_of (by decide) (Nat.le_of_ble_eq_true rfl) ?_
  intro p e s m args below meth c hC k
  have hC : HC p s m args meth c cX6_firstYes 4 RX6 (some .int) g := hC
  have hR : 0 ≤ ({ frames := 0, cells := 0, slots := 0, locals := 0 } : Room).frames ∧ 0 ≤ ({ frames := 0, cells := 0, slots := 0, locals := 0 } : Room).locals := ⟨Nat.le_refl _, Nat.le_refl _⟩
  show ZF p l e _ s m args below meth c g TK voI 4 k 0 [(0, .ref (g.2.1 5)), (1, .int a0), (2, .int a1)] [] (fX6_firstYes k a0 a1)
  unfold fX6_firstYes
  refine zf_iconst hC (v := 0) dX6_firstYes_0 rfl ?_
  refine zf_istore_n hC (LV' := [(3, .int 0), (0, .ref (g.2.1 5)), (1, .int a0), (2, .int a1)]) dX6_firstYes_1 rfl (by decide) rfl ?_
  refine zf_lv (LV' := [(0, .ref (g.2.1 5)), (1, .int a0), (2, .int a1), (3, .int 0)]) [1, 2, 3, 0] rfl ?_
  refine zlpX6_firstYes_2 hC hR a0 a1 (fun y9 k10 => ?_) FU 0 k
  refine zf_iconst hC (v := (-1)) dX6_firstYes_52 rfl ?_
  exact zf_iret hC rfl dX6_firstYes_53
/-! LifeKeys.Sayings.voices -/
theorem dX6_voices_0 : decode cX6_voices 0 = .ok (.iconst 0, 1) := by decide +kernel
theorem dX6_voices_1 : decode cX6_voices 1 = .ok (.istore_n 3, 1) := by decide +kernel
theorem dX6_voices_2 : decode cX6_voices 2 = .ok (.iconst 0, 1) := by decide +kernel
theorem dX6_voices_3 : decode cX6_voices 3 = .ok (.istore 4, 2) := by decide +kernel
theorem dX6_voices_5 : decode cX6_voices 5 = .ok (.iload 4, 2) := by decide +kernel
theorem dX6_voices_7 : decode cX6_voices 7 = .ok (.aload_n 0, 1) := by decide +kernel
theorem dX6_voices_8 : decode cX6_voices 8 = .ok (.getfield 36, 3) := by decide +kernel
theorem dX6_voices_11 : decode cX6_voices 11 = .ok (.if_icmp .ge 78, 3) := by decide +kernel
theorem dX6_voices_14 : decode cX6_voices 14 = .ok (.aload_n 0, 1) := by decide +kernel
theorem dX6_voices_15 : decode cX6_voices 15 = .ok (.getfield 22, 3) := by decide +kernel
theorem dX6_voices_18 : decode cX6_voices 18 = .ok (.iload 4, 2) := by decide +kernel
theorem dX6_voices_20 : decode cX6_voices 20 = .ok (.iaload, 1) := by decide +kernel
theorem dX6_voices_21 : decode cX6_voices 21 = .ok (.iload_n 2, 1) := by decide +kernel
theorem dX6_voices_22 : decode cX6_voices 22 = .ok (.if_icmp .gt 67, 3) := by decide +kernel
theorem dX6_voices_25 : decode cX6_voices 25 = .ok (.aload_n 0, 1) := by decide +kernel
theorem dX6_voices_26 : decode cX6_voices 26 = .ok (.getfield 15, 3) := by decide +kernel
theorem dX6_voices_29 : decode cX6_voices 29 = .ok (.iload 4, 2) := by decide +kernel
theorem dX6_voices_31 : decode cX6_voices 31 = .ok (.iaload, 1) := by decide +kernel
theorem dX6_voices_32 : decode cX6_voices 32 = .ok (.iload_n 1, 1) := by decide +kernel
theorem dX6_voices_33 : decode cX6_voices 33 = .ok (.if_icmp .ne 50, 3) := by decide +kernel
theorem dX6_voices_36 : decode cX6_voices 36 = .ok (.iconst 1, 1) := by decide +kernel
theorem dX6_voices_37 : decode cX6_voices 37 = .ok (.aload_n 0, 1) := by decide +kernel
theorem dX6_voices_38 : decode cX6_voices 38 = .ok (.getfield 11, 3) := by decide +kernel
theorem dX6_voices_41 : decode cX6_voices 41 = .ok (.iload 4, 2) := by decide +kernel
theorem dX6_voices_43 : decode cX6_voices 43 = .ok (.iaload, 1) := by decide +kernel
theorem dX6_voices_44 : decode cX6_voices 44 = .ok (.ishl, 1) := by decide +kernel
theorem dX6_voices_45 : decode cX6_voices 45 = .ok (.istore 5, 2) := by decide +kernel
theorem dX6_voices_47 : decode cX6_voices 47 = .ok (.iload_n 3, 1) := by decide +kernel
theorem dX6_voices_48 : decode cX6_voices 48 = .ok (.iload 5, 2) := by decide +kernel
theorem dX6_voices_50 : decode cX6_voices 50 = .ok (.iload 5, 2) := by decide +kernel
theorem dX6_voices_52 : decode cX6_voices 52 = .ok (.bipush 12, 2) := by decide +kernel
theorem dX6_voices_54 : decode cX6_voices 54 = .ok (.ishl, 1) := by decide +kernel
theorem dX6_voices_55 : decode cX6_voices 55 = .ok (.ior, 1) := by decide +kernel
theorem dX6_voices_56 : decode cX6_voices 56 = .ok (.iconst (-1), 1) := by decide +kernel
theorem dX6_voices_57 : decode cX6_voices 57 = .ok (.ixor, 1) := by decide +kernel
theorem dX6_voices_58 : decode cX6_voices 58 = .ok (.iand, 1) := by decide +kernel
theorem dX6_voices_59 : decode cX6_voices 59 = .ok (.istore_n 3, 1) := by decide +kernel
theorem dX6_voices_60 : decode cX6_voices 60 = .ok (.iload_n 3, 1) := by decide +kernel
theorem dX6_voices_61 : decode cX6_voices 61 = .ok (.aload_n 0, 1) := by decide +kernel
theorem dX6_voices_62 : decode cX6_voices 62 = .ok (.getfield 18, 3) := by decide +kernel
theorem dX6_voices_65 : decode cX6_voices 65 = .ok (.iload 4, 2) := by decide +kernel
theorem dX6_voices_67 : decode cX6_voices 67 = .ok (.baload, 1) := by decide +kernel
theorem dX6_voices_68 : decode cX6_voices 68 = .ok (.ifCond .eq 8, 3) := by decide +kernel
theorem dX6_voices_71 : decode cX6_voices 71 = .ok (.iload 5, 2) := by decide +kernel
theorem dX6_voices_73 : decode cX6_voices 73 = .ok (.goto 8, 3) := by decide +kernel
theorem dX6_voices_76 : decode cX6_voices 76 = .ok (.iload 5, 2) := by decide +kernel
theorem dX6_voices_78 : decode cX6_voices 78 = .ok (.bipush 12, 2) := by decide +kernel
theorem dX6_voices_80 : decode cX6_voices 80 = .ok (.ishl, 1) := by decide +kernel
theorem dX6_voices_81 : decode cX6_voices 81 = .ok (.ior, 1) := by decide +kernel
theorem dX6_voices_82 : decode cX6_voices 82 = .ok (.istore_n 3, 1) := by decide +kernel
theorem dX6_voices_83 : decode cX6_voices 83 = .ok (.iinc 4 1, 3) := by decide +kernel
theorem dX6_voices_86 : decode cX6_voices 86 = .ok (.goto (-81), 3) := by decide +kernel
theorem dX6_voices_89 : decode cX6_voices 89 = .ok (.iload_n 3, 1) := by decide +kernel
theorem dX6_voices_90 : decode cX6_voices 90 = .ok (.ireturn, 1) := by decide +kernel
def lpX6_voices_5 (v1 : Int32) (v2 : Int32) : Nat → Int32 → Int32 → ST → (Int32 → Int32 → ST → Option (Int32 × ST)) → Option (Int32 × ST)
  | 0, _, _, _, _ => none
  | n + 1, v3, v4, k, cont => if (gI k 5 0) ≤ v4 then cont v3 v4 k else ck (inb v4 200) (if v2 < (gA k 33 (ix v4)) then cont v3 v4 k else ck (inb v4 200) (if (gA k 31 (ix v4)) = v1 then ck (inb v4 200) (nm (v3 &&& (((j_shl 1 (gA k 30 (ix v4))) ||| (j_shl (j_shl 1 (gA k 30 (ix v4))) 12)) ^^^ (-1))) fun x7 => ck (inb v4 200) (if (gA k 32 (ix v4)) = 0 then nm (x7 ||| (j_shl (j_shl 1 (gA k 30 (ix v4))) 12)) fun x10 => lpX6_voices_5 v1 v2 n x10 (v4 + 1) k cont else nm (x7 ||| (j_shl 1 (gA k 30 (ix v4)))) fun x11 => lpX6_voices_5 v1 v2 n x11 (v4 + 1) k cont)) else lpX6_voices_5 v1 v2 n v3 (v4 + 1) k cont))
set_option maxRecDepth 20000 in
theorem zlpX6_voices_5 {p : Program} {l : Launch} {e : Env} {R : Room} {s : State} {m : MethodId} {args : Array Value} {below : List Frame} {meth : Method} {c : Code} {g : GT} (hC : HC p s m args meth c cX6_voices 6 RX6 (some .int) g) (hR : 0 ≤ R.frames ∧ 0 ≤ R.locals) (v1 : Int32) (v2 : Int32) {cont : Int32 → Int32 → ST → Option (Int32 × ST)} (hk : ∀ (v3 : Int32) (v4 : Int32) (k : ST), ZF p l e R s m args below meth c g TK voI 6 k 89 [(0, .ref (g.2.1 5)), (1, .int v1), (2, .int v2), (3, .int v3), (4, .int v4)] [] (cont v3 v4 k)) : ∀ (n : Nat) (v3 : Int32) (v4 : Int32) (k : ST), ZF p l e R s m args below meth c g TK voI 6 k 5 [(0, .ref (g.2.1 5)), (1, .int v1), (2, .int v2), (3, .int v3), (4, .int v4)] [] (lpX6_voices_5 v1 v2 n v3 v4 k cont) := by
  intro n
  induction n with
  | zero => intros; exact zf_none
  | succ n ih =>
    intro v3 v4 k
    rw [lpX6_voices_5]
    refine zf_iload hC dX6_voices_5 4 rfl ?_
    refine zf_aload_n hC dX6_voices_7 rfl 0 rfl ?_
    refine gf_231 hC dX6_voices_8 ?_
    refine zf_icmp_ge hC (tgt := 89) dX6_voices_11 (by decide) (fun h1 => ?_) (fun h1 => ?_)
    · refine zf_lv (LV' := [(0, .ref (g.2.1 5)), (1, .int v1), (2, .int v2), (3, .int v3), (4, .int v4)]) [0, 1, 2, 3, 4] rfl ?_
      exact hk v3 v4 k
    · refine zf_aload_n hC dX6_voices_14 rfl 0 rfl ?_
      refine gf_236 hC dX6_voices_15 ?_
      refine zf_iload hC dX6_voices_18 4 rfl ?_
      refine zf_iald hC (j := 33) ia_33 rfl rfl dX6_voices_20 (fun h2 => ?_)
      refine zf_iload_n hC dX6_voices_21 rfl 2 rfl ?_
      refine zf_icmp_gt hC (tgt := 89) dX6_voices_22 (by decide) (fun h3 => ?_) (fun h3 => ?_)
      · refine zf_lv (LV' := [(0, .ref (g.2.1 5)), (1, .int v1), (2, .int v2), (3, .int v3), (4, .int v4)]) [0, 1, 2, 3, 4] rfl ?_
        exact hk v3 v4 k
      · refine zf_aload_n hC dX6_voices_25 rfl 0 rfl ?_
        refine gf_234 hC dX6_voices_26 ?_
        refine zf_iload hC dX6_voices_29 4 rfl ?_
        refine zf_iald hC (j := 31) ia_31 rfl rfl dX6_voices_31 (fun h4 => ?_)
        refine zf_iload_n hC dX6_voices_32 rfl 1 rfl ?_
        refine zf_icmp_ne hC (tgt := 83) dX6_voices_33 (by decide) (fun h5 => ?_) (fun h5 => ?_)
        · refine zf_iconst hC (v := 1) dX6_voices_36 rfl ?_
          refine zf_aload_n hC dX6_voices_37 rfl 0 rfl ?_
          refine gf_233 hC dX6_voices_38 ?_
          refine zf_iload hC dX6_voices_41 4 rfl ?_
          refine zf_iald hC (j := 30) ia_30 rfl rfl dX6_voices_43 (fun h6 => ?_)
          refine zf_ishl hC dX6_voices_44 ?_
          refine zf_istore hC (LV' := [(5, .int (j_shl 1 (gA k 30 (ix v4)))), (0, .ref (g.2.1 5)), (1, .int v1), (2, .int v2), (3, .int v3), (4, .int v4)]) dX6_voices_45 (by decide) rfl ?_
          refine zf_iload_n hC dX6_voices_47 rfl 4 rfl ?_
          refine zf_iload hC dX6_voices_48 0 rfl ?_
          refine zf_iload hC dX6_voices_50 0 rfl ?_
          refine zf_bipush hC (v := 12) dX6_voices_52 rfl ?_
          refine zf_ishl hC dX6_voices_54 ?_
          refine zf_ior hC dX6_voices_55 ?_
          refine zf_iconst hC (v := (-1)) dX6_voices_56 rfl ?_
          refine zf_ixor hC dX6_voices_57 ?_
          refine zf_iand hC dX6_voices_58 ?_
          refine zf_nmi (fun x7 => ?_)
          refine zf_istore_n hC (LV' := [(3, .int x7), (5, .int (j_shl 1 (gA k 30 (ix v4)))), (0, .ref (g.2.1 5)), (1, .int v1), (2, .int v2), (4, .int v4)]) dX6_voices_59 rfl (by decide) rfl ?_
          refine zf_iload_n hC dX6_voices_60 rfl 0 rfl ?_
          refine zf_aload_n hC dX6_voices_61 rfl 2 rfl ?_
          refine gf_235 hC dX6_voices_62 ?_
          refine zf_iload hC dX6_voices_65 5 rfl ?_
          refine zf_zald hC (j := 32) ia_32 rfl rfl dX6_voices_67 (fun h8 => ?_)
          refine zf_if_eq hC (tgt := 76) dX6_voices_68 (by decide) (fun h9 => ?_) (fun h9 => ?_)
          · refine zf_iload hC dX6_voices_76 1 rfl ?_
            refine zf_bipush hC (v := 12) dX6_voices_78 rfl ?_
            refine zf_ishl hC dX6_voices_80 ?_
            refine zf_ior hC dX6_voices_81 ?_
            refine zf_nmi (fun x10 => ?_)
            refine zf_istore_n hC (LV' := [(3, .int x10), (5, .int (j_shl 1 (gA k 30 (ix v4)))), (0, .ref (g.2.1 5)), (1, .int v1), (2, .int v2), (4, .int v4)]) dX6_voices_82 rfl (by decide) rfl ?_
            refine zf_iinc hC (q := 5) (v := v4 + 1) (LV' := [(4, .int (v4 + 1)), (3, .int x10), (5, .int (j_shl 1 (gA k 30 (ix v4)))), (0, .ref (g.2.1 5)), (1, .int v1), (2, .int v2)]) dX6_voices_83 rfl rfl (by decide) rfl ?_
            refine zf_goto hC (tgt := 5) dX6_voices_86 (by decide) ?_
            refine zf_lv (LV' := [(0, .ref (g.2.1 5)), (1, .int v1), (2, .int v2), (3, .int x10), (4, .int (v4 + 1))]) [3, 4, 5, 1, 0] rfl ?_
            exact ih x10 (v4 + 1) k
          · refine zf_iload hC dX6_voices_71 1 rfl ?_
            refine zf_goto hC (tgt := 81) dX6_voices_73 (by decide) ?_
            refine zf_ior hC dX6_voices_81 ?_
            refine zf_nmi (fun x11 => ?_)
            refine zf_istore_n hC (LV' := [(3, .int x11), (5, .int (j_shl 1 (gA k 30 (ix v4)))), (0, .ref (g.2.1 5)), (1, .int v1), (2, .int v2), (4, .int v4)]) dX6_voices_82 rfl (by decide) rfl ?_
            refine zf_iinc hC (q := 5) (v := v4 + 1) (LV' := [(4, .int (v4 + 1)), (3, .int x11), (5, .int (j_shl 1 (gA k 30 (ix v4)))), (0, .ref (g.2.1 5)), (1, .int v1), (2, .int v2)]) dX6_voices_83 rfl rfl (by decide) rfl ?_
            refine zf_goto hC (tgt := 5) dX6_voices_86 (by decide) ?_
            refine zf_lv (LV' := [(0, .ref (g.2.1 5)), (1, .int v1), (2, .int v2), (3, .int x11), (4, .int (v4 + 1))]) [3, 4, 5, 1, 0] rfl ?_
            exact ih x11 (v4 + 1) k
        · refine zf_iinc hC (q := 4) (v := v4 + 1) (LV' := [(4, .int (v4 + 1)), (0, .ref (g.2.1 5)), (1, .int v1), (2, .int v2), (3, .int v3)]) dX6_voices_83 rfl rfl (by decide) rfl ?_
          refine zf_goto hC (tgt := 5) dX6_voices_86 (by decide) ?_
          refine zf_lv (LV' := [(0, .ref (g.2.1 5)), (1, .int v1), (2, .int v2), (3, .int v3), (4, .int (v4 + 1))]) [1, 2, 3, 4, 0] rfl ?_
          exact ih v3 (v4 + 1) k
def fX6_voices (k : ST) (a0 : Int32) (a1 : Int32) : Option (Int32 × ST) := lpX6_voices_5 a0 a1 FU 0 0 k fun y12 y13 k14 => some (y12, k14)
set_option maxRecDepth 20000 in
theorem c_X6_voices (l : Launch) (g : GT) (a0 : Int32) (a1 : Int32) : CN l yX6_voices cX6_voices 6 (some .int) { frames := 0, cells := 0, slots := 0, locals := 0 } g TK voI [.ref (g.2.1 5), .int a0, .int a1] (fun k => fX6_voices k a0 a1) := by
  refine cn_of (by decide) (Nat.le_of_ble_eq_true rfl) ?_
  intro p e s m args below meth c hC k
  have hC : HC p s m args meth c cX6_voices 6 RX6 (some .int) g := hC
  have hR : 0 ≤ ({ frames := 0, cells := 0, slots := 0, locals := 0 } : Room).frames ∧ 0 ≤ ({ frames := 0, cells := 0, slots := 0, locals := 0 } : Room).locals := ⟨Nat.le_refl _, Nat.le_refl _⟩
  show ZF p l e _ s m args below meth c g TK voI 6 k 0 [(0, .ref (g.2.1 5)), (1, .int a0), (2, .int a1)] [] (fX6_voices k a0 a1)
  unfold fX6_voices
  refine zf_iconst hC (v := 0) dX6_voices_0 rfl ?_
  refine zf_istore_n hC (LV' := [(3, .int 0), (0, .ref (g.2.1 5)), (1, .int a0), (2, .int a1)]) dX6_voices_1 rfl (by decide) rfl ?_
  refine zf_iconst hC (v := 0) dX6_voices_2 rfl ?_
  refine zf_istore hC (LV' := [(4, .int 0), (3, .int 0), (0, .ref (g.2.1 5)), (1, .int a0), (2, .int a1)]) dX6_voices_3 (by decide) rfl ?_
  refine zf_lv (LV' := [(0, .ref (g.2.1 5)), (1, .int a0), (2, .int a1), (3, .int 0), (4, .int 0)]) [2, 3, 4, 1, 0] rfl ?_
  refine zlpX6_voices_5 hC hR a0 a1 (fun y12 y13 k14 => ?_) FU 0 0 k
  refine zf_iload_n hC dX6_voices_89 rfl 3 rfl ?_
  exact zf_iret hC rfl dX6_voices_90
/-! LifeKeys.Keys.isBurnt -/
theorem dX1_isBurnt_0 : decode cX1_isBurnt 0 = .ok (.aload_n 0, 1) := by decide +kernel
theorem dX1_isBurnt_1 : decode cX1_isBurnt 1 = .ok (.iload_n 1, 1) := by decide +kernel
theorem dX1_isBurnt_2 : decode cX1_isBurnt 2 = .ok (.iload_n 3, 1) := by decide +kernel
theorem dX1_isBurnt_3 : decode cX1_isBurnt 3 = .ok (.invokevirtual 49, 3) := by decide +kernel
theorem dX1_isBurnt_6 : decode cX1_isBurnt 6 = .ok (.istore 4, 2) := by decide +kernel
theorem dX1_isBurnt_8 : decode cX1_isBurnt 8 = .ok (.iload 4, 2) := by decide +kernel
theorem dX1_isBurnt_10 : decode cX1_isBurnt 10 = .ok (.iconst (-1), 1) := by decide +kernel
theorem dX1_isBurnt_11 : decode cX1_isBurnt 11 = .ok (.if_icmp .eq 13, 3) := by decide +kernel
theorem dX1_isBurnt_14 : decode cX1_isBurnt 14 = .ok (.iload 4, 2) := by decide +kernel
theorem dX1_isBurnt_16 : decode cX1_isBurnt 16 = .ok (.iload_n 2, 1) := by decide +kernel
theorem dX1_isBurnt_17 : decode cX1_isBurnt 17 = .ok (.if_icmp .gt 7, 3) := by decide +kernel
theorem dX1_isBurnt_20 : decode cX1_isBurnt 20 = .ok (.iconst 1, 1) := by decide +kernel
theorem dX1_isBurnt_21 : decode cX1_isBurnt 21 = .ok (.goto 4, 3) := by decide +kernel
theorem dX1_isBurnt_24 : decode cX1_isBurnt 24 = .ok (.iconst 0, 1) := by decide +kernel
theorem dX1_isBurnt_25 : decode cX1_isBurnt 25 = .ok (.ireturn, 1) := by decide +kernel
def fX1_isBurnt (k : ST) (a0 : Int32) (a1 : Int32) (a2 : Int32) : Option (Bool × ST) := ob (fX1_burntFrom k a0 a2) fun r1 k2 => if r1 = (-1) then some (false, k2) else if a1 < r1 then some (false, k2) else some (true, k2)
set_option maxRecDepth 20000 in
theorem c_X1_isBurnt (l : Launch) (g : GT) (a0 : Int32) (a1 : Int32) (a2 : Int32) : CN l yX1_isBurnt cX1_isBurnt 5 (some .boolean) { frames := 1, cells := 0, slots := 0, locals := 24 } g TK voB [.ref (g.2.1 0), .int a0, .int a1, .int a2] (fun k => fX1_isBurnt k a0 a1 a2) := by
  refine cn_of (by decide) (Nat.le_of_ble_eq_true rfl) ?_
  intro p e s m args below meth c hC k
  have hC : HC p s m args meth c cX1_isBurnt 5 RX1 (some .boolean) g := hC
  have hR : 1 ≤ ({ frames := 1, cells := 0, slots := 0, locals := 24 } : Room).frames ∧ 24 ≤ ({ frames := 1, cells := 0, slots := 0, locals := 24 } : Room).locals := ⟨Nat.le_refl _, Nat.le_refl _⟩
  show ZF p l e _ s m args below meth c g TK voB 5 k 0 [(0, .ref (g.2.1 0)), (1, .int a0), (2, .int a1), (3, .int a2)] [] (fX1_isBurnt k a0 a1 a2)
  unfold fX1_isBurnt
  refine zf_aload_n hC dX1_isBurnt_0 rfl 0 rfl ?_
  refine zf_iload_n hC dX1_isBurnt_1 rfl 1 rfl ?_
  refine zf_iload_n hC dX1_isBurnt_2 rfl 3 rfl ?_
  refine zf_callV hC (c_X1_burntFrom l g a0 a2) mt_X1_burntFrom wd_510 wd_511 ci_0 ic_0 wd_936 rfl (rm_le hR rfl) rfl rfl (rest := []) rfl (Nat.le_of_ble_eq_true rfl) dX1_isBurnt_3 (fun r1 k2 h3 => ?_)
  refine zf_istore hC (LV' := [(4, .int r1), (0, .ref (g.2.1 0)), (1, .int a0), (2, .int a1), (3, .int a2)]) dX1_isBurnt_6 (by decide) rfl ?_
  refine zf_iload hC dX1_isBurnt_8 0 rfl ?_
  refine zf_iconst hC (v := (-1)) dX1_isBurnt_10 rfl ?_
  refine zf_icmp_eq hC (tgt := 24) dX1_isBurnt_11 (by decide) (fun h4 => ?_) (fun h4 => ?_)
  · refine zf_iconst hC (v := 0) dX1_isBurnt_24 rfl ?_
    exact zf_zret hC rfl false rfl dX1_isBurnt_25
  · refine zf_iload hC dX1_isBurnt_14 0 rfl ?_
    refine zf_iload_n hC dX1_isBurnt_16 rfl 3 rfl ?_
    refine zf_icmp_gt hC (tgt := 24) dX1_isBurnt_17 (by decide) (fun h5 => ?_) (fun h5 => ?_)
    · refine zf_iconst hC (v := 0) dX1_isBurnt_24 rfl ?_
      exact zf_zret hC rfl false rfl dX1_isBurnt_25
    · refine zf_iconst hC (v := 1) dX1_isBurnt_20 rfl ?_
      refine zf_goto hC (tgt := 25) dX1_isBurnt_21 (by decide) ?_
      exact zf_zret hC rfl true rfl dX1_isBurnt_25
/-! LifeKeys.Keys.maySign -/
theorem dX1_maySign_0 : decode cX1_maySign 0 = .ok (.aload_n 0, 1) := by decide +kernel
theorem dX1_maySign_1 : decode cX1_maySign 1 = .ok (.iload_n 1, 1) := by decide +kernel
theorem dX1_maySign_2 : decode cX1_maySign 2 = .ok (.iload_n 2, 1) := by decide +kernel
theorem dX1_maySign_3 : decode cX1_maySign 3 = .ok (.iload_n 2, 1) := by decide +kernel
theorem dX1_maySign_4 : decode cX1_maySign 4 = .ok (.invokevirtual 53, 3) := by decide +kernel
theorem dX1_maySign_7 : decode cX1_maySign 7 = .ok (.ifCond .ne 17, 3) := by decide +kernel
theorem dX1_maySign_10 : decode cX1_maySign 10 = .ok (.aload_n 0, 1) := by decide +kernel
theorem dX1_maySign_11 : decode cX1_maySign 11 = .ok (.getfield 24, 3) := by decide +kernel
theorem dX1_maySign_14 : decode cX1_maySign 14 = .ok (.iload_n 1, 1) := by decide +kernel
theorem dX1_maySign_15 : decode cX1_maySign 15 = .ok (.iaload, 1) := by decide +kernel
theorem dX1_maySign_16 : decode cX1_maySign 16 = .ok (.iconst (-1), 1) := by decide +kernel
theorem dX1_maySign_17 : decode cX1_maySign 17 = .ok (.if_icmp .ne 7, 3) := by decide +kernel
theorem dX1_maySign_20 : decode cX1_maySign 20 = .ok (.iconst 1, 1) := by decide +kernel
theorem dX1_maySign_21 : decode cX1_maySign 21 = .ok (.goto 4, 3) := by decide +kernel
theorem dX1_maySign_24 : decode cX1_maySign 24 = .ok (.iconst 0, 1) := by decide +kernel
theorem dX1_maySign_25 : decode cX1_maySign 25 = .ok (.ireturn, 1) := by decide +kernel
def fX1_maySign (k : ST) (a0 : Int32) (a1 : Int32) : Option (Bool × ST) := ob (fX1_isBurnt k a0 a1 a1) fun r1 k2 => if r1 = true then some (false, k2) else ck (inb a0 40) (if (gA k2 4 (ix a0)) = (-1) then some (true, k2) else some (false, k2))
set_option maxRecDepth 20000 in
theorem c_X1_maySign (l : Launch) (g : GT) (a0 : Int32) (a1 : Int32) : CN l yX1_maySign cX1_maySign 3 (some .boolean) { frames := 2, cells := 0, slots := 0, locals := 48 } g TK voB [.ref (g.2.1 0), .int a0, .int a1] (fun k => fX1_maySign k a0 a1) := by
  refine cn_of (by decide) (Nat.le_of_ble_eq_true rfl) ?_
  intro p e s m args below meth c hC k
  have hC : HC p s m args meth c cX1_maySign 3 RX1 (some .boolean) g := hC
  have hR : 2 ≤ ({ frames := 2, cells := 0, slots := 0, locals := 48 } : Room).frames ∧ 48 ≤ ({ frames := 2, cells := 0, slots := 0, locals := 48 } : Room).locals := ⟨Nat.le_refl _, Nat.le_refl _⟩
  show ZF p l e _ s m args below meth c g TK voB 3 k 0 [(0, .ref (g.2.1 0)), (1, .int a0), (2, .int a1)] [] (fX1_maySign k a0 a1)
  unfold fX1_maySign
  refine zf_aload_n hC dX1_maySign_0 rfl 0 rfl ?_
  refine zf_iload_n hC dX1_maySign_1 rfl 1 rfl ?_
  refine zf_iload_n hC dX1_maySign_2 rfl 2 rfl ?_
  refine zf_iload_n hC dX1_maySign_3 rfl 2 rfl ?_
  refine zf_callV hC (c_X1_isBurnt l g a0 a1 a1) mt_X1_isBurnt wd_933 wd_934 ci_0 ic_0 wd_932 rfl (rm_le hR rfl) rfl rfl (rest := []) rfl (Nat.le_of_ble_eq_true rfl) dX1_maySign_4 (fun r1 k2 h3 => ?_)
  refine zf_ifb_ne hC (tgt := 24) dX1_maySign_7 (by decide) (fun h4 => ?_) (fun h4 => ?_)
  · refine zf_iconst hC (v := 0) dX1_maySign_24 rfl ?_
    exact zf_zret hC rfl false rfl dX1_maySign_25
  · refine zf_aload_n hC dX1_maySign_10 rfl 0 rfl ?_
    refine gf_64 hC dX1_maySign_11 ?_
    refine zf_iload_n hC dX1_maySign_14 rfl 1 rfl ?_
    refine zf_iald hC (j := 4) ia_4 rfl rfl dX1_maySign_15 (fun h5 => ?_)
    refine zf_iconst hC (v := (-1)) dX1_maySign_16 rfl ?_
    refine zf_icmp_ne hC (tgt := 24) dX1_maySign_17 (by decide) (fun h6 => ?_) (fun h6 => ?_)
    · refine zf_iconst hC (v := 1) dX1_maySign_20 rfl ?_
      refine zf_goto hC (tgt := 25) dX1_maySign_21 (by decide) ?_
      exact zf_zret hC rfl true rfl dX1_maySign_25
    · refine zf_iconst hC (v := 0) dX1_maySign_24 rfl ?_
      exact zf_zret hC rfl false rfl dX1_maySign_25
/-! LifeKeys.Signatures.isFull -/
theorem dX7_isFull_0 : decode cX7_isFull 0 = .ok (.aload_n 0, 1) := by decide +kernel
theorem dX7_isFull_1 : decode cX7_isFull 1 = .ok (.getfield 30, 3) := by decide +kernel
theorem dX7_isFull_4 : decode cX7_isFull 4 = .ok (.bipush 80, 2) := by decide +kernel
theorem dX7_isFull_6 : decode cX7_isFull 6 = .ok (.if_icmp .lt 7, 3) := by decide +kernel
theorem dX7_isFull_9 : decode cX7_isFull 9 = .ok (.iconst 1, 1) := by decide +kernel
theorem dX7_isFull_10 : decode cX7_isFull 10 = .ok (.goto 4, 3) := by decide +kernel
theorem dX7_isFull_13 : decode cX7_isFull 13 = .ok (.iconst 0, 1) := by decide +kernel
theorem dX7_isFull_14 : decode cX7_isFull 14 = .ok (.ireturn, 1) := by decide +kernel
def fX7_isFull (k : ST)  : Option (Bool × ST) := if (gI k 6 0) < 80 then some (false, k) else some (true, k)
set_option maxRecDepth 20000 in
theorem c_X7_isFull (l : Launch) (g : GT)  : CN l yX7_isFull cX7_isFull 1 (some .boolean) { frames := 0, cells := 0, slots := 0, locals := 0 } g TK voB [.ref (g.2.1 6)] (fun k => fX7_isFull k) := by
  refine cn_of (by decide) (Nat.le_of_ble_eq_true rfl) ?_
  intro p e s m args below meth c hC k
  have hC : HC p s m args meth c cX7_isFull 1 RX7 (some .boolean) g := hC
  have hR : 0 ≤ ({ frames := 0, cells := 0, slots := 0, locals := 0 } : Room).frames ∧ 0 ≤ ({ frames := 0, cells := 0, slots := 0, locals := 0 } : Room).locals := ⟨Nat.le_refl _, Nat.le_refl _⟩
  show ZF p l e _ s m args below meth c g TK voB 1 k 0 [(0, .ref (g.2.1 6))] [] (fX7_isFull k)
  unfold fX7_isFull
  refine zf_aload_n hC dX7_isFull_0 rfl 0 rfl ?_
  refine gf_296 hC dX7_isFull_1 ?_
  refine zf_bipush hC (v := 80) dX7_isFull_4 rfl ?_
  refine zf_icmp_lt hC (tgt := 13) dX7_isFull_6 (by decide) (fun h1 => ?_) (fun h1 => ?_)
  · refine zf_iconst hC (v := 0) dX7_isFull_13 rfl ?_
    exact zf_zret hC rfl false rfl dX7_isFull_14
  · refine zf_iconst hC (v := 1) dX7_isFull_9 rfl ?_
    refine zf_goto hC (tgt := 14) dX7_isFull_10 (by decide) ?_
    exact zf_zret hC rfl true rfl dX7_isFull_14
/-! LifeKeys.Signatures.add -/
theorem dX7_add_0 : decode cX7_add 0 = .ok (.aload_n 0, 1) := by decide +kernel
theorem dX7_add_1 : decode cX7_add 1 = .ok (.invokevirtual 34, 3) := by decide +kernel
theorem dX7_add_4 : decode cX7_add 4 = .ok (.ifCond .eq 5, 3) := by decide +kernel
theorem dX7_add_7 : decode cX7_add 7 = .ok (.iconst (-1), 1) := by decide +kernel
theorem dX7_add_8 : decode cX7_add 8 = .ok (.ireturn, 1) := by decide +kernel
theorem dX7_add_9 : decode cX7_add 9 = .ok (.aload_n 0, 1) := by decide +kernel
theorem dX7_add_10 : decode cX7_add 10 = .ok (.getfield 11, 3) := by decide +kernel
theorem dX7_add_13 : decode cX7_add 13 = .ok (.aload_n 0, 1) := by decide +kernel
theorem dX7_add_14 : decode cX7_add 14 = .ok (.getfield 30, 3) := by decide +kernel
theorem dX7_add_17 : decode cX7_add 17 = .ok (.iload_n 1, 1) := by decide +kernel
theorem dX7_add_18 : decode cX7_add 18 = .ok (.iastore, 1) := by decide +kernel
theorem dX7_add_19 : decode cX7_add 19 = .ok (.aload_n 0, 1) := by decide +kernel
theorem dX7_add_20 : decode cX7_add 20 = .ok (.getfield 15, 3) := by decide +kernel
theorem dX7_add_23 : decode cX7_add 23 = .ok (.aload_n 0, 1) := by decide +kernel
theorem dX7_add_24 : decode cX7_add 24 = .ok (.getfield 30, 3) := by decide +kernel
theorem dX7_add_27 : decode cX7_add 27 = .ok (.iload_n 2, 1) := by decide +kernel
theorem dX7_add_28 : decode cX7_add 28 = .ok (.iastore, 1) := by decide +kernel
theorem dX7_add_29 : decode cX7_add 29 = .ok (.aload_n 0, 1) := by decide +kernel
theorem dX7_add_30 : decode cX7_add 30 = .ok (.getfield 18, 3) := by decide +kernel
theorem dX7_add_33 : decode cX7_add 33 = .ok (.aload_n 0, 1) := by decide +kernel
theorem dX7_add_34 : decode cX7_add 34 = .ok (.getfield 30, 3) := by decide +kernel
theorem dX7_add_37 : decode cX7_add 37 = .ok (.iload_n 3, 1) := by decide +kernel
theorem dX7_add_38 : decode cX7_add 38 = .ok (.iastore, 1) := by decide +kernel
theorem dX7_add_39 : decode cX7_add 39 = .ok (.aload_n 0, 1) := by decide +kernel
theorem dX7_add_40 : decode cX7_add 40 = .ok (.getfield 21, 3) := by decide +kernel
theorem dX7_add_43 : decode cX7_add 43 = .ok (.aload_n 0, 1) := by decide +kernel
theorem dX7_add_44 : decode cX7_add 44 = .ok (.getfield 30, 3) := by decide +kernel
theorem dX7_add_47 : decode cX7_add 47 = .ok (.iload 4, 2) := by decide +kernel
theorem dX7_add_49 : decode cX7_add 49 = .ok (.iastore, 1) := by decide +kernel
theorem dX7_add_50 : decode cX7_add 50 = .ok (.aload_n 0, 1) := by decide +kernel
theorem dX7_add_51 : decode cX7_add 51 = .ok (.getfield 24, 3) := by decide +kernel
theorem dX7_add_54 : decode cX7_add 54 = .ok (.aload_n 0, 1) := by decide +kernel
theorem dX7_add_55 : decode cX7_add 55 = .ok (.getfield 30, 3) := by decide +kernel
theorem dX7_add_58 : decode cX7_add 58 = .ok (.iload 5, 2) := by decide +kernel
theorem dX7_add_60 : decode cX7_add 60 = .ok (.iastore, 1) := by decide +kernel
theorem dX7_add_61 : decode cX7_add 61 = .ok (.aload_n 0, 1) := by decide +kernel
theorem dX7_add_62 : decode cX7_add 62 = .ok (.dup, 1) := by decide +kernel
theorem dX7_add_63 : decode cX7_add 63 = .ok (.getfield 30, 3) := by decide +kernel
theorem dX7_add_66 : decode cX7_add 66 = .ok (.iconst 1, 1) := by decide +kernel
theorem dX7_add_67 : decode cX7_add 67 = .ok (.iadd, 1) := by decide +kernel
theorem dX7_add_68 : decode cX7_add 68 = .ok (.putfield 30, 3) := by decide +kernel
theorem dX7_add_71 : decode cX7_add 71 = .ok (.aload_n 0, 1) := by decide +kernel
theorem dX7_add_72 : decode cX7_add 72 = .ok (.getfield 30, 3) := by decide +kernel
theorem dX7_add_75 : decode cX7_add 75 = .ok (.iconst 1, 1) := by decide +kernel
theorem dX7_add_76 : decode cX7_add 76 = .ok (.isub, 1) := by decide +kernel
theorem dX7_add_77 : decode cX7_add 77 = .ok (.ireturn, 1) := by decide +kernel
def fX7_add (k : ST) (a0 : Int32) (a1 : Int32) (a2 : Int32) (a3 : Int32) (a4 : Int32) : Option (Int32 × ST) := ob (fX7_isFull k) fun r1 k2 => if r1 = true then some ((-1), k2) else ck (inb (gI k2 6 0) 80) (nm (sA k2 37 (ix (gI k2 6 0)) a0) fun k6 => ck (inb (gI k6 6 0) 80) (nm (sA k6 38 (ix (gI k6 6 0)) a1) fun k8 => ck (inb (gI k8 6 0) 80) (nm (sA k8 39 (ix (gI k8 6 0)) a2) fun k10 => ck (inb (gI k10 6 0) 80) (nm (sA k10 40 (ix (gI k10 6 0)) a3) fun k12 => ck (inb (gI k12 6 0) 80) (nm (sA k12 41 (ix (gI k12 6 0)) a4) fun k14 => nm (sI k14 6 0 ((gI k14 6 0) + 1)) fun k15 => some ((gI k15 6 0) - 1, k15))))))
set_option maxRecDepth 20000 in
theorem c_X7_add (l : Launch) (g : GT) (a0 : Int32) (a1 : Int32) (a2 : Int32) (a3 : Int32) (a4 : Int32) : CN l yX7_add cX7_add 6 (some .int) { frames := 1, cells := 0, slots := 0, locals := 20 } g TK voI [.ref (g.2.1 6), .int a0, .int a1, .int a2, .int a3, .int a4] (fun k => fX7_add k a0 a1 a2 a3 a4) := by
  refine cn_of (by decide) (Nat.le_of_ble_eq_true rfl) ?_
  intro p e s m args below meth c hC k
  have hC : HC p s m args meth c cX7_add 6 RX7 (some .int) g := hC
  have hR : 1 ≤ ({ frames := 1, cells := 0, slots := 0, locals := 20 } : Room).frames ∧ 20 ≤ ({ frames := 1, cells := 0, slots := 0, locals := 20 } : Room).locals := ⟨Nat.le_refl _, Nat.le_refl _⟩
  show ZF p l e _ s m args below meth c g TK voI 6 k 0 [(0, .ref (g.2.1 6)), (1, .int a0), (2, .int a1), (3, .int a2), (4, .int a3), (5, .int a4)] [] (fX7_add k a0 a1 a2 a3 a4)
  unfold fX7_add
  refine zf_aload_n hC dX7_add_0 rfl 0 rfl ?_
  refine zf_callV hC (c_X7_isFull l g) mt_X7_isFull wd_954 wd_955 ci_6 ic_6 wd_953 rfl (rm_le hR rfl) rfl rfl (rest := []) rfl (Nat.le_of_ble_eq_true rfl) dX7_add_1 (fun r1 k2 h3 => ?_)
  refine zf_ifb_eq hC (tgt := 9) dX7_add_4 (by decide) (fun h4 => ?_) (fun h4 => ?_)
  · refine zf_iconst hC (v := (-1)) dX7_add_7 rfl ?_
    exact zf_iret hC rfl dX7_add_8
  · refine zf_aload_n hC dX7_add_9 rfl 0 rfl ?_
    refine gf_298 hC dX7_add_10 ?_
    refine zf_aload_n hC dX7_add_13 rfl 0 rfl ?_
    refine gf_296 hC dX7_add_14 ?_
    refine zf_iload_n hC dX7_add_17 rfl 1 rfl ?_
    refine zf_iast hC (j := 37) ia_37 rfl rfl dX7_add_18 (fun h5 => ?_)
    refine zf_nmk (fun k6 => ?_)
    refine zf_aload_n hC dX7_add_19 rfl 0 rfl ?_
    refine gf_300 hC dX7_add_20 ?_
    refine zf_aload_n hC dX7_add_23 rfl 0 rfl ?_
    refine gf_296 hC dX7_add_24 ?_
    refine zf_iload_n hC dX7_add_27 rfl 2 rfl ?_
    refine zf_iast hC (j := 38) ia_38 rfl rfl dX7_add_28 (fun h7 => ?_)
    refine zf_nmk (fun k8 => ?_)
    refine zf_aload_n hC dX7_add_29 rfl 0 rfl ?_
    refine gf_302 hC dX7_add_30 ?_
    refine zf_aload_n hC dX7_add_33 rfl 0 rfl ?_
    refine gf_296 hC dX7_add_34 ?_
    refine zf_iload_n hC dX7_add_37 rfl 3 rfl ?_
    refine zf_iast hC (j := 39) ia_39 rfl rfl dX7_add_38 (fun h9 => ?_)
    refine zf_nmk (fun k10 => ?_)
    refine zf_aload_n hC dX7_add_39 rfl 0 rfl ?_
    refine gf_304 hC dX7_add_40 ?_
    refine zf_aload_n hC dX7_add_43 rfl 0 rfl ?_
    refine gf_296 hC dX7_add_44 ?_
    refine zf_iload hC dX7_add_47 4 rfl ?_
    refine zf_iast hC (j := 40) ia_40 rfl rfl dX7_add_49 (fun h11 => ?_)
    refine zf_nmk (fun k12 => ?_)
    refine zf_aload_n hC dX7_add_50 rfl 0 rfl ?_
    refine gf_306 hC dX7_add_51 ?_
    refine zf_aload_n hC dX7_add_54 rfl 0 rfl ?_
    refine gf_296 hC dX7_add_55 ?_
    refine zf_iload hC dX7_add_58 5 rfl ?_
    refine zf_iast hC (j := 41) ia_41 rfl rfl dX7_add_60 (fun h13 => ?_)
    refine zf_nmk (fun k14 => ?_)
    refine zf_aload_n hC dX7_add_61 rfl 0 rfl ?_
    refine zf_dup hC dX7_add_62 rfl ?_
    refine gf_296 hC dX7_add_63 ?_
    refine zf_iconst hC (v := 1) dX7_add_66 rfl ?_
    refine zf_iadd hC dX7_add_67 ?_
    refine pf_296 hC dX7_add_68 ?_
    refine zf_nmk (fun k15 => ?_)
    refine zf_aload_n hC dX7_add_71 rfl 0 rfl ?_
    refine gf_296 hC dX7_add_72 ?_
    refine zf_iconst hC (v := 1) dX7_add_75 rfl ?_
    refine zf_isub hC dX7_add_76 ?_
    exact zf_iret hC rfl dX7_add_77
/-! LifeKeys.Signatures.drawStarts -/
theorem dX7_drawStarts_0 : decode cX7_drawStarts 0 = .ok (.iconst 1, 1) := by decide +kernel
theorem dX7_drawStarts_1 : decode cX7_drawStarts 1 = .ok (.istore 4, 2) := by decide +kernel
theorem dX7_drawStarts_3 : decode cX7_drawStarts 3 = .ok (.lload_n 2, 1) := by decide +kernel
theorem dX7_drawStarts_4 : decode cX7_drawStarts 4 = .ok (.lstore 5, 2) := by decide +kernel
theorem dX7_drawStarts_6 : decode cX7_drawStarts 6 = .ok (.iconst 0, 1) := by decide +kernel
theorem dX7_drawStarts_7 : decode cX7_drawStarts 7 = .ok (.istore 7, 2) := by decide +kernel
theorem dX7_drawStarts_9 : decode cX7_drawStarts 9 = .ok (.iload 7, 2) := by decide +kernel
theorem dX7_drawStarts_11 : decode cX7_drawStarts 11 = .ok (.bipush 12, 2) := by decide +kernel
theorem dX7_drawStarts_13 : decode cX7_drawStarts 13 = .ok (.if_icmp .ge 54, 3) := by decide +kernel
theorem dX7_drawStarts_16 : decode cX7_drawStarts 16 = .ok (.iload_n 1, 1) := by decide +kernel
theorem dX7_drawStarts_17 : decode cX7_drawStarts 17 = .ok (.iload 7, 2) := by decide +kernel
theorem dX7_drawStarts_19 : decode cX7_drawStarts 19 = .ok (.invokestatic 38, 3) := by decide +kernel
theorem dX7_drawStarts_22 : decode cX7_drawStarts 22 = .ok (.ifCond .eq 39, 3) := by decide +kernel
theorem dX7_drawStarts_25 : decode cX7_drawStarts 25 = .ok (.lload 5, 2) := by decide +kernel
theorem dX7_drawStarts_27 : decode cX7_drawStarts 27 = .ok (.invokestatic 42, 3) := by decide +kernel
theorem dX7_drawStarts_30 : decode cX7_drawStarts 30 = .ok (.lstore 5, 2) := by decide +kernel
theorem dX7_drawStarts_32 : decode cX7_drawStarts 32 = .ok (.aload_n 0, 1) := by decide +kernel
theorem dX7_drawStarts_33 : decode cX7_drawStarts 33 = .ok (.getfield 27, 3) := by decide +kernel
theorem dX7_drawStarts_36 : decode cX7_drawStarts 36 = .ok (.iload 7, 2) := by decide +kernel
theorem dX7_drawStarts_38 : decode cX7_drawStarts 38 = .ok (.lload 5, 2) := by decide +kernel
theorem dX7_drawStarts_40 : decode cX7_drawStarts 40 = .ok (.invokestatic 48, 3) := by decide +kernel
theorem dX7_drawStarts_43 : decode cX7_drawStarts 43 = .ok (.iastore, 1) := by decide +kernel
theorem dX7_drawStarts_44 : decode cX7_drawStarts 44 = .ok (.iload 4, 2) := by decide +kernel
theorem dX7_drawStarts_46 : decode cX7_drawStarts 46 = .ok (.aload_n 0, 1) := by decide +kernel
theorem dX7_drawStarts_47 : decode cX7_drawStarts 47 = .ok (.getfield 27, 3) := by decide +kernel
theorem dX7_drawStarts_50 : decode cX7_drawStarts 50 = .ok (.iload 7, 2) := by decide +kernel
theorem dX7_drawStarts_52 : decode cX7_drawStarts 52 = .ok (.iaload, 1) := by decide +kernel
theorem dX7_drawStarts_53 : decode cX7_drawStarts 53 = .ok (.invokestatic 51, 3) := by decide +kernel
theorem dX7_drawStarts_56 : decode cX7_drawStarts 56 = .ok (.invokestatic 55, 3) := by decide +kernel
theorem dX7_drawStarts_59 : decode cX7_drawStarts 59 = .ok (.istore 4, 2) := by decide +kernel
theorem dX7_drawStarts_61 : decode cX7_drawStarts 61 = .ok (.iinc 7 1, 3) := by decide +kernel
theorem dX7_drawStarts_64 : decode cX7_drawStarts 64 = .ok (.goto (-55), 3) := by decide +kernel
theorem dX7_drawStarts_67 : decode cX7_drawStarts 67 = .ok (.iload 4, 2) := by decide +kernel
theorem dX7_drawStarts_69 : decode cX7_drawStarts 69 = .ok (.ireturn, 1) := by decide +kernel
def lpX7_drawStarts_9 (v1 : Int32) (v2 : Int64) : Nat → Int32 → Int64 → Int32 → ST → (Int32 → Int64 → Int32 → ST → Option (Int32 × ST)) → Option (Int32 × ST)
  | 0, _, _, _, _, _ => none
  | n + 1, v4, v5, v7, k, cont => if 12 ≤ v7 then cont v4 v5 v7 k else ob (fX11_hasBit k v1 v7) fun r2 k3 => if r2 = true then ob (fX0_nextSeed k3 v5) fun r6 k7 => ob (fX0_start k7 r6) fun r9 k10 => ck (inb v7 12) (nm (sA k10 42 (ix v7) r9) fun k13 => ck (inb v7 12) (ob (fX0_powerOf4 k13 (gA k13 42 (ix v7))) fun r15 k16 => ob (fX0_product k16 v4 r15) fun r18 k19 => lpX7_drawStarts_9 v1 v2 n r18 r6 (v7 + 1) k19 cont)) else lpX7_drawStarts_9 v1 v2 n v4 v5 (v7 + 1) k3 cont
set_option maxRecDepth 20000 in
theorem zlpX7_drawStarts_9 {p : Program} {l : Launch} {e : Env} {R : Room} {s : State} {m : MethodId} {args : Array Value} {below : List Frame} {meth : Method} {c : Code} {g : GT} (hC : HC p s m args meth c cX7_drawStarts 8 RX7 (some .int) g) (hR : 3 ≤ R.frames ∧ 65 ≤ R.locals) (v1 : Int32) (v2 : Int64) {cont : Int32 → Int64 → Int32 → ST → Option (Int32 × ST)} (hk : ∀ (v4 : Int32) (v5 : Int64) (v7 : Int32) (k : ST), ZF p l e R s m args below meth c g TK voI 8 k 67 [(0, .ref (g.2.1 6)), (1, .int v1), (2, .long v2), (4, .int v4), (5, .long v5), (7, .int v7)] [] (cont v4 v5 v7 k)) : ∀ (n : Nat) (v4 : Int32) (v5 : Int64) (v7 : Int32) (k : ST), ZF p l e R s m args below meth c g TK voI 8 k 9 [(0, .ref (g.2.1 6)), (1, .int v1), (2, .long v2), (4, .int v4), (5, .long v5), (7, .int v7)] [] (lpX7_drawStarts_9 v1 v2 n v4 v5 v7 k cont) := by
  intro n
  induction n with
  | zero => intros; exact zf_none
  | succ n ih =>
    intro v4 v5 v7 k
    rw [lpX7_drawStarts_9]
    refine zf_iload hC dX7_drawStarts_9 5 rfl ?_
    refine zf_bipush hC (v := 12) dX7_drawStarts_11 rfl ?_
    refine zf_icmp_ge hC (tgt := 67) dX7_drawStarts_13 (by decide) (fun h1 => ?_) (fun h1 => ?_)
    · refine zf_lv (LV' := [(0, .ref (g.2.1 6)), (1, .int v1), (2, .long v2), (4, .int v4), (5, .long v5), (7, .int v7)]) [0, 1, 2, 3, 4, 5] rfl ?_
      exact hk v4 v5 v7 k
    · refine zf_iload_n hC dX7_drawStarts_16 rfl 1 rfl ?_
      refine zf_iload hC dX7_drawStarts_17 5 rfl ?_
      refine zf_callSN hC (c_X11_hasBit l g TK v1 v7) mt_X11_hasBit wd_613 wd_974 rfl (rm_le hR rfl) rfl rfl (rest := []) rfl (Nat.le_of_ble_eq_true rfl) dX7_drawStarts_19 (fun r2 k3 h4 => ?_)
      refine zf_ifb_eq hC (tgt := 61) dX7_drawStarts_22 (by decide) (fun h5 => ?_) (fun h5 => ?_)
      · refine zf_lload hC dX7_drawStarts_25 4 rfl ?_
        refine zf_callS hC (c_X0_nextSeed l g TK v5) mt_X0_nextSeed wd_591 wd_975 rfl (rm_le hR rfl) rfl rfl (rest := []) rfl (Nat.le_of_ble_eq_true rfl) dX7_drawStarts_27 (fun r6 k7 h8 => ?_)
        refine zf_lstore hC (LV' := [(5, .long r6), (0, .ref (g.2.1 6)), (1, .int v1), (2, .long v2), (4, .int v4), (7, .int v7)]) dX7_drawStarts_30 (by decide) rfl ?_
        refine zf_aload_n hC dX7_drawStarts_32 rfl 1 rfl ?_
        refine gf_308 hC dX7_drawStarts_33 ?_
        refine zf_iload hC dX7_drawStarts_36 5 rfl ?_
        refine zf_lload hC dX7_drawStarts_38 0 rfl ?_
        refine zf_callS hC (c_X0_start l g TK r6) mt_X0_start wd_977 wd_976 rfl (rm_le hR rfl) rfl rfl (rest := [.int v7, .ref (g.2.1 54)]) rfl (Nat.le_of_ble_eq_true rfl) dX7_drawStarts_40 (fun r9 k10 h11 => ?_)
        refine zf_iast hC (j := 42) ia_42 rfl rfl dX7_drawStarts_43 (fun h12 => ?_)
        refine zf_nmk (fun k13 => ?_)
        refine zf_iload hC dX7_drawStarts_44 4 rfl ?_
        refine zf_aload_n hC dX7_drawStarts_46 rfl 1 rfl ?_
        refine gf_308 hC dX7_drawStarts_47 ?_
        refine zf_iload hC dX7_drawStarts_50 5 rfl ?_
        refine zf_iald hC (j := 42) ia_42 rfl rfl dX7_drawStarts_52 (fun h14 => ?_)
        refine zf_callS hC (c_X0_powerOf4 l g TK (gA k13 42 (ix v7))) mt_X0_powerOf4 wd_635 wd_980 rfl (rm_le hR rfl) rfl rfl (rest := [.int v4]) rfl (Nat.le_of_ble_eq_true rfl) dX7_drawStarts_53 (fun r15 k16 h17 => ?_)
        refine zf_callS hC (c_X0_product l g TK v4 r15) mt_X0_product wd_641 wd_981 rfl (rm_le hR rfl) rfl rfl (rest := []) rfl (Nat.le_of_ble_eq_true rfl) dX7_drawStarts_56 (fun r18 k19 h20 => ?_)
        refine zf_istore hC (LV' := [(4, .int r18), (5, .long r6), (0, .ref (g.2.1 6)), (1, .int v1), (2, .long v2), (7, .int v7)]) dX7_drawStarts_59 (by decide) rfl ?_
        refine zf_iinc hC (q := 5) (v := v7 + 1) (LV' := [(7, .int (v7 + 1)), (4, .int r18), (5, .long r6), (0, .ref (g.2.1 6)), (1, .int v1), (2, .long v2)]) dX7_drawStarts_61 rfl rfl (by decide) rfl ?_
        refine zf_goto hC (tgt := 9) dX7_drawStarts_64 (by decide) ?_
        refine zf_lv (LV' := [(0, .ref (g.2.1 6)), (1, .int v1), (2, .long v2), (4, .int r18), (5, .long r6), (7, .int (v7 + 1))]) [3, 4, 5, 1, 2, 0] rfl ?_
        exact ih r18 r6 (v7 + 1) k19
      · refine zf_iinc hC (q := 5) (v := v7 + 1) (LV' := [(7, .int (v7 + 1)), (0, .ref (g.2.1 6)), (1, .int v1), (2, .long v2), (4, .int v4), (5, .long v5)]) dX7_drawStarts_61 rfl rfl (by decide) rfl ?_
        refine zf_goto hC (tgt := 9) dX7_drawStarts_64 (by decide) ?_
        refine zf_lv (LV' := [(0, .ref (g.2.1 6)), (1, .int v1), (2, .long v2), (4, .int v4), (5, .long v5), (7, .int (v7 + 1))]) [1, 2, 3, 4, 5, 0] rfl ?_
        exact ih v4 v5 (v7 + 1) k3
def fX7_drawStarts (k : ST) (a0 : Int32) (a1 : Int64) : Option (Int32 × ST) := lpX7_drawStarts_9 a0 a1 FU 1 a1 0 k fun y21 y22 y23 k24 => some (y21, k24)
set_option maxRecDepth 20000 in
theorem c_X7_drawStarts (l : Launch) (g : GT) (a0 : Int32) (a1 : Int64) : CN l yX7_drawStarts cX7_drawStarts 8 (some .int) { frames := 3, cells := 0, slots := 0, locals := 65 } g TK voI [.ref (g.2.1 6), .int a0, .long a1] (fun k => fX7_drawStarts k a0 a1) := by
  refine cn_of (by decide) (Nat.le_of_ble_eq_true rfl) ?_
  intro p e s m args below meth c hC k
  have hC : HC p s m args meth c cX7_drawStarts 8 RX7 (some .int) g := hC
  have hR : 3 ≤ ({ frames := 3, cells := 0, slots := 0, locals := 65 } : Room).frames ∧ 65 ≤ ({ frames := 3, cells := 0, slots := 0, locals := 65 } : Room).locals := ⟨Nat.le_refl _, Nat.le_refl _⟩
  show ZF p l e _ s m args below meth c g TK voI 8 k 0 [(0, .ref (g.2.1 6)), (1, .int a0), (2, .long a1)] [] (fX7_drawStarts k a0 a1)
  unfold fX7_drawStarts
  refine zf_iconst hC (v := 1) dX7_drawStarts_0 rfl ?_
  refine zf_istore hC (LV' := [(4, .int 1), (0, .ref (g.2.1 6)), (1, .int a0), (2, .long a1)]) dX7_drawStarts_1 (by decide) rfl ?_
  refine zf_lload_n hC dX7_drawStarts_3 rfl 3 rfl ?_
  refine zf_lstore hC (LV' := [(5, .long a1), (4, .int 1), (0, .ref (g.2.1 6)), (1, .int a0), (2, .long a1)]) dX7_drawStarts_4 (by decide) rfl ?_
  refine zf_iconst hC (v := 0) dX7_drawStarts_6 rfl ?_
  refine zf_istore hC (LV' := [(7, .int 0), (5, .long a1), (4, .int 1), (0, .ref (g.2.1 6)), (1, .int a0), (2, .long a1)]) dX7_drawStarts_7 (by decide) rfl ?_
  refine zf_lv (LV' := [(0, .ref (g.2.1 6)), (1, .int a0), (2, .long a1), (4, .int 1), (5, .long a1), (7, .int 0)]) [3, 4, 5, 2, 1, 0] rfl ?_
  refine zlpX7_drawStarts_9 hC hR a0 a1 (fun y21 y22 y23 k24 => ?_) FU 1 a1 0 k
  refine zf_iload hC dX7_drawStarts_67 3 rfl ?_
  exact zf_iret hC rfl dX7_drawStarts_69
/-! LifeKeys.Signatures.knows -/
theorem dX7_knows_0 : decode cX7_knows 0 = .ok (.iload_n 1, 1) := by decide +kernel
theorem dX7_knows_1 : decode cX7_knows 1 = .ok (.ifCond .lt 15, 3) := by decide +kernel
theorem dX7_knows_4 : decode cX7_knows 4 = .ok (.iload_n 1, 1) := by decide +kernel
theorem dX7_knows_5 : decode cX7_knows 5 = .ok (.aload_n 0, 1) := by decide +kernel
theorem dX7_knows_6 : decode cX7_knows 6 = .ok (.getfield 30, 3) := by decide +kernel
theorem dX7_knows_9 : decode cX7_knows 9 = .ok (.if_icmp .ge 7, 3) := by decide +kernel
theorem dX7_knows_12 : decode cX7_knows 12 = .ok (.iconst 1, 1) := by decide +kernel
theorem dX7_knows_13 : decode cX7_knows 13 = .ok (.goto 4, 3) := by decide +kernel
theorem dX7_knows_16 : decode cX7_knows 16 = .ok (.iconst 0, 1) := by decide +kernel
theorem dX7_knows_17 : decode cX7_knows 17 = .ok (.ireturn, 1) := by decide +kernel
def fX7_knows (k : ST) (a0 : Int32) : Option (Bool × ST) := if a0 < 0 then some (false, k) else if (gI k 6 0) ≤ a0 then some (false, k) else some (true, k)
set_option maxRecDepth 20000 in
theorem c_X7_knows (l : Launch) (g : GT) (a0 : Int32) : CN l yX7_knows cX7_knows 2 (some .boolean) { frames := 0, cells := 0, slots := 0, locals := 0 } g TK voB [.ref (g.2.1 6), .int a0] (fun k => fX7_knows k a0) := by
  refine cn_of (by decide) (Nat.le_of_ble_eq_true rfl) ?_
  intro p e s m args below meth c hC k
  have hC : HC p s m args meth c cX7_knows 2 RX7 (some .boolean) g := hC
  have hR : 0 ≤ ({ frames := 0, cells := 0, slots := 0, locals := 0 } : Room).frames ∧ 0 ≤ ({ frames := 0, cells := 0, slots := 0, locals := 0 } : Room).locals := ⟨Nat.le_refl _, Nat.le_refl _⟩
  show ZF p l e _ s m args below meth c g TK voB 2 k 0 [(0, .ref (g.2.1 6)), (1, .int a0)] [] (fX7_knows k a0)
  unfold fX7_knows
  refine zf_iload_n hC dX7_knows_0 rfl 1 rfl ?_
  refine zf_if_lt hC (tgt := 16) dX7_knows_1 (by decide) (fun h1 => ?_) (fun h1 => ?_)
  · refine zf_iconst hC (v := 0) dX7_knows_16 rfl ?_
    exact zf_zret hC rfl false rfl dX7_knows_17
  · refine zf_iload_n hC dX7_knows_4 rfl 1 rfl ?_
    refine zf_aload_n hC dX7_knows_5 rfl 0 rfl ?_
    refine gf_296 hC dX7_knows_6 ?_
    refine zf_icmp_ge hC (tgt := 16) dX7_knows_9 (by decide) (fun h2 => ?_) (fun h2 => ?_)
    · refine zf_iconst hC (v := 0) dX7_knows_16 rfl ?_
      exact zf_zret hC rfl false rfl dX7_knows_17
    · refine zf_iconst hC (v := 1) dX7_knows_12 rfl ?_
      refine zf_goto hC (tgt := 17) dX7_knows_13 (by decide) ?_
      exact zf_zret hC rfl true rfl dX7_knows_17
/-! LifeKeys.Keys.publicOf -/
theorem dX1_publicOf_0 : decode cX1_publicOf 0 = .ok (.aload_n 0, 1) := by decide +kernel
theorem dX1_publicOf_1 : decode cX1_publicOf 1 = .ok (.getfield 11, 3) := by decide +kernel
theorem dX1_publicOf_4 : decode cX1_publicOf 4 = .ok (.iload_n 1, 1) := by decide +kernel
theorem dX1_publicOf_5 : decode cX1_publicOf 5 = .ok (.iaload, 1) := by decide +kernel
theorem dX1_publicOf_6 : decode cX1_publicOf 6 = .ok (.invokestatic 42, 3) := by decide +kernel
theorem dX1_publicOf_9 : decode cX1_publicOf 9 = .ok (.ireturn, 1) := by decide +kernel
def fX1_publicOf (k : ST) (a0 : Int32) : Option (Int32 × ST) := ck (inb a0 40) (ob (fX0_powerOf4 k (gA k 0 (ix a0))) fun r2 k3 => some (r2, k3))
set_option maxRecDepth 20000 in
theorem c_X1_publicOf (l : Launch) (g : GT) (a0 : Int32) : CN l yX1_publicOf cX1_publicOf 2 (some .int) { frames := 3, cells := 0, slots := 0, locals := 65 } g TK voI [.ref (g.2.1 0), .int a0] (fun k => fX1_publicOf k a0) := by
  refine cn_of (by decide) (Nat.le_of_ble_eq_true rfl) ?_
  intro p e s m args below meth c hC k
  have hC : HC p s m args meth c cX1_publicOf 2 RX1 (some .int) g := hC
  have hR : 3 ≤ ({ frames := 3, cells := 0, slots := 0, locals := 65 } : Room).frames ∧ 65 ≤ ({ frames := 3, cells := 0, slots := 0, locals := 65 } : Room).locals := ⟨Nat.le_refl _, Nat.le_refl _⟩
  show ZF p l e _ s m args below meth c g TK voI 2 k 0 [(0, .ref (g.2.1 0)), (1, .int a0)] [] (fX1_publicOf k a0)
  unfold fX1_publicOf
  refine zf_aload_n hC dX1_publicOf_0 rfl 0 rfl ?_
  refine gf_54 hC dX1_publicOf_1 ?_
  refine zf_iload_n hC dX1_publicOf_4 rfl 1 rfl ?_
  refine zf_iald hC (j := 0) ia_0 rfl rfl dX1_publicOf_5 (fun h1 => ?_)
  refine zf_callS hC (c_X0_powerOf4 l g TK (gA k 0 (ix a0))) mt_X0_powerOf4 wd_635 wd_1011 rfl (rm_le hR rfl) rfl rfl (rest := []) rfl (Nat.le_of_ble_eq_true rfl) dX1_publicOf_6 (fun r2 k3 h4 => ?_)
  exact zf_iret hC rfl dX1_publicOf_9
/-! LifeKeys.Keys.addBurn -/
theorem dX1_addBurn_0 : decode cX1_addBurn 0 = .ok (.aload_n 0, 1) := by decide +kernel
theorem dX1_addBurn_1 : decode cX1_addBurn 1 = .ok (.getfield 46, 3) := by decide +kernel
theorem dX1_addBurn_4 : decode cX1_addBurn 4 = .ok (.bipush 60, 2) := by decide +kernel
theorem dX1_addBurn_6 : decode cX1_addBurn 6 = .ok (.if_icmp .lt 5, 3) := by decide +kernel
theorem dX1_addBurn_9 : decode cX1_addBurn 9 = .ok (.iconst 0, 1) := by decide +kernel
theorem dX1_addBurn_10 : decode cX1_addBurn 10 = .ok (.ireturn, 1) := by decide +kernel
theorem dX1_addBurn_11 : decode cX1_addBurn 11 = .ok (.aload_n 0, 1) := by decide +kernel
theorem dX1_addBurn_12 : decode cX1_addBurn 12 = .ok (.getfield 27, 3) := by decide +kernel
theorem dX1_addBurn_15 : decode cX1_addBurn 15 = .ok (.aload_n 0, 1) := by decide +kernel
theorem dX1_addBurn_16 : decode cX1_addBurn 16 = .ok (.getfield 46, 3) := by decide +kernel
theorem dX1_addBurn_19 : decode cX1_addBurn 19 = .ok (.iload_n 1, 1) := by decide +kernel
theorem dX1_addBurn_20 : decode cX1_addBurn 20 = .ok (.iastore, 1) := by decide +kernel
theorem dX1_addBurn_21 : decode cX1_addBurn 21 = .ok (.aload_n 0, 1) := by decide +kernel
theorem dX1_addBurn_22 : decode cX1_addBurn 22 = .ok (.getfield 30, 3) := by decide +kernel
theorem dX1_addBurn_25 : decode cX1_addBurn 25 = .ok (.aload_n 0, 1) := by decide +kernel
theorem dX1_addBurn_26 : decode cX1_addBurn 26 = .ok (.getfield 46, 3) := by decide +kernel
theorem dX1_addBurn_29 : decode cX1_addBurn 29 = .ok (.iload_n 2, 1) := by decide +kernel
theorem dX1_addBurn_30 : decode cX1_addBurn 30 = .ok (.iastore, 1) := by decide +kernel
theorem dX1_addBurn_31 : decode cX1_addBurn 31 = .ok (.aload_n 0, 1) := by decide +kernel
theorem dX1_addBurn_32 : decode cX1_addBurn 32 = .ok (.getfield 33, 3) := by decide +kernel
theorem dX1_addBurn_35 : decode cX1_addBurn 35 = .ok (.aload_n 0, 1) := by decide +kernel
theorem dX1_addBurn_36 : decode cX1_addBurn 36 = .ok (.getfield 46, 3) := by decide +kernel
theorem dX1_addBurn_39 : decode cX1_addBurn 39 = .ok (.iload_n 3, 1) := by decide +kernel
theorem dX1_addBurn_40 : decode cX1_addBurn 40 = .ok (.iastore, 1) := by decide +kernel
theorem dX1_addBurn_41 : decode cX1_addBurn 41 = .ok (.aload_n 0, 1) := by decide +kernel
theorem dX1_addBurn_42 : decode cX1_addBurn 42 = .ok (.dup, 1) := by decide +kernel
theorem dX1_addBurn_43 : decode cX1_addBurn 43 = .ok (.getfield 46, 3) := by decide +kernel
theorem dX1_addBurn_46 : decode cX1_addBurn 46 = .ok (.iconst 1, 1) := by decide +kernel
theorem dX1_addBurn_47 : decode cX1_addBurn 47 = .ok (.iadd, 1) := by decide +kernel
theorem dX1_addBurn_48 : decode cX1_addBurn 48 = .ok (.putfield 46, 3) := by decide +kernel
theorem dX1_addBurn_51 : decode cX1_addBurn 51 = .ok (.iconst 1, 1) := by decide +kernel
theorem dX1_addBurn_52 : decode cX1_addBurn 52 = .ok (.ireturn, 1) := by decide +kernel
def fX1_addBurn (k : ST) (a0 : Int32) (a1 : Int32) (a2 : Int32) : Option (Bool × ST) := if (gI k 0 6) < 60 then ck (inb (gI k 0 6) 60) (nm (sA k 5 (ix (gI k 0 6)) a0) fun k3 => ck (inb (gI k3 0 6) 60) (nm (sA k3 6 (ix (gI k3 0 6)) a1) fun k5 => ck (inb (gI k5 0 6) 60) (nm (sA k5 7 (ix (gI k5 0 6)) a2) fun k7 => nm (sI k7 0 6 ((gI k7 0 6) + 1)) fun k8 => some (true, k8)))) else some (false, k)
set_option maxRecDepth 20000 in
theorem c_X1_addBurn (l : Launch) (g : GT) (a0 : Int32) (a1 : Int32) (a2 : Int32) : CN l yX1_addBurn cX1_addBurn 4 (some .boolean) { frames := 0, cells := 0, slots := 0, locals := 0 } g TK voB [.ref (g.2.1 0), .int a0, .int a1, .int a2] (fun k => fX1_addBurn k a0 a1 a2) := by
  refine cn_of (by decide) (Nat.le_of_ble_eq_true rfl) ?_
  intro p e s m args below meth c hC k
  have hC : HC p s m args meth c cX1_addBurn 4 RX1 (some .boolean) g := hC
  have hR : 0 ≤ ({ frames := 0, cells := 0, slots := 0, locals := 0 } : Room).frames ∧ 0 ≤ ({ frames := 0, cells := 0, slots := 0, locals := 0 } : Room).locals := ⟨Nat.le_refl _, Nat.le_refl _⟩
  show ZF p l e _ s m args below meth c g TK voB 4 k 0 [(0, .ref (g.2.1 0)), (1, .int a0), (2, .int a1), (3, .int a2)] [] (fX1_addBurn k a0 a1 a2)
  unfold fX1_addBurn
  refine zf_aload_n hC dX1_addBurn_0 rfl 0 rfl ?_
  refine gf_66 hC dX1_addBurn_1 ?_
  refine zf_bipush hC (v := 60) dX1_addBurn_4 rfl ?_
  refine zf_icmp_lt hC (tgt := 11) dX1_addBurn_6 (by decide) (fun h1 => ?_) (fun h1 => ?_)
  · refine zf_aload_n hC dX1_addBurn_11 rfl 0 rfl ?_
    refine gf_67 hC dX1_addBurn_12 ?_
    refine zf_aload_n hC dX1_addBurn_15 rfl 0 rfl ?_
    refine gf_66 hC dX1_addBurn_16 ?_
    refine zf_iload_n hC dX1_addBurn_19 rfl 1 rfl ?_
    refine zf_iast hC (j := 5) ia_5 rfl rfl dX1_addBurn_20 (fun h2 => ?_)
    refine zf_nmk (fun k3 => ?_)
    refine zf_aload_n hC dX1_addBurn_21 rfl 0 rfl ?_
    refine gf_68 hC dX1_addBurn_22 ?_
    refine zf_aload_n hC dX1_addBurn_25 rfl 0 rfl ?_
    refine gf_66 hC dX1_addBurn_26 ?_
    refine zf_iload_n hC dX1_addBurn_29 rfl 2 rfl ?_
    refine zf_iast hC (j := 6) ia_6 rfl rfl dX1_addBurn_30 (fun h4 => ?_)
    refine zf_nmk (fun k5 => ?_)
    refine zf_aload_n hC dX1_addBurn_31 rfl 0 rfl ?_
    refine gf_69 hC dX1_addBurn_32 ?_
    refine zf_aload_n hC dX1_addBurn_35 rfl 0 rfl ?_
    refine gf_66 hC dX1_addBurn_36 ?_
    refine zf_iload_n hC dX1_addBurn_39 rfl 3 rfl ?_
    refine zf_iast hC (j := 7) ia_7 rfl rfl dX1_addBurn_40 (fun h6 => ?_)
    refine zf_nmk (fun k7 => ?_)
    refine zf_aload_n hC dX1_addBurn_41 rfl 0 rfl ?_
    refine zf_dup hC dX1_addBurn_42 rfl ?_
    refine gf_66 hC dX1_addBurn_43 ?_
    refine zf_iconst hC (v := 1) dX1_addBurn_46 rfl ?_
    refine zf_iadd hC dX1_addBurn_47 ?_
    refine pf_66 hC dX1_addBurn_48 ?_
    refine zf_nmk (fun k8 => ?_)
    refine zf_iconst hC (v := 1) dX1_addBurn_51 rfl ?_
    exact zf_zret hC rfl true rfl dX1_addBurn_52
  · refine zf_iconst hC (v := 0) dX1_addBurn_9 rfl ?_
    exact zf_zret hC rfl false rfl dX1_addBurn_10
/-! LifeKeys.Loans.add -/
theorem dX2_add_0 : decode cX2_add 0 = .ok (.aload_n 0, 1) := by decide +kernel
theorem dX2_add_1 : decode cX2_add 1 = .ok (.getfield 28, 3) := by decide +kernel
theorem dX2_add_4 : decode cX2_add 4 = .ok (.bipush 40, 2) := by decide +kernel
theorem dX2_add_6 : decode cX2_add 6 = .ok (.if_icmp .lt 5, 3) := by decide +kernel
theorem dX2_add_9 : decode cX2_add 9 = .ok (.iconst (-1), 1) := by decide +kernel
theorem dX2_add_10 : decode cX2_add 10 = .ok (.ireturn, 1) := by decide +kernel
theorem dX2_add_11 : decode cX2_add 11 = .ok (.aload_n 0, 1) := by decide +kernel
theorem dX2_add_12 : decode cX2_add 12 = .ok (.getfield 11, 3) := by decide +kernel
theorem dX2_add_15 : decode cX2_add 15 = .ok (.aload_n 0, 1) := by decide +kernel
theorem dX2_add_16 : decode cX2_add 16 = .ok (.getfield 28, 3) := by decide +kernel
theorem dX2_add_19 : decode cX2_add 19 = .ok (.iload_n 1, 1) := by decide +kernel
theorem dX2_add_20 : decode cX2_add 20 = .ok (.iastore, 1) := by decide +kernel
theorem dX2_add_21 : decode cX2_add 21 = .ok (.aload_n 0, 1) := by decide +kernel
theorem dX2_add_22 : decode cX2_add 22 = .ok (.getfield 15, 3) := by decide +kernel
theorem dX2_add_25 : decode cX2_add 25 = .ok (.aload_n 0, 1) := by decide +kernel
theorem dX2_add_26 : decode cX2_add 26 = .ok (.getfield 28, 3) := by decide +kernel
theorem dX2_add_29 : decode cX2_add 29 = .ok (.iload_n 2, 1) := by decide +kernel
theorem dX2_add_30 : decode cX2_add 30 = .ok (.iastore, 1) := by decide +kernel
theorem dX2_add_31 : decode cX2_add 31 = .ok (.aload_n 0, 1) := by decide +kernel
theorem dX2_add_32 : decode cX2_add 32 = .ok (.getfield 18, 3) := by decide +kernel
theorem dX2_add_35 : decode cX2_add 35 = .ok (.aload_n 0, 1) := by decide +kernel
theorem dX2_add_36 : decode cX2_add 36 = .ok (.getfield 28, 3) := by decide +kernel
theorem dX2_add_39 : decode cX2_add 39 = .ok (.iload_n 3, 1) := by decide +kernel
theorem dX2_add_40 : decode cX2_add 40 = .ok (.iastore, 1) := by decide +kernel
theorem dX2_add_41 : decode cX2_add 41 = .ok (.aload_n 0, 1) := by decide +kernel
theorem dX2_add_42 : decode cX2_add 42 = .ok (.getfield 21, 3) := by decide +kernel
theorem dX2_add_45 : decode cX2_add 45 = .ok (.aload_n 0, 1) := by decide +kernel
theorem dX2_add_46 : decode cX2_add 46 = .ok (.getfield 28, 3) := by decide +kernel
theorem dX2_add_49 : decode cX2_add 49 = .ok (.iload 4, 2) := by decide +kernel
theorem dX2_add_51 : decode cX2_add 51 = .ok (.iastore, 1) := by decide +kernel
theorem dX2_add_52 : decode cX2_add 52 = .ok (.aload_n 0, 1) := by decide +kernel
theorem dX2_add_53 : decode cX2_add 53 = .ok (.dup, 1) := by decide +kernel
theorem dX2_add_54 : decode cX2_add 54 = .ok (.getfield 28, 3) := by decide +kernel
theorem dX2_add_57 : decode cX2_add 57 = .ok (.iconst 1, 1) := by decide +kernel
theorem dX2_add_58 : decode cX2_add 58 = .ok (.iadd, 1) := by decide +kernel
theorem dX2_add_59 : decode cX2_add 59 = .ok (.putfield 28, 3) := by decide +kernel
theorem dX2_add_62 : decode cX2_add 62 = .ok (.aload_n 0, 1) := by decide +kernel
theorem dX2_add_63 : decode cX2_add 63 = .ok (.getfield 28, 3) := by decide +kernel
theorem dX2_add_66 : decode cX2_add 66 = .ok (.iconst 1, 1) := by decide +kernel
theorem dX2_add_67 : decode cX2_add 67 = .ok (.isub, 1) := by decide +kernel
theorem dX2_add_68 : decode cX2_add 68 = .ok (.ireturn, 1) := by decide +kernel
def fX2_add (k : ST) (a0 : Int32) (a1 : Int32) (a2 : Int32) (a3 : Int32) : Option (Int32 × ST) := if (gI k 1 0) < 40 then ck (inb (gI k 1 0) 40) (nm (sA k 8 (ix (gI k 1 0)) a0) fun k3 => ck (inb (gI k3 1 0) 40) (nm (sA k3 9 (ix (gI k3 1 0)) a1) fun k5 => ck (inb (gI k5 1 0) 40) (nm (sA k5 10 (ix (gI k5 1 0)) a2) fun k7 => ck (inb (gI k7 1 0) 40) (nm (sA k7 11 (ix (gI k7 1 0)) a3) fun k9 => nm (sI k9 1 0 ((gI k9 1 0) + 1)) fun k10 => some ((gI k10 1 0) - 1, k10))))) else some ((-1), k)
set_option maxRecDepth 20000 in
theorem c_X2_add (l : Launch) (g : GT) (a0 : Int32) (a1 : Int32) (a2 : Int32) (a3 : Int32) : CN l yX2_add cX2_add 5 (some .int) { frames := 0, cells := 0, slots := 0, locals := 0 } g TK voI [.ref (g.2.1 1), .int a0, .int a1, .int a2, .int a3] (fun k => fX2_add k a0 a1 a2 a3) := by
  refine cn_of (by decide) (Nat.le_of_ble_eq_true rfl) ?_
  intro p e s m args below meth c hC k
  have hC : HC p s m args meth c cX2_add 5 RX2 (some .int) g := hC
  have hR : 0 ≤ ({ frames := 0, cells := 0, slots := 0, locals := 0 } : Room).frames ∧ 0 ≤ ({ frames := 0, cells := 0, slots := 0, locals := 0 } : Room).locals := ⟨Nat.le_refl _, Nat.le_refl _⟩
  show ZF p l e _ s m args below meth c g TK voI 5 k 0 [(0, .ref (g.2.1 1)), (1, .int a0), (2, .int a1), (3, .int a2), (4, .int a3)] [] (fX2_add k a0 a1 a2 a3)
  unfold fX2_add
  refine zf_aload_n hC dX2_add_0 rfl 0 rfl ?_
  refine gf_331 hC dX2_add_1 ?_
  refine zf_bipush hC (v := 40) dX2_add_4 rfl ?_
  refine zf_icmp_lt hC (tgt := 11) dX2_add_6 (by decide) (fun h1 => ?_) (fun h1 => ?_)
  · refine zf_aload_n hC dX2_add_11 rfl 0 rfl ?_
    refine gf_332 hC dX2_add_12 ?_
    refine zf_aload_n hC dX2_add_15 rfl 0 rfl ?_
    refine gf_331 hC dX2_add_16 ?_
    refine zf_iload_n hC dX2_add_19 rfl 1 rfl ?_
    refine zf_iast hC (j := 8) ia_8 rfl rfl dX2_add_20 (fun h2 => ?_)
    refine zf_nmk (fun k3 => ?_)
    refine zf_aload_n hC dX2_add_21 rfl 0 rfl ?_
    refine gf_334 hC dX2_add_22 ?_
    refine zf_aload_n hC dX2_add_25 rfl 0 rfl ?_
    refine gf_331 hC dX2_add_26 ?_
    refine zf_iload_n hC dX2_add_29 rfl 2 rfl ?_
    refine zf_iast hC (j := 9) ia_9 rfl rfl dX2_add_30 (fun h4 => ?_)
    refine zf_nmk (fun k5 => ?_)
    refine zf_aload_n hC dX2_add_31 rfl 0 rfl ?_
    refine gf_335 hC dX2_add_32 ?_
    refine zf_aload_n hC dX2_add_35 rfl 0 rfl ?_
    refine gf_331 hC dX2_add_36 ?_
    refine zf_iload_n hC dX2_add_39 rfl 3 rfl ?_
    refine zf_iast hC (j := 10) ia_10 rfl rfl dX2_add_40 (fun h6 => ?_)
    refine zf_nmk (fun k7 => ?_)
    refine zf_aload_n hC dX2_add_41 rfl 0 rfl ?_
    refine gf_337 hC dX2_add_42 ?_
    refine zf_aload_n hC dX2_add_45 rfl 0 rfl ?_
    refine gf_331 hC dX2_add_46 ?_
    refine zf_iload hC dX2_add_49 4 rfl ?_
    refine zf_iast hC (j := 11) ia_11 rfl rfl dX2_add_51 (fun h8 => ?_)
    refine zf_nmk (fun k9 => ?_)
    refine zf_aload_n hC dX2_add_52 rfl 0 rfl ?_
    refine zf_dup hC dX2_add_53 rfl ?_
    refine gf_331 hC dX2_add_54 ?_
    refine zf_iconst hC (v := 1) dX2_add_57 rfl ?_
    refine zf_iadd hC dX2_add_58 ?_
    refine pf_331 hC dX2_add_59 ?_
    refine zf_nmk (fun k10 => ?_)
    refine zf_aload_n hC dX2_add_62 rfl 0 rfl ?_
    refine gf_331 hC dX2_add_63 ?_
    refine zf_iconst hC (v := 1) dX2_add_66 rfl ?_
    refine zf_isub hC dX2_add_67 ?_
    exact zf_iret hC rfl dX2_add_68
  · refine zf_iconst hC (v := (-1)) dX2_add_9 rfl ?_
    exact zf_iret hC rfl dX2_add_10
/-! LifeKeys.Loans.knows -/
theorem dX2_knows_0 : decode cX2_knows 0 = .ok (.iload_n 1, 1) := by decide +kernel
theorem dX2_knows_1 : decode cX2_knows 1 = .ok (.ifCond .lt 15, 3) := by decide +kernel
theorem dX2_knows_4 : decode cX2_knows 4 = .ok (.iload_n 1, 1) := by decide +kernel
theorem dX2_knows_5 : decode cX2_knows 5 = .ok (.aload_n 0, 1) := by decide +kernel
theorem dX2_knows_6 : decode cX2_knows 6 = .ok (.getfield 28, 3) := by decide +kernel
theorem dX2_knows_9 : decode cX2_knows 9 = .ok (.if_icmp .ge 7, 3) := by decide +kernel
theorem dX2_knows_12 : decode cX2_knows 12 = .ok (.iconst 1, 1) := by decide +kernel
theorem dX2_knows_13 : decode cX2_knows 13 = .ok (.goto 4, 3) := by decide +kernel
theorem dX2_knows_16 : decode cX2_knows 16 = .ok (.iconst 0, 1) := by decide +kernel
theorem dX2_knows_17 : decode cX2_knows 17 = .ok (.ireturn, 1) := by decide +kernel
def fX2_knows (k : ST) (a0 : Int32) : Option (Bool × ST) := if a0 < 0 then some (false, k) else if (gI k 1 0) ≤ a0 then some (false, k) else some (true, k)
set_option maxRecDepth 20000 in
theorem c_X2_knows (l : Launch) (g : GT) (a0 : Int32) : CN l yX2_knows cX2_knows 2 (some .boolean) { frames := 0, cells := 0, slots := 0, locals := 0 } g TK voB [.ref (g.2.1 1), .int a0] (fun k => fX2_knows k a0) := by
  refine cn_of (by decide) (Nat.le_of_ble_eq_true rfl) ?_
  intro p e s m args below meth c hC k
  have hC : HC p s m args meth c cX2_knows 2 RX2 (some .boolean) g := hC
  have hR : 0 ≤ ({ frames := 0, cells := 0, slots := 0, locals := 0 } : Room).frames ∧ 0 ≤ ({ frames := 0, cells := 0, slots := 0, locals := 0 } : Room).locals := ⟨Nat.le_refl _, Nat.le_refl _⟩
  show ZF p l e _ s m args below meth c g TK voB 2 k 0 [(0, .ref (g.2.1 1)), (1, .int a0)] [] (fX2_knows k a0)
  unfold fX2_knows
  refine zf_iload_n hC dX2_knows_0 rfl 1 rfl ?_
  refine zf_if_lt hC (tgt := 16) dX2_knows_1 (by decide) (fun h1 => ?_) (fun h1 => ?_)
  · refine zf_iconst hC (v := 0) dX2_knows_16 rfl ?_
    exact zf_zret hC rfl false rfl dX2_knows_17
  · refine zf_iload_n hC dX2_knows_4 rfl 1 rfl ?_
    refine zf_aload_n hC dX2_knows_5 rfl 0 rfl ?_
    refine gf_331 hC dX2_knows_6 ?_
    refine zf_icmp_ge hC (tgt := 16) dX2_knows_9 (by decide) (fun h2 => ?_) (fun h2 => ?_)
    · refine zf_iconst hC (v := 0) dX2_knows_16 rfl ?_
      exact zf_zret hC rfl false rfl dX2_knows_17
    · refine zf_iconst hC (v := 1) dX2_knows_12 rfl ?_
      refine zf_goto hC (tgt := 17) dX2_knows_13 (by decide) ?_
      exact zf_zret hC rfl true rfl dX2_knows_17
/-! LifeKeys.Loans.serves -/
theorem dX2_serves_0 : decode cX2_serves 0 = .ok (.aload_n 0, 1) := by decide +kernel
theorem dX2_serves_1 : decode cX2_serves 1 = .ok (.iload_n 1, 1) := by decide +kernel
theorem dX2_serves_2 : decode cX2_serves 2 = .ok (.invokevirtual 32, 3) := by decide +kernel
theorem dX2_serves_5 : decode cX2_serves 5 = .ok (.ifCond .eq 31, 3) := by decide +kernel
theorem dX2_serves_8 : decode cX2_serves 8 = .ok (.aload_n 0, 1) := by decide +kernel
theorem dX2_serves_9 : decode cX2_serves 9 = .ok (.getfield 24, 3) := by decide +kernel
theorem dX2_serves_12 : decode cX2_serves 12 = .ok (.iload_n 1, 1) := by decide +kernel
theorem dX2_serves_13 : decode cX2_serves 13 = .ok (.baload, 1) := by decide +kernel
theorem dX2_serves_14 : decode cX2_serves 14 = .ok (.ifCond .ne 22, 3) := by decide +kernel
theorem dX2_serves_17 : decode cX2_serves 17 = .ok (.iload_n 3, 1) := by decide +kernel
theorem dX2_serves_18 : decode cX2_serves 18 = .ok (.aload_n 0, 1) := by decide +kernel
theorem dX2_serves_19 : decode cX2_serves 19 = .ok (.getfield 15, 3) := by decide +kernel
theorem dX2_serves_22 : decode cX2_serves 22 = .ok (.iload_n 1, 1) := by decide +kernel
theorem dX2_serves_23 : decode cX2_serves 23 = .ok (.iaload, 1) := by decide +kernel
theorem dX2_serves_24 : decode cX2_serves 24 = .ok (.if_icmp .gt 12, 3) := by decide +kernel
theorem dX2_serves_27 : decode cX2_serves 27 = .ok (.aload_n 0, 1) := by decide +kernel
theorem dX2_serves_28 : decode cX2_serves 28 = .ok (.getfield 18, 3) := by decide +kernel
theorem dX2_serves_31 : decode cX2_serves 31 = .ok (.iload_n 1, 1) := by decide +kernel
theorem dX2_serves_32 : decode cX2_serves 32 = .ok (.iaload, 1) := by decide +kernel
theorem dX2_serves_33 : decode cX2_serves 33 = .ok (.ifCond .gt 5, 3) := by decide +kernel
theorem dX2_serves_36 : decode cX2_serves 36 = .ok (.iconst 0, 1) := by decide +kernel
theorem dX2_serves_37 : decode cX2_serves 37 = .ok (.ireturn, 1) := by decide +kernel
theorem dX2_serves_38 : decode cX2_serves 38 = .ok (.aload_n 0, 1) := by decide +kernel
theorem dX2_serves_39 : decode cX2_serves 39 = .ok (.getfield 21, 3) := by decide +kernel
theorem dX2_serves_42 : decode cX2_serves 42 = .ok (.iload_n 1, 1) := by decide +kernel
theorem dX2_serves_43 : decode cX2_serves 43 = .ok (.iaload, 1) := by decide +kernel
theorem dX2_serves_44 : decode cX2_serves 44 = .ok (.iconst (-1), 1) := by decide +kernel
theorem dX2_serves_45 : decode cX2_serves 45 = .ok (.if_icmp .eq 13, 3) := by decide +kernel
theorem dX2_serves_48 : decode cX2_serves 48 = .ok (.aload_n 0, 1) := by decide +kernel
theorem dX2_serves_49 : decode cX2_serves 49 = .ok (.getfield 21, 3) := by decide +kernel
theorem dX2_serves_52 : decode cX2_serves 52 = .ok (.iload_n 1, 1) := by decide +kernel
theorem dX2_serves_53 : decode cX2_serves 53 = .ok (.iaload, 1) := by decide +kernel
theorem dX2_serves_54 : decode cX2_serves 54 = .ok (.iload_n 2, 1) := by decide +kernel
theorem dX2_serves_55 : decode cX2_serves 55 = .ok (.if_icmp .ne 7, 3) := by decide +kernel
theorem dX2_serves_58 : decode cX2_serves 58 = .ok (.iconst 1, 1) := by decide +kernel
theorem dX2_serves_59 : decode cX2_serves 59 = .ok (.goto 4, 3) := by decide +kernel
theorem dX2_serves_62 : decode cX2_serves 62 = .ok (.iconst 0, 1) := by decide +kernel
theorem dX2_serves_63 : decode cX2_serves 63 = .ok (.ireturn, 1) := by decide +kernel
def fX2_serves (k : ST) (a0 : Int32) (a1 : Int32) (a2 : Int32) : Option (Bool × ST) := ob (fX2_knows k a0) fun r1 k2 => if r1 = true then ck (inb a0 40) (if (gA k2 12 (ix a0)) = 0 then ck (inb a0 40) (if (gA k2 9 (ix a0)) < a2 then some (false, k2) else ck (inb a0 40) (if 0 < (gA k2 10 (ix a0)) then ck (inb a0 40) (if (gA k2 11 (ix a0)) = (-1) then some (true, k2) else ck (inb a0 40) (if (gA k2 11 (ix a0)) = a1 then some (true, k2) else some (false, k2))) else some (false, k2))) else some (false, k2)) else some (false, k2)
set_option maxRecDepth 20000 in
theorem c_X2_serves (l : Launch) (g : GT) (a0 : Int32) (a1 : Int32) (a2 : Int32) : CN l yX2_serves cX2_serves 4 (some .boolean) { frames := 1, cells := 0, slots := 0, locals := 21 } g TK voB [.ref (g.2.1 1), .int a0, .int a1, .int a2] (fun k => fX2_serves k a0 a1 a2) := by
  refine cn_of (by decide) (Nat.le_of_ble_eq_true rfl) ?_
  intro p e s m args below meth c hC k
  have hC : HC p s m args meth c cX2_serves 4 RX2 (some .boolean) g := hC
  have hR : 1 ≤ ({ frames := 1, cells := 0, slots := 0, locals := 21 } : Room).frames ∧ 21 ≤ ({ frames := 1, cells := 0, slots := 0, locals := 21 } : Room).locals := ⟨Nat.le_refl _, Nat.le_refl _⟩
  show ZF p l e _ s m args below meth c g TK voB 4 k 0 [(0, .ref (g.2.1 1)), (1, .int a0), (2, .int a1), (3, .int a2)] [] (fX2_serves k a0 a1 a2)
  unfold fX2_serves
  refine zf_aload_n hC dX2_serves_0 rfl 0 rfl ?_
  refine zf_iload_n hC dX2_serves_1 rfl 1 rfl ?_
  refine zf_callV hC (c_X2_knows l g a0) mt_X2_knows wd_1046 wd_1047 ci_1 ic_1 wd_1045 rfl (rm_le hR rfl) rfl rfl (rest := []) rfl (Nat.le_of_ble_eq_true rfl) dX2_serves_2 (fun r1 k2 h3 => ?_)
  refine zf_ifb_eq hC (tgt := 36) dX2_serves_5 (by decide) (fun h4 => ?_) (fun h4 => ?_)
  · refine zf_aload_n hC dX2_serves_8 rfl 0 rfl ?_
    refine gf_338 hC dX2_serves_9 ?_
    refine zf_iload_n hC dX2_serves_12 rfl 1 rfl ?_
    refine zf_zald hC (j := 12) ia_12 rfl rfl dX2_serves_13 (fun h5 => ?_)
    refine zf_if_ne hC (tgt := 36) dX2_serves_14 (by decide) (fun h6 => ?_) (fun h6 => ?_)
    · refine zf_iload_n hC dX2_serves_17 rfl 3 rfl ?_
      refine zf_aload_n hC dX2_serves_18 rfl 0 rfl ?_
      refine gf_334 hC dX2_serves_19 ?_
      refine zf_iload_n hC dX2_serves_22 rfl 1 rfl ?_
      refine zf_iald hC (j := 9) ia_9 rfl rfl dX2_serves_23 (fun h7 => ?_)
      refine zf_icmp_gt hC (tgt := 36) dX2_serves_24 (by decide) (fun h8 => ?_) (fun h8 => ?_)
      · refine zf_iconst hC (v := 0) dX2_serves_36 rfl ?_
        exact zf_zret hC rfl false rfl dX2_serves_37
      · refine zf_aload_n hC dX2_serves_27 rfl 0 rfl ?_
        refine gf_335 hC dX2_serves_28 ?_
        refine zf_iload_n hC dX2_serves_31 rfl 1 rfl ?_
        refine zf_iald hC (j := 10) ia_10 rfl rfl dX2_serves_32 (fun h9 => ?_)
        refine zf_if_gt hC (tgt := 38) dX2_serves_33 (by decide) (fun h10 => ?_) (fun h10 => ?_)
        · refine zf_aload_n hC dX2_serves_38 rfl 0 rfl ?_
          refine gf_337 hC dX2_serves_39 ?_
          refine zf_iload_n hC dX2_serves_42 rfl 1 rfl ?_
          refine zf_iald hC (j := 11) ia_11 rfl rfl dX2_serves_43 (fun h11 => ?_)
          refine zf_iconst hC (v := (-1)) dX2_serves_44 rfl ?_
          refine zf_icmp_eq hC (tgt := 58) dX2_serves_45 (by decide) (fun h12 => ?_) (fun h12 => ?_)
          · refine zf_iconst hC (v := 1) dX2_serves_58 rfl ?_
            refine zf_goto hC (tgt := 63) dX2_serves_59 (by decide) ?_
            exact zf_zret hC rfl true rfl dX2_serves_63
          · refine zf_aload_n hC dX2_serves_48 rfl 0 rfl ?_
            refine gf_337 hC dX2_serves_49 ?_
            refine zf_iload_n hC dX2_serves_52 rfl 1 rfl ?_
            refine zf_iald hC (j := 11) ia_11 rfl rfl dX2_serves_53 (fun h13 => ?_)
            refine zf_iload_n hC dX2_serves_54 rfl 2 rfl ?_
            refine zf_icmp_ne hC (tgt := 62) dX2_serves_55 (by decide) (fun h14 => ?_) (fun h14 => ?_)
            · refine zf_iconst hC (v := 1) dX2_serves_58 rfl ?_
              refine zf_goto hC (tgt := 63) dX2_serves_59 (by decide) ?_
              exact zf_zret hC rfl true rfl dX2_serves_63
            · refine zf_iconst hC (v := 0) dX2_serves_62 rfl ?_
              exact zf_zret hC rfl false rfl dX2_serves_63
        · refine zf_iconst hC (v := 0) dX2_serves_36 rfl ?_
          exact zf_zret hC rfl false rfl dX2_serves_37
    · refine zf_iconst hC (v := 0) dX2_serves_36 rfl ?_
      exact zf_zret hC rfl false rfl dX2_serves_37
  · refine zf_iconst hC (v := 0) dX2_serves_36 rfl ?_
    exact zf_zret hC rfl false rfl dX2_serves_37
/-! LifeKeys.Keys.all -/
theorem dX1_all_0 : decode cX1_all 0 = .ok (.lconst 1, 1) := by decide +kernel
theorem dX1_all_1 : decode cX1_all 1 = .ok (.aload_n 0, 1) := by decide +kernel
theorem dX1_all_2 : decode cX1_all 2 = .ok (.getfield 36, 3) := by decide +kernel
theorem dX1_all_5 : decode cX1_all 5 = .ok (.lshl, 1) := by decide +kernel
theorem dX1_all_6 : decode cX1_all 6 = .ok (.lconst 1, 1) := by decide +kernel
theorem dX1_all_7 : decode cX1_all 7 = .ok (.lsub, 1) := by decide +kernel
theorem dX1_all_8 : decode cX1_all 8 = .ok (.lreturn, 1) := by decide +kernel
def fX1_all (k : ST)  : Option (Int64 × ST) := some ((j_lshl 1 (gI k 0 0)) - 1, k)
set_option maxRecDepth 20000 in
theorem c_X1_all (l : Launch) (g : GT)  : CN l yX1_all cX1_all 1 (some .long) { frames := 0, cells := 0, slots := 0, locals := 0 } g TK voL [.ref (g.2.1 0)] (fun k => fX1_all k) := by
  refine cn_of (by decide) (Nat.le_of_ble_eq_true rfl) ?_
  intro p e s m args below meth c hC k
  have hC : HC p s m args meth c cX1_all 1 RX1 (some .long) g := hC
  have hR : 0 ≤ ({ frames := 0, cells := 0, slots := 0, locals := 0 } : Room).frames ∧ 0 ≤ ({ frames := 0, cells := 0, slots := 0, locals := 0 } : Room).locals := ⟨Nat.le_refl _, Nat.le_refl _⟩
  show ZF p l e _ s m args below meth c g TK voL 1 k 0 [(0, .ref (g.2.1 0))] [] (fX1_all k)
  unfold fX1_all
  refine zf_lconst hC (v := 1) dX1_all_0 rfl ?_
  refine zf_aload_n hC dX1_all_1 rfl 0 rfl ?_
  refine gf_51 hC dX1_all_2 ?_
  refine zf_lshl hC dX1_all_5 ?_
  refine zf_lconst hC (v := 1) dX1_all_6 rfl ?_
  refine zf_lsub hC dX1_all_7 ?_
  exact zf_lret hC rfl dX1_all_8
/-! LifeKeys.Ties.uncutWraps -/
theorem dX10_uncutWraps_0 : decode cX10_uncutWraps 0 = .ok (.iconst 0, 1) := by decide +kernel
theorem dX10_uncutWraps_1 : decode cX10_uncutWraps 1 = .ok (.istore_n 1, 1) := by decide +kernel
theorem dX10_uncutWraps_2 : decode cX10_uncutWraps 2 = .ok (.iconst 0, 1) := by decide +kernel
theorem dX10_uncutWraps_3 : decode cX10_uncutWraps 3 = .ok (.istore_n 2, 1) := by decide +kernel
theorem dX10_uncutWraps_4 : decode cX10_uncutWraps 4 = .ok (.iload_n 2, 1) := by decide +kernel
theorem dX10_uncutWraps_5 : decode cX10_uncutWraps 5 = .ok (.aload_n 0, 1) := by decide +kernel
theorem dX10_uncutWraps_6 : decode cX10_uncutWraps 6 = .ok (.getfield 45, 3) := by decide +kernel
theorem dX10_uncutWraps_9 : decode cX10_uncutWraps 9 = .ok (.if_icmp .ge 22, 3) := by decide +kernel
theorem dX10_uncutWraps_12 : decode cX10_uncutWraps 12 = .ok (.aload_n 0, 1) := by decide +kernel
theorem dX10_uncutWraps_13 : decode cX10_uncutWraps 13 = .ok (.getfield 34, 3) := by decide +kernel
theorem dX10_uncutWraps_16 : decode cX10_uncutWraps 16 = .ok (.iload_n 2, 1) := by decide +kernel
theorem dX10_uncutWraps_17 : decode cX10_uncutWraps 17 = .ok (.iaload, 1) := by decide +kernel
theorem dX10_uncutWraps_18 : decode cX10_uncutWraps 18 = .ok (.iconst (-1), 1) := by decide +kernel
theorem dX10_uncutWraps_19 : decode cX10_uncutWraps 19 = .ok (.if_icmp .ne 6, 3) := by decide +kernel
theorem dX10_uncutWraps_22 : decode cX10_uncutWraps 22 = .ok (.iinc 1 1, 3) := by decide +kernel
theorem dX10_uncutWraps_25 : decode cX10_uncutWraps 25 = .ok (.iinc 2 1, 3) := by decide +kernel
theorem dX10_uncutWraps_28 : decode cX10_uncutWraps 28 = .ok (.goto (-24), 3) := by decide +kernel
theorem dX10_uncutWraps_31 : decode cX10_uncutWraps 31 = .ok (.iload_n 1, 1) := by decide +kernel
theorem dX10_uncutWraps_32 : decode cX10_uncutWraps 32 = .ok (.ireturn, 1) := by decide +kernel
def lpX10_uncutWraps_4  : Nat → Int32 → Int32 → ST → (Int32 → Int32 → ST → Option (Int32 × ST)) → Option (Int32 × ST)
  | 0, _, _, _, _ => none
  | n + 1, v1, v2, k, cont => if (gI k 9 5) ≤ v2 then cont v1 v2 k else ck (inb v2 40) (if (gA k 56 (ix v2)) = (-1) then lpX10_uncutWraps_4 n (v1 + 1) (v2 + 1) k cont else lpX10_uncutWraps_4 n v1 (v2 + 1) k cont)
set_option maxRecDepth 20000 in
theorem zlpX10_uncutWraps_4 {p : Program} {l : Launch} {e : Env} {R : Room} {s : State} {m : MethodId} {args : Array Value} {below : List Frame} {meth : Method} {c : Code} {g : GT} (hC : HC p s m args meth c cX10_uncutWraps 3 RX10 (some .int) g) (hR : 0 ≤ R.frames ∧ 0 ≤ R.locals)  {cont : Int32 → Int32 → ST → Option (Int32 × ST)} (hk : ∀ (v1 : Int32) (v2 : Int32) (k : ST), ZF p l e R s m args below meth c g TK voI 3 k 31 [(0, .ref (g.2.1 9)), (1, .int v1), (2, .int v2)] [] (cont v1 v2 k)) : ∀ (n : Nat) (v1 : Int32) (v2 : Int32) (k : ST), ZF p l e R s m args below meth c g TK voI 3 k 4 [(0, .ref (g.2.1 9)), (1, .int v1), (2, .int v2)] [] (lpX10_uncutWraps_4 n v1 v2 k cont) := by
  intro n
  induction n with
  | zero => intros; exact zf_none
  | succ n ih =>
    intro v1 v2 k
    rw [lpX10_uncutWraps_4]
    refine zf_iload_n hC dX10_uncutWraps_4 rfl 2 rfl ?_
    refine zf_aload_n hC dX10_uncutWraps_5 rfl 0 rfl ?_
    refine gf_103 hC dX10_uncutWraps_6 ?_
    refine zf_icmp_ge hC (tgt := 31) dX10_uncutWraps_9 (by decide) (fun h1 => ?_) (fun h1 => ?_)
    · refine zf_lv (LV' := [(0, .ref (g.2.1 9)), (1, .int v1), (2, .int v2)]) [0, 1, 2] rfl ?_
      exact hk v1 v2 k
    · refine zf_aload_n hC dX10_uncutWraps_12 rfl 0 rfl ?_
      refine gf_109 hC dX10_uncutWraps_13 ?_
      refine zf_iload_n hC dX10_uncutWraps_16 rfl 2 rfl ?_
      refine zf_iald hC (j := 56) ia_56 rfl rfl dX10_uncutWraps_17 (fun h2 => ?_)
      refine zf_iconst hC (v := (-1)) dX10_uncutWraps_18 rfl ?_
      refine zf_icmp_ne hC (tgt := 25) dX10_uncutWraps_19 (by decide) (fun h3 => ?_) (fun h3 => ?_)
      · refine zf_iinc hC (q := 1) (v := v1 + 1) (LV' := [(1, .int (v1 + 1)), (0, .ref (g.2.1 9)), (2, .int v2)]) dX10_uncutWraps_22 rfl rfl (by decide) rfl ?_
        refine zf_iinc hC (q := 2) (v := v2 + 1) (LV' := [(2, .int (v2 + 1)), (1, .int (v1 + 1)), (0, .ref (g.2.1 9))]) dX10_uncutWraps_25 rfl rfl (by decide) rfl ?_
        refine zf_goto hC (tgt := 4) dX10_uncutWraps_28 (by decide) ?_
        refine zf_lv (LV' := [(0, .ref (g.2.1 9)), (1, .int (v1 + 1)), (2, .int (v2 + 1))]) [2, 1, 0] rfl ?_
        exact ih (v1 + 1) (v2 + 1) k
      · refine zf_iinc hC (q := 2) (v := v2 + 1) (LV' := [(2, .int (v2 + 1)), (0, .ref (g.2.1 9)), (1, .int v1)]) dX10_uncutWraps_25 rfl rfl (by decide) rfl ?_
        refine zf_goto hC (tgt := 4) dX10_uncutWraps_28 (by decide) ?_
        refine zf_lv (LV' := [(0, .ref (g.2.1 9)), (1, .int v1), (2, .int (v2 + 1))]) [1, 2, 0] rfl ?_
        exact ih v1 (v2 + 1) k
def fX10_uncutWraps (k : ST)  : Option (Int32 × ST) := lpX10_uncutWraps_4 FU 0 0 k fun y4 y5 k6 => some (y4, k6)
set_option maxRecDepth 20000 in
theorem c_X10_uncutWraps (l : Launch) (g : GT)  : CN l yX10_uncutWraps cX10_uncutWraps 3 (some .int) { frames := 0, cells := 0, slots := 0, locals := 0 } g TK voI [.ref (g.2.1 9)] (fun k => fX10_uncutWraps k) := by
  refine cn_of (by decide) (Nat.le_of_ble_eq_true rfl) ?_
  intro p e s m args below meth c hC k
  have hC : HC p s m args meth c cX10_uncutWraps 3 RX10 (some .int) g := hC
  have hR : 0 ≤ ({ frames := 0, cells := 0, slots := 0, locals := 0 } : Room).frames ∧ 0 ≤ ({ frames := 0, cells := 0, slots := 0, locals := 0 } : Room).locals := ⟨Nat.le_refl _, Nat.le_refl _⟩
  show ZF p l e _ s m args below meth c g TK voI 3 k 0 [(0, .ref (g.2.1 9))] [] (fX10_uncutWraps k)
  unfold fX10_uncutWraps
  refine zf_iconst hC (v := 0) dX10_uncutWraps_0 rfl ?_
  refine zf_istore_n hC (LV' := [(1, .int 0), (0, .ref (g.2.1 9))]) dX10_uncutWraps_1 rfl (by decide) rfl ?_
  refine zf_iconst hC (v := 0) dX10_uncutWraps_2 rfl ?_
  refine zf_istore_n hC (LV' := [(2, .int 0), (1, .int 0), (0, .ref (g.2.1 9))]) dX10_uncutWraps_3 rfl (by decide) rfl ?_
  refine zf_lv (LV' := [(0, .ref (g.2.1 9)), (1, .int 0), (2, .int 0)]) [2, 1, 0] rfl ?_
  refine zlpX10_uncutWraps_4 hC hR (fun y4 y5 k6 => ?_) FU 0 0 k
  refine zf_iload_n hC dX10_uncutWraps_31 rfl 1 rfl ?_
  exact zf_iret hC rfl dX10_uncutWraps_32
/-! LifeKeys.Loans.notBack -/
theorem dX2_notBack_0 : decode cX2_notBack 0 = .ok (.iconst 0, 1) := by decide +kernel
theorem dX2_notBack_1 : decode cX2_notBack 1 = .ok (.istore_n 1, 1) := by decide +kernel
theorem dX2_notBack_2 : decode cX2_notBack 2 = .ok (.iconst 0, 1) := by decide +kernel
theorem dX2_notBack_3 : decode cX2_notBack 3 = .ok (.istore_n 2, 1) := by decide +kernel
theorem dX2_notBack_4 : decode cX2_notBack 4 = .ok (.iload_n 2, 1) := by decide +kernel
theorem dX2_notBack_5 : decode cX2_notBack 5 = .ok (.aload_n 0, 1) := by decide +kernel
theorem dX2_notBack_6 : decode cX2_notBack 6 = .ok (.getfield 28, 3) := by decide +kernel
theorem dX2_notBack_9 : decode cX2_notBack 9 = .ok (.if_icmp .ge 21, 3) := by decide +kernel
theorem dX2_notBack_12 : decode cX2_notBack 12 = .ok (.aload_n 0, 1) := by decide +kernel
theorem dX2_notBack_13 : decode cX2_notBack 13 = .ok (.getfield 24, 3) := by decide +kernel
theorem dX2_notBack_16 : decode cX2_notBack 16 = .ok (.iload_n 2, 1) := by decide +kernel
theorem dX2_notBack_17 : decode cX2_notBack 17 = .ok (.baload, 1) := by decide +kernel
theorem dX2_notBack_18 : decode cX2_notBack 18 = .ok (.ifCond .ne 6, 3) := by decide +kernel
theorem dX2_notBack_21 : decode cX2_notBack 21 = .ok (.iinc 1 1, 3) := by decide +kernel
theorem dX2_notBack_24 : decode cX2_notBack 24 = .ok (.iinc 2 1, 3) := by decide +kernel
theorem dX2_notBack_27 : decode cX2_notBack 27 = .ok (.goto (-23), 3) := by decide +kernel
theorem dX2_notBack_30 : decode cX2_notBack 30 = .ok (.iload_n 1, 1) := by decide +kernel
theorem dX2_notBack_31 : decode cX2_notBack 31 = .ok (.ireturn, 1) := by decide +kernel
def lpX2_notBack_4  : Nat → Int32 → Int32 → ST → (Int32 → Int32 → ST → Option (Int32 × ST)) → Option (Int32 × ST)
  | 0, _, _, _, _ => none
  | n + 1, v1, v2, k, cont => if (gI k 1 0) ≤ v2 then cont v1 v2 k else ck (inb v2 40) (if (gA k 12 (ix v2)) = 0 then lpX2_notBack_4 n (v1 + 1) (v2 + 1) k cont else lpX2_notBack_4 n v1 (v2 + 1) k cont)
set_option maxRecDepth 20000 in
theorem zlpX2_notBack_4 {p : Program} {l : Launch} {e : Env} {R : Room} {s : State} {m : MethodId} {args : Array Value} {below : List Frame} {meth : Method} {c : Code} {g : GT} (hC : HC p s m args meth c cX2_notBack 3 RX2 (some .int) g) (hR : 0 ≤ R.frames ∧ 0 ≤ R.locals)  {cont : Int32 → Int32 → ST → Option (Int32 × ST)} (hk : ∀ (v1 : Int32) (v2 : Int32) (k : ST), ZF p l e R s m args below meth c g TK voI 3 k 30 [(0, .ref (g.2.1 1)), (1, .int v1), (2, .int v2)] [] (cont v1 v2 k)) : ∀ (n : Nat) (v1 : Int32) (v2 : Int32) (k : ST), ZF p l e R s m args below meth c g TK voI 3 k 4 [(0, .ref (g.2.1 1)), (1, .int v1), (2, .int v2)] [] (lpX2_notBack_4 n v1 v2 k cont) := by
  intro n
  induction n with
  | zero => intros; exact zf_none
  | succ n ih =>
    intro v1 v2 k
    rw [lpX2_notBack_4]
    refine zf_iload_n hC dX2_notBack_4 rfl 2 rfl ?_
    refine zf_aload_n hC dX2_notBack_5 rfl 0 rfl ?_
    refine gf_331 hC dX2_notBack_6 ?_
    refine zf_icmp_ge hC (tgt := 30) dX2_notBack_9 (by decide) (fun h1 => ?_) (fun h1 => ?_)
    · refine zf_lv (LV' := [(0, .ref (g.2.1 1)), (1, .int v1), (2, .int v2)]) [0, 1, 2] rfl ?_
      exact hk v1 v2 k
    · refine zf_aload_n hC dX2_notBack_12 rfl 0 rfl ?_
      refine gf_338 hC dX2_notBack_13 ?_
      refine zf_iload_n hC dX2_notBack_16 rfl 2 rfl ?_
      refine zf_zald hC (j := 12) ia_12 rfl rfl dX2_notBack_17 (fun h2 => ?_)
      refine zf_if_ne hC (tgt := 24) dX2_notBack_18 (by decide) (fun h3 => ?_) (fun h3 => ?_)
      · refine zf_iinc hC (q := 1) (v := v1 + 1) (LV' := [(1, .int (v1 + 1)), (0, .ref (g.2.1 1)), (2, .int v2)]) dX2_notBack_21 rfl rfl (by decide) rfl ?_
        refine zf_iinc hC (q := 2) (v := v2 + 1) (LV' := [(2, .int (v2 + 1)), (1, .int (v1 + 1)), (0, .ref (g.2.1 1))]) dX2_notBack_24 rfl rfl (by decide) rfl ?_
        refine zf_goto hC (tgt := 4) dX2_notBack_27 (by decide) ?_
        refine zf_lv (LV' := [(0, .ref (g.2.1 1)), (1, .int (v1 + 1)), (2, .int (v2 + 1))]) [2, 1, 0] rfl ?_
        exact ih (v1 + 1) (v2 + 1) k
      · refine zf_iinc hC (q := 2) (v := v2 + 1) (LV' := [(2, .int (v2 + 1)), (0, .ref (g.2.1 1)), (1, .int v1)]) dX2_notBack_24 rfl rfl (by decide) rfl ?_
        refine zf_goto hC (tgt := 4) dX2_notBack_27 (by decide) ?_
        refine zf_lv (LV' := [(0, .ref (g.2.1 1)), (1, .int v1), (2, .int (v2 + 1))]) [1, 2, 0] rfl ?_
        exact ih v1 (v2 + 1) k
def fX2_notBack (k : ST)  : Option (Int32 × ST) := lpX2_notBack_4 FU 0 0 k fun y4 y5 k6 => some (y4, k6)
set_option maxRecDepth 20000 in
theorem c_X2_notBack (l : Launch) (g : GT)  : CN l yX2_notBack cX2_notBack 3 (some .int) { frames := 0, cells := 0, slots := 0, locals := 0 } g TK voI [.ref (g.2.1 1)] (fun k => fX2_notBack k) := by
  refine cn_of (by decide) (Nat.le_of_ble_eq_true rfl) ?_
  intro p e s m args below meth c hC k
  have hC : HC p s m args meth c cX2_notBack 3 RX2 (some .int) g := hC
  have hR : 0 ≤ ({ frames := 0, cells := 0, slots := 0, locals := 0 } : Room).frames ∧ 0 ≤ ({ frames := 0, cells := 0, slots := 0, locals := 0 } : Room).locals := ⟨Nat.le_refl _, Nat.le_refl _⟩
  show ZF p l e _ s m args below meth c g TK voI 3 k 0 [(0, .ref (g.2.1 1))] [] (fX2_notBack k)
  unfold fX2_notBack
  refine zf_iconst hC (v := 0) dX2_notBack_0 rfl ?_
  refine zf_istore_n hC (LV' := [(1, .int 0), (0, .ref (g.2.1 1))]) dX2_notBack_1 rfl (by decide) rfl ?_
  refine zf_iconst hC (v := 0) dX2_notBack_2 rfl ?_
  refine zf_istore_n hC (LV' := [(2, .int 0), (1, .int 0), (0, .ref (g.2.1 1))]) dX2_notBack_3 rfl (by decide) rfl ?_
  refine zf_lv (LV' := [(0, .ref (g.2.1 1)), (1, .int 0), (2, .int 0)]) [2, 1, 0] rfl ?_
  refine zlpX2_notBack_4 hC hR (fun y4 y5 k6 => ?_) FU 0 0 k
  refine zf_iload_n hC dX2_notBack_30 rfl 1 rfl ?_
  exact zf_iret hC rfl dX2_notBack_31
/-! LifeKeys.Things.openedOnes -/
theorem dX9_openedOnes_0 : decode cX9_openedOnes 0 = .ok (.iconst 0, 1) := by decide +kernel
theorem dX9_openedOnes_1 : decode cX9_openedOnes 1 = .ok (.istore_n 1, 1) := by decide +kernel
theorem dX9_openedOnes_2 : decode cX9_openedOnes 2 = .ok (.iconst 0, 1) := by decide +kernel
theorem dX9_openedOnes_3 : decode cX9_openedOnes 3 = .ok (.istore_n 2, 1) := by decide +kernel
theorem dX9_openedOnes_4 : decode cX9_openedOnes 4 = .ok (.iload_n 2, 1) := by decide +kernel
theorem dX9_openedOnes_5 : decode cX9_openedOnes 5 = .ok (.aload_n 0, 1) := by decide +kernel
theorem dX9_openedOnes_6 : decode cX9_openedOnes 6 = .ok (.getfield 28, 3) := by decide +kernel
theorem dX9_openedOnes_9 : decode cX9_openedOnes 9 = .ok (.if_icmp .ge 21, 3) := by decide +kernel
theorem dX9_openedOnes_12 : decode cX9_openedOnes 12 = .ok (.aload_n 0, 1) := by decide +kernel
theorem dX9_openedOnes_13 : decode cX9_openedOnes 13 = .ok (.getfield 25, 3) := by decide +kernel
theorem dX9_openedOnes_16 : decode cX9_openedOnes 16 = .ok (.iload_n 2, 1) := by decide +kernel
theorem dX9_openedOnes_17 : decode cX9_openedOnes 17 = .ok (.baload, 1) := by decide +kernel
theorem dX9_openedOnes_18 : decode cX9_openedOnes 18 = .ok (.ifCond .eq 6, 3) := by decide +kernel
theorem dX9_openedOnes_21 : decode cX9_openedOnes 21 = .ok (.iinc 1 1, 3) := by decide +kernel
theorem dX9_openedOnes_24 : decode cX9_openedOnes 24 = .ok (.iinc 2 1, 3) := by decide +kernel
theorem dX9_openedOnes_27 : decode cX9_openedOnes 27 = .ok (.goto (-23), 3) := by decide +kernel
theorem dX9_openedOnes_30 : decode cX9_openedOnes 30 = .ok (.iload_n 1, 1) := by decide +kernel
theorem dX9_openedOnes_31 : decode cX9_openedOnes 31 = .ok (.ireturn, 1) := by decide +kernel
def lpX9_openedOnes_4  : Nat → Int32 → Int32 → ST → (Int32 → Int32 → ST → Option (Int32 × ST)) → Option (Int32 × ST)
  | 0, _, _, _, _ => none
  | n + 1, v1, v2, k, cont => if (gI k 8 0) ≤ v2 then cont v1 v2 k else ck (inb v2 40) (if (gA k 48 (ix v2)) = 0 then lpX9_openedOnes_4 n v1 (v2 + 1) k cont else lpX9_openedOnes_4 n (v1 + 1) (v2 + 1) k cont)
set_option maxRecDepth 20000 in
theorem zlpX9_openedOnes_4 {p : Program} {l : Launch} {e : Env} {R : Room} {s : State} {m : MethodId} {args : Array Value} {below : List Frame} {meth : Method} {c : Code} {g : GT} (hC : HC p s m args meth c cX9_openedOnes 3 RX9 (some .int) g) (hR : 0 ≤ R.frames ∧ 0 ≤ R.locals)  {cont : Int32 → Int32 → ST → Option (Int32 × ST)} (hk : ∀ (v1 : Int32) (v2 : Int32) (k : ST), ZF p l e R s m args below meth c g TK voI 3 k 30 [(0, .ref (g.2.1 8)), (1, .int v1), (2, .int v2)] [] (cont v1 v2 k)) : ∀ (n : Nat) (v1 : Int32) (v2 : Int32) (k : ST), ZF p l e R s m args below meth c g TK voI 3 k 4 [(0, .ref (g.2.1 8)), (1, .int v1), (2, .int v2)] [] (lpX9_openedOnes_4 n v1 v2 k cont) := by
  intro n
  induction n with
  | zero => intros; exact zf_none
  | succ n ih =>
    intro v1 v2 k
    rw [lpX9_openedOnes_4]
    refine zf_iload_n hC dX9_openedOnes_4 rfl 2 rfl ?_
    refine zf_aload_n hC dX9_openedOnes_5 rfl 0 rfl ?_
    refine gf_266 hC dX9_openedOnes_6 ?_
    refine zf_icmp_ge hC (tgt := 30) dX9_openedOnes_9 (by decide) (fun h1 => ?_) (fun h1 => ?_)
    · refine zf_lv (LV' := [(0, .ref (g.2.1 8)), (1, .int v1), (2, .int v2)]) [0, 1, 2] rfl ?_
      exact hk v1 v2 k
    · refine zf_aload_n hC dX9_openedOnes_12 rfl 0 rfl ?_
      refine gf_275 hC dX9_openedOnes_13 ?_
      refine zf_iload_n hC dX9_openedOnes_16 rfl 2 rfl ?_
      refine zf_zald hC (j := 48) ia_48 rfl rfl dX9_openedOnes_17 (fun h2 => ?_)
      refine zf_if_eq hC (tgt := 24) dX9_openedOnes_18 (by decide) (fun h3 => ?_) (fun h3 => ?_)
      · refine zf_iinc hC (q := 2) (v := v2 + 1) (LV' := [(2, .int (v2 + 1)), (0, .ref (g.2.1 8)), (1, .int v1)]) dX9_openedOnes_24 rfl rfl (by decide) rfl ?_
        refine zf_goto hC (tgt := 4) dX9_openedOnes_27 (by decide) ?_
        refine zf_lv (LV' := [(0, .ref (g.2.1 8)), (1, .int v1), (2, .int (v2 + 1))]) [1, 2, 0] rfl ?_
        exact ih v1 (v2 + 1) k
      · refine zf_iinc hC (q := 1) (v := v1 + 1) (LV' := [(1, .int (v1 + 1)), (0, .ref (g.2.1 8)), (2, .int v2)]) dX9_openedOnes_21 rfl rfl (by decide) rfl ?_
        refine zf_iinc hC (q := 2) (v := v2 + 1) (LV' := [(2, .int (v2 + 1)), (1, .int (v1 + 1)), (0, .ref (g.2.1 8))]) dX9_openedOnes_24 rfl rfl (by decide) rfl ?_
        refine zf_goto hC (tgt := 4) dX9_openedOnes_27 (by decide) ?_
        refine zf_lv (LV' := [(0, .ref (g.2.1 8)), (1, .int (v1 + 1)), (2, .int (v2 + 1))]) [2, 1, 0] rfl ?_
        exact ih (v1 + 1) (v2 + 1) k
def fX9_openedOnes (k : ST)  : Option (Int32 × ST) := lpX9_openedOnes_4 FU 0 0 k fun y4 y5 k6 => some (y4, k6)
set_option maxRecDepth 20000 in
theorem c_X9_openedOnes (l : Launch) (g : GT)  : CN l yX9_openedOnes cX9_openedOnes 3 (some .int) { frames := 0, cells := 0, slots := 0, locals := 0 } g TK voI [.ref (g.2.1 8)] (fun k => fX9_openedOnes k) := by
  refine cn_of (by decide) (Nat.le_of_ble_eq_true rfl) ?_
  intro p e s m args below meth c hC k
  have hC : HC p s m args meth c cX9_openedOnes 3 RX9 (some .int) g := hC
  have hR : 0 ≤ ({ frames := 0, cells := 0, slots := 0, locals := 0 } : Room).frames ∧ 0 ≤ ({ frames := 0, cells := 0, slots := 0, locals := 0 } : Room).locals := ⟨Nat.le_refl _, Nat.le_refl _⟩
  show ZF p l e _ s m args below meth c g TK voI 3 k 0 [(0, .ref (g.2.1 8))] [] (fX9_openedOnes k)
  unfold fX9_openedOnes
  refine zf_iconst hC (v := 0) dX9_openedOnes_0 rfl ?_
  refine zf_istore_n hC (LV' := [(1, .int 0), (0, .ref (g.2.1 8))]) dX9_openedOnes_1 rfl (by decide) rfl ?_
  refine zf_iconst hC (v := 0) dX9_openedOnes_2 rfl ?_
  refine zf_istore_n hC (LV' := [(2, .int 0), (1, .int 0), (0, .ref (g.2.1 8))]) dX9_openedOnes_3 rfl (by decide) rfl ?_
  refine zf_lv (LV' := [(0, .ref (g.2.1 8)), (1, .int 0), (2, .int 0)]) [2, 1, 0] rfl ?_
  refine zlpX9_openedOnes_4 hC hR (fun y4 y5 k6 => ?_) FU 0 0 k
  refine zf_iload_n hC dX9_openedOnes_30 rfl 1 rfl ?_
  exact zf_iret hC rfl dX9_openedOnes_31
