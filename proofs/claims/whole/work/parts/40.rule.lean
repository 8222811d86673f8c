/-! LifeKeys.Rules.keepDraft -/
theorem dX5_keepDraft_0 : decode cX5_keepDraft 0 = .ok (.aload_n 0, 1) := by decide +kernel
theorem dX5_keepDraft_1 : decode cX5_keepDraft 1 = .ok (.getfield 30, 3) := by decide +kernel
theorem dX5_keepDraft_4 : decode cX5_keepDraft 4 = .ok (.bipush 20, 2) := by decide +kernel
theorem dX5_keepDraft_6 : decode cX5_keepDraft 6 = .ok (.if_icmp .lt 5, 3) := by decide +kernel
theorem dX5_keepDraft_9 : decode cX5_keepDraft 9 = .ok (.iconst (-1), 1) := by decide +kernel
theorem dX5_keepDraft_10 : decode cX5_keepDraft 10 = .ok (.ireturn, 1) := by decide +kernel
theorem dX5_keepDraft_11 : decode cX5_keepDraft 11 = .ok (.aload_n 0, 1) := by decide +kernel
theorem dX5_keepDraft_12 : decode cX5_keepDraft 12 = .ok (.getfield 20, 3) := by decide +kernel
theorem dX5_keepDraft_15 : decode cX5_keepDraft 15 = .ok (.iconst 0, 1) := by decide +kernel
theorem dX5_keepDraft_16 : decode cX5_keepDraft 16 = .ok (.aload_n 0, 1) := by decide +kernel
theorem dX5_keepDraft_17 : decode cX5_keepDraft 17 = .ok (.getfield 13, 3) := by decide +kernel
theorem dX5_keepDraft_20 : decode cX5_keepDraft 20 = .ok (.aload_n 0, 1) := by decide +kernel
theorem dX5_keepDraft_21 : decode cX5_keepDraft 21 = .ok (.getfield 30, 3) := by decide +kernel
theorem dX5_keepDraft_24 : decode cX5_keepDraft 24 = .ok (.sipush 160, 3) := by decide +kernel
theorem dX5_keepDraft_27 : decode cX5_keepDraft 27 = .ok (.imul, 1) := by decide +kernel
theorem dX5_keepDraft_28 : decode cX5_keepDraft 28 = .ok (.aload_n 0, 1) := by decide +kernel
theorem dX5_keepDraft_29 : decode cX5_keepDraft 29 = .ok (.getfield 49, 3) := by decide +kernel
theorem dX5_keepDraft_32 : decode cX5_keepDraft 32 = .ok (.invokestatic 59, 3) := by decide +kernel
theorem dX5_keepDraft_35 : decode cX5_keepDraft 35 = .ok (.aload_n 0, 1) := by decide +kernel
theorem dX5_keepDraft_36 : decode cX5_keepDraft 36 = .ok (.getfield 17, 3) := by decide +kernel
theorem dX5_keepDraft_39 : decode cX5_keepDraft 39 = .ok (.aload_n 0, 1) := by decide +kernel
theorem dX5_keepDraft_40 : decode cX5_keepDraft 40 = .ok (.getfield 30, 3) := by decide +kernel
theorem dX5_keepDraft_43 : decode cX5_keepDraft 43 = .ok (.aload_n 0, 1) := by decide +kernel
theorem dX5_keepDraft_44 : decode cX5_keepDraft 44 = .ok (.getfield 49, 3) := by decide +kernel
theorem dX5_keepDraft_47 : decode cX5_keepDraft 47 = .ok (.iastore, 1) := by decide +kernel
theorem dX5_keepDraft_48 : decode cX5_keepDraft 48 = .ok (.aload_n 0, 1) := by decide +kernel
theorem dX5_keepDraft_49 : decode cX5_keepDraft 49 = .ok (.dup, 1) := by decide +kernel
theorem dX5_keepDraft_50 : decode cX5_keepDraft 50 = .ok (.getfield 30, 3) := by decide +kernel
theorem dX5_keepDraft_53 : decode cX5_keepDraft 53 = .ok (.iconst 1, 1) := by decide +kernel
theorem dX5_keepDraft_54 : decode cX5_keepDraft 54 = .ok (.iadd, 1) := by decide +kernel
theorem dX5_keepDraft_55 : decode cX5_keepDraft 55 = .ok (.putfield 30, 3) := by decide +kernel
theorem dX5_keepDraft_58 : decode cX5_keepDraft 58 = .ok (.aload_n 0, 1) := by decide +kernel
theorem dX5_keepDraft_59 : decode cX5_keepDraft 59 = .ok (.getfield 30, 3) := by decide +kernel
theorem dX5_keepDraft_62 : decode cX5_keepDraft 62 = .ok (.iconst 1, 1) := by decide +kernel
theorem dX5_keepDraft_63 : decode cX5_keepDraft 63 = .ok (.isub, 1) := by decide +kernel
theorem dX5_keepDraft_64 : decode cX5_keepDraft 64 = .ok (.ireturn, 1) := by decide +kernel
def fX5_keepDraft (k : ST)  : Option (Int32 × ST) := if (gI k 4 0) < 20 then ck (cpOk 0 ((gI k 4 0) * 160) (gI k 4 4) 160 3200) (nm (sF k 26 (va_cpy (gA k 28) (gA k 26) (ix 0) (ix ((gI k 4 0) * 160)) (ix (gI k 4 4)))) fun k3 => ck (inb (gI k3 4 0) 20) (nm (sA k3 27 (ix (gI k3 4 0)) (gI k3 4 4)) fun k5 => nm (sI k5 4 0 ((gI k5 4 0) + 1)) fun k6 => some ((gI k6 4 0) - 1, k6))) else some ((-1), k)
set_option maxRecDepth 20000 in
theorem c_X5_keepDraft (l : Launch) (g : GT)  : CN l yX5_keepDraft cX5_keepDraft 1 (some .int) { frames := 1, cells := 0, slots := 0, locals := 40 } g TK voI [.ref (g.2.1 4)] (fun k => fX5_keepDraft k) := by
  refine cn_of (by decide) (Nat.le_of_ble_eq_true rfl) ?_
  intro p e s m args below meth c hC k
  have hC : HC p s m args meth c cX5_keepDraft 1 RX5 (some .int) g := hC
  have hR : 1 ≤ ({ frames := 1, cells := 0, slots := 0, locals := 40 } : Room).frames ∧ 40 ≤ ({ frames := 1, cells := 0, slots := 0, locals := 40 } : Room).locals := ⟨Nat.le_refl _, Nat.le_refl _⟩
  show ZF p l e _ s m args below meth c g TK voI 1 k 0 [(0, .ref (g.2.1 4))] [] (fX5_keepDraft k)
  unfold fX5_keepDraft
  refine zf_aload_n hC dX5_keepDraft_0 rfl 0 rfl ?_
  refine gf_177 hC dX5_keepDraft_1 ?_
  refine zf_bipush hC (v := 20) dX5_keepDraft_4 rfl ?_
  refine zf_icmp_lt hC (tgt := 11) dX5_keepDraft_6 (by decide) (fun h1 => ?_) (fun h1 => ?_)
  · refine zf_aload_n hC dX5_keepDraft_11 rfl 0 rfl ?_
    refine gf_181 hC dX5_keepDraft_12 ?_
    refine zf_iconst hC (v := 0) dX5_keepDraft_15 rfl ?_
    refine zf_aload_n hC dX5_keepDraft_16 rfl 0 rfl ?_
    refine gf_179 hC dX5_keepDraft_17 ?_
    refine zf_aload_n hC dX5_keepDraft_20 rfl 0 rfl ?_
    refine gf_177 hC dX5_keepDraft_21 ?_
    refine zf_sipush hC (v := 160) dX5_keepDraft_24 rfl ?_
    refine zf_imul hC dX5_keepDraft_27 ?_
    refine zf_aload_n hC dX5_keepDraft_28 rfl 0 rfl ?_
    refine gf_182 hC dX5_keepDraft_29 ?_
    refine zf_copy hC (js := 28) (jd := 26) ia_28 ia_26 rfl rfl rfl rfl wd_815 wb_817 wd_816 wd_20 (Nat.le_trans (by decide) hR.1) (Nat.le_trans (by decide) hR.2) dX5_keepDraft_32 (fun h2 => ?_)
    refine zf_nmk (fun k3 => ?_)
    refine zf_aload_n hC dX5_keepDraft_35 rfl 0 rfl ?_
    refine gf_180 hC dX5_keepDraft_36 ?_
    refine zf_aload_n hC dX5_keepDraft_39 rfl 0 rfl ?_
    refine gf_177 hC dX5_keepDraft_40 ?_
    refine zf_aload_n hC dX5_keepDraft_43 rfl 0 rfl ?_
    refine gf_182 hC dX5_keepDraft_44 ?_
    refine zf_iast hC (j := 27) ia_27 rfl rfl dX5_keepDraft_47 (fun h4 => ?_)
    refine zf_nmk (fun k5 => ?_)
    refine zf_aload_n hC dX5_keepDraft_48 rfl 0 rfl ?_
    refine zf_dup hC dX5_keepDraft_49 rfl ?_
    refine gf_177 hC dX5_keepDraft_50 ?_
    refine zf_iconst hC (v := 1) dX5_keepDraft_53 rfl ?_
    refine zf_iadd hC dX5_keepDraft_54 ?_
    refine pf_177 hC dX5_keepDraft_55 ?_
    refine zf_nmk (fun k6 => ?_)
    refine zf_aload_n hC dX5_keepDraft_58 rfl 0 rfl ?_
    refine gf_177 hC dX5_keepDraft_59 ?_
    refine zf_iconst hC (v := 1) dX5_keepDraft_62 rfl ?_
    refine zf_isub hC dX5_keepDraft_63 ?_
    exact zf_iret hC rfl dX5_keepDraft_64
  · refine zf_iconst hC (v := (-1)) dX5_keepDraft_9 rfl ?_
    exact zf_iret hC rfl dX5_keepDraft_10/-! LifeKeys.rule -/
theorem dX11_rule_0 : decode cX11_rule 0 = .ok (.aload_n 0, 1) := by decide +kernel
theorem dX11_rule_1 : decode cX11_rule 1 = .ok (.getfield 47, 3) := by decide +kernel
theorem dX11_rule_4 : decode cX11_rule 4 = .ok (.aload_n 0, 1) := by decide +kernel
theorem dX11_rule_5 : decode cX11_rule 5 = .ok (.getfield 19, 3) := by decide +kernel
theorem dX11_rule_8 : decode cX11_rule 8 = .ok (.getfield 254, 3) := by decide +kernel
theorem dX11_rule_11 : decode cX11_rule 11 = .ok (.aload_n 0, 1) := by decide +kernel
theorem dX11_rule_12 : decode cX11_rule 12 = .ok (.getfield 19, 3) := by decide +kernel
theorem dX11_rule_15 : decode cX11_rule 15 = .ok (.getfield 107, 3) := by decide +kernel
theorem dX11_rule_18 : decode cX11_rule 18 = .ok (.invokevirtual 257, 3) := by decide +kernel
theorem dX11_rule_21 : decode cX11_rule 21 = .ok (.iconst (-1), 1) := by decide +kernel
theorem dX11_rule_22 : decode cX11_rule 22 = .ok (.if_icmp .eq 5, 3) := by decide +kernel
theorem dX11_rule_25 : decode cX11_rule 25 = .ok (.iconst (-1), 1) := by decide +kernel
theorem dX11_rule_26 : decode cX11_rule 26 = .ok (.ireturn, 1) := by decide +kernel
theorem dX11_rule_27 : decode cX11_rule 27 = .ok (.aload_n 0, 1) := by decide +kernel
theorem dX11_rule_28 : decode cX11_rule 28 = .ok (.getfield 47, 3) := by decide +kernel
theorem dX11_rule_31 : decode cX11_rule 31 = .ok (.invokevirtual 261, 3) := by decide +kernel
theorem dX11_rule_34 : decode cX11_rule 34 = .ok (.istore_n 1, 1) := by decide +kernel
theorem dX11_rule_35 : decode cX11_rule 35 = .ok (.iload_n 1, 1) := by decide +kernel
theorem dX11_rule_36 : decode cX11_rule 36 = .ok (.iconst (-1), 1) := by decide +kernel
theorem dX11_rule_37 : decode cX11_rule 37 = .ok (.if_icmp .eq 11, 3) := by decide +kernel
theorem dX11_rule_40 : decode cX11_rule 40 = .ok (.aload_n 0, 1) := by decide +kernel
theorem dX11_rule_41 : decode cX11_rule 41 = .ok (.getfield 19, 3) := by decide +kernel
theorem dX11_rule_44 : decode cX11_rule 44 = .ok (.iconst 0, 1) := by decide +kernel
theorem dX11_rule_45 : decode cX11_rule 45 = .ok (.putfield 107, 3) := by decide +kernel
theorem dX11_rule_48 : decode cX11_rule 48 = .ok (.iload_n 1, 1) := by decide +kernel
theorem dX11_rule_49 : decode cX11_rule 49 = .ok (.ireturn, 1) := by decide +kernel
def fX11_rule (k : ST)  : Option (Int32 × ST) := ob (fX5_faultOf k (gI k 7 1)) fun r1 k2 => if r1 = (-1) then ob (fX5_keepDraft k2) fun r5 k6 => if r5 = (-1) then some (r5, k6) else nm (sI k6 7 1 0) fun k9 => some (r5, k9) else some ((-1), k2)
set_option maxRecDepth 20000 in
theorem c_X11_rule (l : Launch) (g : GT)  : CN l yX11_rule cX11_rule 2 (some .int) { frames := 55, cells := 0, slots := 0, locals := 1197 } g TK voI [.ref (g.2.1 10)] (fun k => fX11_rule k) := by
  refine cn_of (by decide) (Nat.le_of_ble_eq_true rfl) ?_
  intro p e s m args below meth c hC k
  have hC : HC p s m args meth c cX11_rule 2 RX11 (some .int) g := hC
  have hR : 55 ≤ ({ frames := 55, cells := 0, slots := 0, locals := 1197 } : Room).frames ∧ 1197 ≤ ({ frames := 55, cells := 0, slots := 0, locals := 1197 } : Room).locals := ⟨Nat.le_refl _, Nat.le_refl _⟩
  show ZF p l e _ s m args below meth c g TK voI 2 k 0 [(0, .ref (g.2.1 10))] [] (fX11_rule k)
  unfold fX11_rule
  refine zf_aload_n hC dX11_rule_0 rfl 0 rfl ?_
  refine gf_411 hC dX11_rule_1 ?_
  refine zf_aload_n hC dX11_rule_4 rfl 0 rfl ?_
  refine gf_407 hC dX11_rule_5 ?_
  refine gf_36 hC dX11_rule_8 ?_
  refine zf_aload_n hC dX11_rule_11 rfl 0 rfl ?_
  refine gf_407 hC dX11_rule_12 ?_
  refine gf_38 hC dX11_rule_15 ?_
  refine zf_callV hC (c_X5_faultOf l g (gI k 7 1)) mt_X5_faultOf wd_746 wd_747 ci_4 ic_4 wd_745 rfl (rm_le hR rfl) rfl rfl (rest := []) rfl (Nat.le_of_ble_eq_true rfl) dX11_rule_18 (fun r1 k2 h3 => ?_)
  refine zf_iconst hC (v := (-1)) dX11_rule_21 rfl ?_
  refine zf_icmp_eq hC (tgt := 27) dX11_rule_22 (by decide) (fun h4 => ?_) (fun h4 => ?_)
  · refine zf_aload_n hC dX11_rule_27 rfl 0 rfl ?_
    refine gf_411 hC dX11_rule_28 ?_
    refine zf_callV hC (c_X5_keepDraft l g) mt_X5_keepDraft wd_812 wd_813 ci_4 ic_4 wd_811 rfl (rm_le hR rfl) rfl rfl (rest := []) rfl (Nat.le_of_ble_eq_true rfl) dX11_rule_31 (fun r5 k6 h7 => ?_)
    refine zf_istore_n hC (LV' := [(1, .int r5), (0, .ref (g.2.1 10))]) dX11_rule_34 rfl (by decide) rfl ?_
    refine zf_iload_n hC dX11_rule_35 rfl 0 rfl ?_
    refine zf_iconst hC (v := (-1)) dX11_rule_36 rfl ?_
    refine zf_icmp_eq hC (tgt := 48) dX11_rule_37 (by decide) (fun h8 => ?_) (fun h8 => ?_)
    · refine zf_iload_n hC dX11_rule_48 rfl 0 rfl ?_
      exact zf_iret hC rfl dX11_rule_49
    · refine zf_aload_n hC dX11_rule_40 rfl 1 rfl ?_
      refine gf_407 hC dX11_rule_41 ?_
      refine zf_iconst hC (v := 0) dX11_rule_44 rfl ?_
      refine pf_38 hC dX11_rule_45 ?_
      refine zf_nmk (fun k9 => ?_)
      refine zf_iload_n hC dX11_rule_48 rfl 0 rfl ?_
      exact zf_iret hC rfl dX11_rule_49
  · refine zf_iconst hC (v := (-1)) dX11_rule_25 rfl ?_
    exact zf_iret hC rfl dX11_rule_26
