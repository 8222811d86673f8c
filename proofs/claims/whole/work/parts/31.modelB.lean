/-! LifeKeysModel.part -/
theorem dX12_part_0 : decode cX12_part 0 = .ok (.aload_n 0, 1) := by decide +kernel
theorem dX12_part_1 : decode cX12_part 1 = .ok (.iconst 0, 1) := by decide +kernel
theorem dX12_part_2 : decode cX12_part 2 = .ok (.putfield 181, 3) := by decide +kernel
theorem dX12_part_5 : decode cX12_part 5 = .ok (.aload_n 0, 1) := by decide +kernel
theorem dX12_part_6 : decode cX12_part 6 = .ok (.getfield 243, 3) := by decide +kernel
theorem dX12_part_9 : decode cX12_part 9 = .ok (.bipush 40, 2) := by decide +kernel
theorem dX12_part_11 : decode cX12_part 11 = .ok (.if_icmp .ge 44, 3) := by decide +kernel
theorem dX12_part_14 : decode cX12_part 14 = .ok (.aload_n 0, 1) := by decide +kernel
theorem dX12_part_15 : decode cX12_part 15 = .ok (.iload_n 1, 1) := by decide +kernel
theorem dX12_part_16 : decode cX12_part 16 = .ok (.invokevirtual 216, 3) := by decide +kernel
theorem dX12_part_19 : decode cX12_part 19 = .ok (.ifCond .eq 36, 3) := by decide +kernel
theorem dX12_part_22 : decode cX12_part 22 = .ok (.aload_n 0, 1) := by decide +kernel
theorem dX12_part_23 : decode cX12_part 23 = .ok (.iload_n 2, 1) := by decide +kernel
theorem dX12_part_24 : decode cX12_part 24 = .ok (.iconst 1, 1) := by decide +kernel
theorem dX12_part_25 : decode cX12_part 25 = .ok (.invokevirtual 254, 3) := by decide +kernel
theorem dX12_part_28 : decode cX12_part 28 = .ok (.ifCond .eq 27, 3) := by decide +kernel
theorem dX12_part_31 : decode cX12_part 31 = .ok (.iload_n 3, 1) := by decide +kernel
theorem dX12_part_32 : decode cX12_part 32 = .ok (.iconst 1, 1) := by decide +kernel
theorem dX12_part_33 : decode cX12_part 33 = .ok (.iload_n 2, 1) := by decide +kernel
theorem dX12_part_34 : decode cX12_part 34 = .ok (.invokestatic 258, 3) := by decide +kernel
theorem dX12_part_37 : decode cX12_part 37 = .ok (.invokestatic 188, 3) := by decide +kernel
theorem dX12_part_40 : decode cX12_part 40 = .ok (.ifCond .eq 15, 3) := by decide +kernel
theorem dX12_part_43 : decode cX12_part 43 = .ok (.aload_n 0, 1) := by decide +kernel
theorem dX12_part_44 : decode cX12_part 44 = .ok (.iload_n 1, 1) := by decide +kernel
theorem dX12_part_45 : decode cX12_part 45 = .ok (.iload_n 2, 1) := by decide +kernel
theorem dX12_part_46 : decode cX12_part 46 = .ok (.iload_n 3, 1) := by decide +kernel
theorem dX12_part_47 : decode cX12_part 47 = .ok (.lload 4, 2) := by decide +kernel
theorem dX12_part_49 : decode cX12_part 49 = .ok (.invokevirtual 263, 3) := by decide +kernel
theorem dX12_part_52 : decode cX12_part 52 = .ok (.goto 4, 3) := by decide +kernel
theorem dX12_part_55 : decode cX12_part 55 = .ok (.iconst (-1), 1) := by decide +kernel
theorem dX12_part_56 : decode cX12_part 56 = .ok (.ireturn, 1) := by decide +kernel
def fX12_part (k : ST) (a0 : Int32) (a1 : Int32) (a2 : Int32) (a3 : Int64) : Option (Int32 × ST) := nm (sI k 11 0 0) fun k1 => if 40 ≤ (gI k1 11 30) then some ((-1), k1) else ob (fX12_isKey k1 a0) fun r3 k4 => if r3 = true then ob (fX12_areHolders k4 a1 1) fun r7 k8 => if r7 = true then ob (fJ6_bitCount_0f7a4 k8 a1) fun r11 k12 => ob (fX12_isIn k12 a2 1 r11) fun r14 k15 => if r14 = true then ob (fX12_parted k15 a0 a1 a2 a3) fun r18 k19 => some (r18, k19) else some ((-1), k15) else some ((-1), k8) else some ((-1), k4)
set_option maxRecDepth 20000 in
theorem c_X12_part (l : Launch) (g : GT) (a0 : Int32) (a1 : Int32) (a2 : Int32) (a3 : Int64) : CN l yX12_part cX12_part 6 (some .int) { frames := 2, cells := 0, slots := 0, locals := 51 } g TM voI [.ref (g.2.1 11), .int a0, .int a1, .int a2, .long a3] (fun k => fX12_part k a0 a1 a2 a3) := by
  refine cn_of (by decide) (Nat.le_of_ble_eq_true rfl) ?_
  intro p e s m args below meth c hC k
  have hC : HC p s m args meth c cX12_part 6 RX12 (some .int) g := hC
  have hR : 2 ≤ ({ frames := 2, cells := 0, slots := 0, locals := 51 } : Room).frames ∧ 51 ≤ ({ frames := 2, cells := 0, slots := 0, locals := 51 } : Room).locals := ⟨Nat.le_refl _, Nat.le_refl _⟩
  show ZF p l e _ s m args below meth c g TM voI 6 k 0 [(0, .ref (g.2.1 11)), (1, .int a0), (2, .int a1), (3, .int a2), (4, .long a3)] [] (fX12_part k a0 a1 a2 a3)
  unfold fX12_part
  refine zf_aload_n hC dX12_part_0 rfl 0 rfl ?_
  refine zf_iconst hC (v := 0) dX12_part_1 rfl ?_
  refine pf_1230 hC dX12_part_2 ?_
  refine zf_nmk (fun k1 => ?_)
  refine zf_aload_n hC dX12_part_5 rfl 0 rfl ?_
  refine gf_1260 hC dX12_part_6 ?_
  refine zf_bipush hC (v := 40) dX12_part_9 rfl ?_
  refine zf_icmp_ge hC (tgt := 55) dX12_part_11 (by decide) (fun h2 => ?_) (fun h2 => ?_)
  · refine zf_iconst hC (v := (-1)) dX12_part_55 rfl ?_
    exact zf_iret hC rfl dX12_part_56
  · refine zf_aload_n hC dX12_part_14 rfl 0 rfl ?_
    refine zf_iload_n hC dX12_part_15 rfl 1 rfl ?_
    refine zf_callV hC (c_X12_isKey l g a0) mt_X12_isKey wd_1530 sp_47 ci_11 ic_11 wd_1528 rfl (rm_le hR rfl) rfl rfl (rest := []) rfl (Nat.le_of_ble_eq_true rfl) dX12_part_16 (fun r3 k4 h5 => ?_)
    refine zf_ifb_eq hC (tgt := 55) dX12_part_19 (by decide) (fun h6 => ?_) (fun h6 => ?_)
    · refine zf_aload_n hC dX12_part_22 rfl 0 rfl ?_
      refine zf_iload_n hC dX12_part_23 rfl 2 rfl ?_
      refine zf_iconst hC (v := 1) dX12_part_24 rfl ?_
      refine zf_callV hC (c_X12_areHolders l g a1 1) mt_X12_areHolders wd_1576 sp_51 ci_11 ic_11 wd_1574 rfl (rm_le hR rfl) rfl rfl (rest := []) rfl (Nat.le_of_ble_eq_true rfl) dX12_part_25 (fun r7 k8 h9 => ?_)
      refine zf_ifb_eq hC (tgt := 55) dX12_part_28 (by decide) (fun h10 => ?_) (fun h10 => ?_)
      · refine zf_iload_n hC dX12_part_31 rfl 3 rfl ?_
        refine zf_iconst hC (v := 1) dX12_part_32 rfl ?_
        refine zf_iload_n hC dX12_part_33 rfl 2 rfl ?_
        refine zf_callS hC (c_J6_bitCount_0f7a4 l g TM a1) mt_J6_bitCount_0f7a4 wd_577 wd_1578 rfl (rm_le hR rfl) rfl rfl (rest := [.int 1, .int a2]) rfl (Nat.le_of_ble_eq_true rfl) dX12_part_34 (fun r11 k12 h13 => ?_)
        refine zf_callS hC (c_X12_isIn l g TM a2 1 r11) mt_X12_isIn wd_1495 wd_1494 rfl (rm_le hR rfl) rfl rfl (rest := []) rfl (Nat.le_of_ble_eq_true rfl) dX12_part_37 (fun r14 k15 h16 => ?_)
        refine zf_ifb_eq hC (tgt := 55) dX12_part_40 (by decide) (fun h17 => ?_) (fun h17 => ?_)
        · refine zf_aload_n hC dX12_part_43 rfl 0 rfl ?_
          refine zf_iload_n hC dX12_part_44 rfl 1 rfl ?_
          refine zf_iload_n hC dX12_part_45 rfl 2 rfl ?_
          refine zf_iload_n hC dX12_part_46 rfl 3 rfl ?_
          refine zf_lload hC dX12_part_47 4 rfl ?_
          refine zf_callV hC (c_X12_parted l g a0 a1 a2 a3) mt_X12_parted wd_1581 sp_52 ci_11 ic_11 wd_1579 rfl (rm_le hR rfl) rfl rfl (rest := []) rfl (Nat.le_of_ble_eq_true rfl) dX12_part_49 (fun r18 k19 h20 => ?_)
          refine zf_goto hC (tgt := 56) dX12_part_52 (by decide) ?_
          exact zf_iret hC rfl dX12_part_56
        · refine zf_iconst hC (v := (-1)) dX12_part_55 rfl ?_
          exact zf_iret hC rfl dX12_part_56
      · refine zf_iconst hC (v := (-1)) dX12_part_55 rfl ?_
        exact zf_iret hC rfl dX12_part_56
    · refine zf_iconst hC (v := (-1)) dX12_part_55 rfl ?_
      exact zf_iret hC rfl dX12_part_56
/-! LifeKeysModel.isParting -/
theorem dX12_isParting_0 : decode cX12_isParting 0 = .ok (.iload_n 1, 1) := by decide +kernel
theorem dX12_isParting_1 : decode cX12_isParting 1 = .ok (.ifCond .lt 15, 3) := by decide +kernel
theorem dX12_isParting_4 : decode cX12_isParting 4 = .ok (.iload_n 1, 1) := by decide +kernel
theorem dX12_isParting_5 : decode cX12_isParting 5 = .ok (.aload_n 0, 1) := by decide +kernel
theorem dX12_isParting_6 : decode cX12_isParting 6 = .ok (.getfield 243, 3) := by decide +kernel
theorem dX12_isParting_9 : decode cX12_isParting 9 = .ok (.if_icmp .ge 7, 3) := by decide +kernel
theorem dX12_isParting_12 : decode cX12_isParting 12 = .ok (.iconst 1, 1) := by decide +kernel
theorem dX12_isParting_13 : decode cX12_isParting 13 = .ok (.goto 4, 3) := by decide +kernel
theorem dX12_isParting_16 : decode cX12_isParting 16 = .ok (.iconst 0, 1) := by decide +kernel
theorem dX12_isParting_17 : decode cX12_isParting 17 = .ok (.ireturn, 1) := by decide +kernel
def fX12_isParting (k : ST) (a0 : Int32) : Option (Bool × ST) := if a0 < 0 then some (false, k) else if (gI k 11 30) ≤ a0 then some (false, k) else some (true, k)
set_option maxRecDepth 20000 in
theorem c_X12_isParting (l : Launch) (g : GT) (a0 : Int32) : CN l yX12_isParting cX12_isParting 2 (some .boolean) { frames := 0, cells := 0, slots := 0, locals := 0 } g TM voB [.ref (g.2.1 11), .int a0] (fun k => fX12_isParting k a0) := by
  refine cn_of (by decide) (Nat.le_of_ble_eq_true rfl) ?_
  intro p e s m args below meth c hC k
  have hC : HC p s m args meth c cX12_isParting 2 RX12 (some .boolean) g := hC
  have hR : 0 ≤ ({ frames := 0, cells := 0, slots := 0, locals := 0 } : Room).frames ∧ 0 ≤ ({ frames := 0, cells := 0, slots := 0, locals := 0 } : Room).locals := ⟨Nat.le_refl _, Nat.le_refl _⟩
  show ZF p l e _ s m args below meth c g TM voB 2 k 0 [(0, .ref (g.2.1 11)), (1, .int a0)] [] (fX12_isParting k a0)
  unfold fX12_isParting
  refine zf_iload_n hC dX12_isParting_0 rfl 1 rfl ?_
  refine zf_if_lt hC (tgt := 16) dX12_isParting_1 (by decide) (fun h1 => ?_) (fun h1 => ?_)
  · refine zf_iconst hC (v := 0) dX12_isParting_16 rfl ?_
    exact zf_zret hC rfl false rfl dX12_isParting_17
  · refine zf_iload_n hC dX12_isParting_4 rfl 1 rfl ?_
    refine zf_aload_n hC dX12_isParting_5 rfl 0 rfl ?_
    refine gf_1260 hC dX12_isParting_6 ?_
    refine zf_icmp_ge hC (tgt := 16) dX12_isParting_9 (by decide) (fun h2 => ?_) (fun h2 => ?_)
    · refine zf_iconst hC (v := 0) dX12_isParting_16 rfl ?_
      exact zf_zret hC rfl false rfl dX12_isParting_17
    · refine zf_iconst hC (v := 1) dX12_isParting_12 rfl ?_
      refine zf_goto hC (tgt := 17) dX12_isParting_13 (by decide) ?_
      exact zf_zret hC rfl true rfl dX12_isParting_17
/-! LifeKeysModel.again -/
theorem dX12_again_0 : decode cX12_again 0 = .ok (.aload_n 0, 1) := by decide +kernel
theorem dX12_again_1 : decode cX12_again 1 = .ok (.iconst 0, 1) := by decide +kernel
theorem dX12_again_2 : decode cX12_again 2 = .ok (.putfield 181, 3) := by decide +kernel
theorem dX12_again_5 : decode cX12_again 5 = .ok (.aload_n 0, 1) := by decide +kernel
theorem dX12_again_6 : decode cX12_again 6 = .ok (.getfield 243, 3) := by decide +kernel
theorem dX12_again_9 : decode cX12_again 9 = .ok (.bipush 40, 2) := by decide +kernel
theorem dX12_again_11 : decode cX12_again 11 = .ok (.if_icmp .eq 23, 3) := by decide +kernel
theorem dX12_again_14 : decode cX12_again 14 = .ok (.aload_n 0, 1) := by decide +kernel
theorem dX12_again_15 : decode cX12_again 15 = .ok (.iload_n 1, 1) := by decide +kernel
theorem dX12_again_16 : decode cX12_again 16 = .ok (.invokevirtual 267, 3) := by decide +kernel
theorem dX12_again_19 : decode cX12_again 19 = .ok (.ifCond .eq 15, 3) := by decide +kernel
theorem dX12_again_22 : decode cX12_again 22 = .ok (.aload_n 0, 1) := by decide +kernel
theorem dX12_again_23 : decode cX12_again 23 = .ok (.getfield 69, 3) := by decide +kernel
theorem dX12_again_26 : decode cX12_again 26 = .ok (.iload_n 1, 1) := by decide +kernel
theorem dX12_again_27 : decode cX12_again 27 = .ok (.iaload, 1) := by decide +kernel
theorem dX12_again_28 : decode cX12_again 28 = .ok (.sipush 9999, 3) := by decide +kernel
theorem dX12_again_31 : decode cX12_again 31 = .ok (.if_icmp .eq 5, 3) := by decide +kernel
theorem dX12_again_34 : decode cX12_again 34 = .ok (.iconst (-1), 1) := by decide +kernel
theorem dX12_again_35 : decode cX12_again 35 = .ok (.ireturn, 1) := by decide +kernel
theorem dX12_again_36 : decode cX12_again 36 = .ok (.aload_n 0, 1) := by decide +kernel
theorem dX12_again_37 : decode cX12_again 37 = .ok (.getfield 69, 3) := by decide +kernel
theorem dX12_again_40 : decode cX12_again 40 = .ok (.iload_n 1, 1) := by decide +kernel
theorem dX12_again_41 : decode cX12_again 41 = .ok (.aload_n 0, 1) := by decide +kernel
theorem dX12_again_42 : decode cX12_again 42 = .ok (.getfield 185, 3) := by decide +kernel
theorem dX12_again_45 : decode cX12_again 45 = .ok (.iastore, 1) := by decide +kernel
theorem dX12_again_46 : decode cX12_again 46 = .ok (.aload_n 0, 1) := by decide +kernel
theorem dX12_again_47 : decode cX12_again 47 = .ok (.aload_n 0, 1) := by decide +kernel
theorem dX12_again_48 : decode cX12_again 48 = .ok (.getfield 57, 3) := by decide +kernel
theorem dX12_again_51 : decode cX12_again 51 = .ok (.iload_n 1, 1) := by decide +kernel
theorem dX12_again_52 : decode cX12_again 52 = .ok (.iaload, 1) := by decide +kernel
theorem dX12_again_53 : decode cX12_again 53 = .ok (.aload_n 0, 1) := by decide +kernel
theorem dX12_again_54 : decode cX12_again 54 = .ok (.getfield 60, 3) := by decide +kernel
theorem dX12_again_57 : decode cX12_again 57 = .ok (.iload_n 1, 1) := by decide +kernel
theorem dX12_again_58 : decode cX12_again 58 = .ok (.iaload, 1) := by decide +kernel
theorem dX12_again_59 : decode cX12_again 59 = .ok (.aload_n 0, 1) := by decide +kernel
theorem dX12_again_60 : decode cX12_again 60 = .ok (.getfield 63, 3) := by decide +kernel
theorem dX12_again_63 : decode cX12_again 63 = .ok (.iload_n 1, 1) := by decide +kernel
theorem dX12_again_64 : decode cX12_again 64 = .ok (.iaload, 1) := by decide +kernel
theorem dX12_again_65 : decode cX12_again 65 = .ok (.lload_n 2, 1) := by decide +kernel
theorem dX12_again_66 : decode cX12_again 66 = .ok (.invokevirtual 263, 3) := by decide +kernel
theorem dX12_again_69 : decode cX12_again 69 = .ok (.ireturn, 1) := by decide +kernel
def fX12_again (k : ST) (a0 : Int32) (a1 : Int64) : Option (Int32 × ST) := nm (sI k 11 0 0) fun k1 => if (gI k1 11 30) = 40 then some ((-1), k1) else ob (fX12_isParting k1 a0) fun r3 k4 => if r3 = true then ck (inb a0 40) (if (gA k4 118 (ix a0)) = 9999 then ck (inb a0 40) (nm (sA k4 118 (ix a0) (gI k4 11 1)) fun k10 => ck (inb a0 40) (ck (inb a0 40) (ck (inb a0 40) (ob (fX12_parted k10 (gA k10 114 (ix a0)) (gA k10 115 (ix a0)) (gA k10 116 (ix a0)) a1) fun r14 k15 => some (r14, k15))))) else some ((-1), k4)) else some ((-1), k4)
set_option maxRecDepth 20000 in
theorem c_X12_again (l : Launch) (g : GT) (a0 : Int32) (a1 : Int64) : CN l yX12_again cX12_again 4 (some .int) { frames := 2, cells := 0, slots := 0, locals := 51 } g TM voI [.ref (g.2.1 11), .int a0, .long a1] (fun k => fX12_again k a0 a1) := by
  refine cn_of (by decide) (Nat.le_of_ble_eq_true rfl) ?_
  intro p e s m args below meth c hC k
  have hC : HC p s m args meth c cX12_again 4 RX12 (some .int) g := hC
  have hR : 2 ≤ ({ frames := 2, cells := 0, slots := 0, locals := 51 } : Room).frames ∧ 51 ≤ ({ frames := 2, cells := 0, slots := 0, locals := 51 } : Room).locals := ⟨Nat.le_refl _, Nat.le_refl _⟩
  show ZF p l e _ s m args below meth c g TM voI 4 k 0 [(0, .ref (g.2.1 11)), (1, .int a0), (2, .long a1)] [] (fX12_again k a0 a1)
  unfold fX12_again
  refine zf_aload_n hC dX12_again_0 rfl 0 rfl ?_
  refine zf_iconst hC (v := 0) dX12_again_1 rfl ?_
  refine pf_1230 hC dX12_again_2 ?_
  refine zf_nmk (fun k1 => ?_)
  refine zf_aload_n hC dX12_again_5 rfl 0 rfl ?_
  refine gf_1260 hC dX12_again_6 ?_
  refine zf_bipush hC (v := 40) dX12_again_9 rfl ?_
  refine zf_icmp_eq hC (tgt := 34) dX12_again_11 (by decide) (fun h2 => ?_) (fun h2 => ?_)
  · refine zf_iconst hC (v := (-1)) dX12_again_34 rfl ?_
    exact zf_iret hC rfl dX12_again_35
  · refine zf_aload_n hC dX12_again_14 rfl 0 rfl ?_
    refine zf_iload_n hC dX12_again_15 rfl 1 rfl ?_
    refine zf_callV hC (c_X12_isParting l g a0) mt_X12_isParting wd_1597 sp_53 ci_11 ic_11 wd_1595 rfl (rm_le hR rfl) rfl rfl (rest := []) rfl (Nat.le_of_ble_eq_true rfl) dX12_again_16 (fun r3 k4 h5 => ?_)
    refine zf_ifb_eq hC (tgt := 34) dX12_again_19 (by decide) (fun h6 => ?_) (fun h6 => ?_)
    · refine zf_aload_n hC dX12_again_22 rfl 0 rfl ?_
      refine gf_1255 hC dX12_again_23 ?_
      refine zf_iload_n hC dX12_again_26 rfl 1 rfl ?_
      refine zf_iald hC (j := 118) ia_118 rfl rfl dX12_again_27 (fun h7 => ?_)
      refine zf_sipush hC (v := 9999) dX12_again_28 rfl ?_
      refine zf_icmp_eq hC (tgt := 36) dX12_again_31 (by decide) (fun h8 => ?_) (fun h8 => ?_)
      · refine zf_aload_n hC dX12_again_36 rfl 0 rfl ?_
        refine gf_1255 hC dX12_again_37 ?_
        refine zf_iload_n hC dX12_again_40 rfl 1 rfl ?_
        refine zf_aload_n hC dX12_again_41 rfl 0 rfl ?_
        refine gf_1231 hC dX12_again_42 ?_
        refine zf_iast hC (j := 118) ia_118 rfl rfl dX12_again_45 (fun h9 => ?_)
        refine zf_nmk (fun k10 => ?_)
        refine zf_aload_n hC dX12_again_46 rfl 0 rfl ?_
        refine zf_aload_n hC dX12_again_47 rfl 0 rfl ?_
        refine gf_1251 hC dX12_again_48 ?_
        refine zf_iload_n hC dX12_again_51 rfl 1 rfl ?_
        refine zf_iald hC (j := 114) ia_114 rfl rfl dX12_again_52 (fun h11 => ?_)
        refine zf_aload_n hC dX12_again_53 rfl 0 rfl ?_
        refine gf_1252 hC dX12_again_54 ?_
        refine zf_iload_n hC dX12_again_57 rfl 1 rfl ?_
        refine zf_iald hC (j := 115) ia_115 rfl rfl dX12_again_58 (fun h12 => ?_)
        refine zf_aload_n hC dX12_again_59 rfl 0 rfl ?_
        refine gf_1253 hC dX12_again_60 ?_
        refine zf_iload_n hC dX12_again_63 rfl 1 rfl ?_
        refine zf_iald hC (j := 116) ia_116 rfl rfl dX12_again_64 (fun h13 => ?_)
        refine zf_lload_n hC dX12_again_65 rfl 2 rfl ?_
        refine zf_callV hC (c_X12_parted l g (gA k10 114 (ix a0)) (gA k10 115 (ix a0)) (gA k10 116 (ix a0)) a1) mt_X12_parted wd_1581 sp_52 ci_11 ic_11 wd_1579 rfl (rm_le hR rfl) rfl rfl (rest := []) rfl (Nat.le_of_ble_eq_true rfl) dX12_again_66 (fun r14 k15 h16 => ?_)
        exact zf_iret hC rfl dX12_again_69
      · refine zf_iconst hC (v := (-1)) dX12_again_34 rfl ?_
        exact zf_iret hC rfl dX12_again_35
    · refine zf_iconst hC (v := (-1)) dX12_again_34 rfl ?_
      exact zf_iret hC rfl dX12_again_35
/-! LifeKeysModel.isAmong -/
theorem dX12_isAmong_0 : decode cX12_isAmong 0 = .ok (.aload_n 0, 1) := by decide +kernel
theorem dX12_isAmong_1 : decode cX12_isAmong 1 = .ok (.iload_n 1, 1) := by decide +kernel
theorem dX12_isAmong_2 : decode cX12_isAmong 2 = .ok (.invokevirtual 267, 3) := by decide +kernel
theorem dX12_isAmong_5 : decode cX12_isAmong 5 = .ok (.ifCond .eq 29, 3) := by decide +kernel
theorem dX12_isAmong_8 : decode cX12_isAmong 8 = .ok (.aload_n 0, 1) := by decide +kernel
theorem dX12_isAmong_9 : decode cX12_isAmong 9 = .ok (.iload_n 2, 1) := by decide +kernel
theorem dX12_isAmong_10 : decode cX12_isAmong 10 = .ok (.invokevirtual 226, 3) := by decide +kernel
theorem dX12_isAmong_13 : decode cX12_isAmong 13 = .ok (.ifCond .eq 21, 3) := by decide +kernel
theorem dX12_isAmong_16 : decode cX12_isAmong 16 = .ok (.aload_n 0, 1) := by decide +kernel
theorem dX12_isAmong_17 : decode cX12_isAmong 17 = .ok (.getfield 60, 3) := by decide +kernel
theorem dX12_isAmong_20 : decode cX12_isAmong 20 = .ok (.iload_n 1, 1) := by decide +kernel
theorem dX12_isAmong_21 : decode cX12_isAmong 21 = .ok (.iaload, 1) := by decide +kernel
theorem dX12_isAmong_22 : decode cX12_isAmong 22 = .ok (.iload_n 2, 1) := by decide +kernel
theorem dX12_isAmong_23 : decode cX12_isAmong 23 = .ok (.ishr, 1) := by decide +kernel
theorem dX12_isAmong_24 : decode cX12_isAmong 24 = .ok (.iconst 1, 1) := by decide +kernel
theorem dX12_isAmong_25 : decode cX12_isAmong 25 = .ok (.iand, 1) := by decide +kernel
theorem dX12_isAmong_26 : decode cX12_isAmong 26 = .ok (.iconst 1, 1) := by decide +kernel
theorem dX12_isAmong_27 : decode cX12_isAmong 27 = .ok (.if_icmp .ne 7, 3) := by decide +kernel
theorem dX12_isAmong_30 : decode cX12_isAmong 30 = .ok (.iconst 1, 1) := by decide +kernel
theorem dX12_isAmong_31 : decode cX12_isAmong 31 = .ok (.goto 4, 3) := by decide +kernel
theorem dX12_isAmong_34 : decode cX12_isAmong 34 = .ok (.iconst 0, 1) := by decide +kernel
theorem dX12_isAmong_35 : decode cX12_isAmong 35 = .ok (.ireturn, 1) := by decide +kernel
def fX12_isAmong (k : ST) (a0 : Int32) (a1 : Int32) : Option (Bool × ST) := ob (fX12_isParting k a0) fun r1 k2 => if r1 = true then ob (fX12_isHolder k2 a1) fun r5 k6 => if r5 = true then ck (inb a0 40) (if ((j_shr (gA k6 115 (ix a0)) a1) &&& 1) = 1 then some (true, k6) else some (false, k6)) else some (false, k6) else some (false, k2)
set_option maxRecDepth 20000 in
theorem c_X12_isAmong (l : Launch) (g : GT) (a0 : Int32) (a1 : Int32) : CN l yX12_isAmong cX12_isAmong 3 (some .boolean) { frames := 1, cells := 0, slots := 0, locals := 21 } g TM voB [.ref (g.2.1 11), .int a0, .int a1] (fun k => fX12_isAmong k a0 a1) := by
  refine cn_of (by decide) (Nat.le_of_ble_eq_true rfl) ?_
  intro p e s m args below meth c hC k
  have hC : HC p s m args meth c cX12_isAmong 3 RX12 (some .boolean) g := hC
  have hR : 1 ≤ ({ frames := 1, cells := 0, slots := 0, locals := 21 } : Room).frames ∧ 21 ≤ ({ frames := 1, cells := 0, slots := 0, locals := 21 } : Room).locals := ⟨Nat.le_refl _, Nat.le_refl _⟩
  show ZF p l e _ s m args below meth c g TM voB 3 k 0 [(0, .ref (g.2.1 11)), (1, .int a0), (2, .int a1)] [] (fX12_isAmong k a0 a1)
  unfold fX12_isAmong
  refine zf_aload_n hC dX12_isAmong_0 rfl 0 rfl ?_
  refine zf_iload_n hC dX12_isAmong_1 rfl 1 rfl ?_
  refine zf_callV hC (c_X12_isParting l g a0) mt_X12_isParting wd_1597 sp_53 ci_11 ic_11 wd_1595 rfl (rm_le hR rfl) rfl rfl (rest := []) rfl (Nat.le_of_ble_eq_true rfl) dX12_isAmong_2 (fun r1 k2 h3 => ?_)
  refine zf_ifb_eq hC (tgt := 34) dX12_isAmong_5 (by decide) (fun h4 => ?_) (fun h4 => ?_)
  · refine zf_aload_n hC dX12_isAmong_8 rfl 0 rfl ?_
    refine zf_iload_n hC dX12_isAmong_9 rfl 2 rfl ?_
    refine zf_callV hC (c_X12_isHolder l g a1) mt_X12_isHolder wd_1552 sp_49 ci_11 ic_11 wd_1550 rfl (rm_le hR rfl) rfl rfl (rest := []) rfl (Nat.le_of_ble_eq_true rfl) dX12_isAmong_10 (fun r5 k6 h7 => ?_)
    refine zf_ifb_eq hC (tgt := 34) dX12_isAmong_13 (by decide) (fun h8 => ?_) (fun h8 => ?_)
    · refine zf_aload_n hC dX12_isAmong_16 rfl 0 rfl ?_
      refine gf_1252 hC dX12_isAmong_17 ?_
      refine zf_iload_n hC dX12_isAmong_20 rfl 1 rfl ?_
      refine zf_iald hC (j := 115) ia_115 rfl rfl dX12_isAmong_21 (fun h9 => ?_)
      refine zf_iload_n hC dX12_isAmong_22 rfl 2 rfl ?_
      refine zf_ishr hC dX12_isAmong_23 ?_
      refine zf_iconst hC (v := 1) dX12_isAmong_24 rfl ?_
      refine zf_iand hC dX12_isAmong_25 ?_
      refine zf_iconst hC (v := 1) dX12_isAmong_26 rfl ?_
      refine zf_icmp_ne hC (tgt := 34) dX12_isAmong_27 (by decide) (fun h10 => ?_) (fun h10 => ?_)
      · refine zf_iconst hC (v := 1) dX12_isAmong_30 rfl ?_
        refine zf_goto hC (tgt := 35) dX12_isAmong_31 (by decide) ?_
        exact zf_zret hC rfl true rfl dX12_isAmong_35
      · refine zf_iconst hC (v := 0) dX12_isAmong_34 rfl ?_
        exact zf_zret hC rfl false rfl dX12_isAmong_35
    · refine zf_iconst hC (v := 0) dX12_isAmong_34 rfl ?_
      exact zf_zret hC rfl false rfl dX12_isAmong_35
  · refine zf_iconst hC (v := 0) dX12_isAmong_34 rfl ?_
    exact zf_zret hC rfl false rfl dX12_isAmong_35
/-! LifeKeysModel.pieceOf -/
theorem dX12_pieceOf_0 : decode cX12_pieceOf 0 = .ok (.iconst 0, 1) := by decide +kernel
theorem dX12_pieceOf_1 : decode cX12_pieceOf 1 = .ok (.istore_n 3, 1) := by decide +kernel
theorem dX12_pieceOf_2 : decode cX12_pieceOf 2 = .ok (.aload_n 0, 1) := by decide +kernel
theorem dX12_pieceOf_3 : decode cX12_pieceOf 3 = .ok (.getfield 63, 3) := by decide +kernel
theorem dX12_pieceOf_6 : decode cX12_pieceOf 6 = .ok (.iload_n 1, 1) := by decide +kernel
theorem dX12_pieceOf_7 : decode cX12_pieceOf 7 = .ok (.iaload, 1) := by decide +kernel
theorem dX12_pieceOf_8 : decode cX12_pieceOf 8 = .ok (.iconst 1, 1) := by decide +kernel
theorem dX12_pieceOf_9 : decode cX12_pieceOf 9 = .ok (.isub, 1) := by decide +kernel
theorem dX12_pieceOf_10 : decode cX12_pieceOf 10 = .ok (.istore 4, 2) := by decide +kernel
theorem dX12_pieceOf_12 : decode cX12_pieceOf 12 = .ok (.iload 4, 2) := by decide +kernel
theorem dX12_pieceOf_14 : decode cX12_pieceOf 14 = .ok (.ifCond .lt 32, 3) := by decide +kernel
theorem dX12_pieceOf_17 : decode cX12_pieceOf 17 = .ok (.iload_n 3, 1) := by decide +kernel
theorem dX12_pieceOf_18 : decode cX12_pieceOf 18 = .ok (.iload_n 2, 1) := by decide +kernel
theorem dX12_pieceOf_19 : decode cX12_pieceOf 19 = .ok (.iconst 1, 1) := by decide +kernel
theorem dX12_pieceOf_20 : decode cX12_pieceOf 20 = .ok (.iadd, 1) := by decide +kernel
theorem dX12_pieceOf_21 : decode cX12_pieceOf 21 = .ok (.imul, 1) := by decide +kernel
theorem dX12_pieceOf_22 : decode cX12_pieceOf 22 = .ok (.aload_n 0, 1) := by decide +kernel
theorem dX12_pieceOf_23 : decode cX12_pieceOf 23 = .ok (.getfield 72, 3) := by decide +kernel
theorem dX12_pieceOf_26 : decode cX12_pieceOf 26 = .ok (.bipush 12, 2) := by decide +kernel
theorem dX12_pieceOf_28 : decode cX12_pieceOf 28 = .ok (.iload_n 1, 1) := by decide +kernel
theorem dX12_pieceOf_29 : decode cX12_pieceOf 29 = .ok (.imul, 1) := by decide +kernel
theorem dX12_pieceOf_30 : decode cX12_pieceOf 30 = .ok (.iload 4, 2) := by decide +kernel
theorem dX12_pieceOf_32 : decode cX12_pieceOf 32 = .ok (.iadd, 1) := by decide +kernel
theorem dX12_pieceOf_33 : decode cX12_pieceOf 33 = .ok (.iaload, 1) := by decide +kernel
theorem dX12_pieceOf_34 : decode cX12_pieceOf 34 = .ok (.iadd, 1) := by decide +kernel
theorem dX12_pieceOf_35 : decode cX12_pieceOf 35 = .ok (.sipush 1019, 3) := by decide +kernel
theorem dX12_pieceOf_38 : decode cX12_pieceOf 38 = .ok (.irem, 1) := by decide +kernel
theorem dX12_pieceOf_39 : decode cX12_pieceOf 39 = .ok (.istore_n 3, 1) := by decide +kernel
theorem dX12_pieceOf_40 : decode cX12_pieceOf 40 = .ok (.iinc 4 (-1), 3) := by decide +kernel
theorem dX12_pieceOf_43 : decode cX12_pieceOf 43 = .ok (.goto (-31), 3) := by decide +kernel
theorem dX12_pieceOf_46 : decode cX12_pieceOf 46 = .ok (.iload_n 3, 1) := by decide +kernel
theorem dX12_pieceOf_47 : decode cX12_pieceOf 47 = .ok (.ireturn, 1) := by decide +kernel
def lpX12_pieceOf_12 (v1 : Int32) (v2 : Int32) : Nat → Int32 → Int32 → ST → (Int32 → Int32 → ST → Option (Int32 × ST)) → Option (Int32 × ST)
  | 0, _, _, _, _ => none
  | n + 1, v3, v4, k, cont => if v4 < 0 then cont v3 v4 k else ck (inb ((12 * v1) + v4) 480) (nm (j_rem ((v3 * (v2 + 1)) + (gA k 119 (ix ((12 * v1) + v4)))) 1019) fun x4 => lpX12_pieceOf_12 v1 v2 n x4 (v4 + (-1)) k cont)
set_option maxRecDepth 20000 in
theorem zlpX12_pieceOf_12 {p : Program} {l : Launch} {e : Env} {R : Room} {s : State} {m : MethodId} {args : Array Value} {below : List Frame} {meth : Method} {c : Code} {g : GT} (hC : HC p s m args meth c cX12_pieceOf 5 RX12 (some .int) g) (hR : 0 ≤ R.frames ∧ 0 ≤ R.locals)  (v1 : Int32) (v2 : Int32) {cont : Int32 → Int32 → ST → Option (Int32 × ST)} (hk : ∀ (v3 : Int32) (v4 : Int32) (k : ST), ZF p l e R s m args below meth c g TM voI 5 k 46 [(0, .ref (g.2.1 11)), (1, .int v1), (2, .int v2), (3, .int v3), (4, .int v4)] [] (cont v3 v4 k)) : ∀ (n : Nat) (v3 : Int32) (v4 : Int32) (k : ST), ZF p l e R s m args below meth c g TM voI 5 k 12 [(0, .ref (g.2.1 11)), (1, .int v1), (2, .int v2), (3, .int v3), (4, .int v4)] [] (lpX12_pieceOf_12 v1 v2 n v3 v4 k cont) := by
  intro n
  induction n with
  | zero => intros; exact zf_none
  | succ n ih =>
    intro v3 v4 k
    rw [lpX12_pieceOf_12]
    refine zf_iload hC dX12_pieceOf_12 4 rfl ?_
    refine zf_if_lt hC (tgt := 46) dX12_pieceOf_14 (by decide) (fun h2 => ?_) (fun h2 => ?_)
    · refine zf_lv (LV' := [(0, .ref (g.2.1 11)), (1, .int v1), (2, .int v2), (3, .int v3), (4, .int v4)]) [0, 1, 2, 3, 4] rfl ?_
      exact hk v3 v4 k
    · refine zf_iload_n hC dX12_pieceOf_17 rfl 3 rfl ?_
      refine zf_iload_n hC dX12_pieceOf_18 rfl 2 rfl ?_
      refine zf_iconst hC (v := 1) dX12_pieceOf_19 rfl ?_
      refine zf_iadd hC dX12_pieceOf_20 ?_
      refine zf_imul hC dX12_pieceOf_21 ?_
      refine zf_aload_n hC dX12_pieceOf_22 rfl 0 rfl ?_
      refine gf_1256 hC dX12_pieceOf_23 ?_
      refine zf_bipush hC (v := 12) dX12_pieceOf_26 rfl ?_
      refine zf_iload_n hC dX12_pieceOf_28 rfl 1 rfl ?_
      refine zf_imul hC dX12_pieceOf_29 ?_
      refine zf_iload hC dX12_pieceOf_30 4 rfl ?_
      refine zf_iadd hC dX12_pieceOf_32 ?_
      refine zf_iald hC (j := 119) ia_119 rfl rfl dX12_pieceOf_33 (fun h3 => ?_)
      refine zf_iadd hC dX12_pieceOf_34 ?_
      refine zf_sipush hC (v := 1019) dX12_pieceOf_35 rfl ?_
      refine zf_irem hC dX12_pieceOf_38 (by decide) ?_
      refine zf_nmi (fun x4 => ?_)
      refine zf_istore_n hC (LV' := [(3, .int x4), (0, .ref (g.2.1 11)), (1, .int v1), (2, .int v2), (4, .int v4)]) dX12_pieceOf_39 rfl (by decide) rfl ?_
      refine zf_iinc hC (q := 4) (v := v4 + (-1)) (LV' := [(4, .int (v4 + (-1))), (3, .int x4), (0, .ref (g.2.1 11)), (1, .int v1), (2, .int v2)]) dX12_pieceOf_40 rfl rfl (by decide) rfl ?_
      refine zf_goto hC (tgt := 12) dX12_pieceOf_43 (by decide) ?_
      refine zf_lv (LV' := [(0, .ref (g.2.1 11)), (1, .int v1), (2, .int v2), (3, .int x4), (4, .int (v4 + (-1)))]) [2, 3, 4, 1, 0] rfl ?_
      exact ih x4 (v4 + (-1)) k
def fX12_pieceOf (k : ST) (a0 : Int32) (a1 : Int32) : Option (Int32 × ST) := ck (inb a0 40) (lpX12_pieceOf_12 a0 a1 FU 0 ((gA k 116 (ix a0)) - 1) k fun y5 y6 k7 => some (y5, k7))
set_option maxRecDepth 20000 in
theorem c_X12_pieceOf (l : Launch) (g : GT) (a0 : Int32) (a1 : Int32) : CN l yX12_pieceOf cX12_pieceOf 5 (some .int) { frames := 0, cells := 0, slots := 0, locals := 0 } g TM voI [.ref (g.2.1 11), .int a0, .int a1] (fun k => fX12_pieceOf k a0 a1) := by
  refine cn_of (by decide) (Nat.le_of_ble_eq_true rfl) ?_
  intro p e s m args below meth c hC k
  have hC : HC p s m args meth c cX12_pieceOf 5 RX12 (some .int) g := hC
  have hR : 0 ≤ ({ frames := 0, cells := 0, slots := 0, locals := 0 } : Room).frames ∧ 0 ≤ ({ frames := 0, cells := 0, slots := 0, locals := 0 } : Room).locals := ⟨Nat.le_refl _, Nat.le_refl _⟩
  show ZF p l e _ s m args below meth c g TM voI 5 k 0 [(0, .ref (g.2.1 11)), (1, .int a0), (2, .int a1)] [] (fX12_pieceOf k a0 a1)
  unfold fX12_pieceOf
  refine zf_iconst hC (v := 0) dX12_pieceOf_0 rfl ?_
  refine zf_istore_n hC (LV' := [(3, .int 0), (0, .ref (g.2.1 11)), (1, .int a0), (2, .int a1)]) dX12_pieceOf_1 rfl (by decide) rfl ?_
  refine zf_aload_n hC dX12_pieceOf_2 rfl 1 rfl ?_
  refine gf_1253 hC dX12_pieceOf_3 ?_
  refine zf_iload_n hC dX12_pieceOf_6 rfl 2 rfl ?_
  refine zf_iald hC (j := 116) ia_116 rfl rfl dX12_pieceOf_7 (fun h1 => ?_)
  refine zf_iconst hC (v := 1) dX12_pieceOf_8 rfl ?_
  refine zf_isub hC dX12_pieceOf_9 ?_
  refine zf_istore hC (LV' := [(4, .int ((gA k 116 (ix a0)) - 1)), (3, .int 0), (0, .ref (g.2.1 11)), (1, .int a0), (2, .int a1)]) dX12_pieceOf_10 (by decide) rfl ?_
  refine zf_lv (LV' := [(0, .ref (g.2.1 11)), (1, .int a0), (2, .int a1), (3, .int 0), (4, .int ((gA k 116 (ix a0)) - 1))]) [2, 3, 4, 1, 0] rfl ?_
  refine zlpX12_pieceOf_12 hC hR a0 a1 (fun y5 y6 k7 => ?_) FU 0 ((gA k 116 (ix a0)) - 1) k
  refine zf_iload_n hC dX12_pieceOf_46 rfl 3 rfl ?_
  exact zf_iret hC rfl dX12_pieceOf_47
/-! LifeKeysModel.piece -/
theorem dX12_piece_0 : decode cX12_piece 0 = .ok (.aload_n 0, 1) := by decide +kernel
theorem dX12_piece_1 : decode cX12_piece 1 = .ok (.iconst 0, 1) := by decide +kernel
theorem dX12_piece_2 : decode cX12_piece 2 = .ok (.putfield 181, 3) := by decide +kernel
theorem dX12_piece_5 : decode cX12_piece 5 = .ok (.aload_n 0, 1) := by decide +kernel
theorem dX12_piece_6 : decode cX12_piece 6 = .ok (.iload_n 1, 1) := by decide +kernel
theorem dX12_piece_7 : decode cX12_piece 7 = .ok (.iload_n 2, 1) := by decide +kernel
theorem dX12_piece_8 : decode cX12_piece 8 = .ok (.invokevirtual 270, 3) := by decide +kernel
theorem dX12_piece_11 : decode cX12_piece 11 = .ok (.ifCond .eq 12, 3) := by decide +kernel
theorem dX12_piece_14 : decode cX12_piece 14 = .ok (.aload_n 0, 1) := by decide +kernel
theorem dX12_piece_15 : decode cX12_piece 15 = .ok (.iload_n 1, 1) := by decide +kernel
theorem dX12_piece_16 : decode cX12_piece 16 = .ok (.iload_n 2, 1) := by decide +kernel
theorem dX12_piece_17 : decode cX12_piece 17 = .ok (.invokevirtual 273, 3) := by decide +kernel
theorem dX12_piece_20 : decode cX12_piece 20 = .ok (.goto 4, 3) := by decide +kernel
theorem dX12_piece_23 : decode cX12_piece 23 = .ok (.iconst (-1), 1) := by decide +kernel
theorem dX12_piece_24 : decode cX12_piece 24 = .ok (.ireturn, 1) := by decide +kernel
def fX12_piece (k : ST) (a0 : Int32) (a1 : Int32) : Option (Int32 × ST) := nm (sI k 11 0 0) fun k1 => ob (fX12_isAmong k1 a0 a1) fun r2 k3 => if r2 = true then ob (fX12_pieceOf k3 a0 a1) fun r6 k7 => some (r6, k7) else some ((-1), k3)
set_option maxRecDepth 20000 in
theorem c_X12_piece (l : Launch) (g : GT) (a0 : Int32) (a1 : Int32) : CN l yX12_piece cX12_piece 3 (some .int) { frames := 2, cells := 0, slots := 0, locals := 43 } g TM voI [.ref (g.2.1 11), .int a0, .int a1] (fun k => fX12_piece k a0 a1) := by
  refine cn_of (by decide) (Nat.le_of_ble_eq_true rfl) ?_
  intro p e s m args below meth c hC k
  have hC : HC p s m args meth c cX12_piece 3 RX12 (some .int) g := hC
  have hR : 2 ≤ ({ frames := 2, cells := 0, slots := 0, locals := 43 } : Room).frames ∧ 43 ≤ ({ frames := 2, cells := 0, slots := 0, locals := 43 } : Room).locals := ⟨Nat.le_refl _, Nat.le_refl _⟩
  show ZF p l e _ s m args below meth c g TM voI 3 k 0 [(0, .ref (g.2.1 11)), (1, .int a0), (2, .int a1)] [] (fX12_piece k a0 a1)
  unfold fX12_piece
  refine zf_aload_n hC dX12_piece_0 rfl 0 rfl ?_
  refine zf_iconst hC (v := 0) dX12_piece_1 rfl ?_
  refine pf_1230 hC dX12_piece_2 ?_
  refine zf_nmk (fun k1 => ?_)
  refine zf_aload_n hC dX12_piece_5 rfl 0 rfl ?_
  refine zf_iload_n hC dX12_piece_6 rfl 1 rfl ?_
  refine zf_iload_n hC dX12_piece_7 rfl 2 rfl ?_
  refine zf_callV hC (c_X12_isAmong l g a0 a1) mt_X12_isAmong wd_1605 sp_54 ci_11 ic_11 wd_1603 rfl (rm_le hR rfl) rfl rfl (rest := []) rfl (Nat.le_of_ble_eq_true rfl) dX12_piece_8 (fun r2 k3 h4 => ?_)
  refine zf_ifb_eq hC (tgt := 23) dX12_piece_11 (by decide) (fun h5 => ?_) (fun h5 => ?_)
  · refine zf_aload_n hC dX12_piece_14 rfl 0 rfl ?_
    refine zf_iload_n hC dX12_piece_15 rfl 1 rfl ?_
    refine zf_iload_n hC dX12_piece_16 rfl 2 rfl ?_
    refine zf_callV hC (c_X12_pieceOf l g a0 a1) mt_X12_pieceOf wd_1609 sp_55 ci_11 ic_11 wd_1607 rfl (rm_le hR rfl) rfl rfl (rest := []) rfl (Nat.le_of_ble_eq_true rfl) dX12_piece_17 (fun r6 k7 h8 => ?_)
    refine zf_goto hC (tgt := 24) dX12_piece_20 (by decide) ?_
    exact zf_iret hC rfl dX12_piece_24
  · refine zf_iconst hC (v := (-1)) dX12_piece_23 rfl ?_
    exact zf_iret hC rfl dX12_piece_24
/-! LifeKeysModel.checks -/
theorem dX12_checks_0 : decode cX12_checks 0 = .ok (.aload_n 0, 1) := by decide +kernel
theorem dX12_checks_1 : decode cX12_checks 1 = .ok (.iconst 0, 1) := by decide +kernel
theorem dX12_checks_2 : decode cX12_checks 2 = .ok (.putfield 181, 3) := by decide +kernel
theorem dX12_checks_5 : decode cX12_checks 5 = .ok (.aload_n 0, 1) := by decide +kernel
theorem dX12_checks_6 : decode cX12_checks 6 = .ok (.iload_n 1, 1) := by decide +kernel
theorem dX12_checks_7 : decode cX12_checks 7 = .ok (.invokevirtual 267, 3) := by decide +kernel
theorem dX12_checks_10 : decode cX12_checks 10 = .ok (.ifCond .eq 36, 3) := by decide +kernel
theorem dX12_checks_13 : decode cX12_checks 13 = .ok (.iload_n 2, 1) := by decide +kernel
theorem dX12_checks_14 : decode cX12_checks 14 = .ok (.iconst 0, 1) := by decide +kernel
theorem dX12_checks_15 : decode cX12_checks 15 = .ok (.aload_n 0, 1) := by decide +kernel
theorem dX12_checks_16 : decode cX12_checks 16 = .ok (.getfield 63, 3) := by decide +kernel
theorem dX12_checks_19 : decode cX12_checks 19 = .ok (.iload_n 1, 1) := by decide +kernel
theorem dX12_checks_20 : decode cX12_checks 20 = .ok (.iaload, 1) := by decide +kernel
theorem dX12_checks_21 : decode cX12_checks 21 = .ok (.iconst 1, 1) := by decide +kernel
theorem dX12_checks_22 : decode cX12_checks 22 = .ok (.isub, 1) := by decide +kernel
theorem dX12_checks_23 : decode cX12_checks 23 = .ok (.invokestatic 188, 3) := by decide +kernel
theorem dX12_checks_26 : decode cX12_checks 26 = .ok (.ifCond .eq 20, 3) := by decide +kernel
theorem dX12_checks_29 : decode cX12_checks 29 = .ok (.aload_n 0, 1) := by decide +kernel
theorem dX12_checks_30 : decode cX12_checks 30 = .ok (.getfield 72, 3) := by decide +kernel
theorem dX12_checks_33 : decode cX12_checks 33 = .ok (.bipush 12, 2) := by decide +kernel
theorem dX12_checks_35 : decode cX12_checks 35 = .ok (.iload_n 1, 1) := by decide +kernel
theorem dX12_checks_36 : decode cX12_checks 36 = .ok (.imul, 1) := by decide +kernel
theorem dX12_checks_37 : decode cX12_checks 37 = .ok (.iload_n 2, 1) := by decide +kernel
theorem dX12_checks_38 : decode cX12_checks 38 = .ok (.iadd, 1) := by decide +kernel
theorem dX12_checks_39 : decode cX12_checks 39 = .ok (.iaload, 1) := by decide +kernel
theorem dX12_checks_40 : decode cX12_checks 40 = .ok (.invokestatic 220, 3) := by decide +kernel
theorem dX12_checks_43 : decode cX12_checks 43 = .ok (.goto 4, 3) := by decide +kernel
theorem dX12_checks_46 : decode cX12_checks 46 = .ok (.iconst (-1), 1) := by decide +kernel
theorem dX12_checks_47 : decode cX12_checks 47 = .ok (.ireturn, 1) := by decide +kernel
def fX12_checks (k : ST) (a0 : Int32) (a1 : Int32) : Option (Int32 × ST) := nm (sI k 11 0 0) fun k1 => ob (fX12_isParting k1 a0) fun r2 k3 => if r2 = true then ck (inb a0 40) (ob (fX12_isIn k3 a1 0 ((gA k3 116 (ix a0)) - 1)) fun r7 k8 => if r7 = true then ck (inb ((12 * a0) + a1) 480) (ob (fX12_four k8 (gA k8 119 (ix ((12 * a0) + a1)))) fun r12 k13 => some (r12, k13)) else some ((-1), k8)) else some ((-1), k3)
set_option maxRecDepth 20000 in
theorem c_X12_checks (l : Launch) (g : GT) (a0 : Int32) (a1 : Int32) : CN l yX12_checks cX12_checks 3 (some .int) { frames := 2, cells := 0, slots := 0, locals := 44 } g TM voI [.ref (g.2.1 11), .int a0, .int a1] (fun k => fX12_checks k a0 a1) := by
  refine cn_of (by decide) (Nat.le_of_ble_eq_true rfl) ?_
  intro p e s m args below meth c hC k
  have hC : HC p s m args meth c cX12_checks 3 RX12 (some .int) g := hC
  have hR : 2 ≤ ({ frames := 2, cells := 0, slots := 0, locals := 44 } : Room).frames ∧ 44 ≤ ({ frames := 2, cells := 0, slots := 0, locals := 44 } : Room).locals := ⟨Nat.le_refl _, Nat.le_refl _⟩
  show ZF p l e _ s m args below meth c g TM voI 3 k 0 [(0, .ref (g.2.1 11)), (1, .int a0), (2, .int a1)] [] (fX12_checks k a0 a1)
  unfold fX12_checks
  refine zf_aload_n hC dX12_checks_0 rfl 0 rfl ?_
  refine zf_iconst hC (v := 0) dX12_checks_1 rfl ?_
  refine pf_1230 hC dX12_checks_2 ?_
  refine zf_nmk (fun k1 => ?_)
  refine zf_aload_n hC dX12_checks_5 rfl 0 rfl ?_
  refine zf_iload_n hC dX12_checks_6 rfl 1 rfl ?_
  refine zf_callV hC (c_X12_isParting l g a0) mt_X12_isParting wd_1597 sp_53 ci_11 ic_11 wd_1595 rfl (rm_le hR rfl) rfl rfl (rest := []) rfl (Nat.le_of_ble_eq_true rfl) dX12_checks_7 (fun r2 k3 h4 => ?_)
  refine zf_ifb_eq hC (tgt := 46) dX12_checks_10 (by decide) (fun h5 => ?_) (fun h5 => ?_)
  · refine zf_iload_n hC dX12_checks_13 rfl 2 rfl ?_
    refine zf_iconst hC (v := 0) dX12_checks_14 rfl ?_
    refine zf_aload_n hC dX12_checks_15 rfl 0 rfl ?_
    refine gf_1253 hC dX12_checks_16 ?_
    refine zf_iload_n hC dX12_checks_19 rfl 1 rfl ?_
    refine zf_iald hC (j := 116) ia_116 rfl rfl dX12_checks_20 (fun h6 => ?_)
    refine zf_iconst hC (v := 1) dX12_checks_21 rfl ?_
    refine zf_isub hC dX12_checks_22 ?_
    refine zf_callS hC (c_X12_isIn l g TM a1 0 ((gA k3 116 (ix a0)) - 1)) mt_X12_isIn wd_1495 wd_1494 rfl (rm_le hR rfl) rfl rfl (rest := []) rfl (Nat.le_of_ble_eq_true rfl) dX12_checks_23 (fun r7 k8 h9 => ?_)
    refine zf_ifb_eq hC (tgt := 46) dX12_checks_26 (by decide) (fun h10 => ?_) (fun h10 => ?_)
    · refine zf_aload_n hC dX12_checks_29 rfl 0 rfl ?_
      refine gf_1256 hC dX12_checks_30 ?_
      refine zf_bipush hC (v := 12) dX12_checks_33 rfl ?_
      refine zf_iload_n hC dX12_checks_35 rfl 1 rfl ?_
      refine zf_imul hC dX12_checks_36 ?_
      refine zf_iload_n hC dX12_checks_37 rfl 2 rfl ?_
      refine zf_iadd hC dX12_checks_38 ?_
      refine zf_iald hC (j := 119) ia_119 rfl rfl dX12_checks_39 (fun h11 => ?_)
      refine zf_callS hC (c_X12_four l g TM (gA k8 119 (ix ((12 * a0) + a1)))) mt_X12_four wd_1537 wd_1536 rfl (rm_le hR rfl) rfl rfl (rest := []) rfl (Nat.le_of_ble_eq_true rfl) dX12_checks_40 (fun r12 k13 h14 => ?_)
      refine zf_goto hC (tgt := 47) dX12_checks_43 (by decide) ?_
      exact zf_iret hC rfl dX12_checks_47
    · refine zf_iconst hC (v := (-1)) dX12_checks_46 rfl ?_
      exact zf_iret hC rfl dX12_checks_47
  · refine zf_iconst hC (v := (-1)) dX12_checks_46 rfl ?_
    exact zf_iret hC rfl dX12_checks_47
/-! LifeKeysModel.fits -/
theorem dX12_fits_0 : decode cX12_fits 0 = .ok (.aload_n 0, 1) := by decide +kernel
theorem dX12_fits_1 : decode cX12_fits 1 = .ok (.iconst 0, 1) := by decide +kernel
theorem dX12_fits_2 : decode cX12_fits 2 = .ok (.putfield 181, 3) := by decide +kernel
theorem dX12_fits_5 : decode cX12_fits 5 = .ok (.aload_n 0, 1) := by decide +kernel
theorem dX12_fits_6 : decode cX12_fits 6 = .ok (.iload_n 1, 1) := by decide +kernel
theorem dX12_fits_7 : decode cX12_fits 7 = .ok (.iload_n 2, 1) := by decide +kernel
theorem dX12_fits_8 : decode cX12_fits 8 = .ok (.invokevirtual 270, 3) := by decide +kernel
theorem dX12_fits_11 : decode cX12_fits 11 = .ok (.ifCond .eq 14, 3) := by decide +kernel
theorem dX12_fits_14 : decode cX12_fits 14 = .ok (.iload_n 3, 1) := by decide +kernel
theorem dX12_fits_15 : decode cX12_fits 15 = .ok (.iconst 0, 1) := by decide +kernel
theorem dX12_fits_16 : decode cX12_fits 16 = .ok (.sipush 1018, 3) := by decide +kernel
theorem dX12_fits_19 : decode cX12_fits 19 = .ok (.invokestatic 188, 3) := by decide +kernel
theorem dX12_fits_22 : decode cX12_fits 22 = .ok (.ifCond .ne 5, 3) := by decide +kernel
theorem dX12_fits_25 : decode cX12_fits 25 = .ok (.iconst (-1), 1) := by decide +kernel
theorem dX12_fits_26 : decode cX12_fits 26 = .ok (.ireturn, 1) := by decide +kernel
theorem dX12_fits_27 : decode cX12_fits 27 = .ok (.iconst 1, 1) := by decide +kernel
theorem dX12_fits_28 : decode cX12_fits 28 = .ok (.istore 4, 2) := by decide +kernel
theorem dX12_fits_30 : decode cX12_fits 30 = .ok (.iconst 0, 1) := by decide +kernel
theorem dX12_fits_31 : decode cX12_fits 31 = .ok (.istore 5, 2) := by decide +kernel
theorem dX12_fits_33 : decode cX12_fits 33 = .ok (.iload 5, 2) := by decide +kernel
theorem dX12_fits_35 : decode cX12_fits 35 = .ok (.aload_n 0, 1) := by decide +kernel
theorem dX12_fits_36 : decode cX12_fits 36 = .ok (.getfield 63, 3) := by decide +kernel
theorem dX12_fits_39 : decode cX12_fits 39 = .ok (.iload_n 1, 1) := by decide +kernel
theorem dX12_fits_40 : decode cX12_fits 40 = .ok (.iaload, 1) := by decide +kernel
theorem dX12_fits_41 : decode cX12_fits 41 = .ok (.if_icmp .ge 50, 3) := by decide +kernel
theorem dX12_fits_44 : decode cX12_fits 44 = .ok (.iload 4, 2) := by decide +kernel
theorem dX12_fits_46 : decode cX12_fits 46 = .ok (.aload_n 0, 1) := by decide +kernel
theorem dX12_fits_47 : decode cX12_fits 47 = .ok (.getfield 72, 3) := by decide +kernel
theorem dX12_fits_50 : decode cX12_fits 50 = .ok (.bipush 12, 2) := by decide +kernel
theorem dX12_fits_52 : decode cX12_fits 52 = .ok (.iload_n 1, 1) := by decide +kernel
theorem dX12_fits_53 : decode cX12_fits 53 = .ok (.imul, 1) := by decide +kernel
theorem dX12_fits_54 : decode cX12_fits 54 = .ok (.iload 5, 2) := by decide +kernel
theorem dX12_fits_56 : decode cX12_fits 56 = .ok (.iadd, 1) := by decide +kernel
theorem dX12_fits_57 : decode cX12_fits 57 = .ok (.iaload, 1) := by decide +kernel
theorem dX12_fits_58 : decode cX12_fits 58 = .ok (.invokestatic 220, 3) := by decide +kernel
theorem dX12_fits_61 : decode cX12_fits 61 = .ok (.iload_n 2, 1) := by decide +kernel
theorem dX12_fits_62 : decode cX12_fits 62 = .ok (.iconst 1, 1) := by decide +kernel
theorem dX12_fits_63 : decode cX12_fits 63 = .ok (.iadd, 1) := by decide +kernel
theorem dX12_fits_64 : decode cX12_fits 64 = .ok (.iload 5, 2) := by decide +kernel
theorem dX12_fits_66 : decode cX12_fits 66 = .ok (.sipush 1019, 3) := by decide +kernel
theorem dX12_fits_69 : decode cX12_fits 69 = .ok (.invokestatic 192, 3) := by decide +kernel
theorem dX12_fits_72 : decode cX12_fits 72 = .ok (.sipush 2039, 3) := by decide +kernel
theorem dX12_fits_75 : decode cX12_fits 75 = .ok (.invokestatic 192, 3) := by decide +kernel
theorem dX12_fits_78 : decode cX12_fits 78 = .ok (.imul, 1) := by decide +kernel
theorem dX12_fits_79 : decode cX12_fits 79 = .ok (.sipush 2039, 3) := by decide +kernel
theorem dX12_fits_82 : decode cX12_fits 82 = .ok (.irem, 1) := by decide +kernel
theorem dX12_fits_83 : decode cX12_fits 83 = .ok (.istore 4, 2) := by decide +kernel
theorem dX12_fits_85 : decode cX12_fits 85 = .ok (.iinc 5 1, 3) := by decide +kernel
theorem dX12_fits_88 : decode cX12_fits 88 = .ok (.goto (-55), 3) := by decide +kernel
theorem dX12_fits_91 : decode cX12_fits 91 = .ok (.iload_n 3, 1) := by decide +kernel
theorem dX12_fits_92 : decode cX12_fits 92 = .ok (.invokestatic 220, 3) := by decide +kernel
theorem dX12_fits_95 : decode cX12_fits 95 = .ok (.iload 4, 2) := by decide +kernel
theorem dX12_fits_97 : decode cX12_fits 97 = .ok (.if_icmp .ne 7, 3) := by decide +kernel
theorem dX12_fits_100 : decode cX12_fits 100 = .ok (.iconst 1, 1) := by decide +kernel
theorem dX12_fits_101 : decode cX12_fits 101 = .ok (.goto 4, 3) := by decide +kernel
theorem dX12_fits_104 : decode cX12_fits 104 = .ok (.iconst 0, 1) := by decide +kernel
theorem dX12_fits_105 : decode cX12_fits 105 = .ok (.ireturn, 1) := by decide +kernel
def lpX12_fits_33 (v1 : Int32) (v2 : Int32) (v3 : Int32) : Nat → Int32 → Int32 → ST → (Int32 → Int32 → ST → Option (Int32 × ST)) → Option (Int32 × ST)
  | 0, _, _, _, _ => none
  | n + 1, v4, v5, k, cont => ck (inb v1 40) (if (gA k 116 (ix v1)) ≤ v5 then cont v4 v5 k else ck (inb ((12 * v1) + v5) 480) (ob (fX12_four k (gA k 119 (ix ((12 * v1) + v5)))) fun r13 k14 => ob (fX12_power k14 (v2 + 1) v5 1019) fun r16 k17 => ob (fX12_power k17 r13 r16 2039) fun r19 k20 => lpX12_fits_33 v1 v2 v3 n (j_rem (v4 * r19) 2039) (v5 + 1) k20 cont))
set_option maxRecDepth 20000 in
theorem zlpX12_fits_33 {p : Program} {l : Launch} {e : Env} {R : Room} {s : State} {m : MethodId} {args : Array Value} {below : List Frame} {meth : Method} {c : Code} {g : GT} (hC : HC p s m args meth c cX12_fits 6 RX12 (some .int) g) (hR : 2 ≤ R.frames ∧ 44 ≤ R.locals)  (v1 : Int32) (v2 : Int32) (v3 : Int32) {cont : Int32 → Int32 → ST → Option (Int32 × ST)} (hk : ∀ (v4 : Int32) (v5 : Int32) (k : ST), ZF p l e R s m args below meth c g TM voI 6 k 91 [(0, .ref (g.2.1 11)), (1, .int v1), (2, .int v2), (3, .int v3), (4, .int v4), (5, .int v5)] [] (cont v4 v5 k)) : ∀ (n : Nat) (v4 : Int32) (v5 : Int32) (k : ST), ZF p l e R s m args below meth c g TM voI 6 k 33 [(0, .ref (g.2.1 11)), (1, .int v1), (2, .int v2), (3, .int v3), (4, .int v4), (5, .int v5)] [] (lpX12_fits_33 v1 v2 v3 n v4 v5 k cont) := by
  intro n
  induction n with
  | zero => intros; exact zf_none
  | succ n ih =>
    intro v4 v5 k
    rw [lpX12_fits_33]
    refine zf_iload hC dX12_fits_33 5 rfl ?_
    refine zf_aload_n hC dX12_fits_35 rfl 0 rfl ?_
    refine gf_1253 hC dX12_fits_36 ?_
    refine zf_iload_n hC dX12_fits_39 rfl 1 rfl ?_
    refine zf_iald hC (j := 116) ia_116 rfl rfl dX12_fits_40 (fun h10 => ?_)
    refine zf_icmp_ge hC (tgt := 91) dX12_fits_41 (by decide) (fun h11 => ?_) (fun h11 => ?_)
    · refine zf_lv (LV' := [(0, .ref (g.2.1 11)), (1, .int v1), (2, .int v2), (3, .int v3), (4, .int v4), (5, .int v5)]) [0, 1, 2, 3, 4, 5] rfl ?_
      exact hk v4 v5 k
    · refine zf_iload hC dX12_fits_44 4 rfl ?_
      refine zf_aload_n hC dX12_fits_46 rfl 0 rfl ?_
      refine gf_1256 hC dX12_fits_47 ?_
      refine zf_bipush hC (v := 12) dX12_fits_50 rfl ?_
      refine zf_iload_n hC dX12_fits_52 rfl 1 rfl ?_
      refine zf_imul hC dX12_fits_53 ?_
      refine zf_iload hC dX12_fits_54 5 rfl ?_
      refine zf_iadd hC dX12_fits_56 ?_
      refine zf_iald hC (j := 119) ia_119 rfl rfl dX12_fits_57 (fun h12 => ?_)
      refine zf_callS hC (c_X12_four l g TM (gA k 119 (ix ((12 * v1) + v5)))) mt_X12_four wd_1537 wd_1536 rfl (rm_le hR rfl) rfl rfl (rest := [.int v4]) rfl (Nat.le_of_ble_eq_true rfl) dX12_fits_58 (fun r13 k14 h15 => ?_)
      refine zf_iload_n hC dX12_fits_61 rfl 2 rfl ?_
      refine zf_iconst hC (v := 1) dX12_fits_62 rfl ?_
      refine zf_iadd hC dX12_fits_63 ?_
      refine zf_iload hC dX12_fits_64 5 rfl ?_
      refine zf_sipush hC (v := 1019) dX12_fits_66 rfl ?_
      refine zf_callS hC (c_X12_power l g TM (v2 + 1) v5 1019) mt_X12_power wd_1540 wd_1539 rfl (rm_le hR rfl) rfl rfl (rest := [.int r13, .int v4]) rfl (Nat.le_of_ble_eq_true rfl) dX12_fits_69 (fun r16 k17 h18 => ?_)
      refine zf_sipush hC (v := 2039) dX12_fits_72 rfl ?_
      refine zf_callS hC (c_X12_power l g TM r13 r16 2039) mt_X12_power wd_1540 wd_1539 rfl (rm_le hR rfl) rfl rfl (rest := [.int v4]) rfl (Nat.le_of_ble_eq_true rfl) dX12_fits_75 (fun r19 k20 h21 => ?_)
      refine zf_imul hC dX12_fits_78 ?_
      refine zf_sipush hC (v := 2039) dX12_fits_79 rfl ?_
      refine zf_irem hC dX12_fits_82 (by decide) ?_
      refine zf_istore hC (LV' := [(4, .int (j_rem (v4 * r19) 2039)), (0, .ref (g.2.1 11)), (1, .int v1), (2, .int v2), (3, .int v3), (5, .int v5)]) dX12_fits_83 (by decide) rfl ?_
      refine zf_iinc hC (q := 5) (v := v5 + 1) (LV' := [(5, .int (v5 + 1)), (4, .int (j_rem (v4 * r19) 2039)), (0, .ref (g.2.1 11)), (1, .int v1), (2, .int v2), (3, .int v3)]) dX12_fits_85 rfl rfl (by decide) rfl ?_
      refine zf_goto hC (tgt := 33) dX12_fits_88 (by decide) ?_
      refine zf_lv (LV' := [(0, .ref (g.2.1 11)), (1, .int v1), (2, .int v2), (3, .int v3), (4, .int (j_rem (v4 * r19) 2039)), (5, .int (v5 + 1))]) [2, 3, 4, 5, 1, 0] rfl ?_
      exact ih (j_rem (v4 * r19) 2039) (v5 + 1) k20
def fX12_fits (k : ST) (a0 : Int32) (a1 : Int32) (a2 : Int32) : Option (Int32 × ST) := nm (sI k 11 0 0) fun k1 => ob (fX12_isAmong k1 a0 a1) fun r2 k3 => if r2 = true then ob (fX12_isIn k3 a2 0 1018) fun r6 k7 => if r6 = true then lpX12_fits_33 a0 a1 a2 FU 1 0 k7 fun y22 y23 k24 => ob (fX12_four k24 a2) fun r25 k26 => if r25 = y22 then some (1, k26) else some (0, k26) else some ((-1), k7) else some ((-1), k3)
set_option maxRecDepth 20000 in
theorem c_X12_fits (l : Launch) (g : GT) (a0 : Int32) (a1 : Int32) (a2 : Int32) : CN l yX12_fits cX12_fits 6 (some .int) { frames := 2, cells := 0, slots := 0, locals := 44 } g TM voI [.ref (g.2.1 11), .int a0, .int a1, .int a2] (fun k => fX12_fits k a0 a1 a2) := by
  refine cn_of (by decide) (Nat.le_of_ble_eq_true rfl) ?_
  intro p e s m args below meth c hC k
  have hC : HC p s m args meth c cX12_fits 6 RX12 (some .int) g := hC
  have hR : 2 ≤ ({ frames := 2, cells := 0, slots := 0, locals := 44 } : Room).frames ∧ 44 ≤ ({ frames := 2, cells := 0, slots := 0, locals := 44 } : Room).locals := ⟨Nat.le_refl _, Nat.le_refl _⟩
  show ZF p l e _ s m args below meth c g TM voI 6 k 0 [(0, .ref (g.2.1 11)), (1, .int a0), (2, .int a1), (3, .int a2)] [] (fX12_fits k a0 a1 a2)
  unfold fX12_fits
  refine zf_aload_n hC dX12_fits_0 rfl 0 rfl ?_
  refine zf_iconst hC (v := 0) dX12_fits_1 rfl ?_
  refine pf_1230 hC dX12_fits_2 ?_
  refine zf_nmk (fun k1 => ?_)
  refine zf_aload_n hC dX12_fits_5 rfl 0 rfl ?_
  refine zf_iload_n hC dX12_fits_6 rfl 1 rfl ?_
  refine zf_iload_n hC dX12_fits_7 rfl 2 rfl ?_
  refine zf_callV hC (c_X12_isAmong l g a0 a1) mt_X12_isAmong wd_1605 sp_54 ci_11 ic_11 wd_1603 rfl (rm_le hR rfl) rfl rfl (rest := []) rfl (Nat.le_of_ble_eq_true rfl) dX12_fits_8 (fun r2 k3 h4 => ?_)
  refine zf_ifb_eq hC (tgt := 25) dX12_fits_11 (by decide) (fun h5 => ?_) (fun h5 => ?_)
  · refine zf_iload_n hC dX12_fits_14 rfl 3 rfl ?_
    refine zf_iconst hC (v := 0) dX12_fits_15 rfl ?_
    refine zf_sipush hC (v := 1018) dX12_fits_16 rfl ?_
    refine zf_callS hC (c_X12_isIn l g TM a2 0 1018) mt_X12_isIn wd_1495 wd_1494 rfl (rm_le hR rfl) rfl rfl (rest := []) rfl (Nat.le_of_ble_eq_true rfl) dX12_fits_19 (fun r6 k7 h8 => ?_)
    refine zf_ifb_ne hC (tgt := 27) dX12_fits_22 (by decide) (fun h9 => ?_) (fun h9 => ?_)
    · refine zf_iconst hC (v := 1) dX12_fits_27 rfl ?_
      refine zf_istore hC (LV' := [(4, .int 1), (0, .ref (g.2.1 11)), (1, .int a0), (2, .int a1), (3, .int a2)]) dX12_fits_28 (by decide) rfl ?_
      refine zf_iconst hC (v := 0) dX12_fits_30 rfl ?_
      refine zf_istore hC (LV' := [(5, .int 0), (4, .int 1), (0, .ref (g.2.1 11)), (1, .int a0), (2, .int a1), (3, .int a2)]) dX12_fits_31 (by decide) rfl ?_
      refine zf_lv (LV' := [(0, .ref (g.2.1 11)), (1, .int a0), (2, .int a1), (3, .int a2), (4, .int 1), (5, .int 0)]) [2, 3, 4, 5, 1, 0] rfl ?_
      refine zlpX12_fits_33 hC hR a0 a1 a2 (fun y22 y23 k24 => ?_) FU 1 0 k7
      refine zf_iload_n hC dX12_fits_91 rfl 3 rfl ?_
      refine zf_callS hC (c_X12_four l g TM a2) mt_X12_four wd_1537 wd_1536 rfl (rm_le hR rfl) rfl rfl (rest := []) rfl (Nat.le_of_ble_eq_true rfl) dX12_fits_92 (fun r25 k26 h27 => ?_)
      refine zf_iload hC dX12_fits_95 4 rfl ?_
      refine zf_icmp_ne hC (tgt := 104) dX12_fits_97 (by decide) (fun h28 => ?_) (fun h28 => ?_)
      · refine zf_iconst hC (v := 1) dX12_fits_100 rfl ?_
        refine zf_goto hC (tgt := 105) dX12_fits_101 (by decide) ?_
        exact zf_iret hC rfl dX12_fits_105
      · refine zf_iconst hC (v := 0) dX12_fits_104 rfl ?_
        exact zf_iret hC rfl dX12_fits_105
    · refine zf_iconst hC (v := (-1)) dX12_fits_25 rfl ?_
      exact zf_iret hC rfl dX12_fits_26
  · refine zf_iconst hC (v := (-1)) dX12_fits_25 rfl ?_
    exact zf_iret hC rfl dX12_fits_26
/-! LifeKeysModel.lay -/
theorem dX12_lay_0 : decode cX12_lay 0 = .ok (.aload_n 0, 1) := by decide +kernel
theorem dX12_lay_1 : decode cX12_lay 1 = .ok (.iconst 0, 1) := by decide +kernel
theorem dX12_lay_2 : decode cX12_lay 2 = .ok (.putfield 181, 3) := by decide +kernel
theorem dX12_lay_5 : decode cX12_lay 5 = .ok (.aload_n 0, 1) := by decide +kernel
theorem dX12_lay_6 : decode cX12_lay 6 = .ok (.iload_n 1, 1) := by decide +kernel
theorem dX12_lay_7 : decode cX12_lay 7 = .ok (.invokevirtual 226, 3) := by decide +kernel
theorem dX12_lay_10 : decode cX12_lay 10 = .ok (.ifCond .eq 14, 3) := by decide +kernel
theorem dX12_lay_13 : decode cX12_lay 13 = .ok (.iload_n 2, 1) := by decide +kernel
theorem dX12_lay_14 : decode cX12_lay 14 = .ok (.iconst 0, 1) := by decide +kernel
theorem dX12_lay_15 : decode cX12_lay 15 = .ok (.sipush 1018, 3) := by decide +kernel
theorem dX12_lay_18 : decode cX12_lay 18 = .ok (.invokestatic 188, 3) := by decide +kernel
theorem dX12_lay_21 : decode cX12_lay 21 = .ok (.ifCond .ne 5, 3) := by decide +kernel
theorem dX12_lay_24 : decode cX12_lay 24 = .ok (.iconst (-1), 1) := by decide +kernel
theorem dX12_lay_25 : decode cX12_lay 25 = .ok (.ireturn, 1) := by decide +kernel
theorem dX12_lay_26 : decode cX12_lay 26 = .ok (.iconst 0, 1) := by decide +kernel
theorem dX12_lay_27 : decode cX12_lay 27 = .ok (.istore_n 3, 1) := by decide +kernel
theorem dX12_lay_28 : decode cX12_lay 28 = .ok (.iload_n 3, 1) := by decide +kernel
theorem dX12_lay_29 : decode cX12_lay 29 = .ok (.aload_n 0, 1) := by decide +kernel
theorem dX12_lay_30 : decode cX12_lay 30 = .ok (.getfield 277, 3) := by decide +kernel
theorem dX12_lay_33 : decode cX12_lay 33 = .ok (.if_icmp .ge 21, 3) := by decide +kernel
theorem dX12_lay_36 : decode cX12_lay 36 = .ok (.aload_n 0, 1) := by decide +kernel
theorem dX12_lay_37 : decode cX12_lay 37 = .ok (.getfield 75, 3) := by decide +kernel
theorem dX12_lay_40 : decode cX12_lay 40 = .ok (.iload_n 3, 1) := by decide +kernel
theorem dX12_lay_41 : decode cX12_lay 41 = .ok (.iaload, 1) := by decide +kernel
theorem dX12_lay_42 : decode cX12_lay 42 = .ok (.iload_n 1, 1) := by decide +kernel
theorem dX12_lay_43 : decode cX12_lay 43 = .ok (.if_icmp .ne 5, 3) := by decide +kernel
theorem dX12_lay_46 : decode cX12_lay 46 = .ok (.iconst (-1), 1) := by decide +kernel
theorem dX12_lay_47 : decode cX12_lay 47 = .ok (.ireturn, 1) := by decide +kernel
theorem dX12_lay_48 : decode cX12_lay 48 = .ok (.iinc 3 1, 3) := by decide +kernel
theorem dX12_lay_51 : decode cX12_lay 51 = .ok (.goto (-23), 3) := by decide +kernel
theorem dX12_lay_54 : decode cX12_lay 54 = .ok (.aload_n 0, 1) := by decide +kernel
theorem dX12_lay_55 : decode cX12_lay 55 = .ok (.getfield 75, 3) := by decide +kernel
theorem dX12_lay_58 : decode cX12_lay 58 = .ok (.aload_n 0, 1) := by decide +kernel
theorem dX12_lay_59 : decode cX12_lay 59 = .ok (.getfield 277, 3) := by decide +kernel
theorem dX12_lay_62 : decode cX12_lay 62 = .ok (.iload_n 1, 1) := by decide +kernel
theorem dX12_lay_63 : decode cX12_lay 63 = .ok (.iastore, 1) := by decide +kernel
theorem dX12_lay_64 : decode cX12_lay 64 = .ok (.aload_n 0, 1) := by decide +kernel
theorem dX12_lay_65 : decode cX12_lay 65 = .ok (.getfield 78, 3) := by decide +kernel
theorem dX12_lay_68 : decode cX12_lay 68 = .ok (.aload_n 0, 1) := by decide +kernel
theorem dX12_lay_69 : decode cX12_lay 69 = .ok (.getfield 277, 3) := by decide +kernel
theorem dX12_lay_72 : decode cX12_lay 72 = .ok (.iload_n 2, 1) := by decide +kernel
theorem dX12_lay_73 : decode cX12_lay 73 = .ok (.iastore, 1) := by decide +kernel
theorem dX12_lay_74 : decode cX12_lay 74 = .ok (.aload_n 0, 1) := by decide +kernel
theorem dX12_lay_75 : decode cX12_lay 75 = .ok (.dup, 1) := by decide +kernel
theorem dX12_lay_76 : decode cX12_lay 76 = .ok (.getfield 277, 3) := by decide +kernel
theorem dX12_lay_79 : decode cX12_lay 79 = .ok (.iconst 1, 1) := by decide +kernel
theorem dX12_lay_80 : decode cX12_lay 80 = .ok (.iadd, 1) := by decide +kernel
theorem dX12_lay_81 : decode cX12_lay 81 = .ok (.putfield 277, 3) := by decide +kernel
theorem dX12_lay_84 : decode cX12_lay 84 = .ok (.aload_n 0, 1) := by decide +kernel
theorem dX12_lay_85 : decode cX12_lay 85 = .ok (.getfield 277, 3) := by decide +kernel
theorem dX12_lay_88 : decode cX12_lay 88 = .ok (.ireturn, 1) := by decide +kernel
def lpX12_lay_28 (v1 : Int32) (v2 : Int32) : Nat → Int32 → ST → (Int32 → ST → Option (Int32 × ST)) → Option (Int32 × ST)
  | 0, _, _, _ => none
  | n + 1, v3, k, cont => if (gI k 11 31) ≤ v3 then cont v3 k else ck (inb v3 12) (if (gA k 120 (ix v3)) = v1 then some ((-1), k) else lpX12_lay_28 v1 v2 n (v3 + 1) k cont)
set_option maxRecDepth 20000 in
theorem zlpX12_lay_28 {p : Program} {l : Launch} {e : Env} {R : Room} {s : State} {m : MethodId} {args : Array Value} {below : List Frame} {meth : Method} {c : Code} {g : GT} (hC : HC p s m args meth c cX12_lay 4 RX12 (some .int) g) (hR : 1 ≤ R.frames ∧ 22 ≤ R.locals)  (v1 : Int32) (v2 : Int32) {cont : Int32 → ST → Option (Int32 × ST)} (hk : ∀ (v3 : Int32) (k : ST), ZF p l e R s m args below meth c g TM voI 4 k 54 [(0, .ref (g.2.1 11)), (1, .int v1), (2, .int v2), (3, .int v3)] [] (cont v3 k)) : ∀ (n : Nat) (v3 : Int32) (k : ST), ZF p l e R s m args below meth c g TM voI 4 k 28 [(0, .ref (g.2.1 11)), (1, .int v1), (2, .int v2), (3, .int v3)] [] (lpX12_lay_28 v1 v2 n v3 k cont) := by
  intro n
  induction n with
  | zero => intros; exact zf_none
  | succ n ih =>
    intro v3 k
    rw [lpX12_lay_28]
    refine zf_iload_n hC dX12_lay_28 rfl 3 rfl ?_
    refine zf_aload_n hC dX12_lay_29 rfl 0 rfl ?_
    refine gf_1261 hC dX12_lay_30 ?_
    refine zf_icmp_ge hC (tgt := 54) dX12_lay_33 (by decide) (fun h10 => ?_) (fun h10 => ?_)
    · refine zf_lv (LV' := [(0, .ref (g.2.1 11)), (1, .int v1), (2, .int v2), (3, .int v3)]) [0, 1, 2, 3] rfl ?_
      exact hk v3 k
    · refine zf_aload_n hC dX12_lay_36 rfl 0 rfl ?_
      refine gf_1257 hC dX12_lay_37 ?_
      refine zf_iload_n hC dX12_lay_40 rfl 3 rfl ?_
      refine zf_iald hC (j := 120) ia_120 rfl rfl dX12_lay_41 (fun h11 => ?_)
      refine zf_iload_n hC dX12_lay_42 rfl 1 rfl ?_
      refine zf_icmp_ne hC (tgt := 48) dX12_lay_43 (by decide) (fun h12 => ?_) (fun h12 => ?_)
      · refine zf_iconst hC (v := (-1)) dX12_lay_46 rfl ?_
        exact zf_iret hC rfl dX12_lay_47
      · refine zf_iinc hC (q := 3) (v := v3 + 1) (LV' := [(3, .int (v3 + 1)), (0, .ref (g.2.1 11)), (1, .int v1), (2, .int v2)]) dX12_lay_48 rfl rfl (by decide) rfl ?_
        refine zf_goto hC (tgt := 28) dX12_lay_51 (by decide) ?_
        refine zf_lv (LV' := [(0, .ref (g.2.1 11)), (1, .int v1), (2, .int v2), (3, .int (v3 + 1))]) [1, 2, 3, 0] rfl ?_
        exact ih (v3 + 1) k
def fX12_lay (k : ST) (a0 : Int32) (a1 : Int32) : Option (Int32 × ST) := nm (sI k 11 0 0) fun k1 => ob (fX12_isHolder k1 a0) fun r2 k3 => if r2 = true then ob (fX12_isIn k3 a1 0 1018) fun r6 k7 => if r6 = true then lpX12_lay_28 a0 a1 FU 0 k7 fun y13 k14 => ck (inb (gI k14 11 31) 12) (nm (sA k14 120 (ix (gI k14 11 31)) a0) fun k16 => ck (inb (gI k16 11 31) 12) (nm (sA k16 121 (ix (gI k16 11 31)) a1) fun k18 => nm (sI k18 11 31 ((gI k18 11 31) + 1)) fun k19 => some (gI k19 11 31, k19))) else some ((-1), k7) else some ((-1), k3)
set_option maxRecDepth 20000 in
theorem c_X12_lay (l : Launch) (g : GT) (a0 : Int32) (a1 : Int32) : CN l yX12_lay cX12_lay 4 (some .int) { frames := 1, cells := 0, slots := 0, locals := 22 } g TM voI [.ref (g.2.1 11), .int a0, .int a1] (fun k => fX12_lay k a0 a1) := by
  refine cn_of (by decide) (Nat.le_of_ble_eq_true rfl) ?_
  intro p e s m args below meth c hC k
  have hC : HC p s m args meth c cX12_lay 4 RX12 (some .int) g := hC
  have hR : 1 ≤ ({ frames := 1, cells := 0, slots := 0, locals := 22 } : Room).frames ∧ 22 ≤ ({ frames := 1, cells := 0, slots := 0, locals := 22 } : Room).locals := ⟨Nat.le_refl _, Nat.le_refl _⟩
  show ZF p l e _ s m args below meth c g TM voI 4 k 0 [(0, .ref (g.2.1 11)), (1, .int a0), (2, .int a1)] [] (fX12_lay k a0 a1)
  unfold fX12_lay
  refine zf_aload_n hC dX12_lay_0 rfl 0 rfl ?_
  refine zf_iconst hC (v := 0) dX12_lay_1 rfl ?_
  refine pf_1230 hC dX12_lay_2 ?_
  refine zf_nmk (fun k1 => ?_)
  refine zf_aload_n hC dX12_lay_5 rfl 0 rfl ?_
  refine zf_iload_n hC dX12_lay_6 rfl 1 rfl ?_
  refine zf_callV hC (c_X12_isHolder l g a0) mt_X12_isHolder wd_1552 sp_49 ci_11 ic_11 wd_1550 rfl (rm_le hR rfl) rfl rfl (rest := []) rfl (Nat.le_of_ble_eq_true rfl) dX12_lay_7 (fun r2 k3 h4 => ?_)
  refine zf_ifb_eq hC (tgt := 24) dX12_lay_10 (by decide) (fun h5 => ?_) (fun h5 => ?_)
  · refine zf_iload_n hC dX12_lay_13 rfl 2 rfl ?_
    refine zf_iconst hC (v := 0) dX12_lay_14 rfl ?_
    refine zf_sipush hC (v := 1018) dX12_lay_15 rfl ?_
    refine zf_callS hC (c_X12_isIn l g TM a1 0 1018) mt_X12_isIn wd_1495 wd_1494 rfl (rm_le hR rfl) rfl rfl (rest := []) rfl (Nat.le_of_ble_eq_true rfl) dX12_lay_18 (fun r6 k7 h8 => ?_)
    refine zf_ifb_ne hC (tgt := 26) dX12_lay_21 (by decide) (fun h9 => ?_) (fun h9 => ?_)
    · refine zf_iconst hC (v := 0) dX12_lay_26 rfl ?_
      refine zf_istore_n hC (LV' := [(3, .int 0), (0, .ref (g.2.1 11)), (1, .int a0), (2, .int a1)]) dX12_lay_27 rfl (by decide) rfl ?_
      refine zf_lv (LV' := [(0, .ref (g.2.1 11)), (1, .int a0), (2, .int a1), (3, .int 0)]) [1, 2, 3, 0] rfl ?_
      refine zlpX12_lay_28 hC hR a0 a1 (fun y13 k14 => ?_) FU 0 k7
      refine zf_aload_n hC dX12_lay_54 rfl 0 rfl ?_
      refine gf_1257 hC dX12_lay_55 ?_
      refine zf_aload_n hC dX12_lay_58 rfl 0 rfl ?_
      refine gf_1261 hC dX12_lay_59 ?_
      refine zf_iload_n hC dX12_lay_62 rfl 1 rfl ?_
      refine zf_iast hC (j := 120) ia_120 rfl rfl dX12_lay_63 (fun h15 => ?_)
      refine zf_nmk (fun k16 => ?_)
      refine zf_aload_n hC dX12_lay_64 rfl 0 rfl ?_
      refine gf_1258 hC dX12_lay_65 ?_
      refine zf_aload_n hC dX12_lay_68 rfl 0 rfl ?_
      refine gf_1261 hC dX12_lay_69 ?_
      refine zf_iload_n hC dX12_lay_72 rfl 2 rfl ?_
      refine zf_iast hC (j := 121) ia_121 rfl rfl dX12_lay_73 (fun h17 => ?_)
      refine zf_nmk (fun k18 => ?_)
      refine zf_aload_n hC dX12_lay_74 rfl 0 rfl ?_
      refine zf_dup hC dX12_lay_75 rfl ?_
      refine gf_1261 hC dX12_lay_76 ?_
      refine zf_iconst hC (v := 1) dX12_lay_79 rfl ?_
      refine zf_iadd hC dX12_lay_80 ?_
      refine pf_1261 hC dX12_lay_81 ?_
      refine zf_nmk (fun k19 => ?_)
      refine zf_aload_n hC dX12_lay_84 rfl 0 rfl ?_
      refine gf_1261 hC dX12_lay_85 ?_
      exact zf_iret hC rfl dX12_lay_88
    · refine zf_iconst hC (v := (-1)) dX12_lay_24 rfl ?_
      exact zf_iret hC rfl dX12_lay_25
  · refine zf_iconst hC (v := (-1)) dX12_lay_24 rfl ?_
    exact zf_iret hC rfl dX12_lay_25
/-! LifeKeysModel.inverse -/
theorem dX12_inverse_0 : decode cX12_inverse 0 = .ok (.iload_n 0, 1) := by decide +kernel
theorem dX12_inverse_1 : decode cX12_inverse 1 = .ok (.sipush 1017, 3) := by decide +kernel
theorem dX12_inverse_4 : decode cX12_inverse 4 = .ok (.sipush 1019, 3) := by decide +kernel
theorem dX12_inverse_7 : decode cX12_inverse 7 = .ok (.invokestatic 192, 3) := by decide +kernel
theorem dX12_inverse_10 : decode cX12_inverse 10 = .ok (.ireturn, 1) := by decide +kernel
def fX12_inverse (k : ST) (a0 : Int32) : Option (Int32 × ST) := ob (fX12_power k a0 1017 1019) fun r1 k2 => some (r1, k2)
set_option maxRecDepth 20000 in
theorem c_X12_inverse (l : Launch) (g : GT) (T : TT) (a0 : Int32) : CN l yX12_inverse cX12_inverse 1 (some .int) { frames := 1, cells := 0, slots := 0, locals := 24 } g T voI [.int a0] (fun k => fX12_inverse k a0) := by
  refine cn_of (by decide) (Nat.le_of_ble_eq_true rfl) ?_
  intro p e s m args below meth c hC k
  have hC : HC p s m args meth c cX12_inverse 1 RX12 (some .int) g := hC
  have hR : 1 ≤ ({ frames := 1, cells := 0, slots := 0, locals := 24 } : Room).frames ∧ 24 ≤ ({ frames := 1, cells := 0, slots := 0, locals := 24 } : Room).locals := ⟨Nat.le_refl _, Nat.le_refl _⟩
  show ZF p l e _ s m args below meth c g T voI 1 k 0 [(0, .int a0)] [] (fX12_inverse k a0)
  unfold fX12_inverse
  refine zf_iload_n hC dX12_inverse_0 rfl 0 rfl ?_
  refine zf_sipush hC (v := 1017) dX12_inverse_1 rfl ?_
  refine zf_sipush hC (v := 1019) dX12_inverse_4 rfl ?_
  refine zf_callS hC (c_X12_power l g T a0 1017 1019) mt_X12_power wd_1540 wd_1539 rfl (rm_le hR rfl) rfl rfl (rest := []) rfl (Nat.le_of_ble_eq_true rfl) dX12_inverse_7 (fun r1 k2 h3 => ?_)
  exact zf_iret hC rfl dX12_inverse_10
/-! LifeKeysModel.weight -/
theorem dX12_weight_0 : decode cX12_weight 0 = .ok (.iconst 1, 1) := by decide +kernel
theorem dX12_weight_1 : decode cX12_weight 1 = .ok (.istore_n 2, 1) := by decide +kernel
theorem dX12_weight_2 : decode cX12_weight 2 = .ok (.iconst 0, 1) := by decide +kernel
theorem dX12_weight_3 : decode cX12_weight 3 = .ok (.istore_n 3, 1) := by decide +kernel
theorem dX12_weight_4 : decode cX12_weight 4 = .ok (.iload_n 3, 1) := by decide +kernel
theorem dX12_weight_5 : decode cX12_weight 5 = .ok (.bipush 12, 2) := by decide +kernel
theorem dX12_weight_7 : decode cX12_weight 7 = .ok (.if_icmp .ge 50, 3) := by decide +kernel
theorem dX12_weight_10 : decode cX12_weight 10 = .ok (.iload_n 3, 1) := by decide +kernel
theorem dX12_weight_11 : decode cX12_weight 11 = .ok (.iload_n 0, 1) := by decide +kernel
theorem dX12_weight_12 : decode cX12_weight 12 = .ok (.if_icmp .eq 39, 3) := by decide +kernel
theorem dX12_weight_15 : decode cX12_weight 15 = .ok (.iload_n 1, 1) := by decide +kernel
theorem dX12_weight_16 : decode cX12_weight 16 = .ok (.iload_n 3, 1) := by decide +kernel
theorem dX12_weight_17 : decode cX12_weight 17 = .ok (.ishr, 1) := by decide +kernel
theorem dX12_weight_18 : decode cX12_weight 18 = .ok (.iconst 1, 1) := by decide +kernel
theorem dX12_weight_19 : decode cX12_weight 19 = .ok (.iand, 1) := by decide +kernel
theorem dX12_weight_20 : decode cX12_weight 20 = .ok (.iconst 1, 1) := by decide +kernel
theorem dX12_weight_21 : decode cX12_weight 21 = .ok (.if_icmp .ne 30, 3) := by decide +kernel
theorem dX12_weight_24 : decode cX12_weight 24 = .ok (.iload_n 2, 1) := by decide +kernel
theorem dX12_weight_25 : decode cX12_weight 25 = .ok (.iload_n 3, 1) := by decide +kernel
theorem dX12_weight_26 : decode cX12_weight 26 = .ok (.iconst 1, 1) := by decide +kernel
theorem dX12_weight_27 : decode cX12_weight 27 = .ok (.iadd, 1) := by decide +kernel
theorem dX12_weight_28 : decode cX12_weight 28 = .ok (.imul, 1) := by decide +kernel
theorem dX12_weight_29 : decode cX12_weight 29 = .ok (.sipush 1019, 3) := by decide +kernel
theorem dX12_weight_32 : decode cX12_weight 32 = .ok (.irem, 1) := by decide +kernel
theorem dX12_weight_33 : decode cX12_weight 33 = .ok (.iload_n 3, 1) := by decide +kernel
theorem dX12_weight_34 : decode cX12_weight 34 = .ok (.iload_n 0, 1) := by decide +kernel
theorem dX12_weight_35 : decode cX12_weight 35 = .ok (.isub, 1) := by decide +kernel
theorem dX12_weight_36 : decode cX12_weight 36 = .ok (.sipush 1019, 3) := by decide +kernel
theorem dX12_weight_39 : decode cX12_weight 39 = .ok (.invokestatic 280, 3) := by decide +kernel
theorem dX12_weight_42 : decode cX12_weight 42 = .ok (.invokestatic 285, 3) := by decide +kernel
theorem dX12_weight_45 : decode cX12_weight 45 = .ok (.imul, 1) := by decide +kernel
theorem dX12_weight_46 : decode cX12_weight 46 = .ok (.sipush 1019, 3) := by decide +kernel
theorem dX12_weight_49 : decode cX12_weight 49 = .ok (.irem, 1) := by decide +kernel
theorem dX12_weight_50 : decode cX12_weight 50 = .ok (.istore_n 2, 1) := by decide +kernel
theorem dX12_weight_51 : decode cX12_weight 51 = .ok (.iinc 3 1, 3) := by decide +kernel
theorem dX12_weight_54 : decode cX12_weight 54 = .ok (.goto (-50), 3) := by decide +kernel
theorem dX12_weight_57 : decode cX12_weight 57 = .ok (.iload_n 2, 1) := by decide +kernel
theorem dX12_weight_58 : decode cX12_weight 58 = .ok (.ireturn, 1) := by decide +kernel
def lpX12_weight_4 (v0 : Int32) (v1 : Int32) : Nat → Int32 → Int32 → ST → (Int32 → Int32 → ST → Option (Int32 × ST)) → Option (Int32 × ST)
  | 0, _, _, _, _ => none
  | n + 1, v2, v3, k, cont => if 12 ≤ v3 then cont v2 v3 k else if v3 = v0 then lpX12_weight_4 v0 v1 n v2 (v3 + 1) k cont else if ((j_shr v1 v3) &&& 1) = 1 then ob (fJ9_floorMod_7cf53 k (v3 - v0) 1019) fun r4 k5 => ob (fX12_inverse k5 r4) fun r7 k8 => nm (j_rem ((j_rem (v2 * (v3 + 1)) 1019) * r7) 1019) fun x10 => lpX12_weight_4 v0 v1 n x10 (v3 + 1) k8 cont else lpX12_weight_4 v0 v1 n v2 (v3 + 1) k cont
set_option maxRecDepth 20000 in
theorem zlpX12_weight_4 {p : Program} {l : Launch} {e : Env} {R : Room} {s : State} {m : MethodId} {args : Array Value} {below : List Frame} {meth : Method} {c : Code} {g : GT} {T : TT} (hC : HC p s m args meth c cX12_weight 4 RX12 (some .int) g) (hR : 2 ≤ R.frames ∧ 44 ≤ R.locals)  (v0 : Int32) (v1 : Int32) {cont : Int32 → Int32 → ST → Option (Int32 × ST)} (hk : ∀ (v2 : Int32) (v3 : Int32) (k : ST), ZF p l e R s m args below meth c g T voI 4 k 57 [(0, .int v0), (1, .int v1), (2, .int v2), (3, .int v3)] [] (cont v2 v3 k)) : ∀ (n : Nat) (v2 : Int32) (v3 : Int32) (k : ST), ZF p l e R s m args below meth c g T voI 4 k 4 [(0, .int v0), (1, .int v1), (2, .int v2), (3, .int v3)] [] (lpX12_weight_4 v0 v1 n v2 v3 k cont) := by
  intro n
  induction n with
  | zero => intros; exact zf_none
  | succ n ih =>
    intro v2 v3 k
    rw [lpX12_weight_4]
    refine zf_iload_n hC dX12_weight_4 rfl 3 rfl ?_
    refine zf_bipush hC (v := 12) dX12_weight_5 rfl ?_
    refine zf_icmp_ge hC (tgt := 57) dX12_weight_7 (by decide) (fun h1 => ?_) (fun h1 => ?_)
    · refine zf_lv (LV' := [(0, .int v0), (1, .int v1), (2, .int v2), (3, .int v3)]) [0, 1, 2, 3] rfl ?_
      exact hk v2 v3 k
    · refine zf_iload_n hC dX12_weight_10 rfl 3 rfl ?_
      refine zf_iload_n hC dX12_weight_11 rfl 0 rfl ?_
      refine zf_icmp_eq hC (tgt := 51) dX12_weight_12 (by decide) (fun h2 => ?_) (fun h2 => ?_)
      · refine zf_iinc hC (q := 3) (v := v3 + 1) (LV' := [(3, .int (v3 + 1)), (0, .int v0), (1, .int v1), (2, .int v2)]) dX12_weight_51 rfl rfl (by decide) rfl ?_
        refine zf_goto hC (tgt := 4) dX12_weight_54 (by decide) ?_
        refine zf_lv (LV' := [(0, .int v0), (1, .int v1), (2, .int v2), (3, .int (v3 + 1))]) [1, 2, 3, 0] rfl ?_
        exact ih v2 (v3 + 1) k
      · refine zf_iload_n hC dX12_weight_15 rfl 1 rfl ?_
        refine zf_iload_n hC dX12_weight_16 rfl 3 rfl ?_
        refine zf_ishr hC dX12_weight_17 ?_
        refine zf_iconst hC (v := 1) dX12_weight_18 rfl ?_
        refine zf_iand hC dX12_weight_19 ?_
        refine zf_iconst hC (v := 1) dX12_weight_20 rfl ?_
        refine zf_icmp_ne hC (tgt := 51) dX12_weight_21 (by decide) (fun h3 => ?_) (fun h3 => ?_)
        · refine zf_iload_n hC dX12_weight_24 rfl 2 rfl ?_
          refine zf_iload_n hC dX12_weight_25 rfl 3 rfl ?_
          refine zf_iconst hC (v := 1) dX12_weight_26 rfl ?_
          refine zf_iadd hC dX12_weight_27 ?_
          refine zf_imul hC dX12_weight_28 ?_
          refine zf_sipush hC (v := 1019) dX12_weight_29 rfl ?_
          refine zf_irem hC dX12_weight_32 (by decide) ?_
          refine zf_iload_n hC dX12_weight_33 rfl 3 rfl ?_
          refine zf_iload_n hC dX12_weight_34 rfl 0 rfl ?_
          refine zf_isub hC dX12_weight_35 ?_
          refine zf_sipush hC (v := 1019) dX12_weight_36 rfl ?_
          refine zf_callS hC (c_J9_floorMod_7cf53 l g T (v3 - v0) 1019) mt_J9_floorMod_7cf53 wd_673 wd_1630 rfl (rm_le hR rfl) rfl rfl (rest := [.int (j_rem (v2 * (v3 + 1)) 1019)]) rfl (Nat.le_of_ble_eq_true rfl) dX12_weight_39 (fun r4 k5 h6 => ?_)
          refine zf_callS hC (c_X12_inverse l g T r4) mt_X12_inverse wd_1632 wd_1631 rfl (rm_le hR rfl) rfl rfl (rest := [.int (j_rem (v2 * (v3 + 1)) 1019)]) rfl (Nat.le_of_ble_eq_true rfl) dX12_weight_42 (fun r7 k8 h9 => ?_)
          refine zf_imul hC dX12_weight_45 ?_
          refine zf_sipush hC (v := 1019) dX12_weight_46 rfl ?_
          refine zf_irem hC dX12_weight_49 (by decide) ?_
          refine zf_nmi (fun x10 => ?_)
          refine zf_istore_n hC (LV' := [(2, .int x10), (0, .int v0), (1, .int v1), (3, .int v3)]) dX12_weight_50 rfl (by decide) rfl ?_
          refine zf_iinc hC (q := 3) (v := v3 + 1) (LV' := [(3, .int (v3 + 1)), (2, .int x10), (0, .int v0), (1, .int v1)]) dX12_weight_51 rfl rfl (by decide) rfl ?_
          refine zf_goto hC (tgt := 4) dX12_weight_54 (by decide) ?_
          refine zf_lv (LV' := [(0, .int v0), (1, .int v1), (2, .int x10), (3, .int (v3 + 1))]) [2, 3, 1, 0] rfl ?_
          exact ih x10 (v3 + 1) k8
        · refine zf_iinc hC (q := 3) (v := v3 + 1) (LV' := [(3, .int (v3 + 1)), (0, .int v0), (1, .int v1), (2, .int v2)]) dX12_weight_51 rfl rfl (by decide) rfl ?_
          refine zf_goto hC (tgt := 4) dX12_weight_54 (by decide) ?_
          refine zf_lv (LV' := [(0, .int v0), (1, .int v1), (2, .int v2), (3, .int (v3 + 1))]) [1, 2, 3, 0] rfl ?_
          exact ih v2 (v3 + 1) k
def fX12_weight (k : ST) (a0 : Int32) (a1 : Int32) : Option (Int32 × ST) := lpX12_weight_4 a0 a1 FU 1 0 k fun y11 y12 k13 => some (y11, k13)
set_option maxRecDepth 20000 in
theorem c_X12_weight (l : Launch) (g : GT) (T : TT) (a0 : Int32) (a1 : Int32) : CN l yX12_weight cX12_weight 4 (some .int) { frames := 2, cells := 0, slots := 0, locals := 44 } g T voI [.int a0, .int a1] (fun k => fX12_weight k a0 a1) := by
  refine cn_of (by decide) (Nat.le_of_ble_eq_true rfl) ?_
  intro p e s m args below meth c hC k
  have hC : HC p s m args meth c cX12_weight 4 RX12 (some .int) g := hC
  have hR : 2 ≤ ({ frames := 2, cells := 0, slots := 0, locals := 44 } : Room).frames ∧ 44 ≤ ({ frames := 2, cells := 0, slots := 0, locals := 44 } : Room).locals := ⟨Nat.le_refl _, Nat.le_refl _⟩
  show ZF p l e _ s m args below meth c g T voI 4 k 0 [(0, .int a0), (1, .int a1)] [] (fX12_weight k a0 a1)
  unfold fX12_weight
  refine zf_iconst hC (v := 1) dX12_weight_0 rfl ?_
  refine zf_istore_n hC (LV' := [(2, .int 1), (0, .int a0), (1, .int a1)]) dX12_weight_1 rfl (by decide) rfl ?_
  refine zf_iconst hC (v := 0) dX12_weight_2 rfl ?_
  refine zf_istore_n hC (LV' := [(3, .int 0), (2, .int 1), (0, .int a0), (1, .int a1)]) dX12_weight_3 rfl (by decide) rfl ?_
  refine zf_lv (LV' := [(0, .int a0), (1, .int a1), (2, .int 1), (3, .int 0)]) [2, 3, 1, 0] rfl ?_
  refine zlpX12_weight_4 hC hR a0 a1 (fun y11 y12 k13 => ?_) FU 1 0 k
  refine zf_iload_n hC dX12_weight_57 rfl 2 rfl ?_
  exact zf_iret hC rfl dX12_weight_58
/-! LifeKeysModel.join -/
theorem dX12_join_0 : decode cX12_join 0 = .ok (.aload_n 0, 1) := by decide +kernel
theorem dX12_join_1 : decode cX12_join 1 = .ok (.iconst 0, 1) := by decide +kernel
theorem dX12_join_2 : decode cX12_join 2 = .ok (.putfield 181, 3) := by decide +kernel
theorem dX12_join_5 : decode cX12_join 5 = .ok (.aload_n 0, 1) := by decide +kernel
theorem dX12_join_6 : decode cX12_join 6 = .ok (.getfield 277, 3) := by decide +kernel
theorem dX12_join_9 : decode cX12_join 9 = .ok (.ifCond .ne 5, 3) := by decide +kernel
theorem dX12_join_12 : decode cX12_join 12 = .ok (.iconst (-1), 1) := by decide +kernel
theorem dX12_join_13 : decode cX12_join 13 = .ok (.ireturn, 1) := by decide +kernel
theorem dX12_join_14 : decode cX12_join 14 = .ok (.iconst 0, 1) := by decide +kernel
theorem dX12_join_15 : decode cX12_join 15 = .ok (.istore_n 1, 1) := by decide +kernel
theorem dX12_join_16 : decode cX12_join 16 = .ok (.iconst 0, 1) := by decide +kernel
theorem dX12_join_17 : decode cX12_join 17 = .ok (.istore_n 2, 1) := by decide +kernel
theorem dX12_join_18 : decode cX12_join 18 = .ok (.iload_n 2, 1) := by decide +kernel
theorem dX12_join_19 : decode cX12_join 19 = .ok (.aload_n 0, 1) := by decide +kernel
theorem dX12_join_20 : decode cX12_join 20 = .ok (.getfield 277, 3) := by decide +kernel
theorem dX12_join_23 : decode cX12_join 23 = .ok (.if_icmp .ge 20, 3) := by decide +kernel
theorem dX12_join_26 : decode cX12_join 26 = .ok (.iload_n 1, 1) := by decide +kernel
theorem dX12_join_27 : decode cX12_join 27 = .ok (.iconst 1, 1) := by decide +kernel
theorem dX12_join_28 : decode cX12_join 28 = .ok (.aload_n 0, 1) := by decide +kernel
theorem dX12_join_29 : decode cX12_join 29 = .ok (.getfield 75, 3) := by decide +kernel
theorem dX12_join_32 : decode cX12_join 32 = .ok (.iload_n 2, 1) := by decide +kernel
theorem dX12_join_33 : decode cX12_join 33 = .ok (.iaload, 1) := by decide +kernel
theorem dX12_join_34 : decode cX12_join 34 = .ok (.ishl, 1) := by decide +kernel
theorem dX12_join_35 : decode cX12_join 35 = .ok (.ior, 1) := by decide +kernel
theorem dX12_join_36 : decode cX12_join 36 = .ok (.istore_n 1, 1) := by decide +kernel
theorem dX12_join_37 : decode cX12_join 37 = .ok (.iinc 2 1, 3) := by decide +kernel
theorem dX12_join_40 : decode cX12_join 40 = .ok (.goto (-22), 3) := by decide +kernel
theorem dX12_join_43 : decode cX12_join 43 = .ok (.iconst 0, 1) := by decide +kernel
theorem dX12_join_44 : decode cX12_join 44 = .ok (.istore_n 2, 1) := by decide +kernel
theorem dX12_join_45 : decode cX12_join 45 = .ok (.iconst 0, 1) := by decide +kernel
theorem dX12_join_46 : decode cX12_join 46 = .ok (.istore_n 3, 1) := by decide +kernel
theorem dX12_join_47 : decode cX12_join 47 = .ok (.iload_n 3, 1) := by decide +kernel
theorem dX12_join_48 : decode cX12_join 48 = .ok (.aload_n 0, 1) := by decide +kernel
theorem dX12_join_49 : decode cX12_join 49 = .ok (.getfield 277, 3) := by decide +kernel
theorem dX12_join_52 : decode cX12_join 52 = .ok (.if_icmp .ge 33, 3) := by decide +kernel
theorem dX12_join_55 : decode cX12_join 55 = .ok (.iload_n 2, 1) := by decide +kernel
theorem dX12_join_56 : decode cX12_join 56 = .ok (.aload_n 0, 1) := by decide +kernel
theorem dX12_join_57 : decode cX12_join 57 = .ok (.getfield 78, 3) := by decide +kernel
theorem dX12_join_60 : decode cX12_join 60 = .ok (.iload_n 3, 1) := by decide +kernel
theorem dX12_join_61 : decode cX12_join 61 = .ok (.iaload, 1) := by decide +kernel
theorem dX12_join_62 : decode cX12_join 62 = .ok (.aload_n 0, 1) := by decide +kernel
theorem dX12_join_63 : decode cX12_join 63 = .ok (.getfield 75, 3) := by decide +kernel
theorem dX12_join_66 : decode cX12_join 66 = .ok (.iload_n 3, 1) := by decide +kernel
theorem dX12_join_67 : decode cX12_join 67 = .ok (.iaload, 1) := by decide +kernel
theorem dX12_join_68 : decode cX12_join 68 = .ok (.iload_n 1, 1) := by decide +kernel
theorem dX12_join_69 : decode cX12_join 69 = .ok (.invokestatic 288, 3) := by decide +kernel
theorem dX12_join_72 : decode cX12_join 72 = .ok (.imul, 1) := by decide +kernel
theorem dX12_join_73 : decode cX12_join 73 = .ok (.iadd, 1) := by decide +kernel
theorem dX12_join_74 : decode cX12_join 74 = .ok (.sipush 1019, 3) := by decide +kernel
theorem dX12_join_77 : decode cX12_join 77 = .ok (.irem, 1) := by decide +kernel
theorem dX12_join_78 : decode cX12_join 78 = .ok (.istore_n 2, 1) := by decide +kernel
theorem dX12_join_79 : decode cX12_join 79 = .ok (.iinc 3 1, 3) := by decide +kernel
theorem dX12_join_82 : decode cX12_join 82 = .ok (.goto (-35), 3) := by decide +kernel
theorem dX12_join_85 : decode cX12_join 85 = .ok (.aload_n 0, 1) := by decide +kernel
theorem dX12_join_86 : decode cX12_join 86 = .ok (.iconst 0, 1) := by decide +kernel
theorem dX12_join_87 : decode cX12_join 87 = .ok (.putfield 277, 3) := by decide +kernel
theorem dX12_join_90 : decode cX12_join 90 = .ok (.iload_n 2, 1) := by decide +kernel
theorem dX12_join_91 : decode cX12_join 91 = .ok (.ireturn, 1) := by decide +kernel
def lpX12_join_18  : Nat → Int32 → Int32 → ST → (Int32 → Int32 → ST → Option (Int32 × ST)) → Option (Int32 × ST)
  | 0, _, _, _, _ => none
  | n + 1, v1, v2, k, cont => if (gI k 11 31) ≤ v2 then cont v1 v2 k else ck (inb v2 12) (nm (v1 ||| (j_shl 1 (gA k 120 (ix v2)))) fun x5 => lpX12_join_18 n x5 (v2 + 1) k cont)
def lpX12_join_47 (v1 : Int32) : Nat → Int32 → Int32 → ST → (Int32 → Int32 → ST → Option (Int32 × ST)) → Option (Int32 × ST)
  | 0, _, _, _, _ => none
  | n + 1, v2, v3, k, cont => if (gI k 11 31) ≤ v3 then cont v2 v3 k else ck (inb v3 12) (ck (inb v3 12) (ob (fX12_weight k (gA k 120 (ix v3)) v1) fun r12 k13 => nm (j_rem (v2 + ((gA k 121 (ix v3)) * r12)) 1019) fun x15 => lpX12_join_47 v1 n x15 (v3 + 1) k13 cont))
set_option maxRecDepth 20000 in
theorem zlpX12_join_18 {p : Program} {l : Launch} {e : Env} {R : Room} {s : State} {m : MethodId} {args : Array Value} {below : List Frame} {meth : Method} {c : Code} {g : GT} (hC : HC p s m args meth c cX12_join 4 RX12 (some .int) g) (hR : 3 ≤ R.frames ∧ 67 ≤ R.locals)   {cont : Int32 → Int32 → ST → Option (Int32 × ST)} (hk : ∀ (v1 : Int32) (v2 : Int32) (k : ST), ZF p l e R s m args below meth c g TM voI 4 k 43 [(0, .ref (g.2.1 11)), (1, .int v1), (2, .int v2)] [] (cont v1 v2 k)) : ∀ (n : Nat) (v1 : Int32) (v2 : Int32) (k : ST), ZF p l e R s m args below meth c g TM voI 4 k 18 [(0, .ref (g.2.1 11)), (1, .int v1), (2, .int v2)] [] (lpX12_join_18 n v1 v2 k cont) := by
  intro n
  induction n with
  | zero => intros; exact zf_none
  | succ n ih =>
    intro v1 v2 k
    rw [lpX12_join_18]
    refine zf_iload_n hC dX12_join_18 rfl 2 rfl ?_
    refine zf_aload_n hC dX12_join_19 rfl 0 rfl ?_
    refine gf_1261 hC dX12_join_20 ?_
    refine zf_icmp_ge hC (tgt := 43) dX12_join_23 (by decide) (fun h3 => ?_) (fun h3 => ?_)
    · refine zf_lv (LV' := [(0, .ref (g.2.1 11)), (1, .int v1), (2, .int v2)]) [0, 1, 2] rfl ?_
      exact hk v1 v2 k
    · refine zf_iload_n hC dX12_join_26 rfl 1 rfl ?_
      refine zf_iconst hC (v := 1) dX12_join_27 rfl ?_
      refine zf_aload_n hC dX12_join_28 rfl 0 rfl ?_
      refine gf_1257 hC dX12_join_29 ?_
      refine zf_iload_n hC dX12_join_32 rfl 2 rfl ?_
      refine zf_iald hC (j := 120) ia_120 rfl rfl dX12_join_33 (fun h4 => ?_)
      refine zf_ishl hC dX12_join_34 ?_
      refine zf_ior hC dX12_join_35 ?_
      refine zf_nmi (fun x5 => ?_)
      refine zf_istore_n hC (LV' := [(1, .int x5), (0, .ref (g.2.1 11)), (2, .int v2)]) dX12_join_36 rfl (by decide) rfl ?_
      refine zf_iinc hC (q := 2) (v := v2 + 1) (LV' := [(2, .int (v2 + 1)), (1, .int x5), (0, .ref (g.2.1 11))]) dX12_join_37 rfl rfl (by decide) rfl ?_
      refine zf_goto hC (tgt := 18) dX12_join_40 (by decide) ?_
      refine zf_lv (LV' := [(0, .ref (g.2.1 11)), (1, .int x5), (2, .int (v2 + 1))]) [2, 1, 0] rfl ?_
      exact ih x5 (v2 + 1) k
set_option maxRecDepth 20000 in
theorem zlpX12_join_47 {p : Program} {l : Launch} {e : Env} {R : Room} {s : State} {m : MethodId} {args : Array Value} {below : List Frame} {meth : Method} {c : Code} {g : GT} (hC : HC p s m args meth c cX12_join 4 RX12 (some .int) g) (hR : 3 ≤ R.frames ∧ 67 ≤ R.locals)  (v1 : Int32) {cont : Int32 → Int32 → ST → Option (Int32 × ST)} (hk : ∀ (v2 : Int32) (v3 : Int32) (k : ST), ZF p l e R s m args below meth c g TM voI 4 k 85 [(0, .ref (g.2.1 11)), (1, .int v1), (2, .int v2), (3, .int v3)] [] (cont v2 v3 k)) : ∀ (n : Nat) (v2 : Int32) (v3 : Int32) (k : ST), ZF p l e R s m args below meth c g TM voI 4 k 47 [(0, .ref (g.2.1 11)), (1, .int v1), (2, .int v2), (3, .int v3)] [] (lpX12_join_47 v1 n v2 v3 k cont) := by
  intro n
  induction n with
  | zero => intros; exact zf_none
  | succ n ih =>
    intro v2 v3 k
    rw [lpX12_join_47]
    refine zf_iload_n hC dX12_join_47 rfl 3 rfl ?_
    refine zf_aload_n hC dX12_join_48 rfl 0 rfl ?_
    refine gf_1261 hC dX12_join_49 ?_
    refine zf_icmp_ge hC (tgt := 85) dX12_join_52 (by decide) (fun h9 => ?_) (fun h9 => ?_)
    · refine zf_lv (LV' := [(0, .ref (g.2.1 11)), (1, .int v1), (2, .int v2), (3, .int v3)]) [0, 1, 2, 3] rfl ?_
      exact hk v2 v3 k
    · refine zf_iload_n hC dX12_join_55 rfl 2 rfl ?_
      refine zf_aload_n hC dX12_join_56 rfl 0 rfl ?_
      refine gf_1258 hC dX12_join_57 ?_
      refine zf_iload_n hC dX12_join_60 rfl 3 rfl ?_
      refine zf_iald hC (j := 121) ia_121 rfl rfl dX12_join_61 (fun h10 => ?_)
      refine zf_aload_n hC dX12_join_62 rfl 0 rfl ?_
      refine gf_1257 hC dX12_join_63 ?_
      refine zf_iload_n hC dX12_join_66 rfl 3 rfl ?_
      refine zf_iald hC (j := 120) ia_120 rfl rfl dX12_join_67 (fun h11 => ?_)
      refine zf_iload_n hC dX12_join_68 rfl 1 rfl ?_
      refine zf_callS hC (c_X12_weight l g TM (gA k 120 (ix v3)) v1) mt_X12_weight wd_1628 wd_1627 rfl (rm_le hR rfl) rfl rfl (rest := [.int (gA k 121 (ix v3)), .int v2]) rfl (Nat.le_of_ble_eq_true rfl) dX12_join_69 (fun r12 k13 h14 => ?_)
      refine zf_imul hC dX12_join_72 ?_
      refine zf_iadd hC dX12_join_73 ?_
      refine zf_sipush hC (v := 1019) dX12_join_74 rfl ?_
      refine zf_irem hC dX12_join_77 (by decide) ?_
      refine zf_nmi (fun x15 => ?_)
      refine zf_istore_n hC (LV' := [(2, .int x15), (0, .ref (g.2.1 11)), (1, .int v1), (3, .int v3)]) dX12_join_78 rfl (by decide) rfl ?_
      refine zf_iinc hC (q := 3) (v := v3 + 1) (LV' := [(3, .int (v3 + 1)), (2, .int x15), (0, .ref (g.2.1 11)), (1, .int v1)]) dX12_join_79 rfl rfl (by decide) rfl ?_
      refine zf_goto hC (tgt := 47) dX12_join_82 (by decide) ?_
      refine zf_lv (LV' := [(0, .ref (g.2.1 11)), (1, .int v1), (2, .int x15), (3, .int (v3 + 1))]) [2, 3, 1, 0] rfl ?_
      exact ih x15 (v3 + 1) k13
def fX12_join (k : ST)  : Option (Int32 × ST) := nm (sI k 11 0 0) fun k1 => if (gI k1 11 31) = 0 then some ((-1), k1) else lpX12_join_18 FU 0 0 k1 fun y6 y7 k8 => lpX12_join_47 y6 FU 0 0 k8 fun y16 y17 k18 => nm (sI k18 11 31 0) fun k19 => some (y16, k19)
set_option maxRecDepth 20000 in
theorem c_X12_join (l : Launch) (g : GT)  : CN l yX12_join cX12_join 4 (some .int) { frames := 3, cells := 0, slots := 0, locals := 67 } g TM voI [.ref (g.2.1 11)] (fun k => fX12_join k) := by
  refine cn_of (by decide) (Nat.le_of_ble_eq_true rfl) ?_
  intro p e s m args below meth c hC k
  have hC : HC p s m args meth c cX12_join 4 RX12 (some .int) g := hC
  have hR : 3 ≤ ({ frames := 3, cells := 0, slots := 0, locals := 67 } : Room).frames ∧ 67 ≤ ({ frames := 3, cells := 0, slots := 0, locals := 67 } : Room).locals := ⟨Nat.le_refl _, Nat.le_refl _⟩
  show ZF p l e _ s m args below meth c g TM voI 4 k 0 [(0, .ref (g.2.1 11))] [] (fX12_join k)
  unfold fX12_join
  refine zf_aload_n hC dX12_join_0 rfl 0 rfl ?_
  refine zf_iconst hC (v := 0) dX12_join_1 rfl ?_
  refine pf_1230 hC dX12_join_2 ?_
  refine zf_nmk (fun k1 => ?_)
  refine zf_aload_n hC dX12_join_5 rfl 0 rfl ?_
  refine gf_1261 hC dX12_join_6 ?_
  refine zf_if_ne hC (tgt := 14) dX12_join_9 (by decide) (fun h2 => ?_) (fun h2 => ?_)
  · refine zf_iconst hC (v := (-1)) dX12_join_12 rfl ?_
    exact zf_iret hC rfl dX12_join_13
  · refine zf_iconst hC (v := 0) dX12_join_14 rfl ?_
    refine zf_istore_n hC (LV' := [(1, .int 0), (0, .ref (g.2.1 11))]) dX12_join_15 rfl (by decide) rfl ?_
    refine zf_iconst hC (v := 0) dX12_join_16 rfl ?_
    refine zf_istore_n hC (LV' := [(2, .int 0), (1, .int 0), (0, .ref (g.2.1 11))]) dX12_join_17 rfl (by decide) rfl ?_
    refine zf_lv (LV' := [(0, .ref (g.2.1 11)), (1, .int 0), (2, .int 0)]) [2, 1, 0] rfl ?_
    refine zlpX12_join_18 hC hR (fun y6 y7 k8 => ?_) FU 0 0 k1
    refine zf_iconst hC (v := 0) dX12_join_43 rfl ?_
    refine zf_istore_n hC (LV' := [(2, .int 0), (0, .ref (g.2.1 11)), (1, .int y6)]) dX12_join_44 rfl (by decide) rfl ?_
    refine zf_iconst hC (v := 0) dX12_join_45 rfl ?_
    refine zf_istore_n hC (LV' := [(3, .int 0), (2, .int 0), (0, .ref (g.2.1 11)), (1, .int y6)]) dX12_join_46 rfl (by decide) rfl ?_
    refine zf_lv (LV' := [(0, .ref (g.2.1 11)), (1, .int y6), (2, .int 0), (3, .int 0)]) [2, 3, 1, 0] rfl ?_
    refine zlpX12_join_47 hC hR y6 (fun y16 y17 k18 => ?_) FU 0 0 k8
    refine zf_aload_n hC dX12_join_85 rfl 0 rfl ?_
    refine zf_iconst hC (v := 0) dX12_join_86 rfl ?_
    refine pf_1261 hC dX12_join_87 ?_
    refine zf_nmk (fun k19 => ?_)
    refine zf_iload_n hC dX12_join_90 rfl 2 rfl ?_
    exact zf_iret hC rfl dX12_join_91
/-! LifeKeysModel.left -/
theorem dX12_left_0 : decode cX12_left 0 = .ok (.aload_n 0, 1) := by decide +kernel
theorem dX12_left_1 : decode cX12_left 1 = .ok (.iconst 0, 1) := by decide +kernel
theorem dX12_left_2 : decode cX12_left 2 = .ok (.putfield 181, 3) := by decide +kernel
theorem dX12_left_5 : decode cX12_left 5 = .ok (.aload_n 0, 1) := by decide +kernel
theorem dX12_left_6 : decode cX12_left 6 = .ok (.iload_n 1, 1) := by decide +kernel
theorem dX12_left_7 : decode cX12_left 7 = .ok (.invokevirtual 267, 3) := by decide +kernel
theorem dX12_left_10 : decode cX12_left 10 = .ok (.ifCond .eq 37, 3) := by decide +kernel
theorem dX12_left_13 : decode cX12_left 13 = .ok (.aload_n 0, 1) := by decide +kernel
theorem dX12_left_14 : decode cX12_left 14 = .ok (.iload_n 2, 1) := by decide +kernel
theorem dX12_left_15 : decode cX12_left 15 = .ok (.iconst 1, 1) := by decide +kernel
theorem dX12_left_16 : decode cX12_left 16 = .ok (.invokevirtual 254, 3) := by decide +kernel
theorem dX12_left_19 : decode cX12_left 19 = .ok (.ifCond .eq 28, 3) := by decide +kernel
theorem dX12_left_22 : decode cX12_left 22 = .ok (.iconst 0, 1) := by decide +kernel
theorem dX12_left_23 : decode cX12_left 23 = .ok (.aload_n 0, 1) := by decide +kernel
theorem dX12_left_24 : decode cX12_left 24 = .ok (.getfield 63, 3) := by decide +kernel
theorem dX12_left_27 : decode cX12_left 27 = .ok (.iload_n 1, 1) := by decide +kernel
theorem dX12_left_28 : decode cX12_left 28 = .ok (.iaload, 1) := by decide +kernel
theorem dX12_left_29 : decode cX12_left 29 = .ok (.iload_n 2, 1) := by decide +kernel
theorem dX12_left_30 : decode cX12_left 30 = .ok (.aload_n 0, 1) := by decide +kernel
theorem dX12_left_31 : decode cX12_left 31 = .ok (.getfield 60, 3) := by decide +kernel
theorem dX12_left_34 : decode cX12_left 34 = .ok (.iload_n 1, 1) := by decide +kernel
theorem dX12_left_35 : decode cX12_left 35 = .ok (.iaload, 1) := by decide +kernel
theorem dX12_left_36 : decode cX12_left 36 = .ok (.iand, 1) := by decide +kernel
theorem dX12_left_37 : decode cX12_left 37 = .ok (.invokestatic 258, 3) := by decide +kernel
theorem dX12_left_40 : decode cX12_left 40 = .ok (.isub, 1) := by decide +kernel
theorem dX12_left_41 : decode cX12_left 41 = .ok (.invokestatic 291, 3) := by decide +kernel
theorem dX12_left_44 : decode cX12_left 44 = .ok (.goto 4, 3) := by decide +kernel
theorem dX12_left_47 : decode cX12_left 47 = .ok (.iconst (-1), 1) := by decide +kernel
theorem dX12_left_48 : decode cX12_left 48 = .ok (.ireturn, 1) := by decide +kernel
def fX12_left (k : ST) (a0 : Int32) (a1 : Int32) : Option (Int32 × ST) := nm (sI k 11 0 0) fun k1 => ob (fX12_isParting k1 a0) fun r2 k3 => if r2 = true then ob (fX12_areHolders k3 a1 1) fun r6 k7 => if r6 = true then ck (inb a0 40) (ck (inb a0 40) (ob (fJ6_bitCount_0f7a4 k7 (a1 &&& (gA k7 115 (ix a0)))) fun r12 k13 => ob (fJ9_max_7cf53 k13 0 ((gA k7 116 (ix a0)) - r12)) fun r15 k16 => some (r15, k16))) else some ((-1), k7) else some ((-1), k3)
set_option maxRecDepth 20000 in
theorem c_X12_left (l : Launch) (g : GT) (a0 : Int32) (a1 : Int32) : CN l yX12_left cX12_left 3 (some .int) { frames := 1, cells := 0, slots := 0, locals := 22 } g TM voI [.ref (g.2.1 11), .int a0, .int a1] (fun k => fX12_left k a0 a1) := by
  refine cn_of (by decide) (Nat.le_of_ble_eq_true rfl) ?_
  intro p e s m args below meth c hC k
  have hC : HC p s m args meth c cX12_left 3 RX12 (some .int) g := hC
  have hR : 1 ≤ ({ frames := 1, cells := 0, slots := 0, locals := 22 } : Room).frames ∧ 22 ≤ ({ frames := 1, cells := 0, slots := 0, locals := 22 } : Room).locals := ⟨Nat.le_refl _, Nat.le_refl _⟩
  show ZF p l e _ s m args below meth c g TM voI 3 k 0 [(0, .ref (g.2.1 11)), (1, .int a0), (2, .int a1)] [] (fX12_left k a0 a1)
  unfold fX12_left
  refine zf_aload_n hC dX12_left_0 rfl 0 rfl ?_
  refine zf_iconst hC (v := 0) dX12_left_1 rfl ?_
  refine pf_1230 hC dX12_left_2 ?_
  refine zf_nmk (fun k1 => ?_)
  refine zf_aload_n hC dX12_left_5 rfl 0 rfl ?_
  refine zf_iload_n hC dX12_left_6 rfl 1 rfl ?_
  refine zf_callV hC (c_X12_isParting l g a0) mt_X12_isParting wd_1597 sp_53 ci_11 ic_11 wd_1595 rfl (rm_le hR rfl) rfl rfl (rest := []) rfl (Nat.le_of_ble_eq_true rfl) dX12_left_7 (fun r2 k3 h4 => ?_)
  refine zf_ifb_eq hC (tgt := 47) dX12_left_10 (by decide) (fun h5 => ?_) (fun h5 => ?_)
  · refine zf_aload_n hC dX12_left_13 rfl 0 rfl ?_
    refine zf_iload_n hC dX12_left_14 rfl 2 rfl ?_
    refine zf_iconst hC (v := 1) dX12_left_15 rfl ?_
    refine zf_callV hC (c_X12_areHolders l g a1 1) mt_X12_areHolders wd_1576 sp_51 ci_11 ic_11 wd_1574 rfl (rm_le hR rfl) rfl rfl (rest := []) rfl (Nat.le_of_ble_eq_true rfl) dX12_left_16 (fun r6 k7 h8 => ?_)
    refine zf_ifb_eq hC (tgt := 47) dX12_left_19 (by decide) (fun h9 => ?_) (fun h9 => ?_)
    · refine zf_iconst hC (v := 0) dX12_left_22 rfl ?_
      refine zf_aload_n hC dX12_left_23 rfl 0 rfl ?_
      refine gf_1253 hC dX12_left_24 ?_
      refine zf_iload_n hC dX12_left_27 rfl 1 rfl ?_
      refine zf_iald hC (j := 116) ia_116 rfl rfl dX12_left_28 (fun h10 => ?_)
      refine zf_iload_n hC dX12_left_29 rfl 2 rfl ?_
      refine zf_aload_n hC dX12_left_30 rfl 0 rfl ?_
      refine gf_1252 hC dX12_left_31 ?_
      refine zf_iload_n hC dX12_left_34 rfl 1 rfl ?_
      refine zf_iald hC (j := 115) ia_115 rfl rfl dX12_left_35 (fun h11 => ?_)
      refine zf_iand hC dX12_left_36 ?_
      refine zf_callS hC (c_J6_bitCount_0f7a4 l g TM (a1 &&& (gA k7 115 (ix a0)))) mt_J6_bitCount_0f7a4 wd_577 wd_1578 rfl (rm_le hR rfl) rfl rfl (rest := [.int (gA k7 116 (ix a0)), .int 0]) rfl (Nat.le_of_ble_eq_true rfl) dX12_left_37 (fun r12 k13 h14 => ?_)
      refine zf_isub hC dX12_left_40 ?_
      refine zf_callS hC (c_J9_max_7cf53 l g TM 0 ((gA k7 116 (ix a0)) - r12)) mt_J9_max_7cf53 wd_685 wd_1638 rfl (rm_le hR rfl) rfl rfl (rest := []) rfl (Nat.le_of_ble_eq_true rfl) dX12_left_41 (fun r15 k16 h17 => ?_)
      refine zf_goto hC (tgt := 48) dX12_left_44 (by decide) ?_
      exact zf_iret hC rfl dX12_left_48
    · refine zf_iconst hC (v := (-1)) dX12_left_47 rfl ?_
      exact zf_iret hC rfl dX12_left_48
  · refine zf_iconst hC (v := (-1)) dX12_left_47 rfl ?_
    exact zf_iret hC rfl dX12_left_48
/-! LifeKeysModel.isKnown -/
theorem dX12_isKnown_0 : decode cX12_isKnown 0 = .ok (.iload_n 1, 1) := by decide +kernel
theorem dX12_isKnown_1 : decode cX12_isKnown 1 = .ok (.iconst 0, 1) := by decide +kernel
theorem dX12_isKnown_2 : decode cX12_isKnown 2 = .ok (.aload_n 0, 1) := by decide +kernel
theorem dX12_isKnown_3 : decode cX12_isKnown 3 = .ok (.getfield 185, 3) := by decide +kernel
theorem dX12_isKnown_6 : decode cX12_isKnown 6 = .ok (.invokestatic 188, 3) := by decide +kernel
theorem dX12_isKnown_9 : decode cX12_isKnown 9 = .ok (.ireturn, 1) := by decide +kernel
def fX12_isKnown (k : ST) (a0 : Int32) : Option (Bool × ST) := ob (fX12_isIn k a0 0 (gI k 11 1)) fun r1 k2 => some (r1, k2)
set_option maxRecDepth 20000 in
theorem c_X12_isKnown (l : Launch) (g : GT) (a0 : Int32) : CN l yX12_isKnown cX12_isKnown 2 (some .boolean) { frames := 1, cells := 0, slots := 0, locals := 22 } g TM voB [.ref (g.2.1 11), .int a0] (fun k => fX12_isKnown k a0) := by
  refine cn_of (by decide) (Nat.le_of_ble_eq_true rfl) ?_
  intro p e s m args below meth c hC k
  have hC : HC p s m args meth c cX12_isKnown 2 RX12 (some .boolean) g := hC
  have hR : 1 ≤ ({ frames := 1, cells := 0, slots := 0, locals := 22 } : Room).frames ∧ 22 ≤ ({ frames := 1, cells := 0, slots := 0, locals := 22 } : Room).locals := ⟨Nat.le_refl _, Nat.le_refl _⟩
  show ZF p l e _ s m args below meth c g TM voB 2 k 0 [(0, .ref (g.2.1 11)), (1, .int a0)] [] (fX12_isKnown k a0)
  unfold fX12_isKnown
  refine zf_iload_n hC dX12_isKnown_0 rfl 1 rfl ?_
  refine zf_iconst hC (v := 0) dX12_isKnown_1 rfl ?_
  refine zf_aload_n hC dX12_isKnown_2 rfl 0 rfl ?_
  refine gf_1231 hC dX12_isKnown_3 ?_
  refine zf_callS hC (c_X12_isIn l g TM a0 0 (gI k 11 1)) mt_X12_isIn wd_1495 wd_1494 rfl (rm_le hR rfl) rfl rfl (rest := []) rfl (Nat.le_of_ble_eq_true rfl) dX12_isKnown_6 (fun r1 k2 h3 => ?_)
  exact zf_zret hC rfl r1 rfl dX12_isKnown_9
/-! LifeKeysModel.layHas -/
theorem dX12_layHas_0 : decode cX12_layHas 0 = .ok (.iconst 0, 1) := by decide +kernel
theorem dX12_layHas_1 : decode cX12_layHas 1 = .ok (.istore_n 2, 1) := by decide +kernel
theorem dX12_layHas_2 : decode cX12_layHas 2 = .ok (.iload_n 2, 1) := by decide +kernel
theorem dX12_layHas_3 : decode cX12_layHas 3 = .ok (.aload_n 0, 1) := by decide +kernel
theorem dX12_layHas_4 : decode cX12_layHas 4 = .ok (.getfield 196, 3) := by decide +kernel
theorem dX12_layHas_7 : decode cX12_layHas 7 = .ok (.if_icmp .ge 54, 3) := by decide +kernel
theorem dX12_layHas_10 : decode cX12_layHas 10 = .ok (.aload_n 0, 1) := by decide +kernel
theorem dX12_layHas_11 : decode cX12_layHas 11 = .ok (.getfield 81, 3) := by decide +kernel
theorem dX12_layHas_14 : decode cX12_layHas 14 = .ok (.iload_n 2, 1) := by decide +kernel
theorem dX12_layHas_15 : decode cX12_layHas 15 = .ok (.lconst 0, 1) := by decide +kernel
theorem dX12_layHas_16 : decode cX12_layHas 16 = .ok (.lastore, 1) := by decide +kernel
theorem dX12_layHas_17 : decode cX12_layHas 17 = .ok (.iconst 0, 1) := by decide +kernel
theorem dX12_layHas_18 : decode cX12_layHas 18 = .ok (.istore_n 3, 1) := by decide +kernel
theorem dX12_layHas_19 : decode cX12_layHas 19 = .ok (.iload_n 3, 1) := by decide +kernel
theorem dX12_layHas_20 : decode cX12_layHas 20 = .ok (.aload_n 0, 1) := by decide +kernel
theorem dX12_layHas_21 : decode cX12_layHas 21 = .ok (.getfield 199, 3) := by decide +kernel
theorem dX12_layHas_24 : decode cX12_layHas 24 = .ok (.if_icmp .ge 31, 3) := by decide +kernel
theorem dX12_layHas_27 : decode cX12_layHas 27 = .ok (.aload_n 0, 1) := by decide +kernel
theorem dX12_layHas_28 : decode cX12_layHas 28 = .ok (.iload_n 2, 1) := by decide +kernel
theorem dX12_layHas_29 : decode cX12_layHas 29 = .ok (.iload_n 3, 1) := by decide +kernel
theorem dX12_layHas_30 : decode cX12_layHas 30 = .ok (.iload_n 1, 1) := by decide +kernel
theorem dX12_layHas_31 : decode cX12_layHas 31 = .ok (.invokevirtual 229, 3) := by decide +kernel
theorem dX12_layHas_34 : decode cX12_layHas 34 = .ok (.ifCond .eq 15, 3) := by decide +kernel
theorem dX12_layHas_37 : decode cX12_layHas 37 = .ok (.aload_n 0, 1) := by decide +kernel
theorem dX12_layHas_38 : decode cX12_layHas 38 = .ok (.getfield 81, 3) := by decide +kernel
theorem dX12_layHas_41 : decode cX12_layHas 41 = .ok (.iload_n 2, 1) := by decide +kernel
theorem dX12_layHas_42 : decode cX12_layHas 42 = .ok (.dup2, 1) := by decide +kernel
theorem dX12_layHas_43 : decode cX12_layHas 43 = .ok (.laload, 1) := by decide +kernel
theorem dX12_layHas_44 : decode cX12_layHas 44 = .ok (.lconst 1, 1) := by decide +kernel
theorem dX12_layHas_45 : decode cX12_layHas 45 = .ok (.iload_n 3, 1) := by decide +kernel
theorem dX12_layHas_46 : decode cX12_layHas 46 = .ok (.lshl, 1) := by decide +kernel
theorem dX12_layHas_47 : decode cX12_layHas 47 = .ok (.lor, 1) := by decide +kernel
theorem dX12_layHas_48 : decode cX12_layHas 48 = .ok (.lastore, 1) := by decide +kernel
theorem dX12_layHas_49 : decode cX12_layHas 49 = .ok (.iinc 3 1, 3) := by decide +kernel
theorem dX12_layHas_52 : decode cX12_layHas 52 = .ok (.goto (-33), 3) := by decide +kernel
theorem dX12_layHas_55 : decode cX12_layHas 55 = .ok (.iinc 2 1, 3) := by decide +kernel
theorem dX12_layHas_58 : decode cX12_layHas 58 = .ok (.goto (-56), 3) := by decide +kernel
theorem dX12_layHas_61 : decode cX12_layHas 61 = .ok (.return_, 1) := by decide +kernel
def lpX12_layHas_19 (v1 : Int32) (v2 : Int32) : Nat → Int32 → ST → (Int32 → ST → Option (Unit × ST)) → Option (Unit × ST)
  | 0, _, _, _ => none
  | n + 1, v3, k, cont => if (gI k 11 13) ≤ v3 then cont v3 k else ob (fX12_has k v2 v3 v1) fun r5 k6 => if r5 = true then ck (inb v2 12) (ck (inb v2 12) (nm (sL k6 122 (ix v2) ((gL k6 122 (ix v2)) ||| (j_lshl 1 v3))) fun k11 => lpX12_layHas_19 v1 v2 n (v3 + 1) k11 cont)) else lpX12_layHas_19 v1 v2 n (v3 + 1) k6 cont
def lpX12_layHas_2 (v1 : Int32) : Nat → Int32 → ST → (Int32 → ST → Option (Unit × ST)) → Option (Unit × ST)
  | 0, _, _, _ => none
  | n + 1, v2, k, cont => if (gI k 11 12) ≤ v2 then cont v2 k else ck (inb v2 12) (nm (sL k 122 (ix v2) 0) fun k3 => lpX12_layHas_19 v1 v2 FU 0 k3 fun y12 k13 => lpX12_layHas_2 v1 n (v2 + 1) k13 cont)
set_option maxRecDepth 20000 in
theorem zlpX12_layHas_19 {p : Program} {l : Launch} {e : Env} {R : Room} {s : State} {m : MethodId} {args : Array Value} {below : List Frame} {meth : Method} {c : Code} {g : GT} (hC : HC p s m args meth c cX12_layHas 4 RX12 none g) (hR : 1 ≤ R.frames ∧ 25 ≤ R.locals)  (v1 : Int32) (v2 : Int32) {cont : Int32 → ST → Option (Unit × ST)} (hk : ∀ (v3 : Int32) (k : ST), ZF p l e R s m args below meth c g TM voV 4 k 55 [(0, .ref (g.2.1 11)), (1, .int v1), (2, .int v2), (3, .int v3)] [] (cont v3 k)) : ∀ (n : Nat) (v3 : Int32) (k : ST), ZF p l e R s m args below meth c g TM voV 4 k 19 [(0, .ref (g.2.1 11)), (1, .int v1), (2, .int v2), (3, .int v3)] [] (lpX12_layHas_19 v1 v2 n v3 k cont) := by
  intro n
  induction n with
  | zero => intros; exact zf_none
  | succ n ih =>
    intro v3 k
    rw [lpX12_layHas_19]
    refine zf_iload_n hC dX12_layHas_19 rfl 3 rfl ?_
    refine zf_aload_n hC dX12_layHas_20 rfl 0 rfl ?_
    refine gf_1243 hC dX12_layHas_21 ?_
    refine zf_icmp_ge hC (tgt := 55) dX12_layHas_24 (by decide) (fun h4 => ?_) (fun h4 => ?_)
    · refine zf_lv (LV' := [(0, .ref (g.2.1 11)), (1, .int v1), (2, .int v2), (3, .int v3)]) [0, 1, 2, 3] rfl ?_
      exact hk v3 k
    · refine zf_aload_n hC dX12_layHas_27 rfl 0 rfl ?_
      refine zf_iload_n hC dX12_layHas_28 rfl 2 rfl ?_
      refine zf_iload_n hC dX12_layHas_29 rfl 3 rfl ?_
      refine zf_iload_n hC dX12_layHas_30 rfl 1 rfl ?_
      refine zf_callV hC (c_X12_has l g v2 v3 v1) mt_X12_has wd_1556 sp_50 ci_11 ic_11 wd_1554 rfl (rm_le hR rfl) rfl rfl (rest := []) rfl (Nat.le_of_ble_eq_true rfl) dX12_layHas_31 (fun r5 k6 h7 => ?_)
      refine zf_ifb_eq hC (tgt := 49) dX12_layHas_34 (by decide) (fun h8 => ?_) (fun h8 => ?_)
      · refine zf_aload_n hC dX12_layHas_37 rfl 0 rfl ?_
        refine gf_1262 hC dX12_layHas_38 ?_
        refine zf_iload_n hC dX12_layHas_41 rfl 2 rfl ?_
        refine zf_dup2 hC dX12_layHas_42 rfl rfl ?_
        refine zf_lald hC (j := 122) ia_122 rfl rfl dX12_layHas_43 (fun h9 => ?_)
        refine zf_lconst hC (v := 1) dX12_layHas_44 rfl ?_
        refine zf_iload_n hC dX12_layHas_45 rfl 3 rfl ?_
        refine zf_lshl hC dX12_layHas_46 ?_
        refine zf_lor hC dX12_layHas_47 ?_
        refine zf_last hC (j := 122) ia_122 rfl rfl dX12_layHas_48 (fun h10 => ?_)
        refine zf_nmk (fun k11 => ?_)
        refine zf_iinc hC (q := 3) (v := v3 + 1) (LV' := [(3, .int (v3 + 1)), (0, .ref (g.2.1 11)), (1, .int v1), (2, .int v2)]) dX12_layHas_49 rfl rfl (by decide) rfl ?_
        refine zf_goto hC (tgt := 19) dX12_layHas_52 (by decide) ?_
        refine zf_lv (LV' := [(0, .ref (g.2.1 11)), (1, .int v1), (2, .int v2), (3, .int (v3 + 1))]) [1, 2, 3, 0] rfl ?_
        exact ih (v3 + 1) k11
      · refine zf_iinc hC (q := 3) (v := v3 + 1) (LV' := [(3, .int (v3 + 1)), (0, .ref (g.2.1 11)), (1, .int v1), (2, .int v2)]) dX12_layHas_49 rfl rfl (by decide) rfl ?_
        refine zf_goto hC (tgt := 19) dX12_layHas_52 (by decide) ?_
        refine zf_lv (LV' := [(0, .ref (g.2.1 11)), (1, .int v1), (2, .int v2), (3, .int (v3 + 1))]) [1, 2, 3, 0] rfl ?_
        exact ih (v3 + 1) k6
set_option maxRecDepth 20000 in
theorem zlpX12_layHas_2 {p : Program} {l : Launch} {e : Env} {R : Room} {s : State} {m : MethodId} {args : Array Value} {below : List Frame} {meth : Method} {c : Code} {g : GT} (hC : HC p s m args meth c cX12_layHas 4 RX12 none g) (hR : 1 ≤ R.frames ∧ 25 ≤ R.locals)  (v1 : Int32) {cont : Int32 → ST → Option (Unit × ST)} (hk : ∀ (v2 : Int32) (k : ST), ZF p l e R s m args below meth c g TM voV 4 k 61 [(0, .ref (g.2.1 11)), (1, .int v1), (2, .int v2)] [] (cont v2 k)) : ∀ (n : Nat) (v2 : Int32) (k : ST), ZF p l e R s m args below meth c g TM voV 4 k 2 [(0, .ref (g.2.1 11)), (1, .int v1), (2, .int v2)] [] (lpX12_layHas_2 v1 n v2 k cont) := by
  intro n
  induction n with
  | zero => intros; exact zf_none
  | succ n ih =>
    intro v2 k
    rw [lpX12_layHas_2]
    refine zf_iload_n hC dX12_layHas_2 rfl 2 rfl ?_
    refine zf_aload_n hC dX12_layHas_3 rfl 0 rfl ?_
    refine gf_1242 hC dX12_layHas_4 ?_
    refine zf_icmp_ge hC (tgt := 61) dX12_layHas_7 (by decide) (fun h1 => ?_) (fun h1 => ?_)
    · refine zf_lv (LV' := [(0, .ref (g.2.1 11)), (1, .int v1), (2, .int v2)]) [0, 1, 2] rfl ?_
      exact hk v2 k
    · refine zf_aload_n hC dX12_layHas_10 rfl 0 rfl ?_
      refine gf_1262 hC dX12_layHas_11 ?_
      refine zf_iload_n hC dX12_layHas_14 rfl 2 rfl ?_
      refine zf_lconst hC (v := 0) dX12_layHas_15 rfl ?_
      refine zf_last hC (j := 122) ia_122 rfl rfl dX12_layHas_16 (fun h2 => ?_)
      refine zf_nmk (fun k3 => ?_)
      refine zf_iconst hC (v := 0) dX12_layHas_17 rfl ?_
      refine zf_istore_n hC (LV' := [(3, .int 0), (0, .ref (g.2.1 11)), (1, .int v1), (2, .int v2)]) dX12_layHas_18 rfl (by decide) rfl ?_
      refine zf_lv (LV' := [(0, .ref (g.2.1 11)), (1, .int v1), (2, .int v2), (3, .int 0)]) [1, 2, 3, 0] rfl ?_
      refine zlpX12_layHas_19 hC hR v1 v2 (fun y12 k13 => ?_) FU 0 k3
      refine zf_iinc hC (q := 2) (v := v2 + 1) (LV' := [(2, .int (v2 + 1)), (0, .ref (g.2.1 11)), (1, .int v1), (3, .int y12)]) dX12_layHas_55 rfl rfl (by decide) rfl ?_
      refine zf_goto hC (tgt := 2) dX12_layHas_58 (by decide) ?_
      refine zf_lv (LV' := [(0, .ref (g.2.1 11)), (1, .int v1), (2, .int (v2 + 1))]) [1, 2, 0] rfl ?_
      exact ih (v2 + 1) k13
def fX12_layHas (k : ST) (a0 : Int32) : Option (Unit × ST) := lpX12_layHas_2 a0 FU 0 k fun y14 k15 => some ((), k15)
set_option maxRecDepth 20000 in
theorem c_X12_layHas (l : Launch) (g : GT) (a0 : Int32) : CN l yX12_layHas cX12_layHas 4 none { frames := 1, cells := 0, slots := 0, locals := 25 } g TM voV [.ref (g.2.1 11), .int a0] (fun k => fX12_layHas k a0) := by
  refine cn_of (by decide) (Nat.le_of_ble_eq_true rfl) ?_
  intro p e s m args below meth c hC k
  have hC : HC p s m args meth c cX12_layHas 4 RX12 none g := hC
  have hR : 1 ≤ ({ frames := 1, cells := 0, slots := 0, locals := 25 } : Room).frames ∧ 25 ≤ ({ frames := 1, cells := 0, slots := 0, locals := 25 } : Room).locals := ⟨Nat.le_refl _, Nat.le_refl _⟩
  show ZF p l e _ s m args below meth c g TM voV 4 k 0 [(0, .ref (g.2.1 11)), (1, .int a0)] [] (fX12_layHas k a0)
  unfold fX12_layHas
  refine zf_iconst hC (v := 0) dX12_layHas_0 rfl ?_
  refine zf_istore_n hC (LV' := [(2, .int 0), (0, .ref (g.2.1 11)), (1, .int a0)]) dX12_layHas_1 rfl (by decide) rfl ?_
  refine zf_lv (LV' := [(0, .ref (g.2.1 11)), (1, .int a0), (2, .int 0)]) [1, 2, 0] rfl ?_
  refine zlpX12_layHas_2 hC hR a0 (fun y14 k15 => ?_) FU 0 k
  exact zf_vret hC rfl dX12_layHas_61
/-! LifeKeysModel.isForce -/
theorem dX12_isForce_0 : decode cX12_isForce 0 = .ok (.aload_n 0, 1) := by decide +kernel
theorem dX12_isForce_1 : decode cX12_isForce 1 = .ok (.getfield 66, 3) := by decide +kernel
theorem dX12_isForce_4 : decode cX12_isForce 4 = .ok (.iload_n 1, 1) := by decide +kernel
theorem dX12_isForce_5 : decode cX12_isForce 5 = .ok (.iaload, 1) := by decide +kernel
theorem dX12_isForce_6 : decode cX12_isForce 6 = .ok (.iload_n 2, 1) := by decide +kernel
theorem dX12_isForce_7 : decode cX12_isForce 7 = .ok (.if_icmp .gt 17, 3) := by decide +kernel
theorem dX12_isForce_10 : decode cX12_isForce 10 = .ok (.aload_n 0, 1) := by decide +kernel
theorem dX12_isForce_11 : decode cX12_isForce 11 = .ok (.getfield 69, 3) := by decide +kernel
theorem dX12_isForce_14 : decode cX12_isForce 14 = .ok (.iload_n 1, 1) := by decide +kernel
theorem dX12_isForce_15 : decode cX12_isForce 15 = .ok (.iaload, 1) := by decide +kernel
theorem dX12_isForce_16 : decode cX12_isForce 16 = .ok (.iload_n 2, 1) := by decide +kernel
theorem dX12_isForce_17 : decode cX12_isForce 17 = .ok (.if_icmp .le 7, 3) := by decide +kernel
theorem dX12_isForce_20 : decode cX12_isForce 20 = .ok (.iconst 1, 1) := by decide +kernel
theorem dX12_isForce_21 : decode cX12_isForce 21 = .ok (.goto 4, 3) := by decide +kernel
theorem dX12_isForce_24 : decode cX12_isForce 24 = .ok (.iconst 0, 1) := by decide +kernel
theorem dX12_isForce_25 : decode cX12_isForce 25 = .ok (.ireturn, 1) := by decide +kernel
def fX12_isForce (k : ST) (a0 : Int32) (a1 : Int32) : Option (Bool × ST) := ck (inb a0 40) (if a1 < (gA k 117 (ix a0)) then some (false, k) else ck (inb a0 40) (if (gA k 118 (ix a0)) ≤ a1 then some (false, k) else some (true, k)))
set_option maxRecDepth 20000 in
theorem c_X12_isForce (l : Launch) (g : GT) (a0 : Int32) (a1 : Int32) : CN l yX12_isForce cX12_isForce 3 (some .boolean) { frames := 0, cells := 0, slots := 0, locals := 0 } g TM voB [.ref (g.2.1 11), .int a0, .int a1] (fun k => fX12_isForce k a0 a1) := by
  refine cn_of (by decide) (Nat.le_of_ble_eq_true rfl) ?_
  intro p e s m args below meth c hC k
  have hC : HC p s m args meth c cX12_isForce 3 RX12 (some .boolean) g := hC
  have hR : 0 ≤ ({ frames := 0, cells := 0, slots := 0, locals := 0 } : Room).frames ∧ 0 ≤ ({ frames := 0, cells := 0, slots := 0, locals := 0 } : Room).locals := ⟨Nat.le_refl _, Nat.le_refl _⟩
  show ZF p l e _ s m args below meth c g TM voB 3 k 0 [(0, .ref (g.2.1 11)), (1, .int a0), (2, .int a1)] [] (fX12_isForce k a0 a1)
  unfold fX12_isForce
  refine zf_aload_n hC dX12_isForce_0 rfl 0 rfl ?_
  refine gf_1254 hC dX12_isForce_1 ?_
  refine zf_iload_n hC dX12_isForce_4 rfl 1 rfl ?_
  refine zf_iald hC (j := 117) ia_117 rfl rfl dX12_isForce_5 (fun h1 => ?_)
  refine zf_iload_n hC dX12_isForce_6 rfl 2 rfl ?_
  refine zf_icmp_gt hC (tgt := 24) dX12_isForce_7 (by decide) (fun h2 => ?_) (fun h2 => ?_)
  · refine zf_iconst hC (v := 0) dX12_isForce_24 rfl ?_
    exact zf_zret hC rfl false rfl dX12_isForce_25
  · refine zf_aload_n hC dX12_isForce_10 rfl 0 rfl ?_
    refine gf_1255 hC dX12_isForce_11 ?_
    refine zf_iload_n hC dX12_isForce_14 rfl 1 rfl ?_
    refine zf_iald hC (j := 118) ia_118 rfl rfl dX12_isForce_15 (fun h3 => ?_)
    refine zf_iload_n hC dX12_isForce_16 rfl 2 rfl ?_
    refine zf_icmp_le hC (tgt := 24) dX12_isForce_17 (by decide) (fun h4 => ?_) (fun h4 => ?_)
    · refine zf_iconst hC (v := 0) dX12_isForce_24 rfl ?_
      exact zf_zret hC rfl false rfl dX12_isForce_25
    · refine zf_iconst hC (v := 1) dX12_isForce_20 rfl ?_
      refine zf_goto hC (tgt := 25) dX12_isForce_21 (by decide) ?_
      exact zf_zret hC rfl true rfl dX12_isForce_25
/-! LifeKeysModel.isWrapped -/
theorem dX12_isWrapped_0 : decode cX12_isWrapped 0 = .ok (.aload_n 0, 1) := by decide +kernel
theorem dX12_isWrapped_1 : decode cX12_isWrapped 1 = .ok (.getfield 51, 3) := by decide +kernel
theorem dX12_isWrapped_4 : decode cX12_isWrapped 4 = .ok (.iload_n 1, 1) := by decide +kernel
theorem dX12_isWrapped_5 : decode cX12_isWrapped 5 = .ok (.iaload, 1) := by decide +kernel
theorem dX12_isWrapped_6 : decode cX12_isWrapped 6 = .ok (.iload_n 2, 1) := by decide +kernel
theorem dX12_isWrapped_7 : decode cX12_isWrapped 7 = .ok (.if_icmp .gt 17, 3) := by decide +kernel
theorem dX12_isWrapped_10 : decode cX12_isWrapped 10 = .ok (.aload_n 0, 1) := by decide +kernel
theorem dX12_isWrapped_11 : decode cX12_isWrapped 11 = .ok (.getfield 54, 3) := by decide +kernel
theorem dX12_isWrapped_14 : decode cX12_isWrapped 14 = .ok (.iload_n 1, 1) := by decide +kernel
theorem dX12_isWrapped_15 : decode cX12_isWrapped 15 = .ok (.iaload, 1) := by decide +kernel
theorem dX12_isWrapped_16 : decode cX12_isWrapped 16 = .ok (.iload_n 2, 1) := by decide +kernel
theorem dX12_isWrapped_17 : decode cX12_isWrapped 17 = .ok (.if_icmp .le 7, 3) := by decide +kernel
theorem dX12_isWrapped_20 : decode cX12_isWrapped 20 = .ok (.iconst 1, 1) := by decide +kernel
theorem dX12_isWrapped_21 : decode cX12_isWrapped 21 = .ok (.goto 4, 3) := by decide +kernel
theorem dX12_isWrapped_24 : decode cX12_isWrapped 24 = .ok (.iconst 0, 1) := by decide +kernel
theorem dX12_isWrapped_25 : decode cX12_isWrapped 25 = .ok (.ireturn, 1) := by decide +kernel
def fX12_isWrapped (k : ST) (a0 : Int32) (a1 : Int32) : Option (Bool × ST) := ck (inb a0 40) (if a1 < (gA k 112 (ix a0)) then some (false, k) else ck (inb a0 40) (if (gA k 113 (ix a0)) ≤ a1 then some (false, k) else some (true, k)))
set_option maxRecDepth 20000 in
theorem c_X12_isWrapped (l : Launch) (g : GT) (a0 : Int32) (a1 : Int32) : CN l yX12_isWrapped cX12_isWrapped 3 (some .boolean) { frames := 0, cells := 0, slots := 0, locals := 0 } g TM voB [.ref (g.2.1 11), .int a0, .int a1] (fun k => fX12_isWrapped k a0 a1) := by
  refine cn_of (by decide) (Nat.le_of_ble_eq_true rfl) ?_
  intro p e s m args below meth c hC k
  have hC : HC p s m args meth c cX12_isWrapped 3 RX12 (some .boolean) g := hC
  have hR : 0 ≤ ({ frames := 0, cells := 0, slots := 0, locals := 0 } : Room).frames ∧ 0 ≤ ({ frames := 0, cells := 0, slots := 0, locals := 0 } : Room).locals := ⟨Nat.le_refl _, Nat.le_refl _⟩
  show ZF p l e _ s m args below meth c g TM voB 3 k 0 [(0, .ref (g.2.1 11)), (1, .int a0), (2, .int a1)] [] (fX12_isWrapped k a0 a1)
  unfold fX12_isWrapped
  refine zf_aload_n hC dX12_isWrapped_0 rfl 0 rfl ?_
  refine gf_1249 hC dX12_isWrapped_1 ?_
  refine zf_iload_n hC dX12_isWrapped_4 rfl 1 rfl ?_
  refine zf_iald hC (j := 112) ia_112 rfl rfl dX12_isWrapped_5 (fun h1 => ?_)
  refine zf_iload_n hC dX12_isWrapped_6 rfl 2 rfl ?_
  refine zf_icmp_gt hC (tgt := 24) dX12_isWrapped_7 (by decide) (fun h2 => ?_) (fun h2 => ?_)
  · refine zf_iconst hC (v := 0) dX12_isWrapped_24 rfl ?_
    exact zf_zret hC rfl false rfl dX12_isWrapped_25
  · refine zf_aload_n hC dX12_isWrapped_10 rfl 0 rfl ?_
    refine gf_1250 hC dX12_isWrapped_11 ?_
    refine zf_iload_n hC dX12_isWrapped_14 rfl 1 rfl ?_
    refine zf_iald hC (j := 113) ia_113 rfl rfl dX12_isWrapped_15 (fun h3 => ?_)
    refine zf_iload_n hC dX12_isWrapped_16 rfl 2 rfl ?_
    refine zf_icmp_le hC (tgt := 24) dX12_isWrapped_17 (by decide) (fun h4 => ?_) (fun h4 => ?_)
    · refine zf_iconst hC (v := 0) dX12_isWrapped_24 rfl ?_
      exact zf_zret hC rfl false rfl dX12_isWrapped_25
    · refine zf_iconst hC (v := 1) dX12_isWrapped_20 rfl ?_
      refine zf_goto hC (tgt := 25) dX12_isWrapped_21 (by decide) ?_
      exact zf_zret hC rfl true rfl dX12_isWrapped_25
/-! LifeKeysModel.closes -/
theorem dX12_closes_0 : decode cX12_closes 0 = .ok (.lconst 0, 1) := by decide +kernel
theorem dX12_closes_1 : decode cX12_closes 1 = .ok (.lstore 5, 2) := by decide +kernel
theorem dX12_closes_3 : decode cX12_closes 3 = .ok (.iconst 0, 1) := by decide +kernel
theorem dX12_closes_4 : decode cX12_closes 4 = .ok (.istore 7, 2) := by decide +kernel
theorem dX12_closes_6 : decode cX12_closes 6 = .ok (.iload 7, 2) := by decide +kernel
theorem dX12_closes_8 : decode cX12_closes 8 = .ok (.aload_n 0, 1) := by decide +kernel
theorem dX12_closes_9 : decode cX12_closes 9 = .ok (.getfield 196, 3) := by decide +kernel
theorem dX12_closes_12 : decode cX12_closes 12 = .ok (.if_icmp .ge 31, 3) := by decide +kernel
theorem dX12_closes_15 : decode cX12_closes 15 = .ok (.iload_n 1, 1) := by decide +kernel
theorem dX12_closes_16 : decode cX12_closes 16 = .ok (.iload 7, 2) := by decide +kernel
theorem dX12_closes_18 : decode cX12_closes 18 = .ok (.ishr, 1) := by decide +kernel
theorem dX12_closes_19 : decode cX12_closes 19 = .ok (.iconst 1, 1) := by decide +kernel
theorem dX12_closes_20 : decode cX12_closes 20 = .ok (.iand, 1) := by decide +kernel
theorem dX12_closes_21 : decode cX12_closes 21 = .ok (.iconst 1, 1) := by decide +kernel
theorem dX12_closes_22 : decode cX12_closes 22 = .ok (.if_icmp .ne 15, 3) := by decide +kernel
theorem dX12_closes_25 : decode cX12_closes 25 = .ok (.lload 5, 2) := by decide +kernel
theorem dX12_closes_27 : decode cX12_closes 27 = .ok (.aload_n 0, 1) := by decide +kernel
theorem dX12_closes_28 : decode cX12_closes 28 = .ok (.getfield 81, 3) := by decide +kernel
theorem dX12_closes_31 : decode cX12_closes 31 = .ok (.iload 7, 2) := by decide +kernel
theorem dX12_closes_33 : decode cX12_closes 33 = .ok (.laload, 1) := by decide +kernel
theorem dX12_closes_34 : decode cX12_closes 34 = .ok (.lor, 1) := by decide +kernel
theorem dX12_closes_35 : decode cX12_closes 35 = .ok (.lstore 5, 2) := by decide +kernel
theorem dX12_closes_37 : decode cX12_closes 37 = .ok (.iinc 7 1, 3) := by decide +kernel
theorem dX12_closes_40 : decode cX12_closes 40 = .ok (.goto (-34), 3) := by decide +kernel
theorem dX12_closes_43 : decode cX12_closes 43 = .ok (.iconst 0, 1) := by decide +kernel
theorem dX12_closes_44 : decode cX12_closes 44 = .ok (.istore 7, 2) := by decide +kernel
theorem dX12_closes_46 : decode cX12_closes 46 = .ok (.iload 7, 2) := by decide +kernel
theorem dX12_closes_48 : decode cX12_closes 48 = .ok (.aload_n 0, 1) := by decide +kernel
theorem dX12_closes_49 : decode cX12_closes 49 = .ok (.getfield 243, 3) := by decide +kernel
theorem dX12_closes_52 : decode cX12_closes 52 = .ok (.if_icmp .ge 66, 3) := by decide +kernel
theorem dX12_closes_55 : decode cX12_closes 55 = .ok (.aload_n 0, 1) := by decide +kernel
theorem dX12_closes_56 : decode cX12_closes 56 = .ok (.iload 7, 2) := by decide +kernel
theorem dX12_closes_58 : decode cX12_closes 58 = .ok (.iload_n 2, 1) := by decide +kernel
theorem dX12_closes_59 : decode cX12_closes 59 = .ok (.invokevirtual 294, 3) := by decide +kernel
theorem dX12_closes_62 : decode cX12_closes 62 = .ok (.ifCond .eq 50, 3) := by decide +kernel
theorem dX12_closes_65 : decode cX12_closes 65 = .ok (.iload_n 1, 1) := by decide +kernel
theorem dX12_closes_66 : decode cX12_closes 66 = .ok (.aload_n 0, 1) := by decide +kernel
theorem dX12_closes_67 : decode cX12_closes 67 = .ok (.getfield 60, 3) := by decide +kernel
theorem dX12_closes_70 : decode cX12_closes 70 = .ok (.iload 7, 2) := by decide +kernel
theorem dX12_closes_72 : decode cX12_closes 72 = .ok (.iaload, 1) := by decide +kernel
theorem dX12_closes_73 : decode cX12_closes 73 = .ok (.iand, 1) := by decide +kernel
theorem dX12_closes_74 : decode cX12_closes 74 = .ok (.invokestatic 258, 3) := by decide +kernel
theorem dX12_closes_77 : decode cX12_closes 77 = .ok (.iload 7, 2) := by decide +kernel
theorem dX12_closes_79 : decode cX12_closes 79 = .ok (.iload_n 3, 1) := by decide +kernel
theorem dX12_closes_80 : decode cX12_closes 80 = .ok (.if_icmp .ne 8, 3) := by decide +kernel
theorem dX12_closes_83 : decode cX12_closes 83 = .ok (.iload 4, 2) := by decide +kernel
theorem dX12_closes_85 : decode cX12_closes 85 = .ok (.goto 10, 3) := by decide +kernel
theorem dX12_closes_88 : decode cX12_closes 88 = .ok (.aload_n 0, 1) := by decide +kernel
theorem dX12_closes_89 : decode cX12_closes 89 = .ok (.getfield 63, 3) := by decide +kernel
theorem dX12_closes_92 : decode cX12_closes 92 = .ok (.iload 7, 2) := by decide +kernel
theorem dX12_closes_94 : decode cX12_closes 94 = .ok (.iaload, 1) := by decide +kernel
theorem dX12_closes_95 : decode cX12_closes 95 = .ok (.if_icmp .lt 17, 3) := by decide +kernel
theorem dX12_closes_98 : decode cX12_closes 98 = .ok (.lload 5, 2) := by decide +kernel
theorem dX12_closes_100 : decode cX12_closes 100 = .ok (.lconst 1, 1) := by decide +kernel
theorem dX12_closes_101 : decode cX12_closes 101 = .ok (.aload_n 0, 1) := by decide +kernel
theorem dX12_closes_102 : decode cX12_closes 102 = .ok (.getfield 57, 3) := by decide +kernel
theorem dX12_closes_105 : decode cX12_closes 105 = .ok (.iload 7, 2) := by decide +kernel
theorem dX12_closes_107 : decode cX12_closes 107 = .ok (.iaload, 1) := by decide +kernel
theorem dX12_closes_108 : decode cX12_closes 108 = .ok (.lshl, 1) := by decide +kernel
theorem dX12_closes_109 : decode cX12_closes 109 = .ok (.lor, 1) := by decide +kernel
theorem dX12_closes_110 : decode cX12_closes 110 = .ok (.lstore 5, 2) := by decide +kernel
theorem dX12_closes_112 : decode cX12_closes 112 = .ok (.iinc 7 1, 3) := by decide +kernel
theorem dX12_closes_115 : decode cX12_closes 115 = .ok (.goto (-69), 3) := by decide +kernel
theorem dX12_closes_118 : decode cX12_closes 118 = .ok (.iconst 1, 1) := by decide +kernel
theorem dX12_closes_119 : decode cX12_closes 119 = .ok (.istore 7, 2) := by decide +kernel
theorem dX12_closes_121 : decode cX12_closes 121 = .ok (.iload 7, 2) := by decide +kernel
theorem dX12_closes_123 : decode cX12_closes 123 = .ok (.ifCond .eq 150, 3) := by decide +kernel
theorem dX12_closes_126 : decode cX12_closes 126 = .ok (.lload 5, 2) := by decide +kernel
theorem dX12_closes_128 : decode cX12_closes 128 = .ok (.lstore 8, 2) := by decide +kernel
theorem dX12_closes_130 : decode cX12_closes 130 = .ok (.iconst 0, 1) := by decide +kernel
theorem dX12_closes_131 : decode cX12_closes 131 = .ok (.istore 10, 2) := by decide +kernel
theorem dX12_closes_133 : decode cX12_closes 133 = .ok (.iload 10, 2) := by decide +kernel
theorem dX12_closes_135 : decode cX12_closes 135 = .ok (.aload_n 0, 1) := by decide +kernel
theorem dX12_closes_136 : decode cX12_closes 136 = .ok (.getfield 199, 3) := by decide +kernel
theorem dX12_closes_139 : decode cX12_closes 139 = .ok (.if_icmp .ge 57, 3) := by decide +kernel
theorem dX12_closes_142 : decode cX12_closes 142 = .ok (.aload_n 0, 1) := by decide +kernel
theorem dX12_closes_143 : decode cX12_closes 143 = .ok (.getfield 9, 3) := by decide +kernel
theorem dX12_closes_146 : decode cX12_closes 146 = .ok (.iload 10, 2) := by decide +kernel
theorem dX12_closes_148 : decode cX12_closes 148 = .ok (.iaload, 1) := by decide +kernel
theorem dX12_closes_149 : decode cX12_closes 149 = .ok (.iconst 2, 1) := by decide +kernel
theorem dX12_closes_150 : decode cX12_closes 150 = .ok (.if_icmp .ne 40, 3) := by decide +kernel
theorem dX12_closes_153 : decode cX12_closes 153 = .ok (.aload_n 0, 1) := by decide +kernel
theorem dX12_closes_154 : decode cX12_closes 154 = .ok (.getfield 19, 3) := by decide +kernel
theorem dX12_closes_157 : decode cX12_closes 157 = .ok (.iload 10, 2) := by decide +kernel
theorem dX12_closes_159 : decode cX12_closes 159 = .ok (.iaload, 1) := by decide +kernel
theorem dX12_closes_160 : decode cX12_closes 160 = .ok (.iload_n 2, 1) := by decide +kernel
theorem dX12_closes_161 : decode cX12_closes 161 = .ok (.if_icmp .gt 29, 3) := by decide +kernel
theorem dX12_closes_164 : decode cX12_closes 164 = .ok (.lload 5, 2) := by decide +kernel
theorem dX12_closes_166 : decode cX12_closes 166 = .ok (.aload_n 0, 1) := by decide +kernel
theorem dX12_closes_167 : decode cX12_closes 167 = .ok (.getfield 16, 3) := by decide +kernel
theorem dX12_closes_170 : decode cX12_closes 170 = .ok (.iload 10, 2) := by decide +kernel
theorem dX12_closes_172 : decode cX12_closes 172 = .ok (.iaload, 1) := by decide +kernel
theorem dX12_closes_173 : decode cX12_closes 173 = .ok (.lshr, 1) := by decide +kernel
theorem dX12_closes_174 : decode cX12_closes 174 = .ok (.lconst 1, 1) := by decide +kernel
theorem dX12_closes_175 : decode cX12_closes 175 = .ok (.land, 1) := by decide +kernel
theorem dX12_closes_176 : decode cX12_closes 176 = .ok (.lconst 1, 1) := by decide +kernel
theorem dX12_closes_177 : decode cX12_closes 177 = .ok (.lcmp, 1) := by decide +kernel
theorem dX12_closes_178 : decode cX12_closes 178 = .ok (.ifCond .ne 12, 3) := by decide +kernel
theorem dX12_closes_181 : decode cX12_closes 181 = .ok (.lload 5, 2) := by decide +kernel
theorem dX12_closes_183 : decode cX12_closes 183 = .ok (.lconst 1, 1) := by decide +kernel
theorem dX12_closes_184 : decode cX12_closes 184 = .ok (.iload 10, 2) := by decide +kernel
theorem dX12_closes_186 : decode cX12_closes 186 = .ok (.lshl, 1) := by decide +kernel
theorem dX12_closes_187 : decode cX12_closes 187 = .ok (.lor, 1) := by decide +kernel
theorem dX12_closes_188 : decode cX12_closes 188 = .ok (.lstore 5, 2) := by decide +kernel
theorem dX12_closes_190 : decode cX12_closes 190 = .ok (.iinc 10 1, 3) := by decide +kernel
theorem dX12_closes_193 : decode cX12_closes 193 = .ok (.goto (-60), 3) := by decide +kernel
theorem dX12_closes_196 : decode cX12_closes 196 = .ok (.iconst 0, 1) := by decide +kernel
theorem dX12_closes_197 : decode cX12_closes 197 = .ok (.istore 10, 2) := by decide +kernel
theorem dX12_closes_199 : decode cX12_closes 199 = .ok (.iload 10, 2) := by decide +kernel
theorem dX12_closes_201 : decode cX12_closes 201 = .ok (.aload_n 0, 1) := by decide +kernel
theorem dX12_closes_202 : decode cX12_closes 202 = .ok (.getfield 236, 3) := by decide +kernel
theorem dX12_closes_205 : decode cX12_closes 205 = .ok (.if_icmp .ge 50, 3) := by decide +kernel
theorem dX12_closes_208 : decode cX12_closes 208 = .ok (.aload_n 0, 1) := by decide +kernel
theorem dX12_closes_209 : decode cX12_closes 209 = .ok (.iload 10, 2) := by decide +kernel
theorem dX12_closes_211 : decode cX12_closes 211 = .ok (.iload_n 2, 1) := by decide +kernel
theorem dX12_closes_212 : decode cX12_closes 212 = .ok (.invokevirtual 297, 3) := by decide +kernel
theorem dX12_closes_215 : decode cX12_closes 215 = .ok (.ifCond .eq 34, 3) := by decide +kernel
theorem dX12_closes_218 : decode cX12_closes 218 = .ok (.lload 5, 2) := by decide +kernel
theorem dX12_closes_220 : decode cX12_closes 220 = .ok (.aload_n 0, 1) := by decide +kernel
theorem dX12_closes_221 : decode cX12_closes 221 = .ok (.getfield 48, 3) := by decide +kernel
theorem dX12_closes_224 : decode cX12_closes 224 = .ok (.iload 10, 2) := by decide +kernel
theorem dX12_closes_226 : decode cX12_closes 226 = .ok (.iaload, 1) := by decide +kernel
theorem dX12_closes_227 : decode cX12_closes 227 = .ok (.lshr, 1) := by decide +kernel
theorem dX12_closes_228 : decode cX12_closes 228 = .ok (.lconst 1, 1) := by decide +kernel
theorem dX12_closes_229 : decode cX12_closes 229 = .ok (.land, 1) := by decide +kernel
theorem dX12_closes_230 : decode cX12_closes 230 = .ok (.lconst 1, 1) := by decide +kernel
theorem dX12_closes_231 : decode cX12_closes 231 = .ok (.lcmp, 1) := by decide +kernel
theorem dX12_closes_232 : decode cX12_closes 232 = .ok (.ifCond .ne 17, 3) := by decide +kernel
theorem dX12_closes_235 : decode cX12_closes 235 = .ok (.lload 5, 2) := by decide +kernel
theorem dX12_closes_237 : decode cX12_closes 237 = .ok (.lconst 1, 1) := by decide +kernel
theorem dX12_closes_238 : decode cX12_closes 238 = .ok (.aload_n 0, 1) := by decide +kernel
theorem dX12_closes_239 : decode cX12_closes 239 = .ok (.getfield 45, 3) := by decide +kernel
theorem dX12_closes_242 : decode cX12_closes 242 = .ok (.iload 10, 2) := by decide +kernel
theorem dX12_closes_244 : decode cX12_closes 244 = .ok (.iaload, 1) := by decide +kernel
theorem dX12_closes_245 : decode cX12_closes 245 = .ok (.lshl, 1) := by decide +kernel
theorem dX12_closes_246 : decode cX12_closes 246 = .ok (.lor, 1) := by decide +kernel
theorem dX12_closes_247 : decode cX12_closes 247 = .ok (.lstore 5, 2) := by decide +kernel
theorem dX12_closes_249 : decode cX12_closes 249 = .ok (.iinc 10 1, 3) := by decide +kernel
theorem dX12_closes_252 : decode cX12_closes 252 = .ok (.goto (-53), 3) := by decide +kernel
theorem dX12_closes_255 : decode cX12_closes 255 = .ok (.lload 5, 2) := by decide +kernel
theorem dX12_closes_257 : decode cX12_closes 257 = .ok (.lload 8, 2) := by decide +kernel
theorem dX12_closes_259 : decode cX12_closes 259 = .ok (.lcmp, 1) := by decide +kernel
theorem dX12_closes_260 : decode cX12_closes 260 = .ok (.ifCond .eq 7, 3) := by decide +kernel
theorem dX12_closes_263 : decode cX12_closes 263 = .ok (.iconst 1, 1) := by decide +kernel
theorem dX12_closes_264 : decode cX12_closes 264 = .ok (.goto 4, 3) := by decide +kernel
theorem dX12_closes_267 : decode cX12_closes 267 = .ok (.iconst 0, 1) := by decide +kernel
theorem dX12_closes_268 : decode cX12_closes 268 = .ok (.istore 7, 2) := by decide +kernel
theorem dX12_closes_270 : decode cX12_closes 270 = .ok (.goto (-149), 3) := by decide +kernel
theorem dX12_closes_273 : decode cX12_closes 273 = .ok (.lload 5, 2) := by decide +kernel
theorem dX12_closes_275 : decode cX12_closes 275 = .ok (.lreturn, 1) := by decide +kernel
def lpX12_closes_6 (v1 : Int32) (v2 : Int32) (v3 : Int32) (v4 : Int32) : Nat → Int64 → Int32 → ST → (Int64 → Int32 → ST → Option (Int64 × ST)) → Option (Int64 × ST)
  | 0, _, _, _, _ => none
  | n + 1, v5, v7, k, cont => if (gI k 11 12) ≤ v7 then cont v5 v7 k else if ((j_shr v1 v7) &&& 1) = 1 then ck (inb v7 12) (lpX12_closes_6 v1 v2 v3 v4 n (v5 ||| (gL k 122 (ix v7))) (v7 + 1) k cont) else lpX12_closes_6 v1 v2 v3 v4 n v5 (v7 + 1) k cont
def jbX12_closes_95 (rc cont : Int64 → Int32 → ST → Option (Int64 × ST)) (v1 : Int32) (v2 : Int32) (v3 : Int32) (v4 : Int32) (v5 : Int64) (v7 : Int32) (s0 : Int32) (s1 : Int32) (k : ST) : Option (Int64 × ST) := if s1 < s0 then rc v5 (v7 + 1) k else ck (inb v7 40) (nm (v5 ||| (j_lshl 1 (gA k 114 (ix v7)))) fun x19 => rc x19 (v7 + 1) k)
def lpX12_closes_46 (v1 : Int32) (v2 : Int32) (v3 : Int32) (v4 : Int32) : Nat → Int64 → Int32 → ST → (Int64 → Int32 → ST → Option (Int64 × ST)) → Option (Int64 × ST)
  | 0, _, _, _, _ => none
  | n + 1, v5, v7, k, cont => if (gI k 11 30) ≤ v7 then cont v5 v7 k else ob (fX12_isForce k v7 v2) fun r8 k9 => if r8 = true then ck (inb v7 40) (ob (fJ6_bitCount_0f7a4 k9 (v1 &&& (gA k9 115 (ix v7)))) fun r13 k14 => if v7 = v3 then jbX12_closes_95 (fun w5 w7 k => lpX12_closes_46 v1 v2 v3 v4 n w5 w7 k cont) cont v1 v2 v3 v4 v5 v7 v4 r13 k14 else ck (inb v7 40) (jbX12_closes_95 (fun w5 w7 k => lpX12_closes_46 v1 v2 v3 v4 n w5 w7 k cont) cont v1 v2 v3 v4 v5 v7 (gA k14 116 (ix v7)) r13 k14)) else lpX12_closes_46 v1 v2 v3 v4 n v5 (v7 + 1) k9 cont
def lpX12_closes_133 (v1 : Int32) (v2 : Int32) (v3 : Int32) (v4 : Int32) (v7 : Int32) (v8 : Int64) : Nat → Int64 → Int32 → ST → (Int64 → Int32 → ST → Option (Int64 × ST)) → Option (Int64 × ST)
  | 0, _, _, _, _ => none
  | n + 1, v5, v10, k, cont => if (gI k 11 13) ≤ v10 then cont v5 v10 k else ck (inb v10 40) (if (gA k 99 (ix v10)) = 2 then ck (inb v10 40) (if v2 < (gA k 102 (ix v10)) then lpX12_closes_133 v1 v2 v3 v4 v7 v8 n v5 (v10 + 1) k cont else ck (inb v10 40) (if ((j_lshr v5 (gA k 101 (ix v10))) &&& 1) = 1 then lpX12_closes_133 v1 v2 v3 v4 v7 v8 n (v5 ||| (j_lshl 1 v10)) (v10 + 1) k cont else lpX12_closes_133 v1 v2 v3 v4 v7 v8 n v5 (v10 + 1) k cont)) else lpX12_closes_133 v1 v2 v3 v4 v7 v8 n v5 (v10 + 1) k cont)
def lpX12_closes_199 (v1 : Int32) (v2 : Int32) (v3 : Int32) (v4 : Int32) (v7 : Int32) (v8 : Int64) : Nat → Int64 → Int32 → ST → (Int64 → Int32 → ST → Option (Int64 × ST)) → Option (Int64 × ST)
  | 0, _, _, _, _ => none
  | n + 1, v5, v10, k, cont => if (gI k 11 29) ≤ v10 then cont v5 v10 k else ob (fX12_isWrapped k v10 v2) fun r36 k37 => if r36 = true then ck (inb v10 40) (if ((j_lshr v5 (gA k37 111 (ix v10))) &&& 1) = 1 then ck (inb v10 40) (nm (v5 ||| (j_lshl 1 (gA k37 110 (ix v10)))) fun x43 => lpX12_closes_199 v1 v2 v3 v4 v7 v8 n x43 (v10 + 1) k37 cont) else lpX12_closes_199 v1 v2 v3 v4 v7 v8 n v5 (v10 + 1) k37 cont) else lpX12_closes_199 v1 v2 v3 v4 v7 v8 n v5 (v10 + 1) k37 cont
def lpX12_closes_121 (v1 : Int32) (v2 : Int32) (v3 : Int32) (v4 : Int32) : Nat → Int64 → Int32 → ST → (Int64 → Int32 → ST → Option (Int64 × ST)) → Option (Int64 × ST)
  | 0, _, _, _, _ => none
  | n + 1, v5, v7, k, cont => if v7 = 0 then cont v5 v7 k else lpX12_closes_133 v1 v2 v3 v4 v7 v5 FU v5 0 k fun y32 y33 k34 => lpX12_closes_199 v1 v2 v3 v4 v7 v5 FU y32 0 k34 fun y44 y45 k46 => if y44 = v5 then lpX12_closes_121 v1 v2 v3 v4 n y44 0 k46 cont else lpX12_closes_121 v1 v2 v3 v4 n y44 1 k46 cont
set_option maxRecDepth 20000 in
theorem zlpX12_closes_6 {p : Program} {l : Launch} {e : Env} {R : Room} {s : State} {m : MethodId} {args : Array Value} {below : List Frame} {meth : Method} {c : Code} {g : GT} (hC : HC p s m args meth c cX12_closes 11 RX12 (some .long) g) (hR : 1 ≤ R.frames ∧ 22 ≤ R.locals)  (v1 : Int32) (v2 : Int32) (v3 : Int32) (v4 : Int32) {cont : Int64 → Int32 → ST → Option (Int64 × ST)} (hk : ∀ (v5 : Int64) (v7 : Int32) (k : ST), ZF p l e R s m args below meth c g TM voL 11 k 43 [(0, .ref (g.2.1 11)), (1, .int v1), (2, .int v2), (3, .int v3), (4, .int v4), (5, .long v5), (7, .int v7)] [] (cont v5 v7 k)) : ∀ (n : Nat) (v5 : Int64) (v7 : Int32) (k : ST), ZF p l e R s m args below meth c g TM voL 11 k 6 [(0, .ref (g.2.1 11)), (1, .int v1), (2, .int v2), (3, .int v3), (4, .int v4), (5, .long v5), (7, .int v7)] [] (lpX12_closes_6 v1 v2 v3 v4 n v5 v7 k cont) := by
  intro n
  induction n with
  | zero => intros; exact zf_none
  | succ n ih =>
    intro v5 v7 k
    rw [lpX12_closes_6]
    refine zf_iload hC dX12_closes_6 6 rfl ?_
    refine zf_aload_n hC dX12_closes_8 rfl 0 rfl ?_
    refine gf_1242 hC dX12_closes_9 ?_
    refine zf_icmp_ge hC (tgt := 43) dX12_closes_12 (by decide) (fun h1 => ?_) (fun h1 => ?_)
    · refine zf_lv (LV' := [(0, .ref (g.2.1 11)), (1, .int v1), (2, .int v2), (3, .int v3), (4, .int v4), (5, .long v5), (7, .int v7)]) [0, 1, 2, 3, 4, 5, 6] rfl ?_
      exact hk v5 v7 k
    · refine zf_iload_n hC dX12_closes_15 rfl 1 rfl ?_
      refine zf_iload hC dX12_closes_16 6 rfl ?_
      refine zf_ishr hC dX12_closes_18 ?_
      refine zf_iconst hC (v := 1) dX12_closes_19 rfl ?_
      refine zf_iand hC dX12_closes_20 ?_
      refine zf_iconst hC (v := 1) dX12_closes_21 rfl ?_
      refine zf_icmp_ne hC (tgt := 37) dX12_closes_22 (by decide) (fun h2 => ?_) (fun h2 => ?_)
      · refine zf_lload hC dX12_closes_25 5 rfl ?_
        refine zf_aload_n hC dX12_closes_27 rfl 0 rfl ?_
        refine gf_1262 hC dX12_closes_28 ?_
        refine zf_iload hC dX12_closes_31 6 rfl ?_
        refine zf_lald hC (j := 122) ia_122 rfl rfl dX12_closes_33 (fun h3 => ?_)
        refine zf_lor hC dX12_closes_34 ?_
        refine zf_lstore hC (LV' := [(5, .long (v5 ||| (gL k 122 (ix v7)))), (0, .ref (g.2.1 11)), (1, .int v1), (2, .int v2), (3, .int v3), (4, .int v4), (7, .int v7)]) dX12_closes_35 (by decide) rfl ?_
        refine zf_iinc hC (q := 6) (v := v7 + 1) (LV' := [(7, .int (v7 + 1)), (5, .long (v5 ||| (gL k 122 (ix v7)))), (0, .ref (g.2.1 11)), (1, .int v1), (2, .int v2), (3, .int v3), (4, .int v4)]) dX12_closes_37 rfl rfl (by decide) rfl ?_
        refine zf_goto hC (tgt := 6) dX12_closes_40 (by decide) ?_
        refine zf_lv (LV' := [(0, .ref (g.2.1 11)), (1, .int v1), (2, .int v2), (3, .int v3), (4, .int v4), (5, .long (v5 ||| (gL k 122 (ix v7)))), (7, .int (v7 + 1))]) [2, 3, 4, 5, 6, 1, 0] rfl ?_
        exact ih (v5 ||| (gL k 122 (ix v7))) (v7 + 1) k
      · refine zf_iinc hC (q := 6) (v := v7 + 1) (LV' := [(7, .int (v7 + 1)), (0, .ref (g.2.1 11)), (1, .int v1), (2, .int v2), (3, .int v3), (4, .int v4), (5, .long v5)]) dX12_closes_37 rfl rfl (by decide) rfl ?_
        refine zf_goto hC (tgt := 6) dX12_closes_40 (by decide) ?_
        refine zf_lv (LV' := [(0, .ref (g.2.1 11)), (1, .int v1), (2, .int v2), (3, .int v3), (4, .int v4), (5, .long v5), (7, .int (v7 + 1))]) [1, 2, 3, 4, 5, 6, 0] rfl ?_
        exact ih v5 (v7 + 1) k
set_option maxRecDepth 20000 in
theorem zjbX12_closes_95 {p : Program} {l : Launch} {e : Env} {R : Room} {s : State} {m : MethodId} {args : Array Value} {below : List Frame} {meth : Method} {c : Code} {g : GT} (hC : HC p s m args meth c cX12_closes 11 RX12 (some .long) g) (hR : 1 ≤ R.frames ∧ 22 ≤ R.locals)  {rc cont : Int64 → Int32 → ST → Option (Int64 × ST)} (v1 : Int32) (v2 : Int32) (v3 : Int32) (v4 : Int32) (v5 : Int64) (v7 : Int32) (s0 : Int32) (s1 : Int32) (hrc : ∀ (w5 : Int64) (w7 : Int32) (k : ST), ZF p l e R s m args below meth c g TM voL 11 k 46 [(0, .ref (g.2.1 11)), (1, .int v1), (2, .int v2), (3, .int v3), (4, .int v4), (5, .long w5), (7, .int w7)] [] (rc w5 w7 k)) (hk : ∀ (w5 : Int64) (w7 : Int32) (k : ST), ZF p l e R s m args below meth c g TM voL 11 k 118 [(0, .ref (g.2.1 11)), (1, .int v1), (2, .int v2), (3, .int v3), (4, .int v4), (5, .long w5), (7, .int w7)] [] (cont w5 w7 k)) (k : ST) : ZF p l e R s m args below meth c g TM voL 11 k 95 [(0, .ref (g.2.1 11)), (1, .int v1), (2, .int v2), (3, .int v3), (4, .int v4), (5, .long v5), (7, .int v7)] [.int s0, .int s1] (jbX12_closes_95 rc cont v1 v2 v3 v4 v5 v7 s0 s1 k) := by
  unfold jbX12_closes_95
  refine zf_icmp_lt hC (tgt := 112) dX12_closes_95 (by decide) (fun h17 => ?_) (fun h17 => ?_)
  · refine zf_iinc hC (q := 6) (v := v7 + 1) (LV' := [(7, .int (v7 + 1)), (0, .ref (g.2.1 11)), (1, .int v1), (2, .int v2), (3, .int v3), (4, .int v4), (5, .long v5)]) dX12_closes_112 rfl rfl (by decide) rfl ?_
    refine zf_goto hC (tgt := 46) dX12_closes_115 (by decide) ?_
    refine zf_lv (LV' := [(0, .ref (g.2.1 11)), (1, .int v1), (2, .int v2), (3, .int v3), (4, .int v4), (5, .long v5), (7, .int (v7 + 1))]) [1, 2, 3, 4, 5, 6, 0] rfl ?_
    exact hrc v5 (v7 + 1) k
  · refine zf_lload hC dX12_closes_98 5 rfl ?_
    refine zf_lconst hC (v := 1) dX12_closes_100 rfl ?_
    refine zf_aload_n hC dX12_closes_101 rfl 0 rfl ?_
    refine gf_1251 hC dX12_closes_102 ?_
    refine zf_iload hC dX12_closes_105 6 rfl ?_
    refine zf_iald hC (j := 114) ia_114 rfl rfl dX12_closes_107 (fun h18 => ?_)
    refine zf_lshl hC dX12_closes_108 ?_
    refine zf_lor hC dX12_closes_109 ?_
    refine zf_nml (fun x19 => ?_)
    refine zf_lstore hC (LV' := [(5, .long x19), (0, .ref (g.2.1 11)), (1, .int v1), (2, .int v2), (3, .int v3), (4, .int v4), (7, .int v7)]) dX12_closes_110 (by decide) rfl ?_
    refine zf_iinc hC (q := 6) (v := v7 + 1) (LV' := [(7, .int (v7 + 1)), (5, .long x19), (0, .ref (g.2.1 11)), (1, .int v1), (2, .int v2), (3, .int v3), (4, .int v4)]) dX12_closes_112 rfl rfl (by decide) rfl ?_
    refine zf_goto hC (tgt := 46) dX12_closes_115 (by decide) ?_
    refine zf_lv (LV' := [(0, .ref (g.2.1 11)), (1, .int v1), (2, .int v2), (3, .int v3), (4, .int v4), (5, .long x19), (7, .int (v7 + 1))]) [2, 3, 4, 5, 6, 1, 0] rfl ?_
    exact hrc x19 (v7 + 1) k
set_option maxRecDepth 20000 in
theorem zlpX12_closes_46 {p : Program} {l : Launch} {e : Env} {R : Room} {s : State} {m : MethodId} {args : Array Value} {below : List Frame} {meth : Method} {c : Code} {g : GT} (hC : HC p s m args meth c cX12_closes 11 RX12 (some .long) g) (hR : 1 ≤ R.frames ∧ 22 ≤ R.locals)  (v1 : Int32) (v2 : Int32) (v3 : Int32) (v4 : Int32) {cont : Int64 → Int32 → ST → Option (Int64 × ST)} (hk : ∀ (v5 : Int64) (v7 : Int32) (k : ST), ZF p l e R s m args below meth c g TM voL 11 k 118 [(0, .ref (g.2.1 11)), (1, .int v1), (2, .int v2), (3, .int v3), (4, .int v4), (5, .long v5), (7, .int v7)] [] (cont v5 v7 k)) : ∀ (n : Nat) (v5 : Int64) (v7 : Int32) (k : ST), ZF p l e R s m args below meth c g TM voL 11 k 46 [(0, .ref (g.2.1 11)), (1, .int v1), (2, .int v2), (3, .int v3), (4, .int v4), (5, .long v5), (7, .int v7)] [] (lpX12_closes_46 v1 v2 v3 v4 n v5 v7 k cont) := by
  intro n
  induction n with
  | zero => intros; exact zf_none
  | succ n ih =>
    intro v5 v7 k
    rw [lpX12_closes_46]
    refine zf_iload hC dX12_closes_46 6 rfl ?_
    refine zf_aload_n hC dX12_closes_48 rfl 0 rfl ?_
    refine gf_1260 hC dX12_closes_49 ?_
    refine zf_icmp_ge hC (tgt := 118) dX12_closes_52 (by decide) (fun h7 => ?_) (fun h7 => ?_)
    · refine zf_lv (LV' := [(0, .ref (g.2.1 11)), (1, .int v1), (2, .int v2), (3, .int v3), (4, .int v4), (5, .long v5), (7, .int v7)]) [0, 1, 2, 3, 4, 5, 6] rfl ?_
      exact hk v5 v7 k
    · refine zf_aload_n hC dX12_closes_55 rfl 0 rfl ?_
      refine zf_iload hC dX12_closes_56 6 rfl ?_
      refine zf_iload_n hC dX12_closes_58 rfl 2 rfl ?_
      refine zf_callV hC (c_X12_isForce l g v7 v2) mt_X12_isForce wd_1661 sp_60 ci_11 ic_11 wd_1659 rfl (rm_le hR rfl) rfl rfl (rest := []) rfl (Nat.le_of_ble_eq_true rfl) dX12_closes_59 (fun r8 k9 h10 => ?_)
      refine zf_ifb_eq hC (tgt := 112) dX12_closes_62 (by decide) (fun h11 => ?_) (fun h11 => ?_)
      · refine zf_iload_n hC dX12_closes_65 rfl 1 rfl ?_
        refine zf_aload_n hC dX12_closes_66 rfl 0 rfl ?_
        refine gf_1252 hC dX12_closes_67 ?_
        refine zf_iload hC dX12_closes_70 6 rfl ?_
        refine zf_iald hC (j := 115) ia_115 rfl rfl dX12_closes_72 (fun h12 => ?_)
        refine zf_iand hC dX12_closes_73 ?_
        refine zf_callS hC (c_J6_bitCount_0f7a4 l g TM (v1 &&& (gA k9 115 (ix v7)))) mt_J6_bitCount_0f7a4 wd_577 wd_1578 rfl (rm_le hR rfl) rfl rfl (rest := []) rfl (Nat.le_of_ble_eq_true rfl) dX12_closes_74 (fun r13 k14 h15 => ?_)
        refine zf_iload hC dX12_closes_77 6 rfl ?_
        refine zf_iload_n hC dX12_closes_79 rfl 3 rfl ?_
        refine zf_icmp_ne hC (tgt := 88) dX12_closes_80 (by decide) (fun h16 => ?_) (fun h16 => ?_)
        · refine zf_iload hC dX12_closes_83 4 rfl ?_
          refine zf_goto hC (tgt := 95) dX12_closes_85 (by decide) ?_
          exact zjbX12_closes_95 hC hR v1 v2 v3 v4 v5 v7 v4 r13 ih hk k14
        · refine zf_aload_n hC dX12_closes_88 rfl 0 rfl ?_
          refine gf_1253 hC dX12_closes_89 ?_
          refine zf_iload hC dX12_closes_92 6 rfl ?_
          refine zf_iald hC (j := 116) ia_116 rfl rfl dX12_closes_94 (fun h20 => ?_)
          exact zjbX12_closes_95 hC hR v1 v2 v3 v4 v5 v7 (gA k14 116 (ix v7)) r13 ih hk k14
      · refine zf_iinc hC (q := 6) (v := v7 + 1) (LV' := [(7, .int (v7 + 1)), (0, .ref (g.2.1 11)), (1, .int v1), (2, .int v2), (3, .int v3), (4, .int v4), (5, .long v5)]) dX12_closes_112 rfl rfl (by decide) rfl ?_
        refine zf_goto hC (tgt := 46) dX12_closes_115 (by decide) ?_
        refine zf_lv (LV' := [(0, .ref (g.2.1 11)), (1, .int v1), (2, .int v2), (3, .int v3), (4, .int v4), (5, .long v5), (7, .int (v7 + 1))]) [1, 2, 3, 4, 5, 6, 0] rfl ?_
        exact ih v5 (v7 + 1) k9
set_option maxRecDepth 20000 in
theorem zlpX12_closes_133 {p : Program} {l : Launch} {e : Env} {R : Room} {s : State} {m : MethodId} {args : Array Value} {below : List Frame} {meth : Method} {c : Code} {g : GT} (hC : HC p s m args meth c cX12_closes 11 RX12 (some .long) g) (hR : 1 ≤ R.frames ∧ 22 ≤ R.locals)  (v1 : Int32) (v2 : Int32) (v3 : Int32) (v4 : Int32) (v7 : Int32) (v8 : Int64) {cont : Int64 → Int32 → ST → Option (Int64 × ST)} (hk : ∀ (v5 : Int64) (v10 : Int32) (k : ST), ZF p l e R s m args below meth c g TM voL 11 k 196 [(0, .ref (g.2.1 11)), (1, .int v1), (2, .int v2), (3, .int v3), (4, .int v4), (5, .long v5), (7, .int v7), (8, .long v8), (10, .int v10)] [] (cont v5 v10 k)) : ∀ (n : Nat) (v5 : Int64) (v10 : Int32) (k : ST), ZF p l e R s m args below meth c g TM voL 11 k 133 [(0, .ref (g.2.1 11)), (1, .int v1), (2, .int v2), (3, .int v3), (4, .int v4), (5, .long v5), (7, .int v7), (8, .long v8), (10, .int v10)] [] (lpX12_closes_133 v1 v2 v3 v4 v7 v8 n v5 v10 k cont) := by
  intro n
  induction n with
  | zero => intros; exact zf_none
  | succ n ih =>
    intro v5 v10 k
    rw [lpX12_closes_133]
    refine zf_iload hC dX12_closes_133 8 rfl ?_
    refine zf_aload_n hC dX12_closes_135 rfl 0 rfl ?_
    refine gf_1243 hC dX12_closes_136 ?_
    refine zf_icmp_ge hC (tgt := 196) dX12_closes_139 (by decide) (fun h25 => ?_) (fun h25 => ?_)
    · refine zf_lv (LV' := [(0, .ref (g.2.1 11)), (1, .int v1), (2, .int v2), (3, .int v3), (4, .int v4), (5, .long v5), (7, .int v7), (8, .long v8), (10, .int v10)]) [0, 1, 2, 3, 4, 5, 6, 7, 8] rfl ?_
      exact hk v5 v10 k
    · refine zf_aload_n hC dX12_closes_142 rfl 0 rfl ?_
      refine gf_1232 hC dX12_closes_143 ?_
      refine zf_iload hC dX12_closes_146 8 rfl ?_
      refine zf_iald hC (j := 99) ia_99 rfl rfl dX12_closes_148 (fun h26 => ?_)
      refine zf_iconst hC (v := 2) dX12_closes_149 rfl ?_
      refine zf_icmp_ne hC (tgt := 190) dX12_closes_150 (by decide) (fun h27 => ?_) (fun h27 => ?_)
      · refine zf_aload_n hC dX12_closes_153 rfl 0 rfl ?_
        refine gf_1235 hC dX12_closes_154 ?_
        refine zf_iload hC dX12_closes_157 8 rfl ?_
        refine zf_iald hC (j := 102) ia_102 rfl rfl dX12_closes_159 (fun h28 => ?_)
        refine zf_iload_n hC dX12_closes_160 rfl 2 rfl ?_
        refine zf_icmp_gt hC (tgt := 190) dX12_closes_161 (by decide) (fun h29 => ?_) (fun h29 => ?_)
        · refine zf_iinc hC (q := 8) (v := v10 + 1) (LV' := [(10, .int (v10 + 1)), (0, .ref (g.2.1 11)), (1, .int v1), (2, .int v2), (3, .int v3), (4, .int v4), (5, .long v5), (7, .int v7), (8, .long v8)]) dX12_closes_190 rfl rfl (by decide) rfl ?_
          refine zf_goto hC (tgt := 133) dX12_closes_193 (by decide) ?_
          refine zf_lv (LV' := [(0, .ref (g.2.1 11)), (1, .int v1), (2, .int v2), (3, .int v3), (4, .int v4), (5, .long v5), (7, .int v7), (8, .long v8), (10, .int (v10 + 1))]) [1, 2, 3, 4, 5, 6, 7, 8, 0] rfl ?_
          exact ih v5 (v10 + 1) k
        · refine zf_lload hC dX12_closes_164 5 rfl ?_
          refine zf_aload_n hC dX12_closes_166 rfl 0 rfl ?_
          refine gf_1234 hC dX12_closes_167 ?_
          refine zf_iload hC dX12_closes_170 8 rfl ?_
          refine zf_iald hC (j := 101) ia_101 rfl rfl dX12_closes_172 (fun h30 => ?_)
          refine zf_lshr hC dX12_closes_173 ?_
          refine zf_lconst hC (v := 1) dX12_closes_174 rfl ?_
          refine zf_land hC dX12_closes_175 ?_
          refine zf_lconst hC (v := 1) dX12_closes_176 rfl ?_
          refine zf_lcmp_ne hC (tgt := 190) dX12_closes_177 dX12_closes_178 (by decide) (fun h31 => ?_) (fun h31 => ?_)
          · refine zf_lload hC dX12_closes_181 5 rfl ?_
            refine zf_lconst hC (v := 1) dX12_closes_183 rfl ?_
            refine zf_iload hC dX12_closes_184 8 rfl ?_
            refine zf_lshl hC dX12_closes_186 ?_
            refine zf_lor hC dX12_closes_187 ?_
            refine zf_lstore hC (LV' := [(5, .long (v5 ||| (j_lshl 1 v10))), (0, .ref (g.2.1 11)), (1, .int v1), (2, .int v2), (3, .int v3), (4, .int v4), (7, .int v7), (8, .long v8), (10, .int v10)]) dX12_closes_188 (by decide) rfl ?_
            refine zf_iinc hC (q := 8) (v := v10 + 1) (LV' := [(10, .int (v10 + 1)), (5, .long (v5 ||| (j_lshl 1 v10))), (0, .ref (g.2.1 11)), (1, .int v1), (2, .int v2), (3, .int v3), (4, .int v4), (7, .int v7), (8, .long v8)]) dX12_closes_190 rfl rfl (by decide) rfl ?_
            refine zf_goto hC (tgt := 133) dX12_closes_193 (by decide) ?_
            refine zf_lv (LV' := [(0, .ref (g.2.1 11)), (1, .int v1), (2, .int v2), (3, .int v3), (4, .int v4), (5, .long (v5 ||| (j_lshl 1 v10))), (7, .int v7), (8, .long v8), (10, .int (v10 + 1))]) [2, 3, 4, 5, 6, 1, 7, 8, 0] rfl ?_
            exact ih (v5 ||| (j_lshl 1 v10)) (v10 + 1) k
          · refine zf_iinc hC (q := 8) (v := v10 + 1) (LV' := [(10, .int (v10 + 1)), (0, .ref (g.2.1 11)), (1, .int v1), (2, .int v2), (3, .int v3), (4, .int v4), (5, .long v5), (7, .int v7), (8, .long v8)]) dX12_closes_190 rfl rfl (by decide) rfl ?_
            refine zf_goto hC (tgt := 133) dX12_closes_193 (by decide) ?_
            refine zf_lv (LV' := [(0, .ref (g.2.1 11)), (1, .int v1), (2, .int v2), (3, .int v3), (4, .int v4), (5, .long v5), (7, .int v7), (8, .long v8), (10, .int (v10 + 1))]) [1, 2, 3, 4, 5, 6, 7, 8, 0] rfl ?_
            exact ih v5 (v10 + 1) k
      · refine zf_iinc hC (q := 8) (v := v10 + 1) (LV' := [(10, .int (v10 + 1)), (0, .ref (g.2.1 11)), (1, .int v1), (2, .int v2), (3, .int v3), (4, .int v4), (5, .long v5), (7, .int v7), (8, .long v8)]) dX12_closes_190 rfl rfl (by decide) rfl ?_
        refine zf_goto hC (tgt := 133) dX12_closes_193 (by decide) ?_
        refine zf_lv (LV' := [(0, .ref (g.2.1 11)), (1, .int v1), (2, .int v2), (3, .int v3), (4, .int v4), (5, .long v5), (7, .int v7), (8, .long v8), (10, .int (v10 + 1))]) [1, 2, 3, 4, 5, 6, 7, 8, 0] rfl ?_
        exact ih v5 (v10 + 1) k
set_option maxRecDepth 20000 in
theorem zlpX12_closes_199 {p : Program} {l : Launch} {e : Env} {R : Room} {s : State} {m : MethodId} {args : Array Value} {below : List Frame} {meth : Method} {c : Code} {g : GT} (hC : HC p s m args meth c cX12_closes 11 RX12 (some .long) g) (hR : 1 ≤ R.frames ∧ 22 ≤ R.locals)  (v1 : Int32) (v2 : Int32) (v3 : Int32) (v4 : Int32) (v7 : Int32) (v8 : Int64) {cont : Int64 → Int32 → ST → Option (Int64 × ST)} (hk : ∀ (v5 : Int64) (v10 : Int32) (k : ST), ZF p l e R s m args below meth c g TM voL 11 k 255 [(0, .ref (g.2.1 11)), (1, .int v1), (2, .int v2), (3, .int v3), (4, .int v4), (5, .long v5), (7, .int v7), (8, .long v8), (10, .int v10)] [] (cont v5 v10 k)) : ∀ (n : Nat) (v5 : Int64) (v10 : Int32) (k : ST), ZF p l e R s m args below meth c g TM voL 11 k 199 [(0, .ref (g.2.1 11)), (1, .int v1), (2, .int v2), (3, .int v3), (4, .int v4), (5, .long v5), (7, .int v7), (8, .long v8), (10, .int v10)] [] (lpX12_closes_199 v1 v2 v3 v4 v7 v8 n v5 v10 k cont) := by
  intro n
  induction n with
  | zero => intros; exact zf_none
  | succ n ih =>
    intro v5 v10 k
    rw [lpX12_closes_199]
    refine zf_iload hC dX12_closes_199 8 rfl ?_
    refine zf_aload_n hC dX12_closes_201 rfl 0 rfl ?_
    refine gf_1259 hC dX12_closes_202 ?_
    refine zf_icmp_ge hC (tgt := 255) dX12_closes_205 (by decide) (fun h35 => ?_) (fun h35 => ?_)
    · refine zf_lv (LV' := [(0, .ref (g.2.1 11)), (1, .int v1), (2, .int v2), (3, .int v3), (4, .int v4), (5, .long v5), (7, .int v7), (8, .long v8), (10, .int v10)]) [0, 1, 2, 3, 4, 5, 6, 7, 8] rfl ?_
      exact hk v5 v10 k
    · refine zf_aload_n hC dX12_closes_208 rfl 0 rfl ?_
      refine zf_iload hC dX12_closes_209 8 rfl ?_
      refine zf_iload_n hC dX12_closes_211 rfl 2 rfl ?_
      refine zf_callV hC (c_X12_isWrapped l g v10 v2) mt_X12_isWrapped wd_1665 sp_61 ci_11 ic_11 wd_1663 rfl (rm_le hR rfl) rfl rfl (rest := []) rfl (Nat.le_of_ble_eq_true rfl) dX12_closes_212 (fun r36 k37 h38 => ?_)
      refine zf_ifb_eq hC (tgt := 249) dX12_closes_215 (by decide) (fun h39 => ?_) (fun h39 => ?_)
      · refine zf_lload hC dX12_closes_218 5 rfl ?_
        refine zf_aload_n hC dX12_closes_220 rfl 0 rfl ?_
        refine gf_1248 hC dX12_closes_221 ?_
        refine zf_iload hC dX12_closes_224 8 rfl ?_
        refine zf_iald hC (j := 111) ia_111 rfl rfl dX12_closes_226 (fun h40 => ?_)
        refine zf_lshr hC dX12_closes_227 ?_
        refine zf_lconst hC (v := 1) dX12_closes_228 rfl ?_
        refine zf_land hC dX12_closes_229 ?_
        refine zf_lconst hC (v := 1) dX12_closes_230 rfl ?_
        refine zf_lcmp_ne hC (tgt := 249) dX12_closes_231 dX12_closes_232 (by decide) (fun h41 => ?_) (fun h41 => ?_)
        · refine zf_lload hC dX12_closes_235 5 rfl ?_
          refine zf_lconst hC (v := 1) dX12_closes_237 rfl ?_
          refine zf_aload_n hC dX12_closes_238 rfl 0 rfl ?_
          refine gf_1247 hC dX12_closes_239 ?_
          refine zf_iload hC dX12_closes_242 8 rfl ?_
          refine zf_iald hC (j := 110) ia_110 rfl rfl dX12_closes_244 (fun h42 => ?_)
          refine zf_lshl hC dX12_closes_245 ?_
          refine zf_lor hC dX12_closes_246 ?_
          refine zf_nml (fun x43 => ?_)
          refine zf_lstore hC (LV' := [(5, .long x43), (0, .ref (g.2.1 11)), (1, .int v1), (2, .int v2), (3, .int v3), (4, .int v4), (7, .int v7), (8, .long v8), (10, .int v10)]) dX12_closes_247 (by decide) rfl ?_
          refine zf_iinc hC (q := 8) (v := v10 + 1) (LV' := [(10, .int (v10 + 1)), (5, .long x43), (0, .ref (g.2.1 11)), (1, .int v1), (2, .int v2), (3, .int v3), (4, .int v4), (7, .int v7), (8, .long v8)]) dX12_closes_249 rfl rfl (by decide) rfl ?_
          refine zf_goto hC (tgt := 199) dX12_closes_252 (by decide) ?_
          refine zf_lv (LV' := [(0, .ref (g.2.1 11)), (1, .int v1), (2, .int v2), (3, .int v3), (4, .int v4), (5, .long x43), (7, .int v7), (8, .long v8), (10, .int (v10 + 1))]) [2, 3, 4, 5, 6, 1, 7, 8, 0] rfl ?_
          exact ih x43 (v10 + 1) k37
        · refine zf_iinc hC (q := 8) (v := v10 + 1) (LV' := [(10, .int (v10 + 1)), (0, .ref (g.2.1 11)), (1, .int v1), (2, .int v2), (3, .int v3), (4, .int v4), (5, .long v5), (7, .int v7), (8, .long v8)]) dX12_closes_249 rfl rfl (by decide) rfl ?_
          refine zf_goto hC (tgt := 199) dX12_closes_252 (by decide) ?_
          refine zf_lv (LV' := [(0, .ref (g.2.1 11)), (1, .int v1), (2, .int v2), (3, .int v3), (4, .int v4), (5, .long v5), (7, .int v7), (8, .long v8), (10, .int (v10 + 1))]) [1, 2, 3, 4, 5, 6, 7, 8, 0] rfl ?_
          exact ih v5 (v10 + 1) k37
      · refine zf_iinc hC (q := 8) (v := v10 + 1) (LV' := [(10, .int (v10 + 1)), (0, .ref (g.2.1 11)), (1, .int v1), (2, .int v2), (3, .int v3), (4, .int v4), (5, .long v5), (7, .int v7), (8, .long v8)]) dX12_closes_249 rfl rfl (by decide) rfl ?_
        refine zf_goto hC (tgt := 199) dX12_closes_252 (by decide) ?_
        refine zf_lv (LV' := [(0, .ref (g.2.1 11)), (1, .int v1), (2, .int v2), (3, .int v3), (4, .int v4), (5, .long v5), (7, .int v7), (8, .long v8), (10, .int (v10 + 1))]) [1, 2, 3, 4, 5, 6, 7, 8, 0] rfl ?_
        exact ih v5 (v10 + 1) k37
set_option maxRecDepth 20000 in
theorem zlpX12_closes_121 {p : Program} {l : Launch} {e : Env} {R : Room} {s : State} {m : MethodId} {args : Array Value} {below : List Frame} {meth : Method} {c : Code} {g : GT} (hC : HC p s m args meth c cX12_closes 11 RX12 (some .long) g) (hR : 1 ≤ R.frames ∧ 22 ≤ R.locals)  (v1 : Int32) (v2 : Int32) (v3 : Int32) (v4 : Int32) {cont : Int64 → Int32 → ST → Option (Int64 × ST)} (hk : ∀ (v5 : Int64) (v7 : Int32) (k : ST), ZF p l e R s m args below meth c g TM voL 11 k 273 [(0, .ref (g.2.1 11)), (1, .int v1), (2, .int v2), (3, .int v3), (4, .int v4), (5, .long v5), (7, .int v7)] [] (cont v5 v7 k)) : ∀ (n : Nat) (v5 : Int64) (v7 : Int32) (k : ST), ZF p l e R s m args below meth c g TM voL 11 k 121 [(0, .ref (g.2.1 11)), (1, .int v1), (2, .int v2), (3, .int v3), (4, .int v4), (5, .long v5), (7, .int v7)] [] (lpX12_closes_121 v1 v2 v3 v4 n v5 v7 k cont) := by
  intro n
  induction n with
  | zero => intros; exact zf_none
  | succ n ih =>
    intro v5 v7 k
    rw [lpX12_closes_121]
    refine zf_iload hC dX12_closes_121 6 rfl ?_
    refine zf_if_eq hC (tgt := 273) dX12_closes_123 (by decide) (fun h24 => ?_) (fun h24 => ?_)
    · refine zf_lv (LV' := [(0, .ref (g.2.1 11)), (1, .int v1), (2, .int v2), (3, .int v3), (4, .int v4), (5, .long v5), (7, .int v7)]) [0, 1, 2, 3, 4, 5, 6] rfl ?_
      exact hk v5 v7 k
    · refine zf_lload hC dX12_closes_126 5 rfl ?_
      refine zf_lstore hC (LV' := [(8, .long v5), (0, .ref (g.2.1 11)), (1, .int v1), (2, .int v2), (3, .int v3), (4, .int v4), (5, .long v5), (7, .int v7)]) dX12_closes_128 (by decide) rfl ?_
      refine zf_iconst hC (v := 0) dX12_closes_130 rfl ?_
      refine zf_istore hC (LV' := [(10, .int 0), (8, .long v5), (0, .ref (g.2.1 11)), (1, .int v1), (2, .int v2), (3, .int v3), (4, .int v4), (5, .long v5), (7, .int v7)]) dX12_closes_131 (by decide) rfl ?_
      refine zf_lv (LV' := [(0, .ref (g.2.1 11)), (1, .int v1), (2, .int v2), (3, .int v3), (4, .int v4), (5, .long v5), (7, .int v7), (8, .long v5), (10, .int 0)]) [2, 3, 4, 5, 6, 7, 8, 1, 0] rfl ?_
      refine zlpX12_closes_133 hC hR v1 v2 v3 v4 v7 v5 (fun y32 y33 k34 => ?_) FU v5 0 k
      refine zf_iconst hC (v := 0) dX12_closes_196 rfl ?_
      refine zf_istore hC (LV' := [(10, .int 0), (0, .ref (g.2.1 11)), (1, .int v1), (2, .int v2), (3, .int v3), (4, .int v4), (5, .long y32), (7, .int v7), (8, .long v5)]) dX12_closes_197 (by decide) rfl ?_
      refine zf_lv (LV' := [(0, .ref (g.2.1 11)), (1, .int v1), (2, .int v2), (3, .int v3), (4, .int v4), (5, .long y32), (7, .int v7), (8, .long v5), (10, .int 0)]) [1, 2, 3, 4, 5, 6, 7, 8, 0] rfl ?_
      refine zlpX12_closes_199 hC hR v1 v2 v3 v4 v7 v5 (fun y44 y45 k46 => ?_) FU y32 0 k34
      refine zf_lload hC dX12_closes_255 5 rfl ?_
      refine zf_lload hC dX12_closes_257 7 rfl ?_
      refine zf_lcmp_eq hC (tgt := 267) dX12_closes_259 dX12_closes_260 (by decide) (fun h47 => ?_) (fun h47 => ?_)
      · refine zf_iconst hC (v := 0) dX12_closes_267 rfl ?_
        refine zf_istore hC (LV' := [(7, .int 0), (0, .ref (g.2.1 11)), (1, .int v1), (2, .int v2), (3, .int v3), (4, .int v4), (5, .long y44), (8, .long v5), (10, .int y45)]) dX12_closes_268 (by decide) rfl ?_
        refine zf_goto hC (tgt := 121) dX12_closes_270 (by decide) ?_
        refine zf_lv (LV' := [(0, .ref (g.2.1 11)), (1, .int v1), (2, .int v2), (3, .int v3), (4, .int v4), (5, .long y44), (7, .int 0)]) [1, 2, 3, 4, 5, 6, 0] rfl ?_
        exact ih y44 0 k46
      · refine zf_iconst hC (v := 1) dX12_closes_263 rfl ?_
        refine zf_goto hC (tgt := 268) dX12_closes_264 (by decide) ?_
        refine zf_istore hC (LV' := [(7, .int 1), (0, .ref (g.2.1 11)), (1, .int v1), (2, .int v2), (3, .int v3), (4, .int v4), (5, .long y44), (8, .long v5), (10, .int y45)]) dX12_closes_268 (by decide) rfl ?_
        refine zf_goto hC (tgt := 121) dX12_closes_270 (by decide) ?_
        refine zf_lv (LV' := [(0, .ref (g.2.1 11)), (1, .int v1), (2, .int v2), (3, .int v3), (4, .int v4), (5, .long y44), (7, .int 1)]) [1, 2, 3, 4, 5, 6, 0] rfl ?_
        exact ih y44 1 k46
def fX12_closes (k : ST) (a0 : Int32) (a1 : Int32) (a2 : Int32) (a3 : Int32) : Option (Int64 × ST) := lpX12_closes_6 a0 a1 a2 a3 FU 0 0 k fun y4 y5 k6 => lpX12_closes_46 a0 a1 a2 a3 FU y4 0 k6 fun y21 y22 k23 => lpX12_closes_121 a0 a1 a2 a3 FU y21 1 k23 fun y48 y49 k50 => some (y48, k50)
set_option maxRecDepth 20000 in
theorem c_X12_closes (l : Launch) (g : GT) (a0 : Int32) (a1 : Int32) (a2 : Int32) (a3 : Int32) : CN l yX12_closes cX12_closes 11 (some .long) { frames := 1, cells := 0, slots := 0, locals := 22 } g TM voL [.ref (g.2.1 11), .int a0, .int a1, .int a2, .int a3] (fun k => fX12_closes k a0 a1 a2 a3) := by
  refine cn_of (by decide) (Nat.le_of_ble_eq_true rfl) ?_
  intro p e s m args below meth c hC k
  have hC : HC p s m args meth c cX12_closes 11 RX12 (some .long) g := hC
  have hR : 1 ≤ ({ frames := 1, cells := 0, slots := 0, locals := 22 } : Room).frames ∧ 22 ≤ ({ frames := 1, cells := 0, slots := 0, locals := 22 } : Room).locals := ⟨Nat.le_refl _, Nat.le_refl _⟩
  show ZF p l e _ s m args below meth c g TM voL 11 k 0 [(0, .ref (g.2.1 11)), (1, .int a0), (2, .int a1), (3, .int a2), (4, .int a3)] [] (fX12_closes k a0 a1 a2 a3)
  unfold fX12_closes
  refine zf_lconst hC (v := 0) dX12_closes_0 rfl ?_
  refine zf_lstore hC (LV' := [(5, .long 0), (0, .ref (g.2.1 11)), (1, .int a0), (2, .int a1), (3, .int a2), (4, .int a3)]) dX12_closes_1 (by decide) rfl ?_
  refine zf_iconst hC (v := 0) dX12_closes_3 rfl ?_
  refine zf_istore hC (LV' := [(7, .int 0), (5, .long 0), (0, .ref (g.2.1 11)), (1, .int a0), (2, .int a1), (3, .int a2), (4, .int a3)]) dX12_closes_4 (by decide) rfl ?_
  refine zf_lv (LV' := [(0, .ref (g.2.1 11)), (1, .int a0), (2, .int a1), (3, .int a2), (4, .int a3), (5, .long 0), (7, .int 0)]) [2, 3, 4, 5, 6, 1, 0] rfl ?_
  refine zlpX12_closes_6 hC hR a0 a1 a2 a3 (fun y4 y5 k6 => ?_) FU 0 0 k
  refine zf_iconst hC (v := 0) dX12_closes_43 rfl ?_
  refine zf_istore hC (LV' := [(7, .int 0), (0, .ref (g.2.1 11)), (1, .int a0), (2, .int a1), (3, .int a2), (4, .int a3), (5, .long y4)]) dX12_closes_44 (by decide) rfl ?_
  refine zf_lv (LV' := [(0, .ref (g.2.1 11)), (1, .int a0), (2, .int a1), (3, .int a2), (4, .int a3), (5, .long y4), (7, .int 0)]) [1, 2, 3, 4, 5, 6, 0] rfl ?_
  refine zlpX12_closes_46 hC hR a0 a1 a2 a3 (fun y21 y22 k23 => ?_) FU y4 0 k6
  refine zf_iconst hC (v := 1) dX12_closes_118 rfl ?_
  refine zf_istore hC (LV' := [(7, .int 1), (0, .ref (g.2.1 11)), (1, .int a0), (2, .int a1), (3, .int a2), (4, .int a3), (5, .long y21)]) dX12_closes_119 (by decide) rfl ?_
  refine zf_lv (LV' := [(0, .ref (g.2.1 11)), (1, .int a0), (2, .int a1), (3, .int a2), (4, .int a3), (5, .long y21), (7, .int 1)]) [1, 2, 3, 4, 5, 6, 0] rfl ?_
  refine zlpX12_closes_121 hC hR a0 a1 a2 a3 (fun y48 y49 k50 => ?_) FU y21 1 k23
  refine zf_lload hC dX12_closes_273 5 rfl ?_
  exact zf_lret hC rfl dX12_closes_275
/-! LifeKeysModel.gets -/
theorem dX12_gets_0 : decode cX12_gets 0 = .ok (.aload_n 0, 1) := by decide +kernel
theorem dX12_gets_1 : decode cX12_gets 1 = .ok (.iload_n 2, 1) := by decide +kernel
theorem dX12_gets_2 : decode cX12_gets 2 = .ok (.invokevirtual 300, 3) := by decide +kernel
theorem dX12_gets_5 : decode cX12_gets 5 = .ok (.aload_n 0, 1) := by decide +kernel
theorem dX12_gets_6 : decode cX12_gets 6 = .ok (.iload_n 1, 1) := by decide +kernel
theorem dX12_gets_7 : decode cX12_gets 7 = .ok (.iload_n 2, 1) := by decide +kernel
theorem dX12_gets_8 : decode cX12_gets 8 = .ok (.iconst (-1), 1) := by decide +kernel
theorem dX12_gets_9 : decode cX12_gets 9 = .ok (.iconst 0, 1) := by decide +kernel
theorem dX12_gets_10 : decode cX12_gets 10 = .ok (.invokevirtual 303, 3) := by decide +kernel
theorem dX12_gets_13 : decode cX12_gets 13 = .ok (.lreturn, 1) := by decide +kernel
def fX12_gets (k : ST) (a0 : Int32) (a1 : Int32) : Option (Int64 × ST) := ob (fX12_layHas k a1) fun r1 k2 => ob (fX12_closes k2 a0 a1 (-1) 0) fun r4 k5 => some (r4, k5)
set_option maxRecDepth 20000 in
theorem c_X12_gets (l : Launch) (g : GT) (a0 : Int32) (a1 : Int32) : CN l yX12_gets cX12_gets 3 (some .long) { frames := 2, cells := 0, slots := 0, locals := 52 } g TM voL [.ref (g.2.1 11), .int a0, .int a1] (fun k => fX12_gets k a0 a1) := by
  refine cn_of (by decide) (Nat.le_of_ble_eq_true rfl) ?_
  intro p e s m args below meth c hC k
  have hC : HC p s m args meth c cX12_gets 3 RX12 (some .long) g := hC
  have hR : 2 ≤ ({ frames := 2, cells := 0, slots := 0, locals := 52 } : Room).frames ∧ 52 ≤ ({ frames := 2, cells := 0, slots := 0, locals := 52 } : Room).locals := ⟨Nat.le_refl _, Nat.le_refl _⟩
  show ZF p l e _ s m args below meth c g TM voL 3 k 0 [(0, .ref (g.2.1 11)), (1, .int a0), (2, .int a1)] [] (fX12_gets k a0 a1)
  unfold fX12_gets
  refine zf_aload_n hC dX12_gets_0 rfl 0 rfl ?_
  refine zf_iload_n hC dX12_gets_1 rfl 2 rfl ?_
  refine zf_callV hC (c_X12_layHas l g a1) mt_X12_layHas wd_1653 sp_58 ci_11 ic_11 wd_1651 rfl (rm_le hR rfl) rfl rfl (rest := []) rfl (Nat.le_of_ble_eq_true rfl) dX12_gets_2 (fun r1 k2 h3 => ?_)
  refine zf_aload_n hC dX12_gets_5 rfl 0 rfl ?_
  refine zf_iload_n hC dX12_gets_6 rfl 1 rfl ?_
  refine zf_iload_n hC dX12_gets_7 rfl 2 rfl ?_
  refine zf_iconst hC (v := (-1)) dX12_gets_8 rfl ?_
  refine zf_iconst hC (v := 0) dX12_gets_9 rfl ?_
  refine zf_callV hC (c_X12_closes l g a0 a1 (-1) 0) mt_X12_closes wd_1657 sp_59 ci_11 ic_11 wd_1655 rfl (rm_le hR rfl) rfl rfl (rest := []) rfl (Nat.le_of_ble_eq_true rfl) dX12_gets_10 (fun r4 k5 h6 => ?_)
  exact zf_lret hC rfl dX12_gets_13
/-! LifeKeysModel.got -/
theorem dX12_got_0 : decode cX12_got 0 = .ok (.aload_n 0, 1) := by decide +kernel
theorem dX12_got_1 : decode cX12_got 1 = .ok (.iconst 0, 1) := by decide +kernel
theorem dX12_got_2 : decode cX12_got 2 = .ok (.putfield 181, 3) := by decide +kernel
theorem dX12_got_5 : decode cX12_got 5 = .ok (.aload_n 0, 1) := by decide +kernel
theorem dX12_got_6 : decode cX12_got 6 = .ok (.iload_n 1, 1) := by decide +kernel
theorem dX12_got_7 : decode cX12_got 7 = .ok (.iconst 1, 1) := by decide +kernel
theorem dX12_got_8 : decode cX12_got 8 = .ok (.invokevirtual 254, 3) := by decide +kernel
theorem dX12_got_11 : decode cX12_got 11 = .ok (.ifCond .eq 20, 3) := by decide +kernel
theorem dX12_got_14 : decode cX12_got 14 = .ok (.aload_n 0, 1) := by decide +kernel
theorem dX12_got_15 : decode cX12_got 15 = .ok (.iload_n 2, 1) := by decide +kernel
theorem dX12_got_16 : decode cX12_got 16 = .ok (.invokevirtual 307, 3) := by decide +kernel
theorem dX12_got_19 : decode cX12_got 19 = .ok (.ifCond .eq 12, 3) := by decide +kernel
theorem dX12_got_22 : decode cX12_got 22 = .ok (.aload_n 0, 1) := by decide +kernel
theorem dX12_got_23 : decode cX12_got 23 = .ok (.iload_n 1, 1) := by decide +kernel
theorem dX12_got_24 : decode cX12_got 24 = .ok (.iload_n 2, 1) := by decide +kernel
theorem dX12_got_25 : decode cX12_got 25 = .ok (.invokevirtual 310, 3) := by decide +kernel
theorem dX12_got_28 : decode cX12_got 28 = .ok (.goto 6, 3) := by decide +kernel
theorem dX12_got_31 : decode cX12_got 31 = .ok (.ldc2_w 314, 3) := by decide +kernel
theorem dX12_got_34 : decode cX12_got 34 = .ok (.lreturn, 1) := by decide +kernel
def fX12_got (k : ST) (a0 : Int32) (a1 : Int32) : Option (Int64 × ST) := nm (sI k 11 0 0) fun k1 => ob (fX12_areHolders k1 a0 1) fun r2 k3 => if r2 = true then ob (fX12_isKnown k3 a1) fun r6 k7 => if r6 = true then ob (fX12_gets k7 a0 a1) fun r10 k11 => some (r10, k11) else some (-1, k7) else some (-1, k3)
set_option maxRecDepth 20000 in
theorem c_X12_got (l : Launch) (g : GT) (a0 : Int32) (a1 : Int32) : CN l yX12_got cX12_got 3 (some .long) { frames := 3, cells := 0, slots := 0, locals := 74 } g TM voL [.ref (g.2.1 11), .int a0, .int a1] (fun k => fX12_got k a0 a1) := by
  refine cn_of (by decide) (Nat.le_of_ble_eq_true rfl) ?_
  intro p e s m args below meth c hC k
  have hC : HC p s m args meth c cX12_got 3 RX12 (some .long) g := hC
  have hR : 3 ≤ ({ frames := 3, cells := 0, slots := 0, locals := 74 } : Room).frames ∧ 74 ≤ ({ frames := 3, cells := 0, slots := 0, locals := 74 } : Room).locals := ⟨Nat.le_refl _, Nat.le_refl _⟩
  show ZF p l e _ s m args below meth c g TM voL 3 k 0 [(0, .ref (g.2.1 11)), (1, .int a0), (2, .int a1)] [] (fX12_got k a0 a1)
  unfold fX12_got
  refine zf_aload_n hC dX12_got_0 rfl 0 rfl ?_
  refine zf_iconst hC (v := 0) dX12_got_1 rfl ?_
  refine pf_1230 hC dX12_got_2 ?_
  refine zf_nmk (fun k1 => ?_)
  refine zf_aload_n hC dX12_got_5 rfl 0 rfl ?_
  refine zf_iload_n hC dX12_got_6 rfl 1 rfl ?_
  refine zf_iconst hC (v := 1) dX12_got_7 rfl ?_
  refine zf_callV hC (c_X12_areHolders l g a0 1) mt_X12_areHolders wd_1576 sp_51 ci_11 ic_11 wd_1574 rfl (rm_le hR rfl) rfl rfl (rest := []) rfl (Nat.le_of_ble_eq_true rfl) dX12_got_8 (fun r2 k3 h4 => ?_)
  refine zf_ifb_eq hC (tgt := 31) dX12_got_11 (by decide) (fun h5 => ?_) (fun h5 => ?_)
  · refine zf_aload_n hC dX12_got_14 rfl 0 rfl ?_
    refine zf_iload_n hC dX12_got_15 rfl 2 rfl ?_
    refine zf_callV hC (c_X12_isKnown l g a1) mt_X12_isKnown wd_1645 sp_56 ci_11 ic_11 wd_1643 rfl (rm_le hR rfl) rfl rfl (rest := []) rfl (Nat.le_of_ble_eq_true rfl) dX12_got_16 (fun r6 k7 h8 => ?_)
    refine zf_ifb_eq hC (tgt := 31) dX12_got_19 (by decide) (fun h9 => ?_) (fun h9 => ?_)
    · refine zf_aload_n hC dX12_got_22 rfl 0 rfl ?_
      refine zf_iload_n hC dX12_got_23 rfl 1 rfl ?_
      refine zf_iload_n hC dX12_got_24 rfl 2 rfl ?_
      refine zf_callV hC (c_X12_gets l g a0 a1) mt_X12_gets wd_1649 sp_57 ci_11 ic_11 wd_1647 rfl (rm_le hR rfl) rfl rfl (rest := []) rfl (Nat.le_of_ble_eq_true rfl) dX12_got_25 (fun r10 k11 h12 => ?_)
      refine zf_goto hC (tgt := 34) dX12_got_28 (by decide) ?_
      exact zf_lret hC rfl dX12_got_34
    · refine zf_ldc2 hC wd_1667 dX12_got_31 ?_
      exact zf_lret hC rfl dX12_got_34
  · refine zf_ldc2 hC wd_1667 dX12_got_31 ?_
    exact zf_lret hC rfl dX12_got_34
/-! LifeKeysModel.look -/
theorem dX12_look_0 : decode cX12_look 0 = .ok (.aload_n 0, 1) := by decide +kernel
theorem dX12_look_1 : decode cX12_look 1 = .ok (.getfield 316, 3) := by decide +kernel
theorem dX12_look_4 : decode cX12_look 4 = .ok (.aload_n 0, 1) := by decide +kernel
theorem dX12_look_5 : decode cX12_look 5 = .ok (.getfield 319, 3) := by decide +kernel
theorem dX12_look_8 : decode cX12_look 8 = .ok (.if_icmp .ge 35, 3) := by decide +kernel
theorem dX12_look_11 : decode cX12_look 11 = .ok (.aload_n 0, 1) := by decide +kernel
theorem dX12_look_12 : decode cX12_look 12 = .ok (.getfield 130, 3) := by decide +kernel
theorem dX12_look_15 : decode cX12_look 15 = .ok (.aload_n 0, 1) := by decide +kernel
theorem dX12_look_16 : decode cX12_look 16 = .ok (.getfield 322, 3) := by decide +kernel
theorem dX12_look_19 : decode cX12_look 19 = .ok (.aload_n 0, 1) := by decide +kernel
theorem dX12_look_20 : decode cX12_look 20 = .ok (.getfield 316, 3) := by decide +kernel
theorem dX12_look_23 : decode cX12_look 23 = .ok (.iadd, 1) := by decide +kernel
theorem dX12_look_24 : decode cX12_look 24 = .ok (.baload, 1) := by decide +kernel
theorem dX12_look_25 : decode cX12_look 25 = .ok (.bipush 32, 2) := by decide +kernel
theorem dX12_look_27 : decode cX12_look 27 = .ok (.if_icmp .ne 16, 3) := by decide +kernel
theorem dX12_look_30 : decode cX12_look 30 = .ok (.aload_n 0, 1) := by decide +kernel
theorem dX12_look_31 : decode cX12_look 31 = .ok (.dup, 1) := by decide +kernel
theorem dX12_look_32 : decode cX12_look 32 = .ok (.getfield 316, 3) := by decide +kernel
theorem dX12_look_35 : decode cX12_look 35 = .ok (.iconst 1, 1) := by decide +kernel
theorem dX12_look_36 : decode cX12_look 36 = .ok (.iadd, 1) := by decide +kernel
theorem dX12_look_37 : decode cX12_look 37 = .ok (.putfield 316, 3) := by decide +kernel
theorem dX12_look_40 : decode cX12_look 40 = .ok (.goto (-40), 3) := by decide +kernel
theorem dX12_look_43 : decode cX12_look 43 = .ok (.aload_n 0, 1) := by decide +kernel
theorem dX12_look_44 : decode cX12_look 44 = .ok (.getfield 316, 3) := by decide +kernel
theorem dX12_look_47 : decode cX12_look 47 = .ok (.aload_n 0, 1) := by decide +kernel
theorem dX12_look_48 : decode cX12_look 48 = .ok (.getfield 319, 3) := by decide +kernel
theorem dX12_look_51 : decode cX12_look 51 = .ok (.if_icmp .ge 24, 3) := by decide +kernel
theorem dX12_look_54 : decode cX12_look 54 = .ok (.aload_n 0, 1) := by decide +kernel
theorem dX12_look_55 : decode cX12_look 55 = .ok (.getfield 130, 3) := by decide +kernel
theorem dX12_look_58 : decode cX12_look 58 = .ok (.aload_n 0, 1) := by decide +kernel
theorem dX12_look_59 : decode cX12_look 59 = .ok (.getfield 322, 3) := by decide +kernel
theorem dX12_look_62 : decode cX12_look 62 = .ok (.aload_n 0, 1) := by decide +kernel
theorem dX12_look_63 : decode cX12_look 63 = .ok (.getfield 316, 3) := by decide +kernel
theorem dX12_look_66 : decode cX12_look 66 = .ok (.iadd, 1) := by decide +kernel
theorem dX12_look_67 : decode cX12_look 67 = .ok (.baload, 1) := by decide +kernel
theorem dX12_look_68 : decode cX12_look 68 = .ok (.sipush 255, 3) := by decide +kernel
theorem dX12_look_71 : decode cX12_look 71 = .ok (.iand, 1) := by decide +kernel
theorem dX12_look_72 : decode cX12_look 72 = .ok (.goto 4, 3) := by decide +kernel
theorem dX12_look_75 : decode cX12_look 75 = .ok (.iconst (-1), 1) := by decide +kernel
theorem dX12_look_76 : decode cX12_look 76 = .ok (.ireturn, 1) := by decide +kernel
def lpX12_look_0  : Nat → ST → (ST → Option (Int32 × ST)) → Option (Int32 × ST)
  | 0, _, _ => none
  | n + 1, k, cont => if (gI k 11 54) ≤ (gI k 11 55) then cont k else ck (tx_M (gI k 11 52)) (ck (inb ((gI k 11 53) + (gI k 11 55)) (lenA (ix (gI k 11 52) - 12))) (if (gA k (ix (gI k 11 52) - 12) (ix ((gI k 11 53) + (gI k 11 55)))) = 32 then nm (sI k 11 55 ((gI k 11 55) + 1)) fun k4 => lpX12_look_0 n k4 cont else cont k))
def jbX12_look_43   (k : ST) : Option (Int32 × ST) := if (gI k 11 54) ≤ (gI k 11 55) then some ((-1), k) else ck (tx_M (gI k 11 52)) (ck (inb ((gI k 11 53) + (gI k 11 55)) (lenA (ix (gI k 11 52) - 12))) (some ((gA k (ix (gI k 11 52) - 12) (ix ((gI k 11 53) + (gI k 11 55)))) &&& 255, k)))
set_option maxRecDepth 20000 in
theorem zlpX12_look_0 {p : Program} {l : Launch} {e : Env} {R : Room} {s : State} {m : MethodId} {args : Array Value} {below : List Frame} {meth : Method} {c : Code} {g : GT} (hC : HC p s m args meth c cX12_look 1 RX12 (some .int) g) (hR : 0 ≤ R.frames ∧ 0 ≤ R.locals)   {cont : ST → Option (Int32 × ST)} (hk : ∀  (k : ST), ZF p l e R s m args below meth c g TM voI 1 k 43 [(0, .ref (g.2.1 11))] [] (cont k)) : ∀ (n : Nat)  (k : ST), ZF p l e R s m args below meth c g TM voI 1 k 0 [(0, .ref (g.2.1 11))] [] (lpX12_look_0 n k cont) := by
  intro n
  induction n with
  | zero => intros; exact zf_none
  | succ n ih =>
    intro k
    rw [lpX12_look_0]
    refine zf_aload_n hC dX12_look_0 rfl 0 rfl ?_
    refine gf_1285 hC dX12_look_1 ?_
    refine zf_aload_n hC dX12_look_4 rfl 0 rfl ?_
    refine gf_1284 hC dX12_look_5 ?_
    refine zf_icmp_ge hC (tgt := 43) dX12_look_8 (by decide) (fun h1 => ?_) (fun h1 => ?_)
    · refine zf_lv (LV' := [(0, .ref (g.2.1 11))]) [0] rfl ?_
      exact hk k
    · refine zf_aload_n hC dX12_look_11 rfl 0 rfl ?_
      refine gf_1282 hC dX12_look_12 ?_
      refine zf_aload_n hC dX12_look_15 rfl 0 rfl ?_
      refine gf_1283 hC dX12_look_16 ?_
      refine zf_aload_n hC dX12_look_19 rfl 0 rfl ?_
      refine gf_1285 hC dX12_look_20 ?_
      refine zf_iadd hC dX12_look_23 ?_
      refine zf_bald_t hC dX12_look_24 (fun h2 => ?_)
      refine zf_bipush hC (v := 32) dX12_look_25 rfl ?_
      refine zf_icmp_ne hC (tgt := 43) dX12_look_27 (by decide) (fun h3 => ?_) (fun h3 => ?_)
      · refine zf_aload_n hC dX12_look_30 rfl 0 rfl ?_
        refine zf_dup hC dX12_look_31 rfl ?_
        refine gf_1285 hC dX12_look_32 ?_
        refine zf_iconst hC (v := 1) dX12_look_35 rfl ?_
        refine zf_iadd hC dX12_look_36 ?_
        refine pf_1285 hC dX12_look_37 ?_
        refine zf_nmk (fun k4 => ?_)
        refine zf_goto hC (tgt := 0) dX12_look_40 (by decide) ?_
        refine zf_lv (LV' := [(0, .ref (g.2.1 11))]) [0] rfl ?_
        exact ih k4
      · refine zf_lv (LV' := [(0, .ref (g.2.1 11))]) [0] rfl ?_
        exact hk k
set_option maxRecDepth 20000 in
theorem zjbX12_look_43 {p : Program} {l : Launch} {e : Env} {R : Room} {s : State} {m : MethodId} {args : Array Value} {below : List Frame} {meth : Method} {c : Code} {g : GT} (hC : HC p s m args meth c cX12_look 1 RX12 (some .int) g) (hR : 0 ≤ R.frames ∧ 0 ≤ R.locals)    (k : ST) : ZF p l e R s m args below meth c g TM voI 1 k 43 [(0, .ref (g.2.1 11))] [] (jbX12_look_43  k) := by
  unfold jbX12_look_43
  refine zf_aload_n hC dX12_look_43 rfl 0 rfl ?_
  refine gf_1285 hC dX12_look_44 ?_
  refine zf_aload_n hC dX12_look_47 rfl 0 rfl ?_
  refine gf_1284 hC dX12_look_48 ?_
  refine zf_icmp_ge hC (tgt := 75) dX12_look_51 (by decide) (fun h6 => ?_) (fun h6 => ?_)
  · refine zf_iconst hC (v := (-1)) dX12_look_75 rfl ?_
    exact zf_iret hC rfl dX12_look_76
  · refine zf_aload_n hC dX12_look_54 rfl 0 rfl ?_
    refine gf_1282 hC dX12_look_55 ?_
    refine zf_aload_n hC dX12_look_58 rfl 0 rfl ?_
    refine gf_1283 hC dX12_look_59 ?_
    refine zf_aload_n hC dX12_look_62 rfl 0 rfl ?_
    refine gf_1285 hC dX12_look_63 ?_
    refine zf_iadd hC dX12_look_66 ?_
    refine zf_bald_t hC dX12_look_67 (fun h7 => ?_)
    refine zf_sipush hC (v := 255) dX12_look_68 rfl ?_
    refine zf_iand hC dX12_look_71 ?_
    refine zf_goto hC (tgt := 76) dX12_look_72 (by decide) ?_
    exact zf_iret hC rfl dX12_look_76
def fX12_look (k : ST)  : Option (Int32 × ST) := lpX12_look_0 FU k fun k5 => jbX12_look_43 k5
set_option maxRecDepth 20000 in
theorem c_X12_look (l : Launch) (g : GT)  : CN l yX12_look cX12_look 1 (some .int) { frames := 0, cells := 0, slots := 0, locals := 0 } g TM voI [.ref (g.2.1 11)] (fun k => fX12_look k) := by
  refine cn_of (by decide) (Nat.le_of_ble_eq_true rfl) ?_
  intro p e s m args below meth c hC k
  have hC : HC p s m args meth c cX12_look 1 RX12 (some .int) g := hC
  have hR : 0 ≤ ({ frames := 0, cells := 0, slots := 0, locals := 0 } : Room).frames ∧ 0 ≤ ({ frames := 0, cells := 0, slots := 0, locals := 0 } : Room).locals := ⟨Nat.le_refl _, Nat.le_refl _⟩
  show ZF p l e _ s m args below meth c g TM voI 1 k 0 [(0, .ref (g.2.1 11))] [] (fX12_look k)
  unfold fX12_look
  refine zf_lv (LV' := [(0, .ref (g.2.1 11))]) [0] rfl ?_
  refine zlpX12_look_0 hC hR (fun k5 => ?_) FU k
  exact zjbX12_look_43 hC hR k5
/-! LifeKeysModel.stop -/
theorem dX12_stop_0 : decode cX12_stop 0 = .ok (.aload_n 0, 1) := by decide +kernel
theorem dX12_stop_1 : decode cX12_stop 1 = .ok (.getfield 325, 3) := by decide +kernel
theorem dX12_stop_4 : decode cX12_stop 4 = .ok (.iconst (-1), 1) := by decide +kernel
theorem dX12_stop_5 : decode cX12_stop 5 = .ok (.if_icmp .ne 11, 3) := by decide +kernel
theorem dX12_stop_8 : decode cX12_stop 8 = .ok (.aload_n 0, 1) := by decide +kernel
theorem dX12_stop_9 : decode cX12_stop 9 = .ok (.aload_n 0, 1) := by decide +kernel
theorem dX12_stop_10 : decode cX12_stop 10 = .ok (.getfield 316, 3) := by decide +kernel
theorem dX12_stop_13 : decode cX12_stop 13 = .ok (.putfield 325, 3) := by decide +kernel
theorem dX12_stop_16 : decode cX12_stop 16 = .ok (.iconst 0, 1) := by decide +kernel
theorem dX12_stop_17 : decode cX12_stop 17 = .ok (.ireturn, 1) := by decide +kernel
def fX12_stop (k : ST)  : Option (Bool × ST) := if (gI k 11 56) = (-1) then nm (sI k 11 56 (gI k 11 55)) fun k2 => some (false, k2) else some (false, k)
set_option maxRecDepth 20000 in
theorem c_X12_stop (l : Launch) (g : GT)  : CN l yX12_stop cX12_stop 1 (some .boolean) { frames := 0, cells := 0, slots := 0, locals := 0 } g TM voB [.ref (g.2.1 11)] (fun k => fX12_stop k) := by
  refine cn_of (by decide) (Nat.le_of_ble_eq_true rfl) ?_
  intro p e s m args below meth c hC k
  have hC : HC p s m args meth c cX12_stop 1 RX12 (some .boolean) g := hC
  have hR : 0 ≤ ({ frames := 0, cells := 0, slots := 0, locals := 0 } : Room).frames ∧ 0 ≤ ({ frames := 0, cells := 0, slots := 0, locals := 0 } : Room).locals := ⟨Nat.le_refl _, Nat.le_refl _⟩
  show ZF p l e _ s m args below meth c g TM voB 1 k 0 [(0, .ref (g.2.1 11))] [] (fX12_stop k)
  unfold fX12_stop
  refine zf_aload_n hC dX12_stop_0 rfl 0 rfl ?_
  refine gf_1286 hC dX12_stop_1 ?_
  refine zf_iconst hC (v := (-1)) dX12_stop_4 rfl ?_
  refine zf_icmp_ne hC (tgt := 16) dX12_stop_5 (by decide) (fun h1 => ?_) (fun h1 => ?_)
  · refine zf_aload_n hC dX12_stop_8 rfl 0 rfl ?_
    refine zf_aload_n hC dX12_stop_9 rfl 0 rfl ?_
    refine gf_1285 hC dX12_stop_10 ?_
    refine pf_1286 hC dX12_stop_13 ?_
    refine zf_nmk (fun k2 => ?_)
    refine zf_iconst hC (v := 0) dX12_stop_16 rfl ?_
    exact zf_zret hC rfl false rfl dX12_stop_17
  · refine zf_iconst hC (v := 0) dX12_stop_16 rfl ?_
    exact zf_zret hC rfl false rfl dX12_stop_17
/-! LifeKeysModel.goesIn -/
theorem dX12_goesIn_0 : decode cX12_goesIn 0 = .ok (.aload_n 0, 1) := by decide +kernel
theorem dX12_goesIn_1 : decode cX12_goesIn 1 = .ok (.getfield 328, 3) := by decide +kernel
theorem dX12_goesIn_4 : decode cX12_goesIn 4 = .ok (.bipush 8, 2) := by decide +kernel
theorem dX12_goesIn_6 : decode cX12_goesIn 6 = .ok (.if_icmp .ne 8, 3) := by decide +kernel
theorem dX12_goesIn_9 : decode cX12_goesIn 9 = .ok (.aload_n 0, 1) := by decide +kernel
theorem dX12_goesIn_10 : decode cX12_goesIn 10 = .ok (.invokevirtual 331, 3) := by decide +kernel
theorem dX12_goesIn_13 : decode cX12_goesIn 13 = .ok (.ireturn, 1) := by decide +kernel
theorem dX12_goesIn_14 : decode cX12_goesIn 14 = .ok (.aload_n 0, 1) := by decide +kernel
theorem dX12_goesIn_15 : decode cX12_goesIn 15 = .ok (.dup, 1) := by decide +kernel
theorem dX12_goesIn_16 : decode cX12_goesIn 16 = .ok (.getfield 328, 3) := by decide +kernel
theorem dX12_goesIn_19 : decode cX12_goesIn 19 = .ok (.iconst 1, 1) := by decide +kernel
theorem dX12_goesIn_20 : decode cX12_goesIn 20 = .ok (.iadd, 1) := by decide +kernel
theorem dX12_goesIn_21 : decode cX12_goesIn 21 = .ok (.putfield 328, 3) := by decide +kernel
theorem dX12_goesIn_24 : decode cX12_goesIn 24 = .ok (.aload_n 0, 1) := by decide +kernel
theorem dX12_goesIn_25 : decode cX12_goesIn 25 = .ok (.dup, 1) := by decide +kernel
theorem dX12_goesIn_26 : decode cX12_goesIn 26 = .ok (.getfield 316, 3) := by decide +kernel
theorem dX12_goesIn_29 : decode cX12_goesIn 29 = .ok (.iconst 1, 1) := by decide +kernel
theorem dX12_goesIn_30 : decode cX12_goesIn 30 = .ok (.iadd, 1) := by decide +kernel
theorem dX12_goesIn_31 : decode cX12_goesIn 31 = .ok (.putfield 316, 3) := by decide +kernel
theorem dX12_goesIn_34 : decode cX12_goesIn 34 = .ok (.iconst 1, 1) := by decide +kernel
theorem dX12_goesIn_35 : decode cX12_goesIn 35 = .ok (.ireturn, 1) := by decide +kernel
def fX12_goesIn (k : ST)  : Option (Bool × ST) := if (gI k 11 57) = 8 then ob (fX12_stop k) fun r2 k3 => some (r2, k3) else nm (sI k 11 57 ((gI k 11 57) + 1)) fun k5 => nm (sI k5 11 55 ((gI k5 11 55) + 1)) fun k6 => some (true, k6)
set_option maxRecDepth 20000 in
theorem c_X12_goesIn (l : Launch) (g : GT)  : CN l yX12_goesIn cX12_goesIn 1 (some .boolean) { frames := 1, cells := 0, slots := 0, locals := 20 } g TM voB [.ref (g.2.1 11)] (fun k => fX12_goesIn k) := by
  refine cn_of (by decide) (Nat.le_of_ble_eq_true rfl) ?_
  intro p e s m args below meth c hC k
  have hC : HC p s m args meth c cX12_goesIn 1 RX12 (some .boolean) g := hC
  have hR : 1 ≤ ({ frames := 1, cells := 0, slots := 0, locals := 20 } : Room).frames ∧ 20 ≤ ({ frames := 1, cells := 0, slots := 0, locals := 20 } : Room).locals := ⟨Nat.le_refl _, Nat.le_refl _⟩
  show ZF p l e _ s m args below meth c g TM voB 1 k 0 [(0, .ref (g.2.1 11))] [] (fX12_goesIn k)
  unfold fX12_goesIn
  refine zf_aload_n hC dX12_goesIn_0 rfl 0 rfl ?_
  refine gf_1287 hC dX12_goesIn_1 ?_
  refine zf_bipush hC (v := 8) dX12_goesIn_4 rfl ?_
  refine zf_icmp_ne hC (tgt := 14) dX12_goesIn_6 (by decide) (fun h1 => ?_) (fun h1 => ?_)
  · refine zf_aload_n hC dX12_goesIn_9 rfl 0 rfl ?_
    refine zf_callV hC (c_X12_stop l g) mt_X12_stop wd_1698 sp_68 ci_11 ic_11 wd_1696 rfl (rm_le hR rfl) rfl rfl (rest := []) rfl (Nat.le_of_ble_eq_true rfl) dX12_goesIn_10 (fun r2 k3 h4 => ?_)
    exact zf_zret hC rfl r2 rfl dX12_goesIn_13
  · refine zf_aload_n hC dX12_goesIn_14 rfl 0 rfl ?_
    refine zf_dup hC dX12_goesIn_15 rfl ?_
    refine gf_1287 hC dX12_goesIn_16 ?_
    refine zf_iconst hC (v := 1) dX12_goesIn_19 rfl ?_
    refine zf_iadd hC dX12_goesIn_20 ?_
    refine pf_1287 hC dX12_goesIn_21 ?_
    refine zf_nmk (fun k5 => ?_)
    refine zf_aload_n hC dX12_goesIn_24 rfl 0 rfl ?_
    refine zf_dup hC dX12_goesIn_25 rfl ?_
    refine gf_1285 hC dX12_goesIn_26 ?_
    refine zf_iconst hC (v := 1) dX12_goesIn_29 rfl ?_
    refine zf_iadd hC dX12_goesIn_30 ?_
    refine pf_1285 hC dX12_goesIn_31 ?_
    refine zf_nmk (fun k6 => ?_)
    refine zf_iconst hC (v := 1) dX12_goesIn_34 rfl ?_
    exact zf_zret hC rfl true rfl dX12_goesIn_35
/-! LifeKeysModel.takes -/
theorem dX12_takes_0 : decode cX12_takes 0 = .ok (.aload_n 0, 1) := by decide +kernel
theorem dX12_takes_1 : decode cX12_takes 1 = .ok (.getfield 325, 3) := by decide +kernel
theorem dX12_takes_4 : decode cX12_takes 4 = .ok (.iconst (-1), 1) := by decide +kernel
theorem dX12_takes_5 : decode cX12_takes 5 = .ok (.if_icmp .ne 11, 3) := by decide +kernel
theorem dX12_takes_8 : decode cX12_takes 8 = .ok (.aload_n 0, 1) := by decide +kernel
theorem dX12_takes_9 : decode cX12_takes 9 = .ok (.invokevirtual 335, 3) := by decide +kernel
theorem dX12_takes_12 : decode cX12_takes 12 = .ok (.iload_n 1, 1) := by decide +kernel
theorem dX12_takes_13 : decode cX12_takes 13 = .ok (.if_icmp .eq 8, 3) := by decide +kernel
theorem dX12_takes_16 : decode cX12_takes 16 = .ok (.aload_n 0, 1) := by decide +kernel
theorem dX12_takes_17 : decode cX12_takes 17 = .ok (.invokevirtual 331, 3) := by decide +kernel
theorem dX12_takes_20 : decode cX12_takes 20 = .ok (.ireturn, 1) := by decide +kernel
theorem dX12_takes_21 : decode cX12_takes 21 = .ok (.aload_n 0, 1) := by decide +kernel
theorem dX12_takes_22 : decode cX12_takes 22 = .ok (.dup, 1) := by decide +kernel
theorem dX12_takes_23 : decode cX12_takes 23 = .ok (.getfield 316, 3) := by decide +kernel
theorem dX12_takes_26 : decode cX12_takes 26 = .ok (.iconst 1, 1) := by decide +kernel
theorem dX12_takes_27 : decode cX12_takes 27 = .ok (.iadd, 1) := by decide +kernel
theorem dX12_takes_28 : decode cX12_takes 28 = .ok (.putfield 316, 3) := by decide +kernel
theorem dX12_takes_31 : decode cX12_takes 31 = .ok (.iconst 1, 1) := by decide +kernel
theorem dX12_takes_32 : decode cX12_takes 32 = .ok (.ireturn, 1) := by decide +kernel
def fX12_takes (k : ST) (a0 : Int32) : Option (Bool × ST) := if (gI k 11 56) = (-1) then ob (fX12_look k) fun r2 k3 => if r2 = a0 then nm (sI k3 11 55 ((gI k3 11 55) + 1)) fun k6 => some (true, k6) else ob (fX12_stop k3) fun r7 k8 => some (r7, k8) else ob (fX12_stop k) fun r10 k11 => some (r10, k11)
set_option maxRecDepth 20000 in
theorem c_X12_takes (l : Launch) (g : GT) (a0 : Int32) : CN l yX12_takes cX12_takes 2 (some .boolean) { frames := 1, cells := 0, slots := 0, locals := 20 } g TM voB [.ref (g.2.1 11), .int a0] (fun k => fX12_takes k a0) := by
  refine cn_of (by decide) (Nat.le_of_ble_eq_true rfl) ?_
  intro p e s m args below meth c hC k
  have hC : HC p s m args meth c cX12_takes 2 RX12 (some .boolean) g := hC
  have hR : 1 ≤ ({ frames := 1, cells := 0, slots := 0, locals := 20 } : Room).frames ∧ 20 ≤ ({ frames := 1, cells := 0, slots := 0, locals := 20 } : Room).locals := ⟨Nat.le_refl _, Nat.le_refl _⟩
  show ZF p l e _ s m args below meth c g TM voB 2 k 0 [(0, .ref (g.2.1 11)), (1, .int a0)] [] (fX12_takes k a0)
  unfold fX12_takes
  refine zf_aload_n hC dX12_takes_0 rfl 0 rfl ?_
  refine gf_1286 hC dX12_takes_1 ?_
  refine zf_iconst hC (v := (-1)) dX12_takes_4 rfl ?_
  refine zf_icmp_ne hC (tgt := 16) dX12_takes_5 (by decide) (fun h1 => ?_) (fun h1 => ?_)
  · refine zf_aload_n hC dX12_takes_8 rfl 0 rfl ?_
    refine zf_callV hC (c_X12_look l g) mt_X12_look wd_1690 sp_66 ci_11 ic_11 wd_1688 rfl (rm_le hR rfl) rfl rfl (rest := []) rfl (Nat.le_of_ble_eq_true rfl) dX12_takes_9 (fun r2 k3 h4 => ?_)
    refine zf_iload_n hC dX12_takes_12 rfl 1 rfl ?_
    refine zf_icmp_eq hC (tgt := 21) dX12_takes_13 (by decide) (fun h5 => ?_) (fun h5 => ?_)
    · refine zf_aload_n hC dX12_takes_21 rfl 0 rfl ?_
      refine zf_dup hC dX12_takes_22 rfl ?_
      refine gf_1285 hC dX12_takes_23 ?_
      refine zf_iconst hC (v := 1) dX12_takes_26 rfl ?_
      refine zf_iadd hC dX12_takes_27 ?_
      refine pf_1285 hC dX12_takes_28 ?_
      refine zf_nmk (fun k6 => ?_)
      refine zf_iconst hC (v := 1) dX12_takes_31 rfl ?_
      exact zf_zret hC rfl true rfl dX12_takes_32
    · refine zf_aload_n hC dX12_takes_16 rfl 0 rfl ?_
      refine zf_callV hC (c_X12_stop l g) mt_X12_stop wd_1698 sp_68 ci_11 ic_11 wd_1696 rfl (rm_le hR rfl) rfl rfl (rest := []) rfl (Nat.le_of_ble_eq_true rfl) dX12_takes_17 (fun r7 k8 h9 => ?_)
      exact zf_zret hC rfl r7 rfl dX12_takes_20
  · refine zf_aload_n hC dX12_takes_16 rfl 0 rfl ?_
    refine zf_callV hC (c_X12_stop l g) mt_X12_stop wd_1698 sp_68 ci_11 ic_11 wd_1696 rfl (rm_le hR rfl) rfl rfl (rest := []) rfl (Nat.le_of_ble_eq_true rfl) dX12_takes_17 (fun r10 k11 h12 => ?_)
    exact zf_zret hC rfl r10 rfl dX12_takes_20
/-! LifeKeysModel.isDigit -/
theorem dX12_isDigit_0 : decode cX12_isDigit 0 = .ok (.aload_n 0, 1) := by decide +kernel
theorem dX12_isDigit_1 : decode cX12_isDigit 1 = .ok (.getfield 316, 3) := by decide +kernel
theorem dX12_isDigit_4 : decode cX12_isDigit 4 = .ok (.aload_n 0, 1) := by decide +kernel
theorem dX12_isDigit_5 : decode cX12_isDigit 5 = .ok (.getfield 319, 3) := by decide +kernel
theorem dX12_isDigit_8 : decode cX12_isDigit 8 = .ok (.if_icmp .ge 45, 3) := by decide +kernel
theorem dX12_isDigit_11 : decode cX12_isDigit 11 = .ok (.aload_n 0, 1) := by decide +kernel
theorem dX12_isDigit_12 : decode cX12_isDigit 12 = .ok (.getfield 130, 3) := by decide +kernel
theorem dX12_isDigit_15 : decode cX12_isDigit 15 = .ok (.aload_n 0, 1) := by decide +kernel
theorem dX12_isDigit_16 : decode cX12_isDigit 16 = .ok (.getfield 322, 3) := by decide +kernel
theorem dX12_isDigit_19 : decode cX12_isDigit 19 = .ok (.aload_n 0, 1) := by decide +kernel
theorem dX12_isDigit_20 : decode cX12_isDigit 20 = .ok (.getfield 316, 3) := by decide +kernel
theorem dX12_isDigit_23 : decode cX12_isDigit 23 = .ok (.iadd, 1) := by decide +kernel
theorem dX12_isDigit_24 : decode cX12_isDigit 24 = .ok (.baload, 1) := by decide +kernel
theorem dX12_isDigit_25 : decode cX12_isDigit 25 = .ok (.bipush 48, 2) := by decide +kernel
theorem dX12_isDigit_27 : decode cX12_isDigit 27 = .ok (.if_icmp .lt 26, 3) := by decide +kernel
theorem dX12_isDigit_30 : decode cX12_isDigit 30 = .ok (.aload_n 0, 1) := by decide +kernel
theorem dX12_isDigit_31 : decode cX12_isDigit 31 = .ok (.getfield 130, 3) := by decide +kernel
theorem dX12_isDigit_34 : decode cX12_isDigit 34 = .ok (.aload_n 0, 1) := by decide +kernel
theorem dX12_isDigit_35 : decode cX12_isDigit 35 = .ok (.getfield 322, 3) := by decide +kernel
theorem dX12_isDigit_38 : decode cX12_isDigit 38 = .ok (.aload_n 0, 1) := by decide +kernel
theorem dX12_isDigit_39 : decode cX12_isDigit 39 = .ok (.getfield 316, 3) := by decide +kernel
theorem dX12_isDigit_42 : decode cX12_isDigit 42 = .ok (.iadd, 1) := by decide +kernel
theorem dX12_isDigit_43 : decode cX12_isDigit 43 = .ok (.baload, 1) := by decide +kernel
theorem dX12_isDigit_44 : decode cX12_isDigit 44 = .ok (.bipush 57, 2) := by decide +kernel
theorem dX12_isDigit_46 : decode cX12_isDigit 46 = .ok (.if_icmp .gt 7, 3) := by decide +kernel
theorem dX12_isDigit_49 : decode cX12_isDigit 49 = .ok (.iconst 1, 1) := by decide +kernel
theorem dX12_isDigit_50 : decode cX12_isDigit 50 = .ok (.goto 4, 3) := by decide +kernel
theorem dX12_isDigit_53 : decode cX12_isDigit 53 = .ok (.iconst 0, 1) := by decide +kernel
theorem dX12_isDigit_54 : decode cX12_isDigit 54 = .ok (.ireturn, 1) := by decide +kernel
def fX12_isDigit (k : ST)  : Option (Bool × ST) := if (gI k 11 54) ≤ (gI k 11 55) then some (false, k) else ck (tx_M (gI k 11 52)) (ck (inb ((gI k 11 53) + (gI k 11 55)) (lenA (ix (gI k 11 52) - 12))) (if (gA k (ix (gI k 11 52) - 12) (ix ((gI k 11 53) + (gI k 11 55)))) < 48 then some (false, k) else ck (tx_M (gI k 11 52)) (ck (inb ((gI k 11 53) + (gI k 11 55)) (lenA (ix (gI k 11 52) - 12))) (if 57 < (gA k (ix (gI k 11 52) - 12) (ix ((gI k 11 53) + (gI k 11 55)))) then some (false, k) else some (true, k)))))
set_option maxRecDepth 20000 in
theorem c_X12_isDigit (l : Launch) (g : GT)  : CN l yX12_isDigit cX12_isDigit 1 (some .boolean) { frames := 0, cells := 0, slots := 0, locals := 0 } g TM voB [.ref (g.2.1 11)] (fun k => fX12_isDigit k) := by
  refine cn_of (by decide) (Nat.le_of_ble_eq_true rfl) ?_
  intro p e s m args below meth c hC k
  have hC : HC p s m args meth c cX12_isDigit 1 RX12 (some .boolean) g := hC
  have hR : 0 ≤ ({ frames := 0, cells := 0, slots := 0, locals := 0 } : Room).frames ∧ 0 ≤ ({ frames := 0, cells := 0, slots := 0, locals := 0 } : Room).locals := ⟨Nat.le_refl _, Nat.le_refl _⟩
  show ZF p l e _ s m args below meth c g TM voB 1 k 0 [(0, .ref (g.2.1 11))] [] (fX12_isDigit k)
  unfold fX12_isDigit
  refine zf_aload_n hC dX12_isDigit_0 rfl 0 rfl ?_
  refine gf_1285 hC dX12_isDigit_1 ?_
  refine zf_aload_n hC dX12_isDigit_4 rfl 0 rfl ?_
  refine gf_1284 hC dX12_isDigit_5 ?_
  refine zf_icmp_ge hC (tgt := 53) dX12_isDigit_8 (by decide) (fun h1 => ?_) (fun h1 => ?_)
  · refine zf_iconst hC (v := 0) dX12_isDigit_53 rfl ?_
    exact zf_zret hC rfl false rfl dX12_isDigit_54
  · refine zf_aload_n hC dX12_isDigit_11 rfl 0 rfl ?_
    refine gf_1282 hC dX12_isDigit_12 ?_
    refine zf_aload_n hC dX12_isDigit_15 rfl 0 rfl ?_
    refine gf_1283 hC dX12_isDigit_16 ?_
    refine zf_aload_n hC dX12_isDigit_19 rfl 0 rfl ?_
    refine gf_1285 hC dX12_isDigit_20 ?_
    refine zf_iadd hC dX12_isDigit_23 ?_
    refine zf_bald_t hC dX12_isDigit_24 (fun h2 => ?_)
    refine zf_bipush hC (v := 48) dX12_isDigit_25 rfl ?_
    refine zf_icmp_lt hC (tgt := 53) dX12_isDigit_27 (by decide) (fun h3 => ?_) (fun h3 => ?_)
    · refine zf_iconst hC (v := 0) dX12_isDigit_53 rfl ?_
      exact zf_zret hC rfl false rfl dX12_isDigit_54
    · refine zf_aload_n hC dX12_isDigit_30 rfl 0 rfl ?_
      refine gf_1282 hC dX12_isDigit_31 ?_
      refine zf_aload_n hC dX12_isDigit_34 rfl 0 rfl ?_
      refine gf_1283 hC dX12_isDigit_35 ?_
      refine zf_aload_n hC dX12_isDigit_38 rfl 0 rfl ?_
      refine gf_1285 hC dX12_isDigit_39 ?_
      refine zf_iadd hC dX12_isDigit_42 ?_
      refine zf_bald_t hC dX12_isDigit_43 (fun h4 => ?_)
      refine zf_bipush hC (v := 57) dX12_isDigit_44 rfl ?_
      refine zf_icmp_gt hC (tgt := 53) dX12_isDigit_46 (by decide) (fun h5 => ?_) (fun h5 => ?_)
      · refine zf_iconst hC (v := 0) dX12_isDigit_53 rfl ?_
        exact zf_zret hC rfl false rfl dX12_isDigit_54
      · refine zf_iconst hC (v := 1) dX12_isDigit_49 rfl ?_
        refine zf_goto hC (tgt := 54) dX12_isDigit_50 (by decide) ?_
        exact zf_zret hC rfl true rfl dX12_isDigit_54
/-! LifeKeysModel.number -/
theorem dX12_number_0 : decode cX12_number 0 = .ok (.aload_n 0, 1) := by decide +kernel
theorem dX12_number_1 : decode cX12_number 1 = .ok (.invokevirtual 335, 3) := by decide +kernel
theorem dX12_number_4 : decode cX12_number 4 = .ok (.istore_n 2, 1) := by decide +kernel
theorem dX12_number_5 : decode cX12_number 5 = .ok (.aload_n 0, 1) := by decide +kernel
theorem dX12_number_6 : decode cX12_number 6 = .ok (.invokevirtual 339, 3) := by decide +kernel
theorem dX12_number_9 : decode cX12_number 9 = .ok (.ifCond .ne 8, 3) := by decide +kernel
theorem dX12_number_12 : decode cX12_number 12 = .ok (.aload_n 0, 1) := by decide +kernel
theorem dX12_number_13 : decode cX12_number 13 = .ok (.invokevirtual 331, 3) := by decide +kernel
theorem dX12_number_16 : decode cX12_number 16 = .ok (.pop, 1) := by decide +kernel
theorem dX12_number_17 : decode cX12_number 17 = .ok (.iconst 0, 1) := by decide +kernel
theorem dX12_number_18 : decode cX12_number 18 = .ok (.istore_n 3, 1) := by decide +kernel
theorem dX12_number_19 : decode cX12_number 19 = .ok (.iconst 0, 1) := by decide +kernel
theorem dX12_number_20 : decode cX12_number 20 = .ok (.istore 4, 2) := by decide +kernel
theorem dX12_number_22 : decode cX12_number 22 = .ok (.aload_n 0, 1) := by decide +kernel
theorem dX12_number_23 : decode cX12_number 23 = .ok (.invokevirtual 339, 3) := by decide +kernel
theorem dX12_number_26 : decode cX12_number 26 = .ok (.ifCond .eq 63, 3) := by decide +kernel
theorem dX12_number_29 : decode cX12_number 29 = .ok (.aload_n 0, 1) := by decide +kernel
theorem dX12_number_30 : decode cX12_number 30 = .ok (.getfield 325, 3) := by decide +kernel
theorem dX12_number_33 : decode cX12_number 33 = .ok (.iconst (-1), 1) := by decide +kernel
theorem dX12_number_34 : decode cX12_number 34 = .ok (.if_icmp .ne 55, 3) := by decide +kernel
theorem dX12_number_37 : decode cX12_number 37 = .ok (.iload 4, 2) := by decide +kernel
theorem dX12_number_39 : decode cX12_number 39 = .ok (.iconst 3, 1) := by decide +kernel
theorem dX12_number_40 : decode cX12_number 40 = .ok (.if_icmp .ne 10, 3) := by decide +kernel
theorem dX12_number_43 : decode cX12_number 43 = .ok (.aload_n 0, 1) := by decide +kernel
theorem dX12_number_44 : decode cX12_number 44 = .ok (.invokevirtual 331, 3) := by decide +kernel
theorem dX12_number_47 : decode cX12_number 47 = .ok (.pop, 1) := by decide +kernel
theorem dX12_number_48 : decode cX12_number 48 = .ok (.iconst 0, 1) := by decide +kernel
theorem dX12_number_49 : decode cX12_number 49 = .ok (.ireturn, 1) := by decide +kernel
theorem dX12_number_50 : decode cX12_number 50 = .ok (.bipush 10, 2) := by decide +kernel
theorem dX12_number_52 : decode cX12_number 52 = .ok (.iload_n 3, 1) := by decide +kernel
theorem dX12_number_53 : decode cX12_number 53 = .ok (.imul, 1) := by decide +kernel
theorem dX12_number_54 : decode cX12_number 54 = .ok (.aload_n 0, 1) := by decide +kernel
theorem dX12_number_55 : decode cX12_number 55 = .ok (.getfield 130, 3) := by decide +kernel
theorem dX12_number_58 : decode cX12_number 58 = .ok (.aload_n 0, 1) := by decide +kernel
theorem dX12_number_59 : decode cX12_number 59 = .ok (.getfield 322, 3) := by decide +kernel
theorem dX12_number_62 : decode cX12_number 62 = .ok (.aload_n 0, 1) := by decide +kernel
theorem dX12_number_63 : decode cX12_number 63 = .ok (.getfield 316, 3) := by decide +kernel
theorem dX12_number_66 : decode cX12_number 66 = .ok (.iadd, 1) := by decide +kernel
theorem dX12_number_67 : decode cX12_number 67 = .ok (.baload, 1) := by decide +kernel
theorem dX12_number_68 : decode cX12_number 68 = .ok (.iadd, 1) := by decide +kernel
theorem dX12_number_69 : decode cX12_number 69 = .ok (.bipush 48, 2) := by decide +kernel
theorem dX12_number_71 : decode cX12_number 71 = .ok (.isub, 1) := by decide +kernel
theorem dX12_number_72 : decode cX12_number 72 = .ok (.istore_n 3, 1) := by decide +kernel
theorem dX12_number_73 : decode cX12_number 73 = .ok (.aload_n 0, 1) := by decide +kernel
theorem dX12_number_74 : decode cX12_number 74 = .ok (.dup, 1) := by decide +kernel
theorem dX12_number_75 : decode cX12_number 75 = .ok (.getfield 316, 3) := by decide +kernel
theorem dX12_number_78 : decode cX12_number 78 = .ok (.iconst 1, 1) := by decide +kernel
theorem dX12_number_79 : decode cX12_number 79 = .ok (.iadd, 1) := by decide +kernel
theorem dX12_number_80 : decode cX12_number 80 = .ok (.putfield 316, 3) := by decide +kernel
theorem dX12_number_83 : decode cX12_number 83 = .ok (.iinc 4 1, 3) := by decide +kernel
theorem dX12_number_86 : decode cX12_number 86 = .ok (.goto (-64), 3) := by decide +kernel
theorem dX12_number_89 : decode cX12_number 89 = .ok (.aload_n 0, 1) := by decide +kernel
theorem dX12_number_90 : decode cX12_number 90 = .ok (.getfield 325, 3) := by decide +kernel
theorem dX12_number_93 : decode cX12_number 93 = .ok (.iconst (-1), 1) := by decide +kernel
theorem dX12_number_94 : decode cX12_number 94 = .ok (.if_icmp .ne 23, 3) := by decide +kernel
theorem dX12_number_97 : decode cX12_number 97 = .ok (.iload_n 3, 1) := by decide +kernel
theorem dX12_number_98 : decode cX12_number 98 = .ok (.iload_n 1, 1) := by decide +kernel
theorem dX12_number_99 : decode cX12_number 99 = .ok (.if_icmp .le 18, 3) := by decide +kernel
theorem dX12_number_102 : decode cX12_number 102 = .ok (.aload_n 0, 1) := by decide +kernel
theorem dX12_number_103 : decode cX12_number 103 = .ok (.dup, 1) := by decide +kernel
theorem dX12_number_104 : decode cX12_number 104 = .ok (.getfield 316, 3) := by decide +kernel
theorem dX12_number_107 : decode cX12_number 107 = .ok (.iconst 1, 1) := by decide +kernel
theorem dX12_number_108 : decode cX12_number 108 = .ok (.isub, 1) := by decide +kernel
theorem dX12_number_109 : decode cX12_number 109 = .ok (.putfield 316, 3) := by decide +kernel
theorem dX12_number_112 : decode cX12_number 112 = .ok (.aload_n 0, 1) := by decide +kernel
theorem dX12_number_113 : decode cX12_number 113 = .ok (.invokevirtual 331, 3) := by decide +kernel
theorem dX12_number_116 : decode cX12_number 116 = .ok (.pop, 1) := by decide +kernel
theorem dX12_number_117 : decode cX12_number 117 = .ok (.iload_n 3, 1) := by decide +kernel
theorem dX12_number_118 : decode cX12_number 118 = .ok (.ireturn, 1) := by decide +kernel
def lpX12_number_22 (v1 : Int32) (v2 : Int32) : Nat → Int32 → Int32 → ST → (Int32 → Int32 → ST → Option (Int32 × ST)) → Option (Int32 × ST)
  | 0, _, _, _, _ => none
  | n + 1, v3, v4, k, cont => ob (fX12_isDigit k) fun r8 k9 => if r8 = true then if (gI k9 11 56) = (-1) then if v4 = 3 then ob (fX12_stop k9) fun r14 k15 => some (0, k15) else ck (tx_M (gI k9 11 52)) (ck (inb ((gI k9 11 53) + (gI k9 11 55)) (lenA (ix (gI k9 11 52) - 12))) (nm (((10 * v3) + (gA k9 (ix (gI k9 11 52) - 12) (ix ((gI k9 11 53) + (gI k9 11 55))))) - 48) fun x18 => nm (sI k9 11 55 ((gI k9 11 55) + 1)) fun k19 => lpX12_number_22 v1 v2 n x18 (v4 + 1) k19 cont)) else cont v3 v4 k9 else cont v3 v4 k9
def jbX12_number_89 (v1 : Int32) (v2 : Int32) (v3 : Int32) (v4 : Int32)  (k : ST) : Option (Int32 × ST) := if (gI k 11 56) = (-1) then if v3 ≤ v1 then some (v3, k) else nm (sI k 11 55 ((gI k 11 55) - 1)) fun k25 => ob (fX12_stop k25) fun r26 k27 => some (v3, k27) else some (v3, k)
def jbX12_number_17 (v1 : Int32) (v2 : Int32)  (k : ST) : Option (Int32 × ST) := lpX12_number_22 v1 v2 FU 0 0 k fun y20 y21 k22 => jbX12_number_89 v1 v2 y20 y21 k22
set_option maxRecDepth 20000 in
theorem zlpX12_number_22 {p : Program} {l : Launch} {e : Env} {R : Room} {s : State} {m : MethodId} {args : Array Value} {below : List Frame} {meth : Method} {c : Code} {g : GT} (hC : HC p s m args meth c cX12_number 5 RX12 (some .int) g) (hR : 1 ≤ R.frames ∧ 20 ≤ R.locals)  (v1 : Int32) (v2 : Int32) {cont : Int32 → Int32 → ST → Option (Int32 × ST)} (hk : ∀ (v3 : Int32) (v4 : Int32) (k : ST), ZF p l e R s m args below meth c g TM voI 5 k 89 [(0, .ref (g.2.1 11)), (1, .int v1), (2, .int v2), (3, .int v3), (4, .int v4)] [] (cont v3 v4 k)) : ∀ (n : Nat) (v3 : Int32) (v4 : Int32) (k : ST), ZF p l e R s m args below meth c g TM voI 5 k 22 [(0, .ref (g.2.1 11)), (1, .int v1), (2, .int v2), (3, .int v3), (4, .int v4)] [] (lpX12_number_22 v1 v2 n v3 v4 k cont) := by
  intro n
  induction n with
  | zero => intros; exact zf_none
  | succ n ih =>
    intro v3 v4 k
    rw [lpX12_number_22]
    refine zf_aload_n hC dX12_number_22 rfl 0 rfl ?_
    refine zf_callV hC (c_X12_isDigit l g) mt_X12_isDigit wd_1710 sp_71 ci_11 ic_11 wd_1708 rfl (rm_le hR rfl) rfl rfl (rest := []) rfl (Nat.le_of_ble_eq_true rfl) dX12_number_23 (fun r8 k9 h10 => ?_)
    refine zf_ifb_eq hC (tgt := 89) dX12_number_26 (by decide) (fun h11 => ?_) (fun h11 => ?_)
    · refine zf_aload_n hC dX12_number_29 rfl 0 rfl ?_
      refine gf_1286 hC dX12_number_30 ?_
      refine zf_iconst hC (v := (-1)) dX12_number_33 rfl ?_
      refine zf_icmp_ne hC (tgt := 89) dX12_number_34 (by decide) (fun h12 => ?_) (fun h12 => ?_)
      · refine zf_iload hC dX12_number_37 4 rfl ?_
        refine zf_iconst hC (v := 3) dX12_number_39 rfl ?_
        refine zf_icmp_ne hC (tgt := 50) dX12_number_40 (by decide) (fun h13 => ?_) (fun h13 => ?_)
        · refine zf_aload_n hC dX12_number_43 rfl 0 rfl ?_
          refine zf_callV hC (c_X12_stop l g) mt_X12_stop wd_1698 sp_68 ci_11 ic_11 wd_1696 rfl (rm_le hR rfl) rfl rfl (rest := []) rfl (Nat.le_of_ble_eq_true rfl) dX12_number_44 (fun r14 k15 h16 => ?_)
          refine zf_pop hC dX12_number_47 rfl ?_
          refine zf_iconst hC (v := 0) dX12_number_48 rfl ?_
          exact zf_iret hC rfl dX12_number_49
        · refine zf_bipush hC (v := 10) dX12_number_50 rfl ?_
          refine zf_iload_n hC dX12_number_52 rfl 3 rfl ?_
          refine zf_imul hC dX12_number_53 ?_
          refine zf_aload_n hC dX12_number_54 rfl 0 rfl ?_
          refine gf_1282 hC dX12_number_55 ?_
          refine zf_aload_n hC dX12_number_58 rfl 0 rfl ?_
          refine gf_1283 hC dX12_number_59 ?_
          refine zf_aload_n hC dX12_number_62 rfl 0 rfl ?_
          refine gf_1285 hC dX12_number_63 ?_
          refine zf_iadd hC dX12_number_66 ?_
          refine zf_bald_t hC dX12_number_67 (fun h17 => ?_)
          refine zf_iadd hC dX12_number_68 ?_
          refine zf_bipush hC (v := 48) dX12_number_69 rfl ?_
          refine zf_isub hC dX12_number_71 ?_
          refine zf_nmi (fun x18 => ?_)
          refine zf_istore_n hC (LV' := [(3, .int x18), (0, .ref (g.2.1 11)), (1, .int v1), (2, .int v2), (4, .int v4)]) dX12_number_72 rfl (by decide) rfl ?_
          refine zf_aload_n hC dX12_number_73 rfl 1 rfl ?_
          refine zf_dup hC dX12_number_74 rfl ?_
          refine gf_1285 hC dX12_number_75 ?_
          refine zf_iconst hC (v := 1) dX12_number_78 rfl ?_
          refine zf_iadd hC dX12_number_79 ?_
          refine pf_1285 hC dX12_number_80 ?_
          refine zf_nmk (fun k19 => ?_)
          refine zf_iinc hC (q := 4) (v := v4 + 1) (LV' := [(4, .int (v4 + 1)), (3, .int x18), (0, .ref (g.2.1 11)), (1, .int v1), (2, .int v2)]) dX12_number_83 rfl rfl (by decide) rfl ?_
          refine zf_goto hC (tgt := 22) dX12_number_86 (by decide) ?_
          refine zf_lv (LV' := [(0, .ref (g.2.1 11)), (1, .int v1), (2, .int v2), (3, .int x18), (4, .int (v4 + 1))]) [2, 3, 4, 1, 0] rfl ?_
          exact ih x18 (v4 + 1) k19
      · refine zf_lv (LV' := [(0, .ref (g.2.1 11)), (1, .int v1), (2, .int v2), (3, .int v3), (4, .int v4)]) [0, 1, 2, 3, 4] rfl ?_
        exact hk v3 v4 k9
    · refine zf_lv (LV' := [(0, .ref (g.2.1 11)), (1, .int v1), (2, .int v2), (3, .int v3), (4, .int v4)]) [0, 1, 2, 3, 4] rfl ?_
      exact hk v3 v4 k9
set_option maxRecDepth 20000 in
theorem zjbX12_number_89 {p : Program} {l : Launch} {e : Env} {R : Room} {s : State} {m : MethodId} {args : Array Value} {below : List Frame} {meth : Method} {c : Code} {g : GT} (hC : HC p s m args meth c cX12_number 5 RX12 (some .int) g) (hR : 1 ≤ R.frames ∧ 20 ≤ R.locals)  (v1 : Int32) (v2 : Int32) (v3 : Int32) (v4 : Int32)  (k : ST) : ZF p l e R s m args below meth c g TM voI 5 k 89 [(0, .ref (g.2.1 11)), (1, .int v1), (2, .int v2), (3, .int v3), (4, .int v4)] [] (jbX12_number_89  v1 v2 v3 v4 k) := by
  unfold jbX12_number_89
  refine zf_aload_n hC dX12_number_89 rfl 0 rfl ?_
  refine gf_1286 hC dX12_number_90 ?_
  refine zf_iconst hC (v := (-1)) dX12_number_93 rfl ?_
  refine zf_icmp_ne hC (tgt := 117) dX12_number_94 (by decide) (fun h23 => ?_) (fun h23 => ?_)
  · refine zf_iload_n hC dX12_number_97 rfl 3 rfl ?_
    refine zf_iload_n hC dX12_number_98 rfl 1 rfl ?_
    refine zf_icmp_le hC (tgt := 117) dX12_number_99 (by decide) (fun h24 => ?_) (fun h24 => ?_)
    · refine zf_iload_n hC dX12_number_117 rfl 3 rfl ?_
      exact zf_iret hC rfl dX12_number_118
    · refine zf_aload_n hC dX12_number_102 rfl 0 rfl ?_
      refine zf_dup hC dX12_number_103 rfl ?_
      refine gf_1285 hC dX12_number_104 ?_
      refine zf_iconst hC (v := 1) dX12_number_107 rfl ?_
      refine zf_isub hC dX12_number_108 ?_
      refine pf_1285 hC dX12_number_109 ?_
      refine zf_nmk (fun k25 => ?_)
      refine zf_aload_n hC dX12_number_112 rfl 0 rfl ?_
      refine zf_callV hC (c_X12_stop l g) mt_X12_stop wd_1698 sp_68 ci_11 ic_11 wd_1696 rfl (rm_le hR rfl) rfl rfl (rest := []) rfl (Nat.le_of_ble_eq_true rfl) dX12_number_113 (fun r26 k27 h28 => ?_)
      refine zf_pop hC dX12_number_116 rfl ?_
      refine zf_iload_n hC dX12_number_117 rfl 3 rfl ?_
      exact zf_iret hC rfl dX12_number_118
  · refine zf_iload_n hC dX12_number_117 rfl 3 rfl ?_
    exact zf_iret hC rfl dX12_number_118
set_option maxRecDepth 20000 in
theorem zjbX12_number_17 {p : Program} {l : Launch} {e : Env} {R : Room} {s : State} {m : MethodId} {args : Array Value} {below : List Frame} {meth : Method} {c : Code} {g : GT} (hC : HC p s m args meth c cX12_number 5 RX12 (some .int) g) (hR : 1 ≤ R.frames ∧ 20 ≤ R.locals)  (v1 : Int32) (v2 : Int32)  (k : ST) : ZF p l e R s m args below meth c g TM voI 5 k 17 [(0, .ref (g.2.1 11)), (1, .int v1), (2, .int v2)] [] (jbX12_number_17  v1 v2 k) := by
  unfold jbX12_number_17
  refine zf_iconst hC (v := 0) dX12_number_17 rfl ?_
  refine zf_istore_n hC (LV' := [(3, .int 0), (0, .ref (g.2.1 11)), (1, .int v1), (2, .int v2)]) dX12_number_18 rfl (by decide) rfl ?_
  refine zf_iconst hC (v := 0) dX12_number_19 rfl ?_
  refine zf_istore hC (LV' := [(4, .int 0), (3, .int 0), (0, .ref (g.2.1 11)), (1, .int v1), (2, .int v2)]) dX12_number_20 (by decide) rfl ?_
  refine zf_lv (LV' := [(0, .ref (g.2.1 11)), (1, .int v1), (2, .int v2), (3, .int 0), (4, .int 0)]) [2, 3, 4, 1, 0] rfl ?_
  refine zlpX12_number_22 hC hR v1 v2 (fun y20 y21 k22 => ?_) FU 0 0 k
  exact zjbX12_number_89 hC hR v1 v2 y20 y21 k22
def fX12_number (k : ST) (a0 : Int32) : Option (Int32 × ST) := ob (fX12_look k) fun r1 k2 => ob (fX12_isDigit k2) fun r4 k5 => if r4 = true then jbX12_number_17 a0 r1 k5 else ob (fX12_stop k5) fun r29 k30 => jbX12_number_17 a0 r1 k30
set_option maxRecDepth 20000 in
theorem c_X12_number (l : Launch) (g : GT) (a0 : Int32) : CN l yX12_number cX12_number 5 (some .int) { frames := 1, cells := 0, slots := 0, locals := 20 } g TM voI [.ref (g.2.1 11), .int a0] (fun k => fX12_number k a0) := by
  refine cn_of (by decide) (Nat.le_of_ble_eq_true rfl) ?_
  intro p e s m args below meth c hC k
  have hC : HC p s m args meth c cX12_number 5 RX12 (some .int) g := hC
  have hR : 1 ≤ ({ frames := 1, cells := 0, slots := 0, locals := 20 } : Room).frames ∧ 20 ≤ ({ frames := 1, cells := 0, slots := 0, locals := 20 } : Room).locals := ⟨Nat.le_refl _, Nat.le_refl _⟩
  show ZF p l e _ s m args below meth c g TM voI 5 k 0 [(0, .ref (g.2.1 11)), (1, .int a0)] [] (fX12_number k a0)
  unfold fX12_number
  refine zf_aload_n hC dX12_number_0 rfl 0 rfl ?_
  refine zf_callV hC (c_X12_look l g) mt_X12_look wd_1690 sp_66 ci_11 ic_11 wd_1688 rfl (rm_le hR rfl) rfl rfl (rest := []) rfl (Nat.le_of_ble_eq_true rfl) dX12_number_1 (fun r1 k2 h3 => ?_)
  refine zf_istore_n hC (LV' := [(2, .int r1), (0, .ref (g.2.1 11)), (1, .int a0)]) dX12_number_4 rfl (by decide) rfl ?_
  refine zf_aload_n hC dX12_number_5 rfl 1 rfl ?_
  refine zf_callV hC (c_X12_isDigit l g) mt_X12_isDigit wd_1710 sp_71 ci_11 ic_11 wd_1708 rfl (rm_le hR rfl) rfl rfl (rest := []) rfl (Nat.le_of_ble_eq_true rfl) dX12_number_6 (fun r4 k5 h6 => ?_)
  refine zf_ifb_ne hC (tgt := 17) dX12_number_9 (by decide) (fun h7 => ?_) (fun h7 => ?_)
  · refine zf_lv (LV' := [(0, .ref (g.2.1 11)), (1, .int a0), (2, .int r1)]) [1, 2, 0] rfl ?_
    exact zjbX12_number_17 hC hR a0 r1 k5
  · refine zf_aload_n hC dX12_number_12 rfl 1 rfl ?_
    refine zf_callV hC (c_X12_stop l g) mt_X12_stop wd_1698 sp_68 ci_11 ic_11 wd_1696 rfl (rm_le hR rfl) rfl rfl (rest := []) rfl (Nat.le_of_ble_eq_true rfl) dX12_number_13 (fun r29 k30 h31 => ?_)
    refine zf_pop hC dX12_number_16 rfl ?_
    refine zf_lv (LV' := [(0, .ref (g.2.1 11)), (1, .int a0), (2, .int r1)]) [1, 2, 0] rfl ?_
    exact zjbX12_number_17 hC hR a0 r1 k30
