/-! LifeKeysModel.sign -/
theorem dX12_sign_0 : decode cX12_sign 0 = .ok (.aload_n 0, 1) := by decide +kernel
theorem dX12_sign_1 : decode cX12_sign 1 = .ok (.iconst 0, 1) := by decide +kernel
theorem dX12_sign_2 : decode cX12_sign 2 = .ok (.putfield 181, 3) := by decide +kernel
theorem dX12_sign_5 : decode cX12_sign 5 = .ok (.aload_n 0, 1) := by decide +kernel
theorem dX12_sign_6 : decode cX12_sign 6 = .ok (.getfield 428, 3) := by decide +kernel
theorem dX12_sign_9 : decode cX12_sign 9 = .ok (.bipush 80, 2) := by decide +kernel
theorem dX12_sign_11 : decode cX12_sign 11 = .ok (.if_icmp .eq 67, 3) := by decide +kernel
theorem dX12_sign_14 : decode cX12_sign 14 = .ok (.aload_n 0, 1) := by decide +kernel
theorem dX12_sign_15 : decode cX12_sign 15 = .ok (.iload_n 1, 1) := by decide +kernel
theorem dX12_sign_16 : decode cX12_sign 16 = .ok (.invokevirtual 226, 3) := by decide +kernel
theorem dX12_sign_19 : decode cX12_sign 19 = .ok (.ifCond .eq 59, 3) := by decide +kernel
theorem dX12_sign_22 : decode cX12_sign 22 = .ok (.aload_n 0, 1) := by decide +kernel
theorem dX12_sign_23 : decode cX12_sign 23 = .ok (.iload_n 2, 1) := by decide +kernel
theorem dX12_sign_24 : decode cX12_sign 24 = .ok (.invokevirtual 216, 3) := by decide +kernel
theorem dX12_sign_27 : decode cX12_sign 27 = .ok (.ifCond .eq 51, 3) := by decide +kernel
theorem dX12_sign_30 : decode cX12_sign 30 = .ok (.aload_n 0, 1) := by decide +kernel
theorem dX12_sign_31 : decode cX12_sign 31 = .ok (.iload_n 3, 1) := by decide +kernel
theorem dX12_sign_32 : decode cX12_sign 32 = .ok (.invokevirtual 409, 3) := by decide +kernel
theorem dX12_sign_35 : decode cX12_sign 35 = .ok (.ifCond .eq 43, 3) := by decide +kernel
theorem dX12_sign_38 : decode cX12_sign 38 = .ok (.iload 4, 2) := by decide +kernel
theorem dX12_sign_40 : decode cX12_sign 40 = .ok (.iconst 1, 1) := by decide +kernel
theorem dX12_sign_41 : decode cX12_sign 41 = .ok (.sipush 1018, 3) := by decide +kernel
theorem dX12_sign_44 : decode cX12_sign 44 = .ok (.invokestatic 188, 3) := by decide +kernel
theorem dX12_sign_47 : decode cX12_sign 47 = .ok (.ifCond .eq 31, 3) := by decide +kernel
theorem dX12_sign_50 : decode cX12_sign 50 = .ok (.aload_n 0, 1) := by decide +kernel
theorem dX12_sign_51 : decode cX12_sign 51 = .ok (.iload_n 2, 1) := by decide +kernel
theorem dX12_sign_52 : decode cX12_sign 52 = .ok (.invokevirtual 438, 3) := by decide +kernel
theorem dX12_sign_55 : decode cX12_sign 55 = .ok (.ifCond .eq 23, 3) := by decide +kernel
theorem dX12_sign_58 : decode cX12_sign 58 = .ok (.aload_n 0, 1) := by decide +kernel
theorem dX12_sign_59 : decode cX12_sign 59 = .ok (.iconst 1, 1) := by decide +kernel
theorem dX12_sign_60 : decode cX12_sign 60 = .ok (.iload_n 1, 1) := by decide +kernel
theorem dX12_sign_61 : decode cX12_sign 61 = .ok (.ishl, 1) := by decide +kernel
theorem dX12_sign_62 : decode cX12_sign 62 = .ok (.aload_n 0, 1) := by decide +kernel
theorem dX12_sign_63 : decode cX12_sign 63 = .ok (.getfield 185, 3) := by decide +kernel
theorem dX12_sign_66 : decode cX12_sign 66 = .ok (.invokevirtual 310, 3) := by decide +kernel
theorem dX12_sign_69 : decode cX12_sign 69 = .ok (.iload_n 2, 1) := by decide +kernel
theorem dX12_sign_70 : decode cX12_sign 70 = .ok (.lshr, 1) := by decide +kernel
theorem dX12_sign_71 : decode cX12_sign 71 = .ok (.lconst 1, 1) := by decide +kernel
theorem dX12_sign_72 : decode cX12_sign 72 = .ok (.land, 1) := by decide +kernel
theorem dX12_sign_73 : decode cX12_sign 73 = .ok (.lconst 0, 1) := by decide +kernel
theorem dX12_sign_74 : decode cX12_sign 74 = .ok (.lcmp, 1) := by decide +kernel
theorem dX12_sign_75 : decode cX12_sign 75 = .ok (.ifCond .ne 5, 3) := by decide +kernel
theorem dX12_sign_78 : decode cX12_sign 78 = .ok (.iconst (-1), 1) := by decide +kernel
theorem dX12_sign_79 : decode cX12_sign 79 = .ok (.ireturn, 1) := by decide +kernel
theorem dX12_sign_80 : decode cX12_sign 80 = .ok (.aload_n 0, 1) := by decide +kernel
theorem dX12_sign_81 : decode cX12_sign 81 = .ok (.iload_n 2, 1) := by decide +kernel
theorem dX12_sign_82 : decode cX12_sign 82 = .ok (.iload_n 3, 1) := by decide +kernel
theorem dX12_sign_83 : decode cX12_sign 83 = .ok (.iload 4, 2) := by decide +kernel
theorem dX12_sign_85 : decode cX12_sign 85 = .ok (.invokevirtual 441, 3) := by decide +kernel
theorem dX12_sign_88 : decode cX12_sign 88 = .ok (.ireturn, 1) := by decide +kernel
def fX12_sign (k : ST) (a0 : Int32) (a1 : Int32) (a2 : Int32) (a3 : Int32) : Option (Int32 × ST) := nm (sI k 11 0 0) fun k1 => if (gI k1 11 77) = 80 then some ((-1), k1) else ob (fX12_isHolder k1 a0) fun r3 k4 => if r3 = true then ob (fX12_isKey k4 a1) fun r7 k8 => if r7 = true then ob (fX12_isThing k8 a2) fun r11 k12 => if r11 = true then ob (fX12_isIn k12 a3 1 1018) fun r15 k16 => if r15 = true then ob (fX12_maySign k16 a1) fun r19 k20 => if r19 = true then ob (fX12_gets k20 (j_shl 1 a0) (gI k20 11 1)) fun r23 k24 => if ((j_lshr r23 a1) &&& 1) = 0 then some ((-1), k24) else ob (fX12_signs k24 a1 a2 a3) fun r27 k28 => some (r27, k28) else some ((-1), k20) else some ((-1), k16) else some ((-1), k12) else some ((-1), k8) else some ((-1), k4)
set_option maxRecDepth 20000 in
theorem c_X12_sign (l : Launch) (g : GT) (a0 : Int32) (a1 : Int32) (a2 : Int32) (a3 : Int32) : CN l yX12_sign cX12_sign 5 (some .int) { frames := 3, cells := 0, slots := 0, locals := 74 } g TM voI [.ref (g.2.1 11), .int a0, .int a1, .int a2, .int a3] (fun k => fX12_sign k a0 a1 a2 a3) := by
  refine cn_of (by decide) (Nat.le_of_ble_eq_true rfl) ?_
  intro p e s m args below meth c hC k
  have hC : HC p s m args meth c cX12_sign 5 RX12 (some .int) g := hC
  have hR : 3 ≤ ({ frames := 3, cells := 0, slots := 0, locals := 74 } : Room).frames ∧ 74 ≤ ({ frames := 3, cells := 0, slots := 0, locals := 74 } : Room).locals := ⟨Nat.le_refl _, Nat.le_refl _⟩
  show ZF p l e _ s m args below meth c g TM voI 5 k 0 [(0, .ref (g.2.1 11)), (1, .int a0), (2, .int a1), (3, .int a2), (4, .int a3)] [] (fX12_sign k a0 a1 a2 a3)
  unfold fX12_sign
  refine zf_aload_n hC dX12_sign_0 rfl 0 rfl ?_
  refine zf_iconst hC (v := 0) dX12_sign_1 rfl ?_
  refine pf_1230 hC dX12_sign_2 ?_
  refine zf_nmk (fun k1 => ?_)
  refine zf_aload_n hC dX12_sign_5 rfl 0 rfl ?_
  refine gf_1307 hC dX12_sign_6 ?_
  refine zf_bipush hC (v := 80) dX12_sign_9 rfl ?_
  refine zf_icmp_eq hC (tgt := 78) dX12_sign_11 (by decide) (fun h2 => ?_) (fun h2 => ?_)
  · refine zf_iconst hC (v := (-1)) dX12_sign_78 rfl ?_
    exact zf_iret hC rfl dX12_sign_79
  · refine zf_aload_n hC dX12_sign_14 rfl 0 rfl ?_
    refine zf_iload_n hC dX12_sign_15 rfl 1 rfl ?_
    refine zf_callV hC (c_X12_isHolder l g a0) mt_X12_isHolder wd_1552 sp_49 ci_11 ic_11 wd_1550 rfl (rm_le hR rfl) rfl rfl (rest := []) rfl (Nat.le_of_ble_eq_true rfl) dX12_sign_16 (fun r3 k4 h5 => ?_)
    refine zf_ifb_eq hC (tgt := 78) dX12_sign_19 (by decide) (fun h6 => ?_) (fun h6 => ?_)
    · refine zf_aload_n hC dX12_sign_22 rfl 0 rfl ?_
      refine zf_iload_n hC dX12_sign_23 rfl 2 rfl ?_
      refine zf_callV hC (c_X12_isKey l g a1) mt_X12_isKey wd_1530 sp_47 ci_11 ic_11 wd_1528 rfl (rm_le hR rfl) rfl rfl (rest := []) rfl (Nat.le_of_ble_eq_true rfl) dX12_sign_24 (fun r7 k8 h9 => ?_)
      refine zf_ifb_eq hC (tgt := 78) dX12_sign_27 (by decide) (fun h10 => ?_) (fun h10 => ?_)
      · refine zf_aload_n hC dX12_sign_30 rfl 0 rfl ?_
        refine zf_iload_n hC dX12_sign_31 rfl 3 rfl ?_
        refine zf_callV hC (c_X12_isThing l g a2) mt_X12_isThing wd_1743 sp_75 ci_11 ic_11 wd_1741 rfl (rm_le hR rfl) rfl rfl (rest := []) rfl (Nat.le_of_ble_eq_true rfl) dX12_sign_32 (fun r11 k12 h13 => ?_)
        refine zf_ifb_eq hC (tgt := 78) dX12_sign_35 (by decide) (fun h14 => ?_) (fun h14 => ?_)
        · refine zf_iload hC dX12_sign_38 4 rfl ?_
          refine zf_iconst hC (v := 1) dX12_sign_40 rfl ?_
          refine zf_sipush hC (v := 1018) dX12_sign_41 rfl ?_
          refine zf_callS hC (c_X12_isIn l g TM a3 1 1018) mt_X12_isIn wd_1495 wd_1494 rfl (rm_le hR rfl) rfl rfl (rest := []) rfl (Nat.le_of_ble_eq_true rfl) dX12_sign_44 (fun r15 k16 h17 => ?_)
          refine zf_ifb_eq hC (tgt := 78) dX12_sign_47 (by decide) (fun h18 => ?_) (fun h18 => ?_)
          · refine zf_aload_n hC dX12_sign_50 rfl 0 rfl ?_
            refine zf_iload_n hC dX12_sign_51 rfl 2 rfl ?_
            refine zf_callV hC (c_X12_maySign l g a1) mt_X12_maySign wd_1790 sp_80 ci_11 ic_11 wd_1788 rfl (rm_le hR rfl) rfl rfl (rest := []) rfl (Nat.le_of_ble_eq_true rfl) dX12_sign_52 (fun r19 k20 h21 => ?_)
            refine zf_ifb_eq hC (tgt := 78) dX12_sign_55 (by decide) (fun h22 => ?_) (fun h22 => ?_)
            · refine zf_aload_n hC dX12_sign_58 rfl 0 rfl ?_
              refine zf_iconst hC (v := 1) dX12_sign_59 rfl ?_
              refine zf_iload_n hC dX12_sign_60 rfl 1 rfl ?_
              refine zf_ishl hC dX12_sign_61 ?_
              refine zf_aload_n hC dX12_sign_62 rfl 0 rfl ?_
              refine gf_1231 hC dX12_sign_63 ?_
              refine zf_callV hC (c_X12_gets l g (j_shl 1 a0) (gI k20 11 1)) mt_X12_gets wd_1649 sp_57 ci_11 ic_11 wd_1647 rfl (rm_le hR rfl) rfl rfl (rest := []) rfl (Nat.le_of_ble_eq_true rfl) dX12_sign_66 (fun r23 k24 h25 => ?_)
              refine zf_iload_n hC dX12_sign_69 rfl 2 rfl ?_
              refine zf_lshr hC dX12_sign_70 ?_
              refine zf_lconst hC (v := 1) dX12_sign_71 rfl ?_
              refine zf_land hC dX12_sign_72 ?_
              refine zf_lconst hC (v := 0) dX12_sign_73 rfl ?_
              refine zf_lcmp_ne hC (tgt := 80) dX12_sign_74 dX12_sign_75 (by decide) (fun h26 => ?_) (fun h26 => ?_)
              · refine zf_iconst hC (v := (-1)) dX12_sign_78 rfl ?_
                exact zf_iret hC rfl dX12_sign_79
              · refine zf_aload_n hC dX12_sign_80 rfl 0 rfl ?_
                refine zf_iload_n hC dX12_sign_81 rfl 2 rfl ?_
                refine zf_iload_n hC dX12_sign_82 rfl 3 rfl ?_
                refine zf_iload hC dX12_sign_83 4 rfl ?_
                refine zf_callV hC (c_X12_signs l g a1 a2 a3) mt_X12_signs wd_1798 sp_82 ci_11 ic_11 wd_1796 rfl (rm_le hR rfl) rfl rfl (rest := []) rfl (Nat.le_of_ble_eq_true rfl) dX12_sign_85 (fun r27 k28 h29 => ?_)
                exact zf_iret hC rfl dX12_sign_88
            · refine zf_iconst hC (v := (-1)) dX12_sign_78 rfl ?_
              exact zf_iret hC rfl dX12_sign_79
          · refine zf_iconst hC (v := (-1)) dX12_sign_78 rfl ?_
            exact zf_iret hC rfl dX12_sign_79
        · refine zf_iconst hC (v := (-1)) dX12_sign_78 rfl ?_
          exact zf_iret hC rfl dX12_sign_79
      · refine zf_iconst hC (v := (-1)) dX12_sign_78 rfl ?_
        exact zf_iret hC rfl dX12_sign_79
    · refine zf_iconst hC (v := (-1)) dX12_sign_78 rfl ?_
      exact zf_iret hC rfl dX12_sign_79
/-! LifeKeysModel.falsely -/
theorem dX12_falsely_0 : decode cX12_falsely 0 = .ok (.aload_n 0, 1) := by decide +kernel
theorem dX12_falsely_1 : decode cX12_falsely 1 = .ok (.iconst 0, 1) := by decide +kernel
theorem dX12_falsely_2 : decode cX12_falsely 2 = .ok (.putfield 181, 3) := by decide +kernel
theorem dX12_falsely_5 : decode cX12_falsely 5 = .ok (.aload_n 0, 1) := by decide +kernel
theorem dX12_falsely_6 : decode cX12_falsely 6 = .ok (.iload_n 1, 1) := by decide +kernel
theorem dX12_falsely_7 : decode cX12_falsely 7 = .ok (.invokevirtual 226, 3) := by decide +kernel
theorem dX12_falsely_10 : decode cX12_falsely 10 = .ok (.ifCond .eq 13, 3) := by decide +kernel
theorem dX12_falsely_13 : decode cX12_falsely 13 = .ok (.aload_n 0, 1) := by decide +kernel
theorem dX12_falsely_14 : decode cX12_falsely 14 = .ok (.getfield 38, 3) := by decide +kernel
theorem dX12_falsely_17 : decode cX12_falsely 17 = .ok (.iload_n 1, 1) := by decide +kernel
theorem dX12_falsely_18 : decode cX12_falsely 18 = .ok (.baload, 1) := by decide +kernel
theorem dX12_falsely_19 : decode cX12_falsely 19 = .ok (.iload_n 2, 1) := by decide +kernel
theorem dX12_falsely_20 : decode cX12_falsely 20 = .ok (.if_icmp .ne 5, 3) := by decide +kernel
theorem dX12_falsely_23 : decode cX12_falsely 23 = .ok (.iconst 0, 1) := by decide +kernel
theorem dX12_falsely_24 : decode cX12_falsely 24 = .ok (.ireturn, 1) := by decide +kernel
theorem dX12_falsely_25 : decode cX12_falsely 25 = .ok (.aload_n 0, 1) := by decide +kernel
theorem dX12_falsely_26 : decode cX12_falsely 26 = .ok (.getfield 38, 3) := by decide +kernel
theorem dX12_falsely_29 : decode cX12_falsely 29 = .ok (.iload_n 1, 1) := by decide +kernel
theorem dX12_falsely_30 : decode cX12_falsely 30 = .ok (.iload_n 2, 1) := by decide +kernel
theorem dX12_falsely_31 : decode cX12_falsely 31 = .ok (.bastore, 1) := by decide +kernel
theorem dX12_falsely_32 : decode cX12_falsely 32 = .ok (.iconst 1, 1) := by decide +kernel
theorem dX12_falsely_33 : decode cX12_falsely 33 = .ok (.ireturn, 1) := by decide +kernel
def fX12_falsely (k : ST) (a0 : Int32) (a1 : Bool) : Option (Bool × ST) := nm (sI k 11 0 0) fun k1 => ob (fX12_isHolder k1 a0) fun r2 k3 => if r2 = true then ck (inb a0 12) (if (gA k3 108 (ix a0)) = (b2i a1) then some (false, k3) else ck (inb a0 12) (nm (sA k3 108 (ix a0) (b2i a1)) fun k9 => some (true, k9))) else some (false, k3)
set_option maxRecDepth 20000 in
theorem c_X12_falsely (l : Launch) (g : GT) (a0 : Int32) (a1 : Bool) : CN l yX12_falsely cX12_falsely 3 (some .boolean) { frames := 1, cells := 0, slots := 0, locals := 21 } g TM voB [.ref (g.2.1 11), .int a0, .int (b2i a1)] (fun k => fX12_falsely k a0 a1) := by
  refine cn_of (by decide) (Nat.le_of_ble_eq_true rfl) ?_
  intro p e s m args below meth c hC k
  have hC : HC p s m args meth c cX12_falsely 3 RX12 (some .boolean) g := hC
  have hR : 1 ≤ ({ frames := 1, cells := 0, slots := 0, locals := 21 } : Room).frames ∧ 21 ≤ ({ frames := 1, cells := 0, slots := 0, locals := 21 } : Room).locals := ⟨Nat.le_refl _, Nat.le_refl _⟩
  show ZF p l e _ s m args below meth c g TM voB 3 k 0 [(0, .ref (g.2.1 11)), (1, .int a0), (2, .int (b2i a1))] [] (fX12_falsely k a0 a1)
  unfold fX12_falsely
  refine zf_aload_n hC dX12_falsely_0 rfl 0 rfl ?_
  refine zf_iconst hC (v := 0) dX12_falsely_1 rfl ?_
  refine pf_1230 hC dX12_falsely_2 ?_
  refine zf_nmk (fun k1 => ?_)
  refine zf_aload_n hC dX12_falsely_5 rfl 0 rfl ?_
  refine zf_iload_n hC dX12_falsely_6 rfl 1 rfl ?_
  refine zf_callV hC (c_X12_isHolder l g a0) mt_X12_isHolder wd_1552 sp_49 ci_11 ic_11 wd_1550 rfl (rm_le hR rfl) rfl rfl (rest := []) rfl (Nat.le_of_ble_eq_true rfl) dX12_falsely_7 (fun r2 k3 h4 => ?_)
  refine zf_ifb_eq hC (tgt := 23) dX12_falsely_10 (by decide) (fun h5 => ?_) (fun h5 => ?_)
  · refine zf_aload_n hC dX12_falsely_13 rfl 0 rfl ?_
    refine gf_1241 hC dX12_falsely_14 ?_
    refine zf_iload_n hC dX12_falsely_17 rfl 1 rfl ?_
    refine zf_zald hC (j := 108) ia_108 rfl rfl dX12_falsely_18 (fun h6 => ?_)
    refine zf_iload_n hC dX12_falsely_19 rfl 2 rfl ?_
    refine zf_icmp_ne hC (tgt := 25) dX12_falsely_20 (by decide) (fun h7 => ?_) (fun h7 => ?_)
    · refine zf_iconst hC (v := 0) dX12_falsely_23 rfl ?_
      exact zf_zret hC rfl false rfl dX12_falsely_24
    · refine zf_aload_n hC dX12_falsely_25 rfl 0 rfl ?_
      refine gf_1241 hC dX12_falsely_26 ?_
      refine zf_iload_n hC dX12_falsely_29 rfl 1 rfl ?_
      refine zf_iload_n hC dX12_falsely_30 rfl 2 rfl ?_
      refine zf_zast hC (j := 108) ia_108 rfl rfl (nar_b _) dX12_falsely_31 (fun h8 => ?_)
      refine zf_nmk (fun k9 => ?_)
      refine zf_iconst hC (v := 1) dX12_falsely_32 rfl ?_
      exact zf_zret hC rfl true rfl dX12_falsely_33
  · refine zf_iconst hC (v := 0) dX12_falsely_23 rfl ?_
    exact zf_zret hC rfl false rfl dX12_falsely_24
/-! LifeKeysModel.several -/
theorem dX12_several_0 : decode cX12_several 0 = .ok (.aload_n 0, 1) := by decide +kernel
theorem dX12_several_1 : decode cX12_several 1 = .ok (.iconst 0, 1) := by decide +kernel
theorem dX12_several_2 : decode cX12_several 2 = .ok (.putfield 181, 3) := by decide +kernel
theorem dX12_several_5 : decode cX12_several 5 = .ok (.aload_n 0, 1) := by decide +kernel
theorem dX12_several_6 : decode cX12_several 6 = .ok (.getfield 428, 3) := by decide +kernel
theorem dX12_several_9 : decode cX12_several 9 = .ok (.bipush 80, 2) := by decide +kernel
theorem dX12_several_11 : decode cX12_several 11 = .ok (.if_icmp .eq 79, 3) := by decide +kernel
theorem dX12_several_14 : decode cX12_several 14 = .ok (.aload_n 0, 1) := by decide +kernel
theorem dX12_several_15 : decode cX12_several 15 = .ok (.iload_n 1, 1) := by decide +kernel
theorem dX12_several_16 : decode cX12_several 16 = .ok (.invokevirtual 267, 3) := by decide +kernel
theorem dX12_several_19 : decode cX12_several 19 = .ok (.ifCond .eq 71, 3) := by decide +kernel
theorem dX12_several_22 : decode cX12_several 22 = .ok (.aload_n 0, 1) := by decide +kernel
theorem dX12_several_23 : decode cX12_several 23 = .ok (.iload_n 1, 1) := by decide +kernel
theorem dX12_several_24 : decode cX12_several 24 = .ok (.aload_n 0, 1) := by decide +kernel
theorem dX12_several_25 : decode cX12_several 25 = .ok (.getfield 185, 3) := by decide +kernel
theorem dX12_several_28 : decode cX12_several 28 = .ok (.invokevirtual 294, 3) := by decide +kernel
theorem dX12_several_31 : decode cX12_several 31 = .ok (.ifCond .eq 59, 3) := by decide +kernel
theorem dX12_several_34 : decode cX12_several 34 = .ok (.aload_n 0, 1) := by decide +kernel
theorem dX12_several_35 : decode cX12_several 35 = .ok (.iload_n 2, 1) := by decide +kernel
theorem dX12_several_36 : decode cX12_several 36 = .ok (.iconst 1, 1) := by decide +kernel
theorem dX12_several_37 : decode cX12_several 37 = .ok (.invokevirtual 254, 3) := by decide +kernel
theorem dX12_several_40 : decode cX12_several 40 = .ok (.ifCond .eq 50, 3) := by decide +kernel
theorem dX12_several_43 : decode cX12_several 43 = .ok (.iload_n 2, 1) := by decide +kernel
theorem dX12_several_44 : decode cX12_several 44 = .ok (.aload_n 0, 1) := by decide +kernel
theorem dX12_several_45 : decode cX12_several 45 = .ok (.getfield 60, 3) := by decide +kernel
theorem dX12_several_48 : decode cX12_several 48 = .ok (.iload_n 1, 1) := by decide +kernel
theorem dX12_several_49 : decode cX12_several 49 = .ok (.iaload, 1) := by decide +kernel
theorem dX12_several_50 : decode cX12_several 50 = .ok (.iconst (-1), 1) := by decide +kernel
theorem dX12_several_51 : decode cX12_several 51 = .ok (.ixor, 1) := by decide +kernel
theorem dX12_several_52 : decode cX12_several 52 = .ok (.iand, 1) := by decide +kernel
theorem dX12_several_53 : decode cX12_several 53 = .ok (.ifCond .ne 37, 3) := by decide +kernel
theorem dX12_several_56 : decode cX12_several 56 = .ok (.iload_n 2, 1) := by decide +kernel
theorem dX12_several_57 : decode cX12_several 57 = .ok (.invokestatic 258, 3) := by decide +kernel
theorem dX12_several_60 : decode cX12_several 60 = .ok (.aload_n 0, 1) := by decide +kernel
theorem dX12_several_61 : decode cX12_several 61 = .ok (.getfield 63, 3) := by decide +kernel
theorem dX12_several_64 : decode cX12_several 64 = .ok (.iload_n 1, 1) := by decide +kernel
theorem dX12_several_65 : decode cX12_several 65 = .ok (.iaload, 1) := by decide +kernel
theorem dX12_several_66 : decode cX12_several 66 = .ok (.if_icmp .lt 24, 3) := by decide +kernel
theorem dX12_several_69 : decode cX12_several 69 = .ok (.aload_n 0, 1) := by decide +kernel
theorem dX12_several_70 : decode cX12_several 70 = .ok (.iload_n 3, 1) := by decide +kernel
theorem dX12_several_71 : decode cX12_several 71 = .ok (.invokevirtual 409, 3) := by decide +kernel
theorem dX12_several_74 : decode cX12_several 74 = .ok (.ifCond .eq 16, 3) := by decide +kernel
theorem dX12_several_77 : decode cX12_several 77 = .ok (.aload_n 0, 1) := by decide +kernel
theorem dX12_several_78 : decode cX12_several 78 = .ok (.aload_n 0, 1) := by decide +kernel
theorem dX12_several_79 : decode cX12_several 79 = .ok (.getfield 57, 3) := by decide +kernel
theorem dX12_several_82 : decode cX12_several 82 = .ok (.iload_n 1, 1) := by decide +kernel
theorem dX12_several_83 : decode cX12_several 83 = .ok (.iaload, 1) := by decide +kernel
theorem dX12_several_84 : decode cX12_several 84 = .ok (.invokevirtual 438, 3) := by decide +kernel
theorem dX12_several_87 : decode cX12_several 87 = .ok (.ifCond .ne 5, 3) := by decide +kernel
theorem dX12_several_90 : decode cX12_several 90 = .ok (.iconst (-1), 1) := by decide +kernel
theorem dX12_several_91 : decode cX12_several 91 = .ok (.ireturn, 1) := by decide +kernel
theorem dX12_several_92 : decode cX12_several 92 = .ok (.lload 4, 2) := by decide +kernel
theorem dX12_several_94 : decode cX12_several 94 = .ok (.lstore 6, 2) := by decide +kernel
theorem dX12_several_96 : decode cX12_several 96 = .ok (.iconst 1, 1) := by decide +kernel
theorem dX12_several_97 : decode cX12_several 97 = .ok (.istore 8, 2) := by decide +kernel
theorem dX12_several_99 : decode cX12_several 99 = .ok (.iconst 0, 1) := by decide +kernel
theorem dX12_several_100 : decode cX12_several 100 = .ok (.istore 9, 2) := by decide +kernel
theorem dX12_several_102 : decode cX12_several 102 = .ok (.iconst 0, 1) := by decide +kernel
theorem dX12_several_103 : decode cX12_several 103 = .ok (.istore 10, 2) := by decide +kernel
theorem dX12_several_105 : decode cX12_several 105 = .ok (.iload 10, 2) := by decide +kernel
theorem dX12_several_107 : decode cX12_several 107 = .ok (.aload_n 0, 1) := by decide +kernel
theorem dX12_several_108 : decode cX12_several 108 = .ok (.getfield 196, 3) := by decide +kernel
theorem dX12_several_111 : decode cX12_several 111 = .ok (.if_icmp .ge 50, 3) := by decide +kernel
theorem dX12_several_114 : decode cX12_several 114 = .ok (.iload_n 2, 1) := by decide +kernel
theorem dX12_several_115 : decode cX12_several 115 = .ok (.iload 10, 2) := by decide +kernel
theorem dX12_several_117 : decode cX12_several 117 = .ok (.ishr, 1) := by decide +kernel
theorem dX12_several_118 : decode cX12_several 118 = .ok (.iconst 1, 1) := by decide +kernel
theorem dX12_several_119 : decode cX12_several 119 = .ok (.iand, 1) := by decide +kernel
theorem dX12_several_120 : decode cX12_several 120 = .ok (.ifCond .ne 6, 3) := by decide +kernel
theorem dX12_several_123 : decode cX12_several 123 = .ok (.goto 32, 3) := by decide +kernel
theorem dX12_several_126 : decode cX12_several 126 = .ok (.lload 6, 2) := by decide +kernel
theorem dX12_several_128 : decode cX12_several 128 = .ok (.invokestatic 246, 3) := by decide +kernel
theorem dX12_several_131 : decode cX12_several 131 = .ok (.lstore 6, 2) := by decide +kernel
theorem dX12_several_133 : decode cX12_several 133 = .ok (.iload 8, 2) := by decide +kernel
theorem dX12_several_135 : decode cX12_several 135 = .ok (.lload 6, 2) := by decide +kernel
theorem dX12_several_137 : decode cX12_several 137 = .ok (.sipush 1018, 3) := by decide +kernel
theorem dX12_several_140 : decode cX12_several 140 = .ok (.invokestatic 250, 3) := by decide +kernel
theorem dX12_several_143 : decode cX12_several 143 = .ok (.iconst 1, 1) := by decide +kernel
theorem dX12_several_144 : decode cX12_several 144 = .ok (.iadd, 1) := by decide +kernel
theorem dX12_several_145 : decode cX12_several 145 = .ok (.invokestatic 220, 3) := by decide +kernel
theorem dX12_several_148 : decode cX12_several 148 = .ok (.imul, 1) := by decide +kernel
theorem dX12_several_149 : decode cX12_several 149 = .ok (.sipush 2039, 3) := by decide +kernel
theorem dX12_several_152 : decode cX12_several 152 = .ok (.irem, 1) := by decide +kernel
theorem dX12_several_153 : decode cX12_several 153 = .ok (.istore 8, 2) := by decide +kernel
theorem dX12_several_155 : decode cX12_several 155 = .ok (.iinc 10 1, 3) := by decide +kernel
theorem dX12_several_158 : decode cX12_several 158 = .ok (.goto (-53), 3) := by decide +kernel
theorem dX12_several_161 : decode cX12_several 161 = .ok (.iload 8, 2) := by decide +kernel
theorem dX12_several_163 : decode cX12_several 163 = .ok (.aload_n 0, 1) := by decide +kernel
theorem dX12_several_164 : decode cX12_several 164 = .ok (.getfield 100, 3) := by decide +kernel
theorem dX12_several_167 : decode cX12_several 167 = .ok (.iload_n 3, 1) := by decide +kernel
theorem dX12_several_168 : decode cX12_several 168 = .ok (.iaload, 1) := by decide +kernel
theorem dX12_several_169 : decode cX12_several 169 = .ok (.invokestatic 431, 3) := by decide +kernel
theorem dX12_several_172 : decode cX12_several 172 = .ok (.istore 10, 2) := by decide +kernel
theorem dX12_several_174 : decode cX12_several 174 = .ok (.iconst 0, 1) := by decide +kernel
theorem dX12_several_175 : decode cX12_several 175 = .ok (.istore 11, 2) := by decide +kernel
theorem dX12_several_177 : decode cX12_several 177 = .ok (.iload 11, 2) := by decide +kernel
theorem dX12_several_179 : decode cX12_several 179 = .ok (.aload_n 0, 1) := by decide +kernel
theorem dX12_several_180 : decode cX12_several 180 = .ok (.getfield 196, 3) := by decide +kernel
theorem dX12_several_183 : decode cX12_several 183 = .ok (.if_icmp .ge 40, 3) := by decide +kernel
theorem dX12_several_186 : decode cX12_several 186 = .ok (.iload 10, 2) := by decide +kernel
theorem dX12_several_188 : decode cX12_several 188 = .ok (.ifCond .eq 35, 3) := by decide +kernel
theorem dX12_several_191 : decode cX12_several 191 = .ok (.iload_n 2, 1) := by decide +kernel
theorem dX12_several_192 : decode cX12_several 192 = .ok (.iload 11, 2) := by decide +kernel
theorem dX12_several_194 : decode cX12_several 194 = .ok (.ishr, 1) := by decide +kernel
theorem dX12_several_195 : decode cX12_several 195 = .ok (.iconst 1, 1) := by decide +kernel
theorem dX12_several_196 : decode cX12_several 196 = .ok (.iand, 1) := by decide +kernel
theorem dX12_several_197 : decode cX12_several 197 = .ok (.iconst 1, 1) := by decide +kernel
theorem dX12_several_198 : decode cX12_several 198 = .ok (.if_icmp .ne 19, 3) := by decide +kernel
theorem dX12_several_201 : decode cX12_several 201 = .ok (.aload_n 0, 1) := by decide +kernel
theorem dX12_several_202 : decode cX12_several 202 = .ok (.getfield 38, 3) := by decide +kernel
theorem dX12_several_205 : decode cX12_several 205 = .ok (.iload 11, 2) := by decide +kernel
theorem dX12_several_207 : decode cX12_several 207 = .ok (.baload, 1) := by decide +kernel
theorem dX12_several_208 : decode cX12_several 208 = .ok (.ifCond .eq 9, 3) := by decide +kernel
theorem dX12_several_211 : decode cX12_several 211 = .ok (.bipush (-2), 2) := by decide +kernel
theorem dX12_several_213 : decode cX12_several 213 = .ok (.iload 11, 2) := by decide +kernel
theorem dX12_several_215 : decode cX12_several 215 = .ok (.isub, 1) := by decide +kernel
theorem dX12_several_216 : decode cX12_several 216 = .ok (.ireturn, 1) := by decide +kernel
theorem dX12_several_217 : decode cX12_several 217 = .ok (.iinc 11 1, 3) := by decide +kernel
theorem dX12_several_220 : decode cX12_several 220 = .ok (.goto (-43), 3) := by decide +kernel
theorem dX12_several_223 : decode cX12_several 223 = .ok (.lload 4, 2) := by decide +kernel
theorem dX12_several_225 : decode cX12_several 225 = .ok (.lstore 6, 2) := by decide +kernel
theorem dX12_several_227 : decode cX12_several 227 = .ok (.iconst 0, 1) := by decide +kernel
theorem dX12_several_228 : decode cX12_several 228 = .ok (.istore 11, 2) := by decide +kernel
theorem dX12_several_230 : decode cX12_several 230 = .ok (.iload 11, 2) := by decide +kernel
theorem dX12_several_232 : decode cX12_several 232 = .ok (.aload_n 0, 1) := by decide +kernel
theorem dX12_several_233 : decode cX12_several 233 = .ok (.getfield 196, 3) := by decide +kernel
theorem dX12_several_236 : decode cX12_several 236 = .ok (.if_icmp .ge 69, 3) := by decide +kernel
theorem dX12_several_239 : decode cX12_several 239 = .ok (.iload_n 2, 1) := by decide +kernel
theorem dX12_several_240 : decode cX12_several 240 = .ok (.iload 11, 2) := by decide +kernel
theorem dX12_several_242 : decode cX12_several 242 = .ok (.ishr, 1) := by decide +kernel
theorem dX12_several_243 : decode cX12_several 243 = .ok (.iconst 1, 1) := by decide +kernel
theorem dX12_several_244 : decode cX12_several 244 = .ok (.iand, 1) := by decide +kernel
theorem dX12_several_245 : decode cX12_several 245 = .ok (.ifCond .ne 6, 3) := by decide +kernel
theorem dX12_several_248 : decode cX12_several 248 = .ok (.goto 51, 3) := by decide +kernel
theorem dX12_several_251 : decode cX12_several 251 = .ok (.lload 6, 2) := by decide +kernel
theorem dX12_several_253 : decode cX12_several 253 = .ok (.invokestatic 246, 3) := by decide +kernel
theorem dX12_several_256 : decode cX12_several 256 = .ok (.lstore 6, 2) := by decide +kernel
theorem dX12_several_258 : decode cX12_several 258 = .ok (.iload 9, 2) := by decide +kernel
theorem dX12_several_260 : decode cX12_several 260 = .ok (.lload 6, 2) := by decide +kernel
theorem dX12_several_262 : decode cX12_several 262 = .ok (.sipush 1018, 3) := by decide +kernel
theorem dX12_several_265 : decode cX12_several 265 = .ok (.invokestatic 250, 3) := by decide +kernel
theorem dX12_several_268 : decode cX12_several 268 = .ok (.iadd, 1) := by decide +kernel
theorem dX12_several_269 : decode cX12_several 269 = .ok (.iconst 1, 1) := by decide +kernel
theorem dX12_several_270 : decode cX12_several 270 = .ok (.iadd, 1) := by decide +kernel
theorem dX12_several_271 : decode cX12_several 271 = .ok (.iload 10, 2) := by decide +kernel
theorem dX12_several_273 : decode cX12_several 273 = .ok (.iload 11, 2) := by decide +kernel
theorem dX12_several_275 : decode cX12_several 275 = .ok (.iload_n 2, 1) := by decide +kernel
theorem dX12_several_276 : decode cX12_several 276 = .ok (.invokestatic 288, 3) := by decide +kernel
theorem dX12_several_279 : decode cX12_several 279 = .ok (.imul, 1) := by decide +kernel
theorem dX12_several_280 : decode cX12_several 280 = .ok (.sipush 1019, 3) := by decide +kernel
theorem dX12_several_283 : decode cX12_several 283 = .ok (.irem, 1) := by decide +kernel
theorem dX12_several_284 : decode cX12_several 284 = .ok (.aload_n 0, 1) := by decide +kernel
theorem dX12_several_285 : decode cX12_several 285 = .ok (.iload_n 1, 1) := by decide +kernel
theorem dX12_several_286 : decode cX12_several 286 = .ok (.iload 11, 2) := by decide +kernel
theorem dX12_several_288 : decode cX12_several 288 = .ok (.invokevirtual 273, 3) := by decide +kernel
theorem dX12_several_291 : decode cX12_several 291 = .ok (.imul, 1) := by decide +kernel
theorem dX12_several_292 : decode cX12_several 292 = .ok (.iadd, 1) := by decide +kernel
theorem dX12_several_293 : decode cX12_several 293 = .ok (.sipush 1019, 3) := by decide +kernel
theorem dX12_several_296 : decode cX12_several 296 = .ok (.irem, 1) := by decide +kernel
theorem dX12_several_297 : decode cX12_several 297 = .ok (.istore 9, 2) := by decide +kernel
theorem dX12_several_299 : decode cX12_several 299 = .ok (.iinc 11 1, 3) := by decide +kernel
theorem dX12_several_302 : decode cX12_several 302 = .ok (.goto (-72), 3) := by decide +kernel
theorem dX12_several_305 : decode cX12_several 305 = .ok (.aload_n 0, 1) := by decide +kernel
theorem dX12_several_306 : decode cX12_several 306 = .ok (.iload 8, 2) := by decide +kernel
theorem dX12_several_308 : decode cX12_several 308 = .ok (.iload 9, 2) := by decide +kernel
theorem dX12_several_310 : decode cX12_several 310 = .ok (.aload_n 0, 1) := by decide +kernel
theorem dX12_several_311 : decode cX12_several 311 = .ok (.getfield 57, 3) := by decide +kernel
theorem dX12_several_314 : decode cX12_several 314 = .ok (.iload_n 1, 1) := by decide +kernel
theorem dX12_several_315 : decode cX12_several 315 = .ok (.iaload, 1) := by decide +kernel
theorem dX12_several_316 : decode cX12_several 316 = .ok (.iload_n 3, 1) := by decide +kernel
theorem dX12_several_317 : decode cX12_several 317 = .ok (.invokevirtual 434, 3) := by decide +kernel
theorem dX12_several_320 : decode cX12_several 320 = .ok (.ireturn, 1) := by decide +kernel
def lpX12_several_105 (v1 : Int32) (v2 : Int32) (v3 : Int32) (v4 : Int64) (v9 : Int32) : Nat → Int64 → Int32 → Int32 → ST → (Int64 → Int32 → Int32 → ST → Option (Int32 × ST)) → Option (Int32 × ST)
  | 0, _, _, _, _, _ => none
  | n + 1, v6, v8, v10, k, cont => if (gI k 11 12) ≤ v10 then cont v6 v8 v10 k else if ((j_shr v2 v10) &&& 1) = 0 then lpX12_several_105 v1 v2 v3 v4 v9 n v6 v8 (v10 + 1) k cont else ob (fX12_next k v6) fun r33 k34 => ob (fX12_drawn k34 r33 1018) fun r36 k37 => ob (fX12_four k37 (r36 + 1)) fun r39 k40 => lpX12_several_105 v1 v2 v3 v4 v9 n r33 (j_rem (v8 * r39) 2039) (v10 + 1) k40 cont
def lpX12_several_177 (v1 : Int32) (v2 : Int32) (v3 : Int32) (v4 : Int64) (v6 : Int64) (v8 : Int32) (v9 : Int32) (v10 : Int32) : Nat → Int32 → ST → (Int32 → ST → Option (Int32 × ST)) → Option (Int32 × ST)
  | 0, _, _, _ => none
  | n + 1, v11, k, cont => if (gI k 11 12) ≤ v11 then cont v11 k else if v10 = 0 then cont v11 k else if ((j_shr v2 v11) &&& 1) = 1 then ck (inb v11 12) (if (gA k 108 (ix v11)) = 0 then lpX12_several_177 v1 v2 v3 v4 v6 v8 v9 v10 n (v11 + 1) k cont else some ((-2) - v11, k)) else lpX12_several_177 v1 v2 v3 v4 v6 v8 v9 v10 n (v11 + 1) k cont
def lpX12_several_230 (v1 : Int32) (v2 : Int32) (v3 : Int32) (v4 : Int64) (v8 : Int32) (v10 : Int32) : Nat → Int64 → Int32 → Int32 → ST → (Int64 → Int32 → Int32 → ST → Option (Int32 × ST)) → Option (Int32 × ST)
  | 0, _, _, _, _, _ => none
  | n + 1, v6, v9, v11, k, cont => if (gI k 11 12) ≤ v11 then cont v6 v9 v11 k else if ((j_shr v2 v11) &&& 1) = 0 then lpX12_several_230 v1 v2 v3 v4 v8 v10 n v6 v9 (v11 + 1) k cont else ob (fX12_next k v6) fun r59 k60 => ob (fX12_drawn k60 r59 1018) fun r62 k63 => ob (fX12_weight k63 v11 v2) fun r65 k66 => ob (fX12_pieceOf k66 v1 v11) fun r68 k69 => nm (j_rem (((v9 + r62) + 1) + ((j_rem (v10 * r65) 1019) * r68)) 1019) fun x71 => lpX12_several_230 v1 v2 v3 v4 v8 v10 n r59 x71 (v11 + 1) k69 cont
def jbX12_several_223 (v1 : Int32) (v2 : Int32) (v3 : Int32) (v4 : Int64) (v6 : Int64) (v8 : Int32) (v9 : Int32) (v10 : Int32) (v11 : Int32)  (k : ST) : Option (Int32 × ST) := lpX12_several_230 v1 v2 v3 v4 v8 v10 FU v4 v9 0 k fun y72 y73 y74 k75 => ck (inb v1 40) (ob (fX12_keeps k75 v8 y73 (gA k75 114 (ix v1)) v3) fun r77 k78 => some (r77, k78))
set_option maxRecDepth 20000 in
theorem zlpX12_several_105 {p : Program} {l : Launch} {e : Env} {R : Room} {s : State} {m : MethodId} {args : Array Value} {below : List Frame} {meth : Method} {c : Code} {g : GT} (hC : HC p s m args meth c cX12_several 12 RX12 (some .int) g) (hR : 3 ≤ R.frames ∧ 67 ≤ R.locals)  (v1 : Int32) (v2 : Int32) (v3 : Int32) (v4 : Int64) (v9 : Int32) {cont : Int64 → Int32 → Int32 → ST → Option (Int32 × ST)} (hk : ∀ (v6 : Int64) (v8 : Int32) (v10 : Int32) (k : ST), ZF p l e R s m args below meth c g TM voI 12 k 161 [(0, .ref (g.2.1 11)), (1, .int v1), (2, .int v2), (3, .int v3), (4, .long v4), (6, .long v6), (8, .int v8), (9, .int v9), (10, .int v10)] [] (cont v6 v8 v10 k)) : ∀ (n : Nat) (v6 : Int64) (v8 : Int32) (v10 : Int32) (k : ST), ZF p l e R s m args below meth c g TM voI 12 k 105 [(0, .ref (g.2.1 11)), (1, .int v1), (2, .int v2), (3, .int v3), (4, .long v4), (6, .long v6), (8, .int v8), (9, .int v9), (10, .int v10)] [] (lpX12_several_105 v1 v2 v3 v4 v9 n v6 v8 v10 k cont) := by
  intro n
  induction n with
  | zero => intros; exact zf_none
  | succ n ih =>
    intro v6 v8 v10 k
    rw [lpX12_several_105]
    refine zf_iload hC dX12_several_105 8 rfl ?_
    refine zf_aload_n hC dX12_several_107 rfl 0 rfl ?_
    refine gf_1242 hC dX12_several_108 ?_
    refine zf_icmp_ge hC (tgt := 161) dX12_several_111 (by decide) (fun h31 => ?_) (fun h31 => ?_)
    · refine zf_lv (LV' := [(0, .ref (g.2.1 11)), (1, .int v1), (2, .int v2), (3, .int v3), (4, .long v4), (6, .long v6), (8, .int v8), (9, .int v9), (10, .int v10)]) [0, 1, 2, 3, 4, 5, 6, 7, 8] rfl ?_
      exact hk v6 v8 v10 k
    · refine zf_iload_n hC dX12_several_114 rfl 2 rfl ?_
      refine zf_iload hC dX12_several_115 8 rfl ?_
      refine zf_ishr hC dX12_several_117 ?_
      refine zf_iconst hC (v := 1) dX12_several_118 rfl ?_
      refine zf_iand hC dX12_several_119 ?_
      refine zf_if_ne hC (tgt := 126) dX12_several_120 (by decide) (fun h32 => ?_) (fun h32 => ?_)
      · refine zf_goto hC (tgt := 155) dX12_several_123 (by decide) ?_
        refine zf_iinc hC (q := 8) (v := v10 + 1) (LV' := [(10, .int (v10 + 1)), (0, .ref (g.2.1 11)), (1, .int v1), (2, .int v2), (3, .int v3), (4, .long v4), (6, .long v6), (8, .int v8), (9, .int v9)]) dX12_several_155 rfl rfl (by decide) rfl ?_
        refine zf_goto hC (tgt := 105) dX12_several_158 (by decide) ?_
        refine zf_lv (LV' := [(0, .ref (g.2.1 11)), (1, .int v1), (2, .int v2), (3, .int v3), (4, .long v4), (6, .long v6), (8, .int v8), (9, .int v9), (10, .int (v10 + 1))]) [1, 2, 3, 4, 5, 6, 7, 8, 0] rfl ?_
        exact ih v6 v8 (v10 + 1) k
      · refine zf_lload hC dX12_several_126 5 rfl ?_
        refine zf_callS hC (c_X12_next l g TM v6) mt_X12_next wd_1584 wd_1583 rfl (rm_le hR rfl) rfl rfl (rest := []) rfl (Nat.le_of_ble_eq_true rfl) dX12_several_128 (fun r33 k34 h35 => ?_)
        refine zf_lstore hC (LV' := [(6, .long r33), (0, .ref (g.2.1 11)), (1, .int v1), (2, .int v2), (3, .int v3), (4, .long v4), (8, .int v8), (9, .int v9), (10, .int v10)]) dX12_several_131 (by decide) rfl ?_
        refine zf_iload hC dX12_several_133 6 rfl ?_
        refine zf_lload hC dX12_several_135 0 rfl ?_
        refine zf_sipush hC (v := 1018) dX12_several_137 rfl ?_
        refine zf_callS hC (c_X12_drawn l g TM r33 1018) mt_X12_drawn wd_1589 wd_1588 rfl (rm_le hR rfl) rfl rfl (rest := [.int v8]) rfl (Nat.le_of_ble_eq_true rfl) dX12_several_140 (fun r36 k37 h38 => ?_)
        refine zf_iconst hC (v := 1) dX12_several_143 rfl ?_
        refine zf_iadd hC dX12_several_144 ?_
        refine zf_callS hC (c_X12_four l g TM (r36 + 1)) mt_X12_four wd_1537 wd_1536 rfl (rm_le hR rfl) rfl rfl (rest := [.int v8]) rfl (Nat.le_of_ble_eq_true rfl) dX12_several_145 (fun r39 k40 h41 => ?_)
        refine zf_imul hC dX12_several_148 ?_
        refine zf_sipush hC (v := 2039) dX12_several_149 rfl ?_
        refine zf_irem hC dX12_several_152 (by decide) ?_
        refine zf_istore hC (LV' := [(8, .int (j_rem (v8 * r39) 2039)), (6, .long r33), (0, .ref (g.2.1 11)), (1, .int v1), (2, .int v2), (3, .int v3), (4, .long v4), (9, .int v9), (10, .int v10)]) dX12_several_153 (by decide) rfl ?_
        refine zf_iinc hC (q := 8) (v := v10 + 1) (LV' := [(10, .int (v10 + 1)), (8, .int (j_rem (v8 * r39) 2039)), (6, .long r33), (0, .ref (g.2.1 11)), (1, .int v1), (2, .int v2), (3, .int v3), (4, .long v4), (9, .int v9)]) dX12_several_155 rfl rfl (by decide) rfl ?_
        refine zf_goto hC (tgt := 105) dX12_several_158 (by decide) ?_
        refine zf_lv (LV' := [(0, .ref (g.2.1 11)), (1, .int v1), (2, .int v2), (3, .int v3), (4, .long v4), (6, .long r33), (8, .int (j_rem (v8 * r39) 2039)), (9, .int v9), (10, .int (v10 + 1))]) [3, 4, 5, 6, 7, 2, 1, 8, 0] rfl ?_
        exact ih r33 (j_rem (v8 * r39) 2039) (v10 + 1) k40
set_option maxRecDepth 20000 in
theorem zlpX12_several_177 {p : Program} {l : Launch} {e : Env} {R : Room} {s : State} {m : MethodId} {args : Array Value} {below : List Frame} {meth : Method} {c : Code} {g : GT} (hC : HC p s m args meth c cX12_several 12 RX12 (some .int) g) (hR : 3 ≤ R.frames ∧ 67 ≤ R.locals)  (v1 : Int32) (v2 : Int32) (v3 : Int32) (v4 : Int64) (v6 : Int64) (v8 : Int32) (v9 : Int32) (v10 : Int32) {cont : Int32 → ST → Option (Int32 × ST)} (hk : ∀ (v11 : Int32) (k : ST), ZF p l e R s m args below meth c g TM voI 12 k 223 [(0, .ref (g.2.1 11)), (1, .int v1), (2, .int v2), (3, .int v3), (4, .long v4), (6, .long v6), (8, .int v8), (9, .int v9), (10, .int v10), (11, .int v11)] [] (cont v11 k)) : ∀ (n : Nat) (v11 : Int32) (k : ST), ZF p l e R s m args below meth c g TM voI 12 k 177 [(0, .ref (g.2.1 11)), (1, .int v1), (2, .int v2), (3, .int v3), (4, .long v4), (6, .long v6), (8, .int v8), (9, .int v9), (10, .int v10), (11, .int v11)] [] (lpX12_several_177 v1 v2 v3 v4 v6 v8 v9 v10 n v11 k cont) := by
  intro n
  induction n with
  | zero => intros; exact zf_none
  | succ n ih =>
    intro v11 k
    rw [lpX12_several_177]
    refine zf_iload hC dX12_several_177 9 rfl ?_
    refine zf_aload_n hC dX12_several_179 rfl 0 rfl ?_
    refine gf_1242 hC dX12_several_180 ?_
    refine zf_icmp_ge hC (tgt := 223) dX12_several_183 (by decide) (fun h50 => ?_) (fun h50 => ?_)
    · refine zf_lv (LV' := [(0, .ref (g.2.1 11)), (1, .int v1), (2, .int v2), (3, .int v3), (4, .long v4), (6, .long v6), (8, .int v8), (9, .int v9), (10, .int v10), (11, .int v11)]) [0, 1, 2, 3, 4, 5, 6, 7, 8, 9] rfl ?_
      exact hk v11 k
    · refine zf_iload hC dX12_several_186 8 rfl ?_
      refine zf_if_eq hC (tgt := 223) dX12_several_188 (by decide) (fun h51 => ?_) (fun h51 => ?_)
      · refine zf_lv (LV' := [(0, .ref (g.2.1 11)), (1, .int v1), (2, .int v2), (3, .int v3), (4, .long v4), (6, .long v6), (8, .int v8), (9, .int v9), (10, .int v10), (11, .int v11)]) [0, 1, 2, 3, 4, 5, 6, 7, 8, 9] rfl ?_
        exact hk v11 k
      · refine zf_iload_n hC dX12_several_191 rfl 2 rfl ?_
        refine zf_iload hC dX12_several_192 9 rfl ?_
        refine zf_ishr hC dX12_several_194 ?_
        refine zf_iconst hC (v := 1) dX12_several_195 rfl ?_
        refine zf_iand hC dX12_several_196 ?_
        refine zf_iconst hC (v := 1) dX12_several_197 rfl ?_
        refine zf_icmp_ne hC (tgt := 217) dX12_several_198 (by decide) (fun h52 => ?_) (fun h52 => ?_)
        · refine zf_aload_n hC dX12_several_201 rfl 0 rfl ?_
          refine gf_1241 hC dX12_several_202 ?_
          refine zf_iload hC dX12_several_205 9 rfl ?_
          refine zf_zald hC (j := 108) ia_108 rfl rfl dX12_several_207 (fun h53 => ?_)
          refine zf_if_eq hC (tgt := 217) dX12_several_208 (by decide) (fun h54 => ?_) (fun h54 => ?_)
          · refine zf_iinc hC (q := 9) (v := v11 + 1) (LV' := [(11, .int (v11 + 1)), (0, .ref (g.2.1 11)), (1, .int v1), (2, .int v2), (3, .int v3), (4, .long v4), (6, .long v6), (8, .int v8), (9, .int v9), (10, .int v10)]) dX12_several_217 rfl rfl (by decide) rfl ?_
            refine zf_goto hC (tgt := 177) dX12_several_220 (by decide) ?_
            refine zf_lv (LV' := [(0, .ref (g.2.1 11)), (1, .int v1), (2, .int v2), (3, .int v3), (4, .long v4), (6, .long v6), (8, .int v8), (9, .int v9), (10, .int v10), (11, .int (v11 + 1))]) [1, 2, 3, 4, 5, 6, 7, 8, 9, 0] rfl ?_
            exact ih (v11 + 1) k
          · refine zf_bipush hC (v := (-2)) dX12_several_211 rfl ?_
            refine zf_iload hC dX12_several_213 9 rfl ?_
            refine zf_isub hC dX12_several_215 ?_
            exact zf_iret hC rfl dX12_several_216
        · refine zf_iinc hC (q := 9) (v := v11 + 1) (LV' := [(11, .int (v11 + 1)), (0, .ref (g.2.1 11)), (1, .int v1), (2, .int v2), (3, .int v3), (4, .long v4), (6, .long v6), (8, .int v8), (9, .int v9), (10, .int v10)]) dX12_several_217 rfl rfl (by decide) rfl ?_
          refine zf_goto hC (tgt := 177) dX12_several_220 (by decide) ?_
          refine zf_lv (LV' := [(0, .ref (g.2.1 11)), (1, .int v1), (2, .int v2), (3, .int v3), (4, .long v4), (6, .long v6), (8, .int v8), (9, .int v9), (10, .int v10), (11, .int (v11 + 1))]) [1, 2, 3, 4, 5, 6, 7, 8, 9, 0] rfl ?_
          exact ih (v11 + 1) k
set_option maxRecDepth 20000 in
theorem zlpX12_several_230 {p : Program} {l : Launch} {e : Env} {R : Room} {s : State} {m : MethodId} {args : Array Value} {below : List Frame} {meth : Method} {c : Code} {g : GT} (hC : HC p s m args meth c cX12_several 12 RX12 (some .int) g) (hR : 3 ≤ R.frames ∧ 67 ≤ R.locals)  (v1 : Int32) (v2 : Int32) (v3 : Int32) (v4 : Int64) (v8 : Int32) (v10 : Int32) {cont : Int64 → Int32 → Int32 → ST → Option (Int32 × ST)} (hk : ∀ (v6 : Int64) (v9 : Int32) (v11 : Int32) (k : ST), ZF p l e R s m args below meth c g TM voI 12 k 305 [(0, .ref (g.2.1 11)), (1, .int v1), (2, .int v2), (3, .int v3), (4, .long v4), (6, .long v6), (8, .int v8), (9, .int v9), (10, .int v10), (11, .int v11)] [] (cont v6 v9 v11 k)) : ∀ (n : Nat) (v6 : Int64) (v9 : Int32) (v11 : Int32) (k : ST), ZF p l e R s m args below meth c g TM voI 12 k 230 [(0, .ref (g.2.1 11)), (1, .int v1), (2, .int v2), (3, .int v3), (4, .long v4), (6, .long v6), (8, .int v8), (9, .int v9), (10, .int v10), (11, .int v11)] [] (lpX12_several_230 v1 v2 v3 v4 v8 v10 n v6 v9 v11 k cont) := by
  intro n
  induction n with
  | zero => intros; exact zf_none
  | succ n ih =>
    intro v6 v9 v11 k
    rw [lpX12_several_230]
    refine zf_iload hC dX12_several_230 9 rfl ?_
    refine zf_aload_n hC dX12_several_232 rfl 0 rfl ?_
    refine gf_1242 hC dX12_several_233 ?_
    refine zf_icmp_ge hC (tgt := 305) dX12_several_236 (by decide) (fun h57 => ?_) (fun h57 => ?_)
    · refine zf_lv (LV' := [(0, .ref (g.2.1 11)), (1, .int v1), (2, .int v2), (3, .int v3), (4, .long v4), (6, .long v6), (8, .int v8), (9, .int v9), (10, .int v10), (11, .int v11)]) [0, 1, 2, 3, 4, 5, 6, 7, 8, 9] rfl ?_
      exact hk v6 v9 v11 k
    · refine zf_iload_n hC dX12_several_239 rfl 2 rfl ?_
      refine zf_iload hC dX12_several_240 9 rfl ?_
      refine zf_ishr hC dX12_several_242 ?_
      refine zf_iconst hC (v := 1) dX12_several_243 rfl ?_
      refine zf_iand hC dX12_several_244 ?_
      refine zf_if_ne hC (tgt := 251) dX12_several_245 (by decide) (fun h58 => ?_) (fun h58 => ?_)
      · refine zf_goto hC (tgt := 299) dX12_several_248 (by decide) ?_
        refine zf_iinc hC (q := 9) (v := v11 + 1) (LV' := [(11, .int (v11 + 1)), (0, .ref (g.2.1 11)), (1, .int v1), (2, .int v2), (3, .int v3), (4, .long v4), (6, .long v6), (8, .int v8), (9, .int v9), (10, .int v10)]) dX12_several_299 rfl rfl (by decide) rfl ?_
        refine zf_goto hC (tgt := 230) dX12_several_302 (by decide) ?_
        refine zf_lv (LV' := [(0, .ref (g.2.1 11)), (1, .int v1), (2, .int v2), (3, .int v3), (4, .long v4), (6, .long v6), (8, .int v8), (9, .int v9), (10, .int v10), (11, .int (v11 + 1))]) [1, 2, 3, 4, 5, 6, 7, 8, 9, 0] rfl ?_
        exact ih v6 v9 (v11 + 1) k
      · refine zf_lload hC dX12_several_251 5 rfl ?_
        refine zf_callS hC (c_X12_next l g TM v6) mt_X12_next wd_1584 wd_1583 rfl (rm_le hR rfl) rfl rfl (rest := []) rfl (Nat.le_of_ble_eq_true rfl) dX12_several_253 (fun r59 k60 h61 => ?_)
        refine zf_lstore hC (LV' := [(6, .long r59), (0, .ref (g.2.1 11)), (1, .int v1), (2, .int v2), (3, .int v3), (4, .long v4), (8, .int v8), (9, .int v9), (10, .int v10), (11, .int v11)]) dX12_several_256 (by decide) rfl ?_
        refine zf_iload hC dX12_several_258 7 rfl ?_
        refine zf_lload hC dX12_several_260 0 rfl ?_
        refine zf_sipush hC (v := 1018) dX12_several_262 rfl ?_
        refine zf_callS hC (c_X12_drawn l g TM r59 1018) mt_X12_drawn wd_1589 wd_1588 rfl (rm_le hR rfl) rfl rfl (rest := [.int v9]) rfl (Nat.le_of_ble_eq_true rfl) dX12_several_265 (fun r62 k63 h64 => ?_)
        refine zf_iadd hC dX12_several_268 ?_
        refine zf_iconst hC (v := 1) dX12_several_269 rfl ?_
        refine zf_iadd hC dX12_several_270 ?_
        refine zf_iload hC dX12_several_271 8 rfl ?_
        refine zf_iload hC dX12_several_273 9 rfl ?_
        refine zf_iload_n hC dX12_several_275 rfl 3 rfl ?_
        refine zf_callS hC (c_X12_weight l g TM v11 v2) mt_X12_weight wd_1628 wd_1627 rfl (rm_le hR rfl) rfl rfl (rest := [.int v10, .int ((v9 + r62) + 1)]) rfl (Nat.le_of_ble_eq_true rfl) dX12_several_276 (fun r65 k66 h67 => ?_)
        refine zf_imul hC dX12_several_279 ?_
        refine zf_sipush hC (v := 1019) dX12_several_280 rfl ?_
        refine zf_irem hC dX12_several_283 (by decide) ?_
        refine zf_aload_n hC dX12_several_284 rfl 1 rfl ?_
        refine zf_iload_n hC dX12_several_285 rfl 2 rfl ?_
        refine zf_iload hC dX12_several_286 9 rfl ?_
        refine zf_callV hC (c_X12_pieceOf l g v1 v11) mt_X12_pieceOf wd_1609 sp_55 ci_11 ic_11 wd_1607 rfl (rm_le hR rfl) rfl rfl (rest := [.int (j_rem (v10 * r65) 1019), .int ((v9 + r62) + 1)]) rfl (Nat.le_of_ble_eq_true rfl) dX12_several_288 (fun r68 k69 h70 => ?_)
        refine zf_imul hC dX12_several_291 ?_
        refine zf_iadd hC dX12_several_292 ?_
        refine zf_sipush hC (v := 1019) dX12_several_293 rfl ?_
        refine zf_irem hC dX12_several_296 (by decide) ?_
        refine zf_nmi (fun x71 => ?_)
        refine zf_istore hC (LV' := [(9, .int x71), (6, .long r59), (0, .ref (g.2.1 11)), (1, .int v1), (2, .int v2), (3, .int v3), (4, .long v4), (8, .int v8), (10, .int v10), (11, .int v11)]) dX12_several_297 (by decide) rfl ?_
        refine zf_iinc hC (q := 9) (v := v11 + 1) (LV' := [(11, .int (v11 + 1)), (9, .int x71), (6, .long r59), (0, .ref (g.2.1 11)), (1, .int v1), (2, .int v2), (3, .int v3), (4, .long v4), (8, .int v8), (10, .int v10)]) dX12_several_299 rfl rfl (by decide) rfl ?_
        refine zf_goto hC (tgt := 230) dX12_several_302 (by decide) ?_
        refine zf_lv (LV' := [(0, .ref (g.2.1 11)), (1, .int v1), (2, .int v2), (3, .int v3), (4, .long v4), (6, .long r59), (8, .int v8), (9, .int x71), (10, .int v10), (11, .int (v11 + 1))]) [3, 4, 5, 6, 7, 2, 8, 1, 9, 0] rfl ?_
        exact ih r59 x71 (v11 + 1) k69
set_option maxRecDepth 20000 in
theorem zjbX12_several_223 {p : Program} {l : Launch} {e : Env} {R : Room} {s : State} {m : MethodId} {args : Array Value} {below : List Frame} {meth : Method} {c : Code} {g : GT} (hC : HC p s m args meth c cX12_several 12 RX12 (some .int) g) (hR : 3 ≤ R.frames ∧ 67 ≤ R.locals)  (v1 : Int32) (v2 : Int32) (v3 : Int32) (v4 : Int64) (v6 : Int64) (v8 : Int32) (v9 : Int32) (v10 : Int32) (v11 : Int32)  (k : ST) : ZF p l e R s m args below meth c g TM voI 12 k 223 [(0, .ref (g.2.1 11)), (1, .int v1), (2, .int v2), (3, .int v3), (4, .long v4), (6, .long v6), (8, .int v8), (9, .int v9), (10, .int v10), (11, .int v11)] [] (jbX12_several_223  v1 v2 v3 v4 v6 v8 v9 v10 v11 k) := by
  unfold jbX12_several_223
  refine zf_lload hC dX12_several_223 4 rfl ?_
  refine zf_lstore hC (LV' := [(6, .long v4), (0, .ref (g.2.1 11)), (1, .int v1), (2, .int v2), (3, .int v3), (4, .long v4), (8, .int v8), (9, .int v9), (10, .int v10), (11, .int v11)]) dX12_several_225 (by decide) rfl ?_
  refine zf_iconst hC (v := 0) dX12_several_227 rfl ?_
  refine zf_istore hC (LV' := [(11, .int 0), (6, .long v4), (0, .ref (g.2.1 11)), (1, .int v1), (2, .int v2), (3, .int v3), (4, .long v4), (8, .int v8), (9, .int v9), (10, .int v10)]) dX12_several_228 (by decide) rfl ?_
  refine zf_lv (LV' := [(0, .ref (g.2.1 11)), (1, .int v1), (2, .int v2), (3, .int v3), (4, .long v4), (6, .long v4), (8, .int v8), (9, .int v9), (10, .int v10), (11, .int 0)]) [2, 3, 4, 5, 6, 1, 7, 8, 9, 0] rfl ?_
  refine zlpX12_several_230 hC hR v1 v2 v3 v4 v8 v10 (fun y72 y73 y74 k75 => ?_) FU v4 v9 0 k
  refine zf_aload_n hC dX12_several_305 rfl 0 rfl ?_
  refine zf_iload hC dX12_several_306 6 rfl ?_
  refine zf_iload hC dX12_several_308 7 rfl ?_
  refine zf_aload_n hC dX12_several_310 rfl 0 rfl ?_
  refine gf_1251 hC dX12_several_311 ?_
  refine zf_iload_n hC dX12_several_314 rfl 1 rfl ?_
  refine zf_iald hC (j := 114) ia_114 rfl rfl dX12_several_315 (fun h76 => ?_)
  refine zf_iload_n hC dX12_several_316 rfl 3 rfl ?_
  refine zf_callV hC (c_X12_keeps l g v8 y73 (gA k75 114 (ix v1)) v3) mt_X12_keeps wd_1805 sp_83 ci_11 ic_11 wd_1803 rfl (rm_le hR rfl) rfl rfl (rest := []) rfl (Nat.le_of_ble_eq_true rfl) dX12_several_317 (fun r77 k78 h79 => ?_)
  exact zf_iret hC rfl dX12_several_320
def fX12_several (k : ST) (a0 : Int32) (a1 : Int32) (a2 : Int32) (a3 : Int64) : Option (Int32 × ST) := nm (sI k 11 0 0) fun k1 => if (gI k1 11 77) = 80 then some ((-1), k1) else ob (fX12_isParting k1 a0) fun r3 k4 => if r3 = true then ob (fX12_isForce k4 a0 (gI k4 11 1)) fun r7 k8 => if r7 = true then ob (fX12_areHolders k8 a1 1) fun r11 k12 => if r11 = true then ck (inb a0 40) (if (a1 &&& ((gA k12 115 (ix a0)) ^^^ (-1))) = 0 then ob (fJ6_bitCount_0f7a4 k12 a1) fun r17 k18 => ck (inb a0 40) (if r17 < (gA k18 116 (ix a0)) then some ((-1), k18) else ob (fX12_isThing k18 a2) fun r22 k23 => if r22 = true then ck (inb a0 40) (ob (fX12_maySign k23 (gA k23 114 (ix a0))) fun r27 k28 => if r27 = true then lpX12_several_105 a0 a1 a2 a3 0 FU a3 1 0 k28 fun y42 y43 y44 k45 => ck (inb a2 40) (ob (fX12_challenge k45 y43 (gA k45 128 (ix a2))) fun r47 k48 => lpX12_several_177 a0 a1 a2 a3 y42 y43 0 r47 FU 0 k48 fun y55 k56 => jbX12_several_223 a0 a1 a2 a3 y42 y43 0 r47 y55 k56) else some ((-1), k28)) else some ((-1), k23)) else some ((-1), k12)) else some ((-1), k12) else some ((-1), k8) else some ((-1), k4)
set_option maxRecDepth 20000 in
theorem c_X12_several (l : Launch) (g : GT) (a0 : Int32) (a1 : Int32) (a2 : Int32) (a3 : Int64) : CN l yX12_several cX12_several 12 (some .int) { frames := 3, cells := 0, slots := 0, locals := 67 } g TM voI [.ref (g.2.1 11), .int a0, .int a1, .int a2, .long a3] (fun k => fX12_several k a0 a1 a2 a3) := by
  refine cn_of (by decide) (Nat.le_of_ble_eq_true rfl) ?_
  intro p e s m args below meth c hC k
  have hC : HC p s m args meth c cX12_several 12 RX12 (some .int) g := hC
  have hR : 3 ≤ ({ frames := 3, cells := 0, slots := 0, locals := 67 } : Room).frames ∧ 67 ≤ ({ frames := 3, cells := 0, slots := 0, locals := 67 } : Room).locals := ⟨Nat.le_refl _, Nat.le_refl _⟩
  show ZF p l e _ s m args below meth c g TM voI 12 k 0 [(0, .ref (g.2.1 11)), (1, .int a0), (2, .int a1), (3, .int a2), (4, .long a3)] [] (fX12_several k a0 a1 a2 a3)
  unfold fX12_several
  refine zf_aload_n hC dX12_several_0 rfl 0 rfl ?_
  refine zf_iconst hC (v := 0) dX12_several_1 rfl ?_
  refine pf_1230 hC dX12_several_2 ?_
  refine zf_nmk (fun k1 => ?_)
  refine zf_aload_n hC dX12_several_5 rfl 0 rfl ?_
  refine gf_1307 hC dX12_several_6 ?_
  refine zf_bipush hC (v := 80) dX12_several_9 rfl ?_
  refine zf_icmp_eq hC (tgt := 90) dX12_several_11 (by decide) (fun h2 => ?_) (fun h2 => ?_)
  · refine zf_iconst hC (v := (-1)) dX12_several_90 rfl ?_
    exact zf_iret hC rfl dX12_several_91
  · refine zf_aload_n hC dX12_several_14 rfl 0 rfl ?_
    refine zf_iload_n hC dX12_several_15 rfl 1 rfl ?_
    refine zf_callV hC (c_X12_isParting l g a0) mt_X12_isParting wd_1597 sp_53 ci_11 ic_11 wd_1595 rfl (rm_le hR rfl) rfl rfl (rest := []) rfl (Nat.le_of_ble_eq_true rfl) dX12_several_16 (fun r3 k4 h5 => ?_)
    refine zf_ifb_eq hC (tgt := 90) dX12_several_19 (by decide) (fun h6 => ?_) (fun h6 => ?_)
    · refine zf_aload_n hC dX12_several_22 rfl 0 rfl ?_
      refine zf_iload_n hC dX12_several_23 rfl 1 rfl ?_
      refine zf_aload_n hC dX12_several_24 rfl 0 rfl ?_
      refine gf_1231 hC dX12_several_25 ?_
      refine zf_callV hC (c_X12_isForce l g a0 (gI k4 11 1)) mt_X12_isForce wd_1661 sp_60 ci_11 ic_11 wd_1659 rfl (rm_le hR rfl) rfl rfl (rest := []) rfl (Nat.le_of_ble_eq_true rfl) dX12_several_28 (fun r7 k8 h9 => ?_)
      refine zf_ifb_eq hC (tgt := 90) dX12_several_31 (by decide) (fun h10 => ?_) (fun h10 => ?_)
      · refine zf_aload_n hC dX12_several_34 rfl 0 rfl ?_
        refine zf_iload_n hC dX12_several_35 rfl 2 rfl ?_
        refine zf_iconst hC (v := 1) dX12_several_36 rfl ?_
        refine zf_callV hC (c_X12_areHolders l g a1 1) mt_X12_areHolders wd_1576 sp_51 ci_11 ic_11 wd_1574 rfl (rm_le hR rfl) rfl rfl (rest := []) rfl (Nat.le_of_ble_eq_true rfl) dX12_several_37 (fun r11 k12 h13 => ?_)
        refine zf_ifb_eq hC (tgt := 90) dX12_several_40 (by decide) (fun h14 => ?_) (fun h14 => ?_)
        · refine zf_iload_n hC dX12_several_43 rfl 2 rfl ?_
          refine zf_aload_n hC dX12_several_44 rfl 0 rfl ?_
          refine gf_1252 hC dX12_several_45 ?_
          refine zf_iload_n hC dX12_several_48 rfl 1 rfl ?_
          refine zf_iald hC (j := 115) ia_115 rfl rfl dX12_several_49 (fun h15 => ?_)
          refine zf_iconst hC (v := (-1)) dX12_several_50 rfl ?_
          refine zf_ixor hC dX12_several_51 ?_
          refine zf_iand hC dX12_several_52 ?_
          refine zf_if_ne hC (tgt := 90) dX12_several_53 (by decide) (fun h16 => ?_) (fun h16 => ?_)
          · refine zf_iload_n hC dX12_several_56 rfl 2 rfl ?_
            refine zf_callS hC (c_J6_bitCount_0f7a4 l g TM a1) mt_J6_bitCount_0f7a4 wd_577 wd_1578 rfl (rm_le hR rfl) rfl rfl (rest := []) rfl (Nat.le_of_ble_eq_true rfl) dX12_several_57 (fun r17 k18 h19 => ?_)
            refine zf_aload_n hC dX12_several_60 rfl 0 rfl ?_
            refine gf_1253 hC dX12_several_61 ?_
            refine zf_iload_n hC dX12_several_64 rfl 1 rfl ?_
            refine zf_iald hC (j := 116) ia_116 rfl rfl dX12_several_65 (fun h20 => ?_)
            refine zf_icmp_lt hC (tgt := 90) dX12_several_66 (by decide) (fun h21 => ?_) (fun h21 => ?_)
            · refine zf_iconst hC (v := (-1)) dX12_several_90 rfl ?_
              exact zf_iret hC rfl dX12_several_91
            · refine zf_aload_n hC dX12_several_69 rfl 0 rfl ?_
              refine zf_iload_n hC dX12_several_70 rfl 3 rfl ?_
              refine zf_callV hC (c_X12_isThing l g a2) mt_X12_isThing wd_1743 sp_75 ci_11 ic_11 wd_1741 rfl (rm_le hR rfl) rfl rfl (rest := []) rfl (Nat.le_of_ble_eq_true rfl) dX12_several_71 (fun r22 k23 h24 => ?_)
              refine zf_ifb_eq hC (tgt := 90) dX12_several_74 (by decide) (fun h25 => ?_) (fun h25 => ?_)
              · refine zf_aload_n hC dX12_several_77 rfl 0 rfl ?_
                refine zf_aload_n hC dX12_several_78 rfl 0 rfl ?_
                refine gf_1251 hC dX12_several_79 ?_
                refine zf_iload_n hC dX12_several_82 rfl 1 rfl ?_
                refine zf_iald hC (j := 114) ia_114 rfl rfl dX12_several_83 (fun h26 => ?_)
                refine zf_callV hC (c_X12_maySign l g (gA k23 114 (ix a0))) mt_X12_maySign wd_1790 sp_80 ci_11 ic_11 wd_1788 rfl (rm_le hR rfl) rfl rfl (rest := []) rfl (Nat.le_of_ble_eq_true rfl) dX12_several_84 (fun r27 k28 h29 => ?_)
                refine zf_ifb_ne hC (tgt := 92) dX12_several_87 (by decide) (fun h30 => ?_) (fun h30 => ?_)
                · refine zf_lload hC dX12_several_92 4 rfl ?_
                  refine zf_lstore hC (LV' := [(6, .long a3), (0, .ref (g.2.1 11)), (1, .int a0), (2, .int a1), (3, .int a2), (4, .long a3)]) dX12_several_94 (by decide) rfl ?_
                  refine zf_iconst hC (v := 1) dX12_several_96 rfl ?_
                  refine zf_istore hC (LV' := [(8, .int 1), (6, .long a3), (0, .ref (g.2.1 11)), (1, .int a0), (2, .int a1), (3, .int a2), (4, .long a3)]) dX12_several_97 (by decide) rfl ?_
                  refine zf_iconst hC (v := 0) dX12_several_99 rfl ?_
                  refine zf_istore hC (LV' := [(9, .int 0), (8, .int 1), (6, .long a3), (0, .ref (g.2.1 11)), (1, .int a0), (2, .int a1), (3, .int a2), (4, .long a3)]) dX12_several_100 (by decide) rfl ?_
                  refine zf_iconst hC (v := 0) dX12_several_102 rfl ?_
                  refine zf_istore hC (LV' := [(10, .int 0), (9, .int 0), (8, .int 1), (6, .long a3), (0, .ref (g.2.1 11)), (1, .int a0), (2, .int a1), (3, .int a2), (4, .long a3)]) dX12_several_103 (by decide) rfl ?_
                  refine zf_lv (LV' := [(0, .ref (g.2.1 11)), (1, .int a0), (2, .int a1), (3, .int a2), (4, .long a3), (6, .long a3), (8, .int 1), (9, .int 0), (10, .int 0)]) [4, 5, 6, 7, 8, 3, 2, 1, 0] rfl ?_
                  refine zlpX12_several_105 hC hR a0 a1 a2 a3 0 (fun y42 y43 y44 k45 => ?_) FU a3 1 0 k28
                  refine zf_iload hC dX12_several_161 6 rfl ?_
                  refine zf_aload_n hC dX12_several_163 rfl 0 rfl ?_
                  refine gf_1268 hC dX12_several_164 ?_
                  refine zf_iload_n hC dX12_several_167 rfl 3 rfl ?_
                  refine zf_iald hC (j := 128) ia_128 rfl rfl dX12_several_168 (fun h46 => ?_)
                  refine zf_callS hC (c_X12_challenge l g TM y43 (gA k45 128 (ix a2))) mt_X12_challenge wd_1801 wd_1800 rfl (rm_le hR rfl) rfl rfl (rest := []) rfl (Nat.le_of_ble_eq_true rfl) dX12_several_169 (fun r47 k48 h49 => ?_)
                  refine zf_istore hC (LV' := [(10, .int r47), (0, .ref (g.2.1 11)), (1, .int a0), (2, .int a1), (3, .int a2), (4, .long a3), (6, .long y42), (8, .int y43), (9, .int 0)]) dX12_several_172 (by decide) rfl ?_
                  refine zf_iconst hC (v := 0) dX12_several_174 rfl ?_
                  refine zf_istore hC (LV' := [(11, .int 0), (10, .int r47), (0, .ref (g.2.1 11)), (1, .int a0), (2, .int a1), (3, .int a2), (4, .long a3), (6, .long y42), (8, .int y43), (9, .int 0)]) dX12_several_175 (by decide) rfl ?_
                  refine zf_lv (LV' := [(0, .ref (g.2.1 11)), (1, .int a0), (2, .int a1), (3, .int a2), (4, .long a3), (6, .long y42), (8, .int y43), (9, .int 0), (10, .int r47), (11, .int 0)]) [2, 3, 4, 5, 6, 7, 8, 9, 1, 0] rfl ?_
                  refine zlpX12_several_177 hC hR a0 a1 a2 a3 y42 y43 0 r47 (fun y55 k56 => ?_) FU 0 k48
                  exact zjbX12_several_223 hC hR a0 a1 a2 a3 y42 y43 0 r47 y55 k56
                · refine zf_iconst hC (v := (-1)) dX12_several_90 rfl ?_
                  exact zf_iret hC rfl dX12_several_91
              · refine zf_iconst hC (v := (-1)) dX12_several_90 rfl ?_
                exact zf_iret hC rfl dX12_several_91
          · refine zf_iconst hC (v := (-1)) dX12_several_90 rfl ?_
            exact zf_iret hC rfl dX12_several_91
        · refine zf_iconst hC (v := (-1)) dX12_several_90 rfl ?_
          exact zf_iret hC rfl dX12_several_91
      · refine zf_iconst hC (v := (-1)) dX12_several_90 rfl ?_
        exact zf_iret hC rfl dX12_several_91
    · refine zf_iconst hC (v := (-1)) dX12_several_90 rfl ?_
      exact zf_iret hC rfl dX12_several_91
/-! LifeKeysModel.signed -/
theorem dX12_signed_0 : decode cX12_signed 0 = .ok (.aload_n 0, 1) := by decide +kernel
theorem dX12_signed_1 : decode cX12_signed 1 = .ok (.iconst 0, 1) := by decide +kernel
theorem dX12_signed_2 : decode cX12_signed 2 = .ok (.putfield 181, 3) := by decide +kernel
theorem dX12_signed_5 : decode cX12_signed 5 = .ok (.iload_n 1, 1) := by decide +kernel
theorem dX12_signed_6 : decode cX12_signed 6 = .ok (.iconst 0, 1) := by decide +kernel
theorem dX12_signed_7 : decode cX12_signed 7 = .ok (.aload_n 0, 1) := by decide +kernel
theorem dX12_signed_8 : decode cX12_signed 8 = .ok (.getfield 428, 3) := by decide +kernel
theorem dX12_signed_11 : decode cX12_signed 11 = .ok (.iconst 1, 1) := by decide +kernel
theorem dX12_signed_12 : decode cX12_signed 12 = .ok (.isub, 1) := by decide +kernel
theorem dX12_signed_13 : decode cX12_signed 13 = .ok (.invokestatic 188, 3) := by decide +kernel
theorem dX12_signed_16 : decode cX12_signed 16 = .ok (.ifCond .ne 5, 3) := by decide +kernel
theorem dX12_signed_19 : decode cX12_signed 19 = .ok (.iconst (-1), 1) := by decide +kernel
theorem dX12_signed_20 : decode cX12_signed 20 = .ok (.ireturn, 1) := by decide +kernel
theorem dX12_signed_21 : decode cX12_signed 21 = .ok (.iload_n 2, 1) := by decide +kernel
theorem dX12_signed_22 : decode cX12_signed 22 = .ok (.tableswitch 69 0 4 #[34, 41, 48, 55, 62], 34) := by decide +kernel
theorem dX12_signed_56 : decode cX12_signed 56 = .ok (.aload_n 0, 1) := by decide +kernel
theorem dX12_signed_57 : decode cX12_signed 57 = .ok (.getfield 136, 3) := by decide +kernel
theorem dX12_signed_60 : decode cX12_signed 60 = .ok (.iload_n 1, 1) := by decide +kernel
theorem dX12_signed_61 : decode cX12_signed 61 = .ok (.iaload, 1) := by decide +kernel
theorem dX12_signed_62 : decode cX12_signed 62 = .ok (.ireturn, 1) := by decide +kernel
theorem dX12_signed_63 : decode cX12_signed 63 = .ok (.aload_n 0, 1) := by decide +kernel
theorem dX12_signed_64 : decode cX12_signed 64 = .ok (.getfield 139, 3) := by decide +kernel
theorem dX12_signed_67 : decode cX12_signed 67 = .ok (.iload_n 1, 1) := by decide +kernel
theorem dX12_signed_68 : decode cX12_signed 68 = .ok (.iaload, 1) := by decide +kernel
theorem dX12_signed_69 : decode cX12_signed 69 = .ok (.ireturn, 1) := by decide +kernel
theorem dX12_signed_70 : decode cX12_signed 70 = .ok (.aload_n 0, 1) := by decide +kernel
theorem dX12_signed_71 : decode cX12_signed 71 = .ok (.getfield 142, 3) := by decide +kernel
theorem dX12_signed_74 : decode cX12_signed 74 = .ok (.iload_n 1, 1) := by decide +kernel
theorem dX12_signed_75 : decode cX12_signed 75 = .ok (.iaload, 1) := by decide +kernel
theorem dX12_signed_76 : decode cX12_signed 76 = .ok (.ireturn, 1) := by decide +kernel
theorem dX12_signed_77 : decode cX12_signed 77 = .ok (.aload_n 0, 1) := by decide +kernel
theorem dX12_signed_78 : decode cX12_signed 78 = .ok (.getfield 145, 3) := by decide +kernel
theorem dX12_signed_81 : decode cX12_signed 81 = .ok (.iload_n 1, 1) := by decide +kernel
theorem dX12_signed_82 : decode cX12_signed 82 = .ok (.iaload, 1) := by decide +kernel
theorem dX12_signed_83 : decode cX12_signed 83 = .ok (.ireturn, 1) := by decide +kernel
theorem dX12_signed_84 : decode cX12_signed 84 = .ok (.aload_n 0, 1) := by decide +kernel
theorem dX12_signed_85 : decode cX12_signed 85 = .ok (.getfield 148, 3) := by decide +kernel
theorem dX12_signed_88 : decode cX12_signed 88 = .ok (.iload_n 1, 1) := by decide +kernel
theorem dX12_signed_89 : decode cX12_signed 89 = .ok (.iaload, 1) := by decide +kernel
theorem dX12_signed_90 : decode cX12_signed 90 = .ok (.ireturn, 1) := by decide +kernel
theorem dX12_signed_91 : decode cX12_signed 91 = .ok (.iconst (-1), 1) := by decide +kernel
theorem dX12_signed_92 : decode cX12_signed 92 = .ok (.ireturn, 1) := by decide +kernel
def fX12_signed (k : ST) (a0 : Int32) (a1 : Int32) : Option (Int32 × ST) := nm (sI k 11 0 0) fun k1 => ob (fX12_isIn k1 a0 0 ((gI k1 11 77) - 1)) fun r2 k3 => if r2 = true then if a1 = 0 then ck (inb a0 80) (some (gA k3 139 (ix a0), k3)) else if a1 = 1 then ck (inb a0 80) (some (gA k3 140 (ix a0), k3)) else if a1 = 2 then ck (inb a0 80) (some (gA k3 141 (ix a0), k3)) else if a1 = 3 then ck (inb a0 80) (some (gA k3 142 (ix a0), k3)) else if a1 = 4 then ck (inb a0 80) (some (gA k3 143 (ix a0), k3)) else some ((-1), k3) else some ((-1), k3)
set_option maxRecDepth 20000 in
theorem c_X12_signed (l : Launch) (g : GT) (a0 : Int32) (a1 : Int32) : CN l yX12_signed cX12_signed 3 (some .int) { frames := 1, cells := 0, slots := 0, locals := 22 } g TM voI [.ref (g.2.1 11), .int a0, .int a1] (fun k => fX12_signed k a0 a1) := by
  refine cn_of (by decide) (Nat.le_of_ble_eq_true rfl) ?_
  intro p e s m args below meth c hC k
  have hC : HC p s m args meth c cX12_signed 3 RX12 (some .int) g := hC
  have hR : 1 ≤ ({ frames := 1, cells := 0, slots := 0, locals := 22 } : Room).frames ∧ 22 ≤ ({ frames := 1, cells := 0, slots := 0, locals := 22 } : Room).locals := ⟨Nat.le_refl _, Nat.le_refl _⟩
  show ZF p l e _ s m args below meth c g TM voI 3 k 0 [(0, .ref (g.2.1 11)), (1, .int a0), (2, .int a1)] [] (fX12_signed k a0 a1)
  unfold fX12_signed
  refine zf_aload_n hC dX12_signed_0 rfl 0 rfl ?_
  refine zf_iconst hC (v := 0) dX12_signed_1 rfl ?_
  refine pf_1230 hC dX12_signed_2 ?_
  refine zf_nmk (fun k1 => ?_)
  refine zf_iload_n hC dX12_signed_5 rfl 1 rfl ?_
  refine zf_iconst hC (v := 0) dX12_signed_6 rfl ?_
  refine zf_aload_n hC dX12_signed_7 rfl 0 rfl ?_
  refine gf_1307 hC dX12_signed_8 ?_
  refine zf_iconst hC (v := 1) dX12_signed_11 rfl ?_
  refine zf_isub hC dX12_signed_12 ?_
  refine zf_callS hC (c_X12_isIn l g TM a0 0 ((gI k1 11 77) - 1)) mt_X12_isIn wd_1495 wd_1494 rfl (rm_le hR rfl) rfl rfl (rest := []) rfl (Nat.le_of_ble_eq_true rfl) dX12_signed_13 (fun r2 k3 h4 => ?_)
  refine zf_ifb_ne hC (tgt := 21) dX12_signed_16 (by decide) (fun h5 => ?_) (fun h5 => ?_)
  · refine zf_iload_n hC dX12_signed_21 rfl 2 rfl ?_
    refine zf_ite (fun h6 => ?_) (fun h6 => ?_)
    · refine zf_tabIn hC (tgt := 56) (off := 34) dX12_signed_22 (by rw [h6]; decide) (by rw [h6]; decide) (by rw [h6]; rfl) (by decide) ?_
      refine zf_aload_n hC dX12_signed_56 rfl 0 rfl ?_
      refine gf_1294 hC dX12_signed_57 ?_
      refine zf_iload_n hC dX12_signed_60 rfl 1 rfl ?_
      refine zf_iald hC (j := 139) ia_139 rfl rfl dX12_signed_61 (fun h7 => ?_)
      exact zf_iret hC rfl dX12_signed_62
    refine zf_ite (fun h8 => ?_) (fun h8 => ?_)
    · refine zf_tabIn hC (tgt := 63) (off := 41) dX12_signed_22 (by rw [h8]; decide) (by rw [h8]; decide) (by rw [h8]; rfl) (by decide) ?_
      refine zf_aload_n hC dX12_signed_63 rfl 0 rfl ?_
      refine gf_1295 hC dX12_signed_64 ?_
      refine zf_iload_n hC dX12_signed_67 rfl 1 rfl ?_
      refine zf_iald hC (j := 140) ia_140 rfl rfl dX12_signed_68 (fun h9 => ?_)
      exact zf_iret hC rfl dX12_signed_69
    refine zf_ite (fun h10 => ?_) (fun h10 => ?_)
    · refine zf_tabIn hC (tgt := 70) (off := 48) dX12_signed_22 (by rw [h10]; decide) (by rw [h10]; decide) (by rw [h10]; rfl) (by decide) ?_
      refine zf_aload_n hC dX12_signed_70 rfl 0 rfl ?_
      refine gf_1296 hC dX12_signed_71 ?_
      refine zf_iload_n hC dX12_signed_74 rfl 1 rfl ?_
      refine zf_iald hC (j := 141) ia_141 rfl rfl dX12_signed_75 (fun h11 => ?_)
      exact zf_iret hC rfl dX12_signed_76
    refine zf_ite (fun h12 => ?_) (fun h12 => ?_)
    · refine zf_tabIn hC (tgt := 77) (off := 55) dX12_signed_22 (by rw [h12]; decide) (by rw [h12]; decide) (by rw [h12]; rfl) (by decide) ?_
      refine zf_aload_n hC dX12_signed_77 rfl 0 rfl ?_
      refine gf_1297 hC dX12_signed_78 ?_
      refine zf_iload_n hC dX12_signed_81 rfl 1 rfl ?_
      refine zf_iald hC (j := 142) ia_142 rfl rfl dX12_signed_82 (fun h13 => ?_)
      exact zf_iret hC rfl dX12_signed_83
    refine zf_ite (fun h14 => ?_) (fun h14 => ?_)
    · refine zf_tabIn hC (tgt := 84) (off := 62) dX12_signed_22 (by rw [h14]; decide) (by rw [h14]; decide) (by rw [h14]; rfl) (by decide) ?_
      refine zf_aload_n hC dX12_signed_84 rfl 0 rfl ?_
      refine gf_1298 hC dX12_signed_85 ?_
      refine zf_iload_n hC dX12_signed_88 rfl 1 rfl ?_
      refine zf_iald hC (j := 143) ia_143 rfl rfl dX12_signed_89 (fun h15 => ?_)
      exact zf_iret hC rfl dX12_signed_90
    refine zf_tabOut hC (tgt := 91) dX12_signed_22 (by have zh6 := lv_neT h6 (a := 0) rfl; have zh8 := lv_neT h8 (a := 1) rfl; have zh10 := lv_neT h10 (a := 2) rfl; have zh12 := lv_neT h12 (a := 3) rfl; have zh14 := lv_neT h14 (a := 4) rfl; omega) (by decide) ?_
    refine zf_iconst hC (v := (-1)) dX12_signed_91 rfl ?_
    exact zf_iret hC rfl dX12_signed_92
  · refine zf_iconst hC (v := (-1)) dX12_signed_19 rfl ?_
    exact zf_iret hC rfl dX12_signed_20
/-! LifeKeysModel.taken -/
theorem dX12_taken_0 : decode cX12_taken 0 = .ok (.aload_n 0, 1) := by decide +kernel
theorem dX12_taken_1 : decode cX12_taken 1 = .ok (.iconst 0, 1) := by decide +kernel
theorem dX12_taken_2 : decode cX12_taken 2 = .ok (.putfield 181, 3) := by decide +kernel
theorem dX12_taken_5 : decode cX12_taken 5 = .ok (.aload_n 0, 1) := by decide +kernel
theorem dX12_taken_6 : decode cX12_taken 6 = .ok (.iload_n 1, 1) := by decide +kernel
theorem dX12_taken_7 : decode cX12_taken 7 = .ok (.invokevirtual 409, 3) := by decide +kernel
theorem dX12_taken_10 : decode cX12_taken 10 = .ok (.ifCond .eq 34, 3) := by decide +kernel
theorem dX12_taken_13 : decode cX12_taken 13 = .ok (.aload_n 0, 1) := by decide +kernel
theorem dX12_taken_14 : decode cX12_taken 14 = .ok (.iload_n 2, 1) := by decide +kernel
theorem dX12_taken_15 : decode cX12_taken 15 = .ok (.invokevirtual 216, 3) := by decide +kernel
theorem dX12_taken_18 : decode cX12_taken 18 = .ok (.ifCond .eq 26, 3) := by decide +kernel
theorem dX12_taken_21 : decode cX12_taken 21 = .ok (.iload_n 3, 1) := by decide +kernel
theorem dX12_taken_22 : decode cX12_taken 22 = .ok (.iconst 1, 1) := by decide +kernel
theorem dX12_taken_23 : decode cX12_taken 23 = .ok (.sipush 2038, 3) := by decide +kernel
theorem dX12_taken_26 : decode cX12_taken 26 = .ok (.invokestatic 188, 3) := by decide +kernel
theorem dX12_taken_29 : decode cX12_taken 29 = .ok (.ifCond .eq 15, 3) := by decide +kernel
theorem dX12_taken_32 : decode cX12_taken 32 = .ok (.iload 4, 2) := by decide +kernel
theorem dX12_taken_34 : decode cX12_taken 34 = .ok (.iconst 0, 1) := by decide +kernel
theorem dX12_taken_35 : decode cX12_taken 35 = .ok (.sipush 1018, 3) := by decide +kernel
theorem dX12_taken_38 : decode cX12_taken 38 = .ok (.invokestatic 188, 3) := by decide +kernel
theorem dX12_taken_41 : decode cX12_taken 41 = .ok (.ifCond .ne 5, 3) := by decide +kernel
theorem dX12_taken_44 : decode cX12_taken 44 = .ok (.iconst (-1), 1) := by decide +kernel
theorem dX12_taken_45 : decode cX12_taken 45 = .ok (.ireturn, 1) := by decide +kernel
theorem dX12_taken_46 : decode cX12_taken 46 = .ok (.iload 4, 2) := by decide +kernel
theorem dX12_taken_48 : decode cX12_taken 48 = .ok (.invokestatic 220, 3) := by decide +kernel
theorem dX12_taken_51 : decode cX12_taken 51 = .ok (.iload_n 3, 1) := by decide +kernel
theorem dX12_taken_52 : decode cX12_taken 52 = .ok (.aload_n 0, 1) := by decide +kernel
theorem dX12_taken_53 : decode cX12_taken 53 = .ok (.getfield 13, 3) := by decide +kernel
theorem dX12_taken_56 : decode cX12_taken 56 = .ok (.iload_n 2, 1) := by decide +kernel
theorem dX12_taken_57 : decode cX12_taken 57 = .ok (.iaload, 1) := by decide +kernel
theorem dX12_taken_58 : decode cX12_taken 58 = .ok (.invokestatic 220, 3) := by decide +kernel
theorem dX12_taken_61 : decode cX12_taken 61 = .ok (.iload_n 3, 1) := by decide +kernel
theorem dX12_taken_62 : decode cX12_taken 62 = .ok (.aload_n 0, 1) := by decide +kernel
theorem dX12_taken_63 : decode cX12_taken 63 = .ok (.getfield 100, 3) := by decide +kernel
theorem dX12_taken_66 : decode cX12_taken 66 = .ok (.iload_n 1, 1) := by decide +kernel
theorem dX12_taken_67 : decode cX12_taken 67 = .ok (.iaload, 1) := by decide +kernel
theorem dX12_taken_68 : decode cX12_taken 68 = .ok (.invokestatic 431, 3) := by decide +kernel
theorem dX12_taken_71 : decode cX12_taken 71 = .ok (.sipush 2039, 3) := by decide +kernel
theorem dX12_taken_74 : decode cX12_taken 74 = .ok (.invokestatic 192, 3) := by decide +kernel
theorem dX12_taken_77 : decode cX12_taken 77 = .ok (.imul, 1) := by decide +kernel
theorem dX12_taken_78 : decode cX12_taken 78 = .ok (.sipush 2039, 3) := by decide +kernel
theorem dX12_taken_81 : decode cX12_taken 81 = .ok (.irem, 1) := by decide +kernel
theorem dX12_taken_82 : decode cX12_taken 82 = .ok (.if_icmp .ne 7, 3) := by decide +kernel
theorem dX12_taken_85 : decode cX12_taken 85 = .ok (.iconst 1, 1) := by decide +kernel
theorem dX12_taken_86 : decode cX12_taken 86 = .ok (.goto 4, 3) := by decide +kernel
theorem dX12_taken_89 : decode cX12_taken 89 = .ok (.iconst 0, 1) := by decide +kernel
theorem dX12_taken_90 : decode cX12_taken 90 = .ok (.ireturn, 1) := by decide +kernel
def fX12_taken (k : ST) (a0 : Int32) (a1 : Int32) (a2 : Int32) (a3 : Int32) : Option (Int32 × ST) := nm (sI k 11 0 0) fun k1 => ob (fX12_isThing k1 a0) fun r2 k3 => if r2 = true then ob (fX12_isKey k3 a1) fun r6 k7 => if r6 = true then ob (fX12_isIn k7 a2 1 2038) fun r10 k11 => if r10 = true then ob (fX12_isIn k11 a3 0 1018) fun r14 k15 => if r14 = true then ob (fX12_four k15 a3) fun r18 k19 => ck (inb a1 40) (ob (fX12_four k19 (gA k19 100 (ix a1))) fun r22 k23 => ck (inb a0 40) (ob (fX12_challenge k23 a2 (gA k23 128 (ix a0))) fun r26 k27 => ob (fX12_power k27 r22 r26 2039) fun r29 k30 => if r18 = (j_rem (a2 * r29) 2039) then some (1, k30) else some (0, k30))) else some ((-1), k15) else some ((-1), k11) else some ((-1), k7) else some ((-1), k3)
set_option maxRecDepth 20000 in
theorem c_X12_taken (l : Launch) (g : GT) (a0 : Int32) (a1 : Int32) (a2 : Int32) (a3 : Int32) : CN l yX12_taken cX12_taken 5 (some .int) { frames := 2, cells := 0, slots := 0, locals := 44 } g TM voI [.ref (g.2.1 11), .int a0, .int a1, .int a2, .int a3] (fun k => fX12_taken k a0 a1 a2 a3) := by
  refine cn_of (by decide) (Nat.le_of_ble_eq_true rfl) ?_
  intro p e s m args below meth c hC k
  have hC : HC p s m args meth c cX12_taken 5 RX12 (some .int) g := hC
  have hR : 2 ≤ ({ frames := 2, cells := 0, slots := 0, locals := 44 } : Room).frames ∧ 44 ≤ ({ frames := 2, cells := 0, slots := 0, locals := 44 } : Room).locals := ⟨Nat.le_refl _, Nat.le_refl _⟩
  show ZF p l e _ s m args below meth c g TM voI 5 k 0 [(0, .ref (g.2.1 11)), (1, .int a0), (2, .int a1), (3, .int a2), (4, .int a3)] [] (fX12_taken k a0 a1 a2 a3)
  unfold fX12_taken
  refine zf_aload_n hC dX12_taken_0 rfl 0 rfl ?_
  refine zf_iconst hC (v := 0) dX12_taken_1 rfl ?_
  refine pf_1230 hC dX12_taken_2 ?_
  refine zf_nmk (fun k1 => ?_)
  refine zf_aload_n hC dX12_taken_5 rfl 0 rfl ?_
  refine zf_iload_n hC dX12_taken_6 rfl 1 rfl ?_
  refine zf_callV hC (c_X12_isThing l g a0) mt_X12_isThing wd_1743 sp_75 ci_11 ic_11 wd_1741 rfl (rm_le hR rfl) rfl rfl (rest := []) rfl (Nat.le_of_ble_eq_true rfl) dX12_taken_7 (fun r2 k3 h4 => ?_)
  refine zf_ifb_eq hC (tgt := 44) dX12_taken_10 (by decide) (fun h5 => ?_) (fun h5 => ?_)
  · refine zf_aload_n hC dX12_taken_13 rfl 0 rfl ?_
    refine zf_iload_n hC dX12_taken_14 rfl 2 rfl ?_
    refine zf_callV hC (c_X12_isKey l g a1) mt_X12_isKey wd_1530 sp_47 ci_11 ic_11 wd_1528 rfl (rm_le hR rfl) rfl rfl (rest := []) rfl (Nat.le_of_ble_eq_true rfl) dX12_taken_15 (fun r6 k7 h8 => ?_)
    refine zf_ifb_eq hC (tgt := 44) dX12_taken_18 (by decide) (fun h9 => ?_) (fun h9 => ?_)
    · refine zf_iload_n hC dX12_taken_21 rfl 3 rfl ?_
      refine zf_iconst hC (v := 1) dX12_taken_22 rfl ?_
      refine zf_sipush hC (v := 2038) dX12_taken_23 rfl ?_
      refine zf_callS hC (c_X12_isIn l g TM a2 1 2038) mt_X12_isIn wd_1495 wd_1494 rfl (rm_le hR rfl) rfl rfl (rest := []) rfl (Nat.le_of_ble_eq_true rfl) dX12_taken_26 (fun r10 k11 h12 => ?_)
      refine zf_ifb_eq hC (tgt := 44) dX12_taken_29 (by decide) (fun h13 => ?_) (fun h13 => ?_)
      · refine zf_iload hC dX12_taken_32 4 rfl ?_
        refine zf_iconst hC (v := 0) dX12_taken_34 rfl ?_
        refine zf_sipush hC (v := 1018) dX12_taken_35 rfl ?_
        refine zf_callS hC (c_X12_isIn l g TM a3 0 1018) mt_X12_isIn wd_1495 wd_1494 rfl (rm_le hR rfl) rfl rfl (rest := []) rfl (Nat.le_of_ble_eq_true rfl) dX12_taken_38 (fun r14 k15 h16 => ?_)
        refine zf_ifb_ne hC (tgt := 46) dX12_taken_41 (by decide) (fun h17 => ?_) (fun h17 => ?_)
        · refine zf_iload hC dX12_taken_46 4 rfl ?_
          refine zf_callS hC (c_X12_four l g TM a3) mt_X12_four wd_1537 wd_1536 rfl (rm_le hR rfl) rfl rfl (rest := []) rfl (Nat.le_of_ble_eq_true rfl) dX12_taken_48 (fun r18 k19 h20 => ?_)
          refine zf_iload_n hC dX12_taken_51 rfl 3 rfl ?_
          refine zf_aload_n hC dX12_taken_52 rfl 0 rfl ?_
          refine gf_1233 hC dX12_taken_53 ?_
          refine zf_iload_n hC dX12_taken_56 rfl 2 rfl ?_
          refine zf_iald hC (j := 100) ia_100 rfl rfl dX12_taken_57 (fun h21 => ?_)
          refine zf_callS hC (c_X12_four l g TM (gA k19 100 (ix a1))) mt_X12_four wd_1537 wd_1536 rfl (rm_le hR rfl) rfl rfl (rest := [.int a2, .int r18]) rfl (Nat.le_of_ble_eq_true rfl) dX12_taken_58 (fun r22 k23 h24 => ?_)
          refine zf_iload_n hC dX12_taken_61 rfl 3 rfl ?_
          refine zf_aload_n hC dX12_taken_62 rfl 0 rfl ?_
          refine gf_1268 hC dX12_taken_63 ?_
          refine zf_iload_n hC dX12_taken_66 rfl 1 rfl ?_
          refine zf_iald hC (j := 128) ia_128 rfl rfl dX12_taken_67 (fun h25 => ?_)
          refine zf_callS hC (c_X12_challenge l g TM a2 (gA k23 128 (ix a0))) mt_X12_challenge wd_1801 wd_1800 rfl (rm_le hR rfl) rfl rfl (rest := [.int r22, .int a2, .int r18]) rfl (Nat.le_of_ble_eq_true rfl) dX12_taken_68 (fun r26 k27 h28 => ?_)
          refine zf_sipush hC (v := 2039) dX12_taken_71 rfl ?_
          refine zf_callS hC (c_X12_power l g TM r22 r26 2039) mt_X12_power wd_1540 wd_1539 rfl (rm_le hR rfl) rfl rfl (rest := [.int a2, .int r18]) rfl (Nat.le_of_ble_eq_true rfl) dX12_taken_74 (fun r29 k30 h31 => ?_)
          refine zf_imul hC dX12_taken_77 ?_
          refine zf_sipush hC (v := 2039) dX12_taken_78 rfl ?_
          refine zf_irem hC dX12_taken_81 (by decide) ?_
          refine zf_icmp_ne hC (tgt := 89) dX12_taken_82 (by decide) (fun h32 => ?_) (fun h32 => ?_)
          · refine zf_iconst hC (v := 1) dX12_taken_85 rfl ?_
            refine zf_goto hC (tgt := 90) dX12_taken_86 (by decide) ?_
            exact zf_iret hC rfl dX12_taken_90
          · refine zf_iconst hC (v := 0) dX12_taken_89 rfl ?_
            exact zf_iret hC rfl dX12_taken_90
        · refine zf_iconst hC (v := (-1)) dX12_taken_44 rfl ?_
          exact zf_iret hC rfl dX12_taken_45
      · refine zf_iconst hC (v := (-1)) dX12_taken_44 rfl ?_
        exact zf_iret hC rfl dX12_taken_45
    · refine zf_iconst hC (v := (-1)) dX12_taken_44 rfl ?_
      exact zf_iret hC rfl dX12_taken_45
  · refine zf_iconst hC (v := (-1)) dX12_taken_44 rfl ?_
    exact zf_iret hC rfl dX12_taken_45
/-! LifeKeysModel.burn -/
theorem dX12_burn_0 : decode cX12_burn 0 = .ok (.aload_n 0, 1) := by decide +kernel
theorem dX12_burn_1 : decode cX12_burn 1 = .ok (.iconst 0, 1) := by decide +kernel
theorem dX12_burn_2 : decode cX12_burn 2 = .ok (.putfield 181, 3) := by decide +kernel
theorem dX12_burn_5 : decode cX12_burn 5 = .ok (.aload_n 0, 1) := by decide +kernel
theorem dX12_burn_6 : decode cX12_burn 6 = .ok (.getfield 422, 3) := by decide +kernel
theorem dX12_burn_9 : decode cX12_burn 9 = .ok (.bipush 60, 2) := by decide +kernel
theorem dX12_burn_11 : decode cX12_burn 11 = .ok (.if_icmp .eq 18, 3) := by decide +kernel
theorem dX12_burn_14 : decode cX12_burn 14 = .ok (.aload_n 0, 1) := by decide +kernel
theorem dX12_burn_15 : decode cX12_burn 15 = .ok (.iload_n 1, 1) := by decide +kernel
theorem dX12_burn_16 : decode cX12_burn 16 = .ok (.invokevirtual 216, 3) := by decide +kernel
theorem dX12_burn_19 : decode cX12_burn 19 = .ok (.ifCond .eq 10, 3) := by decide +kernel
theorem dX12_burn_22 : decode cX12_burn 22 = .ok (.iload_n 2, 1) := by decide +kernel
theorem dX12_burn_23 : decode cX12_burn 23 = .ok (.invokestatic 416, 3) := by decide +kernel
theorem dX12_burn_26 : decode cX12_burn 26 = .ok (.ifCond .ne 5, 3) := by decide +kernel
theorem dX12_burn_29 : decode cX12_burn 29 = .ok (.iconst 0, 1) := by decide +kernel
theorem dX12_burn_30 : decode cX12_burn 30 = .ok (.ireturn, 1) := by decide +kernel
theorem dX12_burn_31 : decode cX12_burn 31 = .ok (.aload_n 0, 1) := by decide +kernel
theorem dX12_burn_32 : decode cX12_burn 32 = .ok (.getfield 151, 3) := by decide +kernel
theorem dX12_burn_35 : decode cX12_burn 35 = .ok (.aload_n 0, 1) := by decide +kernel
theorem dX12_burn_36 : decode cX12_burn 36 = .ok (.getfield 422, 3) := by decide +kernel
theorem dX12_burn_39 : decode cX12_burn 39 = .ok (.iload_n 1, 1) := by decide +kernel
theorem dX12_burn_40 : decode cX12_burn 40 = .ok (.iastore, 1) := by decide +kernel
theorem dX12_burn_41 : decode cX12_burn 41 = .ok (.aload_n 0, 1) := by decide +kernel
theorem dX12_burn_42 : decode cX12_burn 42 = .ok (.getfield 154, 3) := by decide +kernel
theorem dX12_burn_45 : decode cX12_burn 45 = .ok (.aload_n 0, 1) := by decide +kernel
theorem dX12_burn_46 : decode cX12_burn 46 = .ok (.getfield 422, 3) := by decide +kernel
theorem dX12_burn_49 : decode cX12_burn 49 = .ok (.iload_n 2, 1) := by decide +kernel
theorem dX12_burn_50 : decode cX12_burn 50 = .ok (.iastore, 1) := by decide +kernel
theorem dX12_burn_51 : decode cX12_burn 51 = .ok (.aload_n 0, 1) := by decide +kernel
theorem dX12_burn_52 : decode cX12_burn 52 = .ok (.getfield 157, 3) := by decide +kernel
theorem dX12_burn_55 : decode cX12_burn 55 = .ok (.aload_n 0, 1) := by decide +kernel
theorem dX12_burn_56 : decode cX12_burn 56 = .ok (.getfield 422, 3) := by decide +kernel
theorem dX12_burn_59 : decode cX12_burn 59 = .ok (.aload_n 0, 1) := by decide +kernel
theorem dX12_burn_60 : decode cX12_burn 60 = .ok (.getfield 185, 3) := by decide +kernel
theorem dX12_burn_63 : decode cX12_burn 63 = .ok (.iastore, 1) := by decide +kernel
theorem dX12_burn_64 : decode cX12_burn 64 = .ok (.aload_n 0, 1) := by decide +kernel
theorem dX12_burn_65 : decode cX12_burn 65 = .ok (.dup, 1) := by decide +kernel
theorem dX12_burn_66 : decode cX12_burn 66 = .ok (.getfield 422, 3) := by decide +kernel
theorem dX12_burn_69 : decode cX12_burn 69 = .ok (.iconst 1, 1) := by decide +kernel
theorem dX12_burn_70 : decode cX12_burn 70 = .ok (.iadd, 1) := by decide +kernel
theorem dX12_burn_71 : decode cX12_burn 71 = .ok (.putfield 422, 3) := by decide +kernel
theorem dX12_burn_74 : decode cX12_burn 74 = .ok (.iconst 1, 1) := by decide +kernel
theorem dX12_burn_75 : decode cX12_burn 75 = .ok (.ireturn, 1) := by decide +kernel
def fX12_burn (k : ST) (a0 : Int32) (a1 : Int32) : Option (Bool × ST) := nm (sI k 11 0 0) fun k1 => if (gI k1 11 78) = 60 then some (false, k1) else ob (fX12_isKey k1 a0) fun r3 k4 => if r3 = true then ob (fX12_isDay k4 a1) fun r7 k8 => if r7 = true then ck (inb (gI k8 11 78) 60) (nm (sA k8 144 (ix (gI k8 11 78)) a0) fun k12 => ck (inb (gI k12 11 78) 60) (nm (sA k12 145 (ix (gI k12 11 78)) a1) fun k14 => ck (inb (gI k14 11 78) 60) (nm (sA k14 146 (ix (gI k14 11 78)) (gI k14 11 1)) fun k16 => nm (sI k16 11 78 ((gI k16 11 78) + 1)) fun k17 => some (true, k17)))) else some (false, k8) else some (false, k4)
set_option maxRecDepth 20000 in
theorem c_X12_burn (l : Launch) (g : GT) (a0 : Int32) (a1 : Int32) : CN l yX12_burn cX12_burn 3 (some .boolean) { frames := 2, cells := 0, slots := 0, locals := 42 } g TM voB [.ref (g.2.1 11), .int a0, .int a1] (fun k => fX12_burn k a0 a1) := by
  refine cn_of (by decide) (Nat.le_of_ble_eq_true rfl) ?_
  intro p e s m args below meth c hC k
  have hC : HC p s m args meth c cX12_burn 3 RX12 (some .boolean) g := hC
  have hR : 2 ≤ ({ frames := 2, cells := 0, slots := 0, locals := 42 } : Room).frames ∧ 42 ≤ ({ frames := 2, cells := 0, slots := 0, locals := 42 } : Room).locals := ⟨Nat.le_refl _, Nat.le_refl _⟩
  show ZF p l e _ s m args below meth c g TM voB 3 k 0 [(0, .ref (g.2.1 11)), (1, .int a0), (2, .int a1)] [] (fX12_burn k a0 a1)
  unfold fX12_burn
  refine zf_aload_n hC dX12_burn_0 rfl 0 rfl ?_
  refine zf_iconst hC (v := 0) dX12_burn_1 rfl ?_
  refine pf_1230 hC dX12_burn_2 ?_
  refine zf_nmk (fun k1 => ?_)
  refine zf_aload_n hC dX12_burn_5 rfl 0 rfl ?_
  refine gf_1308 hC dX12_burn_6 ?_
  refine zf_bipush hC (v := 60) dX12_burn_9 rfl ?_
  refine zf_icmp_eq hC (tgt := 29) dX12_burn_11 (by decide) (fun h2 => ?_) (fun h2 => ?_)
  · refine zf_iconst hC (v := 0) dX12_burn_29 rfl ?_
    exact zf_zret hC rfl false rfl dX12_burn_30
  · refine zf_aload_n hC dX12_burn_14 rfl 0 rfl ?_
    refine zf_iload_n hC dX12_burn_15 rfl 1 rfl ?_
    refine zf_callV hC (c_X12_isKey l g a0) mt_X12_isKey wd_1530 sp_47 ci_11 ic_11 wd_1528 rfl (rm_le hR rfl) rfl rfl (rest := []) rfl (Nat.le_of_ble_eq_true rfl) dX12_burn_16 (fun r3 k4 h5 => ?_)
    refine zf_ifb_eq hC (tgt := 29) dX12_burn_19 (by decide) (fun h6 => ?_) (fun h6 => ?_)
    · refine zf_iload_n hC dX12_burn_22 rfl 2 rfl ?_
      refine zf_callS hC (c_X12_isDay l g TM a1) mt_X12_isDay wd_1762 wd_1761 rfl (rm_le hR rfl) rfl rfl (rest := []) rfl (Nat.le_of_ble_eq_true rfl) dX12_burn_23 (fun r7 k8 h9 => ?_)
      refine zf_ifb_ne hC (tgt := 31) dX12_burn_26 (by decide) (fun h10 => ?_) (fun h10 => ?_)
      · refine zf_aload_n hC dX12_burn_31 rfl 0 rfl ?_
        refine gf_1299 hC dX12_burn_32 ?_
        refine zf_aload_n hC dX12_burn_35 rfl 0 rfl ?_
        refine gf_1308 hC dX12_burn_36 ?_
        refine zf_iload_n hC dX12_burn_39 rfl 1 rfl ?_
        refine zf_iast hC (j := 144) ia_144 rfl rfl dX12_burn_40 (fun h11 => ?_)
        refine zf_nmk (fun k12 => ?_)
        refine zf_aload_n hC dX12_burn_41 rfl 0 rfl ?_
        refine gf_1300 hC dX12_burn_42 ?_
        refine zf_aload_n hC dX12_burn_45 rfl 0 rfl ?_
        refine gf_1308 hC dX12_burn_46 ?_
        refine zf_iload_n hC dX12_burn_49 rfl 2 rfl ?_
        refine zf_iast hC (j := 145) ia_145 rfl rfl dX12_burn_50 (fun h13 => ?_)
        refine zf_nmk (fun k14 => ?_)
        refine zf_aload_n hC dX12_burn_51 rfl 0 rfl ?_
        refine gf_1301 hC dX12_burn_52 ?_
        refine zf_aload_n hC dX12_burn_55 rfl 0 rfl ?_
        refine gf_1308 hC dX12_burn_56 ?_
        refine zf_aload_n hC dX12_burn_59 rfl 0 rfl ?_
        refine gf_1231 hC dX12_burn_60 ?_
        refine zf_iast hC (j := 146) ia_146 rfl rfl dX12_burn_63 (fun h15 => ?_)
        refine zf_nmk (fun k16 => ?_)
        refine zf_aload_n hC dX12_burn_64 rfl 0 rfl ?_
        refine zf_dup hC dX12_burn_65 rfl ?_
        refine gf_1308 hC dX12_burn_66 ?_
        refine zf_iconst hC (v := 1) dX12_burn_69 rfl ?_
        refine zf_iadd hC dX12_burn_70 ?_
        refine pf_1308 hC dX12_burn_71 ?_
        refine zf_nmk (fun k17 => ?_)
        refine zf_iconst hC (v := 1) dX12_burn_74 rfl ?_
        exact zf_zret hC rfl true rfl dX12_burn_75
      · refine zf_iconst hC (v := 0) dX12_burn_29 rfl ?_
        exact zf_zret hC rfl false rfl dX12_burn_30
    · refine zf_iconst hC (v := 0) dX12_burn_29 rfl ?_
      exact zf_zret hC rfl false rfl dX12_burn_30
/-! LifeKeysModel.old -/
theorem dX12_old_0 : decode cX12_old 0 = .ok (.aload_n 0, 1) := by decide +kernel
theorem dX12_old_1 : decode cX12_old 1 = .ok (.iconst 0, 1) := by decide +kernel
theorem dX12_old_2 : decode cX12_old 2 = .ok (.putfield 181, 3) := by decide +kernel
theorem dX12_old_5 : decode cX12_old 5 = .ok (.aload_n 0, 1) := by decide +kernel
theorem dX12_old_6 : decode cX12_old 6 = .ok (.iload_n 1, 1) := by decide +kernel
theorem dX12_old_7 : decode cX12_old 7 = .ok (.invokevirtual 216, 3) := by decide +kernel
theorem dX12_old_10 : decode cX12_old 10 = .ok (.ifCond .eq 13, 3) := by decide +kernel
theorem dX12_old_13 : decode cX12_old 13 = .ok (.aload_n 0, 1) := by decide +kernel
theorem dX12_old_14 : decode cX12_old 14 = .ok (.getfield 22, 3) := by decide +kernel
theorem dX12_old_17 : decode cX12_old 17 = .ok (.iload_n 1, 1) := by decide +kernel
theorem dX12_old_18 : decode cX12_old 18 = .ok (.iaload, 1) := by decide +kernel
theorem dX12_old_19 : decode cX12_old 19 = .ok (.iconst (-1), 1) := by decide +kernel
theorem dX12_old_20 : decode cX12_old 20 = .ok (.if_icmp .eq 5, 3) := by decide +kernel
theorem dX12_old_23 : decode cX12_old 23 = .ok (.iconst 0, 1) := by decide +kernel
theorem dX12_old_24 : decode cX12_old 24 = .ok (.ireturn, 1) := by decide +kernel
theorem dX12_old_25 : decode cX12_old 25 = .ok (.aload_n 0, 1) := by decide +kernel
theorem dX12_old_26 : decode cX12_old 26 = .ok (.getfield 22, 3) := by decide +kernel
theorem dX12_old_29 : decode cX12_old 29 = .ok (.iload_n 1, 1) := by decide +kernel
theorem dX12_old_30 : decode cX12_old 30 = .ok (.aload_n 0, 1) := by decide +kernel
theorem dX12_old_31 : decode cX12_old 31 = .ok (.getfield 185, 3) := by decide +kernel
theorem dX12_old_34 : decode cX12_old 34 = .ok (.iastore, 1) := by decide +kernel
theorem dX12_old_35 : decode cX12_old 35 = .ok (.iconst 1, 1) := by decide +kernel
theorem dX12_old_36 : decode cX12_old 36 = .ok (.ireturn, 1) := by decide +kernel
def fX12_old (k : ST) (a0 : Int32) : Option (Bool × ST) := nm (sI k 11 0 0) fun k1 => ob (fX12_isKey k1 a0) fun r2 k3 => if r2 = true then ck (inb a0 40) (if (gA k3 103 (ix a0)) = (-1) then ck (inb a0 40) (nm (sA k3 103 (ix a0) (gI k3 11 1)) fun k9 => some (true, k9)) else some (false, k3)) else some (false, k3)
set_option maxRecDepth 20000 in
theorem c_X12_old (l : Launch) (g : GT) (a0 : Int32) : CN l yX12_old cX12_old 2 (some .boolean) { frames := 1, cells := 0, slots := 0, locals := 21 } g TM voB [.ref (g.2.1 11), .int a0] (fun k => fX12_old k a0) := by
  refine cn_of (by decide) (Nat.le_of_ble_eq_true rfl) ?_
  intro p e s m args below meth c hC k
  have hC : HC p s m args meth c cX12_old 2 RX12 (some .boolean) g := hC
  have hR : 1 ≤ ({ frames := 1, cells := 0, slots := 0, locals := 21 } : Room).frames ∧ 21 ≤ ({ frames := 1, cells := 0, slots := 0, locals := 21 } : Room).locals := ⟨Nat.le_refl _, Nat.le_refl _⟩
  show ZF p l e _ s m args below meth c g TM voB 2 k 0 [(0, .ref (g.2.1 11)), (1, .int a0)] [] (fX12_old k a0)
  unfold fX12_old
  refine zf_aload_n hC dX12_old_0 rfl 0 rfl ?_
  refine zf_iconst hC (v := 0) dX12_old_1 rfl ?_
  refine pf_1230 hC dX12_old_2 ?_
  refine zf_nmk (fun k1 => ?_)
  refine zf_aload_n hC dX12_old_5 rfl 0 rfl ?_
  refine zf_iload_n hC dX12_old_6 rfl 1 rfl ?_
  refine zf_callV hC (c_X12_isKey l g a0) mt_X12_isKey wd_1530 sp_47 ci_11 ic_11 wd_1528 rfl (rm_le hR rfl) rfl rfl (rest := []) rfl (Nat.le_of_ble_eq_true rfl) dX12_old_7 (fun r2 k3 h4 => ?_)
  refine zf_ifb_eq hC (tgt := 23) dX12_old_10 (by decide) (fun h5 => ?_) (fun h5 => ?_)
  · refine zf_aload_n hC dX12_old_13 rfl 0 rfl ?_
    refine gf_1236 hC dX12_old_14 ?_
    refine zf_iload_n hC dX12_old_17 rfl 1 rfl ?_
    refine zf_iald hC (j := 103) ia_103 rfl rfl dX12_old_18 (fun h6 => ?_)
    refine zf_iconst hC (v := (-1)) dX12_old_19 rfl ?_
    refine zf_icmp_eq hC (tgt := 25) dX12_old_20 (by decide) (fun h7 => ?_) (fun h7 => ?_)
    · refine zf_aload_n hC dX12_old_25 rfl 0 rfl ?_
      refine gf_1236 hC dX12_old_26 ?_
      refine zf_iload_n hC dX12_old_29 rfl 1 rfl ?_
      refine zf_aload_n hC dX12_old_30 rfl 0 rfl ?_
      refine gf_1231 hC dX12_old_31 ?_
      refine zf_iast hC (j := 103) ia_103 rfl rfl dX12_old_34 (fun h8 => ?_)
      refine zf_nmk (fun k9 => ?_)
      refine zf_iconst hC (v := 1) dX12_old_35 rfl ?_
      exact zf_zret hC rfl true rfl dX12_old_36
    · refine zf_iconst hC (v := 0) dX12_old_23 rfl ?_
      exact zf_zret hC rfl false rfl dX12_old_24
  · refine zf_iconst hC (v := 0) dX12_old_23 rfl ?_
    exact zf_zret hC rfl false rfl dX12_old_24
/-! LifeKeysModel.stands -/
theorem dX12_stands_0 : decode cX12_stands 0 = .ok (.aload_n 0, 1) := by decide +kernel
theorem dX12_stands_1 : decode cX12_stands 1 = .ok (.iconst 0, 1) := by decide +kernel
theorem dX12_stands_2 : decode cX12_stands 2 = .ok (.putfield 181, 3) := by decide +kernel
theorem dX12_stands_5 : decode cX12_stands 5 = .ok (.iload_n 1, 1) := by decide +kernel
theorem dX12_stands_6 : decode cX12_stands 6 = .ok (.iconst 0, 1) := by decide +kernel
theorem dX12_stands_7 : decode cX12_stands 7 = .ok (.aload_n 0, 1) := by decide +kernel
theorem dX12_stands_8 : decode cX12_stands 8 = .ok (.getfield 428, 3) := by decide +kernel
theorem dX12_stands_11 : decode cX12_stands 11 = .ok (.iconst 1, 1) := by decide +kernel
theorem dX12_stands_12 : decode cX12_stands 12 = .ok (.isub, 1) := by decide +kernel
theorem dX12_stands_13 : decode cX12_stands 13 = .ok (.invokestatic 188, 3) := by decide +kernel
theorem dX12_stands_16 : decode cX12_stands 16 = .ok (.ifCond .eq 21, 3) := by decide +kernel
theorem dX12_stands_19 : decode cX12_stands 19 = .ok (.aload_n 0, 1) := by decide +kernel
theorem dX12_stands_20 : decode cX12_stands 20 = .ok (.iload_n 2, 1) := by decide +kernel
theorem dX12_stands_21 : decode cX12_stands 21 = .ok (.invokevirtual 307, 3) := by decide +kernel
theorem dX12_stands_24 : decode cX12_stands 24 = .ok (.ifCond .eq 13, 3) := by decide +kernel
theorem dX12_stands_27 : decode cX12_stands 27 = .ok (.aload_n 0, 1) := by decide +kernel
theorem dX12_stands_28 : decode cX12_stands 28 = .ok (.getfield 148, 3) := by decide +kernel
theorem dX12_stands_31 : decode cX12_stands 31 = .ok (.iload_n 1, 1) := by decide +kernel
theorem dX12_stands_32 : decode cX12_stands 32 = .ok (.iaload, 1) := by decide +kernel
theorem dX12_stands_33 : decode cX12_stands 33 = .ok (.iload_n 2, 1) := by decide +kernel
theorem dX12_stands_34 : decode cX12_stands 34 = .ok (.if_icmp .le 5, 3) := by decide +kernel
theorem dX12_stands_37 : decode cX12_stands 37 = .ok (.iconst (-1), 1) := by decide +kernel
theorem dX12_stands_38 : decode cX12_stands 38 = .ok (.ireturn, 1) := by decide +kernel
theorem dX12_stands_39 : decode cX12_stands 39 = .ok (.aload_n 0, 1) := by decide +kernel
theorem dX12_stands_40 : decode cX12_stands 40 = .ok (.getfield 148, 3) := by decide +kernel
theorem dX12_stands_43 : decode cX12_stands 43 = .ok (.iload_n 1, 1) := by decide +kernel
theorem dX12_stands_44 : decode cX12_stands 44 = .ok (.iaload, 1) := by decide +kernel
theorem dX12_stands_45 : decode cX12_stands 45 = .ok (.istore_n 3, 1) := by decide +kernel
theorem dX12_stands_46 : decode cX12_stands 46 = .ok (.aload_n 0, 1) := by decide +kernel
theorem dX12_stands_47 : decode cX12_stands 47 = .ok (.aload_n 0, 1) := by decide +kernel
theorem dX12_stands_48 : decode cX12_stands 48 = .ok (.getfield 142, 3) := by decide +kernel
theorem dX12_stands_51 : decode cX12_stands 51 = .ok (.iload_n 1, 1) := by decide +kernel
theorem dX12_stands_52 : decode cX12_stands 52 = .ok (.iaload, 1) := by decide +kernel
theorem dX12_stands_53 : decode cX12_stands 53 = .ok (.iload_n 2, 1) := by decide +kernel
theorem dX12_stands_54 : decode cX12_stands 54 = .ok (.invokevirtual 425, 3) := by decide +kernel
theorem dX12_stands_57 : decode cX12_stands 57 = .ok (.istore 4, 2) := by decide +kernel
theorem dX12_stands_59 : decode cX12_stands 59 = .ok (.iload 4, 2) := by decide +kernel
theorem dX12_stands_61 : decode cX12_stands 61 = .ok (.iconst (-1), 1) := by decide +kernel
theorem dX12_stands_62 : decode cX12_stands 62 = .ok (.if_icmp .eq 9, 3) := by decide +kernel
theorem dX12_stands_65 : decode cX12_stands 65 = .ok (.iload 4, 2) := by decide +kernel
theorem dX12_stands_67 : decode cX12_stands 67 = .ok (.iload_n 3, 1) := by decide +kernel
theorem dX12_stands_68 : decode cX12_stands 68 = .ok (.if_icmp .le 5, 3) := by decide +kernel
theorem dX12_stands_71 : decode cX12_stands 71 = .ok (.iconst 1, 1) := by decide +kernel
theorem dX12_stands_72 : decode cX12_stands 72 = .ok (.ireturn, 1) := by decide +kernel
theorem dX12_stands_73 : decode cX12_stands 73 = .ok (.aload_n 0, 1) := by decide +kernel
theorem dX12_stands_74 : decode cX12_stands 74 = .ok (.aload_n 0, 1) := by decide +kernel
theorem dX12_stands_75 : decode cX12_stands 75 = .ok (.getfield 142, 3) := by decide +kernel
theorem dX12_stands_78 : decode cX12_stands 78 = .ok (.iload_n 1, 1) := by decide +kernel
theorem dX12_stands_79 : decode cX12_stands 79 = .ok (.iaload, 1) := by decide +kernel
theorem dX12_stands_80 : decode cX12_stands 80 = .ok (.iload_n 3, 1) := by decide +kernel
theorem dX12_stands_81 : decode cX12_stands 81 = .ok (.invokevirtual 425, 3) := by decide +kernel
theorem dX12_stands_84 : decode cX12_stands 84 = .ok (.istore 5, 2) := by decide +kernel
theorem dX12_stands_86 : decode cX12_stands 86 = .ok (.iload 5, 2) := by decide +kernel
theorem dX12_stands_88 : decode cX12_stands 88 = .ok (.iconst (-1), 1) := by decide +kernel
theorem dX12_stands_89 : decode cX12_stands 89 = .ok (.if_icmp .eq 13, 3) := by decide +kernel
theorem dX12_stands_92 : decode cX12_stands 92 = .ok (.iload 5, 2) := by decide +kernel
theorem dX12_stands_94 : decode cX12_stands 94 = .ok (.iload_n 3, 1) := by decide +kernel
theorem dX12_stands_95 : decode cX12_stands 95 = .ok (.if_icmp .gt 7, 3) := by decide +kernel
theorem dX12_stands_98 : decode cX12_stands 98 = .ok (.iconst 3, 1) := by decide +kernel
theorem dX12_stands_99 : decode cX12_stands 99 = .ok (.goto 4, 3) := by decide +kernel
theorem dX12_stands_102 : decode cX12_stands 102 = .ok (.iconst 2, 1) := by decide +kernel
theorem dX12_stands_103 : decode cX12_stands 103 = .ok (.ireturn, 1) := by decide +kernel
def fX12_stands (k : ST) (a0 : Int32) (a1 : Int32) : Option (Int32 × ST) := nm (sI k 11 0 0) fun k1 => ob (fX12_isIn k1 a0 0 ((gI k1 11 77) - 1)) fun r2 k3 => if r2 = true then ob (fX12_isKnown k3 a1) fun r6 k7 => if r6 = true then ck (inb a0 80) (if (gA k7 143 (ix a0)) ≤ a1 then ck (inb a0 80) (ck (inb a0 80) (ob (fX12_burntFrom k7 (gA k7 141 (ix a0)) a1) fun r14 k15 => if r14 = (-1) then some (1, k15) else if r14 ≤ (gA k7 143 (ix a0)) then ck (inb a0 80) (ob (fX12_burntFrom k15 (gA k15 141 (ix a0)) (gA k7 143 (ix a0))) fun r20 k21 => if r20 = (-1) then some (2, k21) else if (gA k7 143 (ix a0)) < r20 then some (2, k21) else some (3, k21)) else some (1, k15))) else some ((-1), k7)) else some ((-1), k7) else some ((-1), k3)
set_option maxRecDepth 20000 in
theorem c_X12_stands (l : Launch) (g : GT) (a0 : Int32) (a1 : Int32) : CN l yX12_stands cX12_stands 6 (some .int) { frames := 2, cells := 0, slots := 0, locals := 43 } g TM voI [.ref (g.2.1 11), .int a0, .int a1] (fun k => fX12_stands k a0 a1) := by
  refine cn_of (by decide) (Nat.le_of_ble_eq_true rfl) ?_
  intro p e s m args below meth c hC k
  have hC : HC p s m args meth c cX12_stands 6 RX12 (some .int) g := hC
  have hR : 2 ≤ ({ frames := 2, cells := 0, slots := 0, locals := 43 } : Room).frames ∧ 43 ≤ ({ frames := 2, cells := 0, slots := 0, locals := 43 } : Room).locals := ⟨Nat.le_refl _, Nat.le_refl _⟩
  show ZF p l e _ s m args below meth c g TM voI 6 k 0 [(0, .ref (g.2.1 11)), (1, .int a0), (2, .int a1)] [] (fX12_stands k a0 a1)
  unfold fX12_stands
  refine zf_aload_n hC dX12_stands_0 rfl 0 rfl ?_
  refine zf_iconst hC (v := 0) dX12_stands_1 rfl ?_
  refine pf_1230 hC dX12_stands_2 ?_
  refine zf_nmk (fun k1 => ?_)
  refine zf_iload_n hC dX12_stands_5 rfl 1 rfl ?_
  refine zf_iconst hC (v := 0) dX12_stands_6 rfl ?_
  refine zf_aload_n hC dX12_stands_7 rfl 0 rfl ?_
  refine gf_1307 hC dX12_stands_8 ?_
  refine zf_iconst hC (v := 1) dX12_stands_11 rfl ?_
  refine zf_isub hC dX12_stands_12 ?_
  refine zf_callS hC (c_X12_isIn l g TM a0 0 ((gI k1 11 77) - 1)) mt_X12_isIn wd_1495 wd_1494 rfl (rm_le hR rfl) rfl rfl (rest := []) rfl (Nat.le_of_ble_eq_true rfl) dX12_stands_13 (fun r2 k3 h4 => ?_)
  refine zf_ifb_eq hC (tgt := 37) dX12_stands_16 (by decide) (fun h5 => ?_) (fun h5 => ?_)
  · refine zf_aload_n hC dX12_stands_19 rfl 0 rfl ?_
    refine zf_iload_n hC dX12_stands_20 rfl 2 rfl ?_
    refine zf_callV hC (c_X12_isKnown l g a1) mt_X12_isKnown wd_1645 sp_56 ci_11 ic_11 wd_1643 rfl (rm_le hR rfl) rfl rfl (rest := []) rfl (Nat.le_of_ble_eq_true rfl) dX12_stands_21 (fun r6 k7 h8 => ?_)
    refine zf_ifb_eq hC (tgt := 37) dX12_stands_24 (by decide) (fun h9 => ?_) (fun h9 => ?_)
    · refine zf_aload_n hC dX12_stands_27 rfl 0 rfl ?_
      refine gf_1298 hC dX12_stands_28 ?_
      refine zf_iload_n hC dX12_stands_31 rfl 1 rfl ?_
      refine zf_iald hC (j := 143) ia_143 rfl rfl dX12_stands_32 (fun h10 => ?_)
      refine zf_iload_n hC dX12_stands_33 rfl 2 rfl ?_
      refine zf_icmp_le hC (tgt := 39) dX12_stands_34 (by decide) (fun h11 => ?_) (fun h11 => ?_)
      · refine zf_aload_n hC dX12_stands_39 rfl 0 rfl ?_
        refine gf_1298 hC dX12_stands_40 ?_
        refine zf_iload_n hC dX12_stands_43 rfl 1 rfl ?_
        refine zf_iald hC (j := 143) ia_143 rfl rfl dX12_stands_44 (fun h12 => ?_)
        refine zf_istore_n hC (LV' := [(3, .int (gA k7 143 (ix a0))), (0, .ref (g.2.1 11)), (1, .int a0), (2, .int a1)]) dX12_stands_45 rfl (by decide) rfl ?_
        refine zf_aload_n hC dX12_stands_46 rfl 1 rfl ?_
        refine zf_aload_n hC dX12_stands_47 rfl 1 rfl ?_
        refine gf_1296 hC dX12_stands_48 ?_
        refine zf_iload_n hC dX12_stands_51 rfl 2 rfl ?_
        refine zf_iald hC (j := 141) ia_141 rfl rfl dX12_stands_52 (fun h13 => ?_)
        refine zf_iload_n hC dX12_stands_53 rfl 3 rfl ?_
        refine zf_callV hC (c_X12_burntFrom l g (gA k7 141 (ix a0)) a1) mt_X12_burntFrom wd_1794 sp_81 ci_11 ic_11 wd_1792 rfl (rm_le hR rfl) rfl rfl (rest := []) rfl (Nat.le_of_ble_eq_true rfl) dX12_stands_54 (fun r14 k15 h16 => ?_)
        refine zf_istore hC (LV' := [(4, .int r14), (3, .int (gA k7 143 (ix a0))), (0, .ref (g.2.1 11)), (1, .int a0), (2, .int a1)]) dX12_stands_57 (by decide) rfl ?_
        refine zf_iload hC dX12_stands_59 0 rfl ?_
        refine zf_iconst hC (v := (-1)) dX12_stands_61 rfl ?_
        refine zf_icmp_eq hC (tgt := 71) dX12_stands_62 (by decide) (fun h17 => ?_) (fun h17 => ?_)
        · refine zf_iconst hC (v := 1) dX12_stands_71 rfl ?_
          exact zf_iret hC rfl dX12_stands_72
        · refine zf_iload hC dX12_stands_65 0 rfl ?_
          refine zf_iload_n hC dX12_stands_67 rfl 1 rfl ?_
          refine zf_icmp_le hC (tgt := 73) dX12_stands_68 (by decide) (fun h18 => ?_) (fun h18 => ?_)
          · refine zf_aload_n hC dX12_stands_73 rfl 2 rfl ?_
            refine zf_aload_n hC dX12_stands_74 rfl 2 rfl ?_
            refine gf_1296 hC dX12_stands_75 ?_
            refine zf_iload_n hC dX12_stands_78 rfl 3 rfl ?_
            refine zf_iald hC (j := 141) ia_141 rfl rfl dX12_stands_79 (fun h19 => ?_)
            refine zf_iload_n hC dX12_stands_80 rfl 1 rfl ?_
            refine zf_callV hC (c_X12_burntFrom l g (gA k15 141 (ix a0)) (gA k7 143 (ix a0))) mt_X12_burntFrom wd_1794 sp_81 ci_11 ic_11 wd_1792 rfl (rm_le hR rfl) rfl rfl (rest := []) rfl (Nat.le_of_ble_eq_true rfl) dX12_stands_81 (fun r20 k21 h22 => ?_)
            refine zf_istore hC (LV' := [(5, .int r20), (4, .int r14), (3, .int (gA k7 143 (ix a0))), (0, .ref (g.2.1 11)), (1, .int a0), (2, .int a1)]) dX12_stands_84 (by decide) rfl ?_
            refine zf_iload hC dX12_stands_86 0 rfl ?_
            refine zf_iconst hC (v := (-1)) dX12_stands_88 rfl ?_
            refine zf_icmp_eq hC (tgt := 102) dX12_stands_89 (by decide) (fun h23 => ?_) (fun h23 => ?_)
            · refine zf_iconst hC (v := 2) dX12_stands_102 rfl ?_
              exact zf_iret hC rfl dX12_stands_103
            · refine zf_iload hC dX12_stands_92 0 rfl ?_
              refine zf_iload_n hC dX12_stands_94 rfl 2 rfl ?_
              refine zf_icmp_gt hC (tgt := 102) dX12_stands_95 (by decide) (fun h24 => ?_) (fun h24 => ?_)
              · refine zf_iconst hC (v := 2) dX12_stands_102 rfl ?_
                exact zf_iret hC rfl dX12_stands_103
              · refine zf_iconst hC (v := 3) dX12_stands_98 rfl ?_
                refine zf_goto hC (tgt := 103) dX12_stands_99 (by decide) ?_
                exact zf_iret hC rfl dX12_stands_103
          · refine zf_iconst hC (v := 1) dX12_stands_71 rfl ?_
            exact zf_iret hC rfl dX12_stands_72
      · refine zf_iconst hC (v := (-1)) dX12_stands_37 rfl ?_
        exact zf_iret hC rfl dX12_stands_38
    · refine zf_iconst hC (v := (-1)) dX12_stands_37 rfl ?_
      exact zf_iret hC rfl dX12_stands_38
  · refine zf_iconst hC (v := (-1)) dX12_stands_37 rfl ?_
    exact zf_iret hC rfl dX12_stands_38
/-! LifeKeysModel.lend -/
theorem dX12_lend_0 : decode cX12_lend 0 = .ok (.aload_n 0, 1) := by decide +kernel
theorem dX12_lend_1 : decode cX12_lend 1 = .ok (.iconst 0, 1) := by decide +kernel
theorem dX12_lend_2 : decode cX12_lend 2 = .ok (.putfield 181, 3) := by decide +kernel
theorem dX12_lend_5 : decode cX12_lend 5 = .ok (.aload_n 0, 1) := by decide +kernel
theorem dX12_lend_6 : decode cX12_lend 6 = .ok (.getfield 444, 3) := by decide +kernel
theorem dX12_lend_9 : decode cX12_lend 9 = .ok (.bipush 40, 2) := by decide +kernel
theorem dX12_lend_11 : decode cX12_lend 11 = .ok (.if_icmp .eq 59, 3) := by decide +kernel
theorem dX12_lend_14 : decode cX12_lend 14 = .ok (.aload_n 0, 1) := by decide +kernel
theorem dX12_lend_15 : decode cX12_lend 15 = .ok (.iload_n 1, 1) := by decide +kernel
theorem dX12_lend_16 : decode cX12_lend 16 = .ok (.invokevirtual 216, 3) := by decide +kernel
theorem dX12_lend_19 : decode cX12_lend 19 = .ok (.ifCond .eq 51, 3) := by decide +kernel
theorem dX12_lend_22 : decode cX12_lend 22 = .ok (.aload_n 0, 1) := by decide +kernel
theorem dX12_lend_23 : decode cX12_lend 23 = .ok (.iload_n 2, 1) := by decide +kernel
theorem dX12_lend_24 : decode cX12_lend 24 = .ok (.invokevirtual 226, 3) := by decide +kernel
theorem dX12_lend_27 : decode cX12_lend 27 = .ok (.ifCond .eq 43, 3) := by decide +kernel
theorem dX12_lend_30 : decode cX12_lend 30 = .ok (.iload_n 3, 1) := by decide +kernel
theorem dX12_lend_31 : decode cX12_lend 31 = .ok (.aload_n 0, 1) := by decide +kernel
theorem dX12_lend_32 : decode cX12_lend 32 = .ok (.getfield 185, 3) := by decide +kernel
theorem dX12_lend_35 : decode cX12_lend 35 = .ok (.sipush 2000, 3) := by decide +kernel
theorem dX12_lend_38 : decode cX12_lend 38 = .ok (.invokestatic 188, 3) := by decide +kernel
theorem dX12_lend_41 : decode cX12_lend 41 = .ok (.ifCond .eq 29, 3) := by decide +kernel
theorem dX12_lend_44 : decode cX12_lend 44 = .ok (.iload 4, 2) := by decide +kernel
theorem dX12_lend_46 : decode cX12_lend 46 = .ok (.iconst 1, 1) := by decide +kernel
theorem dX12_lend_47 : decode cX12_lend 47 = .ok (.bipush 100, 2) := by decide +kernel
theorem dX12_lend_49 : decode cX12_lend 49 = .ok (.invokestatic 188, 3) := by decide +kernel
theorem dX12_lend_52 : decode cX12_lend 52 = .ok (.ifCond .eq 18, 3) := by decide +kernel
theorem dX12_lend_55 : decode cX12_lend 55 = .ok (.iload 5, 2) := by decide +kernel
theorem dX12_lend_57 : decode cX12_lend 57 = .ok (.iconst (-1), 1) := by decide +kernel
theorem dX12_lend_58 : decode cX12_lend 58 = .ok (.if_icmp .eq 14, 3) := by decide +kernel
theorem dX12_lend_61 : decode cX12_lend 61 = .ok (.aload_n 0, 1) := by decide +kernel
theorem dX12_lend_62 : decode cX12_lend 62 = .ok (.iload 5, 2) := by decide +kernel
theorem dX12_lend_64 : decode cX12_lend 64 = .ok (.invokevirtual 409, 3) := by decide +kernel
theorem dX12_lend_67 : decode cX12_lend 67 = .ok (.ifCond .ne 5, 3) := by decide +kernel
theorem dX12_lend_70 : decode cX12_lend 70 = .ok (.iconst (-1), 1) := by decide +kernel
theorem dX12_lend_71 : decode cX12_lend 71 = .ok (.ireturn, 1) := by decide +kernel
theorem dX12_lend_72 : decode cX12_lend 72 = .ok (.aload_n 0, 1) := by decide +kernel
theorem dX12_lend_73 : decode cX12_lend 73 = .ok (.getfield 160, 3) := by decide +kernel
theorem dX12_lend_76 : decode cX12_lend 76 = .ok (.aload_n 0, 1) := by decide +kernel
theorem dX12_lend_77 : decode cX12_lend 77 = .ok (.getfield 444, 3) := by decide +kernel
theorem dX12_lend_80 : decode cX12_lend 80 = .ok (.iload_n 1, 1) := by decide +kernel
theorem dX12_lend_81 : decode cX12_lend 81 = .ok (.iastore, 1) := by decide +kernel
theorem dX12_lend_82 : decode cX12_lend 82 = .ok (.aload_n 0, 1) := by decide +kernel
theorem dX12_lend_83 : decode cX12_lend 83 = .ok (.getfield 163, 3) := by decide +kernel
theorem dX12_lend_86 : decode cX12_lend 86 = .ok (.aload_n 0, 1) := by decide +kernel
theorem dX12_lend_87 : decode cX12_lend 87 = .ok (.getfield 444, 3) := by decide +kernel
theorem dX12_lend_90 : decode cX12_lend 90 = .ok (.iload_n 3, 1) := by decide +kernel
theorem dX12_lend_91 : decode cX12_lend 91 = .ok (.iastore, 1) := by decide +kernel
theorem dX12_lend_92 : decode cX12_lend 92 = .ok (.aload_n 0, 1) := by decide +kernel
theorem dX12_lend_93 : decode cX12_lend 93 = .ok (.getfield 166, 3) := by decide +kernel
theorem dX12_lend_96 : decode cX12_lend 96 = .ok (.aload_n 0, 1) := by decide +kernel
theorem dX12_lend_97 : decode cX12_lend 97 = .ok (.getfield 444, 3) := by decide +kernel
theorem dX12_lend_100 : decode cX12_lend 100 = .ok (.iload 4, 2) := by decide +kernel
theorem dX12_lend_102 : decode cX12_lend 102 = .ok (.iastore, 1) := by decide +kernel
theorem dX12_lend_103 : decode cX12_lend 103 = .ok (.aload_n 0, 1) := by decide +kernel
theorem dX12_lend_104 : decode cX12_lend 104 = .ok (.getfield 169, 3) := by decide +kernel
theorem dX12_lend_107 : decode cX12_lend 107 = .ok (.aload_n 0, 1) := by decide +kernel
theorem dX12_lend_108 : decode cX12_lend 108 = .ok (.getfield 444, 3) := by decide +kernel
theorem dX12_lend_111 : decode cX12_lend 111 = .ok (.iload 5, 2) := by decide +kernel
theorem dX12_lend_113 : decode cX12_lend 113 = .ok (.iastore, 1) := by decide +kernel
theorem dX12_lend_114 : decode cX12_lend 114 = .ok (.aload_n 0, 1) := by decide +kernel
theorem dX12_lend_115 : decode cX12_lend 115 = .ok (.dup, 1) := by decide +kernel
theorem dX12_lend_116 : decode cX12_lend 116 = .ok (.getfield 444, 3) := by decide +kernel
theorem dX12_lend_119 : decode cX12_lend 119 = .ok (.iconst 1, 1) := by decide +kernel
theorem dX12_lend_120 : decode cX12_lend 120 = .ok (.iadd, 1) := by decide +kernel
theorem dX12_lend_121 : decode cX12_lend 121 = .ok (.putfield 444, 3) := by decide +kernel
theorem dX12_lend_124 : decode cX12_lend 124 = .ok (.aload_n 0, 1) := by decide +kernel
theorem dX12_lend_125 : decode cX12_lend 125 = .ok (.getfield 444, 3) := by decide +kernel
theorem dX12_lend_128 : decode cX12_lend 128 = .ok (.iconst 1, 1) := by decide +kernel
theorem dX12_lend_129 : decode cX12_lend 129 = .ok (.isub, 1) := by decide +kernel
theorem dX12_lend_130 : decode cX12_lend 130 = .ok (.ireturn, 1) := by decide +kernel
def jbX12_lend_72 (v1 : Int32) (v2 : Int32) (v3 : Int32) (v4 : Int32) (v5 : Int32)  (k : ST) : Option (Int32 × ST) := ck (inb (gI k 11 79) 40) (nm (sA k 147 (ix (gI k 11 79)) v1) fun k21 => ck (inb (gI k21 11 79) 40) (nm (sA k21 148 (ix (gI k21 11 79)) v3) fun k23 => ck (inb (gI k23 11 79) 40) (nm (sA k23 149 (ix (gI k23 11 79)) v4) fun k25 => ck (inb (gI k25 11 79) 40) (nm (sA k25 150 (ix (gI k25 11 79)) v5) fun k27 => nm (sI k27 11 79 ((gI k27 11 79) + 1)) fun k28 => some ((gI k28 11 79) - 1, k28)))))
set_option maxRecDepth 20000 in
theorem zjbX12_lend_72 {p : Program} {l : Launch} {e : Env} {R : Room} {s : State} {m : MethodId} {args : Array Value} {below : List Frame} {meth : Method} {c : Code} {g : GT} (hC : HC p s m args meth c cX12_lend 6 RX12 (some .int) g) (hR : 1 ≤ R.frames ∧ 22 ≤ R.locals)  (v1 : Int32) (v2 : Int32) (v3 : Int32) (v4 : Int32) (v5 : Int32)  (k : ST) : ZF p l e R s m args below meth c g TM voI 6 k 72 [(0, .ref (g.2.1 11)), (1, .int v1), (2, .int v2), (3, .int v3), (4, .int v4), (5, .int v5)] [] (jbX12_lend_72  v1 v2 v3 v4 v5 k) := by
  unfold jbX12_lend_72
  refine zf_aload_n hC dX12_lend_72 rfl 0 rfl ?_
  refine gf_1302 hC dX12_lend_73 ?_
  refine zf_aload_n hC dX12_lend_76 rfl 0 rfl ?_
  refine gf_1309 hC dX12_lend_77 ?_
  refine zf_iload_n hC dX12_lend_80 rfl 1 rfl ?_
  refine zf_iast hC (j := 147) ia_147 rfl rfl dX12_lend_81 (fun h20 => ?_)
  refine zf_nmk (fun k21 => ?_)
  refine zf_aload_n hC dX12_lend_82 rfl 0 rfl ?_
  refine gf_1303 hC dX12_lend_83 ?_
  refine zf_aload_n hC dX12_lend_86 rfl 0 rfl ?_
  refine gf_1309 hC dX12_lend_87 ?_
  refine zf_iload_n hC dX12_lend_90 rfl 3 rfl ?_
  refine zf_iast hC (j := 148) ia_148 rfl rfl dX12_lend_91 (fun h22 => ?_)
  refine zf_nmk (fun k23 => ?_)
  refine zf_aload_n hC dX12_lend_92 rfl 0 rfl ?_
  refine gf_1304 hC dX12_lend_93 ?_
  refine zf_aload_n hC dX12_lend_96 rfl 0 rfl ?_
  refine gf_1309 hC dX12_lend_97 ?_
  refine zf_iload hC dX12_lend_100 4 rfl ?_
  refine zf_iast hC (j := 149) ia_149 rfl rfl dX12_lend_102 (fun h24 => ?_)
  refine zf_nmk (fun k25 => ?_)
  refine zf_aload_n hC dX12_lend_103 rfl 0 rfl ?_
  refine gf_1305 hC dX12_lend_104 ?_
  refine zf_aload_n hC dX12_lend_107 rfl 0 rfl ?_
  refine gf_1309 hC dX12_lend_108 ?_
  refine zf_iload hC dX12_lend_111 5 rfl ?_
  refine zf_iast hC (j := 150) ia_150 rfl rfl dX12_lend_113 (fun h26 => ?_)
  refine zf_nmk (fun k27 => ?_)
  refine zf_aload_n hC dX12_lend_114 rfl 0 rfl ?_
  refine zf_dup hC dX12_lend_115 rfl ?_
  refine gf_1309 hC dX12_lend_116 ?_
  refine zf_iconst hC (v := 1) dX12_lend_119 rfl ?_
  refine zf_iadd hC dX12_lend_120 ?_
  refine pf_1309 hC dX12_lend_121 ?_
  refine zf_nmk (fun k28 => ?_)
  refine zf_aload_n hC dX12_lend_124 rfl 0 rfl ?_
  refine gf_1309 hC dX12_lend_125 ?_
  refine zf_iconst hC (v := 1) dX12_lend_128 rfl ?_
  refine zf_isub hC dX12_lend_129 ?_
  exact zf_iret hC rfl dX12_lend_130
def fX12_lend (k : ST) (a0 : Int32) (a1 : Int32) (a2 : Int32) (a3 : Int32) (a4 : Int32) : Option (Int32 × ST) := nm (sI k 11 0 0) fun k1 => if (gI k1 11 79) = 40 then some ((-1), k1) else ob (fX12_isKey k1 a0) fun r3 k4 => if r3 = true then ob (fX12_isHolder k4 a1) fun r7 k8 => if r7 = true then ob (fX12_isIn k8 a2 (gI k8 11 1) 2000) fun r11 k12 => if r11 = true then ob (fX12_isIn k12 a3 1 100) fun r15 k16 => if r15 = true then if a4 = (-1) then jbX12_lend_72 a0 a1 a2 a3 a4 k16 else ob (fX12_isThing k16 a4) fun r29 k30 => if r29 = true then jbX12_lend_72 a0 a1 a2 a3 a4 k30 else some ((-1), k30) else some ((-1), k16) else some ((-1), k12) else some ((-1), k8) else some ((-1), k4)
set_option maxRecDepth 20000 in
theorem c_X12_lend (l : Launch) (g : GT) (a0 : Int32) (a1 : Int32) (a2 : Int32) (a3 : Int32) (a4 : Int32) : CN l yX12_lend cX12_lend 6 (some .int) { frames := 1, cells := 0, slots := 0, locals := 22 } g TM voI [.ref (g.2.1 11), .int a0, .int a1, .int a2, .int a3, .int a4] (fun k => fX12_lend k a0 a1 a2 a3 a4) := by
  refine cn_of (by decide) (Nat.le_of_ble_eq_true rfl) ?_
  intro p e s m args below meth c hC k
  have hC : HC p s m args meth c cX12_lend 6 RX12 (some .int) g := hC
  have hR : 1 ≤ ({ frames := 1, cells := 0, slots := 0, locals := 22 } : Room).frames ∧ 22 ≤ ({ frames := 1, cells := 0, slots := 0, locals := 22 } : Room).locals := ⟨Nat.le_refl _, Nat.le_refl _⟩
  show ZF p l e _ s m args below meth c g TM voI 6 k 0 [(0, .ref (g.2.1 11)), (1, .int a0), (2, .int a1), (3, .int a2), (4, .int a3), (5, .int a4)] [] (fX12_lend k a0 a1 a2 a3 a4)
  unfold fX12_lend
  refine zf_aload_n hC dX12_lend_0 rfl 0 rfl ?_
  refine zf_iconst hC (v := 0) dX12_lend_1 rfl ?_
  refine pf_1230 hC dX12_lend_2 ?_
  refine zf_nmk (fun k1 => ?_)
  refine zf_aload_n hC dX12_lend_5 rfl 0 rfl ?_
  refine gf_1309 hC dX12_lend_6 ?_
  refine zf_bipush hC (v := 40) dX12_lend_9 rfl ?_
  refine zf_icmp_eq hC (tgt := 70) dX12_lend_11 (by decide) (fun h2 => ?_) (fun h2 => ?_)
  · refine zf_iconst hC (v := (-1)) dX12_lend_70 rfl ?_
    exact zf_iret hC rfl dX12_lend_71
  · refine zf_aload_n hC dX12_lend_14 rfl 0 rfl ?_
    refine zf_iload_n hC dX12_lend_15 rfl 1 rfl ?_
    refine zf_callV hC (c_X12_isKey l g a0) mt_X12_isKey wd_1530 sp_47 ci_11 ic_11 wd_1528 rfl (rm_le hR rfl) rfl rfl (rest := []) rfl (Nat.le_of_ble_eq_true rfl) dX12_lend_16 (fun r3 k4 h5 => ?_)
    refine zf_ifb_eq hC (tgt := 70) dX12_lend_19 (by decide) (fun h6 => ?_) (fun h6 => ?_)
    · refine zf_aload_n hC dX12_lend_22 rfl 0 rfl ?_
      refine zf_iload_n hC dX12_lend_23 rfl 2 rfl ?_
      refine zf_callV hC (c_X12_isHolder l g a1) mt_X12_isHolder wd_1552 sp_49 ci_11 ic_11 wd_1550 rfl (rm_le hR rfl) rfl rfl (rest := []) rfl (Nat.le_of_ble_eq_true rfl) dX12_lend_24 (fun r7 k8 h9 => ?_)
      refine zf_ifb_eq hC (tgt := 70) dX12_lend_27 (by decide) (fun h10 => ?_) (fun h10 => ?_)
      · refine zf_iload_n hC dX12_lend_30 rfl 3 rfl ?_
        refine zf_aload_n hC dX12_lend_31 rfl 0 rfl ?_
        refine gf_1231 hC dX12_lend_32 ?_
        refine zf_sipush hC (v := 2000) dX12_lend_35 rfl ?_
        refine zf_callS hC (c_X12_isIn l g TM a2 (gI k8 11 1) 2000) mt_X12_isIn wd_1495 wd_1494 rfl (rm_le hR rfl) rfl rfl (rest := []) rfl (Nat.le_of_ble_eq_true rfl) dX12_lend_38 (fun r11 k12 h13 => ?_)
        refine zf_ifb_eq hC (tgt := 70) dX12_lend_41 (by decide) (fun h14 => ?_) (fun h14 => ?_)
        · refine zf_iload hC dX12_lend_44 4 rfl ?_
          refine zf_iconst hC (v := 1) dX12_lend_46 rfl ?_
          refine zf_bipush hC (v := 100) dX12_lend_47 rfl ?_
          refine zf_callS hC (c_X12_isIn l g TM a3 1 100) mt_X12_isIn wd_1495 wd_1494 rfl (rm_le hR rfl) rfl rfl (rest := []) rfl (Nat.le_of_ble_eq_true rfl) dX12_lend_49 (fun r15 k16 h17 => ?_)
          refine zf_ifb_eq hC (tgt := 70) dX12_lend_52 (by decide) (fun h18 => ?_) (fun h18 => ?_)
          · refine zf_iload hC dX12_lend_55 5 rfl ?_
            refine zf_iconst hC (v := (-1)) dX12_lend_57 rfl ?_
            refine zf_icmp_eq hC (tgt := 72) dX12_lend_58 (by decide) (fun h19 => ?_) (fun h19 => ?_)
            · exact zjbX12_lend_72 hC hR a0 a1 a2 a3 a4 k16
            · refine zf_aload_n hC dX12_lend_61 rfl 0 rfl ?_
              refine zf_iload hC dX12_lend_62 5 rfl ?_
              refine zf_callV hC (c_X12_isThing l g a4) mt_X12_isThing wd_1743 sp_75 ci_11 ic_11 wd_1741 rfl (rm_le hR rfl) rfl rfl (rest := []) rfl (Nat.le_of_ble_eq_true rfl) dX12_lend_64 (fun r29 k30 h31 => ?_)
              refine zf_ifb_ne hC (tgt := 72) dX12_lend_67 (by decide) (fun h32 => ?_) (fun h32 => ?_)
              · exact zjbX12_lend_72 hC hR a0 a1 a2 a3 a4 k30
              · refine zf_iconst hC (v := (-1)) dX12_lend_70 rfl ?_
                exact zf_iret hC rfl dX12_lend_71
          · refine zf_iconst hC (v := (-1)) dX12_lend_70 rfl ?_
            exact zf_iret hC rfl dX12_lend_71
        · refine zf_iconst hC (v := (-1)) dX12_lend_70 rfl ?_
          exact zf_iret hC rfl dX12_lend_71
      · refine zf_iconst hC (v := (-1)) dX12_lend_70 rfl ?_
        exact zf_iret hC rfl dX12_lend_71
    · refine zf_iconst hC (v := (-1)) dX12_lend_70 rfl ?_
      exact zf_iret hC rfl dX12_lend_71
/-! LifeKeysModel.use -/
theorem dX12_use_0 : decode cX12_use 0 = .ok (.aload_n 0, 1) := by decide +kernel
theorem dX12_use_1 : decode cX12_use 1 = .ok (.iconst 0, 1) := by decide +kernel
theorem dX12_use_2 : decode cX12_use 2 = .ok (.putfield 181, 3) := by decide +kernel
theorem dX12_use_5 : decode cX12_use 5 = .ok (.aload_n 0, 1) := by decide +kernel
theorem dX12_use_6 : decode cX12_use 6 = .ok (.getfield 428, 3) := by decide +kernel
theorem dX12_use_9 : decode cX12_use 9 = .ok (.bipush 80, 2) := by decide +kernel
theorem dX12_use_11 : decode cX12_use 11 = .ok (.if_icmp .eq 100, 3) := by decide +kernel
theorem dX12_use_14 : decode cX12_use 14 = .ok (.iload_n 1, 1) := by decide +kernel
theorem dX12_use_15 : decode cX12_use 15 = .ok (.iconst 0, 1) := by decide +kernel
theorem dX12_use_16 : decode cX12_use 16 = .ok (.aload_n 0, 1) := by decide +kernel
theorem dX12_use_17 : decode cX12_use 17 = .ok (.getfield 444, 3) := by decide +kernel
theorem dX12_use_20 : decode cX12_use 20 = .ok (.iconst 1, 1) := by decide +kernel
theorem dX12_use_21 : decode cX12_use 21 = .ok (.isub, 1) := by decide +kernel
theorem dX12_use_22 : decode cX12_use 22 = .ok (.invokestatic 188, 3) := by decide +kernel
theorem dX12_use_25 : decode cX12_use 25 = .ok (.ifCond .eq 86, 3) := by decide +kernel
theorem dX12_use_28 : decode cX12_use 28 = .ok (.aload_n 0, 1) := by decide +kernel
theorem dX12_use_29 : decode cX12_use 29 = .ok (.iload_n 2, 1) := by decide +kernel
theorem dX12_use_30 : decode cX12_use 30 = .ok (.invokevirtual 409, 3) := by decide +kernel
theorem dX12_use_33 : decode cX12_use 33 = .ok (.ifCond .eq 78, 3) := by decide +kernel
theorem dX12_use_36 : decode cX12_use 36 = .ok (.iload_n 3, 1) := by decide +kernel
theorem dX12_use_37 : decode cX12_use 37 = .ok (.iconst 1, 1) := by decide +kernel
theorem dX12_use_38 : decode cX12_use 38 = .ok (.sipush 1018, 3) := by decide +kernel
theorem dX12_use_41 : decode cX12_use 41 = .ok (.invokestatic 188, 3) := by decide +kernel
theorem dX12_use_44 : decode cX12_use 44 = .ok (.ifCond .eq 67, 3) := by decide +kernel
theorem dX12_use_47 : decode cX12_use 47 = .ok (.aload_n 0, 1) := by decide +kernel
theorem dX12_use_48 : decode cX12_use 48 = .ok (.getfield 172, 3) := by decide +kernel
theorem dX12_use_51 : decode cX12_use 51 = .ok (.iload_n 1, 1) := by decide +kernel
theorem dX12_use_52 : decode cX12_use 52 = .ok (.baload, 1) := by decide +kernel
theorem dX12_use_53 : decode cX12_use 53 = .ok (.ifCond .ne 58, 3) := by decide +kernel
theorem dX12_use_56 : decode cX12_use 56 = .ok (.aload_n 0, 1) := by decide +kernel
theorem dX12_use_57 : decode cX12_use 57 = .ok (.getfield 185, 3) := by decide +kernel
theorem dX12_use_60 : decode cX12_use 60 = .ok (.aload_n 0, 1) := by decide +kernel
theorem dX12_use_61 : decode cX12_use 61 = .ok (.getfield 163, 3) := by decide +kernel
theorem dX12_use_64 : decode cX12_use 64 = .ok (.iload_n 1, 1) := by decide +kernel
theorem dX12_use_65 : decode cX12_use 65 = .ok (.iaload, 1) := by decide +kernel
theorem dX12_use_66 : decode cX12_use 66 = .ok (.if_icmp .gt 45, 3) := by decide +kernel
theorem dX12_use_69 : decode cX12_use 69 = .ok (.aload_n 0, 1) := by decide +kernel
theorem dX12_use_70 : decode cX12_use 70 = .ok (.getfield 166, 3) := by decide +kernel
theorem dX12_use_73 : decode cX12_use 73 = .ok (.iload_n 1, 1) := by decide +kernel
theorem dX12_use_74 : decode cX12_use 74 = .ok (.iaload, 1) := by decide +kernel
theorem dX12_use_75 : decode cX12_use 75 = .ok (.ifCond .eq 36, 3) := by decide +kernel
theorem dX12_use_78 : decode cX12_use 78 = .ok (.aload_n 0, 1) := by decide +kernel
theorem dX12_use_79 : decode cX12_use 79 = .ok (.getfield 169, 3) := by decide +kernel
theorem dX12_use_82 : decode cX12_use 82 = .ok (.iload_n 1, 1) := by decide +kernel
theorem dX12_use_83 : decode cX12_use 83 = .ok (.iaload, 1) := by decide +kernel
theorem dX12_use_84 : decode cX12_use 84 = .ok (.iconst (-1), 1) := by decide +kernel
theorem dX12_use_85 : decode cX12_use 85 = .ok (.if_icmp .eq 13, 3) := by decide +kernel
theorem dX12_use_88 : decode cX12_use 88 = .ok (.aload_n 0, 1) := by decide +kernel
theorem dX12_use_89 : decode cX12_use 89 = .ok (.getfield 169, 3) := by decide +kernel
theorem dX12_use_92 : decode cX12_use 92 = .ok (.iload_n 1, 1) := by decide +kernel
theorem dX12_use_93 : decode cX12_use 93 = .ok (.iaload, 1) := by decide +kernel
theorem dX12_use_94 : decode cX12_use 94 = .ok (.iload_n 2, 1) := by decide +kernel
theorem dX12_use_95 : decode cX12_use 95 = .ok (.if_icmp .ne 16, 3) := by decide +kernel
theorem dX12_use_98 : decode cX12_use 98 = .ok (.aload_n 0, 1) := by decide +kernel
theorem dX12_use_99 : decode cX12_use 99 = .ok (.aload_n 0, 1) := by decide +kernel
theorem dX12_use_100 : decode cX12_use 100 = .ok (.getfield 160, 3) := by decide +kernel
theorem dX12_use_103 : decode cX12_use 103 = .ok (.iload_n 1, 1) := by decide +kernel
theorem dX12_use_104 : decode cX12_use 104 = .ok (.iaload, 1) := by decide +kernel
theorem dX12_use_105 : decode cX12_use 105 = .ok (.invokevirtual 438, 3) := by decide +kernel
theorem dX12_use_108 : decode cX12_use 108 = .ok (.ifCond .ne 5, 3) := by decide +kernel
theorem dX12_use_111 : decode cX12_use 111 = .ok (.iconst (-1), 1) := by decide +kernel
theorem dX12_use_112 : decode cX12_use 112 = .ok (.ireturn, 1) := by decide +kernel
theorem dX12_use_113 : decode cX12_use 113 = .ok (.aload_n 0, 1) := by decide +kernel
theorem dX12_use_114 : decode cX12_use 114 = .ok (.getfield 166, 3) := by decide +kernel
theorem dX12_use_117 : decode cX12_use 117 = .ok (.iload_n 1, 1) := by decide +kernel
theorem dX12_use_118 : decode cX12_use 118 = .ok (.dup2, 1) := by decide +kernel
theorem dX12_use_119 : decode cX12_use 119 = .ok (.iaload, 1) := by decide +kernel
theorem dX12_use_120 : decode cX12_use 120 = .ok (.iconst 1, 1) := by decide +kernel
theorem dX12_use_121 : decode cX12_use 121 = .ok (.isub, 1) := by decide +kernel
theorem dX12_use_122 : decode cX12_use 122 = .ok (.iastore, 1) := by decide +kernel
theorem dX12_use_123 : decode cX12_use 123 = .ok (.aload_n 0, 1) := by decide +kernel
theorem dX12_use_124 : decode cX12_use 124 = .ok (.aload_n 0, 1) := by decide +kernel
theorem dX12_use_125 : decode cX12_use 125 = .ok (.getfield 160, 3) := by decide +kernel
theorem dX12_use_128 : decode cX12_use 128 = .ok (.iload_n 1, 1) := by decide +kernel
theorem dX12_use_129 : decode cX12_use 129 = .ok (.iaload, 1) := by decide +kernel
theorem dX12_use_130 : decode cX12_use 130 = .ok (.iload_n 2, 1) := by decide +kernel
theorem dX12_use_131 : decode cX12_use 131 = .ok (.iload_n 3, 1) := by decide +kernel
theorem dX12_use_132 : decode cX12_use 132 = .ok (.invokevirtual 441, 3) := by decide +kernel
theorem dX12_use_135 : decode cX12_use 135 = .ok (.ireturn, 1) := by decide +kernel
def jbX12_use_98 (v1 : Int32) (v2 : Int32) (v3 : Int32)  (k : ST) : Option (Int32 × ST) := ck (inb v1 40) (ob (fX12_maySign k (gA k 147 (ix v1))) fun r24 k25 => if r24 = true then ck (inb v1 40) (ck (inb v1 40) (nm (sA k25 149 (ix v1) ((gA k25 149 (ix v1)) - 1)) fun k30 => ck (inb v1 40) (ob (fX12_signs k30 (gA k30 147 (ix v1)) v2 v3) fun r32 k33 => some (r32, k33)))) else some ((-1), k25))
set_option maxRecDepth 20000 in
theorem zjbX12_use_98 {p : Program} {l : Launch} {e : Env} {R : Room} {s : State} {m : MethodId} {args : Array Value} {below : List Frame} {meth : Method} {c : Code} {g : GT} (hC : HC p s m args meth c cX12_use 4 RX12 (some .int) g) (hR : 3 ≤ R.frames ∧ 68 ≤ R.locals)  (v1 : Int32) (v2 : Int32) (v3 : Int32)  (k : ST) : ZF p l e R s m args below meth c g TM voI 4 k 98 [(0, .ref (g.2.1 11)), (1, .int v1), (2, .int v2), (3, .int v3)] [] (jbX12_use_98  v1 v2 v3 k) := by
  unfold jbX12_use_98
  refine zf_aload_n hC dX12_use_98 rfl 0 rfl ?_
  refine zf_aload_n hC dX12_use_99 rfl 0 rfl ?_
  refine gf_1302 hC dX12_use_100 ?_
  refine zf_iload_n hC dX12_use_103 rfl 1 rfl ?_
  refine zf_iald hC (j := 147) ia_147 rfl rfl dX12_use_104 (fun h23 => ?_)
  refine zf_callV hC (c_X12_maySign l g (gA k 147 (ix v1))) mt_X12_maySign wd_1790 sp_80 ci_11 ic_11 wd_1788 rfl (rm_le hR rfl) rfl rfl (rest := []) rfl (Nat.le_of_ble_eq_true rfl) dX12_use_105 (fun r24 k25 h26 => ?_)
  refine zf_ifb_ne hC (tgt := 113) dX12_use_108 (by decide) (fun h27 => ?_) (fun h27 => ?_)
  · refine zf_aload_n hC dX12_use_113 rfl 0 rfl ?_
    refine gf_1304 hC dX12_use_114 ?_
    refine zf_iload_n hC dX12_use_117 rfl 1 rfl ?_
    refine zf_dup2 hC dX12_use_118 rfl rfl ?_
    refine zf_iald hC (j := 149) ia_149 rfl rfl dX12_use_119 (fun h28 => ?_)
    refine zf_iconst hC (v := 1) dX12_use_120 rfl ?_
    refine zf_isub hC dX12_use_121 ?_
    refine zf_iast hC (j := 149) ia_149 rfl rfl dX12_use_122 (fun h29 => ?_)
    refine zf_nmk (fun k30 => ?_)
    refine zf_aload_n hC dX12_use_123 rfl 0 rfl ?_
    refine zf_aload_n hC dX12_use_124 rfl 0 rfl ?_
    refine gf_1302 hC dX12_use_125 ?_
    refine zf_iload_n hC dX12_use_128 rfl 1 rfl ?_
    refine zf_iald hC (j := 147) ia_147 rfl rfl dX12_use_129 (fun h31 => ?_)
    refine zf_iload_n hC dX12_use_130 rfl 2 rfl ?_
    refine zf_iload_n hC dX12_use_131 rfl 3 rfl ?_
    refine zf_callV hC (c_X12_signs l g (gA k30 147 (ix v1)) v2 v3) mt_X12_signs wd_1798 sp_82 ci_11 ic_11 wd_1796 rfl (rm_le hR rfl) rfl rfl (rest := []) rfl (Nat.le_of_ble_eq_true rfl) dX12_use_132 (fun r32 k33 h34 => ?_)
    exact zf_iret hC rfl dX12_use_135
  · refine zf_iconst hC (v := (-1)) dX12_use_111 rfl ?_
    exact zf_iret hC rfl dX12_use_112
def fX12_use (k : ST) (a0 : Int32) (a1 : Int32) (a2 : Int32) : Option (Int32 × ST) := nm (sI k 11 0 0) fun k1 => if (gI k1 11 77) = 80 then some ((-1), k1) else ob (fX12_isIn k1 a0 0 ((gI k1 11 79) - 1)) fun r3 k4 => if r3 = true then ob (fX12_isThing k4 a1) fun r7 k8 => if r7 = true then ob (fX12_isIn k8 a2 1 1018) fun r11 k12 => if r11 = true then ck (inb a0 40) (if (gA k12 151 (ix a0)) = 0 then ck (inb a0 40) (if (gA k12 148 (ix a0)) < (gI k12 11 1) then some ((-1), k12) else ck (inb a0 40) (if (gA k12 149 (ix a0)) = 0 then some ((-1), k12) else ck (inb a0 40) (if (gA k12 150 (ix a0)) = (-1) then jbX12_use_98 a0 a1 a2 k12 else ck (inb a0 40) (if (gA k12 150 (ix a0)) = a1 then jbX12_use_98 a0 a1 a2 k12 else some ((-1), k12))))) else some ((-1), k12)) else some ((-1), k12) else some ((-1), k8) else some ((-1), k4)
set_option maxRecDepth 20000 in
theorem c_X12_use (l : Launch) (g : GT) (a0 : Int32) (a1 : Int32) (a2 : Int32) : CN l yX12_use cX12_use 4 (some .int) { frames := 3, cells := 0, slots := 0, locals := 68 } g TM voI [.ref (g.2.1 11), .int a0, .int a1, .int a2] (fun k => fX12_use k a0 a1 a2) := by
  refine cn_of (by decide) (Nat.le_of_ble_eq_true rfl) ?_
  intro p e s m args below meth c hC k
  have hC : HC p s m args meth c cX12_use 4 RX12 (some .int) g := hC
  have hR : 3 ≤ ({ frames := 3, cells := 0, slots := 0, locals := 68 } : Room).frames ∧ 68 ≤ ({ frames := 3, cells := 0, slots := 0, locals := 68 } : Room).locals := ⟨Nat.le_refl _, Nat.le_refl _⟩
  show ZF p l e _ s m args below meth c g TM voI 4 k 0 [(0, .ref (g.2.1 11)), (1, .int a0), (2, .int a1), (3, .int a2)] [] (fX12_use k a0 a1 a2)
  unfold fX12_use
  refine zf_aload_n hC dX12_use_0 rfl 0 rfl ?_
  refine zf_iconst hC (v := 0) dX12_use_1 rfl ?_
  refine pf_1230 hC dX12_use_2 ?_
  refine zf_nmk (fun k1 => ?_)
  refine zf_aload_n hC dX12_use_5 rfl 0 rfl ?_
  refine gf_1307 hC dX12_use_6 ?_
  refine zf_bipush hC (v := 80) dX12_use_9 rfl ?_
  refine zf_icmp_eq hC (tgt := 111) dX12_use_11 (by decide) (fun h2 => ?_) (fun h2 => ?_)
  · refine zf_iconst hC (v := (-1)) dX12_use_111 rfl ?_
    exact zf_iret hC rfl dX12_use_112
  · refine zf_iload_n hC dX12_use_14 rfl 1 rfl ?_
    refine zf_iconst hC (v := 0) dX12_use_15 rfl ?_
    refine zf_aload_n hC dX12_use_16 rfl 0 rfl ?_
    refine gf_1309 hC dX12_use_17 ?_
    refine zf_iconst hC (v := 1) dX12_use_20 rfl ?_
    refine zf_isub hC dX12_use_21 ?_
    refine zf_callS hC (c_X12_isIn l g TM a0 0 ((gI k1 11 79) - 1)) mt_X12_isIn wd_1495 wd_1494 rfl (rm_le hR rfl) rfl rfl (rest := []) rfl (Nat.le_of_ble_eq_true rfl) dX12_use_22 (fun r3 k4 h5 => ?_)
    refine zf_ifb_eq hC (tgt := 111) dX12_use_25 (by decide) (fun h6 => ?_) (fun h6 => ?_)
    · refine zf_aload_n hC dX12_use_28 rfl 0 rfl ?_
      refine zf_iload_n hC dX12_use_29 rfl 2 rfl ?_
      refine zf_callV hC (c_X12_isThing l g a1) mt_X12_isThing wd_1743 sp_75 ci_11 ic_11 wd_1741 rfl (rm_le hR rfl) rfl rfl (rest := []) rfl (Nat.le_of_ble_eq_true rfl) dX12_use_30 (fun r7 k8 h9 => ?_)
      refine zf_ifb_eq hC (tgt := 111) dX12_use_33 (by decide) (fun h10 => ?_) (fun h10 => ?_)
      · refine zf_iload_n hC dX12_use_36 rfl 3 rfl ?_
        refine zf_iconst hC (v := 1) dX12_use_37 rfl ?_
        refine zf_sipush hC (v := 1018) dX12_use_38 rfl ?_
        refine zf_callS hC (c_X12_isIn l g TM a2 1 1018) mt_X12_isIn wd_1495 wd_1494 rfl (rm_le hR rfl) rfl rfl (rest := []) rfl (Nat.le_of_ble_eq_true rfl) dX12_use_41 (fun r11 k12 h13 => ?_)
        refine zf_ifb_eq hC (tgt := 111) dX12_use_44 (by decide) (fun h14 => ?_) (fun h14 => ?_)
        · refine zf_aload_n hC dX12_use_47 rfl 0 rfl ?_
          refine gf_1306 hC dX12_use_48 ?_
          refine zf_iload_n hC dX12_use_51 rfl 1 rfl ?_
          refine zf_zald hC (j := 151) ia_151 rfl rfl dX12_use_52 (fun h15 => ?_)
          refine zf_if_ne hC (tgt := 111) dX12_use_53 (by decide) (fun h16 => ?_) (fun h16 => ?_)
          · refine zf_aload_n hC dX12_use_56 rfl 0 rfl ?_
            refine gf_1231 hC dX12_use_57 ?_
            refine zf_aload_n hC dX12_use_60 rfl 0 rfl ?_
            refine gf_1303 hC dX12_use_61 ?_
            refine zf_iload_n hC dX12_use_64 rfl 1 rfl ?_
            refine zf_iald hC (j := 148) ia_148 rfl rfl dX12_use_65 (fun h17 => ?_)
            refine zf_icmp_gt hC (tgt := 111) dX12_use_66 (by decide) (fun h18 => ?_) (fun h18 => ?_)
            · refine zf_iconst hC (v := (-1)) dX12_use_111 rfl ?_
              exact zf_iret hC rfl dX12_use_112
            · refine zf_aload_n hC dX12_use_69 rfl 0 rfl ?_
              refine gf_1304 hC dX12_use_70 ?_
              refine zf_iload_n hC dX12_use_73 rfl 1 rfl ?_
              refine zf_iald hC (j := 149) ia_149 rfl rfl dX12_use_74 (fun h19 => ?_)
              refine zf_if_eq hC (tgt := 111) dX12_use_75 (by decide) (fun h20 => ?_) (fun h20 => ?_)
              · refine zf_iconst hC (v := (-1)) dX12_use_111 rfl ?_
                exact zf_iret hC rfl dX12_use_112
              · refine zf_aload_n hC dX12_use_78 rfl 0 rfl ?_
                refine gf_1305 hC dX12_use_79 ?_
                refine zf_iload_n hC dX12_use_82 rfl 1 rfl ?_
                refine zf_iald hC (j := 150) ia_150 rfl rfl dX12_use_83 (fun h21 => ?_)
                refine zf_iconst hC (v := (-1)) dX12_use_84 rfl ?_
                refine zf_icmp_eq hC (tgt := 98) dX12_use_85 (by decide) (fun h22 => ?_) (fun h22 => ?_)
                · exact zjbX12_use_98 hC hR a0 a1 a2 k12
                · refine zf_aload_n hC dX12_use_88 rfl 0 rfl ?_
                  refine gf_1305 hC dX12_use_89 ?_
                  refine zf_iload_n hC dX12_use_92 rfl 1 rfl ?_
                  refine zf_iald hC (j := 150) ia_150 rfl rfl dX12_use_93 (fun h35 => ?_)
                  refine zf_iload_n hC dX12_use_94 rfl 2 rfl ?_
                  refine zf_icmp_ne hC (tgt := 111) dX12_use_95 (by decide) (fun h36 => ?_) (fun h36 => ?_)
                  · exact zjbX12_use_98 hC hR a0 a1 a2 k12
                  · refine zf_iconst hC (v := (-1)) dX12_use_111 rfl ?_
                    exact zf_iret hC rfl dX12_use_112
          · refine zf_iconst hC (v := (-1)) dX12_use_111 rfl ?_
            exact zf_iret hC rfl dX12_use_112
        · refine zf_iconst hC (v := (-1)) dX12_use_111 rfl ?_
          exact zf_iret hC rfl dX12_use_112
      · refine zf_iconst hC (v := (-1)) dX12_use_111 rfl ?_
        exact zf_iret hC rfl dX12_use_112
    · refine zf_iconst hC (v := (-1)) dX12_use_111 rfl ?_
      exact zf_iret hC rfl dX12_use_112
/-! LifeKeysModel.back -/
theorem dX12_back_0 : decode cX12_back 0 = .ok (.aload_n 0, 1) := by decide +kernel
theorem dX12_back_1 : decode cX12_back 1 = .ok (.iconst 0, 1) := by decide +kernel
theorem dX12_back_2 : decode cX12_back 2 = .ok (.putfield 181, 3) := by decide +kernel
theorem dX12_back_5 : decode cX12_back 5 = .ok (.iload_n 1, 1) := by decide +kernel
theorem dX12_back_6 : decode cX12_back 6 = .ok (.iconst 0, 1) := by decide +kernel
theorem dX12_back_7 : decode cX12_back 7 = .ok (.aload_n 0, 1) := by decide +kernel
theorem dX12_back_8 : decode cX12_back 8 = .ok (.getfield 444, 3) := by decide +kernel
theorem dX12_back_11 : decode cX12_back 11 = .ok (.iconst 1, 1) := by decide +kernel
theorem dX12_back_12 : decode cX12_back 12 = .ok (.isub, 1) := by decide +kernel
theorem dX12_back_13 : decode cX12_back 13 = .ok (.invokestatic 188, 3) := by decide +kernel
theorem dX12_back_16 : decode cX12_back 16 = .ok (.ifCond .eq 12, 3) := by decide +kernel
theorem dX12_back_19 : decode cX12_back 19 = .ok (.aload_n 0, 1) := by decide +kernel
theorem dX12_back_20 : decode cX12_back 20 = .ok (.getfield 172, 3) := by decide +kernel
theorem dX12_back_23 : decode cX12_back 23 = .ok (.iload_n 1, 1) := by decide +kernel
theorem dX12_back_24 : decode cX12_back 24 = .ok (.baload, 1) := by decide +kernel
theorem dX12_back_25 : decode cX12_back 25 = .ok (.ifCond .eq 5, 3) := by decide +kernel
theorem dX12_back_28 : decode cX12_back 28 = .ok (.iconst 0, 1) := by decide +kernel
theorem dX12_back_29 : decode cX12_back 29 = .ok (.ireturn, 1) := by decide +kernel
theorem dX12_back_30 : decode cX12_back 30 = .ok (.aload_n 0, 1) := by decide +kernel
theorem dX12_back_31 : decode cX12_back 31 = .ok (.getfield 172, 3) := by decide +kernel
theorem dX12_back_34 : decode cX12_back 34 = .ok (.iload_n 1, 1) := by decide +kernel
theorem dX12_back_35 : decode cX12_back 35 = .ok (.iconst 1, 1) := by decide +kernel
theorem dX12_back_36 : decode cX12_back 36 = .ok (.bastore, 1) := by decide +kernel
theorem dX12_back_37 : decode cX12_back 37 = .ok (.iconst 1, 1) := by decide +kernel
theorem dX12_back_38 : decode cX12_back 38 = .ok (.ireturn, 1) := by decide +kernel
def fX12_back (k : ST) (a0 : Int32) : Option (Bool × ST) := nm (sI k 11 0 0) fun k1 => ob (fX12_isIn k1 a0 0 ((gI k1 11 79) - 1)) fun r2 k3 => if r2 = true then ck (inb a0 40) (if (gA k3 151 (ix a0)) = 0 then ck (inb a0 40) (nm (sA k3 151 (ix a0) 1) fun k9 => some (true, k9)) else some (false, k3)) else some (false, k3)
set_option maxRecDepth 20000 in
theorem c_X12_back (l : Launch) (g : GT) (a0 : Int32) : CN l yX12_back cX12_back 2 (some .boolean) { frames := 1, cells := 0, slots := 0, locals := 22 } g TM voB [.ref (g.2.1 11), .int a0] (fun k => fX12_back k a0) := by
  refine cn_of (by decide) (Nat.le_of_ble_eq_true rfl) ?_
  intro p e s m args below meth c hC k
  have hC : HC p s m args meth c cX12_back 2 RX12 (some .boolean) g := hC
  have hR : 1 ≤ ({ frames := 1, cells := 0, slots := 0, locals := 22 } : Room).frames ∧ 22 ≤ ({ frames := 1, cells := 0, slots := 0, locals := 22 } : Room).locals := ⟨Nat.le_refl _, Nat.le_refl _⟩
  show ZF p l e _ s m args below meth c g TM voB 2 k 0 [(0, .ref (g.2.1 11)), (1, .int a0)] [] (fX12_back k a0)
  unfold fX12_back
  refine zf_aload_n hC dX12_back_0 rfl 0 rfl ?_
  refine zf_iconst hC (v := 0) dX12_back_1 rfl ?_
  refine pf_1230 hC dX12_back_2 ?_
  refine zf_nmk (fun k1 => ?_)
  refine zf_iload_n hC dX12_back_5 rfl 1 rfl ?_
  refine zf_iconst hC (v := 0) dX12_back_6 rfl ?_
  refine zf_aload_n hC dX12_back_7 rfl 0 rfl ?_
  refine gf_1309 hC dX12_back_8 ?_
  refine zf_iconst hC (v := 1) dX12_back_11 rfl ?_
  refine zf_isub hC dX12_back_12 ?_
  refine zf_callS hC (c_X12_isIn l g TM a0 0 ((gI k1 11 79) - 1)) mt_X12_isIn wd_1495 wd_1494 rfl (rm_le hR rfl) rfl rfl (rest := []) rfl (Nat.le_of_ble_eq_true rfl) dX12_back_13 (fun r2 k3 h4 => ?_)
  refine zf_ifb_eq hC (tgt := 28) dX12_back_16 (by decide) (fun h5 => ?_) (fun h5 => ?_)
  · refine zf_aload_n hC dX12_back_19 rfl 0 rfl ?_
    refine gf_1306 hC dX12_back_20 ?_
    refine zf_iload_n hC dX12_back_23 rfl 1 rfl ?_
    refine zf_zald hC (j := 151) ia_151 rfl rfl dX12_back_24 (fun h6 => ?_)
    refine zf_if_eq hC (tgt := 30) dX12_back_25 (by decide) (fun h7 => ?_) (fun h7 => ?_)
    · refine zf_aload_n hC dX12_back_30 rfl 0 rfl ?_
      refine gf_1306 hC dX12_back_31 ?_
      refine zf_iload_n hC dX12_back_34 rfl 1 rfl ?_
      refine zf_iconst hC (v := 1) dX12_back_35 rfl ?_
      refine zf_zast hC (j := 151) ia_151 rfl rfl rfl dX12_back_36 (fun h8 => ?_)
      refine zf_nmk (fun k9 => ?_)
      refine zf_iconst hC (v := 1) dX12_back_37 rfl ?_
      exact zf_zret hC rfl true rfl dX12_back_38
    · refine zf_iconst hC (v := 0) dX12_back_28 rfl ?_
      exact zf_zret hC rfl false rfl dX12_back_29
  · refine zf_iconst hC (v := 0) dX12_back_28 rfl ?_
    exact zf_zret hC rfl false rfl dX12_back_29
/-! LifeKeysModel.told -/
theorem dX12_told_0 : decode cX12_told 0 = .ok (.aload_n 0, 1) := by decide +kernel
theorem dX12_told_1 : decode cX12_told 1 = .ok (.iconst 0, 1) := by decide +kernel
theorem dX12_told_2 : decode cX12_told 2 = .ok (.putfield 181, 3) := by decide +kernel
theorem dX12_told_5 : decode cX12_told 5 = .ok (.aload_n 0, 1) := by decide +kernel
theorem dX12_told_6 : decode cX12_told 6 = .ok (.iload_n 1, 1) := by decide +kernel
theorem dX12_told_7 : decode cX12_told 7 = .ok (.invokevirtual 216, 3) := by decide +kernel
theorem dX12_told_10 : decode cX12_told 10 = .ok (.ifCond .ne 5, 3) := by decide +kernel
theorem dX12_told_13 : decode cX12_told 13 = .ok (.iconst (-1), 1) := by decide +kernel
theorem dX12_told_14 : decode cX12_told 14 = .ok (.ireturn, 1) := by decide +kernel
theorem dX12_told_15 : decode cX12_told 15 = .ok (.iload_n 2, 1) := by decide +kernel
theorem dX12_told_16 : decode cX12_told 16 = .ok (.tableswitch 116 0 4 #[36, 43, 50, 60, 67], 36) := by decide +kernel
theorem dX12_told_52 : decode cX12_told 52 = .ok (.aload_n 0, 1) := by decide +kernel
theorem dX12_told_53 : decode cX12_told 53 = .ok (.getfield 9, 3) := by decide +kernel
theorem dX12_told_56 : decode cX12_told 56 = .ok (.iload_n 1, 1) := by decide +kernel
theorem dX12_told_57 : decode cX12_told 57 = .ok (.iaload, 1) := by decide +kernel
theorem dX12_told_58 : decode cX12_told 58 = .ok (.ireturn, 1) := by decide +kernel
theorem dX12_told_59 : decode cX12_told 59 = .ok (.aload_n 0, 1) := by decide +kernel
theorem dX12_told_60 : decode cX12_told 60 = .ok (.getfield 16, 3) := by decide +kernel
theorem dX12_told_63 : decode cX12_told 63 = .ok (.iload_n 1, 1) := by decide +kernel
theorem dX12_told_64 : decode cX12_told 64 = .ok (.iaload, 1) := by decide +kernel
theorem dX12_told_65 : decode cX12_told 65 = .ok (.ireturn, 1) := by decide +kernel
theorem dX12_told_66 : decode cX12_told 66 = .ok (.aload_n 0, 1) := by decide +kernel
theorem dX12_told_67 : decode cX12_told 67 = .ok (.iload_n 1, 1) := by decide +kernel
theorem dX12_told_68 : decode cX12_told 68 = .ok (.aload_n 0, 1) := by decide +kernel
theorem dX12_told_69 : decode cX12_told 69 = .ok (.getfield 185, 3) := by decide +kernel
theorem dX12_told_72 : decode cX12_told 72 = .ok (.invokevirtual 425, 3) := by decide +kernel
theorem dX12_told_75 : decode cX12_told 75 = .ok (.ireturn, 1) := by decide +kernel
theorem dX12_told_76 : decode cX12_told 76 = .ok (.aload_n 0, 1) := by decide +kernel
theorem dX12_told_77 : decode cX12_told 77 = .ok (.getfield 22, 3) := by decide +kernel
theorem dX12_told_80 : decode cX12_told 80 = .ok (.iload_n 1, 1) := by decide +kernel
theorem dX12_told_81 : decode cX12_told 81 = .ok (.iaload, 1) := by decide +kernel
theorem dX12_told_82 : decode cX12_told 82 = .ok (.ireturn, 1) := by decide +kernel
theorem dX12_told_83 : decode cX12_told 83 = .ok (.iconst (-1), 1) := by decide +kernel
theorem dX12_told_84 : decode cX12_told 84 = .ok (.istore_n 3, 1) := by decide +kernel
theorem dX12_told_85 : decode cX12_told 85 = .ok (.iconst 0, 1) := by decide +kernel
theorem dX12_told_86 : decode cX12_told 86 = .ok (.istore 4, 2) := by decide +kernel
theorem dX12_told_88 : decode cX12_told 88 = .ok (.iload 4, 2) := by decide +kernel
theorem dX12_told_90 : decode cX12_told 90 = .ok (.aload_n 0, 1) := by decide +kernel
theorem dX12_told_91 : decode cX12_told 91 = .ok (.getfield 243, 3) := by decide +kernel
theorem dX12_told_94 : decode cX12_told 94 = .ok (.if_icmp .ge 36, 3) := by decide +kernel
theorem dX12_told_97 : decode cX12_told 97 = .ok (.aload_n 0, 1) := by decide +kernel
theorem dX12_told_98 : decode cX12_told 98 = .ok (.getfield 57, 3) := by decide +kernel
theorem dX12_told_101 : decode cX12_told 101 = .ok (.iload 4, 2) := by decide +kernel
theorem dX12_told_103 : decode cX12_told 103 = .ok (.iaload, 1) := by decide +kernel
theorem dX12_told_104 : decode cX12_told 104 = .ok (.iload_n 1, 1) := by decide +kernel
theorem dX12_told_105 : decode cX12_told 105 = .ok (.if_icmp .ne 19, 3) := by decide +kernel
theorem dX12_told_108 : decode cX12_told 108 = .ok (.aload_n 0, 1) := by decide +kernel
theorem dX12_told_109 : decode cX12_told 109 = .ok (.iload 4, 2) := by decide +kernel
theorem dX12_told_111 : decode cX12_told 111 = .ok (.aload_n 0, 1) := by decide +kernel
theorem dX12_told_112 : decode cX12_told 112 = .ok (.getfield 185, 3) := by decide +kernel
theorem dX12_told_115 : decode cX12_told 115 = .ok (.invokevirtual 294, 3) := by decide +kernel
theorem dX12_told_118 : decode cX12_told 118 = .ok (.ifCond .eq 6, 3) := by decide +kernel
theorem dX12_told_121 : decode cX12_told 121 = .ok (.iload 4, 2) := by decide +kernel
theorem dX12_told_123 : decode cX12_told 123 = .ok (.istore_n 3, 1) := by decide +kernel
theorem dX12_told_124 : decode cX12_told 124 = .ok (.iinc 4 1, 3) := by decide +kernel
theorem dX12_told_127 : decode cX12_told 127 = .ok (.goto (-39), 3) := by decide +kernel
theorem dX12_told_130 : decode cX12_told 130 = .ok (.iload_n 3, 1) := by decide +kernel
theorem dX12_told_131 : decode cX12_told 131 = .ok (.ireturn, 1) := by decide +kernel
theorem dX12_told_132 : decode cX12_told 132 = .ok (.iconst (-1), 1) := by decide +kernel
theorem dX12_told_133 : decode cX12_told 133 = .ok (.ireturn, 1) := by decide +kernel
def lpX12_told_88 (v1 : Int32) (v2 : Int32) : Nat → Int32 → Int32 → ST → (Int32 → Int32 → ST → Option (Int32 × ST)) → Option (Int32 × ST)
  | 0, _, _, _, _ => none
  | n + 1, v3, v4, k, cont => if (gI k 11 30) ≤ v4 then cont v3 v4 k else ck (inb v4 40) (if (gA k 114 (ix v4)) = v1 then ob (fX12_isForce k v4 (gI k 11 1)) fun r20 k21 => if r20 = true then lpX12_told_88 v1 v2 n v4 (v4 + 1) k21 cont else lpX12_told_88 v1 v2 n v3 (v4 + 1) k21 cont else lpX12_told_88 v1 v2 n v3 (v4 + 1) k cont)
set_option maxRecDepth 20000 in
theorem zlpX12_told_88 {p : Program} {l : Launch} {e : Env} {R : Room} {s : State} {m : MethodId} {args : Array Value} {below : List Frame} {meth : Method} {c : Code} {g : GT} (hC : HC p s m args meth c cX12_told 5 RX12 (some .int) g) (hR : 1 ≤ R.frames ∧ 24 ≤ R.locals)  (v1 : Int32) (v2 : Int32) {cont : Int32 → Int32 → ST → Option (Int32 × ST)} (hk : ∀ (v3 : Int32) (v4 : Int32) (k : ST), ZF p l e R s m args below meth c g TM voI 5 k 130 [(0, .ref (g.2.1 11)), (1, .int v1), (2, .int v2), (3, .int v3), (4, .int v4)] [] (cont v3 v4 k)) : ∀ (n : Nat) (v3 : Int32) (v4 : Int32) (k : ST), ZF p l e R s m args below meth c g TM voI 5 k 88 [(0, .ref (g.2.1 11)), (1, .int v1), (2, .int v2), (3, .int v3), (4, .int v4)] [] (lpX12_told_88 v1 v2 n v3 v4 k cont) := by
  intro n
  induction n with
  | zero => intros; exact zf_none
  | succ n ih =>
    intro v3 v4 k
    rw [lpX12_told_88]
    refine zf_iload hC dX12_told_88 4 rfl ?_
    refine zf_aload_n hC dX12_told_90 rfl 0 rfl ?_
    refine gf_1260 hC dX12_told_91 ?_
    refine zf_icmp_ge hC (tgt := 130) dX12_told_94 (by decide) (fun h17 => ?_) (fun h17 => ?_)
    · refine zf_lv (LV' := [(0, .ref (g.2.1 11)), (1, .int v1), (2, .int v2), (3, .int v3), (4, .int v4)]) [0, 1, 2, 3, 4] rfl ?_
      exact hk v3 v4 k
    · refine zf_aload_n hC dX12_told_97 rfl 0 rfl ?_
      refine gf_1251 hC dX12_told_98 ?_
      refine zf_iload hC dX12_told_101 4 rfl ?_
      refine zf_iald hC (j := 114) ia_114 rfl rfl dX12_told_103 (fun h18 => ?_)
      refine zf_iload_n hC dX12_told_104 rfl 1 rfl ?_
      refine zf_icmp_ne hC (tgt := 124) dX12_told_105 (by decide) (fun h19 => ?_) (fun h19 => ?_)
      · refine zf_aload_n hC dX12_told_108 rfl 0 rfl ?_
        refine zf_iload hC dX12_told_109 4 rfl ?_
        refine zf_aload_n hC dX12_told_111 rfl 0 rfl ?_
        refine gf_1231 hC dX12_told_112 ?_
        refine zf_callV hC (c_X12_isForce l g v4 (gI k 11 1)) mt_X12_isForce wd_1661 sp_60 ci_11 ic_11 wd_1659 rfl (rm_le hR rfl) rfl rfl (rest := []) rfl (Nat.le_of_ble_eq_true rfl) dX12_told_115 (fun r20 k21 h22 => ?_)
        refine zf_ifb_eq hC (tgt := 124) dX12_told_118 (by decide) (fun h23 => ?_) (fun h23 => ?_)
        · refine zf_iload hC dX12_told_121 4 rfl ?_
          refine zf_istore_n hC (LV' := [(3, .int v4), (0, .ref (g.2.1 11)), (1, .int v1), (2, .int v2), (4, .int v4)]) dX12_told_123 rfl (by decide) rfl ?_
          refine zf_iinc hC (q := 4) (v := v4 + 1) (LV' := [(4, .int (v4 + 1)), (3, .int v4), (0, .ref (g.2.1 11)), (1, .int v1), (2, .int v2)]) dX12_told_124 rfl rfl (by decide) rfl ?_
          refine zf_goto hC (tgt := 88) dX12_told_127 (by decide) ?_
          refine zf_lv (LV' := [(0, .ref (g.2.1 11)), (1, .int v1), (2, .int v2), (3, .int v4), (4, .int (v4 + 1))]) [2, 3, 4, 1, 0] rfl ?_
          exact ih v4 (v4 + 1) k21
        · refine zf_iinc hC (q := 4) (v := v4 + 1) (LV' := [(4, .int (v4 + 1)), (0, .ref (g.2.1 11)), (1, .int v1), (2, .int v2), (3, .int v3)]) dX12_told_124 rfl rfl (by decide) rfl ?_
          refine zf_goto hC (tgt := 88) dX12_told_127 (by decide) ?_
          refine zf_lv (LV' := [(0, .ref (g.2.1 11)), (1, .int v1), (2, .int v2), (3, .int v3), (4, .int (v4 + 1))]) [1, 2, 3, 4, 0] rfl ?_
          exact ih v3 (v4 + 1) k21
      · refine zf_iinc hC (q := 4) (v := v4 + 1) (LV' := [(4, .int (v4 + 1)), (0, .ref (g.2.1 11)), (1, .int v1), (2, .int v2), (3, .int v3)]) dX12_told_124 rfl rfl (by decide) rfl ?_
        refine zf_goto hC (tgt := 88) dX12_told_127 (by decide) ?_
        refine zf_lv (LV' := [(0, .ref (g.2.1 11)), (1, .int v1), (2, .int v2), (3, .int v3), (4, .int (v4 + 1))]) [1, 2, 3, 4, 0] rfl ?_
        exact ih v3 (v4 + 1) k
def fX12_told (k : ST) (a0 : Int32) (a1 : Int32) : Option (Int32 × ST) := nm (sI k 11 0 0) fun k1 => ob (fX12_isKey k1 a0) fun r2 k3 => if r2 = true then if a1 = 0 then ck (inb a0 40) (some (gA k3 99 (ix a0), k3)) else if a1 = 1 then ck (inb a0 40) (some (gA k3 101 (ix a0), k3)) else if a1 = 2 then ob (fX12_burntFrom k3 a0 (gI k3 11 1)) fun r11 k12 => some (r11, k12) else if a1 = 3 then ck (inb a0 40) (some (gA k3 103 (ix a0), k3)) else if a1 = 4 then lpX12_told_88 a0 a1 FU (-1) 0 k3 fun y24 y25 k26 => some (y24, k26) else some ((-1), k3) else some ((-1), k3)
set_option maxRecDepth 20000 in
theorem c_X12_told (l : Launch) (g : GT) (a0 : Int32) (a1 : Int32) : CN l yX12_told cX12_told 5 (some .int) { frames := 1, cells := 0, slots := 0, locals := 24 } g TM voI [.ref (g.2.1 11), .int a0, .int a1] (fun k => fX12_told k a0 a1) := by
  refine cn_of (by decide) (Nat.le_of_ble_eq_true rfl) ?_
  intro p e s m args below meth c hC k
  have hC : HC p s m args meth c cX12_told 5 RX12 (some .int) g := hC
  have hR : 1 ≤ ({ frames := 1, cells := 0, slots := 0, locals := 24 } : Room).frames ∧ 24 ≤ ({ frames := 1, cells := 0, slots := 0, locals := 24 } : Room).locals := ⟨Nat.le_refl _, Nat.le_refl _⟩
  show ZF p l e _ s m args below meth c g TM voI 5 k 0 [(0, .ref (g.2.1 11)), (1, .int a0), (2, .int a1)] [] (fX12_told k a0 a1)
  unfold fX12_told
  refine zf_aload_n hC dX12_told_0 rfl 0 rfl ?_
  refine zf_iconst hC (v := 0) dX12_told_1 rfl ?_
  refine pf_1230 hC dX12_told_2 ?_
  refine zf_nmk (fun k1 => ?_)
  refine zf_aload_n hC dX12_told_5 rfl 0 rfl ?_
  refine zf_iload_n hC dX12_told_6 rfl 1 rfl ?_
  refine zf_callV hC (c_X12_isKey l g a0) mt_X12_isKey wd_1530 sp_47 ci_11 ic_11 wd_1528 rfl (rm_le hR rfl) rfl rfl (rest := []) rfl (Nat.le_of_ble_eq_true rfl) dX12_told_7 (fun r2 k3 h4 => ?_)
  refine zf_ifb_ne hC (tgt := 15) dX12_told_10 (by decide) (fun h5 => ?_) (fun h5 => ?_)
  · refine zf_iload_n hC dX12_told_15 rfl 2 rfl ?_
    refine zf_ite (fun h6 => ?_) (fun h6 => ?_)
    · refine zf_tabIn hC (tgt := 52) (off := 36) dX12_told_16 (by rw [h6]; decide) (by rw [h6]; decide) (by rw [h6]; rfl) (by decide) ?_
      refine zf_aload_n hC dX12_told_52 rfl 0 rfl ?_
      refine gf_1232 hC dX12_told_53 ?_
      refine zf_iload_n hC dX12_told_56 rfl 1 rfl ?_
      refine zf_iald hC (j := 99) ia_99 rfl rfl dX12_told_57 (fun h7 => ?_)
      exact zf_iret hC rfl dX12_told_58
    refine zf_ite (fun h8 => ?_) (fun h8 => ?_)
    · refine zf_tabIn hC (tgt := 59) (off := 43) dX12_told_16 (by rw [h8]; decide) (by rw [h8]; decide) (by rw [h8]; rfl) (by decide) ?_
      refine zf_aload_n hC dX12_told_59 rfl 0 rfl ?_
      refine gf_1234 hC dX12_told_60 ?_
      refine zf_iload_n hC dX12_told_63 rfl 1 rfl ?_
      refine zf_iald hC (j := 101) ia_101 rfl rfl dX12_told_64 (fun h9 => ?_)
      exact zf_iret hC rfl dX12_told_65
    refine zf_ite (fun h10 => ?_) (fun h10 => ?_)
    · refine zf_tabIn hC (tgt := 66) (off := 50) dX12_told_16 (by rw [h10]; decide) (by rw [h10]; decide) (by rw [h10]; rfl) (by decide) ?_
      refine zf_aload_n hC dX12_told_66 rfl 0 rfl ?_
      refine zf_iload_n hC dX12_told_67 rfl 1 rfl ?_
      refine zf_aload_n hC dX12_told_68 rfl 0 rfl ?_
      refine gf_1231 hC dX12_told_69 ?_
      refine zf_callV hC (c_X12_burntFrom l g a0 (gI k3 11 1)) mt_X12_burntFrom wd_1794 sp_81 ci_11 ic_11 wd_1792 rfl (rm_le hR rfl) rfl rfl (rest := []) rfl (Nat.le_of_ble_eq_true rfl) dX12_told_72 (fun r11 k12 h13 => ?_)
      exact zf_iret hC rfl dX12_told_75
    refine zf_ite (fun h14 => ?_) (fun h14 => ?_)
    · refine zf_tabIn hC (tgt := 76) (off := 60) dX12_told_16 (by rw [h14]; decide) (by rw [h14]; decide) (by rw [h14]; rfl) (by decide) ?_
      refine zf_aload_n hC dX12_told_76 rfl 0 rfl ?_
      refine gf_1236 hC dX12_told_77 ?_
      refine zf_iload_n hC dX12_told_80 rfl 1 rfl ?_
      refine zf_iald hC (j := 103) ia_103 rfl rfl dX12_told_81 (fun h15 => ?_)
      exact zf_iret hC rfl dX12_told_82
    refine zf_ite (fun h16 => ?_) (fun h16 => ?_)
    · refine zf_tabIn hC (tgt := 83) (off := 67) dX12_told_16 (by rw [h16]; decide) (by rw [h16]; decide) (by rw [h16]; rfl) (by decide) ?_
      refine zf_iconst hC (v := (-1)) dX12_told_83 rfl ?_
      refine zf_istore_n hC (LV' := [(3, .int (-1)), (0, .ref (g.2.1 11)), (1, .int a0), (2, .int a1)]) dX12_told_84 rfl (by decide) rfl ?_
      refine zf_iconst hC (v := 0) dX12_told_85 rfl ?_
      refine zf_istore hC (LV' := [(4, .int 0), (3, .int (-1)), (0, .ref (g.2.1 11)), (1, .int a0), (2, .int a1)]) dX12_told_86 (by decide) rfl ?_
      refine zf_lv (LV' := [(0, .ref (g.2.1 11)), (1, .int a0), (2, .int a1), (3, .int (-1)), (4, .int 0)]) [2, 3, 4, 1, 0] rfl ?_
      refine zlpX12_told_88 hC hR a0 a1 (fun y24 y25 k26 => ?_) FU (-1) 0 k3
      refine zf_iload_n hC dX12_told_130 rfl 3 rfl ?_
      exact zf_iret hC rfl dX12_told_131
    refine zf_tabOut hC (tgt := 132) dX12_told_16 (by have zh6 := lv_neT h6 (a := 0) rfl; have zh8 := lv_neT h8 (a := 1) rfl; have zh10 := lv_neT h10 (a := 2) rfl; have zh14 := lv_neT h14 (a := 3) rfl; have zh16 := lv_neT h16 (a := 4) rfl; omega) (by decide) ?_
    refine zf_iconst hC (v := (-1)) dX12_told_132 rfl ?_
    exact zf_iret hC rfl dX12_told_133
  · refine zf_iconst hC (v := (-1)) dX12_told_13 rfl ?_
    exact zf_iret hC rfl dX12_told_14
/-! LifeKeysModel.fall -/
theorem dX12_fall_0 : decode cX12_fall 0 = .ok (.aload_n 0, 1) := by decide +kernel
theorem dX12_fall_1 : decode cX12_fall 1 = .ok (.iconst 0, 1) := by decide +kernel
theorem dX12_fall_2 : decode cX12_fall 2 = .ok (.putfield 181, 3) := by decide +kernel
theorem dX12_fall_5 : decode cX12_fall 5 = .ok (.aload_n 0, 1) := by decide +kernel
theorem dX12_fall_6 : decode cX12_fall 6 = .ok (.getfield 447, 3) := by decide +kernel
theorem dX12_fall_9 : decode cX12_fall 9 = .ok (.bipush 20, 2) := by decide +kernel
theorem dX12_fall_11 : decode cX12_fall 11 = .ok (.if_icmp .eq 12, 3) := by decide +kernel
theorem dX12_fall_14 : decode cX12_fall 14 = .ok (.aload_n 0, 1) := by decide +kernel
theorem dX12_fall_15 : decode cX12_fall 15 = .ok (.iload_n 1, 1) := by decide +kernel
theorem dX12_fall_16 : decode cX12_fall 16 = .ok (.iconst 1, 1) := by decide +kernel
theorem dX12_fall_17 : decode cX12_fall 17 = .ok (.invokevirtual 254, 3) := by decide +kernel
theorem dX12_fall_20 : decode cX12_fall 20 = .ok (.ifCond .ne 5, 3) := by decide +kernel
theorem dX12_fall_23 : decode cX12_fall 23 = .ok (.iconst (-1), 1) := by decide +kernel
theorem dX12_fall_24 : decode cX12_fall 24 = .ok (.ireturn, 1) := by decide +kernel
theorem dX12_fall_25 : decode cX12_fall 25 = .ok (.aload_n 0, 1) := by decide +kernel
theorem dX12_fall_26 : decode cX12_fall 26 = .ok (.getfield 175, 3) := by decide +kernel
theorem dX12_fall_29 : decode cX12_fall 29 = .ok (.aload_n 0, 1) := by decide +kernel
theorem dX12_fall_30 : decode cX12_fall 30 = .ok (.getfield 447, 3) := by decide +kernel
theorem dX12_fall_33 : decode cX12_fall 33 = .ok (.iload_n 1, 1) := by decide +kernel
theorem dX12_fall_34 : decode cX12_fall 34 = .ok (.iastore, 1) := by decide +kernel
theorem dX12_fall_35 : decode cX12_fall 35 = .ok (.aload_n 0, 1) := by decide +kernel
theorem dX12_fall_36 : decode cX12_fall 36 = .ok (.dup, 1) := by decide +kernel
theorem dX12_fall_37 : decode cX12_fall 37 = .ok (.getfield 447, 3) := by decide +kernel
theorem dX12_fall_40 : decode cX12_fall 40 = .ok (.iconst 1, 1) := by decide +kernel
theorem dX12_fall_41 : decode cX12_fall 41 = .ok (.iadd, 1) := by decide +kernel
theorem dX12_fall_42 : decode cX12_fall 42 = .ok (.putfield 447, 3) := by decide +kernel
theorem dX12_fall_45 : decode cX12_fall 45 = .ok (.aload_n 0, 1) := by decide +kernel
theorem dX12_fall_46 : decode cX12_fall 46 = .ok (.getfield 447, 3) := by decide +kernel
theorem dX12_fall_49 : decode cX12_fall 49 = .ok (.iconst 1, 1) := by decide +kernel
theorem dX12_fall_50 : decode cX12_fall 50 = .ok (.isub, 1) := by decide +kernel
theorem dX12_fall_51 : decode cX12_fall 51 = .ok (.ireturn, 1) := by decide +kernel
def fX12_fall (k : ST) (a0 : Int32) : Option (Int32 × ST) := nm (sI k 11 0 0) fun k1 => if (gI k1 11 82) = 20 then some ((-1), k1) else ob (fX12_areHolders k1 a0 1) fun r3 k4 => if r3 = true then ck (inb (gI k4 11 82) 20) (nm (sA k4 152 (ix (gI k4 11 82)) a0) fun k8 => nm (sI k8 11 82 ((gI k8 11 82) + 1)) fun k9 => some ((gI k9 11 82) - 1, k9)) else some ((-1), k4)
set_option maxRecDepth 20000 in
theorem c_X12_fall (l : Launch) (g : GT) (a0 : Int32) : CN l yX12_fall cX12_fall 2 (some .int) { frames := 1, cells := 0, slots := 0, locals := 22 } g TM voI [.ref (g.2.1 11), .int a0] (fun k => fX12_fall k a0) := by
  refine cn_of (by decide) (Nat.le_of_ble_eq_true rfl) ?_
  intro p e s m args below meth c hC k
  have hC : HC p s m args meth c cX12_fall 2 RX12 (some .int) g := hC
  have hR : 1 ≤ ({ frames := 1, cells := 0, slots := 0, locals := 22 } : Room).frames ∧ 22 ≤ ({ frames := 1, cells := 0, slots := 0, locals := 22 } : Room).locals := ⟨Nat.le_refl _, Nat.le_refl _⟩
  show ZF p l e _ s m args below meth c g TM voI 2 k 0 [(0, .ref (g.2.1 11)), (1, .int a0)] [] (fX12_fall k a0)
  unfold fX12_fall
  refine zf_aload_n hC dX12_fall_0 rfl 0 rfl ?_
  refine zf_iconst hC (v := 0) dX12_fall_1 rfl ?_
  refine pf_1230 hC dX12_fall_2 ?_
  refine zf_nmk (fun k1 => ?_)
  refine zf_aload_n hC dX12_fall_5 rfl 0 rfl ?_
  refine gf_1312 hC dX12_fall_6 ?_
  refine zf_bipush hC (v := 20) dX12_fall_9 rfl ?_
  refine zf_icmp_eq hC (tgt := 23) dX12_fall_11 (by decide) (fun h2 => ?_) (fun h2 => ?_)
  · refine zf_iconst hC (v := (-1)) dX12_fall_23 rfl ?_
    exact zf_iret hC rfl dX12_fall_24
  · refine zf_aload_n hC dX12_fall_14 rfl 0 rfl ?_
    refine zf_iload_n hC dX12_fall_15 rfl 1 rfl ?_
    refine zf_iconst hC (v := 1) dX12_fall_16 rfl ?_
    refine zf_callV hC (c_X12_areHolders l g a0 1) mt_X12_areHolders wd_1576 sp_51 ci_11 ic_11 wd_1574 rfl (rm_le hR rfl) rfl rfl (rest := []) rfl (Nat.le_of_ble_eq_true rfl) dX12_fall_17 (fun r3 k4 h5 => ?_)
    refine zf_ifb_ne hC (tgt := 25) dX12_fall_20 (by decide) (fun h6 => ?_) (fun h6 => ?_)
    · refine zf_aload_n hC dX12_fall_25 rfl 0 rfl ?_
      refine gf_1310 hC dX12_fall_26 ?_
      refine zf_aload_n hC dX12_fall_29 rfl 0 rfl ?_
      refine gf_1312 hC dX12_fall_30 ?_
      refine zf_iload_n hC dX12_fall_33 rfl 1 rfl ?_
      refine zf_iast hC (j := 152) ia_152 rfl rfl dX12_fall_34 (fun h7 => ?_)
      refine zf_nmk (fun k8 => ?_)
      refine zf_aload_n hC dX12_fall_35 rfl 0 rfl ?_
      refine zf_dup hC dX12_fall_36 rfl ?_
      refine gf_1312 hC dX12_fall_37 ?_
      refine zf_iconst hC (v := 1) dX12_fall_40 rfl ?_
      refine zf_iadd hC dX12_fall_41 ?_
      refine pf_1312 hC dX12_fall_42 ?_
      refine zf_nmk (fun k9 => ?_)
      refine zf_aload_n hC dX12_fall_45 rfl 0 rfl ?_
      refine gf_1312 hC dX12_fall_46 ?_
      refine zf_iconst hC (v := 1) dX12_fall_49 rfl ?_
      refine zf_isub hC dX12_fall_50 ?_
      exact zf_iret hC rfl dX12_fall_51
    · refine zf_iconst hC (v := (-1)) dX12_fall_23 rfl ?_
      exact zf_iret hC rfl dX12_fall_24
/-! LifeKeysModel.isFall -/
theorem dX12_isFall_0 : decode cX12_isFall 0 = .ok (.iload_n 1, 1) := by decide +kernel
theorem dX12_isFall_1 : decode cX12_isFall 1 = .ok (.ifCond .lt 15, 3) := by decide +kernel
theorem dX12_isFall_4 : decode cX12_isFall 4 = .ok (.iload_n 1, 1) := by decide +kernel
theorem dX12_isFall_5 : decode cX12_isFall 5 = .ok (.aload_n 0, 1) := by decide +kernel
theorem dX12_isFall_6 : decode cX12_isFall 6 = .ok (.getfield 447, 3) := by decide +kernel
theorem dX12_isFall_9 : decode cX12_isFall 9 = .ok (.if_icmp .ge 7, 3) := by decide +kernel
theorem dX12_isFall_12 : decode cX12_isFall 12 = .ok (.iconst 1, 1) := by decide +kernel
theorem dX12_isFall_13 : decode cX12_isFall 13 = .ok (.goto 4, 3) := by decide +kernel
theorem dX12_isFall_16 : decode cX12_isFall 16 = .ok (.iconst 0, 1) := by decide +kernel
theorem dX12_isFall_17 : decode cX12_isFall 17 = .ok (.ireturn, 1) := by decide +kernel
def fX12_isFall (k : ST) (a0 : Int32) : Option (Bool × ST) := if a0 < 0 then some (false, k) else if (gI k 11 82) ≤ a0 then some (false, k) else some (true, k)
set_option maxRecDepth 20000 in
theorem c_X12_isFall (l : Launch) (g : GT) (a0 : Int32) : CN l yX12_isFall cX12_isFall 2 (some .boolean) { frames := 0, cells := 0, slots := 0, locals := 0 } g TM voB [.ref (g.2.1 11), .int a0] (fun k => fX12_isFall k a0) := by
  refine cn_of (by decide) (Nat.le_of_ble_eq_true rfl) ?_
  intro p e s m args below meth c hC k
  have hC : HC p s m args meth c cX12_isFall 2 RX12 (some .boolean) g := hC
  have hR : 0 ≤ ({ frames := 0, cells := 0, slots := 0, locals := 0 } : Room).frames ∧ 0 ≤ ({ frames := 0, cells := 0, slots := 0, locals := 0 } : Room).locals := ⟨Nat.le_refl _, Nat.le_refl _⟩
  show ZF p l e _ s m args below meth c g TM voB 2 k 0 [(0, .ref (g.2.1 11)), (1, .int a0)] [] (fX12_isFall k a0)
  unfold fX12_isFall
  refine zf_iload_n hC dX12_isFall_0 rfl 1 rfl ?_
  refine zf_if_lt hC (tgt := 16) dX12_isFall_1 (by decide) (fun h1 => ?_) (fun h1 => ?_)
  · refine zf_iconst hC (v := 0) dX12_isFall_16 rfl ?_
    exact zf_zret hC rfl false rfl dX12_isFall_17
  · refine zf_iload_n hC dX12_isFall_4 rfl 1 rfl ?_
    refine zf_aload_n hC dX12_isFall_5 rfl 0 rfl ?_
    refine gf_1312 hC dX12_isFall_6 ?_
    refine zf_icmp_ge hC (tgt := 16) dX12_isFall_9 (by decide) (fun h2 => ?_) (fun h2 => ?_)
    · refine zf_iconst hC (v := 0) dX12_isFall_16 rfl ?_
      exact zf_zret hC rfl false rfl dX12_isFall_17
    · refine zf_iconst hC (v := 1) dX12_isFall_12 rfl ?_
      refine zf_goto hC (tgt := 17) dX12_isFall_13 (by decide) ?_
      exact zf_zret hC rfl true rfl dX12_isFall_17
/-! LifeKeysModel.allKeys -/
theorem dX12_allKeys_0 : decode cX12_allKeys 0 = .ok (.aload_n 0, 1) := by decide +kernel
theorem dX12_allKeys_1 : decode cX12_allKeys 1 = .ok (.getfield 199, 3) := by decide +kernel
theorem dX12_allKeys_4 : decode cX12_allKeys 4 = .ok (.ifCond .ne 7, 3) := by decide +kernel
theorem dX12_allKeys_7 : decode cX12_allKeys 7 = .ok (.lconst 0, 1) := by decide +kernel
theorem dX12_allKeys_8 : decode cX12_allKeys 8 = .ok (.goto 14, 3) := by decide +kernel
theorem dX12_allKeys_11 : decode cX12_allKeys 11 = .ok (.ldc2_w 314, 3) := by decide +kernel
theorem dX12_allKeys_14 : decode cX12_allKeys 14 = .ok (.bipush 64, 2) := by decide +kernel
theorem dX12_allKeys_16 : decode cX12_allKeys 16 = .ok (.aload_n 0, 1) := by decide +kernel
theorem dX12_allKeys_17 : decode cX12_allKeys 17 = .ok (.getfield 199, 3) := by decide +kernel
theorem dX12_allKeys_20 : decode cX12_allKeys 20 = .ok (.isub, 1) := by decide +kernel
theorem dX12_allKeys_21 : decode cX12_allKeys 21 = .ok (.lushr, 1) := by decide +kernel
theorem dX12_allKeys_22 : decode cX12_allKeys 22 = .ok (.lreturn, 1) := by decide +kernel
def fX12_allKeys (k : ST)  : Option (Int64 × ST) := if (gI k 11 13) = 0 then some (0, k) else some (j_lushr (-1) (64 - (gI k 11 13)), k)
set_option maxRecDepth 20000 in
theorem c_X12_allKeys (l : Launch) (g : GT)  : CN l yX12_allKeys cX12_allKeys 1 (some .long) { frames := 0, cells := 0, slots := 0, locals := 0 } g TM voL [.ref (g.2.1 11)] (fun k => fX12_allKeys k) := by
  refine cn_of (by decide) (Nat.le_of_ble_eq_true rfl) ?_
  intro p e s m args below meth c hC k
  have hC : HC p s m args meth c cX12_allKeys 1 RX12 (some .long) g := hC
  have hR : 0 ≤ ({ frames := 0, cells := 0, slots := 0, locals := 0 } : Room).frames ∧ 0 ≤ ({ frames := 0, cells := 0, slots := 0, locals := 0 } : Room).locals := ⟨Nat.le_refl _, Nat.le_refl _⟩
  show ZF p l e _ s m args below meth c g TM voL 1 k 0 [(0, .ref (g.2.1 11))] [] (fX12_allKeys k)
  unfold fX12_allKeys
  refine zf_aload_n hC dX12_allKeys_0 rfl 0 rfl ?_
  refine gf_1243 hC dX12_allKeys_1 ?_
  refine zf_if_ne hC (tgt := 11) dX12_allKeys_4 (by decide) (fun h1 => ?_) (fun h1 => ?_)
  · refine zf_lconst hC (v := 0) dX12_allKeys_7 rfl ?_
    refine zf_goto hC (tgt := 22) dX12_allKeys_8 (by decide) ?_
    exact zf_lret hC rfl dX12_allKeys_22
  · refine zf_ldc2 hC wd_1667 dX12_allKeys_11 ?_
    refine zf_bipush hC (v := 64) dX12_allKeys_14 rfl ?_
    refine zf_aload_n hC dX12_allKeys_16 rfl 0 rfl ?_
    refine gf_1243 hC dX12_allKeys_17 ?_
    refine zf_isub hC dX12_allKeys_20 ?_
    refine zf_lushr hC dX12_allKeys_21 ?_
    exact zf_lret hC rfl dX12_allKeys_22
/-! LifeKeysModel.others -/
theorem dX12_others_0 : decode cX12_others 0 = .ok (.iconst 1, 1) := by decide +kernel
theorem dX12_others_1 : decode cX12_others 1 = .ok (.aload_n 0, 1) := by decide +kernel
theorem dX12_others_2 : decode cX12_others 2 = .ok (.getfield 196, 3) := by decide +kernel
theorem dX12_others_5 : decode cX12_others 5 = .ok (.ishl, 1) := by decide +kernel
theorem dX12_others_6 : decode cX12_others 6 = .ok (.iconst 1, 1) := by decide +kernel
theorem dX12_others_7 : decode cX12_others 7 = .ok (.isub, 1) := by decide +kernel
theorem dX12_others_8 : decode cX12_others 8 = .ok (.iload_n 1, 1) := by decide +kernel
theorem dX12_others_9 : decode cX12_others 9 = .ok (.iconst (-1), 1) := by decide +kernel
theorem dX12_others_10 : decode cX12_others 10 = .ok (.ixor, 1) := by decide +kernel
theorem dX12_others_11 : decode cX12_others 11 = .ok (.iand, 1) := by decide +kernel
theorem dX12_others_12 : decode cX12_others 12 = .ok (.ireturn, 1) := by decide +kernel
def fX12_others (k : ST) (a0 : Int32) : Option (Int32 × ST) := some (((j_shl 1 (gI k 11 12)) - 1) &&& (a0 ^^^ (-1)), k)
set_option maxRecDepth 20000 in
theorem c_X12_others (l : Launch) (g : GT) (a0 : Int32) : CN l yX12_others cX12_others 2 (some .int) { frames := 0, cells := 0, slots := 0, locals := 0 } g TM voI [.ref (g.2.1 11), .int a0] (fun k => fX12_others k a0) := by
  refine cn_of (by decide) (Nat.le_of_ble_eq_true rfl) ?_
  intro p e s m args below meth c hC k
  have hC : HC p s m args meth c cX12_others 2 RX12 (some .int) g := hC
  have hR : 0 ≤ ({ frames := 0, cells := 0, slots := 0, locals := 0 } : Room).frames ∧ 0 ≤ ({ frames := 0, cells := 0, slots := 0, locals := 0 } : Room).locals := ⟨Nat.le_refl _, Nat.le_refl _⟩
  show ZF p l e _ s m args below meth c g TM voI 2 k 0 [(0, .ref (g.2.1 11)), (1, .int a0)] [] (fX12_others k a0)
  unfold fX12_others
  refine zf_iconst hC (v := 1) dX12_others_0 rfl ?_
  refine zf_aload_n hC dX12_others_1 rfl 0 rfl ?_
  refine gf_1242 hC dX12_others_2 ?_
  refine zf_ishl hC dX12_others_5 ?_
  refine zf_iconst hC (v := 1) dX12_others_6 rfl ?_
  refine zf_isub hC dX12_others_7 ?_
  refine zf_iload_n hC dX12_others_8 rfl 1 rfl ?_
  refine zf_iconst hC (v := (-1)) dX12_others_9 rfl ?_
  refine zf_ixor hC dX12_others_10 ?_
  refine zf_iand hC dX12_others_11 ?_
  exact zf_iret hC rfl dX12_others_12
/-! LifeKeysModel.fallen -/
theorem dX12_fallen_0 : decode cX12_fallen 0 = .ok (.aload_n 0, 1) := by decide +kernel
theorem dX12_fallen_1 : decode cX12_fallen 1 = .ok (.iconst 0, 1) := by decide +kernel
theorem dX12_fallen_2 : decode cX12_fallen 2 = .ok (.putfield 181, 3) := by decide +kernel
theorem dX12_fallen_5 : decode cX12_fallen 5 = .ok (.aload_n 0, 1) := by decide +kernel
theorem dX12_fallen_6 : decode cX12_fallen 6 = .ok (.iload_n 1, 1) := by decide +kernel
theorem dX12_fallen_7 : decode cX12_fallen 7 = .ok (.invokevirtual 450, 3) := by decide +kernel
theorem dX12_fallen_10 : decode cX12_fallen 10 = .ok (.ifCond .eq 12, 3) := by decide +kernel
theorem dX12_fallen_13 : decode cX12_fallen 13 = .ok (.iload_n 2, 1) := by decide +kernel
theorem dX12_fallen_14 : decode cX12_fallen 14 = .ok (.iconst 0, 1) := by decide +kernel
theorem dX12_fallen_15 : decode cX12_fallen 15 = .ok (.iconst 1, 1) := by decide +kernel
theorem dX12_fallen_16 : decode cX12_fallen 16 = .ok (.invokestatic 188, 3) := by decide +kernel
theorem dX12_fallen_19 : decode cX12_fallen 19 = .ok (.ifCond .ne 7, 3) := by decide +kernel
theorem dX12_fallen_22 : decode cX12_fallen 22 = .ok (.ldc2_w 314, 3) := by decide +kernel
theorem dX12_fallen_25 : decode cX12_fallen 25 = .ok (.lreturn, 1) := by decide +kernel
theorem dX12_fallen_26 : decode cX12_fallen 26 = .ok (.iload_n 2, 1) := by decide +kernel
theorem dX12_fallen_27 : decode cX12_fallen 27 = .ok (.iconst 1, 1) := by decide +kernel
theorem dX12_fallen_28 : decode cX12_fallen 28 = .ok (.if_icmp .ne 20, 3) := by decide +kernel
theorem dX12_fallen_31 : decode cX12_fallen 31 = .ok (.aload_n 0, 1) := by decide +kernel
theorem dX12_fallen_32 : decode cX12_fallen 32 = .ok (.aload_n 0, 1) := by decide +kernel
theorem dX12_fallen_33 : decode cX12_fallen 33 = .ok (.getfield 175, 3) := by decide +kernel
theorem dX12_fallen_36 : decode cX12_fallen 36 = .ok (.iload_n 1, 1) := by decide +kernel
theorem dX12_fallen_37 : decode cX12_fallen 37 = .ok (.iaload, 1) := by decide +kernel
theorem dX12_fallen_38 : decode cX12_fallen 38 = .ok (.aload_n 0, 1) := by decide +kernel
theorem dX12_fallen_39 : decode cX12_fallen 39 = .ok (.getfield 185, 3) := by decide +kernel
theorem dX12_fallen_42 : decode cX12_fallen 42 = .ok (.invokevirtual 310, 3) := by decide +kernel
theorem dX12_fallen_45 : decode cX12_fallen 45 = .ok (.goto 30, 3) := by decide +kernel
theorem dX12_fallen_48 : decode cX12_fallen 48 = .ok (.aload_n 0, 1) := by decide +kernel
theorem dX12_fallen_49 : decode cX12_fallen 49 = .ok (.invokevirtual 453, 3) := by decide +kernel
theorem dX12_fallen_52 : decode cX12_fallen 52 = .ok (.aload_n 0, 1) := by decide +kernel
theorem dX12_fallen_53 : decode cX12_fallen 53 = .ok (.aload_n 0, 1) := by decide +kernel
theorem dX12_fallen_54 : decode cX12_fallen 54 = .ok (.aload_n 0, 1) := by decide +kernel
theorem dX12_fallen_55 : decode cX12_fallen 55 = .ok (.getfield 175, 3) := by decide +kernel
theorem dX12_fallen_58 : decode cX12_fallen 58 = .ok (.iload_n 1, 1) := by decide +kernel
theorem dX12_fallen_59 : decode cX12_fallen 59 = .ok (.iaload, 1) := by decide +kernel
theorem dX12_fallen_60 : decode cX12_fallen 60 = .ok (.invokevirtual 457, 3) := by decide +kernel
theorem dX12_fallen_63 : decode cX12_fallen 63 = .ok (.aload_n 0, 1) := by decide +kernel
theorem dX12_fallen_64 : decode cX12_fallen 64 = .ok (.getfield 185, 3) := by decide +kernel
theorem dX12_fallen_67 : decode cX12_fallen 67 = .ok (.invokevirtual 310, 3) := by decide +kernel
theorem dX12_fallen_70 : decode cX12_fallen 70 = .ok (.ldc2_w 314, 3) := by decide +kernel
theorem dX12_fallen_73 : decode cX12_fallen 73 = .ok (.lxor, 1) := by decide +kernel
theorem dX12_fallen_74 : decode cX12_fallen 74 = .ok (.land, 1) := by decide +kernel
theorem dX12_fallen_75 : decode cX12_fallen 75 = .ok (.lreturn, 1) := by decide +kernel
def fX12_fallen (k : ST) (a0 : Int32) (a1 : Int32) : Option (Int64 × ST) := nm (sI k 11 0 0) fun k1 => ob (fX12_isFall k1 a0) fun r2 k3 => if r2 = true then ob (fX12_isIn k3 a1 0 1) fun r6 k7 => if r6 = true then if a1 = 1 then ck (inb a0 20) (ob (fX12_gets k7 (gA k7 152 (ix a0)) (gI k7 11 1)) fun r12 k13 => some (r12, k13)) else ob (fX12_allKeys k7) fun r15 k16 => ck (inb a0 20) (ob (fX12_others k16 (gA k16 152 (ix a0))) fun r19 k20 => ob (fX12_gets k20 r19 (gI k20 11 1)) fun r22 k23 => some (r15 &&& (r22 ^^^ (-1)), k23)) else some (-1, k7) else some (-1, k3)
set_option maxRecDepth 20000 in
theorem c_X12_fallen (l : Launch) (g : GT) (a0 : Int32) (a1 : Int32) : CN l yX12_fallen cX12_fallen 3 (some .long) { frames := 3, cells := 0, slots := 0, locals := 74 } g TM voL [.ref (g.2.1 11), .int a0, .int a1] (fun k => fX12_fallen k a0 a1) := by
  refine cn_of (by decide) (Nat.le_of_ble_eq_true rfl) ?_
  intro p e s m args below meth c hC k
  have hC : HC p s m args meth c cX12_fallen 3 RX12 (some .long) g := hC
  have hR : 3 ≤ ({ frames := 3, cells := 0, slots := 0, locals := 74 } : Room).frames ∧ 74 ≤ ({ frames := 3, cells := 0, slots := 0, locals := 74 } : Room).locals := ⟨Nat.le_refl _, Nat.le_refl _⟩
  show ZF p l e _ s m args below meth c g TM voL 3 k 0 [(0, .ref (g.2.1 11)), (1, .int a0), (2, .int a1)] [] (fX12_fallen k a0 a1)
  unfold fX12_fallen
  refine zf_aload_n hC dX12_fallen_0 rfl 0 rfl ?_
  refine zf_iconst hC (v := 0) dX12_fallen_1 rfl ?_
  refine pf_1230 hC dX12_fallen_2 ?_
  refine zf_nmk (fun k1 => ?_)
  refine zf_aload_n hC dX12_fallen_5 rfl 0 rfl ?_
  refine zf_iload_n hC dX12_fallen_6 rfl 1 rfl ?_
  refine zf_callV hC (c_X12_isFall l g a0) mt_X12_isFall wd_1861 sp_84 ci_11 ic_11 wd_1859 rfl (rm_le hR rfl) rfl rfl (rest := []) rfl (Nat.le_of_ble_eq_true rfl) dX12_fallen_7 (fun r2 k3 h4 => ?_)
  refine zf_ifb_eq hC (tgt := 22) dX12_fallen_10 (by decide) (fun h5 => ?_) (fun h5 => ?_)
  · refine zf_iload_n hC dX12_fallen_13 rfl 2 rfl ?_
    refine zf_iconst hC (v := 0) dX12_fallen_14 rfl ?_
    refine zf_iconst hC (v := 1) dX12_fallen_15 rfl ?_
    refine zf_callS hC (c_X12_isIn l g TM a1 0 1) mt_X12_isIn wd_1495 wd_1494 rfl (rm_le hR rfl) rfl rfl (rest := []) rfl (Nat.le_of_ble_eq_true rfl) dX12_fallen_16 (fun r6 k7 h8 => ?_)
    refine zf_ifb_ne hC (tgt := 26) dX12_fallen_19 (by decide) (fun h9 => ?_) (fun h9 => ?_)
    · refine zf_iload_n hC dX12_fallen_26 rfl 2 rfl ?_
      refine zf_iconst hC (v := 1) dX12_fallen_27 rfl ?_
      refine zf_icmp_ne hC (tgt := 48) dX12_fallen_28 (by decide) (fun h10 => ?_) (fun h10 => ?_)
      · refine zf_aload_n hC dX12_fallen_31 rfl 0 rfl ?_
        refine zf_aload_n hC dX12_fallen_32 rfl 0 rfl ?_
        refine gf_1310 hC dX12_fallen_33 ?_
        refine zf_iload_n hC dX12_fallen_36 rfl 1 rfl ?_
        refine zf_iald hC (j := 152) ia_152 rfl rfl dX12_fallen_37 (fun h11 => ?_)
        refine zf_aload_n hC dX12_fallen_38 rfl 0 rfl ?_
        refine gf_1231 hC dX12_fallen_39 ?_
        refine zf_callV hC (c_X12_gets l g (gA k7 152 (ix a0)) (gI k7 11 1)) mt_X12_gets wd_1649 sp_57 ci_11 ic_11 wd_1647 rfl (rm_le hR rfl) rfl rfl (rest := []) rfl (Nat.le_of_ble_eq_true rfl) dX12_fallen_42 (fun r12 k13 h14 => ?_)
        refine zf_goto hC (tgt := 75) dX12_fallen_45 (by decide) ?_
        exact zf_lret hC rfl dX12_fallen_75
      · refine zf_aload_n hC dX12_fallen_48 rfl 0 rfl ?_
        refine zf_callV hC (c_X12_allKeys l g) mt_X12_allKeys wd_1865 sp_85 ci_11 ic_11 wd_1863 rfl (rm_le hR rfl) rfl rfl (rest := []) rfl (Nat.le_of_ble_eq_true rfl) dX12_fallen_49 (fun r15 k16 h17 => ?_)
        refine zf_aload_n hC dX12_fallen_52 rfl 0 rfl ?_
        refine zf_aload_n hC dX12_fallen_53 rfl 0 rfl ?_
        refine zf_aload_n hC dX12_fallen_54 rfl 0 rfl ?_
        refine gf_1310 hC dX12_fallen_55 ?_
        refine zf_iload_n hC dX12_fallen_58 rfl 1 rfl ?_
        refine zf_iald hC (j := 152) ia_152 rfl rfl dX12_fallen_59 (fun h18 => ?_)
        refine zf_callV hC (c_X12_others l g (gA k16 152 (ix a0))) mt_X12_others wd_1869 sp_86 ci_11 ic_11 wd_1867 rfl (rm_le hR rfl) rfl rfl (rest := [.ref (g.2.1 11), .long r15]) rfl (Nat.le_of_ble_eq_true rfl) dX12_fallen_60 (fun r19 k20 h21 => ?_)
        refine zf_aload_n hC dX12_fallen_63 rfl 0 rfl ?_
        refine gf_1231 hC dX12_fallen_64 ?_
        refine zf_callV hC (c_X12_gets l g r19 (gI k20 11 1)) mt_X12_gets wd_1649 sp_57 ci_11 ic_11 wd_1647 rfl (rm_le hR rfl) rfl rfl (rest := [.long r15]) rfl (Nat.le_of_ble_eq_true rfl) dX12_fallen_67 (fun r22 k23 h24 => ?_)
        refine zf_ldc2 hC wd_1667 dX12_fallen_70 ?_
        refine zf_lxor hC dX12_fallen_73 ?_
        refine zf_land hC dX12_fallen_74 ?_
        exact zf_lret hC rfl dX12_fallen_75
    · refine zf_ldc2 hC wd_1667 dX12_fallen_22 ?_
      exact zf_lret hC rfl dX12_fallen_25
  · refine zf_ldc2 hC wd_1667 dX12_fallen_22 ?_
    exact zf_lret hC rfl dX12_fallen_25
/-! LifeKeysModel.harms -/
theorem dX12_harms_0 : decode cX12_harms 0 = .ok (.iload_n 3, 1) := by decide +kernel
theorem dX12_harms_1 : decode cX12_harms 1 = .ok (.iconst 1, 1) := by decide +kernel
theorem dX12_harms_2 : decode cX12_harms 2 = .ok (.if_icmp .ne 31, 3) := by decide +kernel
theorem dX12_harms_5 : decode cX12_harms 5 = .ok (.aload_n 0, 1) := by decide +kernel
theorem dX12_harms_6 : decode cX12_harms 6 = .ok (.iload_n 1, 1) := by decide +kernel
theorem dX12_harms_7 : decode cX12_harms 7 = .ok (.aload_n 0, 1) := by decide +kernel
theorem dX12_harms_8 : decode cX12_harms 8 = .ok (.getfield 185, 3) := by decide +kernel
theorem dX12_harms_11 : decode cX12_harms 11 = .ok (.iconst (-1), 1) := by decide +kernel
theorem dX12_harms_12 : decode cX12_harms 12 = .ok (.iconst 0, 1) := by decide +kernel
theorem dX12_harms_13 : decode cX12_harms 13 = .ok (.invokevirtual 303, 3) := by decide +kernel
theorem dX12_harms_16 : decode cX12_harms 16 = .ok (.iload_n 2, 1) := by decide +kernel
theorem dX12_harms_17 : decode cX12_harms 17 = .ok (.lshr, 1) := by decide +kernel
theorem dX12_harms_18 : decode cX12_harms 18 = .ok (.lconst 1, 1) := by decide +kernel
theorem dX12_harms_19 : decode cX12_harms 19 = .ok (.land, 1) := by decide +kernel
theorem dX12_harms_20 : decode cX12_harms 20 = .ok (.lconst 1, 1) := by decide +kernel
theorem dX12_harms_21 : decode cX12_harms 21 = .ok (.lcmp, 1) := by decide +kernel
theorem dX12_harms_22 : decode cX12_harms 22 = .ok (.ifCond .ne 7, 3) := by decide +kernel
theorem dX12_harms_25 : decode cX12_harms 25 = .ok (.iconst 1, 1) := by decide +kernel
theorem dX12_harms_26 : decode cX12_harms 26 = .ok (.goto 36, 3) := by decide +kernel
theorem dX12_harms_29 : decode cX12_harms 29 = .ok (.iconst 0, 1) := by decide +kernel
theorem dX12_harms_30 : decode cX12_harms 30 = .ok (.goto 32, 3) := by decide +kernel
theorem dX12_harms_33 : decode cX12_harms 33 = .ok (.aload_n 0, 1) := by decide +kernel
theorem dX12_harms_34 : decode cX12_harms 34 = .ok (.aload_n 0, 1) := by decide +kernel
theorem dX12_harms_35 : decode cX12_harms 35 = .ok (.iload_n 1, 1) := by decide +kernel
theorem dX12_harms_36 : decode cX12_harms 36 = .ok (.invokevirtual 457, 3) := by decide +kernel
theorem dX12_harms_39 : decode cX12_harms 39 = .ok (.aload_n 0, 1) := by decide +kernel
theorem dX12_harms_40 : decode cX12_harms 40 = .ok (.getfield 185, 3) := by decide +kernel
theorem dX12_harms_43 : decode cX12_harms 43 = .ok (.iconst (-1), 1) := by decide +kernel
theorem dX12_harms_44 : decode cX12_harms 44 = .ok (.iconst 0, 1) := by decide +kernel
theorem dX12_harms_45 : decode cX12_harms 45 = .ok (.invokevirtual 303, 3) := by decide +kernel
theorem dX12_harms_48 : decode cX12_harms 48 = .ok (.iload_n 2, 1) := by decide +kernel
theorem dX12_harms_49 : decode cX12_harms 49 = .ok (.lshr, 1) := by decide +kernel
theorem dX12_harms_50 : decode cX12_harms 50 = .ok (.lconst 1, 1) := by decide +kernel
theorem dX12_harms_51 : decode cX12_harms 51 = .ok (.land, 1) := by decide +kernel
theorem dX12_harms_52 : decode cX12_harms 52 = .ok (.lconst 0, 1) := by decide +kernel
theorem dX12_harms_53 : decode cX12_harms 53 = .ok (.lcmp, 1) := by decide +kernel
theorem dX12_harms_54 : decode cX12_harms 54 = .ok (.ifCond .ne 7, 3) := by decide +kernel
theorem dX12_harms_57 : decode cX12_harms 57 = .ok (.iconst 1, 1) := by decide +kernel
theorem dX12_harms_58 : decode cX12_harms 58 = .ok (.goto 4, 3) := by decide +kernel
theorem dX12_harms_61 : decode cX12_harms 61 = .ok (.iconst 0, 1) := by decide +kernel
theorem dX12_harms_62 : decode cX12_harms 62 = .ok (.ireturn, 1) := by decide +kernel
def fX12_harms (k : ST) (a0 : Int32) (a1 : Int32) (a2 : Int32) : Option (Bool × ST) := if a2 = 1 then ob (fX12_closes k a0 (gI k 11 1) (-1) 0) fun r2 k3 => if ((j_lshr r2 a1) &&& 1) = 1 then some (true, k3) else some (false, k3) else ob (fX12_others k a0) fun r6 k7 => ob (fX12_closes k7 r6 (gI k7 11 1) (-1) 0) fun r9 k10 => if ((j_lshr r9 a1) &&& 1) = 0 then some (true, k10) else some (false, k10)
set_option maxRecDepth 20000 in
theorem c_X12_harms (l : Launch) (g : GT) (a0 : Int32) (a1 : Int32) (a2 : Int32) : CN l yX12_harms cX12_harms 4 (some .boolean) { frames := 2, cells := 0, slots := 0, locals := 52 } g TM voB [.ref (g.2.1 11), .int a0, .int a1, .int a2] (fun k => fX12_harms k a0 a1 a2) := by
  refine cn_of (by decide) (Nat.le_of_ble_eq_true rfl) ?_
  intro p e s m args below meth c hC k
  have hC : HC p s m args meth c cX12_harms 4 RX12 (some .boolean) g := hC
  have hR : 2 ≤ ({ frames := 2, cells := 0, slots := 0, locals := 52 } : Room).frames ∧ 52 ≤ ({ frames := 2, cells := 0, slots := 0, locals := 52 } : Room).locals := ⟨Nat.le_refl _, Nat.le_refl _⟩
  show ZF p l e _ s m args below meth c g TM voB 4 k 0 [(0, .ref (g.2.1 11)), (1, .int a0), (2, .int a1), (3, .int a2)] [] (fX12_harms k a0 a1 a2)
  unfold fX12_harms
  refine zf_iload_n hC dX12_harms_0 rfl 3 rfl ?_
  refine zf_iconst hC (v := 1) dX12_harms_1 rfl ?_
  refine zf_icmp_ne hC (tgt := 33) dX12_harms_2 (by decide) (fun h1 => ?_) (fun h1 => ?_)
  · refine zf_aload_n hC dX12_harms_5 rfl 0 rfl ?_
    refine zf_iload_n hC dX12_harms_6 rfl 1 rfl ?_
    refine zf_aload_n hC dX12_harms_7 rfl 0 rfl ?_
    refine gf_1231 hC dX12_harms_8 ?_
    refine zf_iconst hC (v := (-1)) dX12_harms_11 rfl ?_
    refine zf_iconst hC (v := 0) dX12_harms_12 rfl ?_
    refine zf_callV hC (c_X12_closes l g a0 (gI k 11 1) (-1) 0) mt_X12_closes wd_1657 sp_59 ci_11 ic_11 wd_1655 rfl (rm_le hR rfl) rfl rfl (rest := []) rfl (Nat.le_of_ble_eq_true rfl) dX12_harms_13 (fun r2 k3 h4 => ?_)
    refine zf_iload_n hC dX12_harms_16 rfl 2 rfl ?_
    refine zf_lshr hC dX12_harms_17 ?_
    refine zf_lconst hC (v := 1) dX12_harms_18 rfl ?_
    refine zf_land hC dX12_harms_19 ?_
    refine zf_lconst hC (v := 1) dX12_harms_20 rfl ?_
    refine zf_lcmp_ne hC (tgt := 29) dX12_harms_21 dX12_harms_22 (by decide) (fun h5 => ?_) (fun h5 => ?_)
    · refine zf_iconst hC (v := 1) dX12_harms_25 rfl ?_
      refine zf_goto hC (tgt := 62) dX12_harms_26 (by decide) ?_
      exact zf_zret hC rfl true rfl dX12_harms_62
    · refine zf_iconst hC (v := 0) dX12_harms_29 rfl ?_
      refine zf_goto hC (tgt := 62) dX12_harms_30 (by decide) ?_
      exact zf_zret hC rfl false rfl dX12_harms_62
  · refine zf_aload_n hC dX12_harms_33 rfl 0 rfl ?_
    refine zf_aload_n hC dX12_harms_34 rfl 0 rfl ?_
    refine zf_iload_n hC dX12_harms_35 rfl 1 rfl ?_
    refine zf_callV hC (c_X12_others l g a0) mt_X12_others wd_1869 sp_86 ci_11 ic_11 wd_1867 rfl (rm_le hR rfl) rfl rfl (rest := [.ref (g.2.1 11)]) rfl (Nat.le_of_ble_eq_true rfl) dX12_harms_36 (fun r6 k7 h8 => ?_)
    refine zf_aload_n hC dX12_harms_39 rfl 0 rfl ?_
    refine gf_1231 hC dX12_harms_40 ?_
    refine zf_iconst hC (v := (-1)) dX12_harms_43 rfl ?_
    refine zf_iconst hC (v := 0) dX12_harms_44 rfl ?_
    refine zf_callV hC (c_X12_closes l g r6 (gI k7 11 1) (-1) 0) mt_X12_closes wd_1657 sp_59 ci_11 ic_11 wd_1655 rfl (rm_le hR rfl) rfl rfl (rest := []) rfl (Nat.le_of_ble_eq_true rfl) dX12_harms_45 (fun r9 k10 h11 => ?_)
    refine zf_iload_n hC dX12_harms_48 rfl 2 rfl ?_
    refine zf_lshr hC dX12_harms_49 ?_
    refine zf_lconst hC (v := 1) dX12_harms_50 rfl ?_
    refine zf_land hC dX12_harms_51 ?_
    refine zf_lconst hC (v := 0) dX12_harms_52 rfl ?_
    refine zf_lcmp_ne hC (tgt := 61) dX12_harms_53 dX12_harms_54 (by decide) (fun h12 => ?_) (fun h12 => ?_)
    · refine zf_iconst hC (v := 1) dX12_harms_57 rfl ?_
      refine zf_goto hC (tgt := 62) dX12_harms_58 (by decide) ?_
      exact zf_zret hC rfl true rfl dX12_harms_62
    · refine zf_iconst hC (v := 0) dX12_harms_61 rfl ?_
      exact zf_zret hC rfl false rfl dX12_harms_62
/-! LifeKeysModel.finds -/
theorem dX12_finds_0 : decode cX12_finds 0 = .ok (.aload_n 0, 1) := by decide +kernel
theorem dX12_finds_1 : decode cX12_finds 1 = .ok (.iconst 0, 1) := by decide +kernel
theorem dX12_finds_2 : decode cX12_finds 2 = .ok (.putfield 181, 3) := by decide +kernel
theorem dX12_finds_5 : decode cX12_finds 5 = .ok (.aload_n 0, 1) := by decide +kernel
theorem dX12_finds_6 : decode cX12_finds 6 = .ok (.iload_n 1, 1) := by decide +kernel
theorem dX12_finds_7 : decode cX12_finds 7 = .ok (.invokevirtual 216, 3) := by decide +kernel
theorem dX12_finds_10 : decode cX12_finds 10 = .ok (.ifCond .eq 12, 3) := by decide +kernel
theorem dX12_finds_13 : decode cX12_finds 13 = .ok (.iload_n 2, 1) := by decide +kernel
theorem dX12_finds_14 : decode cX12_finds 14 = .ok (.iconst 0, 1) := by decide +kernel
theorem dX12_finds_15 : decode cX12_finds 15 = .ok (.iconst 1, 1) := by decide +kernel
theorem dX12_finds_16 : decode cX12_finds 16 = .ok (.invokestatic 188, 3) := by decide +kernel
theorem dX12_finds_19 : decode cX12_finds 19 = .ok (.ifCond .ne 5, 3) := by decide +kernel
theorem dX12_finds_22 : decode cX12_finds 22 = .ok (.iconst 0, 1) := by decide +kernel
theorem dX12_finds_23 : decode cX12_finds 23 = .ok (.ireturn, 1) := by decide +kernel
theorem dX12_finds_24 : decode cX12_finds 24 = .ok (.aload_n 0, 1) := by decide +kernel
theorem dX12_finds_25 : decode cX12_finds 25 = .ok (.aload_n 0, 1) := by decide +kernel
theorem dX12_finds_26 : decode cX12_finds 26 = .ok (.getfield 185, 3) := by decide +kernel
theorem dX12_finds_29 : decode cX12_finds 29 = .ok (.invokevirtual 300, 3) := by decide +kernel
theorem dX12_finds_32 : decode cX12_finds 32 = .ok (.aload_n 0, 1) := by decide +kernel
theorem dX12_finds_33 : decode cX12_finds 33 = .ok (.iconst (-1), 1) := by decide +kernel
theorem dX12_finds_34 : decode cX12_finds 34 = .ok (.putfield 460, 3) := by decide +kernel
theorem dX12_finds_37 : decode cX12_finds 37 = .ok (.aload_n 0, 1) := by decide +kernel
theorem dX12_finds_38 : decode cX12_finds 38 = .ok (.iconst 0, 1) := by decide +kernel
theorem dX12_finds_39 : decode cX12_finds 39 = .ok (.putfield 463, 3) := by decide +kernel
theorem dX12_finds_42 : decode cX12_finds 42 = .ok (.iconst 1, 1) := by decide +kernel
theorem dX12_finds_43 : decode cX12_finds 43 = .ok (.istore_n 3, 1) := by decide +kernel
theorem dX12_finds_44 : decode cX12_finds 44 = .ok (.iload_n 3, 1) := by decide +kernel
theorem dX12_finds_45 : decode cX12_finds 45 = .ok (.iconst 1, 1) := by decide +kernel
theorem dX12_finds_46 : decode cX12_finds 46 = .ok (.aload_n 0, 1) := by decide +kernel
theorem dX12_finds_47 : decode cX12_finds 47 = .ok (.getfield 196, 3) := by decide +kernel
theorem dX12_finds_50 : decode cX12_finds 50 = .ok (.ishl, 1) := by decide +kernel
theorem dX12_finds_51 : decode cX12_finds 51 = .ok (.if_icmp .ge 114, 3) := by decide +kernel
theorem dX12_finds_54 : decode cX12_finds 54 = .ok (.aload_n 0, 1) := by decide +kernel
theorem dX12_finds_55 : decode cX12_finds 55 = .ok (.getfield 460, 3) := by decide +kernel
theorem dX12_finds_58 : decode cX12_finds 58 = .ok (.iconst (-1), 1) := by decide +kernel
theorem dX12_finds_59 : decode cX12_finds 59 = .ok (.if_icmp .ne 7, 3) := by decide +kernel
theorem dX12_finds_62 : decode cX12_finds 62 = .ok (.iconst (-1), 1) := by decide +kernel
theorem dX12_finds_63 : decode cX12_finds 63 = .ok (.goto 15, 3) := by decide +kernel
theorem dX12_finds_66 : decode cX12_finds 66 = .ok (.iload_n 3, 1) := by decide +kernel
theorem dX12_finds_67 : decode cX12_finds 67 = .ok (.invokestatic 258, 3) := by decide +kernel
theorem dX12_finds_70 : decode cX12_finds 70 = .ok (.aload_n 0, 1) := by decide +kernel
theorem dX12_finds_71 : decode cX12_finds 71 = .ok (.getfield 460, 3) := by decide +kernel
theorem dX12_finds_74 : decode cX12_finds 74 = .ok (.invokestatic 258, 3) := by decide +kernel
theorem dX12_finds_77 : decode cX12_finds 77 = .ok (.isub, 1) := by decide +kernel
theorem dX12_finds_78 : decode cX12_finds 78 = .ok (.istore 4, 2) := by decide +kernel
theorem dX12_finds_80 : decode cX12_finds 80 = .ok (.iload 4, 2) := by decide +kernel
theorem dX12_finds_82 : decode cX12_finds 82 = .ok (.ifCond .gt 77, 3) := by decide +kernel
theorem dX12_finds_85 : decode cX12_finds 85 = .ok (.aload_n 0, 1) := by decide +kernel
theorem dX12_finds_86 : decode cX12_finds 86 = .ok (.iload_n 3, 1) := by decide +kernel
theorem dX12_finds_87 : decode cX12_finds 87 = .ok (.iload_n 1, 1) := by decide +kernel
theorem dX12_finds_88 : decode cX12_finds 88 = .ok (.iload_n 2, 1) := by decide +kernel
theorem dX12_finds_89 : decode cX12_finds 89 = .ok (.invokevirtual 466, 3) := by decide +kernel
theorem dX12_finds_92 : decode cX12_finds 92 = .ok (.ifCond .ne 6, 3) := by decide +kernel
theorem dX12_finds_95 : decode cX12_finds 95 = .ok (.goto 64, 3) := by decide +kernel
theorem dX12_finds_98 : decode cX12_finds 98 = .ok (.aload_n 0, 1) := by decide +kernel
theorem dX12_finds_99 : decode cX12_finds 99 = .ok (.iload 4, 2) := by decide +kernel
theorem dX12_finds_101 : decode cX12_finds 101 = .ok (.ifCond .ge 7, 3) := by decide +kernel
theorem dX12_finds_104 : decode cX12_finds 104 = .ok (.iconst 1, 1) := by decide +kernel
theorem dX12_finds_105 : decode cX12_finds 105 = .ok (.goto 9, 3) := by decide +kernel
theorem dX12_finds_108 : decode cX12_finds 108 = .ok (.aload_n 0, 1) := by decide +kernel
theorem dX12_finds_109 : decode cX12_finds 109 = .ok (.getfield 463, 3) := by decide +kernel
theorem dX12_finds_112 : decode cX12_finds 112 = .ok (.iconst 1, 1) := by decide +kernel
theorem dX12_finds_113 : decode cX12_finds 113 = .ok (.iadd, 1) := by decide +kernel
theorem dX12_finds_114 : decode cX12_finds 114 = .ok (.putfield 463, 3) := by decide +kernel
theorem dX12_finds_117 : decode cX12_finds 117 = .ok (.iload 4, 2) := by decide +kernel
theorem dX12_finds_119 : decode cX12_finds 119 = .ok (.ifCond .ge 7, 3) := by decide +kernel
theorem dX12_finds_122 : decode cX12_finds 122 = .ok (.iconst 0, 1) := by decide +kernel
theorem dX12_finds_123 : decode cX12_finds 123 = .ok (.goto 17, 3) := by decide +kernel
theorem dX12_finds_126 : decode cX12_finds 126 = .ok (.iload_n 3, 1) := by decide +kernel
theorem dX12_finds_127 : decode cX12_finds 127 = .ok (.aload_n 0, 1) := by decide +kernel
theorem dX12_finds_128 : decode cX12_finds 128 = .ok (.getfield 460, 3) := by decide +kernel
theorem dX12_finds_131 : decode cX12_finds 131 = .ok (.ixor, 1) := by decide +kernel
theorem dX12_finds_132 : decode cX12_finds 132 = .ok (.iload_n 3, 1) := by decide +kernel
theorem dX12_finds_133 : decode cX12_finds 133 = .ok (.aload_n 0, 1) := by decide +kernel
theorem dX12_finds_134 : decode cX12_finds 134 = .ok (.getfield 460, 3) := by decide +kernel
theorem dX12_finds_137 : decode cX12_finds 137 = .ok (.ixor, 1) := by decide +kernel
theorem dX12_finds_138 : decode cX12_finds 138 = .ok (.ineg, 1) := by decide +kernel
theorem dX12_finds_139 : decode cX12_finds 139 = .ok (.iand, 1) := by decide +kernel
theorem dX12_finds_140 : decode cX12_finds 140 = .ok (.istore 5, 2) := by decide +kernel
theorem dX12_finds_142 : decode cX12_finds 142 = .ok (.iload 4, 2) := by decide +kernel
theorem dX12_finds_144 : decode cX12_finds 144 = .ok (.ifCond .lt 10, 3) := by decide +kernel
theorem dX12_finds_147 : decode cX12_finds 147 = .ok (.iload_n 3, 1) := by decide +kernel
theorem dX12_finds_148 : decode cX12_finds 148 = .ok (.iload 5, 2) := by decide +kernel
theorem dX12_finds_150 : decode cX12_finds 150 = .ok (.iand, 1) := by decide +kernel
theorem dX12_finds_151 : decode cX12_finds 151 = .ok (.ifCond .eq 8, 3) := by decide +kernel
theorem dX12_finds_154 : decode cX12_finds 154 = .ok (.aload_n 0, 1) := by decide +kernel
theorem dX12_finds_155 : decode cX12_finds 155 = .ok (.iload_n 3, 1) := by decide +kernel
theorem dX12_finds_156 : decode cX12_finds 156 = .ok (.putfield 460, 3) := by decide +kernel
theorem dX12_finds_159 : decode cX12_finds 159 = .ok (.iinc 3 1, 3) := by decide +kernel
theorem dX12_finds_162 : decode cX12_finds 162 = .ok (.goto (-118), 3) := by decide +kernel
theorem dX12_finds_165 : decode cX12_finds 165 = .ok (.aload_n 0, 1) := by decide +kernel
theorem dX12_finds_166 : decode cX12_finds 166 = .ok (.getfield 460, 3) := by decide +kernel
theorem dX12_finds_169 : decode cX12_finds 169 = .ok (.iconst (-1), 1) := by decide +kernel
theorem dX12_finds_170 : decode cX12_finds 170 = .ok (.if_icmp .eq 7, 3) := by decide +kernel
theorem dX12_finds_173 : decode cX12_finds 173 = .ok (.iconst 1, 1) := by decide +kernel
theorem dX12_finds_174 : decode cX12_finds 174 = .ok (.goto 4, 3) := by decide +kernel
theorem dX12_finds_177 : decode cX12_finds 177 = .ok (.iconst 0, 1) := by decide +kernel
theorem dX12_finds_178 : decode cX12_finds 178 = .ok (.ireturn, 1) := by decide +kernel
def jbX12_finds_140 (rc cont : Int32 → ST → Option (Bool × ST)) (v1 : Int32) (v2 : Int32) (v3 : Int32) (v4 : Int32) (s0 : Int32) (k : ST) : Option (Bool × ST) := if v4 < 0 then nm (sI k 11 83 v3) fun k26 => rc (v3 + 1) k26 else if (v3 &&& s0) = 0 then rc (v3 + 1) k else nm (sI k 11 83 v3) fun k28 => rc (v3 + 1) k28
def jbX12_finds_114 (rc cont : Int32 → ST → Option (Bool × ST)) (v1 : Int32) (v2 : Int32) (v3 : Int32) (v4 : Int32) (s0 : Int32) (k : ST) : Option (Bool × ST) := nm (sI k 11 84 s0) fun k23 => if 0 ≤ v4 then jbX12_finds_140 (fun w3 k => rc w3 k) cont v1 v2 v3 v4 ((v3 ^^^ (gI k23 11 83)) &&& (-(v3 ^^^ (gI k23 11 83)))) k23 else jbX12_finds_140 (fun w3 k => rc w3 k) cont v1 v2 v3 v4 0 k23
def jbX12_finds_78 (rc cont : Int32 → ST → Option (Bool × ST)) (v1 : Int32) (v2 : Int32) (v3 : Int32) (s0 : Int32) (k : ST) : Option (Bool × ST) := if 0 < s0 then rc (v3 + 1) k else ob (fX12_harms k v3 v1 v2) fun r18 k19 => if r18 = true then if 0 ≤ s0 then jbX12_finds_114 (fun w3 k => rc w3 k) cont v1 v2 v3 s0 ((gI k19 11 84) + 1) k19 else jbX12_finds_114 (fun w3 k => rc w3 k) cont v1 v2 v3 s0 1 k19 else rc (v3 + 1) k19
def lpX12_finds_44 (v1 : Int32) (v2 : Int32) : Nat → Int32 → ST → (Int32 → ST → Option (Bool × ST)) → Option (Bool × ST)
  | 0, _, _, _ => none
  | n + 1, v3, k, cont => if (j_shl 1 (gI k 11 12)) ≤ v3 then cont v3 k else if (gI k 11 83) = (-1) then jbX12_finds_78 (fun w3 k => lpX12_finds_44 v1 v2 n w3 k cont) cont v1 v2 v3 (-1) k else ob (fJ6_bitCount_0f7a4 k v3) fun r29 k30 => ob (fJ6_bitCount_0f7a4 k30 (gI k30 11 83)) fun r32 k33 => jbX12_finds_78 (fun w3 k => lpX12_finds_44 v1 v2 n w3 k cont) cont v1 v2 v3 (r29 - r32) k33
set_option maxRecDepth 20000 in
theorem zjbX12_finds_140 {p : Program} {l : Launch} {e : Env} {R : Room} {s : State} {m : MethodId} {args : Array Value} {below : List Frame} {meth : Method} {c : Code} {g : GT} (hC : HC p s m args meth c cX12_finds 6 RX12 (some .boolean) g) (hR : 3 ≤ R.frames ∧ 75 ≤ R.locals)  {rc cont : Int32 → ST → Option (Bool × ST)} (v1 : Int32) (v2 : Int32) (v3 : Int32) (v4 : Int32) (s0 : Int32) (hrc : ∀ (w3 : Int32) (k : ST), ZF p l e R s m args below meth c g TM voB 6 k 44 [(0, .ref (g.2.1 11)), (1, .int v1), (2, .int v2), (3, .int w3)] [] (rc w3 k)) (hk : ∀ (w3 : Int32) (k : ST), ZF p l e R s m args below meth c g TM voB 6 k 165 [(0, .ref (g.2.1 11)), (1, .int v1), (2, .int v2), (3, .int w3)] [] (cont w3 k)) (k : ST) : ZF p l e R s m args below meth c g TM voB 6 k 140 [(0, .ref (g.2.1 11)), (1, .int v1), (2, .int v2), (3, .int v3), (4, .int v4)] [.int s0] (jbX12_finds_140 rc cont v1 v2 v3 v4 s0 k) := by
  unfold jbX12_finds_140
  refine zf_istore hC (LV' := [(5, .int s0), (0, .ref (g.2.1 11)), (1, .int v1), (2, .int v2), (3, .int v3), (4, .int v4)]) dX12_finds_140 (by decide) rfl ?_
  refine zf_iload hC dX12_finds_142 5 rfl ?_
  refine zf_if_lt hC (tgt := 154) dX12_finds_144 (by decide) (fun h25 => ?_) (fun h25 => ?_)
  · refine zf_aload_n hC dX12_finds_154 rfl 1 rfl ?_
    refine zf_iload_n hC dX12_finds_155 rfl 4 rfl ?_
    refine pf_1313 hC dX12_finds_156 ?_
    refine zf_nmk (fun k26 => ?_)
    refine zf_iinc hC (q := 4) (v := v3 + 1) (LV' := [(3, .int (v3 + 1)), (5, .int s0), (0, .ref (g.2.1 11)), (1, .int v1), (2, .int v2), (4, .int v4)]) dX12_finds_159 rfl rfl (by decide) rfl ?_
    refine zf_goto hC (tgt := 44) dX12_finds_162 (by decide) ?_
    refine zf_lv (LV' := [(0, .ref (g.2.1 11)), (1, .int v1), (2, .int v2), (3, .int (v3 + 1))]) [2, 3, 4, 0] rfl ?_
    exact hrc (v3 + 1) k26
  · refine zf_iload_n hC dX12_finds_147 rfl 4 rfl ?_
    refine zf_iload hC dX12_finds_148 0 rfl ?_
    refine zf_iand hC dX12_finds_150 ?_
    refine zf_if_eq hC (tgt := 159) dX12_finds_151 (by decide) (fun h27 => ?_) (fun h27 => ?_)
    · refine zf_iinc hC (q := 4) (v := v3 + 1) (LV' := [(3, .int (v3 + 1)), (5, .int s0), (0, .ref (g.2.1 11)), (1, .int v1), (2, .int v2), (4, .int v4)]) dX12_finds_159 rfl rfl (by decide) rfl ?_
      refine zf_goto hC (tgt := 44) dX12_finds_162 (by decide) ?_
      refine zf_lv (LV' := [(0, .ref (g.2.1 11)), (1, .int v1), (2, .int v2), (3, .int (v3 + 1))]) [2, 3, 4, 0] rfl ?_
      exact hrc (v3 + 1) k
    · refine zf_aload_n hC dX12_finds_154 rfl 1 rfl ?_
      refine zf_iload_n hC dX12_finds_155 rfl 4 rfl ?_
      refine pf_1313 hC dX12_finds_156 ?_
      refine zf_nmk (fun k28 => ?_)
      refine zf_iinc hC (q := 4) (v := v3 + 1) (LV' := [(3, .int (v3 + 1)), (5, .int s0), (0, .ref (g.2.1 11)), (1, .int v1), (2, .int v2), (4, .int v4)]) dX12_finds_159 rfl rfl (by decide) rfl ?_
      refine zf_goto hC (tgt := 44) dX12_finds_162 (by decide) ?_
      refine zf_lv (LV' := [(0, .ref (g.2.1 11)), (1, .int v1), (2, .int v2), (3, .int (v3 + 1))]) [2, 3, 4, 0] rfl ?_
      exact hrc (v3 + 1) k28
set_option maxRecDepth 20000 in
theorem zjbX12_finds_114 {p : Program} {l : Launch} {e : Env} {R : Room} {s : State} {m : MethodId} {args : Array Value} {below : List Frame} {meth : Method} {c : Code} {g : GT} (hC : HC p s m args meth c cX12_finds 6 RX12 (some .boolean) g) (hR : 3 ≤ R.frames ∧ 75 ≤ R.locals)  {rc cont : Int32 → ST → Option (Bool × ST)} (v1 : Int32) (v2 : Int32) (v3 : Int32) (v4 : Int32) (s0 : Int32) (hrc : ∀ (w3 : Int32) (k : ST), ZF p l e R s m args below meth c g TM voB 6 k 44 [(0, .ref (g.2.1 11)), (1, .int v1), (2, .int v2), (3, .int w3)] [] (rc w3 k)) (hk : ∀ (w3 : Int32) (k : ST), ZF p l e R s m args below meth c g TM voB 6 k 165 [(0, .ref (g.2.1 11)), (1, .int v1), (2, .int v2), (3, .int w3)] [] (cont w3 k)) (k : ST) : ZF p l e R s m args below meth c g TM voB 6 k 114 [(0, .ref (g.2.1 11)), (1, .int v1), (2, .int v2), (3, .int v3), (4, .int v4)] [.int s0, .ref (g.2.1 11)] (jbX12_finds_114 rc cont v1 v2 v3 v4 s0 k) := by
  unfold jbX12_finds_114
  refine pf_1314 hC dX12_finds_114 ?_
  refine zf_nmk (fun k23 => ?_)
  refine zf_iload hC dX12_finds_117 4 rfl ?_
  refine zf_if_ge hC (tgt := 126) dX12_finds_119 (by decide) (fun h24 => ?_) (fun h24 => ?_)
  · refine zf_iload_n hC dX12_finds_126 rfl 3 rfl ?_
    refine zf_aload_n hC dX12_finds_127 rfl 0 rfl ?_
    refine gf_1313 hC dX12_finds_128 ?_
    refine zf_ixor hC dX12_finds_131 ?_
    refine zf_iload_n hC dX12_finds_132 rfl 3 rfl ?_
    refine zf_aload_n hC dX12_finds_133 rfl 0 rfl ?_
    refine gf_1313 hC dX12_finds_134 ?_
    refine zf_ixor hC dX12_finds_137 ?_
    refine zf_ineg hC dX12_finds_138 ?_
    refine zf_iand hC dX12_finds_139 ?_
    exact zjbX12_finds_140 hC hR v1 v2 v3 v4 ((v3 ^^^ (gI k23 11 83)) &&& (-(v3 ^^^ (gI k23 11 83)))) hrc hk k23
  · refine zf_iconst hC (v := 0) dX12_finds_122 rfl ?_
    refine zf_goto hC (tgt := 140) dX12_finds_123 (by decide) ?_
    exact zjbX12_finds_140 hC hR v1 v2 v3 v4 0 hrc hk k23
set_option maxRecDepth 20000 in
theorem zjbX12_finds_78 {p : Program} {l : Launch} {e : Env} {R : Room} {s : State} {m : MethodId} {args : Array Value} {below : List Frame} {meth : Method} {c : Code} {g : GT} (hC : HC p s m args meth c cX12_finds 6 RX12 (some .boolean) g) (hR : 3 ≤ R.frames ∧ 75 ≤ R.locals)  {rc cont : Int32 → ST → Option (Bool × ST)} (v1 : Int32) (v2 : Int32) (v3 : Int32) (s0 : Int32) (hrc : ∀ (w3 : Int32) (k : ST), ZF p l e R s m args below meth c g TM voB 6 k 44 [(0, .ref (g.2.1 11)), (1, .int v1), (2, .int v2), (3, .int w3)] [] (rc w3 k)) (hk : ∀ (w3 : Int32) (k : ST), ZF p l e R s m args below meth c g TM voB 6 k 165 [(0, .ref (g.2.1 11)), (1, .int v1), (2, .int v2), (3, .int w3)] [] (cont w3 k)) (k : ST) : ZF p l e R s m args below meth c g TM voB 6 k 78 [(0, .ref (g.2.1 11)), (1, .int v1), (2, .int v2), (3, .int v3)] [.int s0] (jbX12_finds_78 rc cont v1 v2 v3 s0 k) := by
  unfold jbX12_finds_78
  refine zf_istore hC (LV' := [(4, .int s0), (0, .ref (g.2.1 11)), (1, .int v1), (2, .int v2), (3, .int v3)]) dX12_finds_78 (by decide) rfl ?_
  refine zf_iload hC dX12_finds_80 0 rfl ?_
  refine zf_if_gt hC (tgt := 159) dX12_finds_82 (by decide) (fun h17 => ?_) (fun h17 => ?_)
  · refine zf_iinc hC (q := 4) (v := v3 + 1) (LV' := [(3, .int (v3 + 1)), (4, .int s0), (0, .ref (g.2.1 11)), (1, .int v1), (2, .int v2)]) dX12_finds_159 rfl rfl (by decide) rfl ?_
    refine zf_goto hC (tgt := 44) dX12_finds_162 (by decide) ?_
    refine zf_lv (LV' := [(0, .ref (g.2.1 11)), (1, .int v1), (2, .int v2), (3, .int (v3 + 1))]) [2, 3, 4, 0] rfl ?_
    exact hrc (v3 + 1) k
  · refine zf_aload_n hC dX12_finds_85 rfl 1 rfl ?_
    refine zf_iload_n hC dX12_finds_86 rfl 4 rfl ?_
    refine zf_iload_n hC dX12_finds_87 rfl 2 rfl ?_
    refine zf_iload_n hC dX12_finds_88 rfl 3 rfl ?_
    refine zf_callV hC (c_X12_harms l g v3 v1 v2) mt_X12_harms wd_1881 sp_88 ci_11 ic_11 wd_1879 rfl (rm_le hR rfl) rfl rfl (rest := []) rfl (Nat.le_of_ble_eq_true rfl) dX12_finds_89 (fun r18 k19 h20 => ?_)
    refine zf_ifb_ne hC (tgt := 98) dX12_finds_92 (by decide) (fun h21 => ?_) (fun h21 => ?_)
    · refine zf_aload_n hC dX12_finds_98 rfl 1 rfl ?_
      refine zf_iload hC dX12_finds_99 0 rfl ?_
      refine zf_if_ge hC (tgt := 108) dX12_finds_101 (by decide) (fun h22 => ?_) (fun h22 => ?_)
      · refine zf_aload_n hC dX12_finds_108 rfl 1 rfl ?_
        refine gf_1314 hC dX12_finds_109 ?_
        refine zf_iconst hC (v := 1) dX12_finds_112 rfl ?_
        refine zf_iadd hC dX12_finds_113 ?_
        refine zf_lv (LV' := [(0, .ref (g.2.1 11)), (1, .int v1), (2, .int v2), (3, .int v3), (4, .int s0)]) [1, 2, 3, 4, 0] rfl ?_
        exact zjbX12_finds_114 hC hR v1 v2 v3 s0 ((gI k19 11 84) + 1) hrc hk k19
      · refine zf_iconst hC (v := 1) dX12_finds_104 rfl ?_
        refine zf_goto hC (tgt := 114) dX12_finds_105 (by decide) ?_
        refine zf_lv (LV' := [(0, .ref (g.2.1 11)), (1, .int v1), (2, .int v2), (3, .int v3), (4, .int s0)]) [1, 2, 3, 4, 0] rfl ?_
        exact zjbX12_finds_114 hC hR v1 v2 v3 s0 1 hrc hk k19
    · refine zf_goto hC (tgt := 159) dX12_finds_95 (by decide) ?_
      refine zf_iinc hC (q := 4) (v := v3 + 1) (LV' := [(3, .int (v3 + 1)), (4, .int s0), (0, .ref (g.2.1 11)), (1, .int v1), (2, .int v2)]) dX12_finds_159 rfl rfl (by decide) rfl ?_
      refine zf_goto hC (tgt := 44) dX12_finds_162 (by decide) ?_
      refine zf_lv (LV' := [(0, .ref (g.2.1 11)), (1, .int v1), (2, .int v2), (3, .int (v3 + 1))]) [2, 3, 4, 0] rfl ?_
      exact hrc (v3 + 1) k19
set_option maxRecDepth 20000 in
theorem zlpX12_finds_44 {p : Program} {l : Launch} {e : Env} {R : Room} {s : State} {m : MethodId} {args : Array Value} {below : List Frame} {meth : Method} {c : Code} {g : GT} (hC : HC p s m args meth c cX12_finds 6 RX12 (some .boolean) g) (hR : 3 ≤ R.frames ∧ 75 ≤ R.locals)  (v1 : Int32) (v2 : Int32) {cont : Int32 → ST → Option (Bool × ST)} (hk : ∀ (v3 : Int32) (k : ST), ZF p l e R s m args below meth c g TM voB 6 k 165 [(0, .ref (g.2.1 11)), (1, .int v1), (2, .int v2), (3, .int v3)] [] (cont v3 k)) : ∀ (n : Nat) (v3 : Int32) (k : ST), ZF p l e R s m args below meth c g TM voB 6 k 44 [(0, .ref (g.2.1 11)), (1, .int v1), (2, .int v2), (3, .int v3)] [] (lpX12_finds_44 v1 v2 n v3 k cont) := by
  intro n
  induction n with
  | zero => intros; exact zf_none
  | succ n ih =>
    intro v3 k
    rw [lpX12_finds_44]
    refine zf_iload_n hC dX12_finds_44 rfl 3 rfl ?_
    refine zf_iconst hC (v := 1) dX12_finds_45 rfl ?_
    refine zf_aload_n hC dX12_finds_46 rfl 0 rfl ?_
    refine gf_1242 hC dX12_finds_47 ?_
    refine zf_ishl hC dX12_finds_50 ?_
    refine zf_icmp_ge hC (tgt := 165) dX12_finds_51 (by decide) (fun h15 => ?_) (fun h15 => ?_)
    · refine zf_lv (LV' := [(0, .ref (g.2.1 11)), (1, .int v1), (2, .int v2), (3, .int v3)]) [0, 1, 2, 3] rfl ?_
      exact hk v3 k
    · refine zf_aload_n hC dX12_finds_54 rfl 0 rfl ?_
      refine gf_1313 hC dX12_finds_55 ?_
      refine zf_iconst hC (v := (-1)) dX12_finds_58 rfl ?_
      refine zf_icmp_ne hC (tgt := 66) dX12_finds_59 (by decide) (fun h16 => ?_) (fun h16 => ?_)
      · refine zf_iconst hC (v := (-1)) dX12_finds_62 rfl ?_
        refine zf_goto hC (tgt := 78) dX12_finds_63 (by decide) ?_
        exact zjbX12_finds_78 hC hR v1 v2 v3 (-1) ih hk k
      · refine zf_iload_n hC dX12_finds_66 rfl 3 rfl ?_
        refine zf_callS hC (c_J6_bitCount_0f7a4 l g TM v3) mt_J6_bitCount_0f7a4 wd_577 wd_1578 rfl (rm_le hR rfl) rfl rfl (rest := []) rfl (Nat.le_of_ble_eq_true rfl) dX12_finds_67 (fun r29 k30 h31 => ?_)
        refine zf_aload_n hC dX12_finds_70 rfl 0 rfl ?_
        refine gf_1313 hC dX12_finds_71 ?_
        refine zf_callS hC (c_J6_bitCount_0f7a4 l g TM (gI k30 11 83)) mt_J6_bitCount_0f7a4 wd_577 wd_1578 rfl (rm_le hR rfl) rfl rfl (rest := [.int r29]) rfl (Nat.le_of_ble_eq_true rfl) dX12_finds_74 (fun r32 k33 h34 => ?_)
        refine zf_isub hC dX12_finds_77 ?_
        exact zjbX12_finds_78 hC hR v1 v2 v3 (r29 - r32) ih hk k33
def fX12_finds (k : ST) (a0 : Int32) (a1 : Int32) : Option (Bool × ST) := nm (sI k 11 0 0) fun k1 => ob (fX12_isKey k1 a0) fun r2 k3 => if r2 = true then ob (fX12_isIn k3 a1 0 1) fun r6 k7 => if r6 = true then ob (fX12_layHas k7 (gI k7 11 1)) fun r10 k11 => nm (sI k11 11 83 (-1)) fun k13 => nm (sI k13 11 84 0) fun k14 => lpX12_finds_44 a0 a1 FU 1 k14 fun y35 k36 => if (gI k36 11 83) = (-1) then some (false, k36) else some (true, k36) else some (false, k7) else some (false, k3)
set_option maxRecDepth 20000 in
theorem c_X12_finds (l : Launch) (g : GT) (a0 : Int32) (a1 : Int32) : CN l yX12_finds cX12_finds 6 (some .boolean) { frames := 3, cells := 0, slots := 0, locals := 75 } g TM voB [.ref (g.2.1 11), .int a0, .int a1] (fun k => fX12_finds k a0 a1) := by
  refine cn_of (by decide) (Nat.le_of_ble_eq_true rfl) ?_
  intro p e s m args below meth c hC k
  have hC : HC p s m args meth c cX12_finds 6 RX12 (some .boolean) g := hC
  have hR : 3 ≤ ({ frames := 3, cells := 0, slots := 0, locals := 75 } : Room).frames ∧ 75 ≤ ({ frames := 3, cells := 0, slots := 0, locals := 75 } : Room).locals := ⟨Nat.le_refl _, Nat.le_refl _⟩
  show ZF p l e _ s m args below meth c g TM voB 6 k 0 [(0, .ref (g.2.1 11)), (1, .int a0), (2, .int a1)] [] (fX12_finds k a0 a1)
  unfold fX12_finds
  refine zf_aload_n hC dX12_finds_0 rfl 0 rfl ?_
  refine zf_iconst hC (v := 0) dX12_finds_1 rfl ?_
  refine pf_1230 hC dX12_finds_2 ?_
  refine zf_nmk (fun k1 => ?_)
  refine zf_aload_n hC dX12_finds_5 rfl 0 rfl ?_
  refine zf_iload_n hC dX12_finds_6 rfl 1 rfl ?_
  refine zf_callV hC (c_X12_isKey l g a0) mt_X12_isKey wd_1530 sp_47 ci_11 ic_11 wd_1528 rfl (rm_le hR rfl) rfl rfl (rest := []) rfl (Nat.le_of_ble_eq_true rfl) dX12_finds_7 (fun r2 k3 h4 => ?_)
  refine zf_ifb_eq hC (tgt := 22) dX12_finds_10 (by decide) (fun h5 => ?_) (fun h5 => ?_)
  · refine zf_iload_n hC dX12_finds_13 rfl 2 rfl ?_
    refine zf_iconst hC (v := 0) dX12_finds_14 rfl ?_
    refine zf_iconst hC (v := 1) dX12_finds_15 rfl ?_
    refine zf_callS hC (c_X12_isIn l g TM a1 0 1) mt_X12_isIn wd_1495 wd_1494 rfl (rm_le hR rfl) rfl rfl (rest := []) rfl (Nat.le_of_ble_eq_true rfl) dX12_finds_16 (fun r6 k7 h8 => ?_)
    refine zf_ifb_ne hC (tgt := 24) dX12_finds_19 (by decide) (fun h9 => ?_) (fun h9 => ?_)
    · refine zf_aload_n hC dX12_finds_24 rfl 0 rfl ?_
      refine zf_aload_n hC dX12_finds_25 rfl 0 rfl ?_
      refine gf_1231 hC dX12_finds_26 ?_
      refine zf_callV hC (c_X12_layHas l g (gI k7 11 1)) mt_X12_layHas wd_1653 sp_58 ci_11 ic_11 wd_1651 rfl (rm_le hR rfl) rfl rfl (rest := []) rfl (Nat.le_of_ble_eq_true rfl) dX12_finds_29 (fun r10 k11 h12 => ?_)
      refine zf_aload_n hC dX12_finds_32 rfl 0 rfl ?_
      refine zf_iconst hC (v := (-1)) dX12_finds_33 rfl ?_
      refine pf_1313 hC dX12_finds_34 ?_
      refine zf_nmk (fun k13 => ?_)
      refine zf_aload_n hC dX12_finds_37 rfl 0 rfl ?_
      refine zf_iconst hC (v := 0) dX12_finds_38 rfl ?_
      refine pf_1314 hC dX12_finds_39 ?_
      refine zf_nmk (fun k14 => ?_)
      refine zf_iconst hC (v := 1) dX12_finds_42 rfl ?_
      refine zf_istore_n hC (LV' := [(3, .int 1), (0, .ref (g.2.1 11)), (1, .int a0), (2, .int a1)]) dX12_finds_43 rfl (by decide) rfl ?_
      refine zf_lv (LV' := [(0, .ref (g.2.1 11)), (1, .int a0), (2, .int a1), (3, .int 1)]) [1, 2, 3, 0] rfl ?_
      refine zlpX12_finds_44 hC hR a0 a1 (fun y35 k36 => ?_) FU 1 k14
      refine zf_aload_n hC dX12_finds_165 rfl 0 rfl ?_
      refine gf_1313 hC dX12_finds_166 ?_
      refine zf_iconst hC (v := (-1)) dX12_finds_169 rfl ?_
      refine zf_icmp_eq hC (tgt := 177) dX12_finds_170 (by decide) (fun h37 => ?_) (fun h37 => ?_)
      · refine zf_iconst hC (v := 0) dX12_finds_177 rfl ?_
        exact zf_zret hC rfl false rfl dX12_finds_178
      · refine zf_iconst hC (v := 1) dX12_finds_173 rfl ?_
        refine zf_goto hC (tgt := 178) dX12_finds_174 (by decide) ?_
        exact zf_zret hC rfl true rfl dX12_finds_178
    · refine zf_iconst hC (v := 0) dX12_finds_22 rfl ?_
      exact zf_zret hC rfl false rfl dX12_finds_23
  · refine zf_iconst hC (v := 0) dX12_finds_22 rfl ?_
    exact zf_zret hC rfl false rfl dX12_finds_23
/-! LifeKeysModel.least -/
theorem dX12_least_0 : decode cX12_least 0 = .ok (.aload_n 0, 1) := by decide +kernel
theorem dX12_least_1 : decode cX12_least 1 = .ok (.iload_n 1, 1) := by decide +kernel
theorem dX12_least_2 : decode cX12_least 2 = .ok (.iload_n 2, 1) := by decide +kernel
theorem dX12_least_3 : decode cX12_least 3 = .ok (.invokevirtual 469, 3) := by decide +kernel
theorem dX12_least_6 : decode cX12_least 6 = .ok (.ifCond .eq 13, 3) := by decide +kernel
theorem dX12_least_9 : decode cX12_least 9 = .ok (.aload_n 0, 1) := by decide +kernel
theorem dX12_least_10 : decode cX12_least 10 = .ok (.getfield 460, 3) := by decide +kernel
theorem dX12_least_13 : decode cX12_least 13 = .ok (.invokestatic 258, 3) := by decide +kernel
theorem dX12_least_16 : decode cX12_least 16 = .ok (.goto 4, 3) := by decide +kernel
theorem dX12_least_19 : decode cX12_least 19 = .ok (.iconst (-1), 1) := by decide +kernel
theorem dX12_least_20 : decode cX12_least 20 = .ok (.ireturn, 1) := by decide +kernel
def fX12_least (k : ST) (a0 : Int32) (a1 : Int32) : Option (Int32 × ST) := ob (fX12_finds k a0 a1) fun r1 k2 => if r1 = true then ob (fJ6_bitCount_0f7a4 k2 (gI k2 11 83)) fun r5 k6 => some (r5, k6) else some ((-1), k2)
set_option maxRecDepth 20000 in
theorem c_X12_least (l : Launch) (g : GT) (a0 : Int32) (a1 : Int32) : CN l yX12_least cX12_least 3 (some .int) { frames := 4, cells := 0, slots := 0, locals := 100 } g TM voI [.ref (g.2.1 11), .int a0, .int a1] (fun k => fX12_least k a0 a1) := by
  refine cn_of (by decide) (Nat.le_of_ble_eq_true rfl) ?_
  intro p e s m args below meth c hC k
  have hC : HC p s m args meth c cX12_least 3 RX12 (some .int) g := hC
  have hR : 4 ≤ ({ frames := 4, cells := 0, slots := 0, locals := 100 } : Room).frames ∧ 100 ≤ ({ frames := 4, cells := 0, slots := 0, locals := 100 } : Room).locals := ⟨Nat.le_refl _, Nat.le_refl _⟩
  show ZF p l e _ s m args below meth c g TM voI 3 k 0 [(0, .ref (g.2.1 11)), (1, .int a0), (2, .int a1)] [] (fX12_least k a0 a1)
  unfold fX12_least
  refine zf_aload_n hC dX12_least_0 rfl 0 rfl ?_
  refine zf_iload_n hC dX12_least_1 rfl 1 rfl ?_
  refine zf_iload_n hC dX12_least_2 rfl 2 rfl ?_
  refine zf_callV hC (c_X12_finds l g a0 a1) mt_X12_finds wd_1877 sp_87 ci_11 ic_11 wd_1875 rfl (rm_le hR rfl) rfl rfl (rest := []) rfl (Nat.le_of_ble_eq_true rfl) dX12_least_3 (fun r1 k2 h3 => ?_)
  refine zf_ifb_eq hC (tgt := 19) dX12_least_6 (by decide) (fun h4 => ?_) (fun h4 => ?_)
  · refine zf_aload_n hC dX12_least_9 rfl 0 rfl ?_
    refine gf_1313 hC dX12_least_10 ?_
    refine zf_callS hC (c_J6_bitCount_0f7a4 l g TM (gI k2 11 83)) mt_J6_bitCount_0f7a4 wd_577 wd_1578 rfl (rm_le hR rfl) rfl rfl (rest := []) rfl (Nat.le_of_ble_eq_true rfl) dX12_least_13 (fun r5 k6 h7 => ?_)
    refine zf_goto hC (tgt := 20) dX12_least_16 (by decide) ?_
    exact zf_iret hC rfl dX12_least_20
  · refine zf_iconst hC (v := (-1)) dX12_least_19 rfl ?_
    exact zf_iret hC rfl dX12_least_20
/-! LifeKeysModel.ways -/
theorem dX12_ways_0 : decode cX12_ways 0 = .ok (.aload_n 0, 1) := by decide +kernel
theorem dX12_ways_1 : decode cX12_ways 1 = .ok (.iload_n 1, 1) := by decide +kernel
theorem dX12_ways_2 : decode cX12_ways 2 = .ok (.iload_n 2, 1) := by decide +kernel
theorem dX12_ways_3 : decode cX12_ways 3 = .ok (.invokevirtual 469, 3) := by decide +kernel
theorem dX12_ways_6 : decode cX12_ways 6 = .ok (.ifCond .eq 10, 3) := by decide +kernel
theorem dX12_ways_9 : decode cX12_ways 9 = .ok (.aload_n 0, 1) := by decide +kernel
theorem dX12_ways_10 : decode cX12_ways 10 = .ok (.getfield 463, 3) := by decide +kernel
theorem dX12_ways_13 : decode cX12_ways 13 = .ok (.goto 4, 3) := by decide +kernel
theorem dX12_ways_16 : decode cX12_ways 16 = .ok (.iconst (-1), 1) := by decide +kernel
theorem dX12_ways_17 : decode cX12_ways 17 = .ok (.ireturn, 1) := by decide +kernel
def fX12_ways (k : ST) (a0 : Int32) (a1 : Int32) : Option (Int32 × ST) := ob (fX12_finds k a0 a1) fun r1 k2 => if r1 = true then some (gI k2 11 84, k2) else some ((-1), k2)
set_option maxRecDepth 20000 in
theorem c_X12_ways (l : Launch) (g : GT) (a0 : Int32) (a1 : Int32) : CN l yX12_ways cX12_ways 3 (some .int) { frames := 4, cells := 0, slots := 0, locals := 100 } g TM voI [.ref (g.2.1 11), .int a0, .int a1] (fun k => fX12_ways k a0 a1) := by
  refine cn_of (by decide) (Nat.le_of_ble_eq_true rfl) ?_
  intro p e s m args below meth c hC k
  have hC : HC p s m args meth c cX12_ways 3 RX12 (some .int) g := hC
  have hR : 4 ≤ ({ frames := 4, cells := 0, slots := 0, locals := 100 } : Room).frames ∧ 100 ≤ ({ frames := 4, cells := 0, slots := 0, locals := 100 } : Room).locals := ⟨Nat.le_refl _, Nat.le_refl _⟩
  show ZF p l e _ s m args below meth c g TM voI 3 k 0 [(0, .ref (g.2.1 11)), (1, .int a0), (2, .int a1)] [] (fX12_ways k a0 a1)
  unfold fX12_ways
  refine zf_aload_n hC dX12_ways_0 rfl 0 rfl ?_
  refine zf_iload_n hC dX12_ways_1 rfl 1 rfl ?_
  refine zf_iload_n hC dX12_ways_2 rfl 2 rfl ?_
  refine zf_callV hC (c_X12_finds l g a0 a1) mt_X12_finds wd_1877 sp_87 ci_11 ic_11 wd_1875 rfl (rm_le hR rfl) rfl rfl (rest := []) rfl (Nat.le_of_ble_eq_true rfl) dX12_ways_3 (fun r1 k2 h3 => ?_)
  refine zf_ifb_eq hC (tgt := 16) dX12_ways_6 (by decide) (fun h4 => ?_) (fun h4 => ?_)
  · refine zf_aload_n hC dX12_ways_9 rfl 0 rfl ?_
    refine gf_1314 hC dX12_ways_10 ?_
    refine zf_goto hC (tgt := 17) dX12_ways_13 (by decide) ?_
    exact zf_iret hC rfl dX12_ways_17
  · refine zf_iconst hC (v := (-1)) dX12_ways_16 rfl ?_
    exact zf_iret hC rfl dX12_ways_17
/-! LifeKeysModel.first -/
theorem dX12_first_0 : decode cX12_first 0 = .ok (.aload_n 0, 1) := by decide +kernel
theorem dX12_first_1 : decode cX12_first 1 = .ok (.iload_n 1, 1) := by decide +kernel
theorem dX12_first_2 : decode cX12_first 2 = .ok (.iload_n 2, 1) := by decide +kernel
theorem dX12_first_3 : decode cX12_first 3 = .ok (.invokevirtual 469, 3) := by decide +kernel
theorem dX12_first_6 : decode cX12_first 6 = .ok (.ifCond .eq 10, 3) := by decide +kernel
theorem dX12_first_9 : decode cX12_first 9 = .ok (.aload_n 0, 1) := by decide +kernel
theorem dX12_first_10 : decode cX12_first 10 = .ok (.getfield 460, 3) := by decide +kernel
theorem dX12_first_13 : decode cX12_first 13 = .ok (.goto 4, 3) := by decide +kernel
theorem dX12_first_16 : decode cX12_first 16 = .ok (.iconst (-1), 1) := by decide +kernel
theorem dX12_first_17 : decode cX12_first 17 = .ok (.ireturn, 1) := by decide +kernel
def fX12_first (k : ST) (a0 : Int32) (a1 : Int32) : Option (Int32 × ST) := ob (fX12_finds k a0 a1) fun r1 k2 => if r1 = true then some (gI k2 11 83, k2) else some ((-1), k2)
set_option maxRecDepth 20000 in
theorem c_X12_first (l : Launch) (g : GT) (a0 : Int32) (a1 : Int32) : CN l yX12_first cX12_first 3 (some .int) { frames := 4, cells := 0, slots := 0, locals := 100 } g TM voI [.ref (g.2.1 11), .int a0, .int a1] (fun k => fX12_first k a0 a1) := by
  refine cn_of (by decide) (Nat.le_of_ble_eq_true rfl) ?_
  intro p e s m args below meth c hC k
  have hC : HC p s m args meth c cX12_first 3 RX12 (some .int) g := hC
  have hR : 4 ≤ ({ frames := 4, cells := 0, slots := 0, locals := 100 } : Room).frames ∧ 100 ≤ ({ frames := 4, cells := 0, slots := 0, locals := 100 } : Room).locals := ⟨Nat.le_refl _, Nat.le_refl _⟩
  show ZF p l e _ s m args below meth c g TM voI 3 k 0 [(0, .ref (g.2.1 11)), (1, .int a0), (2, .int a1)] [] (fX12_first k a0 a1)
  unfold fX12_first
  refine zf_aload_n hC dX12_first_0 rfl 0 rfl ?_
  refine zf_iload_n hC dX12_first_1 rfl 1 rfl ?_
  refine zf_iload_n hC dX12_first_2 rfl 2 rfl ?_
  refine zf_callV hC (c_X12_finds l g a0 a1) mt_X12_finds wd_1877 sp_87 ci_11 ic_11 wd_1875 rfl (rm_le hR rfl) rfl rfl (rest := []) rfl (Nat.le_of_ble_eq_true rfl) dX12_first_3 (fun r1 k2 h3 => ?_)
  refine zf_ifb_eq hC (tgt := 16) dX12_first_6 (by decide) (fun h4 => ?_) (fun h4 => ?_)
  · refine zf_aload_n hC dX12_first_9 rfl 0 rfl ?_
    refine gf_1313 hC dX12_first_10 ?_
    refine zf_goto hC (tgt := 17) dX12_first_13 (by decide) ?_
    exact zf_iret hC rfl dX12_first_17
  · refine zf_iconst hC (v := (-1)) dX12_first_16 rfl ?_
    exact zf_iret hC rfl dX12_first_17
/-! LifeKeysModel.isWell -/
theorem dX12_isWell_0 : decode cX12_isWell 0 = .ok (.aload_n 0, 1) := by decide +kernel
theorem dX12_isWell_1 : decode cX12_isWell 1 = .ok (.getfield 57, 3) := by decide +kernel
theorem dX12_isWell_4 : decode cX12_isWell 4 = .ok (.iload_n 1, 1) := by decide +kernel
theorem dX12_isWell_5 : decode cX12_isWell 5 = .ok (.iaload, 1) := by decide +kernel
theorem dX12_isWell_6 : decode cX12_isWell 6 = .ok (.istore_n 3, 1) := by decide +kernel
theorem dX12_isWell_7 : decode cX12_isWell 7 = .ok (.iconst 0, 1) := by decide +kernel
theorem dX12_isWell_8 : decode cX12_isWell 8 = .ok (.istore 4, 2) := by decide +kernel
theorem dX12_isWell_10 : decode cX12_isWell 10 = .ok (.iload 4, 2) := by decide +kernel
theorem dX12_isWell_12 : decode cX12_isWell 12 = .ok (.aload_n 0, 1) := by decide +kernel
theorem dX12_isWell_13 : decode cX12_isWell 13 = .ok (.getfield 447, 3) := by decide +kernel
theorem dX12_isWell_16 : decode cX12_isWell 16 = .ok (.if_icmp .ge 67, 3) := by decide +kernel
theorem dX12_isWell_19 : decode cX12_isWell 19 = .ok (.aload_n 0, 1) := by decide +kernel
theorem dX12_isWell_20 : decode cX12_isWell 20 = .ok (.aload_n 0, 1) := by decide +kernel
theorem dX12_isWell_21 : decode cX12_isWell 21 = .ok (.getfield 175, 3) := by decide +kernel
theorem dX12_isWell_24 : decode cX12_isWell 24 = .ok (.iload 4, 2) := by decide +kernel
theorem dX12_isWell_26 : decode cX12_isWell 26 = .ok (.iaload, 1) := by decide +kernel
theorem dX12_isWell_27 : decode cX12_isWell 27 = .ok (.aload_n 0, 1) := by decide +kernel
theorem dX12_isWell_28 : decode cX12_isWell 28 = .ok (.getfield 185, 3) := by decide +kernel
theorem dX12_isWell_31 : decode cX12_isWell 31 = .ok (.iload_n 1, 1) := by decide +kernel
theorem dX12_isWell_32 : decode cX12_isWell 32 = .ok (.iload_n 2, 1) := by decide +kernel
theorem dX12_isWell_33 : decode cX12_isWell 33 = .ok (.invokevirtual 303, 3) := by decide +kernel
theorem dX12_isWell_36 : decode cX12_isWell 36 = .ok (.iload_n 3, 1) := by decide +kernel
theorem dX12_isWell_37 : decode cX12_isWell 37 = .ok (.lshr, 1) := by decide +kernel
theorem dX12_isWell_38 : decode cX12_isWell 38 = .ok (.lconst 1, 1) := by decide +kernel
theorem dX12_isWell_39 : decode cX12_isWell 39 = .ok (.land, 1) := by decide +kernel
theorem dX12_isWell_40 : decode cX12_isWell 40 = .ok (.lconst 1, 1) := by decide +kernel
theorem dX12_isWell_41 : decode cX12_isWell 41 = .ok (.lcmp, 1) := by decide +kernel
theorem dX12_isWell_42 : decode cX12_isWell 42 = .ok (.ifCond .eq 33, 3) := by decide +kernel
theorem dX12_isWell_45 : decode cX12_isWell 45 = .ok (.aload_n 0, 1) := by decide +kernel
theorem dX12_isWell_46 : decode cX12_isWell 46 = .ok (.aload_n 0, 1) := by decide +kernel
theorem dX12_isWell_47 : decode cX12_isWell 47 = .ok (.aload_n 0, 1) := by decide +kernel
theorem dX12_isWell_48 : decode cX12_isWell 48 = .ok (.getfield 175, 3) := by decide +kernel
theorem dX12_isWell_51 : decode cX12_isWell 51 = .ok (.iload 4, 2) := by decide +kernel
theorem dX12_isWell_53 : decode cX12_isWell 53 = .ok (.iaload, 1) := by decide +kernel
theorem dX12_isWell_54 : decode cX12_isWell 54 = .ok (.invokevirtual 457, 3) := by decide +kernel
theorem dX12_isWell_57 : decode cX12_isWell 57 = .ok (.aload_n 0, 1) := by decide +kernel
theorem dX12_isWell_58 : decode cX12_isWell 58 = .ok (.getfield 185, 3) := by decide +kernel
theorem dX12_isWell_61 : decode cX12_isWell 61 = .ok (.iload_n 1, 1) := by decide +kernel
theorem dX12_isWell_62 : decode cX12_isWell 62 = .ok (.iload_n 2, 1) := by decide +kernel
theorem dX12_isWell_63 : decode cX12_isWell 63 = .ok (.invokevirtual 303, 3) := by decide +kernel
theorem dX12_isWell_66 : decode cX12_isWell 66 = .ok (.iload_n 3, 1) := by decide +kernel
theorem dX12_isWell_67 : decode cX12_isWell 67 = .ok (.lshr, 1) := by decide +kernel
theorem dX12_isWell_68 : decode cX12_isWell 68 = .ok (.lconst 1, 1) := by decide +kernel
theorem dX12_isWell_69 : decode cX12_isWell 69 = .ok (.land, 1) := by decide +kernel
theorem dX12_isWell_70 : decode cX12_isWell 70 = .ok (.lconst 0, 1) := by decide +kernel
theorem dX12_isWell_71 : decode cX12_isWell 71 = .ok (.lcmp, 1) := by decide +kernel
theorem dX12_isWell_72 : decode cX12_isWell 72 = .ok (.ifCond .ne 5, 3) := by decide +kernel
theorem dX12_isWell_75 : decode cX12_isWell 75 = .ok (.iconst 0, 1) := by decide +kernel
theorem dX12_isWell_76 : decode cX12_isWell 76 = .ok (.ireturn, 1) := by decide +kernel
theorem dX12_isWell_77 : decode cX12_isWell 77 = .ok (.iinc 4 1, 3) := by decide +kernel
theorem dX12_isWell_80 : decode cX12_isWell 80 = .ok (.goto (-70), 3) := by decide +kernel
theorem dX12_isWell_83 : decode cX12_isWell 83 = .ok (.iconst 1, 1) := by decide +kernel
theorem dX12_isWell_84 : decode cX12_isWell 84 = .ok (.ireturn, 1) := by decide +kernel
def lpX12_isWell_10 (v1 : Int32) (v2 : Int32) (v3 : Int32) : Nat → Int32 → ST → (Int32 → ST → Option (Bool × ST)) → Option (Bool × ST)
  | 0, _, _, _ => none
  | n + 1, v4, k, cont => if (gI k 11 82) ≤ v4 then cont v4 k else ck (inb v4 20) (ob (fX12_closes k (gA k 152 (ix v4)) (gI k 11 1) v1 v2) fun r4 k5 => if ((j_lshr r4 v3) &&& 1) = 1 then some (false, k5) else ck (inb v4 20) (ob (fX12_others k5 (gA k5 152 (ix v4))) fun r9 k10 => ob (fX12_closes k10 r9 (gI k10 11 1) v1 v2) fun r12 k13 => if ((j_lshr r12 v3) &&& 1) = 0 then some (false, k13) else lpX12_isWell_10 v1 v2 v3 n (v4 + 1) k13 cont))
set_option maxRecDepth 20000 in
theorem zlpX12_isWell_10 {p : Program} {l : Launch} {e : Env} {R : Room} {s : State} {m : MethodId} {args : Array Value} {below : List Frame} {meth : Method} {c : Code} {g : GT} (hC : HC p s m args meth c cX12_isWell 5 RX12 (some .boolean) g) (hR : 2 ≤ R.frames ∧ 52 ≤ R.locals)  (v1 : Int32) (v2 : Int32) (v3 : Int32) {cont : Int32 → ST → Option (Bool × ST)} (hk : ∀ (v4 : Int32) (k : ST), ZF p l e R s m args below meth c g TM voB 5 k 83 [(0, .ref (g.2.1 11)), (1, .int v1), (2, .int v2), (3, .int v3), (4, .int v4)] [] (cont v4 k)) : ∀ (n : Nat) (v4 : Int32) (k : ST), ZF p l e R s m args below meth c g TM voB 5 k 10 [(0, .ref (g.2.1 11)), (1, .int v1), (2, .int v2), (3, .int v3), (4, .int v4)] [] (lpX12_isWell_10 v1 v2 v3 n v4 k cont) := by
  intro n
  induction n with
  | zero => intros; exact zf_none
  | succ n ih =>
    intro v4 k
    rw [lpX12_isWell_10]
    refine zf_iload hC dX12_isWell_10 4 rfl ?_
    refine zf_aload_n hC dX12_isWell_12 rfl 0 rfl ?_
    refine gf_1312 hC dX12_isWell_13 ?_
    refine zf_icmp_ge hC (tgt := 83) dX12_isWell_16 (by decide) (fun h2 => ?_) (fun h2 => ?_)
    · refine zf_lv (LV' := [(0, .ref (g.2.1 11)), (1, .int v1), (2, .int v2), (3, .int v3), (4, .int v4)]) [0, 1, 2, 3, 4] rfl ?_
      exact hk v4 k
    · refine zf_aload_n hC dX12_isWell_19 rfl 0 rfl ?_
      refine zf_aload_n hC dX12_isWell_20 rfl 0 rfl ?_
      refine gf_1310 hC dX12_isWell_21 ?_
      refine zf_iload hC dX12_isWell_24 4 rfl ?_
      refine zf_iald hC (j := 152) ia_152 rfl rfl dX12_isWell_26 (fun h3 => ?_)
      refine zf_aload_n hC dX12_isWell_27 rfl 0 rfl ?_
      refine gf_1231 hC dX12_isWell_28 ?_
      refine zf_iload_n hC dX12_isWell_31 rfl 1 rfl ?_
      refine zf_iload_n hC dX12_isWell_32 rfl 2 rfl ?_
      refine zf_callV hC (c_X12_closes l g (gA k 152 (ix v4)) (gI k 11 1) v1 v2) mt_X12_closes wd_1657 sp_59 ci_11 ic_11 wd_1655 rfl (rm_le hR rfl) rfl rfl (rest := []) rfl (Nat.le_of_ble_eq_true rfl) dX12_isWell_33 (fun r4 k5 h6 => ?_)
      refine zf_iload_n hC dX12_isWell_36 rfl 3 rfl ?_
      refine zf_lshr hC dX12_isWell_37 ?_
      refine zf_lconst hC (v := 1) dX12_isWell_38 rfl ?_
      refine zf_land hC dX12_isWell_39 ?_
      refine zf_lconst hC (v := 1) dX12_isWell_40 rfl ?_
      refine zf_lcmp_eq hC (tgt := 75) dX12_isWell_41 dX12_isWell_42 (by decide) (fun h7 => ?_) (fun h7 => ?_)
      · refine zf_iconst hC (v := 0) dX12_isWell_75 rfl ?_
        exact zf_zret hC rfl false rfl dX12_isWell_76
      · refine zf_aload_n hC dX12_isWell_45 rfl 0 rfl ?_
        refine zf_aload_n hC dX12_isWell_46 rfl 0 rfl ?_
        refine zf_aload_n hC dX12_isWell_47 rfl 0 rfl ?_
        refine gf_1310 hC dX12_isWell_48 ?_
        refine zf_iload hC dX12_isWell_51 4 rfl ?_
        refine zf_iald hC (j := 152) ia_152 rfl rfl dX12_isWell_53 (fun h8 => ?_)
        refine zf_callV hC (c_X12_others l g (gA k5 152 (ix v4))) mt_X12_others wd_1869 sp_86 ci_11 ic_11 wd_1867 rfl (rm_le hR rfl) rfl rfl (rest := [.ref (g.2.1 11)]) rfl (Nat.le_of_ble_eq_true rfl) dX12_isWell_54 (fun r9 k10 h11 => ?_)
        refine zf_aload_n hC dX12_isWell_57 rfl 0 rfl ?_
        refine gf_1231 hC dX12_isWell_58 ?_
        refine zf_iload_n hC dX12_isWell_61 rfl 1 rfl ?_
        refine zf_iload_n hC dX12_isWell_62 rfl 2 rfl ?_
        refine zf_callV hC (c_X12_closes l g r9 (gI k10 11 1) v1 v2) mt_X12_closes wd_1657 sp_59 ci_11 ic_11 wd_1655 rfl (rm_le hR rfl) rfl rfl (rest := []) rfl (Nat.le_of_ble_eq_true rfl) dX12_isWell_63 (fun r12 k13 h14 => ?_)
        refine zf_iload_n hC dX12_isWell_66 rfl 3 rfl ?_
        refine zf_lshr hC dX12_isWell_67 ?_
        refine zf_lconst hC (v := 1) dX12_isWell_68 rfl ?_
        refine zf_land hC dX12_isWell_69 ?_
        refine zf_lconst hC (v := 0) dX12_isWell_70 rfl ?_
        refine zf_lcmp_ne hC (tgt := 77) dX12_isWell_71 dX12_isWell_72 (by decide) (fun h15 => ?_) (fun h15 => ?_)
        · refine zf_iconst hC (v := 0) dX12_isWell_75 rfl ?_
          exact zf_zret hC rfl false rfl dX12_isWell_76
        · refine zf_iinc hC (q := 4) (v := v4 + 1) (LV' := [(4, .int (v4 + 1)), (0, .ref (g.2.1 11)), (1, .int v1), (2, .int v2), (3, .int v3)]) dX12_isWell_77 rfl rfl (by decide) rfl ?_
          refine zf_goto hC (tgt := 10) dX12_isWell_80 (by decide) ?_
          refine zf_lv (LV' := [(0, .ref (g.2.1 11)), (1, .int v1), (2, .int v2), (3, .int v3), (4, .int (v4 + 1))]) [1, 2, 3, 4, 0] rfl ?_
          exact ih (v4 + 1) k13
def fX12_isWell (k : ST) (a0 : Int32) (a1 : Int32) : Option (Bool × ST) := ck (inb a0 40) (lpX12_isWell_10 a0 a1 (gA k 114 (ix a0)) FU 0 k fun y16 k17 => some (true, k17))
set_option maxRecDepth 20000 in
theorem c_X12_isWell (l : Launch) (g : GT) (a0 : Int32) (a1 : Int32) : CN l yX12_isWell cX12_isWell 5 (some .boolean) { frames := 2, cells := 0, slots := 0, locals := 52 } g TM voB [.ref (g.2.1 11), .int a0, .int a1] (fun k => fX12_isWell k a0 a1) := by
  refine cn_of (by decide) (Nat.le_of_ble_eq_true rfl) ?_
  intro p e s m args below meth c hC k
  have hC : HC p s m args meth c cX12_isWell 5 RX12 (some .boolean) g := hC
  have hR : 2 ≤ ({ frames := 2, cells := 0, slots := 0, locals := 52 } : Room).frames ∧ 52 ≤ ({ frames := 2, cells := 0, slots := 0, locals := 52 } : Room).locals := ⟨Nat.le_refl _, Nat.le_refl _⟩
  show ZF p l e _ s m args below meth c g TM voB 5 k 0 [(0, .ref (g.2.1 11)), (1, .int a0), (2, .int a1)] [] (fX12_isWell k a0 a1)
  unfold fX12_isWell
  refine zf_aload_n hC dX12_isWell_0 rfl 0 rfl ?_
  refine gf_1251 hC dX12_isWell_1 ?_
  refine zf_iload_n hC dX12_isWell_4 rfl 1 rfl ?_
  refine zf_iald hC (j := 114) ia_114 rfl rfl dX12_isWell_5 (fun h1 => ?_)
  refine zf_istore_n hC (LV' := [(3, .int (gA k 114 (ix a0))), (0, .ref (g.2.1 11)), (1, .int a0), (2, .int a1)]) dX12_isWell_6 rfl (by decide) rfl ?_
  refine zf_iconst hC (v := 0) dX12_isWell_7 rfl ?_
  refine zf_istore hC (LV' := [(4, .int 0), (3, .int (gA k 114 (ix a0))), (0, .ref (g.2.1 11)), (1, .int a0), (2, .int a1)]) dX12_isWell_8 (by decide) rfl ?_
  refine zf_lv (LV' := [(0, .ref (g.2.1 11)), (1, .int a0), (2, .int a1), (3, .int (gA k 114 (ix a0))), (4, .int 0)]) [2, 3, 4, 1, 0] rfl ?_
  refine zlpX12_isWell_10 hC hR a0 a1 (gA k 114 (ix a0)) (fun y16 k17 => ?_) FU 0 k
  refine zf_iconst hC (v := 1) dX12_isWell_83 rfl ?_
  exact zf_zret hC rfl true rfl dX12_isWell_84
/-! LifeKeysModel.better -/
theorem dX12_better_0 : decode cX12_better 0 = .ok (.aload_n 0, 1) := by decide +kernel
theorem dX12_better_1 : decode cX12_better 1 = .ok (.iconst 0, 1) := by decide +kernel
theorem dX12_better_2 : decode cX12_better 2 = .ok (.putfield 181, 3) := by decide +kernel
theorem dX12_better_5 : decode cX12_better 5 = .ok (.aload_n 0, 1) := by decide +kernel
theorem dX12_better_6 : decode cX12_better 6 = .ok (.iload_n 1, 1) := by decide +kernel
theorem dX12_better_7 : decode cX12_better 7 = .ok (.invokevirtual 267, 3) := by decide +kernel
theorem dX12_better_10 : decode cX12_better 10 = .ok (.ifCond .eq 15, 3) := by decide +kernel
theorem dX12_better_13 : decode cX12_better 13 = .ok (.aload_n 0, 1) := by decide +kernel
theorem dX12_better_14 : decode cX12_better 14 = .ok (.iload_n 1, 1) := by decide +kernel
theorem dX12_better_15 : decode cX12_better 15 = .ok (.aload_n 0, 1) := by decide +kernel
theorem dX12_better_16 : decode cX12_better 16 = .ok (.getfield 185, 3) := by decide +kernel
theorem dX12_better_19 : decode cX12_better 19 = .ok (.invokevirtual 294, 3) := by decide +kernel
theorem dX12_better_22 : decode cX12_better 22 = .ok (.ifCond .ne 5, 3) := by decide +kernel
theorem dX12_better_25 : decode cX12_better 25 = .ok (.iconst (-1), 1) := by decide +kernel
theorem dX12_better_26 : decode cX12_better 26 = .ok (.ireturn, 1) := by decide +kernel
theorem dX12_better_27 : decode cX12_better 27 = .ok (.aload_n 0, 1) := by decide +kernel
theorem dX12_better_28 : decode cX12_better 28 = .ok (.aload_n 0, 1) := by decide +kernel
theorem dX12_better_29 : decode cX12_better 29 = .ok (.getfield 185, 3) := by decide +kernel
theorem dX12_better_32 : decode cX12_better 32 = .ok (.invokevirtual 300, 3) := by decide +kernel
theorem dX12_better_35 : decode cX12_better 35 = .ok (.iconst (-1), 1) := by decide +kernel
theorem dX12_better_36 : decode cX12_better 36 = .ok (.istore_n 2, 1) := by decide +kernel
theorem dX12_better_37 : decode cX12_better 37 = .ok (.aload_n 0, 1) := by decide +kernel
theorem dX12_better_38 : decode cX12_better 38 = .ok (.getfield 63, 3) := by decide +kernel
theorem dX12_better_41 : decode cX12_better 41 = .ok (.iload_n 1, 1) := by decide +kernel
theorem dX12_better_42 : decode cX12_better 42 = .ok (.iaload, 1) := by decide +kernel
theorem dX12_better_43 : decode cX12_better 43 = .ok (.istore_n 3, 1) := by decide +kernel
theorem dX12_better_44 : decode cX12_better 44 = .ok (.iconst 1, 1) := by decide +kernel
theorem dX12_better_45 : decode cX12_better 45 = .ok (.istore 4, 2) := by decide +kernel
theorem dX12_better_47 : decode cX12_better 47 = .ok (.iload 4, 2) := by decide +kernel
theorem dX12_better_49 : decode cX12_better 49 = .ok (.aload_n 0, 1) := by decide +kernel
theorem dX12_better_50 : decode cX12_better 50 = .ok (.getfield 60, 3) := by decide +kernel
theorem dX12_better_53 : decode cX12_better 53 = .ok (.iload_n 1, 1) := by decide +kernel
theorem dX12_better_54 : decode cX12_better 54 = .ok (.iaload, 1) := by decide +kernel
theorem dX12_better_55 : decode cX12_better 55 = .ok (.invokestatic 258, 3) := by decide +kernel
theorem dX12_better_58 : decode cX12_better 58 = .ok (.if_icmp .gt 43, 3) := by decide +kernel
theorem dX12_better_61 : decode cX12_better 61 = .ok (.aload_n 0, 1) := by decide +kernel
theorem dX12_better_62 : decode cX12_better 62 = .ok (.iload_n 1, 1) := by decide +kernel
theorem dX12_better_63 : decode cX12_better 63 = .ok (.iload 4, 2) := by decide +kernel
theorem dX12_better_65 : decode cX12_better 65 = .ok (.invokevirtual 472, 3) := by decide +kernel
theorem dX12_better_68 : decode cX12_better 68 = .ok (.ifCond .eq 27, 3) := by decide +kernel
theorem dX12_better_71 : decode cX12_better 71 = .ok (.iload_n 2, 1) := by decide +kernel
theorem dX12_better_72 : decode cX12_better 72 = .ok (.iconst (-1), 1) := by decide +kernel
theorem dX12_better_73 : decode cX12_better 73 = .ok (.if_icmp .eq 19, 3) := by decide +kernel
theorem dX12_better_76 : decode cX12_better 76 = .ok (.iload 4, 2) := by decide +kernel
theorem dX12_better_78 : decode cX12_better 78 = .ok (.iload_n 3, 1) := by decide +kernel
theorem dX12_better_79 : decode cX12_better 79 = .ok (.isub, 1) := by decide +kernel
theorem dX12_better_80 : decode cX12_better 80 = .ok (.invokestatic 475, 3) := by decide +kernel
theorem dX12_better_83 : decode cX12_better 83 = .ok (.iload_n 2, 1) := by decide +kernel
theorem dX12_better_84 : decode cX12_better 84 = .ok (.iload_n 3, 1) := by decide +kernel
theorem dX12_better_85 : decode cX12_better 85 = .ok (.isub, 1) := by decide +kernel
theorem dX12_better_86 : decode cX12_better 86 = .ok (.invokestatic 475, 3) := by decide +kernel
theorem dX12_better_89 : decode cX12_better 89 = .ok (.if_icmp .ge 6, 3) := by decide +kernel
theorem dX12_better_92 : decode cX12_better 92 = .ok (.iload 4, 2) := by decide +kernel
theorem dX12_better_94 : decode cX12_better 94 = .ok (.istore_n 2, 1) := by decide +kernel
theorem dX12_better_95 : decode cX12_better 95 = .ok (.iinc 4 1, 3) := by decide +kernel
theorem dX12_better_98 : decode cX12_better 98 = .ok (.goto (-51), 3) := by decide +kernel
theorem dX12_better_101 : decode cX12_better 101 = .ok (.iload_n 2, 1) := by decide +kernel
theorem dX12_better_102 : decode cX12_better 102 = .ok (.ireturn, 1) := by decide +kernel
def lpX12_better_47 (v1 : Int32) (v3 : Int32) : Nat → Int32 → Int32 → ST → (Int32 → Int32 → ST → Option (Int32 × ST)) → Option (Int32 × ST)
  | 0, _, _, _, _ => none
  | n + 1, v2, v4, k, cont => ck (inb v1 40) (ob (fJ6_bitCount_0f7a4 k (gA k 115 (ix v1))) fun r15 k16 => if r15 < v4 then cont v2 v4 k16 else ob (fX12_isWell k16 v1 v4) fun r19 k20 => if r19 = true then if v2 = (-1) then lpX12_better_47 v1 v3 n v4 (v4 + 1) k20 cont else ob (fJ9_abs_0f7a4 k20 (v4 - v3)) fun r24 k25 => ob (fJ9_abs_0f7a4 k25 (v2 - v3)) fun r27 k28 => if r27 ≤ r24 then lpX12_better_47 v1 v3 n v2 (v4 + 1) k28 cont else lpX12_better_47 v1 v3 n v4 (v4 + 1) k28 cont else lpX12_better_47 v1 v3 n v2 (v4 + 1) k20 cont)
set_option maxRecDepth 20000 in
theorem zlpX12_better_47 {p : Program} {l : Launch} {e : Env} {R : Room} {s : State} {m : MethodId} {args : Array Value} {below : List Frame} {meth : Method} {c : Code} {g : GT} (hC : HC p s m args meth c cX12_better 5 RX12 (some .int) g) (hR : 3 ≤ R.frames ∧ 76 ≤ R.locals)  (v1 : Int32) (v3 : Int32) {cont : Int32 → Int32 → ST → Option (Int32 × ST)} (hk : ∀ (v2 : Int32) (v4 : Int32) (k : ST), ZF p l e R s m args below meth c g TM voI 5 k 101 [(0, .ref (g.2.1 11)), (1, .int v1), (2, .int v2), (3, .int v3), (4, .int v4)] [] (cont v2 v4 k)) : ∀ (n : Nat) (v2 : Int32) (v4 : Int32) (k : ST), ZF p l e R s m args below meth c g TM voI 5 k 47 [(0, .ref (g.2.1 11)), (1, .int v1), (2, .int v2), (3, .int v3), (4, .int v4)] [] (lpX12_better_47 v1 v3 n v2 v4 k cont) := by
  intro n
  induction n with
  | zero => intros; exact zf_none
  | succ n ih =>
    intro v2 v4 k
    rw [lpX12_better_47]
    refine zf_iload hC dX12_better_47 4 rfl ?_
    refine zf_aload_n hC dX12_better_49 rfl 0 rfl ?_
    refine gf_1252 hC dX12_better_50 ?_
    refine zf_iload_n hC dX12_better_53 rfl 1 rfl ?_
    refine zf_iald hC (j := 115) ia_115 rfl rfl dX12_better_54 (fun h14 => ?_)
    refine zf_callS hC (c_J6_bitCount_0f7a4 l g TM (gA k 115 (ix v1))) mt_J6_bitCount_0f7a4 wd_577 wd_1578 rfl (rm_le hR rfl) rfl rfl (rest := [.int v4]) rfl (Nat.le_of_ble_eq_true rfl) dX12_better_55 (fun r15 k16 h17 => ?_)
    refine zf_icmp_gt hC (tgt := 101) dX12_better_58 (by decide) (fun h18 => ?_) (fun h18 => ?_)
    · refine zf_lv (LV' := [(0, .ref (g.2.1 11)), (1, .int v1), (2, .int v2), (3, .int v3), (4, .int v4)]) [0, 1, 2, 3, 4] rfl ?_
      exact hk v2 v4 k16
    · refine zf_aload_n hC dX12_better_61 rfl 0 rfl ?_
      refine zf_iload_n hC dX12_better_62 rfl 1 rfl ?_
      refine zf_iload hC dX12_better_63 4 rfl ?_
      refine zf_callV hC (c_X12_isWell l g v1 v4) mt_X12_isWell wd_1897 sp_89 ci_11 ic_11 wd_1895 rfl (rm_le hR rfl) rfl rfl (rest := []) rfl (Nat.le_of_ble_eq_true rfl) dX12_better_65 (fun r19 k20 h21 => ?_)
      refine zf_ifb_eq hC (tgt := 95) dX12_better_68 (by decide) (fun h22 => ?_) (fun h22 => ?_)
      · refine zf_iload_n hC dX12_better_71 rfl 2 rfl ?_
        refine zf_iconst hC (v := (-1)) dX12_better_72 rfl ?_
        refine zf_icmp_eq hC (tgt := 92) dX12_better_73 (by decide) (fun h23 => ?_) (fun h23 => ?_)
        · refine zf_iload hC dX12_better_92 4 rfl ?_
          refine zf_istore_n hC (LV' := [(2, .int v4), (0, .ref (g.2.1 11)), (1, .int v1), (3, .int v3), (4, .int v4)]) dX12_better_94 rfl (by decide) rfl ?_
          refine zf_iinc hC (q := 4) (v := v4 + 1) (LV' := [(4, .int (v4 + 1)), (2, .int v4), (0, .ref (g.2.1 11)), (1, .int v1), (3, .int v3)]) dX12_better_95 rfl rfl (by decide) rfl ?_
          refine zf_goto hC (tgt := 47) dX12_better_98 (by decide) ?_
          refine zf_lv (LV' := [(0, .ref (g.2.1 11)), (1, .int v1), (2, .int v4), (3, .int v3), (4, .int (v4 + 1))]) [2, 3, 1, 4, 0] rfl ?_
          exact ih v4 (v4 + 1) k20
        · refine zf_iload hC dX12_better_76 4 rfl ?_
          refine zf_iload_n hC dX12_better_78 rfl 3 rfl ?_
          refine zf_isub hC dX12_better_79 ?_
          refine zf_callS hC (c_J9_abs_0f7a4 l g TM (v4 - v3)) mt_J9_abs_0f7a4 wd_1900 wd_1899 rfl (rm_le hR rfl) rfl rfl (rest := []) rfl (Nat.le_of_ble_eq_true rfl) dX12_better_80 (fun r24 k25 h26 => ?_)
          refine zf_iload_n hC dX12_better_83 rfl 2 rfl ?_
          refine zf_iload_n hC dX12_better_84 rfl 3 rfl ?_
          refine zf_isub hC dX12_better_85 ?_
          refine zf_callS hC (c_J9_abs_0f7a4 l g TM (v2 - v3)) mt_J9_abs_0f7a4 wd_1900 wd_1899 rfl (rm_le hR rfl) rfl rfl (rest := [.int r24]) rfl (Nat.le_of_ble_eq_true rfl) dX12_better_86 (fun r27 k28 h29 => ?_)
          refine zf_icmp_ge hC (tgt := 95) dX12_better_89 (by decide) (fun h30 => ?_) (fun h30 => ?_)
          · refine zf_iinc hC (q := 4) (v := v4 + 1) (LV' := [(4, .int (v4 + 1)), (0, .ref (g.2.1 11)), (1, .int v1), (2, .int v2), (3, .int v3)]) dX12_better_95 rfl rfl (by decide) rfl ?_
            refine zf_goto hC (tgt := 47) dX12_better_98 (by decide) ?_
            refine zf_lv (LV' := [(0, .ref (g.2.1 11)), (1, .int v1), (2, .int v2), (3, .int v3), (4, .int (v4 + 1))]) [1, 2, 3, 4, 0] rfl ?_
            exact ih v2 (v4 + 1) k28
          · refine zf_iload hC dX12_better_92 4 rfl ?_
            refine zf_istore_n hC (LV' := [(2, .int v4), (0, .ref (g.2.1 11)), (1, .int v1), (3, .int v3), (4, .int v4)]) dX12_better_94 rfl (by decide) rfl ?_
            refine zf_iinc hC (q := 4) (v := v4 + 1) (LV' := [(4, .int (v4 + 1)), (2, .int v4), (0, .ref (g.2.1 11)), (1, .int v1), (3, .int v3)]) dX12_better_95 rfl rfl (by decide) rfl ?_
            refine zf_goto hC (tgt := 47) dX12_better_98 (by decide) ?_
            refine zf_lv (LV' := [(0, .ref (g.2.1 11)), (1, .int v1), (2, .int v4), (3, .int v3), (4, .int (v4 + 1))]) [2, 3, 1, 4, 0] rfl ?_
            exact ih v4 (v4 + 1) k28
      · refine zf_iinc hC (q := 4) (v := v4 + 1) (LV' := [(4, .int (v4 + 1)), (0, .ref (g.2.1 11)), (1, .int v1), (2, .int v2), (3, .int v3)]) dX12_better_95 rfl rfl (by decide) rfl ?_
        refine zf_goto hC (tgt := 47) dX12_better_98 (by decide) ?_
        refine zf_lv (LV' := [(0, .ref (g.2.1 11)), (1, .int v1), (2, .int v2), (3, .int v3), (4, .int (v4 + 1))]) [1, 2, 3, 4, 0] rfl ?_
        exact ih v2 (v4 + 1) k20
def fX12_better (k : ST) (a0 : Int32) : Option (Int32 × ST) := nm (sI k 11 0 0) fun k1 => ob (fX12_isParting k1 a0) fun r2 k3 => if r2 = true then ob (fX12_isForce k3 a0 (gI k3 11 1)) fun r6 k7 => if r6 = true then ob (fX12_layHas k7 (gI k7 11 1)) fun r10 k11 => ck (inb a0 40) (lpX12_better_47 a0 (gA k11 116 (ix a0)) FU (-1) 1 k11 fun y31 y32 k33 => some (y31, k33)) else some ((-1), k7) else some ((-1), k3)
set_option maxRecDepth 20000 in
theorem c_X12_better (l : Launch) (g : GT) (a0 : Int32) : CN l yX12_better cX12_better 5 (some .int) { frames := 3, cells := 0, slots := 0, locals := 76 } g TM voI [.ref (g.2.1 11), .int a0] (fun k => fX12_better k a0) := by
  refine cn_of (by decide) (Nat.le_of_ble_eq_true rfl) ?_
  intro p e s m args below meth c hC k
  have hC : HC p s m args meth c cX12_better 5 RX12 (some .int) g := hC
  have hR : 3 ≤ ({ frames := 3, cells := 0, slots := 0, locals := 76 } : Room).frames ∧ 76 ≤ ({ frames := 3, cells := 0, slots := 0, locals := 76 } : Room).locals := ⟨Nat.le_refl _, Nat.le_refl _⟩
  show ZF p l e _ s m args below meth c g TM voI 5 k 0 [(0, .ref (g.2.1 11)), (1, .int a0)] [] (fX12_better k a0)
  unfold fX12_better
  refine zf_aload_n hC dX12_better_0 rfl 0 rfl ?_
  refine zf_iconst hC (v := 0) dX12_better_1 rfl ?_
  refine pf_1230 hC dX12_better_2 ?_
  refine zf_nmk (fun k1 => ?_)
  refine zf_aload_n hC dX12_better_5 rfl 0 rfl ?_
  refine zf_iload_n hC dX12_better_6 rfl 1 rfl ?_
  refine zf_callV hC (c_X12_isParting l g a0) mt_X12_isParting wd_1597 sp_53 ci_11 ic_11 wd_1595 rfl (rm_le hR rfl) rfl rfl (rest := []) rfl (Nat.le_of_ble_eq_true rfl) dX12_better_7 (fun r2 k3 h4 => ?_)
  refine zf_ifb_eq hC (tgt := 25) dX12_better_10 (by decide) (fun h5 => ?_) (fun h5 => ?_)
  · refine zf_aload_n hC dX12_better_13 rfl 0 rfl ?_
    refine zf_iload_n hC dX12_better_14 rfl 1 rfl ?_
    refine zf_aload_n hC dX12_better_15 rfl 0 rfl ?_
    refine gf_1231 hC dX12_better_16 ?_
    refine zf_callV hC (c_X12_isForce l g a0 (gI k3 11 1)) mt_X12_isForce wd_1661 sp_60 ci_11 ic_11 wd_1659 rfl (rm_le hR rfl) rfl rfl (rest := []) rfl (Nat.le_of_ble_eq_true rfl) dX12_better_19 (fun r6 k7 h8 => ?_)
    refine zf_ifb_ne hC (tgt := 27) dX12_better_22 (by decide) (fun h9 => ?_) (fun h9 => ?_)
    · refine zf_aload_n hC dX12_better_27 rfl 0 rfl ?_
      refine zf_aload_n hC dX12_better_28 rfl 0 rfl ?_
      refine gf_1231 hC dX12_better_29 ?_
      refine zf_callV hC (c_X12_layHas l g (gI k7 11 1)) mt_X12_layHas wd_1653 sp_58 ci_11 ic_11 wd_1651 rfl (rm_le hR rfl) rfl rfl (rest := []) rfl (Nat.le_of_ble_eq_true rfl) dX12_better_32 (fun r10 k11 h12 => ?_)
      refine zf_iconst hC (v := (-1)) dX12_better_35 rfl ?_
      refine zf_istore_n hC (LV' := [(2, .int (-1)), (0, .ref (g.2.1 11)), (1, .int a0)]) dX12_better_36 rfl (by decide) rfl ?_
      refine zf_aload_n hC dX12_better_37 rfl 1 rfl ?_
      refine gf_1253 hC dX12_better_38 ?_
      refine zf_iload_n hC dX12_better_41 rfl 2 rfl ?_
      refine zf_iald hC (j := 116) ia_116 rfl rfl dX12_better_42 (fun h13 => ?_)
      refine zf_istore_n hC (LV' := [(3, .int (gA k11 116 (ix a0))), (2, .int (-1)), (0, .ref (g.2.1 11)), (1, .int a0)]) dX12_better_43 rfl (by decide) rfl ?_
      refine zf_iconst hC (v := 1) dX12_better_44 rfl ?_
      refine zf_istore hC (LV' := [(4, .int 1), (3, .int (gA k11 116 (ix a0))), (2, .int (-1)), (0, .ref (g.2.1 11)), (1, .int a0)]) dX12_better_45 (by decide) rfl ?_
      refine zf_lv (LV' := [(0, .ref (g.2.1 11)), (1, .int a0), (2, .int (-1)), (3, .int (gA k11 116 (ix a0))), (4, .int 1)]) [3, 4, 2, 1, 0] rfl ?_
      refine zlpX12_better_47 hC hR a0 (gA k11 116 (ix a0)) (fun y31 y32 k33 => ?_) FU (-1) 1 k11
      refine zf_iload_n hC dX12_better_101 rfl 2 rfl ?_
      exact zf_iret hC rfl dX12_better_102
    · refine zf_iconst hC (v := (-1)) dX12_better_25 rfl ?_
      exact zf_iret hC rfl dX12_better_26
  · refine zf_iconst hC (v := (-1)) dX12_better_25 rfl ?_
    exact zf_iret hC rfl dX12_better_26
/-! LifeKeysModel.isBarred -/
theorem dX12_isBarred_0 : decode cX12_isBarred 0 = .ok (.lload_n 2, 1) := by decide +kernel
theorem dX12_isBarred_1 : decode cX12_isBarred 1 = .ok (.lload 4, 2) := by decide +kernel
theorem dX12_isBarred_3 : decode cX12_isBarred 3 = .ok (.ldc2_w 314, 3) := by decide +kernel
theorem dX12_isBarred_6 : decode cX12_isBarred 6 = .ok (.lxor, 1) := by decide +kernel
theorem dX12_isBarred_7 : decode cX12_isBarred 7 = .ok (.land, 1) := by decide +kernel
theorem dX12_isBarred_8 : decode cX12_isBarred 8 = .ok (.lstore 6, 2) := by decide +kernel
theorem dX12_isBarred_10 : decode cX12_isBarred 10 = .ok (.aload_n 0, 1) := by decide +kernel
theorem dX12_isBarred_11 : decode cX12_isBarred 11 = .ok (.getfield 9, 3) := by decide +kernel
theorem dX12_isBarred_14 : decode cX12_isBarred 14 = .ok (.iload_n 1, 1) := by decide +kernel
theorem dX12_isBarred_15 : decode cX12_isBarred 15 = .ok (.iaload, 1) := by decide +kernel
theorem dX12_isBarred_16 : decode cX12_isBarred 16 = .ok (.iconst 2, 1) := by decide +kernel
theorem dX12_isBarred_17 : decode cX12_isBarred 17 = .ok (.if_icmp .ne 21, 3) := by decide +kernel
theorem dX12_isBarred_20 : decode cX12_isBarred 20 = .ok (.lload 6, 2) := by decide +kernel
theorem dX12_isBarred_22 : decode cX12_isBarred 22 = .ok (.aload_n 0, 1) := by decide +kernel
theorem dX12_isBarred_23 : decode cX12_isBarred 23 = .ok (.getfield 16, 3) := by decide +kernel
theorem dX12_isBarred_26 : decode cX12_isBarred 26 = .ok (.iload_n 1, 1) := by decide +kernel
theorem dX12_isBarred_27 : decode cX12_isBarred 27 = .ok (.iaload, 1) := by decide +kernel
theorem dX12_isBarred_28 : decode cX12_isBarred 28 = .ok (.lshr, 1) := by decide +kernel
theorem dX12_isBarred_29 : decode cX12_isBarred 29 = .ok (.lconst 1, 1) := by decide +kernel
theorem dX12_isBarred_30 : decode cX12_isBarred 30 = .ok (.land, 1) := by decide +kernel
theorem dX12_isBarred_31 : decode cX12_isBarred 31 = .ok (.lconst 1, 1) := by decide +kernel
theorem dX12_isBarred_32 : decode cX12_isBarred 32 = .ok (.lcmp, 1) := by decide +kernel
theorem dX12_isBarred_33 : decode cX12_isBarred 33 = .ok (.ifCond .ne 5, 3) := by decide +kernel
theorem dX12_isBarred_36 : decode cX12_isBarred 36 = .ok (.iconst 1, 1) := by decide +kernel
theorem dX12_isBarred_37 : decode cX12_isBarred 37 = .ok (.ireturn, 1) := by decide +kernel
theorem dX12_isBarred_38 : decode cX12_isBarred 38 = .ok (.iconst 0, 1) := by decide +kernel
theorem dX12_isBarred_39 : decode cX12_isBarred 39 = .ok (.istore 8, 2) := by decide +kernel
theorem dX12_isBarred_41 : decode cX12_isBarred 41 = .ok (.iload 8, 2) := by decide +kernel
theorem dX12_isBarred_43 : decode cX12_isBarred 43 = .ok (.aload_n 0, 1) := by decide +kernel
theorem dX12_isBarred_44 : decode cX12_isBarred 44 = .ok (.getfield 236, 3) := by decide +kernel
theorem dX12_isBarred_47 : decode cX12_isBarred 47 = .ok (.if_icmp .ge 52, 3) := by decide +kernel
theorem dX12_isBarred_50 : decode cX12_isBarred 50 = .ok (.aload_n 0, 1) := by decide +kernel
theorem dX12_isBarred_51 : decode cX12_isBarred 51 = .ok (.getfield 45, 3) := by decide +kernel
theorem dX12_isBarred_54 : decode cX12_isBarred 54 = .ok (.iload 8, 2) := by decide +kernel
theorem dX12_isBarred_56 : decode cX12_isBarred 56 = .ok (.iaload, 1) := by decide +kernel
theorem dX12_isBarred_57 : decode cX12_isBarred 57 = .ok (.iload_n 1, 1) := by decide +kernel
theorem dX12_isBarred_58 : decode cX12_isBarred 58 = .ok (.if_icmp .ne 35, 3) := by decide +kernel
theorem dX12_isBarred_61 : decode cX12_isBarred 61 = .ok (.aload_n 0, 1) := by decide +kernel
theorem dX12_isBarred_62 : decode cX12_isBarred 62 = .ok (.iload 8, 2) := by decide +kernel
theorem dX12_isBarred_64 : decode cX12_isBarred 64 = .ok (.aload_n 0, 1) := by decide +kernel
theorem dX12_isBarred_65 : decode cX12_isBarred 65 = .ok (.getfield 185, 3) := by decide +kernel
theorem dX12_isBarred_68 : decode cX12_isBarred 68 = .ok (.invokevirtual 297, 3) := by decide +kernel
theorem dX12_isBarred_71 : decode cX12_isBarred 71 = .ok (.ifCond .eq 22, 3) := by decide +kernel
theorem dX12_isBarred_74 : decode cX12_isBarred 74 = .ok (.lload 6, 2) := by decide +kernel
theorem dX12_isBarred_76 : decode cX12_isBarred 76 = .ok (.aload_n 0, 1) := by decide +kernel
theorem dX12_isBarred_77 : decode cX12_isBarred 77 = .ok (.getfield 48, 3) := by decide +kernel
theorem dX12_isBarred_80 : decode cX12_isBarred 80 = .ok (.iload 8, 2) := by decide +kernel
theorem dX12_isBarred_82 : decode cX12_isBarred 82 = .ok (.iaload, 1) := by decide +kernel
theorem dX12_isBarred_83 : decode cX12_isBarred 83 = .ok (.lshr, 1) := by decide +kernel
theorem dX12_isBarred_84 : decode cX12_isBarred 84 = .ok (.lconst 1, 1) := by decide +kernel
theorem dX12_isBarred_85 : decode cX12_isBarred 85 = .ok (.land, 1) := by decide +kernel
theorem dX12_isBarred_86 : decode cX12_isBarred 86 = .ok (.lconst 1, 1) := by decide +kernel
theorem dX12_isBarred_87 : decode cX12_isBarred 87 = .ok (.lcmp, 1) := by decide +kernel
theorem dX12_isBarred_88 : decode cX12_isBarred 88 = .ok (.ifCond .ne 5, 3) := by decide +kernel
theorem dX12_isBarred_91 : decode cX12_isBarred 91 = .ok (.iconst 1, 1) := by decide +kernel
theorem dX12_isBarred_92 : decode cX12_isBarred 92 = .ok (.ireturn, 1) := by decide +kernel
theorem dX12_isBarred_93 : decode cX12_isBarred 93 = .ok (.iinc 8 1, 3) := by decide +kernel
theorem dX12_isBarred_96 : decode cX12_isBarred 96 = .ok (.goto (-55), 3) := by decide +kernel
theorem dX12_isBarred_99 : decode cX12_isBarred 99 = .ok (.iconst 0, 1) := by decide +kernel
theorem dX12_isBarred_100 : decode cX12_isBarred 100 = .ok (.ireturn, 1) := by decide +kernel
def lpX12_isBarred_41 (v1 : Int32) (v2 : Int64) (v4 : Int64) (v6 : Int64) : Nat → Int32 → ST → (Int32 → ST → Option (Bool × ST)) → Option (Bool × ST)
  | 0, _, _, _ => none
  | n + 1, v8, k, cont => if (gI k 11 29) ≤ v8 then cont v8 k else ck (inb v8 40) (if (gA k 110 (ix v8)) = v1 then ob (fX12_isWrapped k v8 (gI k 11 1)) fun r8 k9 => if r8 = true then ck (inb v8 40) (if ((j_lshr v6 (gA k9 111 (ix v8))) &&& 1) = 1 then some (true, k9) else lpX12_isBarred_41 v1 v2 v4 v6 n (v8 + 1) k9 cont) else lpX12_isBarred_41 v1 v2 v4 v6 n (v8 + 1) k9 cont else lpX12_isBarred_41 v1 v2 v4 v6 n (v8 + 1) k cont)
set_option maxRecDepth 20000 in
theorem zlpX12_isBarred_41 {p : Program} {l : Launch} {e : Env} {R : Room} {s : State} {m : MethodId} {args : Array Value} {below : List Frame} {meth : Method} {c : Code} {g : GT} (hC : HC p s m args meth c cX12_isBarred 9 RX12 (some .boolean) g) (hR : 1 ≤ R.frames ∧ 22 ≤ R.locals)  (v1 : Int32) (v2 : Int64) (v4 : Int64) (v6 : Int64) {cont : Int32 → ST → Option (Bool × ST)} (hk : ∀ (v8 : Int32) (k : ST), ZF p l e R s m args below meth c g TM voB 9 k 99 [(0, .ref (g.2.1 11)), (1, .int v1), (2, .long v2), (4, .long v4), (6, .long v6), (8, .int v8)] [] (cont v8 k)) : ∀ (n : Nat) (v8 : Int32) (k : ST), ZF p l e R s m args below meth c g TM voB 9 k 41 [(0, .ref (g.2.1 11)), (1, .int v1), (2, .long v2), (4, .long v4), (6, .long v6), (8, .int v8)] [] (lpX12_isBarred_41 v1 v2 v4 v6 n v8 k cont) := by
  intro n
  induction n with
  | zero => intros; exact zf_none
  | succ n ih =>
    intro v8 k
    rw [lpX12_isBarred_41]
    refine zf_iload hC dX12_isBarred_41 5 rfl ?_
    refine zf_aload_n hC dX12_isBarred_43 rfl 0 rfl ?_
    refine gf_1259 hC dX12_isBarred_44 ?_
    refine zf_icmp_ge hC (tgt := 99) dX12_isBarred_47 (by decide) (fun h5 => ?_) (fun h5 => ?_)
    · refine zf_lv (LV' := [(0, .ref (g.2.1 11)), (1, .int v1), (2, .long v2), (4, .long v4), (6, .long v6), (8, .int v8)]) [0, 1, 2, 3, 4, 5] rfl ?_
      exact hk v8 k
    · refine zf_aload_n hC dX12_isBarred_50 rfl 0 rfl ?_
      refine gf_1247 hC dX12_isBarred_51 ?_
      refine zf_iload hC dX12_isBarred_54 5 rfl ?_
      refine zf_iald hC (j := 110) ia_110 rfl rfl dX12_isBarred_56 (fun h6 => ?_)
      refine zf_iload_n hC dX12_isBarred_57 rfl 1 rfl ?_
      refine zf_icmp_ne hC (tgt := 93) dX12_isBarred_58 (by decide) (fun h7 => ?_) (fun h7 => ?_)
      · refine zf_aload_n hC dX12_isBarred_61 rfl 0 rfl ?_
        refine zf_iload hC dX12_isBarred_62 5 rfl ?_
        refine zf_aload_n hC dX12_isBarred_64 rfl 0 rfl ?_
        refine gf_1231 hC dX12_isBarred_65 ?_
        refine zf_callV hC (c_X12_isWrapped l g v8 (gI k 11 1)) mt_X12_isWrapped wd_1665 sp_61 ci_11 ic_11 wd_1663 rfl (rm_le hR rfl) rfl rfl (rest := []) rfl (Nat.le_of_ble_eq_true rfl) dX12_isBarred_68 (fun r8 k9 h10 => ?_)
        refine zf_ifb_eq hC (tgt := 93) dX12_isBarred_71 (by decide) (fun h11 => ?_) (fun h11 => ?_)
        · refine zf_lload hC dX12_isBarred_74 4 rfl ?_
          refine zf_aload_n hC dX12_isBarred_76 rfl 0 rfl ?_
          refine gf_1248 hC dX12_isBarred_77 ?_
          refine zf_iload hC dX12_isBarred_80 5 rfl ?_
          refine zf_iald hC (j := 111) ia_111 rfl rfl dX12_isBarred_82 (fun h12 => ?_)
          refine zf_lshr hC dX12_isBarred_83 ?_
          refine zf_lconst hC (v := 1) dX12_isBarred_84 rfl ?_
          refine zf_land hC dX12_isBarred_85 ?_
          refine zf_lconst hC (v := 1) dX12_isBarred_86 rfl ?_
          refine zf_lcmp_ne hC (tgt := 93) dX12_isBarred_87 dX12_isBarred_88 (by decide) (fun h13 => ?_) (fun h13 => ?_)
          · refine zf_iconst hC (v := 1) dX12_isBarred_91 rfl ?_
            exact zf_zret hC rfl true rfl dX12_isBarred_92
          · refine zf_iinc hC (q := 5) (v := v8 + 1) (LV' := [(8, .int (v8 + 1)), (0, .ref (g.2.1 11)), (1, .int v1), (2, .long v2), (4, .long v4), (6, .long v6)]) dX12_isBarred_93 rfl rfl (by decide) rfl ?_
            refine zf_goto hC (tgt := 41) dX12_isBarred_96 (by decide) ?_
            refine zf_lv (LV' := [(0, .ref (g.2.1 11)), (1, .int v1), (2, .long v2), (4, .long v4), (6, .long v6), (8, .int (v8 + 1))]) [1, 2, 3, 4, 5, 0] rfl ?_
            exact ih (v8 + 1) k9
        · refine zf_iinc hC (q := 5) (v := v8 + 1) (LV' := [(8, .int (v8 + 1)), (0, .ref (g.2.1 11)), (1, .int v1), (2, .long v2), (4, .long v4), (6, .long v6)]) dX12_isBarred_93 rfl rfl (by decide) rfl ?_
          refine zf_goto hC (tgt := 41) dX12_isBarred_96 (by decide) ?_
          refine zf_lv (LV' := [(0, .ref (g.2.1 11)), (1, .int v1), (2, .long v2), (4, .long v4), (6, .long v6), (8, .int (v8 + 1))]) [1, 2, 3, 4, 5, 0] rfl ?_
          exact ih (v8 + 1) k9
      · refine zf_iinc hC (q := 5) (v := v8 + 1) (LV' := [(8, .int (v8 + 1)), (0, .ref (g.2.1 11)), (1, .int v1), (2, .long v2), (4, .long v4), (6, .long v6)]) dX12_isBarred_93 rfl rfl (by decide) rfl ?_
        refine zf_goto hC (tgt := 41) dX12_isBarred_96 (by decide) ?_
        refine zf_lv (LV' := [(0, .ref (g.2.1 11)), (1, .int v1), (2, .long v2), (4, .long v4), (6, .long v6), (8, .int (v8 + 1))]) [1, 2, 3, 4, 5, 0] rfl ?_
        exact ih (v8 + 1) k
def fX12_isBarred (k : ST) (a0 : Int32) (a1 : Int64) (a2 : Int64) : Option (Bool × ST) := ck (inb a0 40) (if (gA k 99 (ix a0)) = 2 then ck (inb a0 40) (if ((j_lshr (a1 &&& (a2 ^^^ (-1))) (gA k 101 (ix a0))) &&& 1) = 1 then some (true, k) else lpX12_isBarred_41 a0 a1 a2 (a1 &&& (a2 ^^^ (-1))) FU 0 k fun y14 k15 => some (false, k15)) else lpX12_isBarred_41 a0 a1 a2 (a1 &&& (a2 ^^^ (-1))) FU 0 k fun y16 k17 => some (false, k17))
set_option maxRecDepth 20000 in
theorem c_X12_isBarred (l : Launch) (g : GT) (a0 : Int32) (a1 : Int64) (a2 : Int64) : CN l yX12_isBarred cX12_isBarred 9 (some .boolean) { frames := 1, cells := 0, slots := 0, locals := 22 } g TM voB [.ref (g.2.1 11), .int a0, .long a1, .long a2] (fun k => fX12_isBarred k a0 a1 a2) := by
  refine cn_of (by decide) (Nat.le_of_ble_eq_true rfl) ?_
  intro p e s m args below meth c hC k
  have hC : HC p s m args meth c cX12_isBarred 9 RX12 (some .boolean) g := hC
  have hR : 1 ≤ ({ frames := 1, cells := 0, slots := 0, locals := 22 } : Room).frames ∧ 22 ≤ ({ frames := 1, cells := 0, slots := 0, locals := 22 } : Room).locals := ⟨Nat.le_refl _, Nat.le_refl _⟩
  show ZF p l e _ s m args below meth c g TM voB 9 k 0 [(0, .ref (g.2.1 11)), (1, .int a0), (2, .long a1), (4, .long a2)] [] (fX12_isBarred k a0 a1 a2)
  unfold fX12_isBarred
  refine zf_lload_n hC dX12_isBarred_0 rfl 2 rfl ?_
  refine zf_lload hC dX12_isBarred_1 3 rfl ?_
  refine zf_ldc2 hC wd_1667 dX12_isBarred_3 ?_
  refine zf_lxor hC dX12_isBarred_6 ?_
  refine zf_land hC dX12_isBarred_7 ?_
  refine zf_lstore hC (LV' := [(6, .long (a1 &&& (a2 ^^^ (-1)))), (0, .ref (g.2.1 11)), (1, .int a0), (2, .long a1), (4, .long a2)]) dX12_isBarred_8 (by decide) rfl ?_
  refine zf_aload_n hC dX12_isBarred_10 rfl 1 rfl ?_
  refine gf_1232 hC dX12_isBarred_11 ?_
  refine zf_iload_n hC dX12_isBarred_14 rfl 2 rfl ?_
  refine zf_iald hC (j := 99) ia_99 rfl rfl dX12_isBarred_15 (fun h1 => ?_)
  refine zf_iconst hC (v := 2) dX12_isBarred_16 rfl ?_
  refine zf_icmp_ne hC (tgt := 38) dX12_isBarred_17 (by decide) (fun h2 => ?_) (fun h2 => ?_)
  · refine zf_lload hC dX12_isBarred_20 0 rfl ?_
    refine zf_aload_n hC dX12_isBarred_22 rfl 1 rfl ?_
    refine gf_1234 hC dX12_isBarred_23 ?_
    refine zf_iload_n hC dX12_isBarred_26 rfl 2 rfl ?_
    refine zf_iald hC (j := 101) ia_101 rfl rfl dX12_isBarred_27 (fun h3 => ?_)
    refine zf_lshr hC dX12_isBarred_28 ?_
    refine zf_lconst hC (v := 1) dX12_isBarred_29 rfl ?_
    refine zf_land hC dX12_isBarred_30 ?_
    refine zf_lconst hC (v := 1) dX12_isBarred_31 rfl ?_
    refine zf_lcmp_ne hC (tgt := 38) dX12_isBarred_32 dX12_isBarred_33 (by decide) (fun h4 => ?_) (fun h4 => ?_)
    · refine zf_iconst hC (v := 1) dX12_isBarred_36 rfl ?_
      exact zf_zret hC rfl true rfl dX12_isBarred_37
    · refine zf_iconst hC (v := 0) dX12_isBarred_38 rfl ?_
      refine zf_istore hC (LV' := [(8, .int 0), (6, .long (a1 &&& (a2 ^^^ (-1)))), (0, .ref (g.2.1 11)), (1, .int a0), (2, .long a1), (4, .long a2)]) dX12_isBarred_39 (by decide) rfl ?_
      refine zf_lv (LV' := [(0, .ref (g.2.1 11)), (1, .int a0), (2, .long a1), (4, .long a2), (6, .long (a1 &&& (a2 ^^^ (-1)))), (8, .int 0)]) [2, 3, 4, 5, 1, 0] rfl ?_
      refine zlpX12_isBarred_41 hC hR a0 a1 a2 (a1 &&& (a2 ^^^ (-1))) (fun y14 k15 => ?_) FU 0 k
      refine zf_iconst hC (v := 0) dX12_isBarred_99 rfl ?_
      exact zf_zret hC rfl false rfl dX12_isBarred_100
  · refine zf_iconst hC (v := 0) dX12_isBarred_38 rfl ?_
    refine zf_istore hC (LV' := [(8, .int 0), (6, .long (a1 &&& (a2 ^^^ (-1)))), (0, .ref (g.2.1 11)), (1, .int a0), (2, .long a1), (4, .long a2)]) dX12_isBarred_39 (by decide) rfl ?_
    refine zf_lv (LV' := [(0, .ref (g.2.1 11)), (1, .int a0), (2, .long a1), (4, .long a2), (6, .long (a1 &&& (a2 ^^^ (-1)))), (8, .int 0)]) [2, 3, 4, 5, 1, 0] rfl ?_
    refine zlpX12_isBarred_41 hC hR a0 a1 a2 (a1 &&& (a2 ^^^ (-1))) (fun y16 k17 => ?_) FU 0 k
    refine zf_iconst hC (v := 0) dX12_isBarred_99 rfl ?_
    exact zf_zret hC rfl false rfl dX12_isBarred_100
/-! LifeKeysModel.order -/
theorem dX12_order_0 : decode cX12_order 0 = .ok (.aload_n 0, 1) := by decide +kernel
theorem dX12_order_1 : decode cX12_order 1 = .ok (.iconst 0, 1) := by decide +kernel
theorem dX12_order_2 : decode cX12_order 2 = .ok (.putfield 181, 3) := by decide +kernel
theorem dX12_order_5 : decode cX12_order 5 = .ok (.aload_n 0, 1) := by decide +kernel
theorem dX12_order_6 : decode cX12_order 6 = .ok (.iload_n 1, 1) := by decide +kernel
theorem dX12_order_7 : decode cX12_order 7 = .ok (.invokevirtual 450, 3) := by decide +kernel
theorem dX12_order_10 : decode cX12_order 10 = .ok (.ifCond .eq 7, 3) := by decide +kernel
theorem dX12_order_13 : decode cX12_order 13 = .ok (.iload_n 2, 1) := by decide +kernel
theorem dX12_order_14 : decode cX12_order 14 = .ok (.ifCond .ge 5, 3) := by decide +kernel
theorem dX12_order_17 : decode cX12_order 17 = .ok (.iconst (-1), 1) := by decide +kernel
theorem dX12_order_18 : decode cX12_order 18 = .ok (.ireturn, 1) := by decide +kernel
theorem dX12_order_19 : decode cX12_order 19 = .ok (.aload_n 0, 1) := by decide +kernel
theorem dX12_order_20 : decode cX12_order 20 = .ok (.aload_n 0, 1) := by decide +kernel
theorem dX12_order_21 : decode cX12_order 21 = .ok (.getfield 175, 3) := by decide +kernel
theorem dX12_order_24 : decode cX12_order 24 = .ok (.iload_n 1, 1) := by decide +kernel
theorem dX12_order_25 : decode cX12_order 25 = .ok (.iaload, 1) := by decide +kernel
theorem dX12_order_26 : decode cX12_order 26 = .ok (.aload_n 0, 1) := by decide +kernel
theorem dX12_order_27 : decode cX12_order 27 = .ok (.getfield 185, 3) := by decide +kernel
theorem dX12_order_30 : decode cX12_order 30 = .ok (.invokevirtual 310, 3) := by decide +kernel
theorem dX12_order_33 : decode cX12_order 33 = .ok (.lstore_n 3, 1) := by decide +kernel
theorem dX12_order_34 : decode cX12_order 34 = .ok (.lconst 0, 1) := by decide +kernel
theorem dX12_order_35 : decode cX12_order 35 = .ok (.lstore 5, 2) := by decide +kernel
theorem dX12_order_37 : decode cX12_order 37 = .ok (.iconst 0, 1) := by decide +kernel
theorem dX12_order_38 : decode cX12_order 38 = .ok (.istore 7, 2) := by decide +kernel
theorem dX12_order_40 : decode cX12_order 40 = .ok (.iload 7, 2) := by decide +kernel
theorem dX12_order_42 : decode cX12_order 42 = .ok (.bipush 40, 2) := by decide +kernel
theorem dX12_order_44 : decode cX12_order 44 = .ok (.if_icmp .ge 94, 3) := by decide +kernel
theorem dX12_order_47 : decode cX12_order 47 = .ok (.iconst (-1), 1) := by decide +kernel
theorem dX12_order_48 : decode cX12_order 48 = .ok (.istore 8, 2) := by decide +kernel
theorem dX12_order_50 : decode cX12_order 50 = .ok (.aload_n 0, 1) := by decide +kernel
theorem dX12_order_51 : decode cX12_order 51 = .ok (.getfield 199, 3) := by decide +kernel
theorem dX12_order_54 : decode cX12_order 54 = .ok (.iconst 1, 1) := by decide +kernel
theorem dX12_order_55 : decode cX12_order 55 = .ok (.isub, 1) := by decide +kernel
theorem dX12_order_56 : decode cX12_order 56 = .ok (.istore 9, 2) := by decide +kernel
theorem dX12_order_58 : decode cX12_order 58 = .ok (.iload 9, 2) := by decide +kernel
theorem dX12_order_60 : decode cX12_order 60 = .ok (.ifCond .lt 48, 3) := by decide +kernel
theorem dX12_order_63 : decode cX12_order 63 = .ok (.lload_n 3, 1) := by decide +kernel
theorem dX12_order_64 : decode cX12_order 64 = .ok (.iload 9, 2) := by decide +kernel
theorem dX12_order_66 : decode cX12_order 66 = .ok (.lshr, 1) := by decide +kernel
theorem dX12_order_67 : decode cX12_order 67 = .ok (.lconst 1, 1) := by decide +kernel
theorem dX12_order_68 : decode cX12_order 68 = .ok (.land, 1) := by decide +kernel
theorem dX12_order_69 : decode cX12_order 69 = .ok (.lconst 1, 1) := by decide +kernel
theorem dX12_order_70 : decode cX12_order 70 = .ok (.lcmp, 1) := by decide +kernel
theorem dX12_order_71 : decode cX12_order 71 = .ok (.ifCond .ne 31, 3) := by decide +kernel
theorem dX12_order_74 : decode cX12_order 74 = .ok (.lload 5, 2) := by decide +kernel
theorem dX12_order_76 : decode cX12_order 76 = .ok (.iload 9, 2) := by decide +kernel
theorem dX12_order_78 : decode cX12_order 78 = .ok (.lshr, 1) := by decide +kernel
theorem dX12_order_79 : decode cX12_order 79 = .ok (.lconst 1, 1) := by decide +kernel
theorem dX12_order_80 : decode cX12_order 80 = .ok (.land, 1) := by decide +kernel
theorem dX12_order_81 : decode cX12_order 81 = .ok (.lconst 0, 1) := by decide +kernel
theorem dX12_order_82 : decode cX12_order 82 = .ok (.lcmp, 1) := by decide +kernel
theorem dX12_order_83 : decode cX12_order 83 = .ok (.ifCond .ne 19, 3) := by decide +kernel
theorem dX12_order_86 : decode cX12_order 86 = .ok (.aload_n 0, 1) := by decide +kernel
theorem dX12_order_87 : decode cX12_order 87 = .ok (.iload 9, 2) := by decide +kernel
theorem dX12_order_89 : decode cX12_order 89 = .ok (.lload_n 3, 1) := by decide +kernel
theorem dX12_order_90 : decode cX12_order 90 = .ok (.lload 5, 2) := by decide +kernel
theorem dX12_order_92 : decode cX12_order 92 = .ok (.invokevirtual 478, 3) := by decide +kernel
theorem dX12_order_95 : decode cX12_order 95 = .ok (.ifCond .ne 7, 3) := by decide +kernel
theorem dX12_order_98 : decode cX12_order 98 = .ok (.iload 9, 2) := by decide +kernel
theorem dX12_order_100 : decode cX12_order 100 = .ok (.istore 8, 2) := by decide +kernel
theorem dX12_order_102 : decode cX12_order 102 = .ok (.iinc 9 (-1), 3) := by decide +kernel
theorem dX12_order_105 : decode cX12_order 105 = .ok (.goto (-47), 3) := by decide +kernel
theorem dX12_order_108 : decode cX12_order 108 = .ok (.iload 8, 2) := by decide +kernel
theorem dX12_order_110 : decode cX12_order 110 = .ok (.iconst (-1), 1) := by decide +kernel
theorem dX12_order_111 : decode cX12_order 111 = .ok (.if_icmp .eq 9, 3) := by decide +kernel
theorem dX12_order_114 : decode cX12_order 114 = .ok (.iload 7, 2) := by decide +kernel
theorem dX12_order_116 : decode cX12_order 116 = .ok (.iload_n 2, 1) := by decide +kernel
theorem dX12_order_117 : decode cX12_order 117 = .ok (.if_icmp .ne 6, 3) := by decide +kernel
theorem dX12_order_120 : decode cX12_order 120 = .ok (.iload 8, 2) := by decide +kernel
theorem dX12_order_122 : decode cX12_order 122 = .ok (.ireturn, 1) := by decide +kernel
theorem dX12_order_123 : decode cX12_order 123 = .ok (.lload 5, 2) := by decide +kernel
theorem dX12_order_125 : decode cX12_order 125 = .ok (.lconst 1, 1) := by decide +kernel
theorem dX12_order_126 : decode cX12_order 126 = .ok (.iload 8, 2) := by decide +kernel
theorem dX12_order_128 : decode cX12_order 128 = .ok (.lshl, 1) := by decide +kernel
theorem dX12_order_129 : decode cX12_order 129 = .ok (.lor, 1) := by decide +kernel
theorem dX12_order_130 : decode cX12_order 130 = .ok (.lstore 5, 2) := by decide +kernel
theorem dX12_order_132 : decode cX12_order 132 = .ok (.iinc 7 1, 3) := by decide +kernel
theorem dX12_order_135 : decode cX12_order 135 = .ok (.goto (-95), 3) := by decide +kernel
theorem dX12_order_138 : decode cX12_order 138 = .ok (.iconst (-1), 1) := by decide +kernel
theorem dX12_order_139 : decode cX12_order 139 = .ok (.ireturn, 1) := by decide +kernel
def lpX12_order_58 (v1 : Int32) (v2 : Int32) (v3 : Int64) (v5 : Int64) (v7 : Int32) : Nat → Int32 → Int32 → ST → (Int32 → Int32 → ST → Option (Int32 × ST)) → Option (Int32 × ST)
  | 0, _, _, _, _ => none
  | n + 1, v8, v9, k, cont => if v9 < 0 then cont v8 v9 k else if ((j_lshr v3 v9) &&& 1) = 1 then if ((j_lshr v5 v9) &&& 1) = 0 then ob (fX12_isBarred k v9 v3 v5) fun r15 k16 => if r15 = true then lpX12_order_58 v1 v2 v3 v5 v7 n v8 (v9 + (-1)) k16 cont else lpX12_order_58 v1 v2 v3 v5 v7 n v9 (v9 + (-1)) k16 cont else lpX12_order_58 v1 v2 v3 v5 v7 n v8 (v9 + (-1)) k cont else lpX12_order_58 v1 v2 v3 v5 v7 n v8 (v9 + (-1)) k cont
def lpX12_order_40 (v1 : Int32) (v2 : Int32) (v3 : Int64) : Nat → Int64 → Int32 → ST → (Int64 → Int32 → ST → Option (Int32 × ST)) → Option (Int32 × ST)
  | 0, _, _, _, _ => none
  | n + 1, v5, v7, k, cont => if 40 ≤ v7 then cont v5 v7 k else lpX12_order_58 v1 v2 v3 v5 v7 FU (-1) ((gI k 11 13) - 1) k fun y19 y20 k21 => if y19 = (-1) then some (y19, k21) else if v7 = v2 then some (y19, k21) else lpX12_order_40 v1 v2 v3 n (v5 ||| (j_lshl 1 y19)) (v7 + 1) k21 cont
set_option maxRecDepth 20000 in
theorem zlpX12_order_58 {p : Program} {l : Launch} {e : Env} {R : Room} {s : State} {m : MethodId} {args : Array Value} {below : List Frame} {meth : Method} {c : Code} {g : GT} (hC : HC p s m args meth c cX12_order 10 RX12 (some .int) g) (hR : 3 ≤ R.frames ∧ 74 ≤ R.locals)  (v1 : Int32) (v2 : Int32) (v3 : Int64) (v5 : Int64) (v7 : Int32) {cont : Int32 → Int32 → ST → Option (Int32 × ST)} (hk : ∀ (v8 : Int32) (v9 : Int32) (k : ST), ZF p l e R s m args below meth c g TM voI 10 k 108 [(0, .ref (g.2.1 11)), (1, .int v1), (2, .int v2), (3, .long v3), (5, .long v5), (7, .int v7), (8, .int v8), (9, .int v9)] [] (cont v8 v9 k)) : ∀ (n : Nat) (v8 : Int32) (v9 : Int32) (k : ST), ZF p l e R s m args below meth c g TM voI 10 k 58 [(0, .ref (g.2.1 11)), (1, .int v1), (2, .int v2), (3, .long v3), (5, .long v5), (7, .int v7), (8, .int v8), (9, .int v9)] [] (lpX12_order_58 v1 v2 v3 v5 v7 n v8 v9 k cont) := by
  intro n
  induction n with
  | zero => intros; exact zf_none
  | succ n ih =>
    intro v8 v9 k
    rw [lpX12_order_58]
    refine zf_iload hC dX12_order_58 7 rfl ?_
    refine zf_if_lt hC (tgt := 108) dX12_order_60 (by decide) (fun h12 => ?_) (fun h12 => ?_)
    · refine zf_lv (LV' := [(0, .ref (g.2.1 11)), (1, .int v1), (2, .int v2), (3, .long v3), (5, .long v5), (7, .int v7), (8, .int v8), (9, .int v9)]) [0, 1, 2, 3, 4, 5, 6, 7] rfl ?_
      exact hk v8 v9 k
    · refine zf_lload_n hC dX12_order_63 rfl 3 rfl ?_
      refine zf_iload hC dX12_order_64 7 rfl ?_
      refine zf_lshr hC dX12_order_66 ?_
      refine zf_lconst hC (v := 1) dX12_order_67 rfl ?_
      refine zf_land hC dX12_order_68 ?_
      refine zf_lconst hC (v := 1) dX12_order_69 rfl ?_
      refine zf_lcmp_ne hC (tgt := 102) dX12_order_70 dX12_order_71 (by decide) (fun h13 => ?_) (fun h13 => ?_)
      · refine zf_lload hC dX12_order_74 4 rfl ?_
        refine zf_iload hC dX12_order_76 7 rfl ?_
        refine zf_lshr hC dX12_order_78 ?_
        refine zf_lconst hC (v := 1) dX12_order_79 rfl ?_
        refine zf_land hC dX12_order_80 ?_
        refine zf_lconst hC (v := 0) dX12_order_81 rfl ?_
        refine zf_lcmp_ne hC (tgt := 102) dX12_order_82 dX12_order_83 (by decide) (fun h14 => ?_) (fun h14 => ?_)
        · refine zf_aload_n hC dX12_order_86 rfl 0 rfl ?_
          refine zf_iload hC dX12_order_87 7 rfl ?_
          refine zf_lload_n hC dX12_order_89 rfl 3 rfl ?_
          refine zf_lload hC dX12_order_90 4 rfl ?_
          refine zf_callV hC (c_X12_isBarred l g v9 v3 v5) mt_X12_isBarred wd_1908 sp_90 ci_11 ic_11 wd_1906 rfl (rm_le hR rfl) rfl rfl (rest := []) rfl (Nat.le_of_ble_eq_true rfl) dX12_order_92 (fun r15 k16 h17 => ?_)
          refine zf_ifb_ne hC (tgt := 102) dX12_order_95 (by decide) (fun h18 => ?_) (fun h18 => ?_)
          · refine zf_iinc hC (q := 7) (v := v9 + (-1)) (LV' := [(9, .int (v9 + (-1))), (0, .ref (g.2.1 11)), (1, .int v1), (2, .int v2), (3, .long v3), (5, .long v5), (7, .int v7), (8, .int v8)]) dX12_order_102 rfl rfl (by decide) rfl ?_
            refine zf_goto hC (tgt := 58) dX12_order_105 (by decide) ?_
            refine zf_lv (LV' := [(0, .ref (g.2.1 11)), (1, .int v1), (2, .int v2), (3, .long v3), (5, .long v5), (7, .int v7), (8, .int v8), (9, .int (v9 + (-1)))]) [1, 2, 3, 4, 5, 6, 7, 0] rfl ?_
            exact ih v8 (v9 + (-1)) k16
          · refine zf_iload hC dX12_order_98 7 rfl ?_
            refine zf_istore hC (LV' := [(8, .int v9), (0, .ref (g.2.1 11)), (1, .int v1), (2, .int v2), (3, .long v3), (5, .long v5), (7, .int v7), (9, .int v9)]) dX12_order_100 (by decide) rfl ?_
            refine zf_iinc hC (q := 7) (v := v9 + (-1)) (LV' := [(9, .int (v9 + (-1))), (8, .int v9), (0, .ref (g.2.1 11)), (1, .int v1), (2, .int v2), (3, .long v3), (5, .long v5), (7, .int v7)]) dX12_order_102 rfl rfl (by decide) rfl ?_
            refine zf_goto hC (tgt := 58) dX12_order_105 (by decide) ?_
            refine zf_lv (LV' := [(0, .ref (g.2.1 11)), (1, .int v1), (2, .int v2), (3, .long v3), (5, .long v5), (7, .int v7), (8, .int v9), (9, .int (v9 + (-1)))]) [2, 3, 4, 5, 6, 7, 1, 0] rfl ?_
            exact ih v9 (v9 + (-1)) k16
        · refine zf_iinc hC (q := 7) (v := v9 + (-1)) (LV' := [(9, .int (v9 + (-1))), (0, .ref (g.2.1 11)), (1, .int v1), (2, .int v2), (3, .long v3), (5, .long v5), (7, .int v7), (8, .int v8)]) dX12_order_102 rfl rfl (by decide) rfl ?_
          refine zf_goto hC (tgt := 58) dX12_order_105 (by decide) ?_
          refine zf_lv (LV' := [(0, .ref (g.2.1 11)), (1, .int v1), (2, .int v2), (3, .long v3), (5, .long v5), (7, .int v7), (8, .int v8), (9, .int (v9 + (-1)))]) [1, 2, 3, 4, 5, 6, 7, 0] rfl ?_
          exact ih v8 (v9 + (-1)) k
      · refine zf_iinc hC (q := 7) (v := v9 + (-1)) (LV' := [(9, .int (v9 + (-1))), (0, .ref (g.2.1 11)), (1, .int v1), (2, .int v2), (3, .long v3), (5, .long v5), (7, .int v7), (8, .int v8)]) dX12_order_102 rfl rfl (by decide) rfl ?_
        refine zf_goto hC (tgt := 58) dX12_order_105 (by decide) ?_
        refine zf_lv (LV' := [(0, .ref (g.2.1 11)), (1, .int v1), (2, .int v2), (3, .long v3), (5, .long v5), (7, .int v7), (8, .int v8), (9, .int (v9 + (-1)))]) [1, 2, 3, 4, 5, 6, 7, 0] rfl ?_
        exact ih v8 (v9 + (-1)) k
set_option maxRecDepth 20000 in
theorem zlpX12_order_40 {p : Program} {l : Launch} {e : Env} {R : Room} {s : State} {m : MethodId} {args : Array Value} {below : List Frame} {meth : Method} {c : Code} {g : GT} (hC : HC p s m args meth c cX12_order 10 RX12 (some .int) g) (hR : 3 ≤ R.frames ∧ 74 ≤ R.locals)  (v1 : Int32) (v2 : Int32) (v3 : Int64) {cont : Int64 → Int32 → ST → Option (Int32 × ST)} (hk : ∀ (v5 : Int64) (v7 : Int32) (k : ST), ZF p l e R s m args below meth c g TM voI 10 k 138 [(0, .ref (g.2.1 11)), (1, .int v1), (2, .int v2), (3, .long v3), (5, .long v5), (7, .int v7)] [] (cont v5 v7 k)) : ∀ (n : Nat) (v5 : Int64) (v7 : Int32) (k : ST), ZF p l e R s m args below meth c g TM voI 10 k 40 [(0, .ref (g.2.1 11)), (1, .int v1), (2, .int v2), (3, .long v3), (5, .long v5), (7, .int v7)] [] (lpX12_order_40 v1 v2 v3 n v5 v7 k cont) := by
  intro n
  induction n with
  | zero => intros; exact zf_none
  | succ n ih =>
    intro v5 v7 k
    rw [lpX12_order_40]
    refine zf_iload hC dX12_order_40 5 rfl ?_
    refine zf_bipush hC (v := 40) dX12_order_42 rfl ?_
    refine zf_icmp_ge hC (tgt := 138) dX12_order_44 (by decide) (fun h11 => ?_) (fun h11 => ?_)
    · refine zf_lv (LV' := [(0, .ref (g.2.1 11)), (1, .int v1), (2, .int v2), (3, .long v3), (5, .long v5), (7, .int v7)]) [0, 1, 2, 3, 4, 5] rfl ?_
      exact hk v5 v7 k
    · refine zf_iconst hC (v := (-1)) dX12_order_47 rfl ?_
      refine zf_istore hC (LV' := [(8, .int (-1)), (0, .ref (g.2.1 11)), (1, .int v1), (2, .int v2), (3, .long v3), (5, .long v5), (7, .int v7)]) dX12_order_48 (by decide) rfl ?_
      refine zf_aload_n hC dX12_order_50 rfl 1 rfl ?_
      refine gf_1243 hC dX12_order_51 ?_
      refine zf_iconst hC (v := 1) dX12_order_54 rfl ?_
      refine zf_isub hC dX12_order_55 ?_
      refine zf_istore hC (LV' := [(9, .int ((gI k 11 13) - 1)), (8, .int (-1)), (0, .ref (g.2.1 11)), (1, .int v1), (2, .int v2), (3, .long v3), (5, .long v5), (7, .int v7)]) dX12_order_56 (by decide) rfl ?_
      refine zf_lv (LV' := [(0, .ref (g.2.1 11)), (1, .int v1), (2, .int v2), (3, .long v3), (5, .long v5), (7, .int v7), (8, .int (-1)), (9, .int ((gI k 11 13) - 1))]) [2, 3, 4, 5, 6, 7, 1, 0] rfl ?_
      refine zlpX12_order_58 hC hR v1 v2 v3 v5 v7 (fun y19 y20 k21 => ?_) FU (-1) ((gI k 11 13) - 1) k
      refine zf_iload hC dX12_order_108 6 rfl ?_
      refine zf_iconst hC (v := (-1)) dX12_order_110 rfl ?_
      refine zf_icmp_eq hC (tgt := 120) dX12_order_111 (by decide) (fun h22 => ?_) (fun h22 => ?_)
      · refine zf_iload hC dX12_order_120 6 rfl ?_
        exact zf_iret hC rfl dX12_order_122
      · refine zf_iload hC dX12_order_114 5 rfl ?_
        refine zf_iload_n hC dX12_order_116 rfl 2 rfl ?_
        refine zf_icmp_ne hC (tgt := 123) dX12_order_117 (by decide) (fun h23 => ?_) (fun h23 => ?_)
        · refine zf_iload hC dX12_order_120 6 rfl ?_
          exact zf_iret hC rfl dX12_order_122
        · refine zf_lload hC dX12_order_123 4 rfl ?_
          refine zf_lconst hC (v := 1) dX12_order_125 rfl ?_
          refine zf_iload hC dX12_order_126 6 rfl ?_
          refine zf_lshl hC dX12_order_128 ?_
          refine zf_lor hC dX12_order_129 ?_
          refine zf_lstore hC (LV' := [(5, .long (v5 ||| (j_lshl 1 y19))), (0, .ref (g.2.1 11)), (1, .int v1), (2, .int v2), (3, .long v3), (7, .int v7), (8, .int y19), (9, .int y20)]) dX12_order_130 (by decide) rfl ?_
          refine zf_iinc hC (q := 5) (v := v7 + 1) (LV' := [(7, .int (v7 + 1)), (5, .long (v5 ||| (j_lshl 1 y19))), (0, .ref (g.2.1 11)), (1, .int v1), (2, .int v2), (3, .long v3), (8, .int y19), (9, .int y20)]) dX12_order_132 rfl rfl (by decide) rfl ?_
          refine zf_goto hC (tgt := 40) dX12_order_135 (by decide) ?_
          refine zf_lv (LV' := [(0, .ref (g.2.1 11)), (1, .int v1), (2, .int v2), (3, .long v3), (5, .long (v5 ||| (j_lshl 1 y19))), (7, .int (v7 + 1))]) [2, 3, 4, 5, 1, 0] rfl ?_
          exact ih (v5 ||| (j_lshl 1 y19)) (v7 + 1) k21
def fX12_order (k : ST) (a0 : Int32) (a1 : Int32) : Option (Int32 × ST) := nm (sI k 11 0 0) fun k1 => ob (fX12_isFall k1 a0) fun r2 k3 => if r2 = true then if 0 ≤ a1 then ck (inb a0 20) (ob (fX12_gets k3 (gA k3 152 (ix a0)) (gI k3 11 1)) fun r8 k9 => lpX12_order_40 a0 a1 r8 FU 0 0 k9 fun y24 y25 k26 => some ((-1), k26)) else some ((-1), k3) else some ((-1), k3)
set_option maxRecDepth 20000 in
theorem c_X12_order (l : Launch) (g : GT) (a0 : Int32) (a1 : Int32) : CN l yX12_order cX12_order 10 (some .int) { frames := 3, cells := 0, slots := 0, locals := 74 } g TM voI [.ref (g.2.1 11), .int a0, .int a1] (fun k => fX12_order k a0 a1) := by
  refine cn_of (by decide) (Nat.le_of_ble_eq_true rfl) ?_
  intro p e s m args below meth c hC k
  have hC : HC p s m args meth c cX12_order 10 RX12 (some .int) g := hC
  have hR : 3 ≤ ({ frames := 3, cells := 0, slots := 0, locals := 74 } : Room).frames ∧ 74 ≤ ({ frames := 3, cells := 0, slots := 0, locals := 74 } : Room).locals := ⟨Nat.le_refl _, Nat.le_refl _⟩
  show ZF p l e _ s m args below meth c g TM voI 10 k 0 [(0, .ref (g.2.1 11)), (1, .int a0), (2, .int a1)] [] (fX12_order k a0 a1)
  unfold fX12_order
  refine zf_aload_n hC dX12_order_0 rfl 0 rfl ?_
  refine zf_iconst hC (v := 0) dX12_order_1 rfl ?_
  refine pf_1230 hC dX12_order_2 ?_
  refine zf_nmk (fun k1 => ?_)
  refine zf_aload_n hC dX12_order_5 rfl 0 rfl ?_
  refine zf_iload_n hC dX12_order_6 rfl 1 rfl ?_
  refine zf_callV hC (c_X12_isFall l g a0) mt_X12_isFall wd_1861 sp_84 ci_11 ic_11 wd_1859 rfl (rm_le hR rfl) rfl rfl (rest := []) rfl (Nat.le_of_ble_eq_true rfl) dX12_order_7 (fun r2 k3 h4 => ?_)
  refine zf_ifb_eq hC (tgt := 17) dX12_order_10 (by decide) (fun h5 => ?_) (fun h5 => ?_)
  · refine zf_iload_n hC dX12_order_13 rfl 2 rfl ?_
    refine zf_if_ge hC (tgt := 19) dX12_order_14 (by decide) (fun h6 => ?_) (fun h6 => ?_)
    · refine zf_aload_n hC dX12_order_19 rfl 0 rfl ?_
      refine zf_aload_n hC dX12_order_20 rfl 0 rfl ?_
      refine gf_1310 hC dX12_order_21 ?_
      refine zf_iload_n hC dX12_order_24 rfl 1 rfl ?_
      refine zf_iald hC (j := 152) ia_152 rfl rfl dX12_order_25 (fun h7 => ?_)
      refine zf_aload_n hC dX12_order_26 rfl 0 rfl ?_
      refine gf_1231 hC dX12_order_27 ?_
      refine zf_callV hC (c_X12_gets l g (gA k3 152 (ix a0)) (gI k3 11 1)) mt_X12_gets wd_1649 sp_57 ci_11 ic_11 wd_1647 rfl (rm_le hR rfl) rfl rfl (rest := []) rfl (Nat.le_of_ble_eq_true rfl) dX12_order_30 (fun r8 k9 h10 => ?_)
      refine zf_lstore_n hC (LV' := [(3, .long r8), (0, .ref (g.2.1 11)), (1, .int a0), (2, .int a1)]) dX12_order_33 rfl (by decide) rfl ?_
      refine zf_lconst hC (v := 0) dX12_order_34 rfl ?_
      refine zf_lstore hC (LV' := [(5, .long 0), (3, .long r8), (0, .ref (g.2.1 11)), (1, .int a0), (2, .int a1)]) dX12_order_35 (by decide) rfl ?_
      refine zf_iconst hC (v := 0) dX12_order_37 rfl ?_
      refine zf_istore hC (LV' := [(7, .int 0), (5, .long 0), (3, .long r8), (0, .ref (g.2.1 11)), (1, .int a0), (2, .int a1)]) dX12_order_38 (by decide) rfl ?_
      refine zf_lv (LV' := [(0, .ref (g.2.1 11)), (1, .int a0), (2, .int a1), (3, .long r8), (5, .long 0), (7, .int 0)]) [3, 4, 5, 2, 1, 0] rfl ?_
      refine zlpX12_order_40 hC hR a0 a1 r8 (fun y24 y25 k26 => ?_) FU 0 0 k9
      refine zf_iconst hC (v := (-1)) dX12_order_138 rfl ?_
      exact zf_iret hC rfl dX12_order_139
    · refine zf_iconst hC (v := (-1)) dX12_order_17 rfl ?_
      exact zf_iret hC rfl dX12_order_18
  · refine zf_iconst hC (v := (-1)) dX12_order_17 rfl ?_
    exact zf_iret hC rfl dX12_order_18
/-! LifeKeysModel.count -/
theorem dX12_count_0 : decode cX12_count 0 = .ok (.aload_n 0, 1) := by decide +kernel
theorem dX12_count_1 : decode cX12_count 1 = .ok (.iconst 0, 1) := by decide +kernel
theorem dX12_count_2 : decode cX12_count 2 = .ok (.putfield 181, 3) := by decide +kernel
theorem dX12_count_5 : decode cX12_count 5 = .ok (.iconst 0, 1) := by decide +kernel
theorem dX12_count_6 : decode cX12_count 6 = .ok (.istore_n 2, 1) := by decide +kernel
theorem dX12_count_7 : decode cX12_count 7 = .ok (.iload_n 1, 1) := by decide +kernel
theorem dX12_count_8 : decode cX12_count 8 = .ok (.tableswitch 235 0 13 #[72, 77, 82, 87, 92, 130, 135, 140, 145, 150, 185, 190, 195, 200], 72) := by decide +kernel
theorem dX12_count_80 : decode cX12_count 80 = .ok (.aload_n 0, 1) := by decide +kernel
theorem dX12_count_81 : decode cX12_count 81 = .ok (.getfield 185, 3) := by decide +kernel
theorem dX12_count_84 : decode cX12_count 84 = .ok (.ireturn, 1) := by decide +kernel
theorem dX12_count_85 : decode cX12_count 85 = .ok (.aload_n 0, 1) := by decide +kernel
theorem dX12_count_86 : decode cX12_count 86 = .ok (.getfield 196, 3) := by decide +kernel
theorem dX12_count_89 : decode cX12_count 89 = .ok (.ireturn, 1) := by decide +kernel
theorem dX12_count_90 : decode cX12_count 90 = .ok (.aload_n 0, 1) := by decide +kernel
theorem dX12_count_91 : decode cX12_count 91 = .ok (.getfield 199, 3) := by decide +kernel
theorem dX12_count_94 : decode cX12_count 94 = .ok (.ireturn, 1) := by decide +kernel
theorem dX12_count_95 : decode cX12_count 95 = .ok (.aload_n 0, 1) := by decide +kernel
theorem dX12_count_96 : decode cX12_count 96 = .ok (.getfield 243, 3) := by decide +kernel
theorem dX12_count_99 : decode cX12_count 99 = .ok (.ireturn, 1) := by decide +kernel
theorem dX12_count_100 : decode cX12_count 100 = .ok (.iconst 0, 1) := by decide +kernel
theorem dX12_count_101 : decode cX12_count 101 = .ok (.istore_n 3, 1) := by decide +kernel
theorem dX12_count_102 : decode cX12_count 102 = .ok (.iload_n 3, 1) := by decide +kernel
theorem dX12_count_103 : decode cX12_count 103 = .ok (.aload_n 0, 1) := by decide +kernel
theorem dX12_count_104 : decode cX12_count 104 = .ok (.getfield 236, 3) := by decide +kernel
theorem dX12_count_107 : decode cX12_count 107 = .ok (.if_icmp .ge 29, 3) := by decide +kernel
theorem dX12_count_110 : decode cX12_count 110 = .ok (.iload_n 2, 1) := by decide +kernel
theorem dX12_count_111 : decode cX12_count 111 = .ok (.aload_n 0, 1) := by decide +kernel
theorem dX12_count_112 : decode cX12_count 112 = .ok (.getfield 54, 3) := by decide +kernel
theorem dX12_count_115 : decode cX12_count 115 = .ok (.iload_n 3, 1) := by decide +kernel
theorem dX12_count_116 : decode cX12_count 116 = .ok (.iaload, 1) := by decide +kernel
theorem dX12_count_117 : decode cX12_count 117 = .ok (.sipush 9999, 3) := by decide +kernel
theorem dX12_count_120 : decode cX12_count 120 = .ok (.if_icmp .ne 7, 3) := by decide +kernel
theorem dX12_count_123 : decode cX12_count 123 = .ok (.iconst 1, 1) := by decide +kernel
theorem dX12_count_124 : decode cX12_count 124 = .ok (.goto 4, 3) := by decide +kernel
theorem dX12_count_127 : decode cX12_count 127 = .ok (.iconst 0, 1) := by decide +kernel
theorem dX12_count_128 : decode cX12_count 128 = .ok (.iadd, 1) := by decide +kernel
theorem dX12_count_129 : decode cX12_count 129 = .ok (.istore_n 2, 1) := by decide +kernel
theorem dX12_count_130 : decode cX12_count 130 = .ok (.iinc 3 1, 3) := by decide +kernel
theorem dX12_count_133 : decode cX12_count 133 = .ok (.goto (-31), 3) := by decide +kernel
theorem dX12_count_136 : decode cX12_count 136 = .ok (.iload_n 2, 1) := by decide +kernel
theorem dX12_count_137 : decode cX12_count 137 = .ok (.ireturn, 1) := by decide +kernel
theorem dX12_count_138 : decode cX12_count 138 = .ok (.aload_n 0, 1) := by decide +kernel
theorem dX12_count_139 : decode cX12_count 139 = .ok (.getfield 400, 3) := by decide +kernel
theorem dX12_count_142 : decode cX12_count 142 = .ok (.ireturn, 1) := by decide +kernel
theorem dX12_count_143 : decode cX12_count 143 = .ok (.aload_n 0, 1) := by decide +kernel
theorem dX12_count_144 : decode cX12_count 144 = .ok (.getfield 406, 3) := by decide +kernel
theorem dX12_count_147 : decode cX12_count 147 = .ok (.ireturn, 1) := by decide +kernel
theorem dX12_count_148 : decode cX12_count 148 = .ok (.aload_n 0, 1) := by decide +kernel
theorem dX12_count_149 : decode cX12_count 149 = .ok (.getfield 375, 3) := by decide +kernel
theorem dX12_count_152 : decode cX12_count 152 = .ok (.ireturn, 1) := by decide +kernel
theorem dX12_count_153 : decode cX12_count 153 = .ok (.aload_n 0, 1) := by decide +kernel
theorem dX12_count_154 : decode cX12_count 154 = .ok (.getfield 428, 3) := by decide +kernel
theorem dX12_count_157 : decode cX12_count 157 = .ok (.ireturn, 1) := by decide +kernel
theorem dX12_count_158 : decode cX12_count 158 = .ok (.iconst 0, 1) := by decide +kernel
theorem dX12_count_159 : decode cX12_count 159 = .ok (.istore_n 3, 1) := by decide +kernel
theorem dX12_count_160 : decode cX12_count 160 = .ok (.iload_n 3, 1) := by decide +kernel
theorem dX12_count_161 : decode cX12_count 161 = .ok (.aload_n 0, 1) := by decide +kernel
theorem dX12_count_162 : decode cX12_count 162 = .ok (.getfield 444, 3) := by decide +kernel
theorem dX12_count_165 : decode cX12_count 165 = .ok (.if_icmp .ge 26, 3) := by decide +kernel
theorem dX12_count_168 : decode cX12_count 168 = .ok (.iload_n 2, 1) := by decide +kernel
theorem dX12_count_169 : decode cX12_count 169 = .ok (.aload_n 0, 1) := by decide +kernel
theorem dX12_count_170 : decode cX12_count 170 = .ok (.getfield 172, 3) := by decide +kernel
theorem dX12_count_173 : decode cX12_count 173 = .ok (.iload_n 3, 1) := by decide +kernel
theorem dX12_count_174 : decode cX12_count 174 = .ok (.baload, 1) := by decide +kernel
theorem dX12_count_175 : decode cX12_count 175 = .ok (.ifCond .eq 7, 3) := by decide +kernel
theorem dX12_count_178 : decode cX12_count 178 = .ok (.iconst 0, 1) := by decide +kernel
theorem dX12_count_179 : decode cX12_count 179 = .ok (.goto 4, 3) := by decide +kernel
theorem dX12_count_182 : decode cX12_count 182 = .ok (.iconst 1, 1) := by decide +kernel
theorem dX12_count_183 : decode cX12_count 183 = .ok (.iadd, 1) := by decide +kernel
theorem dX12_count_184 : decode cX12_count 184 = .ok (.istore_n 2, 1) := by decide +kernel
theorem dX12_count_185 : decode cX12_count 185 = .ok (.iinc 3 1, 3) := by decide +kernel
theorem dX12_count_188 : decode cX12_count 188 = .ok (.goto (-28), 3) := by decide +kernel
theorem dX12_count_191 : decode cX12_count 191 = .ok (.iload_n 2, 1) := by decide +kernel
theorem dX12_count_192 : decode cX12_count 192 = .ok (.ireturn, 1) := by decide +kernel
theorem dX12_count_193 : decode cX12_count 193 = .ok (.aload_n 0, 1) := by decide +kernel
theorem dX12_count_194 : decode cX12_count 194 = .ok (.getfield 447, 3) := by decide +kernel
theorem dX12_count_197 : decode cX12_count 197 = .ok (.ireturn, 1) := by decide +kernel
theorem dX12_count_198 : decode cX12_count 198 = .ok (.aload_n 0, 1) := by decide +kernel
theorem dX12_count_199 : decode cX12_count 199 = .ok (.getfield 205, 3) := by decide +kernel
theorem dX12_count_202 : decode cX12_count 202 = .ok (.ireturn, 1) := by decide +kernel
theorem dX12_count_203 : decode cX12_count 203 = .ok (.aload_n 0, 1) := by decide +kernel
theorem dX12_count_204 : decode cX12_count 204 = .ok (.getfield 277, 3) := by decide +kernel
theorem dX12_count_207 : decode cX12_count 207 = .ok (.ireturn, 1) := by decide +kernel
theorem dX12_count_208 : decode cX12_count 208 = .ok (.iconst 0, 1) := by decide +kernel
theorem dX12_count_209 : decode cX12_count 209 = .ok (.istore_n 3, 1) := by decide +kernel
theorem dX12_count_210 : decode cX12_count 210 = .ok (.iload_n 3, 1) := by decide +kernel
theorem dX12_count_211 : decode cX12_count 211 = .ok (.aload_n 0, 1) := by decide +kernel
theorem dX12_count_212 : decode cX12_count 212 = .ok (.getfield 406, 3) := by decide +kernel
theorem dX12_count_215 : decode cX12_count 215 = .ok (.if_icmp .ge 26, 3) := by decide +kernel
theorem dX12_count_218 : decode cX12_count 218 = .ok (.iload_n 2, 1) := by decide +kernel
theorem dX12_count_219 : decode cX12_count 219 = .ok (.aload_n 0, 1) := by decide +kernel
theorem dX12_count_220 : decode cX12_count 220 = .ok (.getfield 121, 3) := by decide +kernel
theorem dX12_count_223 : decode cX12_count 223 = .ok (.iload_n 3, 1) := by decide +kernel
theorem dX12_count_224 : decode cX12_count 224 = .ok (.baload, 1) := by decide +kernel
theorem dX12_count_225 : decode cX12_count 225 = .ok (.ifCond .eq 7, 3) := by decide +kernel
theorem dX12_count_228 : decode cX12_count 228 = .ok (.iconst 1, 1) := by decide +kernel
theorem dX12_count_229 : decode cX12_count 229 = .ok (.goto 4, 3) := by decide +kernel
theorem dX12_count_232 : decode cX12_count 232 = .ok (.iconst 0, 1) := by decide +kernel
theorem dX12_count_233 : decode cX12_count 233 = .ok (.iadd, 1) := by decide +kernel
theorem dX12_count_234 : decode cX12_count 234 = .ok (.istore_n 2, 1) := by decide +kernel
theorem dX12_count_235 : decode cX12_count 235 = .ok (.iinc 3 1, 3) := by decide +kernel
theorem dX12_count_238 : decode cX12_count 238 = .ok (.goto (-28), 3) := by decide +kernel
theorem dX12_count_241 : decode cX12_count 241 = .ok (.iload_n 2, 1) := by decide +kernel
theorem dX12_count_242 : decode cX12_count 242 = .ok (.ireturn, 1) := by decide +kernel
theorem dX12_count_243 : decode cX12_count 243 = .ok (.iconst (-1), 1) := by decide +kernel
theorem dX12_count_244 : decode cX12_count 244 = .ok (.ireturn, 1) := by decide +kernel
def lpX12_count_102 (v1 : Int32) : Nat → Int32 → Int32 → ST → (Int32 → Int32 → ST → Option (Int32 × ST)) → Option (Int32 × ST)
  | 0, _, _, _, _ => none
  | n + 1, v2, v3, k, cont => if (gI k 11 29) ≤ v3 then cont v2 v3 k else ck (inb v3 40) (if (gA k 113 (ix v3)) = 9999 then lpX12_count_102 v1 n (v2 + 1) (v3 + 1) k cont else lpX12_count_102 v1 n (v2 + 0) (v3 + 1) k cont)
def lpX12_count_160 (v1 : Int32) : Nat → Int32 → Int32 → ST → (Int32 → Int32 → ST → Option (Int32 × ST)) → Option (Int32 × ST)
  | 0, _, _, _, _ => none
  | n + 1, v2, v3, k, cont => if (gI k 11 79) ≤ v3 then cont v2 v3 k else ck (inb v3 40) (if (gA k 151 (ix v3)) = 0 then lpX12_count_160 v1 n (v2 + 1) (v3 + 1) k cont else lpX12_count_160 v1 n (v2 + 0) (v3 + 1) k cont)
def lpX12_count_210 (v1 : Int32) : Nat → Int32 → Int32 → ST → (Int32 → Int32 → ST → Option (Int32 × ST)) → Option (Int32 × ST)
  | 0, _, _, _, _ => none
  | n + 1, v2, v3, k, cont => if (gI k 11 50) ≤ v3 then cont v2 v3 k else ck (inb v3 40) (if (gA k 135 (ix v3)) = 0 then lpX12_count_210 v1 n (v2 + 0) (v3 + 1) k cont else lpX12_count_210 v1 n (v2 + 1) (v3 + 1) k cont)
set_option maxRecDepth 20000 in
theorem zlpX12_count_102 {p : Program} {l : Launch} {e : Env} {R : Room} {s : State} {m : MethodId} {args : Array Value} {below : List Frame} {meth : Method} {c : Code} {g : GT} (hC : HC p s m args meth c cX12_count 4 RX12 (some .int) g) (hR : 0 ≤ R.frames ∧ 0 ≤ R.locals)  (v1 : Int32) {cont : Int32 → Int32 → ST → Option (Int32 × ST)} (hk : ∀ (v2 : Int32) (v3 : Int32) (k : ST), ZF p l e R s m args below meth c g TM voI 4 k 136 [(0, .ref (g.2.1 11)), (1, .int v1), (2, .int v2), (3, .int v3)] [] (cont v2 v3 k)) : ∀ (n : Nat) (v2 : Int32) (v3 : Int32) (k : ST), ZF p l e R s m args below meth c g TM voI 4 k 102 [(0, .ref (g.2.1 11)), (1, .int v1), (2, .int v2), (3, .int v3)] [] (lpX12_count_102 v1 n v2 v3 k cont) := by
  intro n
  induction n with
  | zero => intros; exact zf_none
  | succ n ih =>
    intro v2 v3 k
    rw [lpX12_count_102]
    refine zf_iload_n hC dX12_count_102 rfl 3 rfl ?_
    refine zf_aload_n hC dX12_count_103 rfl 0 rfl ?_
    refine gf_1259 hC dX12_count_104 ?_
    refine zf_icmp_ge hC (tgt := 136) dX12_count_107 (by decide) (fun h7 => ?_) (fun h7 => ?_)
    · refine zf_lv (LV' := [(0, .ref (g.2.1 11)), (1, .int v1), (2, .int v2), (3, .int v3)]) [0, 1, 2, 3] rfl ?_
      exact hk v2 v3 k
    · refine zf_iload_n hC dX12_count_110 rfl 2 rfl ?_
      refine zf_aload_n hC dX12_count_111 rfl 0 rfl ?_
      refine gf_1250 hC dX12_count_112 ?_
      refine zf_iload_n hC dX12_count_115 rfl 3 rfl ?_
      refine zf_iald hC (j := 113) ia_113 rfl rfl dX12_count_116 (fun h8 => ?_)
      refine zf_sipush hC (v := 9999) dX12_count_117 rfl ?_
      refine zf_icmp_ne hC (tgt := 127) dX12_count_120 (by decide) (fun h9 => ?_) (fun h9 => ?_)
      · refine zf_iconst hC (v := 1) dX12_count_123 rfl ?_
        refine zf_goto hC (tgt := 128) dX12_count_124 (by decide) ?_
        refine zf_iadd hC dX12_count_128 ?_
        refine zf_istore_n hC (LV' := [(2, .int (v2 + 1)), (0, .ref (g.2.1 11)), (1, .int v1), (3, .int v3)]) dX12_count_129 rfl (by decide) rfl ?_
        refine zf_iinc hC (q := 3) (v := v3 + 1) (LV' := [(3, .int (v3 + 1)), (2, .int (v2 + 1)), (0, .ref (g.2.1 11)), (1, .int v1)]) dX12_count_130 rfl rfl (by decide) rfl ?_
        refine zf_goto hC (tgt := 102) dX12_count_133 (by decide) ?_
        refine zf_lv (LV' := [(0, .ref (g.2.1 11)), (1, .int v1), (2, .int (v2 + 1)), (3, .int (v3 + 1))]) [2, 3, 1, 0] rfl ?_
        exact ih (v2 + 1) (v3 + 1) k
      · refine zf_iconst hC (v := 0) dX12_count_127 rfl ?_
        refine zf_iadd hC dX12_count_128 ?_
        refine zf_istore_n hC (LV' := [(2, .int (v2 + 0)), (0, .ref (g.2.1 11)), (1, .int v1), (3, .int v3)]) dX12_count_129 rfl (by decide) rfl ?_
        refine zf_iinc hC (q := 3) (v := v3 + 1) (LV' := [(3, .int (v3 + 1)), (2, .int (v2 + 0)), (0, .ref (g.2.1 11)), (1, .int v1)]) dX12_count_130 rfl rfl (by decide) rfl ?_
        refine zf_goto hC (tgt := 102) dX12_count_133 (by decide) ?_
        refine zf_lv (LV' := [(0, .ref (g.2.1 11)), (1, .int v1), (2, .int (v2 + 0)), (3, .int (v3 + 1))]) [2, 3, 1, 0] rfl ?_
        exact ih (v2 + 0) (v3 + 1) k
set_option maxRecDepth 20000 in
theorem zlpX12_count_160 {p : Program} {l : Launch} {e : Env} {R : Room} {s : State} {m : MethodId} {args : Array Value} {below : List Frame} {meth : Method} {c : Code} {g : GT} (hC : HC p s m args meth c cX12_count 4 RX12 (some .int) g) (hR : 0 ≤ R.frames ∧ 0 ≤ R.locals)  (v1 : Int32) {cont : Int32 → Int32 → ST → Option (Int32 × ST)} (hk : ∀ (v2 : Int32) (v3 : Int32) (k : ST), ZF p l e R s m args below meth c g TM voI 4 k 191 [(0, .ref (g.2.1 11)), (1, .int v1), (2, .int v2), (3, .int v3)] [] (cont v2 v3 k)) : ∀ (n : Nat) (v2 : Int32) (v3 : Int32) (k : ST), ZF p l e R s m args below meth c g TM voI 4 k 160 [(0, .ref (g.2.1 11)), (1, .int v1), (2, .int v2), (3, .int v3)] [] (lpX12_count_160 v1 n v2 v3 k cont) := by
  intro n
  induction n with
  | zero => intros; exact zf_none
  | succ n ih =>
    intro v2 v3 k
    rw [lpX12_count_160]
    refine zf_iload_n hC dX12_count_160 rfl 3 rfl ?_
    refine zf_aload_n hC dX12_count_161 rfl 0 rfl ?_
    refine gf_1309 hC dX12_count_162 ?_
    refine zf_icmp_ge hC (tgt := 191) dX12_count_165 (by decide) (fun h18 => ?_) (fun h18 => ?_)
    · refine zf_lv (LV' := [(0, .ref (g.2.1 11)), (1, .int v1), (2, .int v2), (3, .int v3)]) [0, 1, 2, 3] rfl ?_
      exact hk v2 v3 k
    · refine zf_iload_n hC dX12_count_168 rfl 2 rfl ?_
      refine zf_aload_n hC dX12_count_169 rfl 0 rfl ?_
      refine gf_1306 hC dX12_count_170 ?_
      refine zf_iload_n hC dX12_count_173 rfl 3 rfl ?_
      refine zf_zald hC (j := 151) ia_151 rfl rfl dX12_count_174 (fun h19 => ?_)
      refine zf_if_eq hC (tgt := 182) dX12_count_175 (by decide) (fun h20 => ?_) (fun h20 => ?_)
      · refine zf_iconst hC (v := 1) dX12_count_182 rfl ?_
        refine zf_iadd hC dX12_count_183 ?_
        refine zf_istore_n hC (LV' := [(2, .int (v2 + 1)), (0, .ref (g.2.1 11)), (1, .int v1), (3, .int v3)]) dX12_count_184 rfl (by decide) rfl ?_
        refine zf_iinc hC (q := 3) (v := v3 + 1) (LV' := [(3, .int (v3 + 1)), (2, .int (v2 + 1)), (0, .ref (g.2.1 11)), (1, .int v1)]) dX12_count_185 rfl rfl (by decide) rfl ?_
        refine zf_goto hC (tgt := 160) dX12_count_188 (by decide) ?_
        refine zf_lv (LV' := [(0, .ref (g.2.1 11)), (1, .int v1), (2, .int (v2 + 1)), (3, .int (v3 + 1))]) [2, 3, 1, 0] rfl ?_
        exact ih (v2 + 1) (v3 + 1) k
      · refine zf_iconst hC (v := 0) dX12_count_178 rfl ?_
        refine zf_goto hC (tgt := 183) dX12_count_179 (by decide) ?_
        refine zf_iadd hC dX12_count_183 ?_
        refine zf_istore_n hC (LV' := [(2, .int (v2 + 0)), (0, .ref (g.2.1 11)), (1, .int v1), (3, .int v3)]) dX12_count_184 rfl (by decide) rfl ?_
        refine zf_iinc hC (q := 3) (v := v3 + 1) (LV' := [(3, .int (v3 + 1)), (2, .int (v2 + 0)), (0, .ref (g.2.1 11)), (1, .int v1)]) dX12_count_185 rfl rfl (by decide) rfl ?_
        refine zf_goto hC (tgt := 160) dX12_count_188 (by decide) ?_
        refine zf_lv (LV' := [(0, .ref (g.2.1 11)), (1, .int v1), (2, .int (v2 + 0)), (3, .int (v3 + 1))]) [2, 3, 1, 0] rfl ?_
        exact ih (v2 + 0) (v3 + 1) k
set_option maxRecDepth 20000 in
theorem zlpX12_count_210 {p : Program} {l : Launch} {e : Env} {R : Room} {s : State} {m : MethodId} {args : Array Value} {below : List Frame} {meth : Method} {c : Code} {g : GT} (hC : HC p s m args meth c cX12_count 4 RX12 (some .int) g) (hR : 0 ≤ R.frames ∧ 0 ≤ R.locals)  (v1 : Int32) {cont : Int32 → Int32 → ST → Option (Int32 × ST)} (hk : ∀ (v2 : Int32) (v3 : Int32) (k : ST), ZF p l e R s m args below meth c g TM voI 4 k 241 [(0, .ref (g.2.1 11)), (1, .int v1), (2, .int v2), (3, .int v3)] [] (cont v2 v3 k)) : ∀ (n : Nat) (v2 : Int32) (v3 : Int32) (k : ST), ZF p l e R s m args below meth c g TM voI 4 k 210 [(0, .ref (g.2.1 11)), (1, .int v1), (2, .int v2), (3, .int v3)] [] (lpX12_count_210 v1 n v2 v3 k cont) := by
  intro n
  induction n with
  | zero => intros; exact zf_none
  | succ n ih =>
    intro v2 v3 k
    rw [lpX12_count_210]
    refine zf_iload_n hC dX12_count_210 rfl 3 rfl ?_
    refine zf_aload_n hC dX12_count_211 rfl 0 rfl ?_
    refine gf_1280 hC dX12_count_212 ?_
    refine zf_icmp_ge hC (tgt := 241) dX12_count_215 (by decide) (fun h28 => ?_) (fun h28 => ?_)
    · refine zf_lv (LV' := [(0, .ref (g.2.1 11)), (1, .int v1), (2, .int v2), (3, .int v3)]) [0, 1, 2, 3] rfl ?_
      exact hk v2 v3 k
    · refine zf_iload_n hC dX12_count_218 rfl 2 rfl ?_
      refine zf_aload_n hC dX12_count_219 rfl 0 rfl ?_
      refine gf_1275 hC dX12_count_220 ?_
      refine zf_iload_n hC dX12_count_223 rfl 3 rfl ?_
      refine zf_zald hC (j := 135) ia_135 rfl rfl dX12_count_224 (fun h29 => ?_)
      refine zf_if_eq hC (tgt := 232) dX12_count_225 (by decide) (fun h30 => ?_) (fun h30 => ?_)
      · refine zf_iconst hC (v := 0) dX12_count_232 rfl ?_
        refine zf_iadd hC dX12_count_233 ?_
        refine zf_istore_n hC (LV' := [(2, .int (v2 + 0)), (0, .ref (g.2.1 11)), (1, .int v1), (3, .int v3)]) dX12_count_234 rfl (by decide) rfl ?_
        refine zf_iinc hC (q := 3) (v := v3 + 1) (LV' := [(3, .int (v3 + 1)), (2, .int (v2 + 0)), (0, .ref (g.2.1 11)), (1, .int v1)]) dX12_count_235 rfl rfl (by decide) rfl ?_
        refine zf_goto hC (tgt := 210) dX12_count_238 (by decide) ?_
        refine zf_lv (LV' := [(0, .ref (g.2.1 11)), (1, .int v1), (2, .int (v2 + 0)), (3, .int (v3 + 1))]) [2, 3, 1, 0] rfl ?_
        exact ih (v2 + 0) (v3 + 1) k
      · refine zf_iconst hC (v := 1) dX12_count_228 rfl ?_
        refine zf_goto hC (tgt := 233) dX12_count_229 (by decide) ?_
        refine zf_iadd hC dX12_count_233 ?_
        refine zf_istore_n hC (LV' := [(2, .int (v2 + 1)), (0, .ref (g.2.1 11)), (1, .int v1), (3, .int v3)]) dX12_count_234 rfl (by decide) rfl ?_
        refine zf_iinc hC (q := 3) (v := v3 + 1) (LV' := [(3, .int (v3 + 1)), (2, .int (v2 + 1)), (0, .ref (g.2.1 11)), (1, .int v1)]) dX12_count_235 rfl rfl (by decide) rfl ?_
        refine zf_goto hC (tgt := 210) dX12_count_238 (by decide) ?_
        refine zf_lv (LV' := [(0, .ref (g.2.1 11)), (1, .int v1), (2, .int (v2 + 1)), (3, .int (v3 + 1))]) [2, 3, 1, 0] rfl ?_
        exact ih (v2 + 1) (v3 + 1) k
def fX12_count (k : ST) (a0 : Int32) : Option (Int32 × ST) := nm (sI k 11 0 0) fun k1 => if a0 = 0 then some (gI k1 11 1, k1) else if a0 = 1 then some (gI k1 11 12, k1) else if a0 = 2 then some (gI k1 11 13, k1) else if a0 = 3 then some (gI k1 11 30, k1) else if a0 = 4 then lpX12_count_102 a0 FU 0 0 k1 fun y10 y11 k12 => some (y10, k12) else if a0 = 5 then some (gI k1 11 48, k1) else if a0 = 6 then some (gI k1 11 50, k1) else if a0 = 7 then some (gI k1 11 51, k1) else if a0 = 8 then some (gI k1 11 77, k1) else if a0 = 9 then lpX12_count_160 a0 FU 0 0 k1 fun y21 y22 k23 => some (y21, k23) else if a0 = 10 then some (gI k1 11 82, k1) else if a0 = 11 then some (gI k1 11 16, k1) else if a0 = 12 then some (gI k1 11 31, k1) else if a0 = 13 then lpX12_count_210 a0 FU 0 0 k1 fun y31 y32 k33 => some (y31, k33) else some ((-1), k1)
set_option maxRecDepth 20000 in
theorem c_X12_count (l : Launch) (g : GT) (a0 : Int32) : CN l yX12_count cX12_count 4 (some .int) { frames := 0, cells := 0, slots := 0, locals := 0 } g TM voI [.ref (g.2.1 11), .int a0] (fun k => fX12_count k a0) := by
  refine cn_of (by decide) (Nat.le_of_ble_eq_true rfl) ?_
  intro p e s m args below meth c hC k
  have hC : HC p s m args meth c cX12_count 4 RX12 (some .int) g := hC
  have hR : 0 ≤ ({ frames := 0, cells := 0, slots := 0, locals := 0 } : Room).frames ∧ 0 ≤ ({ frames := 0, cells := 0, slots := 0, locals := 0 } : Room).locals := ⟨Nat.le_refl _, Nat.le_refl _⟩
  show ZF p l e _ s m args below meth c g TM voI 4 k 0 [(0, .ref (g.2.1 11)), (1, .int a0)] [] (fX12_count k a0)
  unfold fX12_count
  refine zf_aload_n hC dX12_count_0 rfl 0 rfl ?_
  refine zf_iconst hC (v := 0) dX12_count_1 rfl ?_
  refine pf_1230 hC dX12_count_2 ?_
  refine zf_nmk (fun k1 => ?_)
  refine zf_iconst hC (v := 0) dX12_count_5 rfl ?_
  refine zf_istore_n hC (LV' := [(2, .int 0), (0, .ref (g.2.1 11)), (1, .int a0)]) dX12_count_6 rfl (by decide) rfl ?_
  refine zf_iload_n hC dX12_count_7 rfl 2 rfl ?_
  refine zf_ite (fun h2 => ?_) (fun h2 => ?_)
  · refine zf_tabIn hC (tgt := 80) (off := 72) dX12_count_8 (by rw [h2]; decide) (by rw [h2]; decide) (by rw [h2]; rfl) (by decide) ?_
    refine zf_aload_n hC dX12_count_80 rfl 1 rfl ?_
    refine gf_1231 hC dX12_count_81 ?_
    exact zf_iret hC rfl dX12_count_84
  refine zf_ite (fun h3 => ?_) (fun h3 => ?_)
  · refine zf_tabIn hC (tgt := 85) (off := 77) dX12_count_8 (by rw [h3]; decide) (by rw [h3]; decide) (by rw [h3]; rfl) (by decide) ?_
    refine zf_aload_n hC dX12_count_85 rfl 1 rfl ?_
    refine gf_1242 hC dX12_count_86 ?_
    exact zf_iret hC rfl dX12_count_89
  refine zf_ite (fun h4 => ?_) (fun h4 => ?_)
  · refine zf_tabIn hC (tgt := 90) (off := 82) dX12_count_8 (by rw [h4]; decide) (by rw [h4]; decide) (by rw [h4]; rfl) (by decide) ?_
    refine zf_aload_n hC dX12_count_90 rfl 1 rfl ?_
    refine gf_1243 hC dX12_count_91 ?_
    exact zf_iret hC rfl dX12_count_94
  refine zf_ite (fun h5 => ?_) (fun h5 => ?_)
  · refine zf_tabIn hC (tgt := 95) (off := 87) dX12_count_8 (by rw [h5]; decide) (by rw [h5]; decide) (by rw [h5]; rfl) (by decide) ?_
    refine zf_aload_n hC dX12_count_95 rfl 1 rfl ?_
    refine gf_1260 hC dX12_count_96 ?_
    exact zf_iret hC rfl dX12_count_99
  refine zf_ite (fun h6 => ?_) (fun h6 => ?_)
  · refine zf_tabIn hC (tgt := 100) (off := 92) dX12_count_8 (by rw [h6]; decide) (by rw [h6]; decide) (by rw [h6]; rfl) (by decide) ?_
    refine zf_iconst hC (v := 0) dX12_count_100 rfl ?_
    refine zf_istore_n hC (LV' := [(3, .int 0), (2, .int 0), (0, .ref (g.2.1 11)), (1, .int a0)]) dX12_count_101 rfl (by decide) rfl ?_
    refine zf_lv (LV' := [(0, .ref (g.2.1 11)), (1, .int a0), (2, .int 0), (3, .int 0)]) [2, 3, 1, 0] rfl ?_
    refine zlpX12_count_102 hC hR a0 (fun y10 y11 k12 => ?_) FU 0 0 k1
    refine zf_iload_n hC dX12_count_136 rfl 2 rfl ?_
    exact zf_iret hC rfl dX12_count_137
  refine zf_ite (fun h13 => ?_) (fun h13 => ?_)
  · refine zf_tabIn hC (tgt := 138) (off := 130) dX12_count_8 (by rw [h13]; decide) (by rw [h13]; decide) (by rw [h13]; rfl) (by decide) ?_
    refine zf_aload_n hC dX12_count_138 rfl 1 rfl ?_
    refine gf_1278 hC dX12_count_139 ?_
    exact zf_iret hC rfl dX12_count_142
  refine zf_ite (fun h14 => ?_) (fun h14 => ?_)
  · refine zf_tabIn hC (tgt := 143) (off := 135) dX12_count_8 (by rw [h14]; decide) (by rw [h14]; decide) (by rw [h14]; rfl) (by decide) ?_
    refine zf_aload_n hC dX12_count_143 rfl 1 rfl ?_
    refine gf_1280 hC dX12_count_144 ?_
    exact zf_iret hC rfl dX12_count_147
  refine zf_ite (fun h15 => ?_) (fun h15 => ?_)
  · refine zf_tabIn hC (tgt := 148) (off := 140) dX12_count_8 (by rw [h15]; decide) (by rw [h15]; decide) (by rw [h15]; rfl) (by decide) ?_
    refine zf_aload_n hC dX12_count_148 rfl 1 rfl ?_
    refine gf_1281 hC dX12_count_149 ?_
    exact zf_iret hC rfl dX12_count_152
  refine zf_ite (fun h16 => ?_) (fun h16 => ?_)
  · refine zf_tabIn hC (tgt := 153) (off := 145) dX12_count_8 (by rw [h16]; decide) (by rw [h16]; decide) (by rw [h16]; rfl) (by decide) ?_
    refine zf_aload_n hC dX12_count_153 rfl 1 rfl ?_
    refine gf_1307 hC dX12_count_154 ?_
    exact zf_iret hC rfl dX12_count_157
  refine zf_ite (fun h17 => ?_) (fun h17 => ?_)
  · refine zf_tabIn hC (tgt := 158) (off := 150) dX12_count_8 (by rw [h17]; decide) (by rw [h17]; decide) (by rw [h17]; rfl) (by decide) ?_
    refine zf_iconst hC (v := 0) dX12_count_158 rfl ?_
    refine zf_istore_n hC (LV' := [(3, .int 0), (2, .int 0), (0, .ref (g.2.1 11)), (1, .int a0)]) dX12_count_159 rfl (by decide) rfl ?_
    refine zf_lv (LV' := [(0, .ref (g.2.1 11)), (1, .int a0), (2, .int 0), (3, .int 0)]) [2, 3, 1, 0] rfl ?_
    refine zlpX12_count_160 hC hR a0 (fun y21 y22 k23 => ?_) FU 0 0 k1
    refine zf_iload_n hC dX12_count_191 rfl 2 rfl ?_
    exact zf_iret hC rfl dX12_count_192
  refine zf_ite (fun h24 => ?_) (fun h24 => ?_)
  · refine zf_tabIn hC (tgt := 193) (off := 185) dX12_count_8 (by rw [h24]; decide) (by rw [h24]; decide) (by rw [h24]; rfl) (by decide) ?_
    refine zf_aload_n hC dX12_count_193 rfl 1 rfl ?_
    refine gf_1312 hC dX12_count_194 ?_
    exact zf_iret hC rfl dX12_count_197
  refine zf_ite (fun h25 => ?_) (fun h25 => ?_)
  · refine zf_tabIn hC (tgt := 198) (off := 190) dX12_count_8 (by rw [h25]; decide) (by rw [h25]; decide) (by rw [h25]; rfl) (by decide) ?_
    refine zf_aload_n hC dX12_count_198 rfl 1 rfl ?_
    refine gf_1246 hC dX12_count_199 ?_
    exact zf_iret hC rfl dX12_count_202
  refine zf_ite (fun h26 => ?_) (fun h26 => ?_)
  · refine zf_tabIn hC (tgt := 203) (off := 195) dX12_count_8 (by rw [h26]; decide) (by rw [h26]; decide) (by rw [h26]; rfl) (by decide) ?_
    refine zf_aload_n hC dX12_count_203 rfl 1 rfl ?_
    refine gf_1261 hC dX12_count_204 ?_
    exact zf_iret hC rfl dX12_count_207
  refine zf_ite (fun h27 => ?_) (fun h27 => ?_)
  · refine zf_tabIn hC (tgt := 208) (off := 200) dX12_count_8 (by rw [h27]; decide) (by rw [h27]; decide) (by rw [h27]; rfl) (by decide) ?_
    refine zf_iconst hC (v := 0) dX12_count_208 rfl ?_
    refine zf_istore_n hC (LV' := [(3, .int 0), (2, .int 0), (0, .ref (g.2.1 11)), (1, .int a0)]) dX12_count_209 rfl (by decide) rfl ?_
    refine zf_lv (LV' := [(0, .ref (g.2.1 11)), (1, .int a0), (2, .int 0), (3, .int 0)]) [2, 3, 1, 0] rfl ?_
    refine zlpX12_count_210 hC hR a0 (fun y31 y32 k33 => ?_) FU 0 0 k1
    refine zf_iload_n hC dX12_count_241 rfl 2 rfl ?_
    exact zf_iret hC rfl dX12_count_242
  refine zf_tabOut hC (tgt := 243) dX12_count_8 (by have zh2 := lv_neT h2 (a := 0) rfl; have zh3 := lv_neT h3 (a := 1) rfl; have zh4 := lv_neT h4 (a := 2) rfl; have zh5 := lv_neT h5 (a := 3) rfl; have zh6 := lv_neT h6 (a := 4) rfl; have zh13 := lv_neT h13 (a := 5) rfl; have zh14 := lv_neT h14 (a := 6) rfl; have zh15 := lv_neT h15 (a := 7) rfl; have zh16 := lv_neT h16 (a := 8) rfl; have zh17 := lv_neT h17 (a := 9) rfl; have zh24 := lv_neT h24 (a := 10) rfl; have zh25 := lv_neT h25 (a := 11) rfl; have zh26 := lv_neT h26 (a := 12) rfl; have zh27 := lv_neT h27 (a := 13) rfl; omega) (by decide) ?_
  refine zf_iconst hC (v := (-1)) dX12_count_243 rfl ?_
  exact zf_iret hC rfl dX12_count_244
