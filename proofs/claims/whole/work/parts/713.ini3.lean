theorem dX8_init_0 : decode cX8_init 0 = .ok (.aload_n 0, 1) := by decide +kernel
theorem dX8_init_1 : decode cX8_init 1 = .ok (.invokespecial 1, 3) := by decide +kernel
theorem dX8_init_4 : decode cX8_init 4 = .ok (.aload_n 0, 1) := by decide +kernel
theorem dX8_init_5 : decode cX8_init 5 = .ok (.sipush 160, 3) := by decide +kernel
theorem dX8_init_8 : decode cX8_init 8 = .ok (.newarray .int, 2) := by decide +kernel
theorem dX8_init_10 : decode cX8_init 10 = .ok (.putfield 9, 3) := by decide +kernel
theorem dX8_init_13 : decode cX8_init 13 = .ok (.return_, 1) := by decide +kernel
theorem mt_X8_init : MT yX8_init cX8_init 1 none 0 := ⟨wd_33, wd_2, by decide +kernel, by decide +kernel, by decide +kernel⟩
theorem df_X8_init : ∀ k, k < 2 → defaultValue (tyX8 k) = dfV 7 k := by decide +kernel
theorem hv_8 (g : GT) : ∀ k, k < nfF 7 → (updV (dfV 7) 0 (.ref (g.2.1 55))) k = fval g.2.1 st_B 7 k
  | 0, _ => rfl
  | 1, _ => rfl
  | k + 2, h => absurd h (Nat.not_lt.mpr (Nat.le_add_left _ _))
set_option maxRecDepth 20000 in
theorem ini_8 (l : Launch) {g : GT} {N : Nat} (hN : AD g N) : INI l g st_B yX8_init cX8_init { frames := 1, cells := 1, slots := 160, locals := 12 } 7 1 1 160 [7] [43] := by
  refine ini_of (by decide) rfl ?_
  intro p e s m args below meth c hC hr hlocks hin hA
  have hAc : g.2.1 7 ≤ g.2.1 7 := Nat.le_refl _
  have hC : HI p s m args c cX8_init 1 RX8 g := hC
  rw [show g.2.1 7 + 1 = N + 4 by rw [hN 7 (by decide)]; rfl]
  refine zi_aload hC dX8_init_0 rfl 0 rfl ?_
  refine zi_obj hC wd_34 dX8_init_1 ⟨Nat.le_of_ble_eq_true rfl, Nat.le_of_ble_eq_true rfl⟩ ?_
  refine zi_aload hC dX8_init_4 rfl 0 rfl ?_
  refine zi_sipush hC (x := 160) dX8_init_5 rfl ?_
  refine zi_newa hC hA (j := 43) (len := 160) (atype := .int) 1 160 (by decide) rfl wd_44 (by decide) rfl (Nat.le_of_ble_eq_true rfl) (by rw [hN 55 (by decide)]; rfl) rfl rfl ⟨Nat.le_of_ble_eq_true rfl, Nat.le_of_ble_eq_true rfl⟩ (fun _ => rfl) dX8_init_8 ?_
  refine zi_putF hC cj_7 hAc hin rfl (f := 0) (by decide) wd_35 rfl (ty := (.array .int)) rfl rfl rfl dX8_init_10 ?_
  exact zi_ret hC hr hlocks (fun k hk => hv_8 g k hk) rfl rfl (by rw [hN 7 (by decide)]; rfl) dX8_init_13

theorem dX1_init_0 : decode cX1_init 0 = .ok (.aload_n 0, 1) := by decide +kernel
theorem dX1_init_1 : decode cX1_init 1 = .ok (.invokespecial 3, 3) := by decide +kernel
theorem dX1_init_4 : decode cX1_init 4 = .ok (.aload_n 0, 1) := by decide +kernel
theorem dX1_init_5 : decode cX1_init 5 = .ok (.bipush 40, 2) := by decide +kernel
theorem dX1_init_7 : decode cX1_init 7 = .ok (.newarray .int, 2) := by decide +kernel
theorem dX1_init_9 : decode cX1_init 9 = .ok (.putfield 11, 3) := by decide +kernel
theorem dX1_init_12 : decode cX1_init 12 = .ok (.aload_n 0, 1) := by decide +kernel
theorem dX1_init_13 : decode cX1_init 13 = .ok (.bipush 40, 2) := by decide +kernel
theorem dX1_init_15 : decode cX1_init 15 = .ok (.newarray .int, 2) := by decide +kernel
theorem dX1_init_17 : decode cX1_init 17 = .ok (.putfield 15, 3) := by decide +kernel
theorem dX1_init_20 : decode cX1_init 20 = .ok (.aload_n 0, 1) := by decide +kernel
theorem dX1_init_21 : decode cX1_init 21 = .ok (.bipush 40, 2) := by decide +kernel
theorem dX1_init_23 : decode cX1_init 23 = .ok (.newarray .int, 2) := by decide +kernel
theorem dX1_init_25 : decode cX1_init 25 = .ok (.putfield 18, 3) := by decide +kernel
theorem dX1_init_28 : decode cX1_init 28 = .ok (.aload_n 0, 1) := by decide +kernel
theorem dX1_init_29 : decode cX1_init 29 = .ok (.bipush 40, 2) := by decide +kernel
theorem dX1_init_31 : decode cX1_init 31 = .ok (.newarray .int, 2) := by decide +kernel
theorem dX1_init_33 : decode cX1_init 33 = .ok (.putfield 21, 3) := by decide +kernel
theorem dX1_init_36 : decode cX1_init 36 = .ok (.aload_n 0, 1) := by decide +kernel
theorem dX1_init_37 : decode cX1_init 37 = .ok (.bipush 40, 2) := by decide +kernel
theorem dX1_init_39 : decode cX1_init 39 = .ok (.newarray .int, 2) := by decide +kernel
theorem dX1_init_41 : decode cX1_init 41 = .ok (.putfield 24, 3) := by decide +kernel
theorem dX1_init_44 : decode cX1_init 44 = .ok (.aload_n 0, 1) := by decide +kernel
theorem dX1_init_45 : decode cX1_init 45 = .ok (.bipush 60, 2) := by decide +kernel
theorem dX1_init_47 : decode cX1_init 47 = .ok (.newarray .int, 2) := by decide +kernel
theorem dX1_init_49 : decode cX1_init 49 = .ok (.putfield 27, 3) := by decide +kernel
theorem dX1_init_52 : decode cX1_init 52 = .ok (.aload_n 0, 1) := by decide +kernel
theorem dX1_init_53 : decode cX1_init 53 = .ok (.bipush 60, 2) := by decide +kernel
theorem dX1_init_55 : decode cX1_init 55 = .ok (.newarray .int, 2) := by decide +kernel
theorem dX1_init_57 : decode cX1_init 57 = .ok (.putfield 30, 3) := by decide +kernel
theorem dX1_init_60 : decode cX1_init 60 = .ok (.aload_n 0, 1) := by decide +kernel
theorem dX1_init_61 : decode cX1_init 61 = .ok (.bipush 60, 2) := by decide +kernel
theorem dX1_init_63 : decode cX1_init 63 = .ok (.newarray .int, 2) := by decide +kernel
theorem dX1_init_65 : decode cX1_init 65 = .ok (.putfield 33, 3) := by decide +kernel
theorem dX1_init_68 : decode cX1_init 68 = .ok (.return_, 1) := by decide +kernel
theorem mt_X1_init : MT yX1_init cX1_init 1 none 0 := ⟨wd_49, wd_3, by decide +kernel, by decide +kernel, by decide +kernel⟩
theorem df_X1_init : ∀ k, k < 10 → defaultValue (tyX1 k) = dfV 0 k := by decide +kernel
theorem hv_1 (g : GT) : ∀ k, k < nfF 0 → (updV (updV (updV (updV (updV (updV (updV (updV (dfV 0) 1 (.ref (g.2.1 12))) 2 (.ref (g.2.1 13))) 3 (.ref (g.2.1 14))) 4 (.ref (g.2.1 15))) 5 (.ref (g.2.1 16))) 7 (.ref (g.2.1 17))) 8 (.ref (g.2.1 18))) 9 (.ref (g.2.1 19))) k = fval g.2.1 st_B 0 k
  | 0, _ => rfl
  | 1, _ => rfl
  | 2, _ => rfl
  | 3, _ => rfl
  | 4, _ => rfl
  | 5, _ => rfl
  | 6, _ => rfl
  | 7, _ => rfl
  | 8, _ => rfl
  | 9, _ => rfl
  | k + 10, h => absurd h (Nat.not_lt.mpr (Nat.le_add_left _ _))
set_option maxRecDepth 20000 in
theorem ini_1 (l : Launch) {g : GT} {N : Nat} (hN : AD g N) : INI l g st_B yX1_init cX1_init { frames := 1, cells := 8, slots := 380, locals := 12 } 0 8 8 380 [0] [7, 6, 5, 4, 3, 2, 1, 0] := by
  refine ini_of (by decide) rfl ?_
  intro p e s m args below meth c hC hr hlocks hin hA
  have hAc : g.2.1 0 ≤ g.2.1 0 := Nat.le_refl _
  have hC : HI p s m args c cX1_init 1 RX1 g := hC
  rw [show g.2.1 0 + 1 = N + 6 by rw [hN 0 (by decide)]; rfl]
  refine zi_aload hC dX1_init_0 rfl 0 rfl ?_
  refine zi_obj hC wd_50 dX1_init_1 ⟨Nat.le_of_ble_eq_true rfl, Nat.le_of_ble_eq_true rfl⟩ ?_
  refine zi_aload hC dX1_init_4 rfl 0 rfl ?_
  refine zi_bipush hC (x := 40) dX1_init_5 rfl ?_
  refine zi_newa hC hA (j := 0) (len := 40) (atype := .int) 1 40 (by decide) rfl wd_44 (by decide) rfl (Nat.le_of_ble_eq_true rfl) (by rw [hN 12 (by decide)]; rfl) rfl rfl ⟨Nat.le_of_ble_eq_true rfl, Nat.le_of_ble_eq_true rfl⟩ (fun _ => rfl) dX1_init_7 ?_
  refine zi_putF hC cj_0 hAc hin rfl (f := 1) (by decide) wd_54 rfl (ty := (.array .int)) rfl rfl rfl dX1_init_9 ?_
  refine zi_aload hC dX1_init_12 rfl 0 rfl ?_
  refine zi_bipush hC (x := 40) dX1_init_13 rfl ?_
  refine zi_newa hC hA (j := 1) (len := 40) (atype := .int) 2 80 (by decide) rfl wd_44 (by decide) rfl (Nat.le_of_ble_eq_true rfl) (by rw [hN 13 (by decide)]; rfl) rfl rfl ⟨Nat.le_of_ble_eq_true rfl, Nat.le_of_ble_eq_true rfl⟩ (fun _ => rfl) dX1_init_15 ?_
  refine zi_putF hC cj_0 hAc hin rfl (f := 2) (by decide) wd_56 rfl (ty := (.array .int)) rfl rfl rfl dX1_init_17 ?_
  refine zi_aload hC dX1_init_20 rfl 0 rfl ?_
  refine zi_bipush hC (x := 40) dX1_init_21 rfl ?_
  refine zi_newa hC hA (j := 2) (len := 40) (atype := .int) 3 120 (by decide) rfl wd_44 (by decide) rfl (Nat.le_of_ble_eq_true rfl) (by rw [hN 14 (by decide)]; rfl) rfl rfl ⟨Nat.le_of_ble_eq_true rfl, Nat.le_of_ble_eq_true rfl⟩ (fun _ => rfl) dX1_init_23 ?_
  refine zi_putF hC cj_0 hAc hin rfl (f := 3) (by decide) wd_59 rfl (ty := (.array .int)) rfl rfl rfl dX1_init_25 ?_
  refine zi_aload hC dX1_init_28 rfl 0 rfl ?_
  refine zi_bipush hC (x := 40) dX1_init_29 rfl ?_
  refine zi_newa hC hA (j := 3) (len := 40) (atype := .int) 4 160 (by decide) rfl wd_44 (by decide) rfl (Nat.le_of_ble_eq_true rfl) (by rw [hN 15 (by decide)]; rfl) rfl rfl ⟨Nat.le_of_ble_eq_true rfl, Nat.le_of_ble_eq_true rfl⟩ (fun _ => rfl) dX1_init_31 ?_
  refine zi_putF hC cj_0 hAc hin rfl (f := 4) (by decide) wd_62 rfl (ty := (.array .int)) rfl rfl rfl dX1_init_33 ?_
  refine zi_aload hC dX1_init_36 rfl 0 rfl ?_
  refine zi_bipush hC (x := 40) dX1_init_37 rfl ?_
  refine zi_newa hC hA (j := 4) (len := 40) (atype := .int) 5 200 (by decide) rfl wd_44 (by decide) rfl (Nat.le_of_ble_eq_true rfl) (by rw [hN 16 (by decide)]; rfl) rfl rfl ⟨Nat.le_of_ble_eq_true rfl, Nat.le_of_ble_eq_true rfl⟩ (fun _ => rfl) dX1_init_39 ?_
  refine zi_putF hC cj_0 hAc hin rfl (f := 5) (by decide) wd_64 rfl (ty := (.array .int)) rfl rfl rfl dX1_init_41 ?_
  refine zi_aload hC dX1_init_44 rfl 0 rfl ?_
  refine zi_bipush hC (x := 60) dX1_init_45 rfl ?_
  refine zi_newa hC hA (j := 5) (len := 60) (atype := .int) 6 260 (by decide) rfl wd_44 (by decide) rfl (Nat.le_of_ble_eq_true rfl) (by rw [hN 17 (by decide)]; rfl) rfl rfl ⟨Nat.le_of_ble_eq_true rfl, Nat.le_of_ble_eq_true rfl⟩ (fun _ => rfl) dX1_init_47 ?_
  refine zi_putF hC cj_0 hAc hin rfl (f := 7) (by decide) wd_67 rfl (ty := (.array .int)) rfl rfl rfl dX1_init_49 ?_
  refine zi_aload hC dX1_init_52 rfl 0 rfl ?_
  refine zi_bipush hC (x := 60) dX1_init_53 rfl ?_
  refine zi_newa hC hA (j := 6) (len := 60) (atype := .int) 7 320 (by decide) rfl wd_44 (by decide) rfl (Nat.le_of_ble_eq_true rfl) (by rw [hN 18 (by decide)]; rfl) rfl rfl ⟨Nat.le_of_ble_eq_true rfl, Nat.le_of_ble_eq_true rfl⟩ (fun _ => rfl) dX1_init_55 ?_
  refine zi_putF hC cj_0 hAc hin rfl (f := 8) (by decide) wd_68 rfl (ty := (.array .int)) rfl rfl rfl dX1_init_57 ?_
  refine zi_aload hC dX1_init_60 rfl 0 rfl ?_
  refine zi_bipush hC (x := 60) dX1_init_61 rfl ?_
  refine zi_newa hC hA (j := 7) (len := 60) (atype := .int) 8 380 (by decide) rfl wd_44 (by decide) rfl (Nat.le_of_ble_eq_true rfl) (by rw [hN 19 (by decide)]; rfl) rfl rfl ⟨Nat.le_of_ble_eq_true rfl, Nat.le_of_ble_eq_true rfl⟩ (fun _ => rfl) dX1_init_63 ?_
  refine zi_putF hC cj_0 hAc hin rfl (f := 9) (by decide) wd_69 rfl (ty := (.array .int)) rfl rfl rfl dX1_init_65 ?_
  exact zi_ret hC hr hlocks (fun k hk => hv_1 g k hk) rfl rfl (by rw [hN 0 (by decide)]; rfl) dX1_init_68

theorem dX10_init_0 : decode cX10_init 0 = .ok (.aload_n 0, 1) := by decide +kernel
theorem dX10_init_1 : decode cX10_init 1 = .ok (.invokespecial 3, 3) := by decide +kernel
theorem dX10_init_4 : decode cX10_init 4 = .ok (.aload_n 0, 1) := by decide +kernel
theorem dX10_init_5 : decode cX10_init 5 = .ok (.bipush 12, 2) := by decide +kernel
theorem dX10_init_7 : decode cX10_init 7 = .ok (.newarray .long, 2) := by decide +kernel
theorem dX10_init_9 : decode cX10_init 9 = .ok (.putfield 9, 3) := by decide +kernel
theorem dX10_init_12 : decode cX10_init 12 = .ok (.aload_n 0, 1) := by decide +kernel
theorem dX10_init_13 : decode cX10_init 13 = .ok (.sipush 512, 3) := by decide +kernel
theorem dX10_init_16 : decode cX10_init 16 = .ok (.newarray .int, 2) := by decide +kernel
theorem dX10_init_18 : decode cX10_init 18 = .ok (.putfield 15, 3) := by decide +kernel
theorem dX10_init_21 : decode cX10_init 21 = .ok (.aload_n 0, 1) := by decide +kernel
theorem dX10_init_22 : decode cX10_init 22 = .ok (.sipush 512, 3) := by decide +kernel
theorem dX10_init_25 : decode cX10_init 25 = .ok (.newarray .int, 2) := by decide +kernel
theorem dX10_init_27 : decode cX10_init 27 = .ok (.putfield 19, 3) := by decide +kernel
theorem dX10_init_30 : decode cX10_init 30 = .ok (.aload_n 0, 1) := by decide +kernel
theorem dX10_init_31 : decode cX10_init 31 = .ok (.sipush 512, 3) := by decide +kernel
theorem dX10_init_34 : decode cX10_init 34 = .ok (.newarray .int, 2) := by decide +kernel
theorem dX10_init_36 : decode cX10_init 36 = .ok (.putfield 22, 3) := by decide +kernel
theorem dX10_init_39 : decode cX10_init 39 = .ok (.aload_n 0, 1) := by decide +kernel
theorem dX10_init_40 : decode cX10_init 40 = .ok (.bipush 40, 2) := by decide +kernel
theorem dX10_init_42 : decode cX10_init 42 = .ok (.newarray .int, 2) := by decide +kernel
theorem dX10_init_44 : decode cX10_init 44 = .ok (.putfield 25, 3) := by decide +kernel
theorem dX10_init_47 : decode cX10_init 47 = .ok (.aload_n 0, 1) := by decide +kernel
theorem dX10_init_48 : decode cX10_init 48 = .ok (.bipush 40, 2) := by decide +kernel
theorem dX10_init_50 : decode cX10_init 50 = .ok (.newarray .int, 2) := by decide +kernel
theorem dX10_init_52 : decode cX10_init 52 = .ok (.putfield 28, 3) := by decide +kernel
theorem dX10_init_55 : decode cX10_init 55 = .ok (.aload_n 0, 1) := by decide +kernel
theorem dX10_init_56 : decode cX10_init 56 = .ok (.bipush 40, 2) := by decide +kernel
theorem dX10_init_58 : decode cX10_init 58 = .ok (.newarray .int, 2) := by decide +kernel
theorem dX10_init_60 : decode cX10_init 60 = .ok (.putfield 31, 3) := by decide +kernel
theorem dX10_init_63 : decode cX10_init 63 = .ok (.aload_n 0, 1) := by decide +kernel
theorem dX10_init_64 : decode cX10_init 64 = .ok (.bipush 40, 2) := by decide +kernel
theorem dX10_init_66 : decode cX10_init 66 = .ok (.newarray .int, 2) := by decide +kernel
theorem dX10_init_68 : decode cX10_init 68 = .ok (.putfield 34, 3) := by decide +kernel
theorem dX10_init_71 : decode cX10_init 71 = .ok (.return_, 1) := by decide +kernel
theorem mt_X10_init : MT yX10_init cX10_init 1 none 0 := ⟨wd_95, wd_4, by decide +kernel, by decide +kernel, by decide +kernel⟩
theorem df_X10_init : ∀ k, k < 10 → defaultValue (tyX10 k) = dfV 9 k := by decide +kernel
theorem hv_10 (g : GT) : ∀ k, k < nfF 9 → (updV (updV (updV (updV (updV (updV (updV (updV (dfV 9) 0 (.ref (g.2.1 61))) 2 (.ref (g.2.1 62))) 3 (.ref (g.2.1 63))) 4 (.ref (g.2.1 64))) 6 (.ref (g.2.1 65))) 7 (.ref (g.2.1 66))) 8 (.ref (g.2.1 67))) 9 (.ref (g.2.1 68))) k = fval g.2.1 st_B 9 k
  | 0, _ => rfl
  | 1, _ => rfl
  | 2, _ => rfl
  | 3, _ => rfl
  | 4, _ => rfl
  | 5, _ => rfl
  | 6, _ => rfl
  | 7, _ => rfl
  | 8, _ => rfl
  | 9, _ => rfl
  | k + 10, h => absurd h (Nat.not_lt.mpr (Nat.le_add_left _ _))
set_option maxRecDepth 20000 in
theorem ini_10 (l : Launch) {g : GT} {N : Nat} (hN : AD g N) : INI l g st_B yX10_init cX10_init { frames := 1, cells := 8, slots := 1708, locals := 12 } 9 8 8 1708 [9] [56, 55, 54, 53, 52, 51, 50, 49] := by
  refine ini_of (by decide) rfl ?_
  intro p e s m args below meth c hC hr hlocks hin hA
  have hAc : g.2.1 9 ≤ g.2.1 9 := Nat.le_refl _
  have hC : HI p s m args c cX10_init 1 RX10 g := hC
  rw [show g.2.1 9 + 1 = N + 15 by rw [hN 9 (by decide)]; rfl]
  refine zi_aload hC dX10_init_0 rfl 0 rfl ?_
  refine zi_obj hC wd_96 dX10_init_1 ⟨Nat.le_of_ble_eq_true rfl, Nat.le_of_ble_eq_true rfl⟩ ?_
  refine zi_aload hC dX10_init_4 rfl 0 rfl ?_
  refine zi_bipush hC (x := 12) dX10_init_5 rfl ?_
  refine zi_newa hC hA (j := 49) (len := 12) (atype := .long) 1 12 (by decide) rfl wd_131 (by decide) rfl (Nat.le_of_ble_eq_true rfl) (by rw [hN 61 (by decide)]; rfl) rfl rfl ⟨Nat.le_of_ble_eq_true rfl, Nat.le_of_ble_eq_true rfl⟩ (fun _ => rfl) dX10_init_7 ?_
  refine zi_putF hC cj_9 hAc hin rfl (f := 0) (by decide) wd_97 rfl (ty := (.array .long)) rfl rfl rfl dX10_init_9 ?_
  refine zi_aload hC dX10_init_12 rfl 0 rfl ?_
  refine zi_sipush hC (x := 512) dX10_init_13 rfl ?_
  refine zi_newa hC hA (j := 50) (len := 512) (atype := .int) 2 524 (by decide) rfl wd_44 (by decide) rfl (Nat.le_of_ble_eq_true rfl) (by rw [hN 62 (by decide)]; rfl) rfl rfl ⟨Nat.le_of_ble_eq_true rfl, Nat.le_of_ble_eq_true rfl⟩ (fun _ => rfl) dX10_init_16 ?_
  refine zi_putF hC cj_9 hAc hin rfl (f := 2) (by decide) wd_99 rfl (ty := (.array .int)) rfl rfl rfl dX10_init_18 ?_
  refine zi_aload hC dX10_init_21 rfl 0 rfl ?_
  refine zi_sipush hC (x := 512) dX10_init_22 rfl ?_
  refine zi_newa hC hA (j := 51) (len := 512) (atype := .int) 3 1036 (by decide) rfl wd_44 (by decide) rfl (Nat.le_of_ble_eq_true rfl) (by rw [hN 63 (by decide)]; rfl) rfl rfl ⟨Nat.le_of_ble_eq_true rfl, Nat.le_of_ble_eq_true rfl⟩ (fun _ => rfl) dX10_init_25 ?_
  refine zi_putF hC cj_9 hAc hin rfl (f := 3) (by decide) wd_100 rfl (ty := (.array .int)) rfl rfl rfl dX10_init_27 ?_
  refine zi_aload hC dX10_init_30 rfl 0 rfl ?_
  refine zi_sipush hC (x := 512) dX10_init_31 rfl ?_
  refine zi_newa hC hA (j := 52) (len := 512) (atype := .int) 4 1548 (by decide) rfl wd_44 (by decide) rfl (Nat.le_of_ble_eq_true rfl) (by rw [hN 64 (by decide)]; rfl) rfl rfl ⟨Nat.le_of_ble_eq_true rfl, Nat.le_of_ble_eq_true rfl⟩ (fun _ => rfl) dX10_init_34 ?_
  refine zi_putF hC cj_9 hAc hin rfl (f := 4) (by decide) wd_101 rfl (ty := (.array .int)) rfl rfl rfl dX10_init_36 ?_
  refine zi_aload hC dX10_init_39 rfl 0 rfl ?_
  refine zi_bipush hC (x := 40) dX10_init_40 rfl ?_
  refine zi_newa hC hA (j := 53) (len := 40) (atype := .int) 5 1588 (by decide) rfl wd_44 (by decide) rfl (Nat.le_of_ble_eq_true rfl) (by rw [hN 65 (by decide)]; rfl) rfl rfl ⟨Nat.le_of_ble_eq_true rfl, Nat.le_of_ble_eq_true rfl⟩ (fun _ => rfl) dX10_init_42 ?_
  refine zi_putF hC cj_9 hAc hin rfl (f := 6) (by decide) wd_104 rfl (ty := (.array .int)) rfl rfl rfl dX10_init_44 ?_
  refine zi_aload hC dX10_init_47 rfl 0 rfl ?_
  refine zi_bipush hC (x := 40) dX10_init_48 rfl ?_
  refine zi_newa hC hA (j := 54) (len := 40) (atype := .int) 6 1628 (by decide) rfl wd_44 (by decide) rfl (Nat.le_of_ble_eq_true rfl) (by rw [hN 66 (by decide)]; rfl) rfl rfl ⟨Nat.le_of_ble_eq_true rfl, Nat.le_of_ble_eq_true rfl⟩ (fun _ => rfl) dX10_init_50 ?_
  refine zi_putF hC cj_9 hAc hin rfl (f := 7) (by decide) wd_106 rfl (ty := (.array .int)) rfl rfl rfl dX10_init_52 ?_
  refine zi_aload hC dX10_init_55 rfl 0 rfl ?_
  refine zi_bipush hC (x := 40) dX10_init_56 rfl ?_
  refine zi_newa hC hA (j := 55) (len := 40) (atype := .int) 7 1668 (by decide) rfl wd_44 (by decide) rfl (Nat.le_of_ble_eq_true rfl) (by rw [hN 67 (by decide)]; rfl) rfl rfl ⟨Nat.le_of_ble_eq_true rfl, Nat.le_of_ble_eq_true rfl⟩ (fun _ => rfl) dX10_init_58 ?_
  refine zi_putF hC cj_9 hAc hin rfl (f := 8) (by decide) wd_108 rfl (ty := (.array .int)) rfl rfl rfl dX10_init_60 ?_
  refine zi_aload hC dX10_init_63 rfl 0 rfl ?_
  refine zi_bipush hC (x := 40) dX10_init_64 rfl ?_
  refine zi_newa hC hA (j := 56) (len := 40) (atype := .int) 8 1708 (by decide) rfl wd_44 (by decide) rfl (Nat.le_of_ble_eq_true rfl) (by rw [hN 68 (by decide)]; rfl) rfl rfl ⟨Nat.le_of_ble_eq_true rfl, Nat.le_of_ble_eq_true rfl⟩ (fun _ => rfl) dX10_init_66 ?_
  refine zi_putF hC cj_9 hAc hin rfl (f := 9) (by decide) wd_109 rfl (ty := (.array .int)) rfl rfl rfl dX10_init_68 ?_
  exact zi_ret hC hr hlocks (fun k hk => hv_10 g k hk) rfl rfl (by rw [hN 9 (by decide)]; rfl) dX10_init_71

theorem dX3_init_0 : decode cX3_init 0 = .ok (.aload_n 0, 1) := by decide +kernel
theorem dX3_init_1 : decode cX3_init 1 = .ok (.invokespecial 3, 3) := by decide +kernel
theorem dX3_init_4 : decode cX3_init 4 = .ok (.aload_n 0, 1) := by decide +kernel
theorem dX3_init_5 : decode cX3_init 5 = .ok (.bipush 40, 2) := by decide +kernel
theorem dX3_init_7 : decode cX3_init 7 = .ok (.newarray .int, 2) := by decide +kernel
theorem dX3_init_9 : decode cX3_init 9 = .ok (.putfield 11, 3) := by decide +kernel
theorem dX3_init_12 : decode cX3_init 12 = .ok (.aload_n 0, 1) := by decide +kernel
theorem dX3_init_13 : decode cX3_init 13 = .ok (.bipush 40, 2) := by decide +kernel
theorem dX3_init_15 : decode cX3_init 15 = .ok (.newarray .int, 2) := by decide +kernel
theorem dX3_init_17 : decode cX3_init 17 = .ok (.putfield 15, 3) := by decide +kernel
theorem dX3_init_20 : decode cX3_init 20 = .ok (.aload_n 0, 1) := by decide +kernel
theorem dX3_init_21 : decode cX3_init 21 = .ok (.bipush 40, 2) := by decide +kernel
theorem dX3_init_23 : decode cX3_init 23 = .ok (.newarray .int, 2) := by decide +kernel
theorem dX3_init_25 : decode cX3_init 25 = .ok (.putfield 18, 3) := by decide +kernel
theorem dX3_init_28 : decode cX3_init 28 = .ok (.aload_n 0, 1) := by decide +kernel
theorem dX3_init_29 : decode cX3_init 29 = .ok (.bipush 40, 2) := by decide +kernel
theorem dX3_init_31 : decode cX3_init 31 = .ok (.newarray .int, 2) := by decide +kernel
theorem dX3_init_33 : decode cX3_init 33 = .ok (.putfield 21, 3) := by decide +kernel
theorem dX3_init_36 : decode cX3_init 36 = .ok (.aload_n 0, 1) := by decide +kernel
theorem dX3_init_37 : decode cX3_init 37 = .ok (.bipush 40, 2) := by decide +kernel
theorem dX3_init_39 : decode cX3_init 39 = .ok (.newarray .int, 2) := by decide +kernel
theorem dX3_init_41 : decode cX3_init 41 = .ok (.putfield 24, 3) := by decide +kernel
theorem dX3_init_44 : decode cX3_init 44 = .ok (.aload_n 0, 1) := by decide +kernel
theorem dX3_init_45 : decode cX3_init 45 = .ok (.bipush 40, 2) := by decide +kernel
theorem dX3_init_47 : decode cX3_init 47 = .ok (.bipush 12, 2) := by decide +kernel
theorem dX3_init_49 : decode cX3_init 49 = .ok (.multianewarray 27 2, 4) := by decide +kernel
theorem dX3_init_53 : decode cX3_init 53 = .ok (.putfield 29, 3) := by decide +kernel
theorem dX3_init_56 : decode cX3_init 56 = .ok (.return_, 1) := by decide +kernel
theorem mt_X3_init : MT yX3_init cX3_init 1 none 0 := ⟨wd_136, wd_5, by decide +kernel, by decide +kernel, by decide +kernel⟩
theorem df_X3_init : ∀ k, k < 7 → defaultValue (tyX3 k) = dfV 2 k := by decide +kernel
theorem hv_3 (g : GT) : ∀ k, k < nfF 2 → (updV (updV (updV (updV (updV (updV (dfV 2) 1 (.ref (g.2.1 25))) 2 (.ref (g.2.1 26))) 3 (.ref (g.2.1 27))) 4 (.ref (g.2.1 28))) 5 (.ref (g.2.1 29))) 6 (.ref (g.2.1 30))) k = fval g.2.1 st_B 2 k
  | 0, _ => rfl
  | 1, _ => rfl
  | 2, _ => rfl
  | 3, _ => rfl
  | 4, _ => rfl
  | 5, _ => rfl
  | 6, _ => rfl
  | k + 7, h => absurd h (Nat.not_lt.mpr (Nat.le_add_left _ _))
set_option maxRecDepth 20000 in
theorem ini_3 (l : Launch) {g : GT} {N : Nat} (hN : AD g N) : INI l g st_B yX3_init cX3_init { frames := 1, cells := 46, slots := 720, locals := 12 } 2 46 46 720 [2] [18, 59, 60, 61, 62, 63, 64, 65, 66, 67, 68, 69, 70, 71, 72, 73, 74, 75, 76, 77, 78, 79, 80, 81, 82, 83, 84, 85, 86, 87, 88, 89, 90, 91, 92, 93, 94, 95, 96, 97, 98, 17, 16, 15, 14, 13] := by
  refine ini_of (by decide) rfl ?_
  intro p e s m args below meth c hC hr hlocks hin hA
  have hAc : g.2.1 2 ≤ g.2.1 2 := Nat.le_refl _
  have hC : HI p s m args c cX3_init 1 RX3 g := hC
  rw [show g.2.1 2 + 1 = N + 24 by rw [hN 2 (by decide)]; rfl]
  refine zi_aload hC dX3_init_0 rfl 0 rfl ?_
  refine zi_obj hC wd_137 dX3_init_1 ⟨Nat.le_of_ble_eq_true rfl, Nat.le_of_ble_eq_true rfl⟩ ?_
  refine zi_aload hC dX3_init_4 rfl 0 rfl ?_
  refine zi_bipush hC (x := 40) dX3_init_5 rfl ?_
  refine zi_newa hC hA (j := 13) (len := 40) (atype := .int) 1 40 (by decide) rfl wd_44 (by decide) rfl (Nat.le_of_ble_eq_true rfl) (by rw [hN 25 (by decide)]; rfl) rfl rfl ⟨Nat.le_of_ble_eq_true rfl, Nat.le_of_ble_eq_true rfl⟩ (fun _ => rfl) dX3_init_7 ?_
  refine zi_putF hC cj_2 hAc hin rfl (f := 1) (by decide) wd_143 rfl (ty := (.array .int)) rfl rfl rfl dX3_init_9 ?_
  refine zi_aload hC dX3_init_12 rfl 0 rfl ?_
  refine zi_bipush hC (x := 40) dX3_init_13 rfl ?_
  refine zi_newa hC hA (j := 14) (len := 40) (atype := .int) 2 80 (by decide) rfl wd_44 (by decide) rfl (Nat.le_of_ble_eq_true rfl) (by rw [hN 26 (by decide)]; rfl) rfl rfl ⟨Nat.le_of_ble_eq_true rfl, Nat.le_of_ble_eq_true rfl⟩ (fun _ => rfl) dX3_init_15 ?_
  refine zi_putF hC cj_2 hAc hin rfl (f := 2) (by decide) wd_146 rfl (ty := (.array .int)) rfl rfl rfl dX3_init_17 ?_
  refine zi_aload hC dX3_init_20 rfl 0 rfl ?_
  refine zi_bipush hC (x := 40) dX3_init_21 rfl ?_
  refine zi_newa hC hA (j := 15) (len := 40) (atype := .int) 3 120 (by decide) rfl wd_44 (by decide) rfl (Nat.le_of_ble_eq_true rfl) (by rw [hN 27 (by decide)]; rfl) rfl rfl ⟨Nat.le_of_ble_eq_true rfl, Nat.le_of_ble_eq_true rfl⟩ (fun _ => rfl) dX3_init_23 ?_
  refine zi_putF hC cj_2 hAc hin rfl (f := 3) (by decide) wd_149 rfl (ty := (.array .int)) rfl rfl rfl dX3_init_25 ?_
  refine zi_aload hC dX3_init_28 rfl 0 rfl ?_
  refine zi_bipush hC (x := 40) dX3_init_29 rfl ?_
  refine zi_newa hC hA (j := 16) (len := 40) (atype := .int) 4 160 (by decide) rfl wd_44 (by decide) rfl (Nat.le_of_ble_eq_true rfl) (by rw [hN 28 (by decide)]; rfl) rfl rfl ⟨Nat.le_of_ble_eq_true rfl, Nat.le_of_ble_eq_true rfl⟩ (fun _ => rfl) dX3_init_31 ?_
  refine zi_putF hC cj_2 hAc hin rfl (f := 4) (by decide) wd_152 rfl (ty := (.array .int)) rfl rfl rfl dX3_init_33 ?_
  refine zi_aload hC dX3_init_36 rfl 0 rfl ?_
  refine zi_bipush hC (x := 40) dX3_init_37 rfl ?_
  refine zi_newa hC hA (j := 17) (len := 40) (atype := .int) 5 200 (by decide) rfl wd_44 (by decide) rfl (Nat.le_of_ble_eq_true rfl) (by rw [hN 29 (by decide)]; rfl) rfl rfl ⟨Nat.le_of_ble_eq_true rfl, Nat.le_of_ble_eq_true rfl⟩ (fun _ => rfl) dX3_init_39 ?_
  refine zi_putF hC cj_2 hAc hin rfl (f := 5) (by decide) wd_153 rfl (ty := (.array .int)) rfl rfl rfl dX3_init_41 ?_
  refine zi_aload hC dX3_init_44 rfl 0 rfl ?_
  refine zi_bipush hC (x := 40) dX3_init_45 rfl ?_
  refine zi_bipush hC (x := 12) dX3_init_47 rfl ?_
  refine zi_mna hC hA 46 720 wd_138 (fun i hi => by rw [hN _ (by omega), mna_off i hi, show offA 30 = 29 from rfl]; omega) (by rw [hN 30 (by decide)]; rfl) rfl rfl ⟨Nat.le_of_ble_eq_true rfl, Nat.le_of_ble_eq_true rfl⟩ (fun _ => rfl) (mna_z g) dX3_init_49 ?_
  refine zi_putF hC cj_2 hAc hin rfl (f := 6) (by decide) wd_155 rfl (ty := (.array (.array .int))) rfl rfl rfl dX3_init_53 ?_
  exact zi_ret hC hr hlocks (fun k hk => hv_3 g k hk) rfl rfl (by rw [hN 2 (by decide)]; rfl) dX3_init_56

theorem dX5_init_0 : decode cX5_init 0 = .ok (.aload_n 0, 1) := by decide +kernel
theorem dX5_init_1 : decode cX5_init 1 = .ok (.invokespecial 5, 3) := by decide +kernel
theorem dX5_init_4 : decode cX5_init 4 = .ok (.aload_n 0, 1) := by decide +kernel
theorem dX5_init_5 : decode cX5_init 5 = .ok (.sipush 3200, 3) := by decide +kernel
theorem dX5_init_8 : decode cX5_init 8 = .ok (.newarray .int, 2) := by decide +kernel
theorem dX5_init_10 : decode cX5_init 10 = .ok (.putfield 13, 3) := by decide +kernel
theorem dX5_init_13 : decode cX5_init 13 = .ok (.aload_n 0, 1) := by decide +kernel
theorem dX5_init_14 : decode cX5_init 14 = .ok (.bipush 20, 2) := by decide +kernel
theorem dX5_init_16 : decode cX5_init 16 = .ok (.newarray .int, 2) := by decide +kernel
theorem dX5_init_18 : decode cX5_init 18 = .ok (.putfield 17, 3) := by decide +kernel
theorem dX5_init_21 : decode cX5_init 21 = .ok (.aload_n 0, 1) := by decide +kernel
theorem dX5_init_22 : decode cX5_init 22 = .ok (.sipush 160, 3) := by decide +kernel
theorem dX5_init_25 : decode cX5_init 25 = .ok (.newarray .int, 2) := by decide +kernel
theorem dX5_init_27 : decode cX5_init 27 = .ok (.putfield 20, 3) := by decide +kernel
theorem dX5_init_30 : decode cX5_init 30 = .ok (.aload_n 0, 1) := by decide +kernel
theorem dX5_init_31 : decode cX5_init 31 = .ok (.aload_n 0, 1) := by decide +kernel
theorem dX5_init_32 : decode cX5_init 32 = .ok (.getfield 20, 3) := by decide +kernel
theorem dX5_init_35 : decode cX5_init 35 = .ok (.putfield 23, 3) := by decide +kernel
theorem dX5_init_38 : decode cX5_init 38 = .ok (.aload_n 0, 1) := by decide +kernel
theorem dX5_init_39 : decode cX5_init 39 = .ok (.sipush 160, 3) := by decide +kernel
theorem dX5_init_42 : decode cX5_init 42 = .ok (.newarray .boolean, 2) := by decide +kernel
theorem dX5_init_44 : decode cX5_init 44 = .ok (.putfield 26, 3) := by decide +kernel
theorem dX5_init_47 : decode cX5_init 47 = .ok (.return_, 1) := by decide +kernel
theorem mt_X5_init : MT yX5_init cX5_init 1 none 0 := ⟨wd_175, wd_6, by decide +kernel, by decide +kernel, by decide +kernel⟩
theorem df_X5_init : ∀ k, k < 15 → defaultValue (tyX5 k) = dfV 4 k := by decide +kernel
theorem hv_5 (g : GT) : ∀ k, k < nfF 4 → (updV (updV (updV (updV (updV (dfV 4) 1 (.ref (g.2.1 38))) 2 (.ref (g.2.1 39))) 3 (.ref (g.2.1 40))) 5 (.ref (g.2.1 40))) 9 (.ref (g.2.1 41))) k = fval g.2.1 st_B 4 k
  | 0, _ => rfl
  | 1, _ => rfl
  | 2, _ => rfl
  | 3, _ => rfl
  | 4, _ => rfl
  | 5, _ => rfl
  | 6, _ => rfl
  | 7, _ => rfl
  | 8, _ => rfl
  | 9, _ => rfl
  | 10, _ => rfl
  | 11, _ => rfl
  | 12, _ => rfl
  | 13, _ => rfl
  | 14, _ => rfl
  | k + 15, h => absurd h (Nat.not_lt.mpr (Nat.le_add_left _ _))
set_option maxRecDepth 20000 in
theorem ini_5 (l : Launch) {g : GT} {N : Nat} (hN : AD g N) : INI l g st_B yX5_init cX5_init { frames := 1, cells := 4, slots := 3540, locals := 12 } 4 4 4 3540 [4] [29, 28, 27, 26] := by
  refine ini_of (by decide) rfl ?_
  intro p e s m args below meth c hC hr hlocks hin hA
  have hAc : g.2.1 4 ≤ g.2.1 4 := Nat.le_refl _
  have hC : HI p s m args c cX5_init 1 RX5 g := hC
  rw [show g.2.1 4 + 1 = N + 71 by rw [hN 4 (by decide)]; rfl]
  refine zi_aload hC dX5_init_0 rfl 0 rfl ?_
  refine zi_obj hC wd_176 dX5_init_1 ⟨Nat.le_of_ble_eq_true rfl, Nat.le_of_ble_eq_true rfl⟩ ?_
  refine zi_aload hC dX5_init_4 rfl 0 rfl ?_
  refine zi_sipush hC (x := 3200) dX5_init_5 rfl ?_
  refine zi_newa hC hA (j := 26) (len := 3200) (atype := .int) 1 3200 (by decide) rfl wd_44 (by decide) rfl (Nat.le_of_ble_eq_true rfl) (by rw [hN 38 (by decide)]; rfl) rfl rfl ⟨Nat.le_of_ble_eq_true rfl, Nat.le_of_ble_eq_true rfl⟩ (fun _ => rfl) dX5_init_8 ?_
  refine zi_putF hC cj_4 hAc hin rfl (f := 1) (by decide) wd_179 rfl (ty := (.array .int)) rfl rfl rfl dX5_init_10 ?_
  refine zi_aload hC dX5_init_13 rfl 0 rfl ?_
  refine zi_bipush hC (x := 20) dX5_init_14 rfl ?_
  refine zi_newa hC hA (j := 27) (len := 20) (atype := .int) 2 3220 (by decide) rfl wd_44 (by decide) rfl (Nat.le_of_ble_eq_true rfl) (by rw [hN 39 (by decide)]; rfl) rfl rfl ⟨Nat.le_of_ble_eq_true rfl, Nat.le_of_ble_eq_true rfl⟩ (fun _ => rfl) dX5_init_16 ?_
  refine zi_putF hC cj_4 hAc hin rfl (f := 2) (by decide) wd_180 rfl (ty := (.array .int)) rfl rfl rfl dX5_init_18 ?_
  refine zi_aload hC dX5_init_21 rfl 0 rfl ?_
  refine zi_sipush hC (x := 160) dX5_init_22 rfl ?_
  refine zi_newa hC hA (j := 28) (len := 160) (atype := .int) 3 3380 (by decide) rfl wd_44 (by decide) rfl (Nat.le_of_ble_eq_true rfl) (by rw [hN 40 (by decide)]; rfl) rfl rfl ⟨Nat.le_of_ble_eq_true rfl, Nat.le_of_ble_eq_true rfl⟩ (fun _ => rfl) dX5_init_25 ?_
  refine zi_putF hC cj_4 hAc hin rfl (f := 3) (by decide) wd_181 rfl (ty := (.array .int)) rfl rfl rfl dX5_init_27 ?_
  refine zi_aload hC dX5_init_30 rfl 0 rfl ?_
  refine zi_aload hC dX5_init_31 rfl 0 rfl ?_
  refine zi_get hC ci_4 (f := 3) (by decide) wd_181 (v := .ref (g.2.1 40)) rfl dX5_init_32 ?_
  refine zi_put hC cj_4 hAc rfl (f := 5) (by decide) wd_183 rfl (ty := (.array .int)) rfl rfl rfl dX5_init_35 ?_
  refine zi_aload hC dX5_init_38 rfl 0 rfl ?_
  refine zi_sipush hC (x := 160) dX5_init_39 rfl ?_
  refine zi_newa hC hA (j := 29) (len := 160) (atype := .boolean) 4 3540 (by decide) rfl wd_224 (by decide) rfl (Nat.le_of_ble_eq_true rfl) (by rw [hN 41 (by decide)]; rfl) rfl rfl ⟨Nat.le_of_ble_eq_true rfl, Nat.le_of_ble_eq_true rfl⟩ (fun _ => rfl) dX5_init_42 ?_
  refine zi_putF hC cj_4 hAc hin rfl (f := 9) (by decide) wd_187 rfl (ty := (.array .boolean)) rfl rfl rfl dX5_init_44 ?_
  exact zi_ret hC hr hlocks (fun k hk => hv_5 g k hk) rfl rfl (by rw [hN 4 (by decide)]; rfl) dX5_init_47

theorem dX6_init_0 : decode cX6_init 0 = .ok (.aload_n 0, 1) := by decide +kernel
theorem dX6_init_1 : decode cX6_init 1 = .ok (.invokespecial 3, 3) := by decide +kernel
theorem dX6_init_4 : decode cX6_init 4 = .ok (.aload_n 0, 1) := by decide +kernel
theorem dX6_init_5 : decode cX6_init 5 = .ok (.sipush 200, 3) := by decide +kernel
theorem dX6_init_8 : decode cX6_init 8 = .ok (.newarray .int, 2) := by decide +kernel
theorem dX6_init_10 : decode cX6_init 10 = .ok (.putfield 11, 3) := by decide +kernel
theorem dX6_init_13 : decode cX6_init 13 = .ok (.aload_n 0, 1) := by decide +kernel
theorem dX6_init_14 : decode cX6_init 14 = .ok (.sipush 200, 3) := by decide +kernel
theorem dX6_init_17 : decode cX6_init 17 = .ok (.newarray .int, 2) := by decide +kernel
theorem dX6_init_19 : decode cX6_init 19 = .ok (.putfield 15, 3) := by decide +kernel
theorem dX6_init_22 : decode cX6_init 22 = .ok (.aload_n 0, 1) := by decide +kernel
theorem dX6_init_23 : decode cX6_init 23 = .ok (.sipush 200, 3) := by decide +kernel
theorem dX6_init_26 : decode cX6_init 26 = .ok (.newarray .boolean, 2) := by decide +kernel
theorem dX6_init_28 : decode cX6_init 28 = .ok (.putfield 18, 3) := by decide +kernel
theorem dX6_init_31 : decode cX6_init 31 = .ok (.aload_n 0, 1) := by decide +kernel
theorem dX6_init_32 : decode cX6_init 32 = .ok (.sipush 200, 3) := by decide +kernel
theorem dX6_init_35 : decode cX6_init 35 = .ok (.newarray .int, 2) := by decide +kernel
theorem dX6_init_37 : decode cX6_init 37 = .ok (.putfield 22, 3) := by decide +kernel
theorem dX6_init_40 : decode cX6_init 40 = .ok (.aload_n 0, 1) := by decide +kernel
theorem dX6_init_41 : decode cX6_init 41 = .ok (.bipush 40, 2) := by decide +kernel
theorem dX6_init_43 : decode cX6_init 43 = .ok (.newarray .int, 2) := by decide +kernel
theorem dX6_init_45 : decode cX6_init 45 = .ok (.putfield 25, 3) := by decide +kernel
theorem dX6_init_48 : decode cX6_init 48 = .ok (.aload_n 0, 1) := by decide +kernel
theorem dX6_init_49 : decode cX6_init 49 = .ok (.bipush 40, 2) := by decide +kernel
theorem dX6_init_51 : decode cX6_init 51 = .ok (.newarray .int, 2) := by decide +kernel
theorem dX6_init_53 : decode cX6_init 53 = .ok (.putfield 28, 3) := by decide +kernel
theorem dX6_init_56 : decode cX6_init 56 = .ok (.aload_n 0, 1) := by decide +kernel
theorem dX6_init_57 : decode cX6_init 57 = .ok (.bipush 40, 2) := by decide +kernel
theorem dX6_init_59 : decode cX6_init 59 = .ok (.newarray .int, 2) := by decide +kernel
theorem dX6_init_61 : decode cX6_init 61 = .ok (.putfield 31, 3) := by decide +kernel
theorem dX6_init_64 : decode cX6_init 64 = .ok (.return_, 1) := by decide +kernel
theorem mt_X6_init : MT yX6_init cX6_init 1 none 0 := ⟨wd_229, wd_7, by decide +kernel, by decide +kernel, by decide +kernel⟩
theorem df_X6_init : ∀ k, k < 9 → defaultValue (tyX6 k) = dfV 5 k := by decide +kernel
theorem hv_6 (g : GT) : ∀ k, k < nfF 5 → (updV (updV (updV (updV (updV (updV (updV (dfV 5) 1 (.ref (g.2.1 42))) 2 (.ref (g.2.1 43))) 3 (.ref (g.2.1 44))) 4 (.ref (g.2.1 45))) 6 (.ref (g.2.1 46))) 7 (.ref (g.2.1 47))) 8 (.ref (g.2.1 48))) k = fval g.2.1 st_B 5 k
  | 0, _ => rfl
  | 1, _ => rfl
  | 2, _ => rfl
  | 3, _ => rfl
  | 4, _ => rfl
  | 5, _ => rfl
  | 6, _ => rfl
  | 7, _ => rfl
  | 8, _ => rfl
  | k + 9, h => absurd h (Nat.not_lt.mpr (Nat.le_add_left _ _))
set_option maxRecDepth 20000 in
theorem ini_6 (l : Launch) {g : GT} {N : Nat} (hN : AD g N) : INI l g st_B yX6_init cX6_init { frames := 1, cells := 7, slots := 920, locals := 12 } 5 7 7 920 [5] [36, 35, 34, 33, 32, 31, 30] := by
  refine ini_of (by decide) rfl ?_
  intro p e s m args below meth c hC hr hlocks hin hA
  have hAc : g.2.1 5 ≤ g.2.1 5 := Nat.le_refl _
  have hC : HI p s m args c cX6_init 1 RX6 g := hC
  rw [show g.2.1 5 + 1 = N + 76 by rw [hN 5 (by decide)]; rfl]
  refine zi_aload hC dX6_init_0 rfl 0 rfl ?_
  refine zi_obj hC wd_230 dX6_init_1 ⟨Nat.le_of_ble_eq_true rfl, Nat.le_of_ble_eq_true rfl⟩ ?_
  refine zi_aload hC dX6_init_4 rfl 0 rfl ?_
  refine zi_sipush hC (x := 200) dX6_init_5 rfl ?_
  refine zi_newa hC hA (j := 30) (len := 200) (atype := .int) 1 200 (by decide) rfl wd_44 (by decide) rfl (Nat.le_of_ble_eq_true rfl) (by rw [hN 42 (by decide)]; rfl) rfl rfl ⟨Nat.le_of_ble_eq_true rfl, Nat.le_of_ble_eq_true rfl⟩ (fun _ => rfl) dX6_init_8 ?_
  refine zi_putF hC cj_5 hAc hin rfl (f := 1) (by decide) wd_233 rfl (ty := (.array .int)) rfl rfl rfl dX6_init_10 ?_
  refine zi_aload hC dX6_init_13 rfl 0 rfl ?_
  refine zi_sipush hC (x := 200) dX6_init_14 rfl ?_
  refine zi_newa hC hA (j := 31) (len := 200) (atype := .int) 2 400 (by decide) rfl wd_44 (by decide) rfl (Nat.le_of_ble_eq_true rfl) (by rw [hN 43 (by decide)]; rfl) rfl rfl ⟨Nat.le_of_ble_eq_true rfl, Nat.le_of_ble_eq_true rfl⟩ (fun _ => rfl) dX6_init_17 ?_
  refine zi_putF hC cj_5 hAc hin rfl (f := 2) (by decide) wd_234 rfl (ty := (.array .int)) rfl rfl rfl dX6_init_19 ?_
  refine zi_aload hC dX6_init_22 rfl 0 rfl ?_
  refine zi_sipush hC (x := 200) dX6_init_23 rfl ?_
  refine zi_newa hC hA (j := 32) (len := 200) (atype := .boolean) 3 600 (by decide) rfl wd_224 (by decide) rfl (Nat.le_of_ble_eq_true rfl) (by rw [hN 44 (by decide)]; rfl) rfl rfl ⟨Nat.le_of_ble_eq_true rfl, Nat.le_of_ble_eq_true rfl⟩ (fun _ => rfl) dX6_init_26 ?_
  refine zi_putF hC cj_5 hAc hin rfl (f := 3) (by decide) wd_235 rfl (ty := (.array .boolean)) rfl rfl rfl dX6_init_28 ?_
  refine zi_aload hC dX6_init_31 rfl 0 rfl ?_
  refine zi_sipush hC (x := 200) dX6_init_32 rfl ?_
  refine zi_newa hC hA (j := 33) (len := 200) (atype := .int) 4 800 (by decide) rfl wd_44 (by decide) rfl (Nat.le_of_ble_eq_true rfl) (by rw [hN 45 (by decide)]; rfl) rfl rfl ⟨Nat.le_of_ble_eq_true rfl, Nat.le_of_ble_eq_true rfl⟩ (fun _ => rfl) dX6_init_35 ?_
  refine zi_putF hC cj_5 hAc hin rfl (f := 4) (by decide) wd_236 rfl (ty := (.array .int)) rfl rfl rfl dX6_init_37 ?_
  refine zi_aload hC dX6_init_40 rfl 0 rfl ?_
  refine zi_bipush hC (x := 40) dX6_init_41 rfl ?_
  refine zi_newa hC hA (j := 34) (len := 40) (atype := .int) 5 840 (by decide) rfl wd_44 (by decide) rfl (Nat.le_of_ble_eq_true rfl) (by rw [hN 46 (by decide)]; rfl) rfl rfl ⟨Nat.le_of_ble_eq_true rfl, Nat.le_of_ble_eq_true rfl⟩ (fun _ => rfl) dX6_init_43 ?_
  refine zi_putF hC cj_5 hAc hin rfl (f := 6) (by decide) wd_238 rfl (ty := (.array .int)) rfl rfl rfl dX6_init_45 ?_
  refine zi_aload hC dX6_init_48 rfl 0 rfl ?_
  refine zi_bipush hC (x := 40) dX6_init_49 rfl ?_
  refine zi_newa hC hA (j := 35) (len := 40) (atype := .int) 6 880 (by decide) rfl wd_44 (by decide) rfl (Nat.le_of_ble_eq_true rfl) (by rw [hN 47 (by decide)]; rfl) rfl rfl ⟨Nat.le_of_ble_eq_true rfl, Nat.le_of_ble_eq_true rfl⟩ (fun _ => rfl) dX6_init_51 ?_
  refine zi_putF hC cj_5 hAc hin rfl (f := 7) (by decide) wd_239 rfl (ty := (.array .int)) rfl rfl rfl dX6_init_53 ?_
  refine zi_aload hC dX6_init_56 rfl 0 rfl ?_
  refine zi_bipush hC (x := 40) dX6_init_57 rfl ?_
  refine zi_newa hC hA (j := 36) (len := 40) (atype := .int) 7 920 (by decide) rfl wd_44 (by decide) rfl (Nat.le_of_ble_eq_true rfl) (by rw [hN 48 (by decide)]; rfl) rfl rfl ⟨Nat.le_of_ble_eq_true rfl, Nat.le_of_ble_eq_true rfl⟩ (fun _ => rfl) dX6_init_59 ?_
  refine zi_putF hC cj_5 hAc hin rfl (f := 8) (by decide) wd_240 rfl (ty := (.array .int)) rfl rfl rfl dX6_init_61 ?_
  exact zi_ret hC hr hlocks (fun k hk => hv_6 g k hk) rfl rfl (by rw [hN 5 (by decide)]; rfl) dX6_init_64

theorem dX9_init_0 : decode cX9_init 0 = .ok (.aload_n 0, 1) := by decide +kernel
theorem dX9_init_1 : decode cX9_init 1 = .ok (.invokespecial 3, 3) := by decide +kernel
theorem dX9_init_4 : decode cX9_init 4 = .ok (.aload_n 0, 1) := by decide +kernel
theorem dX9_init_5 : decode cX9_init 5 = .ok (.bipush 40, 2) := by decide +kernel
theorem dX9_init_7 : decode cX9_init 7 = .ok (.newarray .int, 2) := by decide +kernel
theorem dX9_init_9 : decode cX9_init 9 = .ok (.putfield 11, 3) := by decide +kernel
theorem dX9_init_12 : decode cX9_init 12 = .ok (.aload_n 0, 1) := by decide +kernel
theorem dX9_init_13 : decode cX9_init 13 = .ok (.bipush 40, 2) := by decide +kernel
theorem dX9_init_15 : decode cX9_init 15 = .ok (.newarray .int, 2) := by decide +kernel
theorem dX9_init_17 : decode cX9_init 17 = .ok (.putfield 15, 3) := by decide +kernel
theorem dX9_init_20 : decode cX9_init 20 = .ok (.aload_n 0, 1) := by decide +kernel
theorem dX9_init_21 : decode cX9_init 21 = .ok (.bipush 40, 2) := by decide +kernel
theorem dX9_init_23 : decode cX9_init 23 = .ok (.newarray .boolean, 2) := by decide +kernel
theorem dX9_init_25 : decode cX9_init 25 = .ok (.putfield 18, 3) := by decide +kernel
theorem dX9_init_28 : decode cX9_init 28 = .ok (.aload_n 0, 1) := by decide +kernel
theorem dX9_init_29 : decode cX9_init 29 = .ok (.bipush 40, 2) := by decide +kernel
theorem dX9_init_31 : decode cX9_init 31 = .ok (.newarray .int, 2) := by decide +kernel
theorem dX9_init_33 : decode cX9_init 33 = .ok (.putfield 22, 3) := by decide +kernel
theorem dX9_init_36 : decode cX9_init 36 = .ok (.aload_n 0, 1) := by decide +kernel
theorem dX9_init_37 : decode cX9_init 37 = .ok (.bipush 40, 2) := by decide +kernel
theorem dX9_init_39 : decode cX9_init 39 = .ok (.newarray .boolean, 2) := by decide +kernel
theorem dX9_init_41 : decode cX9_init 41 = .ok (.putfield 25, 3) := by decide +kernel
theorem dX9_init_44 : decode cX9_init 44 = .ok (.return_, 1) := by decide +kernel
theorem mt_X9_init : MT yX9_init cX9_init 1 none 0 := ⟨wd_264, wd_8, by decide +kernel, by decide +kernel, by decide +kernel⟩
theorem df_X9_init : ∀ k, k < 6 → defaultValue (tyX9 k) = dfV 8 k := by decide +kernel
theorem hv_9 (g : GT) : ∀ k, k < nfF 8 → (updV (updV (updV (updV (updV (dfV 8) 1 (.ref (g.2.1 56))) 2 (.ref (g.2.1 57))) 3 (.ref (g.2.1 58))) 4 (.ref (g.2.1 59))) 5 (.ref (g.2.1 60))) k = fval g.2.1 st_B 8 k
  | 0, _ => rfl
  | 1, _ => rfl
  | 2, _ => rfl
  | 3, _ => rfl
  | 4, _ => rfl
  | 5, _ => rfl
  | k + 6, h => absurd h (Nat.not_lt.mpr (Nat.le_add_left _ _))
set_option maxRecDepth 20000 in
theorem ini_9 (l : Launch) {g : GT} {N : Nat} (hN : AD g N) : INI l g st_B yX9_init cX9_init { frames := 1, cells := 5, slots := 200, locals := 12 } 8 5 5 200 [8] [48, 47, 46, 45, 44] := by
  refine ini_of (by decide) rfl ?_
  intro p e s m args below meth c hC hr hlocks hin hA
  have hAc : g.2.1 8 ≤ g.2.1 8 := Nat.le_refl _
  have hC : HI p s m args c cX9_init 1 RX9 g := hC
  rw [show g.2.1 8 + 1 = N + 84 by rw [hN 8 (by decide)]; rfl]
  refine zi_aload hC dX9_init_0 rfl 0 rfl ?_
  refine zi_obj hC wd_265 dX9_init_1 ⟨Nat.le_of_ble_eq_true rfl, Nat.le_of_ble_eq_true rfl⟩ ?_
  refine zi_aload hC dX9_init_4 rfl 0 rfl ?_
  refine zi_bipush hC (x := 40) dX9_init_5 rfl ?_
  refine zi_newa hC hA (j := 44) (len := 40) (atype := .int) 1 40 (by decide) rfl wd_44 (by decide) rfl (Nat.le_of_ble_eq_true rfl) (by rw [hN 56 (by decide)]; rfl) rfl rfl ⟨Nat.le_of_ble_eq_true rfl, Nat.le_of_ble_eq_true rfl⟩ (fun _ => rfl) dX9_init_7 ?_
  refine zi_putF hC cj_8 hAc hin rfl (f := 1) (by decide) wd_268 rfl (ty := (.array .int)) rfl rfl rfl dX9_init_9 ?_
  refine zi_aload hC dX9_init_12 rfl 0 rfl ?_
  refine zi_bipush hC (x := 40) dX9_init_13 rfl ?_
  refine zi_newa hC hA (j := 45) (len := 40) (atype := .int) 2 80 (by decide) rfl wd_44 (by decide) rfl (Nat.le_of_ble_eq_true rfl) (by rw [hN 57 (by decide)]; rfl) rfl rfl ⟨Nat.le_of_ble_eq_true rfl, Nat.le_of_ble_eq_true rfl⟩ (fun _ => rfl) dX9_init_15 ?_
  refine zi_putF hC cj_8 hAc hin rfl (f := 2) (by decide) wd_270 rfl (ty := (.array .int)) rfl rfl rfl dX9_init_17 ?_
  refine zi_aload hC dX9_init_20 rfl 0 rfl ?_
  refine zi_bipush hC (x := 40) dX9_init_21 rfl ?_
  refine zi_newa hC hA (j := 46) (len := 40) (atype := .boolean) 3 120 (by decide) rfl wd_224 (by decide) rfl (Nat.le_of_ble_eq_true rfl) (by rw [hN 58 (by decide)]; rfl) rfl rfl ⟨Nat.le_of_ble_eq_true rfl, Nat.le_of_ble_eq_true rfl⟩ (fun _ => rfl) dX9_init_23 ?_
  refine zi_putF hC cj_8 hAc hin rfl (f := 3) (by decide) wd_272 rfl (ty := (.array .boolean)) rfl rfl rfl dX9_init_25 ?_
  refine zi_aload hC dX9_init_28 rfl 0 rfl ?_
  refine zi_bipush hC (x := 40) dX9_init_29 rfl ?_
  refine zi_newa hC hA (j := 47) (len := 40) (atype := .int) 4 160 (by decide) rfl wd_44 (by decide) rfl (Nat.le_of_ble_eq_true rfl) (by rw [hN 59 (by decide)]; rfl) rfl rfl ⟨Nat.le_of_ble_eq_true rfl, Nat.le_of_ble_eq_true rfl⟩ (fun _ => rfl) dX9_init_31 ?_
  refine zi_putF hC cj_8 hAc hin rfl (f := 4) (by decide) wd_273 rfl (ty := (.array .int)) rfl rfl rfl dX9_init_33 ?_
  refine zi_aload hC dX9_init_36 rfl 0 rfl ?_
  refine zi_bipush hC (x := 40) dX9_init_37 rfl ?_
  refine zi_newa hC hA (j := 48) (len := 40) (atype := .boolean) 5 200 (by decide) rfl wd_224 (by decide) rfl (Nat.le_of_ble_eq_true rfl) (by rw [hN 60 (by decide)]; rfl) rfl rfl ⟨Nat.le_of_ble_eq_true rfl, Nat.le_of_ble_eq_true rfl⟩ (fun _ => rfl) dX9_init_39 ?_
  refine zi_putF hC cj_8 hAc hin rfl (f := 5) (by decide) wd_275 rfl (ty := (.array .boolean)) rfl rfl rfl dX9_init_41 ?_
  exact zi_ret hC hr hlocks (fun k hk => hv_9 g k hk) rfl rfl (by rw [hN 8 (by decide)]; rfl) dX9_init_44

theorem dX7_init_0 : decode cX7_init 0 = .ok (.aload_n 0, 1) := by decide +kernel
theorem dX7_init_1 : decode cX7_init 1 = .ok (.invokespecial 3, 3) := by decide +kernel
theorem dX7_init_4 : decode cX7_init 4 = .ok (.aload_n 0, 1) := by decide +kernel
theorem dX7_init_5 : decode cX7_init 5 = .ok (.bipush 80, 2) := by decide +kernel
theorem dX7_init_7 : decode cX7_init 7 = .ok (.newarray .int, 2) := by decide +kernel
theorem dX7_init_9 : decode cX7_init 9 = .ok (.putfield 11, 3) := by decide +kernel
theorem dX7_init_12 : decode cX7_init 12 = .ok (.aload_n 0, 1) := by decide +kernel
theorem dX7_init_13 : decode cX7_init 13 = .ok (.bipush 80, 2) := by decide +kernel
theorem dX7_init_15 : decode cX7_init 15 = .ok (.newarray .int, 2) := by decide +kernel
theorem dX7_init_17 : decode cX7_init 17 = .ok (.putfield 15, 3) := by decide +kernel
theorem dX7_init_20 : decode cX7_init 20 = .ok (.aload_n 0, 1) := by decide +kernel
theorem dX7_init_21 : decode cX7_init 21 = .ok (.bipush 80, 2) := by decide +kernel
theorem dX7_init_23 : decode cX7_init 23 = .ok (.newarray .int, 2) := by decide +kernel
theorem dX7_init_25 : decode cX7_init 25 = .ok (.putfield 18, 3) := by decide +kernel
theorem dX7_init_28 : decode cX7_init 28 = .ok (.aload_n 0, 1) := by decide +kernel
theorem dX7_init_29 : decode cX7_init 29 = .ok (.bipush 80, 2) := by decide +kernel
theorem dX7_init_31 : decode cX7_init 31 = .ok (.newarray .int, 2) := by decide +kernel
theorem dX7_init_33 : decode cX7_init 33 = .ok (.putfield 21, 3) := by decide +kernel
theorem dX7_init_36 : decode cX7_init 36 = .ok (.aload_n 0, 1) := by decide +kernel
theorem dX7_init_37 : decode cX7_init 37 = .ok (.bipush 80, 2) := by decide +kernel
theorem dX7_init_39 : decode cX7_init 39 = .ok (.newarray .int, 2) := by decide +kernel
theorem dX7_init_41 : decode cX7_init 41 = .ok (.putfield 24, 3) := by decide +kernel
theorem dX7_init_44 : decode cX7_init 44 = .ok (.aload_n 0, 1) := by decide +kernel
theorem dX7_init_45 : decode cX7_init 45 = .ok (.bipush 12, 2) := by decide +kernel
theorem dX7_init_47 : decode cX7_init 47 = .ok (.newarray .int, 2) := by decide +kernel
theorem dX7_init_49 : decode cX7_init 49 = .ok (.putfield 27, 3) := by decide +kernel
theorem dX7_init_52 : decode cX7_init 52 = .ok (.return_, 1) := by decide +kernel
theorem mt_X7_init : MT yX7_init cX7_init 1 none 0 := ⟨wd_294, wd_9, by decide +kernel, by decide +kernel, by decide +kernel⟩
theorem df_X7_init : ∀ k, k < 7 → defaultValue (tyX7 k) = dfV 6 k := by decide +kernel
theorem hv_7 (g : GT) : ∀ k, k < nfF 6 → (updV (updV (updV (updV (updV (updV (dfV 6) 1 (.ref (g.2.1 49))) 2 (.ref (g.2.1 50))) 3 (.ref (g.2.1 51))) 4 (.ref (g.2.1 52))) 5 (.ref (g.2.1 53))) 6 (.ref (g.2.1 54))) k = fval g.2.1 st_B 6 k
  | 0, _ => rfl
  | 1, _ => rfl
  | 2, _ => rfl
  | 3, _ => rfl
  | 4, _ => rfl
  | 5, _ => rfl
  | 6, _ => rfl
  | k + 7, h => absurd h (Nat.not_lt.mpr (Nat.le_add_left _ _))
set_option maxRecDepth 20000 in
theorem ini_7 (l : Launch) {g : GT} {N : Nat} (hN : AD g N) : INI l g st_B yX7_init cX7_init { frames := 1, cells := 6, slots := 412, locals := 12 } 6 6 6 412 [6] [42, 41, 40, 39, 38, 37] := by
  refine ini_of (by decide) rfl ?_
  intro p e s m args below meth c hC hr hlocks hin hA
  have hAc : g.2.1 6 ≤ g.2.1 6 := Nat.le_refl _
  have hC : HI p s m args c cX7_init 1 RX7 g := hC
  rw [show g.2.1 6 + 1 = N + 90 by rw [hN 6 (by decide)]; rfl]
  refine zi_aload hC dX7_init_0 rfl 0 rfl ?_
  refine zi_obj hC wd_295 dX7_init_1 ⟨Nat.le_of_ble_eq_true rfl, Nat.le_of_ble_eq_true rfl⟩ ?_
  refine zi_aload hC dX7_init_4 rfl 0 rfl ?_
  refine zi_bipush hC (x := 80) dX7_init_5 rfl ?_
  refine zi_newa hC hA (j := 37) (len := 80) (atype := .int) 1 80 (by decide) rfl wd_44 (by decide) rfl (Nat.le_of_ble_eq_true rfl) (by rw [hN 49 (by decide)]; rfl) rfl rfl ⟨Nat.le_of_ble_eq_true rfl, Nat.le_of_ble_eq_true rfl⟩ (fun _ => rfl) dX7_init_7 ?_
  refine zi_putF hC cj_6 hAc hin rfl (f := 1) (by decide) wd_298 rfl (ty := (.array .int)) rfl rfl rfl dX7_init_9 ?_
  refine zi_aload hC dX7_init_12 rfl 0 rfl ?_
  refine zi_bipush hC (x := 80) dX7_init_13 rfl ?_
  refine zi_newa hC hA (j := 38) (len := 80) (atype := .int) 2 160 (by decide) rfl wd_44 (by decide) rfl (Nat.le_of_ble_eq_true rfl) (by rw [hN 50 (by decide)]; rfl) rfl rfl ⟨Nat.le_of_ble_eq_true rfl, Nat.le_of_ble_eq_true rfl⟩ (fun _ => rfl) dX7_init_15 ?_
  refine zi_putF hC cj_6 hAc hin rfl (f := 2) (by decide) wd_300 rfl (ty := (.array .int)) rfl rfl rfl dX7_init_17 ?_
  refine zi_aload hC dX7_init_20 rfl 0 rfl ?_
  refine zi_bipush hC (x := 80) dX7_init_21 rfl ?_
  refine zi_newa hC hA (j := 39) (len := 80) (atype := .int) 3 240 (by decide) rfl wd_44 (by decide) rfl (Nat.le_of_ble_eq_true rfl) (by rw [hN 51 (by decide)]; rfl) rfl rfl ⟨Nat.le_of_ble_eq_true rfl, Nat.le_of_ble_eq_true rfl⟩ (fun _ => rfl) dX7_init_23 ?_
  refine zi_putF hC cj_6 hAc hin rfl (f := 3) (by decide) wd_302 rfl (ty := (.array .int)) rfl rfl rfl dX7_init_25 ?_
  refine zi_aload hC dX7_init_28 rfl 0 rfl ?_
  refine zi_bipush hC (x := 80) dX7_init_29 rfl ?_
  refine zi_newa hC hA (j := 40) (len := 80) (atype := .int) 4 320 (by decide) rfl wd_44 (by decide) rfl (Nat.le_of_ble_eq_true rfl) (by rw [hN 52 (by decide)]; rfl) rfl rfl ⟨Nat.le_of_ble_eq_true rfl, Nat.le_of_ble_eq_true rfl⟩ (fun _ => rfl) dX7_init_31 ?_
  refine zi_putF hC cj_6 hAc hin rfl (f := 4) (by decide) wd_304 rfl (ty := (.array .int)) rfl rfl rfl dX7_init_33 ?_
  refine zi_aload hC dX7_init_36 rfl 0 rfl ?_
  refine zi_bipush hC (x := 80) dX7_init_37 rfl ?_
  refine zi_newa hC hA (j := 41) (len := 80) (atype := .int) 5 400 (by decide) rfl wd_44 (by decide) rfl (Nat.le_of_ble_eq_true rfl) (by rw [hN 53 (by decide)]; rfl) rfl rfl ⟨Nat.le_of_ble_eq_true rfl, Nat.le_of_ble_eq_true rfl⟩ (fun _ => rfl) dX7_init_39 ?_
  refine zi_putF hC cj_6 hAc hin rfl (f := 5) (by decide) wd_306 rfl (ty := (.array .int)) rfl rfl rfl dX7_init_41 ?_
  refine zi_aload hC dX7_init_44 rfl 0 rfl ?_
  refine zi_bipush hC (x := 12) dX7_init_45 rfl ?_
  refine zi_newa hC hA (j := 42) (len := 12) (atype := .int) 6 412 (by decide) rfl wd_44 (by decide) rfl (Nat.le_of_ble_eq_true rfl) (by rw [hN 54 (by decide)]; rfl) rfl rfl ⟨Nat.le_of_ble_eq_true rfl, Nat.le_of_ble_eq_true rfl⟩ (fun _ => rfl) dX7_init_47 ?_
  refine zi_putF hC cj_6 hAc hin rfl (f := 6) (by decide) wd_308 rfl (ty := (.array .int)) rfl rfl rfl dX7_init_49 ?_
  exact zi_ret hC hr hlocks (fun k hk => hv_7 g k hk) rfl rfl (by rw [hN 6 (by decide)]; rfl) dX7_init_52

theorem dX2_init_0 : decode cX2_init 0 = .ok (.aload_n 0, 1) := by decide +kernel
theorem dX2_init_1 : decode cX2_init 1 = .ok (.invokespecial 3, 3) := by decide +kernel
theorem dX2_init_4 : decode cX2_init 4 = .ok (.aload_n 0, 1) := by decide +kernel
theorem dX2_init_5 : decode cX2_init 5 = .ok (.bipush 40, 2) := by decide +kernel
theorem dX2_init_7 : decode cX2_init 7 = .ok (.newarray .int, 2) := by decide +kernel
theorem dX2_init_9 : decode cX2_init 9 = .ok (.putfield 11, 3) := by decide +kernel
theorem dX2_init_12 : decode cX2_init 12 = .ok (.aload_n 0, 1) := by decide +kernel
theorem dX2_init_13 : decode cX2_init 13 = .ok (.bipush 40, 2) := by decide +kernel
theorem dX2_init_15 : decode cX2_init 15 = .ok (.newarray .int, 2) := by decide +kernel
theorem dX2_init_17 : decode cX2_init 17 = .ok (.putfield 15, 3) := by decide +kernel
theorem dX2_init_20 : decode cX2_init 20 = .ok (.aload_n 0, 1) := by decide +kernel
theorem dX2_init_21 : decode cX2_init 21 = .ok (.bipush 40, 2) := by decide +kernel
theorem dX2_init_23 : decode cX2_init 23 = .ok (.newarray .int, 2) := by decide +kernel
theorem dX2_init_25 : decode cX2_init 25 = .ok (.putfield 18, 3) := by decide +kernel
theorem dX2_init_28 : decode cX2_init 28 = .ok (.aload_n 0, 1) := by decide +kernel
theorem dX2_init_29 : decode cX2_init 29 = .ok (.bipush 40, 2) := by decide +kernel
theorem dX2_init_31 : decode cX2_init 31 = .ok (.newarray .int, 2) := by decide +kernel
theorem dX2_init_33 : decode cX2_init 33 = .ok (.putfield 21, 3) := by decide +kernel
theorem dX2_init_36 : decode cX2_init 36 = .ok (.aload_n 0, 1) := by decide +kernel
theorem dX2_init_37 : decode cX2_init 37 = .ok (.bipush 40, 2) := by decide +kernel
theorem dX2_init_39 : decode cX2_init 39 = .ok (.newarray .boolean, 2) := by decide +kernel
theorem dX2_init_41 : decode cX2_init 41 = .ok (.putfield 24, 3) := by decide +kernel
theorem dX2_init_44 : decode cX2_init 44 = .ok (.return_, 1) := by decide +kernel
theorem mt_X2_init : MT yX2_init cX2_init 1 none 0 := ⟨wd_329, wd_10, by decide +kernel, by decide +kernel, by decide +kernel⟩
theorem df_X2_init : ∀ k, k < 6 → defaultValue (tyX2 k) = dfV 1 k := by decide +kernel
theorem hv_2 (g : GT) : ∀ k, k < nfF 1 → (updV (updV (updV (updV (updV (dfV 1) 1 (.ref (g.2.1 20))) 2 (.ref (g.2.1 21))) 3 (.ref (g.2.1 22))) 4 (.ref (g.2.1 23))) 5 (.ref (g.2.1 24))) k = fval g.2.1 st_B 1 k
  | 0, _ => rfl
  | 1, _ => rfl
  | 2, _ => rfl
  | 3, _ => rfl
  | 4, _ => rfl
  | 5, _ => rfl
  | k + 6, h => absurd h (Nat.not_lt.mpr (Nat.le_add_left _ _))
set_option maxRecDepth 20000 in
theorem ini_2 (l : Launch) {g : GT} {N : Nat} (hN : AD g N) : INI l g st_B yX2_init cX2_init { frames := 1, cells := 5, slots := 200, locals := 12 } 1 5 5 200 [1] [12, 11, 10, 9, 8] := by
  refine ini_of (by decide) rfl ?_
  intro p e s m args below meth c hC hr hlocks hin hA
  have hAc : g.2.1 1 ≤ g.2.1 1 := Nat.le_refl _
  have hC : HI p s m args c cX2_init 1 RX2 g := hC
  rw [show g.2.1 1 + 1 = N + 97 by rw [hN 1 (by decide)]; rfl]
  refine zi_aload hC dX2_init_0 rfl 0 rfl ?_
  refine zi_obj hC wd_330 dX2_init_1 ⟨Nat.le_of_ble_eq_true rfl, Nat.le_of_ble_eq_true rfl⟩ ?_
  refine zi_aload hC dX2_init_4 rfl 0 rfl ?_
  refine zi_bipush hC (x := 40) dX2_init_5 rfl ?_
  refine zi_newa hC hA (j := 8) (len := 40) (atype := .int) 1 40 (by decide) rfl wd_44 (by decide) rfl (Nat.le_of_ble_eq_true rfl) (by rw [hN 20 (by decide)]; rfl) rfl rfl ⟨Nat.le_of_ble_eq_true rfl, Nat.le_of_ble_eq_true rfl⟩ (fun _ => rfl) dX2_init_7 ?_
  refine zi_putF hC cj_1 hAc hin rfl (f := 1) (by decide) wd_332 rfl (ty := (.array .int)) rfl rfl rfl dX2_init_9 ?_
  refine zi_aload hC dX2_init_12 rfl 0 rfl ?_
  refine zi_bipush hC (x := 40) dX2_init_13 rfl ?_
  refine zi_newa hC hA (j := 9) (len := 40) (atype := .int) 2 80 (by decide) rfl wd_44 (by decide) rfl (Nat.le_of_ble_eq_true rfl) (by rw [hN 21 (by decide)]; rfl) rfl rfl ⟨Nat.le_of_ble_eq_true rfl, Nat.le_of_ble_eq_true rfl⟩ (fun _ => rfl) dX2_init_15 ?_
  refine zi_putF hC cj_1 hAc hin rfl (f := 2) (by decide) wd_334 rfl (ty := (.array .int)) rfl rfl rfl dX2_init_17 ?_
  refine zi_aload hC dX2_init_20 rfl 0 rfl ?_
  refine zi_bipush hC (x := 40) dX2_init_21 rfl ?_
  refine zi_newa hC hA (j := 10) (len := 40) (atype := .int) 3 120 (by decide) rfl wd_44 (by decide) rfl (Nat.le_of_ble_eq_true rfl) (by rw [hN 22 (by decide)]; rfl) rfl rfl ⟨Nat.le_of_ble_eq_true rfl, Nat.le_of_ble_eq_true rfl⟩ (fun _ => rfl) dX2_init_23 ?_
  refine zi_putF hC cj_1 hAc hin rfl (f := 3) (by decide) wd_335 rfl (ty := (.array .int)) rfl rfl rfl dX2_init_25 ?_
  refine zi_aload hC dX2_init_28 rfl 0 rfl ?_
  refine zi_bipush hC (x := 40) dX2_init_29 rfl ?_
  refine zi_newa hC hA (j := 11) (len := 40) (atype := .int) 4 160 (by decide) rfl wd_44 (by decide) rfl (Nat.le_of_ble_eq_true rfl) (by rw [hN 23 (by decide)]; rfl) rfl rfl ⟨Nat.le_of_ble_eq_true rfl, Nat.le_of_ble_eq_true rfl⟩ (fun _ => rfl) dX2_init_31 ?_
  refine zi_putF hC cj_1 hAc hin rfl (f := 4) (by decide) wd_337 rfl (ty := (.array .int)) rfl rfl rfl dX2_init_33 ?_
  refine zi_aload hC dX2_init_36 rfl 0 rfl ?_
  refine zi_bipush hC (x := 40) dX2_init_37 rfl ?_
  refine zi_newa hC hA (j := 12) (len := 40) (atype := .boolean) 5 200 (by decide) rfl wd_224 (by decide) rfl (Nat.le_of_ble_eq_true rfl) (by rw [hN 24 (by decide)]; rfl) rfl rfl ⟨Nat.le_of_ble_eq_true rfl, Nat.le_of_ble_eq_true rfl⟩ (fun _ => rfl) dX2_init_39 ?_
  refine zi_putF hC cj_1 hAc hin rfl (f := 5) (by decide) wd_338 rfl (ty := (.array .boolean)) rfl rfl rfl dX2_init_41 ?_
  exact zi_ret hC hr hlocks (fun k hk => hv_2 g k hk) rfl rfl (by rw [hN 1 (by decide)]; rfl) dX2_init_44

theorem dX4_init_0 : decode cX4_init 0 = .ok (.aload_n 0, 1) := by decide +kernel
theorem dX4_init_1 : decode cX4_init 1 = .ok (.invokespecial 7, 3) := by decide +kernel
theorem dX4_init_4 : decode cX4_init 4 = .ok (.aload_n 0, 1) := by decide +kernel
theorem dX4_init_5 : decode cX4_init 5 = .ok (.bipush 12, 2) := by decide +kernel
theorem dX4_init_7 : decode cX4_init 7 = .ok (.newarray .long, 2) := by decide +kernel
theorem dX4_init_9 : decode cX4_init 9 = .ok (.putfield 13, 3) := by decide +kernel
theorem dX4_init_12 : decode cX4_init 12 = .ok (.aload_n 0, 1) := by decide +kernel
theorem dX4_init_13 : decode cX4_init 13 = .ok (.bipush 40, 2) := by decide +kernel
theorem dX4_init_15 : decode cX4_init 15 = .ok (.newarray .int, 2) := by decide +kernel
theorem dX4_init_17 : decode cX4_init 17 = .ok (.putfield 21, 3) := by decide +kernel
theorem dX4_init_20 : decode cX4_init 20 = .ok (.aload_n 0, 1) := by decide +kernel
theorem dX4_init_21 : decode cX4_init 21 = .ok (.bipush 40, 2) := by decide +kernel
theorem dX4_init_23 : decode cX4_init 23 = .ok (.newarray .int, 2) := by decide +kernel
theorem dX4_init_25 : decode cX4_init 25 = .ok (.putfield 25, 3) := by decide +kernel
theorem dX4_init_28 : decode cX4_init 28 = .ok (.aload_n 0, 1) := by decide +kernel
theorem dX4_init_29 : decode cX4_init 29 = .ok (.bipush 40, 2) := by decide +kernel
theorem dX4_init_31 : decode cX4_init 31 = .ok (.newarray .int, 2) := by decide +kernel
theorem dX4_init_33 : decode cX4_init 33 = .ok (.putfield 28, 3) := by decide +kernel
theorem dX4_init_36 : decode cX4_init 36 = .ok (.aload_n 0, 1) := by decide +kernel
theorem dX4_init_37 : decode cX4_init 37 = .ok (.bipush 40, 2) := by decide +kernel
theorem dX4_init_39 : decode cX4_init 39 = .ok (.newarray .int, 2) := by decide +kernel
theorem dX4_init_41 : decode cX4_init 41 = .ok (.putfield 31, 3) := by decide +kernel
theorem dX4_init_44 : decode cX4_init 44 = .ok (.aload_n 0, 1) := by decide +kernel
theorem dX4_init_45 : decode cX4_init 45 = .ok (.bipush 80, 2) := by decide +kernel
theorem dX4_init_47 : decode cX4_init 47 = .ok (.newarray .int, 2) := by decide +kernel
theorem dX4_init_49 : decode cX4_init 49 = .ok (.putfield 34, 3) := by decide +kernel
theorem dX4_init_52 : decode cX4_init 52 = .ok (.aload_n 0, 1) := by decide +kernel
theorem dX4_init_53 : decode cX4_init 53 = .ok (.bipush 80, 2) := by decide +kernel
theorem dX4_init_55 : decode cX4_init 55 = .ok (.newarray .int, 2) := by decide +kernel
theorem dX4_init_57 : decode cX4_init 57 = .ok (.putfield 37, 3) := by decide +kernel
theorem dX4_init_60 : decode cX4_init 60 = .ok (.return_, 1) := by decide +kernel
theorem mt_X4_init : MT yX4_init cX4_init 1 none 0 := ⟨wd_357, wd_11, by decide +kernel, by decide +kernel, by decide +kernel⟩
theorem df_X4_init : ∀ k, k < 12 → defaultValue (tyX4 k) = dfV 3 k := by decide +kernel
theorem hv_4 (g : GT) : ∀ k, k < nfF 3 → (updV (updV (updV (updV (updV (updV (updV (dfV 3) 0 (.ref (g.2.1 31))) 1 (.ref (g.2.1 32))) 2 (.ref (g.2.1 33))) 3 (.ref (g.2.1 34))) 4 (.ref (g.2.1 35))) 6 (.ref (g.2.1 36))) 7 (.ref (g.2.1 37))) k = fval g.2.1 st_B 3 k
  | 0, _ => rfl
  | 1, _ => rfl
  | 2, _ => rfl
  | 3, _ => rfl
  | 4, _ => rfl
  | 5, _ => rfl
  | 6, _ => rfl
  | 7, _ => rfl
  | 8, _ => rfl
  | 9, _ => rfl
  | 10, _ => rfl
  | 11, _ => rfl
  | k + 12, h => absurd h (Nat.not_lt.mpr (Nat.le_add_left _ _))
set_option maxRecDepth 20000 in
theorem ini_4 (l : Launch) {g : GT} {N : Nat} (hN : AD g N) : INI l g st_B yX4_init cX4_init { frames := 1, cells := 7, slots := 332, locals := 12 } 3 7 7 332 [3] [25, 24, 23, 22, 21, 20, 19] := by
  refine ini_of (by decide) rfl ?_
  intro p e s m args below meth c hC hr hlocks hin hA
  have hAc : g.2.1 3 ≤ g.2.1 3 := Nat.le_refl _
  have hC : HI p s m args c cX4_init 1 RX4 g := hC
  rw [show g.2.1 3 + 1 = N + 103 by rw [hN 3 (by decide)]; rfl]
  refine zi_aload hC dX4_init_0 rfl 0 rfl ?_
  refine zi_obj hC wd_358 dX4_init_1 ⟨Nat.le_of_ble_eq_true rfl, Nat.le_of_ble_eq_true rfl⟩ ?_
  refine zi_aload hC dX4_init_4 rfl 0 rfl ?_
  refine zi_bipush hC (x := 12) dX4_init_5 rfl ?_
  refine zi_newa hC hA (j := 19) (len := 12) (atype := .long) 1 12 (by decide) rfl wd_131 (by decide) rfl (Nat.le_of_ble_eq_true rfl) (by rw [hN 31 (by decide)]; rfl) rfl rfl ⟨Nat.le_of_ble_eq_true rfl, Nat.le_of_ble_eq_true rfl⟩ (fun _ => rfl) dX4_init_7 ?_
  refine zi_putF hC cj_3 hAc hin rfl (f := 0) (by decide) wd_359 rfl (ty := (.array .long)) rfl rfl rfl dX4_init_9 ?_
  refine zi_aload hC dX4_init_12 rfl 0 rfl ?_
  refine zi_bipush hC (x := 40) dX4_init_13 rfl ?_
  refine zi_newa hC hA (j := 20) (len := 40) (atype := .int) 2 52 (by decide) rfl wd_44 (by decide) rfl (Nat.le_of_ble_eq_true rfl) (by rw [hN 32 (by decide)]; rfl) rfl rfl ⟨Nat.le_of_ble_eq_true rfl, Nat.le_of_ble_eq_true rfl⟩ (fun _ => rfl) dX4_init_15 ?_
  refine zi_putF hC cj_3 hAc hin rfl (f := 1) (by decide) wd_360 rfl (ty := (.array .int)) rfl rfl rfl dX4_init_17 ?_
  refine zi_aload hC dX4_init_20 rfl 0 rfl ?_
  refine zi_bipush hC (x := 40) dX4_init_21 rfl ?_
  refine zi_newa hC hA (j := 21) (len := 40) (atype := .int) 3 92 (by decide) rfl wd_44 (by decide) rfl (Nat.le_of_ble_eq_true rfl) (by rw [hN 33 (by decide)]; rfl) rfl rfl ⟨Nat.le_of_ble_eq_true rfl, Nat.le_of_ble_eq_true rfl⟩ (fun _ => rfl) dX4_init_23 ?_
  refine zi_putF hC cj_3 hAc hin rfl (f := 2) (by decide) wd_361 rfl (ty := (.array .int)) rfl rfl rfl dX4_init_25 ?_
  refine zi_aload hC dX4_init_28 rfl 0 rfl ?_
  refine zi_bipush hC (x := 40) dX4_init_29 rfl ?_
  refine zi_newa hC hA (j := 22) (len := 40) (atype := .int) 4 132 (by decide) rfl wd_44 (by decide) rfl (Nat.le_of_ble_eq_true rfl) (by rw [hN 34 (by decide)]; rfl) rfl rfl ⟨Nat.le_of_ble_eq_true rfl, Nat.le_of_ble_eq_true rfl⟩ (fun _ => rfl) dX4_init_31 ?_
  refine zi_putF hC cj_3 hAc hin rfl (f := 3) (by decide) wd_362 rfl (ty := (.array .int)) rfl rfl rfl dX4_init_33 ?_
  refine zi_aload hC dX4_init_36 rfl 0 rfl ?_
  refine zi_bipush hC (x := 40) dX4_init_37 rfl ?_
  refine zi_newa hC hA (j := 23) (len := 40) (atype := .int) 5 172 (by decide) rfl wd_44 (by decide) rfl (Nat.le_of_ble_eq_true rfl) (by rw [hN 35 (by decide)]; rfl) rfl rfl ⟨Nat.le_of_ble_eq_true rfl, Nat.le_of_ble_eq_true rfl⟩ (fun _ => rfl) dX4_init_39 ?_
  refine zi_putF hC cj_3 hAc hin rfl (f := 4) (by decide) wd_364 rfl (ty := (.array .int)) rfl rfl rfl dX4_init_41 ?_
  refine zi_aload hC dX4_init_44 rfl 0 rfl ?_
  refine zi_bipush hC (x := 80) dX4_init_45 rfl ?_
  refine zi_newa hC hA (j := 24) (len := 80) (atype := .int) 6 252 (by decide) rfl wd_44 (by decide) rfl (Nat.le_of_ble_eq_true rfl) (by rw [hN 36 (by decide)]; rfl) rfl rfl ⟨Nat.le_of_ble_eq_true rfl, Nat.le_of_ble_eq_true rfl⟩ (fun _ => rfl) dX4_init_47 ?_
  refine zi_putF hC cj_3 hAc hin rfl (f := 6) (by decide) wd_366 rfl (ty := (.array .int)) rfl rfl rfl dX4_init_49 ?_
  refine zi_aload hC dX4_init_52 rfl 0 rfl ?_
  refine zi_bipush hC (x := 80) dX4_init_53 rfl ?_
  refine zi_newa hC hA (j := 25) (len := 80) (atype := .int) 7 332 (by decide) rfl wd_44 (by decide) rfl (Nat.le_of_ble_eq_true rfl) (by rw [hN 37 (by decide)]; rfl) rfl rfl ⟨Nat.le_of_ble_eq_true rfl, Nat.le_of_ble_eq_true rfl⟩ (fun _ => rfl) dX4_init_55 ?_
  refine zi_putF hC cj_3 hAc hin rfl (f := 7) (by decide) wd_367 rfl (ty := (.array .int)) rfl rfl rfl dX4_init_57 ?_
  exact zi_ret hC hr hlocks (fun k hk => hv_4 g k hk) rfl rfl (by rw [hN 3 (by decide)]; rfl) dX4_init_60
