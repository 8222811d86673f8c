theorem dX11_init_0 : decode cX11_init 0 = .ok (.aload_n 0, 1) := by decide +kernel
theorem dX11_init_1 : decode cX11_init 1 = .ok (.invokespecial 1, 3) := by decide +kernel
theorem dX11_init_4 : decode cX11_init 4 = .ok (.aload_n 0, 1) := by decide +kernel
theorem dX11_init_5 : decode cX11_init 5 = .ok (.bipush 12, 2) := by decide +kernel
theorem dX11_init_7 : decode cX11_init 7 = .ok (.newarray .int, 2) := by decide +kernel
theorem dX11_init_9 : decode cX11_init 9 = .ok (.putfield 9, 3) := by decide +kernel
theorem dX11_init_12 : decode cX11_init 12 = .ok (.aload_n 0, 1) := by decide +kernel
theorem dX11_init_13 : decode cX11_init 13 = .ok (.bipush 20, 2) := by decide +kernel
theorem dX11_init_15 : decode cX11_init 15 = .ok (.newarray .int, 2) := by decide +kernel
theorem dX11_init_17 : decode cX11_init 17 = .ok (.putfield 13, 3) := by decide +kernel
theorem dX11_init_20 : decode cX11_init 20 = .ok (.aload_n 0, 1) := by decide +kernel
theorem dX11_init_21 : decode cX11_init 21 = .ok (.new 16, 3) := by decide +kernel
theorem dX11_init_24 : decode cX11_init 24 = .ok (.dup, 1) := by decide +kernel
theorem dX11_init_25 : decode cX11_init 25 = .ok (.invokespecial 18, 3) := by decide +kernel
theorem dX11_init_28 : decode cX11_init 28 = .ok (.putfield 19, 3) := by decide +kernel
theorem dX11_init_31 : decode cX11_init 31 = .ok (.aload_n 0, 1) := by decide +kernel
theorem dX11_init_32 : decode cX11_init 32 = .ok (.new 23, 3) := by decide +kernel
theorem dX11_init_35 : decode cX11_init 35 = .ok (.dup, 1) := by decide +kernel
theorem dX11_init_36 : decode cX11_init 36 = .ok (.invokespecial 25, 3) := by decide +kernel
theorem dX11_init_39 : decode cX11_init 39 = .ok (.putfield 26, 3) := by decide +kernel
theorem dX11_init_42 : decode cX11_init 42 = .ok (.aload_n 0, 1) := by decide +kernel
theorem dX11_init_43 : decode cX11_init 43 = .ok (.new 30, 3) := by decide +kernel
theorem dX11_init_46 : decode cX11_init 46 = .ok (.dup, 1) := by decide +kernel
theorem dX11_init_47 : decode cX11_init 47 = .ok (.invokespecial 32, 3) := by decide +kernel
theorem dX11_init_50 : decode cX11_init 50 = .ok (.putfield 33, 3) := by decide +kernel
theorem dX11_init_53 : decode cX11_init 53 = .ok (.aload_n 0, 1) := by decide +kernel
theorem dX11_init_54 : decode cX11_init 54 = .ok (.new 37, 3) := by decide +kernel
theorem dX11_init_57 : decode cX11_init 57 = .ok (.dup, 1) := by decide +kernel
theorem dX11_init_58 : decode cX11_init 58 = .ok (.invokespecial 39, 3) := by decide +kernel
theorem dX11_init_61 : decode cX11_init 61 = .ok (.putfield 40, 3) := by decide +kernel
theorem dX11_init_64 : decode cX11_init 64 = .ok (.aload_n 0, 1) := by decide +kernel
theorem dX11_init_65 : decode cX11_init 65 = .ok (.new 44, 3) := by decide +kernel
theorem dX11_init_68 : decode cX11_init 68 = .ok (.dup, 1) := by decide +kernel
theorem dX11_init_69 : decode cX11_init 69 = .ok (.invokespecial 46, 3) := by decide +kernel
theorem dX11_init_72 : decode cX11_init 72 = .ok (.putfield 47, 3) := by decide +kernel
theorem dX11_init_75 : decode cX11_init 75 = .ok (.aload_n 0, 1) := by decide +kernel
theorem dX11_init_76 : decode cX11_init 76 = .ok (.new 51, 3) := by decide +kernel
theorem dX11_init_79 : decode cX11_init 79 = .ok (.dup, 1) := by decide +kernel
theorem dX11_init_80 : decode cX11_init 80 = .ok (.invokespecial 53, 3) := by decide +kernel
theorem dX11_init_83 : decode cX11_init 83 = .ok (.putfield 54, 3) := by decide +kernel
theorem dX11_init_86 : decode cX11_init 86 = .ok (.aload_n 0, 1) := by decide +kernel
theorem dX11_init_87 : decode cX11_init 87 = .ok (.new 58, 3) := by decide +kernel
theorem dX11_init_90 : decode cX11_init 90 = .ok (.dup, 1) := by decide +kernel
theorem dX11_init_91 : decode cX11_init 91 = .ok (.invokespecial 60, 3) := by decide +kernel
theorem dX11_init_94 : decode cX11_init 94 = .ok (.putfield 61, 3) := by decide +kernel
theorem dX11_init_97 : decode cX11_init 97 = .ok (.aload_n 0, 1) := by decide +kernel
theorem dX11_init_98 : decode cX11_init 98 = .ok (.new 65, 3) := by decide +kernel
theorem dX11_init_101 : decode cX11_init 101 = .ok (.dup, 1) := by decide +kernel
theorem dX11_init_102 : decode cX11_init 102 = .ok (.invokespecial 67, 3) := by decide +kernel
theorem dX11_init_105 : decode cX11_init 105 = .ok (.putfield 68, 3) := by decide +kernel
theorem dX11_init_108 : decode cX11_init 108 = .ok (.aload_n 0, 1) := by decide +kernel
theorem dX11_init_109 : decode cX11_init 109 = .ok (.new 72, 3) := by decide +kernel
theorem dX11_init_112 : decode cX11_init 112 = .ok (.dup, 1) := by decide +kernel
theorem dX11_init_113 : decode cX11_init 113 = .ok (.invokespecial 74, 3) := by decide +kernel
theorem dX11_init_116 : decode cX11_init 116 = .ok (.putfield 75, 3) := by decide +kernel
theorem dX11_init_119 : decode cX11_init 119 = .ok (.aload_n 0, 1) := by decide +kernel
theorem dX11_init_120 : decode cX11_init 120 = .ok (.new 79, 3) := by decide +kernel
theorem dX11_init_123 : decode cX11_init 123 = .ok (.dup, 1) := by decide +kernel
theorem dX11_init_124 : decode cX11_init 124 = .ok (.invokespecial 81, 3) := by decide +kernel
theorem dX11_init_127 : decode cX11_init 127 = .ok (.putfield 82, 3) := by decide +kernel
theorem dX11_init_130 : decode cX11_init 130 = .ok (.return_, 1) := by decide +kernel
theorem mt_X11_init : MT yX11_init cX11_init 1 none 0 := ⟨wd_25, wd_1, by decide +kernel, by decide +kernel, by decide +kernel⟩
theorem df_X11_init : ∀ k, k < 17 → defaultValue (tyX11 k) = dfV 10 k := by decide +kernel
theorem hv_11 (g : GT) : ∀ k, k < nfF 10 → (updV (updV (updV (updV (updV (updV (updV (updV (updV (updV (updV (updV (dfV 10) 4 (.ref (g.2.1 69))) 6 (.ref (g.2.1 70))) 7 (.ref (g.2.1 7))) 8 (.ref (g.2.1 0))) 9 (.ref (g.2.1 9))) 10 (.ref (g.2.1 2))) 11 (.ref (g.2.1 4))) 12 (.ref (g.2.1 5))) 13 (.ref (g.2.1 8))) 14 (.ref (g.2.1 6))) 15 (.ref (g.2.1 1))) 16 (.ref (g.2.1 3))) k = fval g.2.1 st_B 10 k
  | 0, _ => rfl
  | 1, _ => rfl
  | 2, _ => rfl
  | 3, _ => rfl
  | 4, _ => rfl
  | 5, _ => rfl
  | 6, _ => rfl
  | 7, _ => rfl
  | 8, _ => rfl
  | 9, _ => rfl
  | 10, _ => rfl
  | 11, _ => rfl
  | 12, _ => rfl
  | 13, _ => rfl
  | 14, _ => rfl
  | 15, _ => rfl
  | 16, _ => rfl
  | k + 17, h => absurd h (Nat.not_lt.mpr (Nat.le_add_left _ _))
set_option maxRecDepth 20000 in
theorem ini_11 (l : Launch) {g : GT} {N : Nat} (hN : AD g N) : INI l g st_B yX11_init cX11_init { frames := 2, cells := 109, slots := 8688, locals := 32 } 10 109 109 8688 [10, 3, 1, 6, 8, 5, 4, 2, 9, 0, 7] [25, 24, 23, 22, 21, 20, 19, 12, 11, 10, 9, 8, 42, 41, 40, 39, 38, 37, 48, 47, 46, 45, 44, 36, 35, 34, 33, 32, 31, 30, 29, 28, 27, 26, 18, 59, 60, 61, 62, 63, 64, 65, 66, 67, 68, 69, 70, 71, 72, 73, 74, 75, 76, 77, 78, 79, 80, 81, 82, 83, 84, 85, 86, 87, 88, 89, 90, 91, 92, 93, 94, 95, 96, 97, 98, 17, 16, 15, 14, 13, 56, 55, 54, 53, 52, 51, 50, 49, 7, 6, 5, 4, 3, 2, 1, 0, 43, 58, 57] := by
  refine ini_of (by decide) rfl ?_
  intro p e s m args below meth c hC hr hlocks hin hA
  have hAc : g.2.1 10 ≤ g.2.1 10 := Nat.le_refl _
  have hC : HI p s m args c cX11_init 1 RX11 g := hC
  rw [show g.2.1 10 + 1 = N + 1 by rw [hN 10 (by decide)]; rfl]
  refine zi_aload hC dX11_init_0 rfl 0 rfl ?_
  refine zi_obj hC wd_26 dX11_init_1 ⟨Nat.le_of_ble_eq_true rfl, Nat.le_of_ble_eq_true rfl⟩ ?_
  refine zi_aload hC dX11_init_4 rfl 0 rfl ?_
  refine zi_bipush hC (x := 12) dX11_init_5 rfl ?_
  refine zi_newa hC hA (j := 57) (len := 12) (atype := .int) 1 12 (by decide) rfl wd_44 (by decide) rfl (Nat.le_of_ble_eq_true rfl) (by rw [hN 69 (by decide)]; rfl) rfl rfl ⟨Nat.le_of_ble_eq_true rfl, Nat.le_of_ble_eq_true rfl⟩ (fun _ => rfl) dX11_init_7 ?_
  refine zi_putF hC cj_10 hAc hin rfl (f := 4) (by decide) wd_404 rfl (ty := (.array .int)) rfl rfl rfl dX11_init_9 ?_
  refine zi_aload hC dX11_init_12 rfl 0 rfl ?_
  refine zi_bipush hC (x := 20) dX11_init_13 rfl ?_
  refine zi_newa hC hA (j := 58) (len := 20) (atype := .int) 2 32 (by decide) rfl wd_44 (by decide) rfl (Nat.le_of_ble_eq_true rfl) (by rw [hN 70 (by decide)]; rfl) rfl rfl ⟨Nat.le_of_ble_eq_true rfl, Nat.le_of_ble_eq_true rfl⟩ (fun _ => rfl) dX11_init_15 ?_
  refine zi_putF hC cj_10 hAc hin rfl (f := 6) (by decide) wd_406 rfl (ty := (.array .int)) rfl rfl rfl dX11_init_17 ?_
  refine zi_aload hC dX11_init_20 rfl 0 rfl ?_
  refine zi_make hC hA 4 194 (ini_8 l hN) cj_7 df_X8_init mt_X8_init rfl wd_32 wd_31 wd_29 wd_30 wd_2 (by rw [hN 7 (by decide)]; rfl) ⟨Nat.le_of_ble_eq_true rfl, Nat.le_of_ble_eq_true rfl⟩ rfl rfl rfl rfl ⟨Nat.le_of_ble_eq_true rfl, Nat.le_of_ble_eq_true rfl⟩ (Nat.le_of_ble_eq_true rfl) dX11_init_21 dX11_init_24 dX11_init_25 ?_
  refine zi_putF hC cj_10 hAc hin rfl (f := 7) (by decide) wd_407 rfl (ty := (.object "LifeKeys$Tape")) rfl rfl rfl dX11_init_28 ?_
  refine zi_aload hC dX11_init_31 rfl 0 rfl ?_
  refine zi_make hC hA 13 584 (ini_1 l hN) cj_0 df_X1_init mt_X1_init rfl wd_48 wd_47 wd_45 wd_46 wd_3 (by rw [hN 0 (by decide)]; rfl) ⟨Nat.le_of_ble_eq_true rfl, Nat.le_of_ble_eq_true rfl⟩ rfl rfl rfl rfl ⟨Nat.le_of_ble_eq_true rfl, Nat.le_of_ble_eq_true rfl⟩ (Nat.le_of_ble_eq_true rfl) dX11_init_32 dX11_init_35 dX11_init_36 ?_
  refine zi_putF hC cj_10 hAc hin rfl (f := 8) (by decide) wd_408 rfl (ty := (.object "LifeKeys$Keys")) rfl rfl rfl dX11_init_39 ?_
  refine zi_aload hC dX11_init_42 rfl 0 rfl ?_
  refine zi_make hC hA 22 2302 (ini_10 l hN) cj_9 df_X10_init mt_X10_init rfl wd_94 wd_93 wd_91 wd_92 wd_4 (by rw [hN 9 (by decide)]; rfl) ⟨Nat.le_of_ble_eq_true rfl, Nat.le_of_ble_eq_true rfl⟩ rfl rfl rfl rfl ⟨Nat.le_of_ble_eq_true rfl, Nat.le_of_ble_eq_true rfl⟩ (Nat.le_of_ble_eq_true rfl) dX11_init_43 dX11_init_46 dX11_init_47 ?_
  refine zi_putF hC cj_10 hAc hin rfl (f := 9) (by decide) wd_409 rfl (ty := (.object "LifeKeys$Ties")) rfl rfl rfl dX11_init_50 ?_
  refine zi_aload hC dX11_init_53 rfl 0 rfl ?_
  refine zi_make hC hA 69 3029 (ini_3 l hN) cj_2 df_X3_init mt_X3_init rfl wd_135 wd_134 wd_132 wd_133 wd_5 (by rw [hN 2 (by decide)]; rfl) ⟨Nat.le_of_ble_eq_true rfl, Nat.le_of_ble_eq_true rfl⟩ rfl rfl rfl rfl ⟨Nat.le_of_ble_eq_true rfl, Nat.le_of_ble_eq_true rfl⟩ (Nat.le_of_ble_eq_true rfl) dX11_init_54 dX11_init_57 dX11_init_58 ?_
  refine zi_putF hC cj_10 hAc hin rfl (f := 10) (by decide) wd_410 rfl (ty := (.object "LifeKeys$Partings")) rfl rfl rfl dX11_init_61 ?_
  refine zi_aload hC dX11_init_64 rfl 0 rfl ?_
  refine zi_make hC hA 74 6584 (ini_5 l hN) cj_4 df_X5_init mt_X5_init rfl wd_174 wd_173 wd_171 wd_172 wd_6 (by rw [hN 4 (by decide)]; rfl) ⟨Nat.le_of_ble_eq_true rfl, Nat.le_of_ble_eq_true rfl⟩ rfl rfl rfl rfl ⟨Nat.le_of_ble_eq_true rfl, Nat.le_of_ble_eq_true rfl⟩ (Nat.le_of_ble_eq_true rfl) dX11_init_65 dX11_init_68 dX11_init_69 ?_
  refine zi_putF hC cj_10 hAc hin rfl (f := 11) (by decide) wd_411 rfl (ty := (.object "LifeKeys$Rules")) rfl rfl rfl dX11_init_72 ?_
  refine zi_aload hC dX11_init_75 rfl 0 rfl ?_
  refine zi_make hC hA 82 7513 (ini_6 l hN) cj_5 df_X6_init mt_X6_init rfl wd_228 wd_227 wd_225 wd_226 wd_7 (by rw [hN 5 (by decide)]; rfl) ⟨Nat.le_of_ble_eq_true rfl, Nat.le_of_ble_eq_true rfl⟩ rfl rfl rfl rfl ⟨Nat.le_of_ble_eq_true rfl, Nat.le_of_ble_eq_true rfl⟩ (Nat.le_of_ble_eq_true rfl) dX11_init_76 dX11_init_79 dX11_init_80 ?_
  refine zi_putF hC cj_10 hAc hin rfl (f := 12) (by decide) wd_412 rfl (ty := (.object "LifeKeys$Sayings")) rfl rfl rfl dX11_init_83 ?_
  refine zi_aload hC dX11_init_86 rfl 0 rfl ?_
  refine zi_make hC hA 88 7719 (ini_9 l hN) cj_8 df_X9_init mt_X9_init rfl wd_263 wd_262 wd_260 wd_261 wd_8 (by rw [hN 8 (by decide)]; rfl) ⟨Nat.le_of_ble_eq_true rfl, Nat.le_of_ble_eq_true rfl⟩ rfl rfl rfl rfl ⟨Nat.le_of_ble_eq_true rfl, Nat.le_of_ble_eq_true rfl⟩ (Nat.le_of_ble_eq_true rfl) dX11_init_87 dX11_init_90 dX11_init_91 ?_
  refine zi_putF hC cj_10 hAc hin rfl (f := 13) (by decide) wd_413 rfl (ty := (.object "LifeKeys$Things")) rfl rfl rfl dX11_init_94 ?_
  refine zi_aload hC dX11_init_97 rfl 0 rfl ?_
  refine zi_make hC hA 95 8138 (ini_7 l hN) cj_6 df_X7_init mt_X7_init rfl wd_293 wd_292 wd_290 wd_291 wd_9 (by rw [hN 6 (by decide)]; rfl) ⟨Nat.le_of_ble_eq_true rfl, Nat.le_of_ble_eq_true rfl⟩ rfl rfl rfl rfl ⟨Nat.le_of_ble_eq_true rfl, Nat.le_of_ble_eq_true rfl⟩ (Nat.le_of_ble_eq_true rfl) dX11_init_98 dX11_init_101 dX11_init_102 ?_
  refine zi_putF hC cj_10 hAc hin rfl (f := 14) (by decide) wd_414 rfl (ty := (.object "LifeKeys$Signatures")) rfl rfl rfl dX11_init_105 ?_
  refine zi_aload hC dX11_init_108 rfl 0 rfl ?_
  refine zi_make hC hA 101 8344 (ini_2 l hN) cj_1 df_X2_init mt_X2_init rfl wd_328 wd_327 wd_325 wd_326 wd_10 (by rw [hN 1 (by decide)]; rfl) ⟨Nat.le_of_ble_eq_true rfl, Nat.le_of_ble_eq_true rfl⟩ rfl rfl rfl rfl ⟨Nat.le_of_ble_eq_true rfl, Nat.le_of_ble_eq_true rfl⟩ (Nat.le_of_ble_eq_true rfl) dX11_init_109 dX11_init_112 dX11_init_113 ?_
  refine zi_putF hC cj_10 hAc hin rfl (f := 15) (by decide) wd_415 rfl (ty := (.object "LifeKeys$Loans")) rfl rfl rfl dX11_init_116 ?_
  refine zi_aload hC dX11_init_119 rfl 0 rfl ?_
  refine zi_make hC hA 109 8688 (ini_4 l hN) cj_3 df_X4_init mt_X4_init rfl wd_356 wd_355 wd_353 wd_354 wd_11 (by rw [hN 3 (by decide)]; rfl) ⟨Nat.le_of_ble_eq_true rfl, Nat.le_of_ble_eq_true rfl⟩ rfl rfl rfl rfl ⟨Nat.le_of_ble_eq_true rfl, Nat.le_of_ble_eq_true rfl⟩ (Nat.le_of_ble_eq_true rfl) dX11_init_120 dX11_init_123 dX11_init_124 ?_
  refine zi_putF hC cj_10 hAc hin rfl (f := 16) (by decide) wd_416 rfl (ty := (.object "LifeKeys$Reach")) rfl rfl rfl dX11_init_127 ?_
  exact zi_ret hC hr hlocks (fun k hk => hv_11 g k hk) rfl rfl (by rw [hN 10 (by decide)]; rfl) dX11_init_130

theorem dX12_init_0 : decode cX12_init 0 = .ok (.aload_n 0, 1) := by decide +kernel
theorem dX12_init_1 : decode cX12_init 1 = .ok (.invokespecial 1, 3) := by decide +kernel
theorem dX12_init_4 : decode cX12_init 4 = .ok (.aload_n 0, 1) := by decide +kernel
theorem dX12_init_5 : decode cX12_init 5 = .ok (.bipush 40, 2) := by decide +kernel
theorem dX12_init_7 : decode cX12_init 7 = .ok (.newarray .int, 2) := by decide +kernel
theorem dX12_init_9 : decode cX12_init 9 = .ok (.putfield 9, 3) := by decide +kernel
theorem dX12_init_12 : decode cX12_init 12 = .ok (.aload_n 0, 1) := by decide +kernel
theorem dX12_init_13 : decode cX12_init 13 = .ok (.bipush 40, 2) := by decide +kernel
theorem dX12_init_15 : decode cX12_init 15 = .ok (.newarray .int, 2) := by decide +kernel
theorem dX12_init_17 : decode cX12_init 17 = .ok (.putfield 13, 3) := by decide +kernel
theorem dX12_init_20 : decode cX12_init 20 = .ok (.aload_n 0, 1) := by decide +kernel
theorem dX12_init_21 : decode cX12_init 21 = .ok (.bipush 40, 2) := by decide +kernel
theorem dX12_init_23 : decode cX12_init 23 = .ok (.newarray .int, 2) := by decide +kernel
theorem dX12_init_25 : decode cX12_init 25 = .ok (.putfield 16, 3) := by decide +kernel
theorem dX12_init_28 : decode cX12_init 28 = .ok (.aload_n 0, 1) := by decide +kernel
theorem dX12_init_29 : decode cX12_init 29 = .ok (.bipush 40, 2) := by decide +kernel
theorem dX12_init_31 : decode cX12_init 31 = .ok (.newarray .int, 2) := by decide +kernel
theorem dX12_init_33 : decode cX12_init 33 = .ok (.putfield 19, 3) := by decide +kernel
theorem dX12_init_36 : decode cX12_init 36 = .ok (.aload_n 0, 1) := by decide +kernel
theorem dX12_init_37 : decode cX12_init 37 = .ok (.bipush 40, 2) := by decide +kernel
theorem dX12_init_39 : decode cX12_init 39 = .ok (.newarray .int, 2) := by decide +kernel
theorem dX12_init_41 : decode cX12_init 41 = .ok (.putfield 22, 3) := by decide +kernel
theorem dX12_init_44 : decode cX12_init 44 = .ok (.aload_n 0, 1) := by decide +kernel
theorem dX12_init_45 : decode cX12_init 45 = .ok (.sipush 600, 3) := by decide +kernel
theorem dX12_init_48 : decode cX12_init 48 = .ok (.newarray .int, 2) := by decide +kernel
theorem dX12_init_50 : decode cX12_init 50 = .ok (.putfield 25, 3) := by decide +kernel
theorem dX12_init_53 : decode cX12_init 53 = .ok (.aload_n 0, 1) := by decide +kernel
theorem dX12_init_54 : decode cX12_init 54 = .ok (.sipush 600, 3) := by decide +kernel
theorem dX12_init_57 : decode cX12_init 57 = .ok (.newarray .int, 2) := by decide +kernel
theorem dX12_init_59 : decode cX12_init 59 = .ok (.putfield 28, 3) := by decide +kernel
theorem dX12_init_62 : decode cX12_init 62 = .ok (.aload_n 0, 1) := by decide +kernel
theorem dX12_init_63 : decode cX12_init 63 = .ok (.sipush 600, 3) := by decide +kernel
theorem dX12_init_66 : decode cX12_init 66 = .ok (.newarray .int, 2) := by decide +kernel
theorem dX12_init_68 : decode cX12_init 68 = .ok (.putfield 31, 3) := by decide +kernel
theorem dX12_init_71 : decode cX12_init 71 = .ok (.aload_n 0, 1) := by decide +kernel
theorem dX12_init_72 : decode cX12_init 72 = .ok (.sipush 600, 3) := by decide +kernel
theorem dX12_init_75 : decode cX12_init 75 = .ok (.newarray .boolean, 2) := by decide +kernel
theorem dX12_init_77 : decode cX12_init 77 = .ok (.putfield 34, 3) := by decide +kernel
theorem dX12_init_80 : decode cX12_init 80 = .ok (.aload_n 0, 1) := by decide +kernel
theorem dX12_init_81 : decode cX12_init 81 = .ok (.bipush 12, 2) := by decide +kernel
theorem dX12_init_83 : decode cX12_init 83 = .ok (.newarray .boolean, 2) := by decide +kernel
theorem dX12_init_85 : decode cX12_init 85 = .ok (.putfield 38, 3) := by decide +kernel
theorem dX12_init_88 : decode cX12_init 88 = .ok (.aload_n 0, 1) := by decide +kernel
theorem dX12_init_89 : decode cX12_init 89 = .ok (.sipush 160, 3) := by decide +kernel
theorem dX12_init_92 : decode cX12_init 92 = .ok (.newarray .byte, 2) := by decide +kernel
theorem dX12_init_94 : decode cX12_init 94 = .ok (.putfield 41, 3) := by decide +kernel
theorem dX12_init_97 : decode cX12_init 97 = .ok (.aload_n 0, 1) := by decide +kernel
theorem dX12_init_98 : decode cX12_init 98 = .ok (.bipush 40, 2) := by decide +kernel
theorem dX12_init_100 : decode cX12_init 100 = .ok (.newarray .int, 2) := by decide +kernel
theorem dX12_init_102 : decode cX12_init 102 = .ok (.putfield 45, 3) := by decide +kernel
theorem dX12_init_105 : decode cX12_init 105 = .ok (.aload_n 0, 1) := by decide +kernel
theorem dX12_init_106 : decode cX12_init 106 = .ok (.bipush 40, 2) := by decide +kernel
theorem dX12_init_108 : decode cX12_init 108 = .ok (.newarray .int, 2) := by decide +kernel
theorem dX12_init_110 : decode cX12_init 110 = .ok (.putfield 48, 3) := by decide +kernel
theorem dX12_init_113 : decode cX12_init 113 = .ok (.aload_n 0, 1) := by decide +kernel
theorem dX12_init_114 : decode cX12_init 114 = .ok (.bipush 40, 2) := by decide +kernel
theorem dX12_init_116 : decode cX12_init 116 = .ok (.newarray .int, 2) := by decide +kernel
theorem dX12_init_118 : decode cX12_init 118 = .ok (.putfield 51, 3) := by decide +kernel
theorem dX12_init_121 : decode cX12_init 121 = .ok (.aload_n 0, 1) := by decide +kernel
theorem dX12_init_122 : decode cX12_init 122 = .ok (.bipush 40, 2) := by decide +kernel
theorem dX12_init_124 : decode cX12_init 124 = .ok (.newarray .int, 2) := by decide +kernel
theorem dX12_init_126 : decode cX12_init 126 = .ok (.putfield 54, 3) := by decide +kernel
theorem dX12_init_129 : decode cX12_init 129 = .ok (.aload_n 0, 1) := by decide +kernel
theorem dX12_init_130 : decode cX12_init 130 = .ok (.bipush 40, 2) := by decide +kernel
theorem dX12_init_132 : decode cX12_init 132 = .ok (.newarray .int, 2) := by decide +kernel
theorem dX12_init_134 : decode cX12_init 134 = .ok (.putfield 57, 3) := by decide +kernel
theorem dX12_init_137 : decode cX12_init 137 = .ok (.aload_n 0, 1) := by decide +kernel
theorem dX12_init_138 : decode cX12_init 138 = .ok (.bipush 40, 2) := by decide +kernel
theorem dX12_init_140 : decode cX12_init 140 = .ok (.newarray .int, 2) := by decide +kernel
theorem dX12_init_142 : decode cX12_init 142 = .ok (.putfield 60, 3) := by decide +kernel
theorem dX12_init_145 : decode cX12_init 145 = .ok (.aload_n 0, 1) := by decide +kernel
theorem dX12_init_146 : decode cX12_init 146 = .ok (.bipush 40, 2) := by decide +kernel
theorem dX12_init_148 : decode cX12_init 148 = .ok (.newarray .int, 2) := by decide +kernel
theorem dX12_init_150 : decode cX12_init 150 = .ok (.putfield 63, 3) := by decide +kernel
theorem dX12_init_153 : decode cX12_init 153 = .ok (.aload_n 0, 1) := by decide +kernel
theorem dX12_init_154 : decode cX12_init 154 = .ok (.bipush 40, 2) := by decide +kernel
theorem dX12_init_156 : decode cX12_init 156 = .ok (.newarray .int, 2) := by decide +kernel
theorem dX12_init_158 : decode cX12_init 158 = .ok (.putfield 66, 3) := by decide +kernel
theorem dX12_init_161 : decode cX12_init 161 = .ok (.aload_n 0, 1) := by decide +kernel
theorem dX12_init_162 : decode cX12_init 162 = .ok (.bipush 40, 2) := by decide +kernel
theorem dX12_init_164 : decode cX12_init 164 = .ok (.newarray .int, 2) := by decide +kernel
theorem dX12_init_166 : decode cX12_init 166 = .ok (.putfield 69, 3) := by decide +kernel
theorem dX12_init_169 : decode cX12_init 169 = .ok (.aload_n 0, 1) := by decide +kernel
theorem dX12_init_170 : decode cX12_init 170 = .ok (.sipush 480, 3) := by decide +kernel
theorem dX12_init_173 : decode cX12_init 173 = .ok (.newarray .int, 2) := by decide +kernel
theorem dX12_init_175 : decode cX12_init 175 = .ok (.putfield 72, 3) := by decide +kernel
theorem dX12_init_178 : decode cX12_init 178 = .ok (.aload_n 0, 1) := by decide +kernel
theorem dX12_init_179 : decode cX12_init 179 = .ok (.bipush 12, 2) := by decide +kernel
theorem dX12_init_181 : decode cX12_init 181 = .ok (.newarray .int, 2) := by decide +kernel
theorem dX12_init_183 : decode cX12_init 183 = .ok (.putfield 75, 3) := by decide +kernel
theorem dX12_init_186 : decode cX12_init 186 = .ok (.aload_n 0, 1) := by decide +kernel
theorem dX12_init_187 : decode cX12_init 187 = .ok (.bipush 12, 2) := by decide +kernel
theorem dX12_init_189 : decode cX12_init 189 = .ok (.newarray .int, 2) := by decide +kernel
theorem dX12_init_191 : decode cX12_init 191 = .ok (.putfield 78, 3) := by decide +kernel
theorem dX12_init_194 : decode cX12_init 194 = .ok (.aload_n 0, 1) := by decide +kernel
theorem dX12_init_195 : decode cX12_init 195 = .ok (.bipush 12, 2) := by decide +kernel
theorem dX12_init_197 : decode cX12_init 197 = .ok (.newarray .long, 2) := by decide +kernel
theorem dX12_init_199 : decode cX12_init 199 = .ok (.putfield 81, 3) := by decide +kernel
theorem dX12_init_202 : decode cX12_init 202 = .ok (.aload_n 0, 1) := by decide +kernel
theorem dX12_init_203 : decode cX12_init 203 = .ok (.sipush 3200, 3) := by decide +kernel
theorem dX12_init_206 : decode cX12_init 206 = .ok (.newarray .byte, 2) := by decide +kernel
theorem dX12_init_208 : decode cX12_init 208 = .ok (.putfield 85, 3) := by decide +kernel
theorem dX12_init_211 : decode cX12_init 211 = .ok (.aload_n 0, 1) := by decide +kernel
theorem dX12_init_212 : decode cX12_init 212 = .ok (.bipush 20, 2) := by decide +kernel
theorem dX12_init_214 : decode cX12_init 214 = .ok (.newarray .int, 2) := by decide +kernel
theorem dX12_init_216 : decode cX12_init 216 = .ok (.putfield 88, 3) := by decide +kernel
theorem dX12_init_219 : decode cX12_init 219 = .ok (.aload_n 0, 1) := by decide +kernel
theorem dX12_init_220 : decode cX12_init 220 = .ok (.bipush 40, 2) := by decide +kernel
theorem dX12_init_222 : decode cX12_init 222 = .ok (.newarray .int, 2) := by decide +kernel
theorem dX12_init_224 : decode cX12_init 224 = .ok (.putfield 91, 3) := by decide +kernel
theorem dX12_init_227 : decode cX12_init 227 = .ok (.aload_n 0, 1) := by decide +kernel
theorem dX12_init_228 : decode cX12_init 228 = .ok (.bipush 40, 2) := by decide +kernel
theorem dX12_init_230 : decode cX12_init 230 = .ok (.newarray .int, 2) := by decide +kernel
theorem dX12_init_232 : decode cX12_init 232 = .ok (.putfield 94, 3) := by decide +kernel
theorem dX12_init_235 : decode cX12_init 235 = .ok (.aload_n 0, 1) := by decide +kernel
theorem dX12_init_236 : decode cX12_init 236 = .ok (.bipush 40, 2) := by decide +kernel
theorem dX12_init_238 : decode cX12_init 238 = .ok (.newarray .int, 2) := by decide +kernel
theorem dX12_init_240 : decode cX12_init 240 = .ok (.putfield 97, 3) := by decide +kernel
theorem dX12_init_243 : decode cX12_init 243 = .ok (.aload_n 0, 1) := by decide +kernel
theorem dX12_init_244 : decode cX12_init 244 = .ok (.bipush 40, 2) := by decide +kernel
theorem dX12_init_246 : decode cX12_init 246 = .ok (.newarray .int, 2) := by decide +kernel
theorem dX12_init_248 : decode cX12_init 248 = .ok (.putfield 100, 3) := by decide +kernel
theorem dX12_init_251 : decode cX12_init 251 = .ok (.aload_n 0, 1) := by decide +kernel
theorem dX12_init_252 : decode cX12_init 252 = .ok (.bipush 40, 2) := by decide +kernel
theorem dX12_init_254 : decode cX12_init 254 = .ok (.newarray .int, 2) := by decide +kernel
theorem dX12_init_256 : decode cX12_init 256 = .ok (.putfield 103, 3) := by decide +kernel
theorem dX12_init_259 : decode cX12_init 259 = .ok (.aload_n 0, 1) := by decide +kernel
theorem dX12_init_260 : decode cX12_init 260 = .ok (.bipush 40, 2) := by decide +kernel
theorem dX12_init_262 : decode cX12_init 262 = .ok (.newarray .int, 2) := by decide +kernel
theorem dX12_init_264 : decode cX12_init 264 = .ok (.putfield 106, 3) := by decide +kernel
theorem dX12_init_267 : decode cX12_init 267 = .ok (.aload_n 0, 1) := by decide +kernel
theorem dX12_init_268 : decode cX12_init 268 = .ok (.sipush 200, 3) := by decide +kernel
theorem dX12_init_271 : decode cX12_init 271 = .ok (.newarray .int, 2) := by decide +kernel
theorem dX12_init_273 : decode cX12_init 273 = .ok (.putfield 109, 3) := by decide +kernel
theorem dX12_init_276 : decode cX12_init 276 = .ok (.aload_n 0, 1) := by decide +kernel
theorem dX12_init_277 : decode cX12_init 277 = .ok (.sipush 200, 3) := by decide +kernel
theorem dX12_init_280 : decode cX12_init 280 = .ok (.newarray .int, 2) := by decide +kernel
theorem dX12_init_282 : decode cX12_init 282 = .ok (.putfield 112, 3) := by decide +kernel
theorem dX12_init_285 : decode cX12_init 285 = .ok (.aload_n 0, 1) := by decide +kernel
theorem dX12_init_286 : decode cX12_init 286 = .ok (.sipush 200, 3) := by decide +kernel
theorem dX12_init_289 : decode cX12_init 289 = .ok (.newarray .int, 2) := by decide +kernel
theorem dX12_init_291 : decode cX12_init 291 = .ok (.putfield 115, 3) := by decide +kernel
theorem dX12_init_294 : decode cX12_init 294 = .ok (.aload_n 0, 1) := by decide +kernel
theorem dX12_init_295 : decode cX12_init 295 = .ok (.bipush 40, 2) := by decide +kernel
theorem dX12_init_297 : decode cX12_init 297 = .ok (.newarray .boolean, 2) := by decide +kernel
theorem dX12_init_299 : decode cX12_init 299 = .ok (.putfield 118, 3) := by decide +kernel
theorem dX12_init_302 : decode cX12_init 302 = .ok (.aload_n 0, 1) := by decide +kernel
theorem dX12_init_303 : decode cX12_init 303 = .ok (.bipush 40, 2) := by decide +kernel
theorem dX12_init_305 : decode cX12_init 305 = .ok (.newarray .boolean, 2) := by decide +kernel
theorem dX12_init_307 : decode cX12_init 307 = .ok (.putfield 121, 3) := by decide +kernel
theorem dX12_init_310 : decode cX12_init 310 = .ok (.aload_n 0, 1) := by decide +kernel
theorem dX12_init_311 : decode cX12_init 311 = .ok (.sipush 200, 3) := by decide +kernel
theorem dX12_init_314 : decode cX12_init 314 = .ok (.newarray .boolean, 2) := by decide +kernel
theorem dX12_init_316 : decode cX12_init 316 = .ok (.putfield 124, 3) := by decide +kernel
theorem dX12_init_319 : decode cX12_init 319 = .ok (.aload_n 0, 1) := by decide +kernel
theorem dX12_init_320 : decode cX12_init 320 = .ok (.sipush 200, 3) := by decide +kernel
theorem dX12_init_323 : decode cX12_init 323 = .ok (.newarray .boolean, 2) := by decide +kernel
theorem dX12_init_325 : decode cX12_init 325 = .ok (.putfield 127, 3) := by decide +kernel
theorem dX12_init_328 : decode cX12_init 328 = .ok (.aload_n 0, 1) := by decide +kernel
theorem dX12_init_329 : decode cX12_init 329 = .ok (.aload_n 0, 1) := by decide +kernel
theorem dX12_init_330 : decode cX12_init 330 = .ok (.getfield 41, 3) := by decide +kernel
theorem dX12_init_333 : decode cX12_init 333 = .ok (.putfield 130, 3) := by decide +kernel
theorem dX12_init_336 : decode cX12_init 336 = .ok (.aload_n 0, 1) := by decide +kernel
theorem dX12_init_337 : decode cX12_init 337 = .ok (.bipush 12, 2) := by decide +kernel
theorem dX12_init_339 : decode cX12_init 339 = .ok (.newarray .boolean, 2) := by decide +kernel
theorem dX12_init_341 : decode cX12_init 341 = .ok (.putfield 133, 3) := by decide +kernel
theorem dX12_init_344 : decode cX12_init 344 = .ok (.aload_n 0, 1) := by decide +kernel
theorem dX12_init_345 : decode cX12_init 345 = .ok (.bipush 80, 2) := by decide +kernel
theorem dX12_init_347 : decode cX12_init 347 = .ok (.newarray .int, 2) := by decide +kernel
theorem dX12_init_349 : decode cX12_init 349 = .ok (.putfield 136, 3) := by decide +kernel
theorem dX12_init_352 : decode cX12_init 352 = .ok (.aload_n 0, 1) := by decide +kernel
theorem dX12_init_353 : decode cX12_init 353 = .ok (.bipush 80, 2) := by decide +kernel
theorem dX12_init_355 : decode cX12_init 355 = .ok (.newarray .int, 2) := by decide +kernel
theorem dX12_init_357 : decode cX12_init 357 = .ok (.putfield 139, 3) := by decide +kernel
theorem dX12_init_360 : decode cX12_init 360 = .ok (.aload_n 0, 1) := by decide +kernel
theorem dX12_init_361 : decode cX12_init 361 = .ok (.bipush 80, 2) := by decide +kernel
theorem dX12_init_363 : decode cX12_init 363 = .ok (.newarray .int, 2) := by decide +kernel
theorem dX12_init_365 : decode cX12_init 365 = .ok (.putfield 142, 3) := by decide +kernel
theorem dX12_init_368 : decode cX12_init 368 = .ok (.aload_n 0, 1) := by decide +kernel
theorem dX12_init_369 : decode cX12_init 369 = .ok (.bipush 80, 2) := by decide +kernel
theorem dX12_init_371 : decode cX12_init 371 = .ok (.newarray .int, 2) := by decide +kernel
theorem dX12_init_373 : decode cX12_init 373 = .ok (.putfield 145, 3) := by decide +kernel
theorem dX12_init_376 : decode cX12_init 376 = .ok (.aload_n 0, 1) := by decide +kernel
theorem dX12_init_377 : decode cX12_init 377 = .ok (.bipush 80, 2) := by decide +kernel
theorem dX12_init_379 : decode cX12_init 379 = .ok (.newarray .int, 2) := by decide +kernel
theorem dX12_init_381 : decode cX12_init 381 = .ok (.putfield 148, 3) := by decide +kernel
theorem dX12_init_384 : decode cX12_init 384 = .ok (.aload_n 0, 1) := by decide +kernel
theorem dX12_init_385 : decode cX12_init 385 = .ok (.bipush 60, 2) := by decide +kernel
theorem dX12_init_387 : decode cX12_init 387 = .ok (.newarray .int, 2) := by decide +kernel
theorem dX12_init_389 : decode cX12_init 389 = .ok (.putfield 151, 3) := by decide +kernel
theorem dX12_init_392 : decode cX12_init 392 = .ok (.aload_n 0, 1) := by decide +kernel
theorem dX12_init_393 : decode cX12_init 393 = .ok (.bipush 60, 2) := by decide +kernel
theorem dX12_init_395 : decode cX12_init 395 = .ok (.newarray .int, 2) := by decide +kernel
theorem dX12_init_397 : decode cX12_init 397 = .ok (.putfield 154, 3) := by decide +kernel
theorem dX12_init_400 : decode cX12_init 400 = .ok (.aload_n 0, 1) := by decide +kernel
theorem dX12_init_401 : decode cX12_init 401 = .ok (.bipush 60, 2) := by decide +kernel
theorem dX12_init_403 : decode cX12_init 403 = .ok (.newarray .int, 2) := by decide +kernel
theorem dX12_init_405 : decode cX12_init 405 = .ok (.putfield 157, 3) := by decide +kernel
theorem dX12_init_408 : decode cX12_init 408 = .ok (.aload_n 0, 1) := by decide +kernel
theorem dX12_init_409 : decode cX12_init 409 = .ok (.bipush 40, 2) := by decide +kernel
theorem dX12_init_411 : decode cX12_init 411 = .ok (.newarray .int, 2) := by decide +kernel
theorem dX12_init_413 : decode cX12_init 413 = .ok (.putfield 160, 3) := by decide +kernel
theorem dX12_init_416 : decode cX12_init 416 = .ok (.aload_n 0, 1) := by decide +kernel
theorem dX12_init_417 : decode cX12_init 417 = .ok (.bipush 40, 2) := by decide +kernel
theorem dX12_init_419 : decode cX12_init 419 = .ok (.newarray .int, 2) := by decide +kernel
theorem dX12_init_421 : decode cX12_init 421 = .ok (.putfield 163, 3) := by decide +kernel
theorem dX12_init_424 : decode cX12_init 424 = .ok (.aload_n 0, 1) := by decide +kernel
theorem dX12_init_425 : decode cX12_init 425 = .ok (.bipush 40, 2) := by decide +kernel
theorem dX12_init_427 : decode cX12_init 427 = .ok (.newarray .int, 2) := by decide +kernel
theorem dX12_init_429 : decode cX12_init 429 = .ok (.putfield 166, 3) := by decide +kernel
theorem dX12_init_432 : decode cX12_init 432 = .ok (.aload_n 0, 1) := by decide +kernel
theorem dX12_init_433 : decode cX12_init 433 = .ok (.bipush 40, 2) := by decide +kernel
theorem dX12_init_435 : decode cX12_init 435 = .ok (.newarray .int, 2) := by decide +kernel
theorem dX12_init_437 : decode cX12_init 437 = .ok (.putfield 169, 3) := by decide +kernel
theorem dX12_init_440 : decode cX12_init 440 = .ok (.aload_n 0, 1) := by decide +kernel
theorem dX12_init_441 : decode cX12_init 441 = .ok (.bipush 40, 2) := by decide +kernel
theorem dX12_init_443 : decode cX12_init 443 = .ok (.newarray .boolean, 2) := by decide +kernel
theorem dX12_init_445 : decode cX12_init 445 = .ok (.putfield 172, 3) := by decide +kernel
theorem dX12_init_448 : decode cX12_init 448 = .ok (.aload_n 0, 1) := by decide +kernel
theorem dX12_init_449 : decode cX12_init 449 = .ok (.bipush 20, 2) := by decide +kernel
theorem dX12_init_451 : decode cX12_init 451 = .ok (.newarray .int, 2) := by decide +kernel
theorem dX12_init_453 : decode cX12_init 453 = .ok (.putfield 175, 3) := by decide +kernel
theorem dX12_init_456 : decode cX12_init 456 = .ok (.aload_n 0, 1) := by decide +kernel
theorem dX12_init_457 : decode cX12_init 457 = .ok (.bipush 40, 2) := by decide +kernel
theorem dX12_init_459 : decode cX12_init 459 = .ok (.newarray .int, 2) := by decide +kernel
theorem dX12_init_461 : decode cX12_init 461 = .ok (.putfield 178, 3) := by decide +kernel
theorem dX12_init_464 : decode cX12_init 464 = .ok (.return_, 1) := by decide +kernel
theorem mt_X12_init : MT yX12_init cX12_init 1 none 0 := ⟨wd_1228, wd_12, by decide +kernel, by decide +kernel, by decide +kernel⟩
theorem df_X12_init : ∀ k, k < 85 → defaultValue (tyX12 k) = dfV 11 k := by decide +kernel
theorem hv_12 (g : GT) : ∀ k, k < nfF 11 → (updV (updV (updV (updV (updV (updV (updV (updV (updV (updV (updV (updV (updV (updV (updV (updV (updV (updV (updV (updV (updV (updV (updV (updV (updV (updV (updV (updV (updV (updV (updV (updV (updV (updV (updV (updV (updV (updV (updV (updV (updV (updV (updV (updV (updV (updV (updV (updV (updV (updV (updV (updV (updV (updV (updV (updV (dfV 11) 2 (.ref (g.2.1 111))) 3 (.ref (g.2.1 112))) 4 (.ref (g.2.1 113))) 5 (.ref (g.2.1 114))) 6 (.ref (g.2.1 115))) 7 (.ref (g.2.1 116))) 8 (.ref (g.2.1 117))) 9 (.ref (g.2.1 118))) 10 (.ref (g.2.1 119))) 11 (.ref (g.2.1 120))) 15 (.ref (g.2.1 121))) 17 (.ref (g.2.1 122))) 18 (.ref (g.2.1 123))) 19 (.ref (g.2.1 124))) 20 (.ref (g.2.1 125))) 21 (.ref (g.2.1 126))) 22 (.ref (g.2.1 127))) 23 (.ref (g.2.1 128))) 24 (.ref (g.2.1 129))) 25 (.ref (g.2.1 130))) 26 (.ref (g.2.1 131))) 27 (.ref (g.2.1 132))) 28 (.ref (g.2.1 133))) 32 (.ref (g.2.1 134))) 33 (.ref (g.2.1 135))) 34 (.ref (g.2.1 136))) 35 (.ref (g.2.1 137))) 36 (.ref (g.2.1 138))) 37 (.ref (g.2.1 139))) 38 (.ref (g.2.1 140))) 39 (.ref (g.2.1 141))) 40 (.ref (g.2.1 142))) 41 (.ref (g.2.1 143))) 42 (.ref (g.2.1 144))) 43 (.ref (g.2.1 145))) 44 (.ref (g.2.1 146))) 45 (.ref (g.2.1 147))) 46 (.ref (g.2.1 148))) 47 (.ref (g.2.1 149))) 52 (.ref (g.2.1 121))) 63 (.ref (g.2.1 150))) 64 (.ref (g.2.1 151))) 65 (.ref (g.2.1 152))) 66 (.ref (g.2.1 153))) 67 (.ref (g.2.1 154))) 68 (.ref (g.2.1 155))) 69 (.ref (g.2.1 156))) 70 (.ref (g.2.1 157))) 71 (.ref (g.2.1 158))) 72 (.ref (g.2.1 159))) 73 (.ref (g.2.1 160))) 74 (.ref (g.2.1 161))) 75 (.ref (g.2.1 162))) 76 (.ref (g.2.1 163))) 80 (.ref (g.2.1 164))) 81 (.ref (g.2.1 165))) k = fval g.2.1 st_B 11 k
  | 0, _ => rfl
  | 1, _ => rfl
  | 2, _ => rfl
  | 3, _ => rfl
  | 4, _ => rfl
  | 5, _ => rfl
  | 6, _ => rfl
  | 7, _ => rfl
  | 8, _ => rfl
  | 9, _ => rfl
  | 10, _ => rfl
  | 11, _ => rfl
  | 12, _ => rfl
  | 13, _ => rfl
  | 14, _ => rfl
  | 15, _ => rfl
  | 16, _ => rfl
  | 17, _ => rfl
  | 18, _ => rfl
  | 19, _ => rfl
  | 20, _ => rfl
  | 21, _ => rfl
  | 22, _ => rfl
  | 23, _ => rfl
  | 24, _ => rfl
  | 25, _ => rfl
  | 26, _ => rfl
  | 27, _ => rfl
  | 28, _ => rfl
  | 29, _ => rfl
  | 30, _ => rfl
  | 31, _ => rfl
  | 32, _ => rfl
  | 33, _ => rfl
  | 34, _ => rfl
  | 35, _ => rfl
  | 36, _ => rfl
  | 37, _ => rfl
  | 38, _ => rfl
  | 39, _ => rfl
  | 40, _ => rfl
  | 41, _ => rfl
  | 42, _ => rfl
  | 43, _ => rfl
  | 44, _ => rfl
  | 45, _ => rfl
  | 46, _ => rfl
  | 47, _ => rfl
  | 48, _ => rfl
  | 49, _ => rfl
  | 50, _ => rfl
  | 51, _ => rfl
  | 52, _ => rfl
  | 53, _ => rfl
  | 54, _ => rfl
  | 55, _ => rfl
  | 56, _ => rfl
  | 57, _ => rfl
  | 58, _ => rfl
  | 59, _ => rfl
  | 60, _ => rfl
  | 61, _ => rfl
  | 62, _ => rfl
  | 63, _ => rfl
  | 64, _ => rfl
  | 65, _ => rfl
  | 66, _ => rfl
  | 67, _ => rfl
  | 68, _ => rfl
  | 69, _ => rfl
  | 70, _ => rfl
  | 71, _ => rfl
  | 72, _ => rfl
  | 73, _ => rfl
  | 74, _ => rfl
  | 75, _ => rfl
  | 76, _ => rfl
  | 77, _ => rfl
  | 78, _ => rfl
  | 79, _ => rfl
  | 80, _ => rfl
  | 81, _ => rfl
  | 82, _ => rfl
  | 83, _ => rfl
  | 84, _ => rfl
  | k + 85, h => absurd h (Nat.not_lt.mpr (Nat.le_add_left _ _))
set_option maxRecDepth 20000 in
theorem ini_12 (l : Launch) {g : GT} {N : Nat} (hN : AD g N) : INI l g st_B yX12_init cX12_init { frames := 1, cells := 55, slots := 9040, locals := 12 } 11 55 55 9040 [11] [153, 152, 151, 150, 149, 148, 147, 146, 145, 144, 143, 142, 141, 140, 139, 138, 137, 136, 135, 134, 133, 132, 131, 130, 129, 128, 127, 126, 125, 124, 123, 122, 121, 120, 119, 118, 117, 116, 115, 114, 113, 112, 111, 110, 109, 108, 107, 106, 105, 104, 103, 102, 101, 100, 99] := by
  refine ini_of (by decide) rfl ?_
  intro p e s m args below meth c hC hr hlocks hin hA
  have hAc : g.2.1 11 ≤ g.2.1 11 := Nat.le_refl _
  have hC : HI p s m args c cX12_init 1 RX12 g := hC
  rw [show g.2.1 11 + 1 = N + 111 by rw [hN 11 (by decide)]; rfl]
  refine zi_aload hC dX12_init_0 rfl 0 rfl ?_
  refine zi_obj hC wd_1229 dX12_init_1 ⟨Nat.le_of_ble_eq_true rfl, Nat.le_of_ble_eq_true rfl⟩ ?_
  refine zi_aload hC dX12_init_4 rfl 0 rfl ?_
  refine zi_bipush hC (x := 40) dX12_init_5 rfl ?_
  refine zi_newa hC hA (j := 99) (len := 40) (atype := .int) 1 40 (by decide) rfl wd_44 (by decide) rfl (Nat.le_of_ble_eq_true rfl) (by rw [hN 111 (by decide)]; rfl) rfl rfl ⟨Nat.le_of_ble_eq_true rfl, Nat.le_of_ble_eq_true rfl⟩ (fun _ => rfl) dX12_init_7 ?_
  refine zi_putF hC cj_11 hAc hin rfl (f := 2) (by decide) wd_1232 rfl (ty := (.array .int)) rfl rfl rfl dX12_init_9 ?_
  refine zi_aload hC dX12_init_12 rfl 0 rfl ?_
  refine zi_bipush hC (x := 40) dX12_init_13 rfl ?_
  refine zi_newa hC hA (j := 100) (len := 40) (atype := .int) 2 80 (by decide) rfl wd_44 (by decide) rfl (Nat.le_of_ble_eq_true rfl) (by rw [hN 112 (by decide)]; rfl) rfl rfl ⟨Nat.le_of_ble_eq_true rfl, Nat.le_of_ble_eq_true rfl⟩ (fun _ => rfl) dX12_init_15 ?_
  refine zi_putF hC cj_11 hAc hin rfl (f := 3) (by decide) wd_1233 rfl (ty := (.array .int)) rfl rfl rfl dX12_init_17 ?_
  refine zi_aload hC dX12_init_20 rfl 0 rfl ?_
  refine zi_bipush hC (x := 40) dX12_init_21 rfl ?_
  refine zi_newa hC hA (j := 101) (len := 40) (atype := .int) 3 120 (by decide) rfl wd_44 (by decide) rfl (Nat.le_of_ble_eq_true rfl) (by rw [hN 113 (by decide)]; rfl) rfl rfl ⟨Nat.le_of_ble_eq_true rfl, Nat.le_of_ble_eq_true rfl⟩ (fun _ => rfl) dX12_init_23 ?_
  refine zi_putF hC cj_11 hAc hin rfl (f := 4) (by decide) wd_1234 rfl (ty := (.array .int)) rfl rfl rfl dX12_init_25 ?_
  refine zi_aload hC dX12_init_28 rfl 0 rfl ?_
  refine zi_bipush hC (x := 40) dX12_init_29 rfl ?_
  refine zi_newa hC hA (j := 102) (len := 40) (atype := .int) 4 160 (by decide) rfl wd_44 (by decide) rfl (Nat.le_of_ble_eq_true rfl) (by rw [hN 114 (by decide)]; rfl) rfl rfl ⟨Nat.le_of_ble_eq_true rfl, Nat.le_of_ble_eq_true rfl⟩ (fun _ => rfl) dX12_init_31 ?_
  refine zi_putF hC cj_11 hAc hin rfl (f := 5) (by decide) wd_1235 rfl (ty := (.array .int)) rfl rfl rfl dX12_init_33 ?_
  refine zi_aload hC dX12_init_36 rfl 0 rfl ?_
  refine zi_bipush hC (x := 40) dX12_init_37 rfl ?_
  refine zi_newa hC hA (j := 103) (len := 40) (atype := .int) 5 200 (by decide) rfl wd_44 (by decide) rfl (Nat.le_of_ble_eq_true rfl) (by rw [hN 115 (by decide)]; rfl) rfl rfl ⟨Nat.le_of_ble_eq_true rfl, Nat.le_of_ble_eq_true rfl⟩ (fun _ => rfl) dX12_init_39 ?_
  refine zi_putF hC cj_11 hAc hin rfl (f := 6) (by decide) wd_1236 rfl (ty := (.array .int)) rfl rfl rfl dX12_init_41 ?_
  refine zi_aload hC dX12_init_44 rfl 0 rfl ?_
  refine zi_sipush hC (x := 600) dX12_init_45 rfl ?_
  refine zi_newa hC hA (j := 104) (len := 600) (atype := .int) 6 800 (by decide) rfl wd_44 (by decide) rfl (Nat.le_of_ble_eq_true rfl) (by rw [hN 116 (by decide)]; rfl) rfl rfl ⟨Nat.le_of_ble_eq_true rfl, Nat.le_of_ble_eq_true rfl⟩ (fun _ => rfl) dX12_init_48 ?_
  refine zi_putF hC cj_11 hAc hin rfl (f := 7) (by decide) wd_1237 rfl (ty := (.array .int)) rfl rfl rfl dX12_init_50 ?_
  refine zi_aload hC dX12_init_53 rfl 0 rfl ?_
  refine zi_sipush hC (x := 600) dX12_init_54 rfl ?_
  refine zi_newa hC hA (j := 105) (len := 600) (atype := .int) 7 1400 (by decide) rfl wd_44 (by decide) rfl (Nat.le_of_ble_eq_true rfl) (by rw [hN 117 (by decide)]; rfl) rfl rfl ⟨Nat.le_of_ble_eq_true rfl, Nat.le_of_ble_eq_true rfl⟩ (fun _ => rfl) dX12_init_57 ?_
  refine zi_putF hC cj_11 hAc hin rfl (f := 8) (by decide) wd_1238 rfl (ty := (.array .int)) rfl rfl rfl dX12_init_59 ?_
  refine zi_aload hC dX12_init_62 rfl 0 rfl ?_
  refine zi_sipush hC (x := 600) dX12_init_63 rfl ?_
  refine zi_newa hC hA (j := 106) (len := 600) (atype := .int) 8 2000 (by decide) rfl wd_44 (by decide) rfl (Nat.le_of_ble_eq_true rfl) (by rw [hN 118 (by decide)]; rfl) rfl rfl ⟨Nat.le_of_ble_eq_true rfl, Nat.le_of_ble_eq_true rfl⟩ (fun _ => rfl) dX12_init_66 ?_
  refine zi_putF hC cj_11 hAc hin rfl (f := 9) (by decide) wd_1239 rfl (ty := (.array .int)) rfl rfl rfl dX12_init_68 ?_
  refine zi_aload hC dX12_init_71 rfl 0 rfl ?_
  refine zi_sipush hC (x := 600) dX12_init_72 rfl ?_
  refine zi_newa hC hA (j := 107) (len := 600) (atype := .boolean) 9 2600 (by decide) rfl wd_224 (by decide) rfl (Nat.le_of_ble_eq_true rfl) (by rw [hN 119 (by decide)]; rfl) rfl rfl ⟨Nat.le_of_ble_eq_true rfl, Nat.le_of_ble_eq_true rfl⟩ (fun _ => rfl) dX12_init_75 ?_
  refine zi_putF hC cj_11 hAc hin rfl (f := 10) (by decide) wd_1240 rfl (ty := (.array .boolean)) rfl rfl rfl dX12_init_77 ?_
  refine zi_aload hC dX12_init_80 rfl 0 rfl ?_
  refine zi_bipush hC (x := 12) dX12_init_81 rfl ?_
  refine zi_newa hC hA (j := 108) (len := 12) (atype := .boolean) 10 2612 (by decide) rfl wd_224 (by decide) rfl (Nat.le_of_ble_eq_true rfl) (by rw [hN 120 (by decide)]; rfl) rfl rfl ⟨Nat.le_of_ble_eq_true rfl, Nat.le_of_ble_eq_true rfl⟩ (fun _ => rfl) dX12_init_83 ?_
  refine zi_putF hC cj_11 hAc hin rfl (f := 11) (by decide) wd_1241 rfl (ty := (.array .boolean)) rfl rfl rfl dX12_init_85 ?_
  refine zi_aload hC dX12_init_88 rfl 0 rfl ?_
  refine zi_sipush hC (x := 160) dX12_init_89 rfl ?_
  refine zi_newa hC hA (j := 109) (len := 160) (atype := .byte) 11 2772 (by decide) rfl wd_1223 (by decide) rfl (Nat.le_of_ble_eq_true rfl) (by rw [hN 121 (by decide)]; rfl) rfl rfl ⟨Nat.le_of_ble_eq_true rfl, Nat.le_of_ble_eq_true rfl⟩ (fun _ => rfl) dX12_init_92 ?_
  refine zi_putF hC cj_11 hAc hin rfl (f := 15) (by decide) wd_1245 rfl (ty := (.array .byte)) rfl rfl rfl dX12_init_94 ?_
  refine zi_aload hC dX12_init_97 rfl 0 rfl ?_
  refine zi_bipush hC (x := 40) dX12_init_98 rfl ?_
  refine zi_newa hC hA (j := 110) (len := 40) (atype := .int) 12 2812 (by decide) rfl wd_44 (by decide) rfl (Nat.le_of_ble_eq_true rfl) (by rw [hN 122 (by decide)]; rfl) rfl rfl ⟨Nat.le_of_ble_eq_true rfl, Nat.le_of_ble_eq_true rfl⟩ (fun _ => rfl) dX12_init_100 ?_
  refine zi_putF hC cj_11 hAc hin rfl (f := 17) (by decide) wd_1247 rfl (ty := (.array .int)) rfl rfl rfl dX12_init_102 ?_
  refine zi_aload hC dX12_init_105 rfl 0 rfl ?_
  refine zi_bipush hC (x := 40) dX12_init_106 rfl ?_
  refine zi_newa hC hA (j := 111) (len := 40) (atype := .int) 13 2852 (by decide) rfl wd_44 (by decide) rfl (Nat.le_of_ble_eq_true rfl) (by rw [hN 123 (by decide)]; rfl) rfl rfl ⟨Nat.le_of_ble_eq_true rfl, Nat.le_of_ble_eq_true rfl⟩ (fun _ => rfl) dX12_init_108 ?_
  refine zi_putF hC cj_11 hAc hin rfl (f := 18) (by decide) wd_1248 rfl (ty := (.array .int)) rfl rfl rfl dX12_init_110 ?_
  refine zi_aload hC dX12_init_113 rfl 0 rfl ?_
  refine zi_bipush hC (x := 40) dX12_init_114 rfl ?_
  refine zi_newa hC hA (j := 112) (len := 40) (atype := .int) 14 2892 (by decide) rfl wd_44 (by decide) rfl (Nat.le_of_ble_eq_true rfl) (by rw [hN 124 (by decide)]; rfl) rfl rfl ⟨Nat.le_of_ble_eq_true rfl, Nat.le_of_ble_eq_true rfl⟩ (fun _ => rfl) dX12_init_116 ?_
  refine zi_putF hC cj_11 hAc hin rfl (f := 19) (by decide) wd_1249 rfl (ty := (.array .int)) rfl rfl rfl dX12_init_118 ?_
  refine zi_aload hC dX12_init_121 rfl 0 rfl ?_
  refine zi_bipush hC (x := 40) dX12_init_122 rfl ?_
  refine zi_newa hC hA (j := 113) (len := 40) (atype := .int) 15 2932 (by decide) rfl wd_44 (by decide) rfl (Nat.le_of_ble_eq_true rfl) (by rw [hN 125 (by decide)]; rfl) rfl rfl ⟨Nat.le_of_ble_eq_true rfl, Nat.le_of_ble_eq_true rfl⟩ (fun _ => rfl) dX12_init_124 ?_
  refine zi_putF hC cj_11 hAc hin rfl (f := 20) (by decide) wd_1250 rfl (ty := (.array .int)) rfl rfl rfl dX12_init_126 ?_
  refine zi_aload hC dX12_init_129 rfl 0 rfl ?_
  refine zi_bipush hC (x := 40) dX12_init_130 rfl ?_
  refine zi_newa hC hA (j := 114) (len := 40) (atype := .int) 16 2972 (by decide) rfl wd_44 (by decide) rfl (Nat.le_of_ble_eq_true rfl) (by rw [hN 126 (by decide)]; rfl) rfl rfl ⟨Nat.le_of_ble_eq_true rfl, Nat.le_of_ble_eq_true rfl⟩ (fun _ => rfl) dX12_init_132 ?_
  refine zi_putF hC cj_11 hAc hin rfl (f := 21) (by decide) wd_1251 rfl (ty := (.array .int)) rfl rfl rfl dX12_init_134 ?_
  refine zi_aload hC dX12_init_137 rfl 0 rfl ?_
  refine zi_bipush hC (x := 40) dX12_init_138 rfl ?_
  refine zi_newa hC hA (j := 115) (len := 40) (atype := .int) 17 3012 (by decide) rfl wd_44 (by decide) rfl (Nat.le_of_ble_eq_true rfl) (by rw [hN 127 (by decide)]; rfl) rfl rfl ⟨Nat.le_of_ble_eq_true rfl, Nat.le_of_ble_eq_true rfl⟩ (fun _ => rfl) dX12_init_140 ?_
  refine zi_putF hC cj_11 hAc hin rfl (f := 22) (by decide) wd_1252 rfl (ty := (.array .int)) rfl rfl rfl dX12_init_142 ?_
  refine zi_aload hC dX12_init_145 rfl 0 rfl ?_
  refine zi_bipush hC (x := 40) dX12_init_146 rfl ?_
  refine zi_newa hC hA (j := 116) (len := 40) (atype := .int) 18 3052 (by decide) rfl wd_44 (by decide) rfl (Nat.le_of_ble_eq_true rfl) (by rw [hN 128 (by decide)]; rfl) rfl rfl ⟨Nat.le_of_ble_eq_true rfl, Nat.le_of_ble_eq_true rfl⟩ (fun _ => rfl) dX12_init_148 ?_
  refine zi_putF hC cj_11 hAc hin rfl (f := 23) (by decide) wd_1253 rfl (ty := (.array .int)) rfl rfl rfl dX12_init_150 ?_
  refine zi_aload hC dX12_init_153 rfl 0 rfl ?_
  refine zi_bipush hC (x := 40) dX12_init_154 rfl ?_
  refine zi_newa hC hA (j := 117) (len := 40) (atype := .int) 19 3092 (by decide) rfl wd_44 (by decide) rfl (Nat.le_of_ble_eq_true rfl) (by rw [hN 129 (by decide)]; rfl) rfl rfl ⟨Nat.le_of_ble_eq_true rfl, Nat.le_of_ble_eq_true rfl⟩ (fun _ => rfl) dX12_init_156 ?_
  refine zi_putF hC cj_11 hAc hin rfl (f := 24) (by decide) wd_1254 rfl (ty := (.array .int)) rfl rfl rfl dX12_init_158 ?_
  refine zi_aload hC dX12_init_161 rfl 0 rfl ?_
  refine zi_bipush hC (x := 40) dX12_init_162 rfl ?_
  refine zi_newa hC hA (j := 118) (len := 40) (atype := .int) 20 3132 (by decide) rfl wd_44 (by decide) rfl (Nat.le_of_ble_eq_true rfl) (by rw [hN 130 (by decide)]; rfl) rfl rfl ⟨Nat.le_of_ble_eq_true rfl, Nat.le_of_ble_eq_true rfl⟩ (fun _ => rfl) dX12_init_164 ?_
  refine zi_putF hC cj_11 hAc hin rfl (f := 25) (by decide) wd_1255 rfl (ty := (.array .int)) rfl rfl rfl dX12_init_166 ?_
  refine zi_aload hC dX12_init_169 rfl 0 rfl ?_
  refine zi_sipush hC (x := 480) dX12_init_170 rfl ?_
  refine zi_newa hC hA (j := 119) (len := 480) (atype := .int) 21 3612 (by decide) rfl wd_44 (by decide) rfl (Nat.le_of_ble_eq_true rfl) (by rw [hN 131 (by decide)]; rfl) rfl rfl ⟨Nat.le_of_ble_eq_true rfl, Nat.le_of_ble_eq_true rfl⟩ (fun _ => rfl) dX12_init_173 ?_
  refine zi_putF hC cj_11 hAc hin rfl (f := 26) (by decide) wd_1256 rfl (ty := (.array .int)) rfl rfl rfl dX12_init_175 ?_
  refine zi_aload hC dX12_init_178 rfl 0 rfl ?_
  refine zi_bipush hC (x := 12) dX12_init_179 rfl ?_
  refine zi_newa hC hA (j := 120) (len := 12) (atype := .int) 22 3624 (by decide) rfl wd_44 (by decide) rfl (Nat.le_of_ble_eq_true rfl) (by rw [hN 132 (by decide)]; rfl) rfl rfl ⟨Nat.le_of_ble_eq_true rfl, Nat.le_of_ble_eq_true rfl⟩ (fun _ => rfl) dX12_init_181 ?_
  refine zi_putF hC cj_11 hAc hin rfl (f := 27) (by decide) wd_1257 rfl (ty := (.array .int)) rfl rfl rfl dX12_init_183 ?_
  refine zi_aload hC dX12_init_186 rfl 0 rfl ?_
  refine zi_bipush hC (x := 12) dX12_init_187 rfl ?_
  refine zi_newa hC hA (j := 121) (len := 12) (atype := .int) 23 3636 (by decide) rfl wd_44 (by decide) rfl (Nat.le_of_ble_eq_true rfl) (by rw [hN 133 (by decide)]; rfl) rfl rfl ⟨Nat.le_of_ble_eq_true rfl, Nat.le_of_ble_eq_true rfl⟩ (fun _ => rfl) dX12_init_189 ?_
  refine zi_putF hC cj_11 hAc hin rfl (f := 28) (by decide) wd_1258 rfl (ty := (.array .int)) rfl rfl rfl dX12_init_191 ?_
  refine zi_aload hC dX12_init_194 rfl 0 rfl ?_
  refine zi_bipush hC (x := 12) dX12_init_195 rfl ?_
  refine zi_newa hC hA (j := 122) (len := 12) (atype := .long) 24 3648 (by decide) rfl wd_131 (by decide) rfl (Nat.le_of_ble_eq_true rfl) (by rw [hN 134 (by decide)]; rfl) rfl rfl ⟨Nat.le_of_ble_eq_true rfl, Nat.le_of_ble_eq_true rfl⟩ (fun _ => rfl) dX12_init_197 ?_
  refine zi_putF hC cj_11 hAc hin rfl (f := 32) (by decide) wd_1262 rfl (ty := (.array .long)) rfl rfl rfl dX12_init_199 ?_
  refine zi_aload hC dX12_init_202 rfl 0 rfl ?_
  refine zi_sipush hC (x := 3200) dX12_init_203 rfl ?_
  refine zi_newa hC hA (j := 123) (len := 3200) (atype := .byte) 25 6848 (by decide) rfl wd_1223 (by decide) rfl (Nat.le_of_ble_eq_true rfl) (by rw [hN 135 (by decide)]; rfl) rfl rfl ⟨Nat.le_of_ble_eq_true rfl, Nat.le_of_ble_eq_true rfl⟩ (fun _ => rfl) dX12_init_206 ?_
  refine zi_putF hC cj_11 hAc hin rfl (f := 33) (by decide) wd_1263 rfl (ty := (.array .byte)) rfl rfl rfl dX12_init_208 ?_
  refine zi_aload hC dX12_init_211 rfl 0 rfl ?_
  refine zi_bipush hC (x := 20) dX12_init_212 rfl ?_
  refine zi_newa hC hA (j := 124) (len := 20) (atype := .int) 26 6868 (by decide) rfl wd_44 (by decide) rfl (Nat.le_of_ble_eq_true rfl) (by rw [hN 136 (by decide)]; rfl) rfl rfl ⟨Nat.le_of_ble_eq_true rfl, Nat.le_of_ble_eq_true rfl⟩ (fun _ => rfl) dX12_init_214 ?_
  refine zi_putF hC cj_11 hAc hin rfl (f := 34) (by decide) wd_1264 rfl (ty := (.array .int)) rfl rfl rfl dX12_init_216 ?_
  refine zi_aload hC dX12_init_219 rfl 0 rfl ?_
  refine zi_bipush hC (x := 40) dX12_init_220 rfl ?_
  refine zi_newa hC hA (j := 125) (len := 40) (atype := .int) 27 6908 (by decide) rfl wd_44 (by decide) rfl (Nat.le_of_ble_eq_true rfl) (by rw [hN 137 (by decide)]; rfl) rfl rfl ⟨Nat.le_of_ble_eq_true rfl, Nat.le_of_ble_eq_true rfl⟩ (fun _ => rfl) dX12_init_222 ?_
  refine zi_putF hC cj_11 hAc hin rfl (f := 35) (by decide) wd_1265 rfl (ty := (.array .int)) rfl rfl rfl dX12_init_224 ?_
  refine zi_aload hC dX12_init_227 rfl 0 rfl ?_
  refine zi_bipush hC (x := 40) dX12_init_228 rfl ?_
  refine zi_newa hC hA (j := 126) (len := 40) (atype := .int) 28 6948 (by decide) rfl wd_44 (by decide) rfl (Nat.le_of_ble_eq_true rfl) (by rw [hN 138 (by decide)]; rfl) rfl rfl ⟨Nat.le_of_ble_eq_true rfl, Nat.le_of_ble_eq_true rfl⟩ (fun _ => rfl) dX12_init_230 ?_
  refine zi_putF hC cj_11 hAc hin rfl (f := 36) (by decide) wd_1266 rfl (ty := (.array .int)) rfl rfl rfl dX12_init_232 ?_
  refine zi_aload hC dX12_init_235 rfl 0 rfl ?_
  refine zi_bipush hC (x := 40) dX12_init_236 rfl ?_
  refine zi_newa hC hA (j := 127) (len := 40) (atype := .int) 29 6988 (by decide) rfl wd_44 (by decide) rfl (Nat.le_of_ble_eq_true rfl) (by rw [hN 139 (by decide)]; rfl) rfl rfl ⟨Nat.le_of_ble_eq_true rfl, Nat.le_of_ble_eq_true rfl⟩ (fun _ => rfl) dX12_init_238 ?_
  refine zi_putF hC cj_11 hAc hin rfl (f := 37) (by decide) wd_1267 rfl (ty := (.array .int)) rfl rfl rfl dX12_init_240 ?_
  refine zi_aload hC dX12_init_243 rfl 0 rfl ?_
  refine zi_bipush hC (x := 40) dX12_init_244 rfl ?_
  refine zi_newa hC hA (j := 128) (len := 40) (atype := .int) 30 7028 (by decide) rfl wd_44 (by decide) rfl (Nat.le_of_ble_eq_true rfl) (by rw [hN 140 (by decide)]; rfl) rfl rfl ⟨Nat.le_of_ble_eq_true rfl, Nat.le_of_ble_eq_true rfl⟩ (fun _ => rfl) dX12_init_246 ?_
  refine zi_putF hC cj_11 hAc hin rfl (f := 38) (by decide) wd_1268 rfl (ty := (.array .int)) rfl rfl rfl dX12_init_248 ?_
  refine zi_aload hC dX12_init_251 rfl 0 rfl ?_
  refine zi_bipush hC (x := 40) dX12_init_252 rfl ?_
  refine zi_newa hC hA (j := 129) (len := 40) (atype := .int) 31 7068 (by decide) rfl wd_44 (by decide) rfl (Nat.le_of_ble_eq_true rfl) (by rw [hN 141 (by decide)]; rfl) rfl rfl ⟨Nat.le_of_ble_eq_true rfl, Nat.le_of_ble_eq_true rfl⟩ (fun _ => rfl) dX12_init_254 ?_
  refine zi_putF hC cj_11 hAc hin rfl (f := 39) (by decide) wd_1269 rfl (ty := (.array .int)) rfl rfl rfl dX12_init_256 ?_
  refine zi_aload hC dX12_init_259 rfl 0 rfl ?_
  refine zi_bipush hC (x := 40) dX12_init_260 rfl ?_
  refine zi_newa hC hA (j := 130) (len := 40) (atype := .int) 32 7108 (by decide) rfl wd_44 (by decide) rfl (Nat.le_of_ble_eq_true rfl) (by rw [hN 142 (by decide)]; rfl) rfl rfl ⟨Nat.le_of_ble_eq_true rfl, Nat.le_of_ble_eq_true rfl⟩ (fun _ => rfl) dX12_init_262 ?_
  refine zi_putF hC cj_11 hAc hin rfl (f := 40) (by decide) wd_1270 rfl (ty := (.array .int)) rfl rfl rfl dX12_init_264 ?_
  refine zi_aload hC dX12_init_267 rfl 0 rfl ?_
  refine zi_sipush hC (x := 200) dX12_init_268 rfl ?_
  refine zi_newa hC hA (j := 131) (len := 200) (atype := .int) 33 7308 (by decide) rfl wd_44 (by decide) rfl (Nat.le_of_ble_eq_true rfl) (by rw [hN 143 (by decide)]; rfl) rfl rfl ⟨Nat.le_of_ble_eq_true rfl, Nat.le_of_ble_eq_true rfl⟩ (fun _ => rfl) dX12_init_271 ?_
  refine zi_putF hC cj_11 hAc hin rfl (f := 41) (by decide) wd_1271 rfl (ty := (.array .int)) rfl rfl rfl dX12_init_273 ?_
  refine zi_aload hC dX12_init_276 rfl 0 rfl ?_
  refine zi_sipush hC (x := 200) dX12_init_277 rfl ?_
  refine zi_newa hC hA (j := 132) (len := 200) (atype := .int) 34 7508 (by decide) rfl wd_44 (by decide) rfl (Nat.le_of_ble_eq_true rfl) (by rw [hN 144 (by decide)]; rfl) rfl rfl ⟨Nat.le_of_ble_eq_true rfl, Nat.le_of_ble_eq_true rfl⟩ (fun _ => rfl) dX12_init_280 ?_
  refine zi_putF hC cj_11 hAc hin rfl (f := 42) (by decide) wd_1272 rfl (ty := (.array .int)) rfl rfl rfl dX12_init_282 ?_
  refine zi_aload hC dX12_init_285 rfl 0 rfl ?_
  refine zi_sipush hC (x := 200) dX12_init_286 rfl ?_
  refine zi_newa hC hA (j := 133) (len := 200) (atype := .int) 35 7708 (by decide) rfl wd_44 (by decide) rfl (Nat.le_of_ble_eq_true rfl) (by rw [hN 145 (by decide)]; rfl) rfl rfl ⟨Nat.le_of_ble_eq_true rfl, Nat.le_of_ble_eq_true rfl⟩ (fun _ => rfl) dX12_init_289 ?_
  refine zi_putF hC cj_11 hAc hin rfl (f := 43) (by decide) wd_1273 rfl (ty := (.array .int)) rfl rfl rfl dX12_init_291 ?_
  refine zi_aload hC dX12_init_294 rfl 0 rfl ?_
  refine zi_bipush hC (x := 40) dX12_init_295 rfl ?_
  refine zi_newa hC hA (j := 134) (len := 40) (atype := .boolean) 36 7748 (by decide) rfl wd_224 (by decide) rfl (Nat.le_of_ble_eq_true rfl) (by rw [hN 146 (by decide)]; rfl) rfl rfl ⟨Nat.le_of_ble_eq_true rfl, Nat.le_of_ble_eq_true rfl⟩ (fun _ => rfl) dX12_init_297 ?_
  refine zi_putF hC cj_11 hAc hin rfl (f := 44) (by decide) wd_1274 rfl (ty := (.array .boolean)) rfl rfl rfl dX12_init_299 ?_
  refine zi_aload hC dX12_init_302 rfl 0 rfl ?_
  refine zi_bipush hC (x := 40) dX12_init_303 rfl ?_
  refine zi_newa hC hA (j := 135) (len := 40) (atype := .boolean) 37 7788 (by decide) rfl wd_224 (by decide) rfl (Nat.le_of_ble_eq_true rfl) (by rw [hN 147 (by decide)]; rfl) rfl rfl ⟨Nat.le_of_ble_eq_true rfl, Nat.le_of_ble_eq_true rfl⟩ (fun _ => rfl) dX12_init_305 ?_
  refine zi_putF hC cj_11 hAc hin rfl (f := 45) (by decide) wd_1275 rfl (ty := (.array .boolean)) rfl rfl rfl dX12_init_307 ?_
  refine zi_aload hC dX12_init_310 rfl 0 rfl ?_
  refine zi_sipush hC (x := 200) dX12_init_311 rfl ?_
  refine zi_newa hC hA (j := 136) (len := 200) (atype := .boolean) 38 7988 (by decide) rfl wd_224 (by decide) rfl (Nat.le_of_ble_eq_true rfl) (by rw [hN 148 (by decide)]; rfl) rfl rfl ⟨Nat.le_of_ble_eq_true rfl, Nat.le_of_ble_eq_true rfl⟩ (fun _ => rfl) dX12_init_314 ?_
  refine zi_putF hC cj_11 hAc hin rfl (f := 46) (by decide) wd_1276 rfl (ty := (.array .boolean)) rfl rfl rfl dX12_init_316 ?_
  refine zi_aload hC dX12_init_319 rfl 0 rfl ?_
  refine zi_sipush hC (x := 200) dX12_init_320 rfl ?_
  refine zi_newa hC hA (j := 137) (len := 200) (atype := .boolean) 39 8188 (by decide) rfl wd_224 (by decide) rfl (Nat.le_of_ble_eq_true rfl) (by rw [hN 149 (by decide)]; rfl) rfl rfl ⟨Nat.le_of_ble_eq_true rfl, Nat.le_of_ble_eq_true rfl⟩ (fun _ => rfl) dX12_init_323 ?_
  refine zi_putF hC cj_11 hAc hin rfl (f := 47) (by decide) wd_1277 rfl (ty := (.array .boolean)) rfl rfl rfl dX12_init_325 ?_
  refine zi_aload hC dX12_init_328 rfl 0 rfl ?_
  refine zi_aload hC dX12_init_329 rfl 0 rfl ?_
  refine zi_get hC ci_11 (f := 15) (by decide) wd_1245 (v := .ref (g.2.1 121)) rfl dX12_init_330 ?_
  refine zi_put hC cj_11 hAc rfl (f := 52) (by decide) wd_1282 rfl (ty := (.array .byte)) rfl rfl rfl dX12_init_333 ?_
  refine zi_aload hC dX12_init_336 rfl 0 rfl ?_
  refine zi_bipush hC (x := 12) dX12_init_337 rfl ?_
  refine zi_newa hC hA (j := 138) (len := 12) (atype := .boolean) 40 8200 (by decide) rfl wd_224 (by decide) rfl (Nat.le_of_ble_eq_true rfl) (by rw [hN 150 (by decide)]; rfl) rfl rfl ⟨Nat.le_of_ble_eq_true rfl, Nat.le_of_ble_eq_true rfl⟩ (fun _ => rfl) dX12_init_339 ?_
  refine zi_putF hC cj_11 hAc hin rfl (f := 63) (by decide) wd_1293 rfl (ty := (.array .boolean)) rfl rfl rfl dX12_init_341 ?_
  refine zi_aload hC dX12_init_344 rfl 0 rfl ?_
  refine zi_bipush hC (x := 80) dX12_init_345 rfl ?_
  refine zi_newa hC hA (j := 139) (len := 80) (atype := .int) 41 8280 (by decide) rfl wd_44 (by decide) rfl (Nat.le_of_ble_eq_true rfl) (by rw [hN 151 (by decide)]; rfl) rfl rfl ⟨Nat.le_of_ble_eq_true rfl, Nat.le_of_ble_eq_true rfl⟩ (fun _ => rfl) dX12_init_347 ?_
  refine zi_putF hC cj_11 hAc hin rfl (f := 64) (by decide) wd_1294 rfl (ty := (.array .int)) rfl rfl rfl dX12_init_349 ?_
  refine zi_aload hC dX12_init_352 rfl 0 rfl ?_
  refine zi_bipush hC (x := 80) dX12_init_353 rfl ?_
  refine zi_newa hC hA (j := 140) (len := 80) (atype := .int) 42 8360 (by decide) rfl wd_44 (by decide) rfl (Nat.le_of_ble_eq_true rfl) (by rw [hN 152 (by decide)]; rfl) rfl rfl ⟨Nat.le_of_ble_eq_true rfl, Nat.le_of_ble_eq_true rfl⟩ (fun _ => rfl) dX12_init_355 ?_
  refine zi_putF hC cj_11 hAc hin rfl (f := 65) (by decide) wd_1295 rfl (ty := (.array .int)) rfl rfl rfl dX12_init_357 ?_
  refine zi_aload hC dX12_init_360 rfl 0 rfl ?_
  refine zi_bipush hC (x := 80) dX12_init_361 rfl ?_
  refine zi_newa hC hA (j := 141) (len := 80) (atype := .int) 43 8440 (by decide) rfl wd_44 (by decide) rfl (Nat.le_of_ble_eq_true rfl) (by rw [hN 153 (by decide)]; rfl) rfl rfl ⟨Nat.le_of_ble_eq_true rfl, Nat.le_of_ble_eq_true rfl⟩ (fun _ => rfl) dX12_init_363 ?_
  refine zi_putF hC cj_11 hAc hin rfl (f := 66) (by decide) wd_1296 rfl (ty := (.array .int)) rfl rfl rfl dX12_init_365 ?_
  refine zi_aload hC dX12_init_368 rfl 0 rfl ?_
  refine zi_bipush hC (x := 80) dX12_init_369 rfl ?_
  refine zi_newa hC hA (j := 142) (len := 80) (atype := .int) 44 8520 (by decide) rfl wd_44 (by decide) rfl (Nat.le_of_ble_eq_true rfl) (by rw [hN 154 (by decide)]; rfl) rfl rfl ⟨Nat.le_of_ble_eq_true rfl, Nat.le_of_ble_eq_true rfl⟩ (fun _ => rfl) dX12_init_371 ?_
  refine zi_putF hC cj_11 hAc hin rfl (f := 67) (by decide) wd_1297 rfl (ty := (.array .int)) rfl rfl rfl dX12_init_373 ?_
  refine zi_aload hC dX12_init_376 rfl 0 rfl ?_
  refine zi_bipush hC (x := 80) dX12_init_377 rfl ?_
  refine zi_newa hC hA (j := 143) (len := 80) (atype := .int) 45 8600 (by decide) rfl wd_44 (by decide) rfl (Nat.le_of_ble_eq_true rfl) (by rw [hN 155 (by decide)]; rfl) rfl rfl ⟨Nat.le_of_ble_eq_true rfl, Nat.le_of_ble_eq_true rfl⟩ (fun _ => rfl) dX12_init_379 ?_
  refine zi_putF hC cj_11 hAc hin rfl (f := 68) (by decide) wd_1298 rfl (ty := (.array .int)) rfl rfl rfl dX12_init_381 ?_
  refine zi_aload hC dX12_init_384 rfl 0 rfl ?_
  refine zi_bipush hC (x := 60) dX12_init_385 rfl ?_
  refine zi_newa hC hA (j := 144) (len := 60) (atype := .int) 46 8660 (by decide) rfl wd_44 (by decide) rfl (Nat.le_of_ble_eq_true rfl) (by rw [hN 156 (by decide)]; rfl) rfl rfl ⟨Nat.le_of_ble_eq_true rfl, Nat.le_of_ble_eq_true rfl⟩ (fun _ => rfl) dX12_init_387 ?_
  refine zi_putF hC cj_11 hAc hin rfl (f := 69) (by decide) wd_1299 rfl (ty := (.array .int)) rfl rfl rfl dX12_init_389 ?_
  refine zi_aload hC dX12_init_392 rfl 0 rfl ?_
  refine zi_bipush hC (x := 60) dX12_init_393 rfl ?_
  refine zi_newa hC hA (j := 145) (len := 60) (atype := .int) 47 8720 (by decide) rfl wd_44 (by decide) rfl (Nat.le_of_ble_eq_true rfl) (by rw [hN 157 (by decide)]; rfl) rfl rfl ⟨Nat.le_of_ble_eq_true rfl, Nat.le_of_ble_eq_true rfl⟩ (fun _ => rfl) dX12_init_395 ?_
  refine zi_putF hC cj_11 hAc hin rfl (f := 70) (by decide) wd_1300 rfl (ty := (.array .int)) rfl rfl rfl dX12_init_397 ?_
  refine zi_aload hC dX12_init_400 rfl 0 rfl ?_
  refine zi_bipush hC (x := 60) dX12_init_401 rfl ?_
  refine zi_newa hC hA (j := 146) (len := 60) (atype := .int) 48 8780 (by decide) rfl wd_44 (by decide) rfl (Nat.le_of_ble_eq_true rfl) (by rw [hN 158 (by decide)]; rfl) rfl rfl ⟨Nat.le_of_ble_eq_true rfl, Nat.le_of_ble_eq_true rfl⟩ (fun _ => rfl) dX12_init_403 ?_
  refine zi_putF hC cj_11 hAc hin rfl (f := 71) (by decide) wd_1301 rfl (ty := (.array .int)) rfl rfl rfl dX12_init_405 ?_
  refine zi_aload hC dX12_init_408 rfl 0 rfl ?_
  refine zi_bipush hC (x := 40) dX12_init_409 rfl ?_
  refine zi_newa hC hA (j := 147) (len := 40) (atype := .int) 49 8820 (by decide) rfl wd_44 (by decide) rfl (Nat.le_of_ble_eq_true rfl) (by rw [hN 159 (by decide)]; rfl) rfl rfl ⟨Nat.le_of_ble_eq_true rfl, Nat.le_of_ble_eq_true rfl⟩ (fun _ => rfl) dX12_init_411 ?_
  refine zi_putF hC cj_11 hAc hin rfl (f := 72) (by decide) wd_1302 rfl (ty := (.array .int)) rfl rfl rfl dX12_init_413 ?_
  refine zi_aload hC dX12_init_416 rfl 0 rfl ?_
  refine zi_bipush hC (x := 40) dX12_init_417 rfl ?_
  refine zi_newa hC hA (j := 148) (len := 40) (atype := .int) 50 8860 (by decide) rfl wd_44 (by decide) rfl (Nat.le_of_ble_eq_true rfl) (by rw [hN 160 (by decide)]; rfl) rfl rfl ⟨Nat.le_of_ble_eq_true rfl, Nat.le_of_ble_eq_true rfl⟩ (fun _ => rfl) dX12_init_419 ?_
  refine zi_putF hC cj_11 hAc hin rfl (f := 73) (by decide) wd_1303 rfl (ty := (.array .int)) rfl rfl rfl dX12_init_421 ?_
  refine zi_aload hC dX12_init_424 rfl 0 rfl ?_
  refine zi_bipush hC (x := 40) dX12_init_425 rfl ?_
  refine zi_newa hC hA (j := 149) (len := 40) (atype := .int) 51 8900 (by decide) rfl wd_44 (by decide) rfl (Nat.le_of_ble_eq_true rfl) (by rw [hN 161 (by decide)]; rfl) rfl rfl ⟨Nat.le_of_ble_eq_true rfl, Nat.le_of_ble_eq_true rfl⟩ (fun _ => rfl) dX12_init_427 ?_
  refine zi_putF hC cj_11 hAc hin rfl (f := 74) (by decide) wd_1304 rfl (ty := (.array .int)) rfl rfl rfl dX12_init_429 ?_
  refine zi_aload hC dX12_init_432 rfl 0 rfl ?_
  refine zi_bipush hC (x := 40) dX12_init_433 rfl ?_
  refine zi_newa hC hA (j := 150) (len := 40) (atype := .int) 52 8940 (by decide) rfl wd_44 (by decide) rfl (Nat.le_of_ble_eq_true rfl) (by rw [hN 162 (by decide)]; rfl) rfl rfl ⟨Nat.le_of_ble_eq_true rfl, Nat.le_of_ble_eq_true rfl⟩ (fun _ => rfl) dX12_init_435 ?_
  refine zi_putF hC cj_11 hAc hin rfl (f := 75) (by decide) wd_1305 rfl (ty := (.array .int)) rfl rfl rfl dX12_init_437 ?_
  refine zi_aload hC dX12_init_440 rfl 0 rfl ?_
  refine zi_bipush hC (x := 40) dX12_init_441 rfl ?_
  refine zi_newa hC hA (j := 151) (len := 40) (atype := .boolean) 53 8980 (by decide) rfl wd_224 (by decide) rfl (Nat.le_of_ble_eq_true rfl) (by rw [hN 163 (by decide)]; rfl) rfl rfl ⟨Nat.le_of_ble_eq_true rfl, Nat.le_of_ble_eq_true rfl⟩ (fun _ => rfl) dX12_init_443 ?_
  refine zi_putF hC cj_11 hAc hin rfl (f := 76) (by decide) wd_1306 rfl (ty := (.array .boolean)) rfl rfl rfl dX12_init_445 ?_
  refine zi_aload hC dX12_init_448 rfl 0 rfl ?_
  refine zi_bipush hC (x := 20) dX12_init_449 rfl ?_
  refine zi_newa hC hA (j := 152) (len := 20) (atype := .int) 54 9000 (by decide) rfl wd_44 (by decide) rfl (Nat.le_of_ble_eq_true rfl) (by rw [hN 164 (by decide)]; rfl) rfl rfl ⟨Nat.le_of_ble_eq_true rfl, Nat.le_of_ble_eq_true rfl⟩ (fun _ => rfl) dX12_init_451 ?_
  refine zi_putF hC cj_11 hAc hin rfl (f := 80) (by decide) wd_1310 rfl (ty := (.array .int)) rfl rfl rfl dX12_init_453 ?_
  refine zi_aload hC dX12_init_456 rfl 0 rfl ?_
  refine zi_bipush hC (x := 40) dX12_init_457 rfl ?_
  refine zi_newa hC hA (j := 153) (len := 40) (atype := .int) 55 9040 (by decide) rfl wd_44 (by decide) rfl (Nat.le_of_ble_eq_true rfl) (by rw [hN 165 (by decide)]; rfl) rfl rfl ⟨Nat.le_of_ble_eq_true rfl, Nat.le_of_ble_eq_true rfl⟩ (fun _ => rfl) dX12_init_459 ?_
  refine zi_putF hC cj_11 hAc hin rfl (f := 81) (by decide) wd_1311 rfl (ty := (.array .int)) rfl rfl rfl dX12_init_461 ?_
  exact zi_ret hC hr hlocks (fun k hk => hv_12 g k hk) rfl rfl (by rw [hN 11 (by decide)]; rfl) dX12_init_464
