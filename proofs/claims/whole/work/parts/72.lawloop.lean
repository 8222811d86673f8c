section ZLT
variable {p : Program} {l : Launch} {e : Env} {R : Room} {s : State} {m : MethodId} {args : Array Value} {below : List Frame} {meth : Method} {c : Code} {b L : Nat} {xs : Nat → Int32} {g : GT} {ao : Nat} {cO : ClassId} {Q : State → Prop} {cells slots : Nat} {k n : ST} {v : Int64} {pc : Nat} {LV : List (Nat × Value)} {rest : List Value}
theorem zl_gt (hH : HL p s m args meth c b L xs g ao cO) {x y : Int32} {off : Int} {tgt : Nat} (hdg : decode code pc = .ok (.if_icmp .gt off, 3)) (ht : (pc : Int) + off = (tgt : Int)) (kt : y < x → ZL p l e R s m args below meth c g ao cO Q cells slots k n v tgt LV rest) (kf : ¬ y < x → ZL p l e R s m args below meth c g ao cO Q cells slots k n v (pc + 3) LV rest) : ZL p l e R s m args below meth c g ao cO Q cells slots k n v pc LV (.int y :: .int x :: rest) := fun H locs ls hP hN ho hS hl => lv_icmp_gt hH.1 hH.2.1 hdg ht (fun z => kt z H locs ls hP hN ho hS hl) (fun z => kf z H locs ls hP hN ho hS hl)
theorem zl_tabIn (hH : HL p s m args meth c b L xs g ao cO) {dflt lo hi : Int} {offs : Array Int} {len : Nat} {x : Int32} {off : Int} {tgt : Nat} (hdg : decode code pc = .ok (.tableswitch dflt lo hi offs, len)) (h1 : ¬ x.toInt < lo) (h2 : ¬ hi < x.toInt) (hof : offs[(x.toInt - lo).toNat]? = some off) (ht : (pc : Int) + off = (tgt : Int)) (kk : ZL p l e R s m args below meth c g ao cO Q cells slots k n v tgt LV rest) : ZL p l e R s m args below meth c g ao cO Q cells slots k n v pc LV (.int x :: rest) := fun H locs ls hP hN ho hS hl => lv_tableIn hH.1 hH.2.1 hdg h1 h2 hof ht (kk H locs ls hP hN ho hS hl)
theorem zl_tabOut (hH : HL p s m args meth c b L xs g ao cO) {dflt lo hi : Int} {offs : Array Int} {len : Nat} {x : Int32} {tgt : Nat} (hdg : decode code pc = .ok (.tableswitch dflt lo hi offs, len)) (hx : x.toInt < lo ∨ hi < x.toInt) (ht : (pc : Int) + dflt = (tgt : Int)) (kk : ZL p l e R s m args below meth c g ao cO Q cells slots k n v tgt LV rest) : ZL p l e R s m args below meth c g ao cO Q cells slots k n v pc LV (.int x :: rest) := fun H locs ls hP hN ho hS hl => lv_tableOut hH.1 hH.2.1 hdg hx ht (kk H locs ls hP hN ho hS hl)
theorem zl_iinc (hH : HL p s m args meth c b L xs g ao cO) {i q : Nat} {a : Int} {x y : Int32} {LV' : List (Nat × Value)} (hdg : decode code pc = .ok (.iinc i a, 3)) (hq : LV[q]? = some (i, .int x)) (hv : x + Int32.ofInt a = y) (hn : i < 7) (hf : (i, Value.int y) :: LV.filter (fun q => !(q.1 == i) && !(q.1 + 1 == i && q.2.category == 2)) = LV') (kk : ZL p l e R s m args below meth c g ao cO Q cells slots k n v (pc + 3) LV' rest) : ZL p l e R s m args below meth c g ao cO Q cells slots k n v pc LV rest := fun H locs ls hP hN ho hS hl => lv_iinc hH.1 hH.2.1 hdg hl hq hv hn hf (fun ls hl => kk H locs ls hP hN ho hS hl)
end ZLT
theorem lt_sub6 {t L : Nat} (hL : L ≤ 3072) (ht : 6 * t ≤ 4000) : (nI L - 6 < nI (6 * t)) ↔ L < 6 * t + 6 := by
  rw [Int32.lt_iff_toInt_lt]
  have h1 : (nI L - 6).toInt = (L : Int) - 6 := pk_sub_toInt (a := L) (b := 6) (by omega) (by omega)
  rw [h1, nI_toInt (by omega)]
  omega
theorem law_body {p : Program} {l : Launch} {e : Env} {s : State} {m : MethodId} {args : Array Value} {below : List Frame} {meth : Method} {c : Code} {b L : Nat} {xs : Nat → Int32} {g : GT} {ao : Nat} {cO : ClassId} {Q : State → Prop} {cells slots t : Nat} {k n : ST} {v : Int64} {sa : Nat} (hlt : l.stackTraces = false) (hX : XF s.heap.size sa s s.heap) (hH : HL p s m args meth c b L xs g ao cO) (hL : L ≤ 3072) (ht : 6 * t + 6 ≤ L) (hcl : cells + 1 ≤ room_1.cells ∧ slots + 6 ≤ room_1.slots) (hr : Rel t k n) (ih : ∀ (k n : ST) (v : Int64), Rel (t + 1) k n → ZL p l e room_1 s m args below meth c g ao cO Q (cells + 1) (slots + 6) k n v 2327 [(4, .int (nI (6 * t))), (0, .ref b), (1, .ref (g.2.1 10)), (2, .ref (g.2.1 11)), (3, .ref ao)] []) : ZL p l e room_1 s m args below meth c g ao cO Q cells slots k n v 40 [(4, .int (nI (6 * t))), (0, .ref b), (1, .ref (g.2.1 10)), (2, .ref (g.2.1 11)), (3, .ref ao)] [.int (xs (6 * t) &&& 63)] := by
  by_cases h0 : xs (6 * t) &&& 63 = 0
  · refine zl_tabIn hH (tgt := 256) (off := 216) dL_law_40 (by rw [h0]; decide) (by rw [h0]; decide) (by rw [h0]; rfl) (by decide) ?_
    exact lc_0 hH hL ht hcl hr ih
  by_cases h1 : xs (6 * t) &&& 63 = 1
  · refine zl_tabIn hH (tgt := 281) (off := 241) dL_law_40 (by rw [h1]; decide) (by rw [h1]; decide) (by rw [h1]; rfl) (by decide) ?_
    exact lc_1 hH hL ht hcl hr ih
  by_cases h2 : xs (6 * t) &&& 63 = 2
  · refine zl_tabIn hH (tgt := 294) (off := 254) dL_law_40 (by rw [h2]; decide) (by rw [h2]; decide) (by rw [h2]; rfl) (by decide) ?_
    exact lc_2 hH hL ht hcl hr ih
  by_cases h3 : xs (6 * t) &&& 63 = 3
  · refine zl_tabIn hH (tgt := 347) (off := 307) dL_law_40 (by rw [h3]; decide) (by rw [h3]; decide) (by rw [h3]; rfl) (by decide) ?_
    exact lc_3 hH hL ht hcl hr ih
  by_cases h4 : xs (6 * t) &&& 63 = 4
  · refine zl_tabIn hH (tgt := 420) (off := 380) dL_law_40 (by rw [h4]; decide) (by rw [h4]; decide) (by rw [h4]; rfl) (by decide) ?_
    exact lc_4 hH hL ht hcl hr ih
  by_cases h5 : xs (6 * t) &&& 63 = 5
  · refine zl_tabIn hH (tgt := 445) (off := 405) dL_law_40 (by rw [h5]; decide) (by rw [h5]; decide) (by rw [h5]; rfl) (by decide) ?_
    exact lc_5 hH hL ht hcl hr ih
  by_cases h6 : xs (6 * t) &&& 63 = 6
  · refine zl_tabIn hH (tgt := 470) (off := 430) dL_law_40 (by rw [h6]; decide) (by rw [h6]; decide) (by rw [h6]; rfl) (by decide) ?_
    exact lc_6 hlt hX hH hL ht hcl hr ih
  by_cases h7 : xs (6 * t) &&& 63 = 7
  · refine zl_tabIn hH (tgt := 526) (off := 486) dL_law_40 (by rw [h7]; decide) (by rw [h7]; decide) (by rw [h7]; rfl) (by decide) ?_
    exact lc_7 hH hL ht hcl hr ih
  by_cases h8 : xs (6 * t) &&& 63 = 8
  · refine zl_tabIn hH (tgt := 563) (off := 523) dL_law_40 (by rw [h8]; decide) (by rw [h8]; decide) (by rw [h8]; rfl) (by decide) ?_
    exact lc_8 hH hL ht hcl hr ih
  by_cases h9 : xs (6 * t) &&& 63 = 9
  · refine zl_tabIn hH (tgt := 600) (off := 560) dL_law_40 (by rw [h9]; decide) (by rw [h9]; decide) (by rw [h9]; rfl) (by decide) ?_
    exact lc_9 hH hL ht hcl hr ih
  by_cases h10 : xs (6 * t) &&& 63 = 10
  · refine zl_tabIn hH (tgt := 637) (off := 597) dL_law_40 (by rw [h10]; decide) (by rw [h10]; decide) (by rw [h10]; rfl) (by decide) ?_
    exact lc_10 hH hL ht hcl hr ih
  by_cases h11 : xs (6 * t) &&& 63 = 11
  · refine zl_tabIn hH (tgt := 674) (off := 634) dL_law_40 (by rw [h11]; decide) (by rw [h11]; decide) (by rw [h11]; rfl) (by decide) ?_
    exact lc_11 hH hL ht hcl hr ih
  by_cases h12 : xs (6 * t) &&& 63 = 12
  · refine zl_tabIn hH (tgt := 699) (off := 659) dL_law_40 (by rw [h12]; decide) (by rw [h12]; decide) (by rw [h12]; rfl) (by decide) ?_
    exact lc_12 hH hL ht hcl hr ih
  by_cases h13 : xs (6 * t) &&& 63 = 13
  · refine zl_tabIn hH (tgt := 792) (off := 752) dL_law_40 (by rw [h13]; decide) (by rw [h13]; decide) (by rw [h13]; rfl) (by decide) ?_
    exact lc_13 hH hL ht hcl hr ih
  by_cases h14 : xs (6 * t) &&& 63 = 14
  · refine zl_tabIn hH (tgt := 861) (off := 821) dL_law_40 (by rw [h14]; decide) (by rw [h14]; decide) (by rw [h14]; rfl) (by decide) ?_
    exact lc_14 hH hL ht hcl hr ih
  by_cases h15 : xs (6 * t) &&& 63 = 15
  · refine zl_tabIn hH (tgt := 898) (off := 858) dL_law_40 (by rw [h15]; decide) (by rw [h15]; decide) (by rw [h15]; rfl) (by decide) ?_
    exact lc_15 hH hL ht hcl hr ih
  by_cases h16 : xs (6 * t) &&& 63 = 16
  · refine zl_tabIn hH (tgt := 935) (off := 895) dL_law_40 (by rw [h16]; decide) (by rw [h16]; decide) (by rw [h16]; rfl) (by decide) ?_
    exact lc_16 hH hL ht hcl hr ih
  by_cases h17 : xs (6 * t) &&& 63 = 17
  · refine zl_tabIn hH (tgt := 984) (off := 944) dL_law_40 (by rw [h17]; decide) (by rw [h17]; decide) (by rw [h17]; rfl) (by decide) ?_
    exact lc_17 hH hL ht hcl hr ih
  by_cases h18 : xs (6 * t) &&& 63 = 18
  · refine zl_tabIn hH (tgt := 1021) (off := 981) dL_law_40 (by rw [h18]; decide) (by rw [h18]; decide) (by rw [h18]; rfl) (by decide) ?_
    exact lc_18 hH hL ht hcl hr ih
  by_cases h19 : xs (6 * t) &&& 63 = 19
  · refine zl_tabIn hH (tgt := 1034) (off := 994) dL_law_40 (by rw [h19]; decide) (by rw [h19]; decide) (by rw [h19]; rfl) (by decide) ?_
    exact lc_19 hH hL ht hcl hr ih
  by_cases h20 : xs (6 * t) &&& 63 = 20
  · refine zl_tabIn hH (tgt := 1071) (off := 1031) dL_law_40 (by rw [h20]; decide) (by rw [h20]; decide) (by rw [h20]; rfl) (by decide) ?_
    exact lc_20 hH hL ht hcl hr ih
  by_cases h21 : xs (6 * t) &&& 63 = 21
  · refine zl_tabIn hH (tgt := 1109) (off := 1069) dL_law_40 (by rw [h21]; decide) (by rw [h21]; decide) (by rw [h21]; rfl) (by decide) ?_
    exact lc_21 hH hL ht hcl hr ih
  by_cases h22 : xs (6 * t) &&& 63 = 22
  · refine zl_tabIn hH (tgt := 1122) (off := 1082) dL_law_40 (by rw [h22]; decide) (by rw [h22]; decide) (by rw [h22]; rfl) (by decide) ?_
    exact lc_22 hH hL ht hcl hr ih
  by_cases h23 : xs (6 * t) &&& 63 = 23
  · refine zl_tabIn hH (tgt := 1135) (off := 1095) dL_law_40 (by rw [h23]; decide) (by rw [h23]; decide) (by rw [h23]; rfl) (by decide) ?_
    exact lc_23 hH hL ht hcl hr ih
  by_cases h24 : xs (6 * t) &&& 63 = 24
  · refine zl_tabIn hH (tgt := 1172) (off := 1132) dL_law_40 (by rw [h24]; decide) (by rw [h24]; decide) (by rw [h24]; rfl) (by decide) ?_
    exact lc_24 hH hL ht hcl hr ih
  by_cases h25 : xs (6 * t) &&& 63 = 25
  · refine zl_tabIn hH (tgt := 1237) (off := 1197) dL_law_40 (by rw [h25]; decide) (by rw [h25]; decide) (by rw [h25]; rfl) (by decide) ?_
    exact lc_25 hH hL ht hcl hr ih
  by_cases h26 : xs (6 * t) &&& 63 = 26
  · refine zl_tabIn hH (tgt := 1302) (off := 1262) dL_law_40 (by rw [h26]; decide) (by rw [h26]; decide) (by rw [h26]; rfl) (by decide) ?_
    exact lc_26 hH hL ht hcl hr ih
  by_cases h27 : xs (6 * t) &&& 63 = 27
  · refine zl_tabIn hH (tgt := 1367) (off := 1327) dL_law_40 (by rw [h27]; decide) (by rw [h27]; decide) (by rw [h27]; rfl) (by decide) ?_
    exact lc_27 hH hL ht hcl hr ih
  by_cases h28 : xs (6 * t) &&& 63 = 28
  · refine zl_tabIn hH (tgt := 1392) (off := 1352) dL_law_40 (by rw [h28]; decide) (by rw [h28]; decide) (by rw [h28]; rfl) (by decide) ?_
    exact lc_28 hH hL ht hcl hr ih
  by_cases h29 : xs (6 * t) &&& 63 = 29
  · refine zl_tabIn hH (tgt := 1441) (off := 1401) dL_law_40 (by rw [h29]; decide) (by rw [h29]; decide) (by rw [h29]; rfl) (by decide) ?_
    exact lc_29 hH hL ht hcl hr ih
  by_cases h30 : xs (6 * t) &&& 63 = 30
  · refine zl_tabIn hH (tgt := 1490) (off := 1450) dL_law_40 (by rw [h30]; decide) (by rw [h30]; decide) (by rw [h30]; rfl) (by decide) ?_
    exact lc_30 hH hL ht hcl hr ih
  by_cases h31 : xs (6 * t) &&& 63 = 31
  · refine zl_tabIn hH (tgt := 1515) (off := 1475) dL_law_40 (by rw [h31]; decide) (by rw [h31]; decide) (by rw [h31]; rfl) (by decide) ?_
    exact lc_31 hH hL ht hcl hr ih
  by_cases h32 : xs (6 * t) &&& 63 = 32
  · refine zl_tabIn hH (tgt := 1576) (off := 1536) dL_law_40 (by rw [h32]; decide) (by rw [h32]; decide) (by rw [h32]; rfl) (by decide) ?_
    exact lc_32 hH hL ht hcl hr ih
  by_cases h33 : xs (6 * t) &&& 63 = 33
  · refine zl_tabIn hH (tgt := 1629) (off := 1589) dL_law_40 (by rw [h33]; decide) (by rw [h33]; decide) (by rw [h33]; rfl) (by decide) ?_
    exact lc_33 hH hL ht hcl hr ih
  by_cases h34 : xs (6 * t) &&& 63 = 34
  · refine zl_tabIn hH (tgt := 1722) (off := 1682) dL_law_40 (by rw [h34]; decide) (by rw [h34]; decide) (by rw [h34]; rfl) (by decide) ?_
    exact lc_34 hH hL ht hcl hr ih
  by_cases h35 : xs (6 * t) &&& 63 = 35
  · refine zl_tabIn hH (tgt := 1759) (off := 1719) dL_law_40 (by rw [h35]; decide) (by rw [h35]; decide) (by rw [h35]; rfl) (by decide) ?_
    exact lc_35 hH hL ht hcl hr ih
  by_cases h36 : xs (6 * t) &&& 63 = 36
  · refine zl_tabIn hH (tgt := 1820) (off := 1780) dL_law_40 (by rw [h36]; decide) (by rw [h36]; decide) (by rw [h36]; rfl) (by decide) ?_
    exact lc_36 hH hL ht hcl hr ih
  by_cases h37 : xs (6 * t) &&& 63 = 37
  · refine zl_tabIn hH (tgt := 1857) (off := 1817) dL_law_40 (by rw [h37]; decide) (by rw [h37]; decide) (by rw [h37]; rfl) (by decide) ?_
    exact lc_37 hH hL ht hcl hr ih
  by_cases h38 : xs (6 * t) &&& 63 = 38
  · refine zl_tabIn hH (tgt := 1882) (off := 1842) dL_law_40 (by rw [h38]; decide) (by rw [h38]; decide) (by rw [h38]; rfl) (by decide) ?_
    exact lc_38 hH hL ht hcl hr ih
  by_cases h39 : xs (6 * t) &&& 63 = 39
  · refine zl_tabIn hH (tgt := 1919) (off := 1879) dL_law_40 (by rw [h39]; decide) (by rw [h39]; decide) (by rw [h39]; rfl) (by decide) ?_
    exact lc_39 hH hL ht hcl hr ih
  by_cases h40 : xs (6 * t) &&& 63 = 40
  · refine zl_tabIn hH (tgt := 1992) (off := 1952) dL_law_40 (by rw [h40]; decide) (by rw [h40]; decide) (by rw [h40]; rfl) (by decide) ?_
    exact lc_40 hH hL ht hcl hr ih
  by_cases h41 : xs (6 * t) &&& 63 = 41
  · refine zl_tabIn hH (tgt := 2041) (off := 2001) dL_law_40 (by rw [h41]; decide) (by rw [h41]; decide) (by rw [h41]; rfl) (by decide) ?_
    exact lc_41 hH hL ht hcl hr ih
  by_cases h42 : xs (6 * t) &&& 63 = 42
  · refine zl_tabIn hH (tgt := 2066) (off := 2026) dL_law_40 (by rw [h42]; decide) (by rw [h42]; decide) (by rw [h42]; rfl) (by decide) ?_
    exact lc_42 hH hL ht hcl hr ih
  by_cases h43 : xs (6 * t) &&& 63 = 43
  · refine zl_tabIn hH (tgt := 2091) (off := 2051) dL_law_40 (by rw [h43]; decide) (by rw [h43]; decide) (by rw [h43]; rfl) (by decide) ?_
    exact lc_43 hH hL ht hcl hr ih
  by_cases h44 : xs (6 * t) &&& 63 = 44
  · refine zl_tabIn hH (tgt := 2129) (off := 2089) dL_law_40 (by rw [h44]; decide) (by rw [h44]; decide) (by rw [h44]; rfl) (by decide) ?_
    exact lc_44 hH hL ht hcl hr ih
  by_cases h45 : xs (6 * t) &&& 63 = 45
  · refine zl_tabIn hH (tgt := 2166) (off := 2126) dL_law_40 (by rw [h45]; decide) (by rw [h45]; decide) (by rw [h45]; rfl) (by decide) ?_
    exact lc_45 hH hL ht hcl hr ih
  by_cases h46 : xs (6 * t) &&& 63 = 46
  · refine zl_tabIn hH (tgt := 2203) (off := 2163) dL_law_40 (by rw [h46]; decide) (by rw [h46]; decide) (by rw [h46]; rfl) (by decide) ?_
    exact lc_46 hH hL ht hcl hr ih
  by_cases h47 : xs (6 * t) &&& 63 = 47
  · refine zl_tabIn hH (tgt := 2240) (off := 2200) dL_law_40 (by rw [h47]; decide) (by rw [h47]; decide) (by rw [h47]; rfl) (by decide) ?_
    exact lc_47 hH hL ht hcl hr ih
  by_cases h48 : xs (6 * t) &&& 63 = 48
  · refine zl_tabIn hH (tgt := 2265) (off := 2225) dL_law_40 (by rw [h48]; decide) (by rw [h48]; decide) (by rw [h48]; rfl) (by decide) ?_
    exact lc_48 hH hL ht hcl hr ih
  by_cases h49 : xs (6 * t) &&& 63 = 49
  · refine zl_tabIn hH (tgt := 2302) (off := 2262) dL_law_40 (by rw [h49]; decide) (by rw [h49]; decide) (by rw [h49]; rfl) (by decide) ?_
    exact lc_49 hH hL ht hcl hr ih
  refine zl_tabOut hH (tgt := 2327) dL_law_40 (by have z0 := lv_neT h0 (a := 0) rfl; have z1 := lv_neT h1 (a := 1) rfl; have z2 := lv_neT h2 (a := 2) rfl; have z3 := lv_neT h3 (a := 3) rfl; have z4 := lv_neT h4 (a := 4) rfl; have z5 := lv_neT h5 (a := 5) rfl; have z6 := lv_neT h6 (a := 6) rfl; have z7 := lv_neT h7 (a := 7) rfl; have z8 := lv_neT h8 (a := 8) rfl; have z9 := lv_neT h9 (a := 9) rfl; have z10 := lv_neT h10 (a := 10) rfl; have z11 := lv_neT h11 (a := 11) rfl; have z12 := lv_neT h12 (a := 12) rfl; have z13 := lv_neT h13 (a := 13) rfl; have z14 := lv_neT h14 (a := 14) rfl; have z15 := lv_neT h15 (a := 15) rfl; have z16 := lv_neT h16 (a := 16) rfl; have z17 := lv_neT h17 (a := 17) rfl; have z18 := lv_neT h18 (a := 18) rfl; have z19 := lv_neT h19 (a := 19) rfl; have z20 := lv_neT h20 (a := 20) rfl; have z21 := lv_neT h21 (a := 21) rfl; have z22 := lv_neT h22 (a := 22) rfl; have z23 := lv_neT h23 (a := 23) rfl; have z24 := lv_neT h24 (a := 24) rfl; have z25 := lv_neT h25 (a := 25) rfl; have z26 := lv_neT h26 (a := 26) rfl; have z27 := lv_neT h27 (a := 27) rfl; have z28 := lv_neT h28 (a := 28) rfl; have z29 := lv_neT h29 (a := 29) rfl; have z30 := lv_neT h30 (a := 30) rfl; have z31 := lv_neT h31 (a := 31) rfl; have z32 := lv_neT h32 (a := 32) rfl; have z33 := lv_neT h33 (a := 33) rfl; have z34 := lv_neT h34 (a := 34) rfl; have z35 := lv_neT h35 (a := 35) rfl; have z36 := lv_neT h36 (a := 36) rfl; have z37 := lv_neT h37 (a := 37) rfl; have z38 := lv_neT h38 (a := 38) rfl; have z39 := lv_neT h39 (a := 39) rfl; have z40 := lv_neT h40 (a := 40) rfl; have z41 := lv_neT h41 (a := 41) rfl; have z42 := lv_neT h42 (a := 42) rfl; have z43 := lv_neT h43 (a := 43) rfl; have z44 := lv_neT h44 (a := 44) rfl; have z45 := lv_neT h45 (a := 45) rfl; have z46 := lv_neT h46 (a := 46) rfl; have z47 := lv_neT h47 (a := 47) rfl; have z48 := lv_neT h48 (a := 48) rfl; have z49 := lv_neT h49 (a := 49) rfl; omega) (by decide) ?_
  refine zl_widen (Nat.le_add_right _ 1) (Nat.le_add_right _ 6) ?_
  exact ih k n v (rel_step hr)
theorem law_loop {p : Program} {l : Launch} {e : Env} {s : State} {m : MethodId} {below : List Frame} {meth : Method} {c : Code} {b L : Nat} {xs : Nat → Int32} {g : GT} {ao : Nat} {cO : ClassId} {sa : Nat} (hlt : l.stackTraces = false) (hX : XF s.heap.size sa s s.heap) (hH : HL p s m #[Value.ref b] meth c b L xs g ao cO) (hL : L ≤ 3072) (hr0 : meth.sig.returnType = ret) (hlocks : meth.locks = false) : ∀ (d t cells slots : Nat) (k n : ST) (v : Int64), t + d = 513 → cells + d ≤ 601024 → slots + 6 * d ≤ 7293034 → Rel t k n → ZL p l e room_1 s m #[Value.ref b] below meth c g ao cO (lw_Z below #[Value.ref b] s) cells slots k n v 23 [(4, .int (nI (6 * t))), (0, .ref b), (1, .ref (g.2.1 10)), (2, .ref (g.2.1 11)), (3, .ref ao)] [] := by
  intro d
  induction d with
  | zero =>
    intro t cells slots k n v htd hc hs hr
    refine zl_iload hH dL_law_23 0 rfl ?_
    refine zl_aload_n hH dL_law_25 rfl 1 rfl ?_
    refine zl_slen hH dL_law_26 ?_
    refine zl_bipush hH (x := 6) dL_law_27 rfl ?_
    refine zl_isub hH dL_law_29 ?_
    refine zl_gt hH (tgt := 2333) dL_law_30 (by decide) (fun _ => ?_) (fun h => absurd ((lt_sub6 hL (by omega)).mpr (by omega)) h)
    refine zl_iconst hH (x := 1) dL_law_2333 rfl ?_
    intro H locs ls hP hN ho hS hl
    refine va_forget hS.2.2 ?_
    refine W.widen (k := 601024) (n := 7293034) (by omega) (by omega) ?_
    exact lw_ret hH.1 hH.2.1 hr0 hlocks dL_law_2334
  | succ d ihd =>
    intro t cells slots k n v htd hc hs hr
    refine zl_iload hH dL_law_23 0 rfl ?_
    refine zl_aload_n hH dL_law_25 rfl 1 rfl ?_
    refine zl_slen hH dL_law_26 ?_
    refine zl_bipush hH (x := 6) dL_law_27 rfl ?_
    refine zl_isub hH dL_law_29 ?_
    refine zl_gt hH (tgt := 2333) dL_law_30 (by decide) (fun _ => ?_) (fun h => ?_)
    · refine zl_iconst hH (x := 1) dL_law_2333 rfl ?_
      intro H locs ls hP hN ho hS hl
      refine va_forget hS.2.2 ?_
      refine W.widen (k := 601024) (n := 7293034) (by omega) (by omega) ?_
      exact lw_ret hH.1 hH.2.1 hr0 hlocks dL_law_2334
    · have ht : 6 * t + 6 ≤ L := by
        rw [lt_sub6 hL (by omega)] at h
        omega
      refine zl_aload_n hH dL_law_33 rfl 1 rfl ?_
      refine zl_iload hH dL_law_34 0 rfl ?_
      refine zl_sld hH hL (6 * t) rfl (by omega) dL_law_36 ?_
      refine zl_bipush hH (x := 63) dL_law_37 rfl ?_
      refine zl_iand hH dL_law_39 ?_
      refine law_body hlt hX hH hL ht ⟨by show cells + 1 ≤ 601024; omega, by show slots + 6 ≤ 7293034; omega⟩ hr (fun k n v hr2 => ?_)
      refine zl_iinc hH (q := 0) (y := nI (6 * (t + 1))) (LV' := [(4, .int (nI (6 * (t + 1)))), (0, .ref b), (1, .ref (g.2.1 10)), (2, .ref (g.2.1 11)), (3, .ref ao)]) dL_law_2327 rfl (by rw [Nat.mul_succ]; exact nI_add (6 * t) 6) (by decide) rfl ?_
      refine zl_goto hH (tgt := 23) dL_law_2330 (by decide) ?_
      exact ihd (t + 1) (cells + 1) (slots + 6) k n v (by omega) (by omega) (by omega) hr2
