/-! LifeKeys.ruleHolds -/
theorem dX11_ruleHolds_0 : decode cX11_ruleHolds 0 = .ok (.iload_n 2, 1) := by decide +kernel
theorem dX11_ruleHolds_1 : decode cX11_ruleHolds 1 = .ok (.iload_n 3, 1) := by decide +kernel
theorem dX11_ruleHolds_2 : decode cX11_ruleHolds 2 = .ok (.invokestatic 418, 3) := by decide +kernel
theorem dX11_ruleHolds_5 : decode cX11_ruleHolds 5 = .ok (.istore 4, 2) := by decide +kernel
theorem dX11_ruleHolds_7 : decode cX11_ruleHolds 7 = .ok (.iconst 0, 1) := by decide +kernel
theorem dX11_ruleHolds_8 : decode cX11_ruleHolds 8 = .ok (.istore 5, 2) := by decide +kernel
theorem dX11_ruleHolds_10 : decode cX11_ruleHolds 10 = .ok (.iconst 0, 1) := by decide +kernel
theorem dX11_ruleHolds_11 : decode cX11_ruleHolds 11 = .ok (.istore 6, 2) := by decide +kernel
theorem dX11_ruleHolds_13 : decode cX11_ruleHolds 13 = .ok (.iload 6, 2) := by decide +kernel
theorem dX11_ruleHolds_15 : decode cX11_ruleHolds 15 = .ok (.aload_n 0, 1) := by decide +kernel
theorem dX11_ruleHolds_16 : decode cX11_ruleHolds 16 = .ok (.getfield 90, 3) := by decide +kernel
theorem dX11_ruleHolds_19 : decode cX11_ruleHolds 19 = .ok (.if_icmp .ge 29, 3) := by decide +kernel
theorem dX11_ruleHolds_22 : decode cX11_ruleHolds 22 = .ok (.aload_n 0, 1) := by decide +kernel
theorem dX11_ruleHolds_23 : decode cX11_ruleHolds 23 = .ok (.iload 6, 2) := by decide +kernel
theorem dX11_ruleHolds_25 : decode cX11_ruleHolds 25 = .ok (.iload_n 2, 1) := by decide +kernel
theorem dX11_ruleHolds_26 : decode cX11_ruleHolds 26 = .ok (.iload_n 3, 1) := by decide +kernel
theorem dX11_ruleHolds_27 : decode cX11_ruleHolds 27 = .ok (.invokevirtual 290, 3) := by decide +kernel
theorem dX11_ruleHolds_30 : decode cX11_ruleHolds 30 = .ok (.ifCond .eq 12, 3) := by decide +kernel
theorem dX11_ruleHolds_33 : decode cX11_ruleHolds 33 = .ok (.iload 5, 2) := by decide +kernel
theorem dX11_ruleHolds_35 : decode cX11_ruleHolds 35 = .ok (.iconst 1, 1) := by decide +kernel
theorem dX11_ruleHolds_36 : decode cX11_ruleHolds 36 = .ok (.iload 6, 2) := by decide +kernel
theorem dX11_ruleHolds_38 : decode cX11_ruleHolds 38 = .ok (.ishl, 1) := by decide +kernel
theorem dX11_ruleHolds_39 : decode cX11_ruleHolds 39 = .ok (.ior, 1) := by decide +kernel
theorem dX11_ruleHolds_40 : decode cX11_ruleHolds 40 = .ok (.istore 5, 2) := by decide +kernel
theorem dX11_ruleHolds_42 : decode cX11_ruleHolds 42 = .ok (.iinc 6 1, 3) := by decide +kernel
theorem dX11_ruleHolds_45 : decode cX11_ruleHolds 45 = .ok (.goto (-32), 3) := by decide +kernel
theorem dX11_ruleHolds_48 : decode cX11_ruleHolds 48 = .ok (.aload_n 0, 1) := by decide +kernel
theorem dX11_ruleHolds_49 : decode cX11_ruleHolds 49 = .ok (.getfield 61, 3) := by decide +kernel
theorem dX11_ruleHolds_52 : decode cX11_ruleHolds 52 = .ok (.getfield 278, 3) := by decide +kernel
theorem dX11_ruleHolds_55 : decode cX11_ruleHolds 55 = .ok (.iload_n 1, 1) := by decide +kernel
theorem dX11_ruleHolds_56 : decode cX11_ruleHolds 56 = .ok (.iaload, 1) := by decide +kernel
theorem dX11_ruleHolds_57 : decode cX11_ruleHolds 57 = .ok (.istore 6, 2) := by decide +kernel
theorem dX11_ruleHolds_59 : decode cX11_ruleHolds 59 = .ok (.iload 6, 2) := by decide +kernel
theorem dX11_ruleHolds_61 : decode cX11_ruleHolds 61 = .ok (.iconst (-1), 1) := by decide +kernel
theorem dX11_ruleHolds_62 : decode cX11_ruleHolds 62 = .ok (.if_icmp .eq 10, 3) := by decide +kernel
theorem dX11_ruleHolds_65 : decode cX11_ruleHolds 65 = .ok (.iload 6, 2) := by decide +kernel
theorem dX11_ruleHolds_67 : decode cX11_ruleHolds 67 = .ok (.iload 4, 2) := by decide +kernel
theorem dX11_ruleHolds_69 : decode cX11_ruleHolds 69 = .ok (.if_icmp .le 7, 3) := by decide +kernel
theorem dX11_ruleHolds_72 : decode cX11_ruleHolds 72 = .ok (.iconst (-1), 1) := by decide +kernel
theorem dX11_ruleHolds_73 : decode cX11_ruleHolds 73 = .ok (.goto 7, 3) := by decide +kernel
theorem dX11_ruleHolds_76 : decode cX11_ruleHolds 76 = .ok (.iload_n 2, 1) := by decide +kernel
theorem dX11_ruleHolds_77 : decode cX11_ruleHolds 77 = .ok (.iload 6, 2) := by decide +kernel
theorem dX11_ruleHolds_79 : decode cX11_ruleHolds 79 = .ok (.isub, 1) := by decide +kernel
theorem dX11_ruleHolds_80 : decode cX11_ruleHolds 80 = .ok (.istore 7, 2) := by decide +kernel
theorem dX11_ruleHolds_82 : decode cX11_ruleHolds 82 = .ok (.aload_n 0, 1) := by decide +kernel
theorem dX11_ruleHolds_83 : decode cX11_ruleHolds 83 = .ok (.getfield 47, 3) := by decide +kernel
theorem dX11_ruleHolds_86 : decode cX11_ruleHolds 86 = .ok (.aload_n 0, 1) := by decide +kernel
theorem dX11_ruleHolds_87 : decode cX11_ruleHolds 87 = .ok (.getfield 61, 3) := by decide +kernel
theorem dX11_ruleHolds_90 : decode cX11_ruleHolds 90 = .ok (.getfield 421, 3) := by decide +kernel
theorem dX11_ruleHolds_93 : decode cX11_ruleHolds 93 = .ok (.iload_n 1, 1) := by decide +kernel
theorem dX11_ruleHolds_94 : decode cX11_ruleHolds 94 = .ok (.iaload, 1) := by decide +kernel
theorem dX11_ruleHolds_95 : decode cX11_ruleHolds 95 = .ok (.aload_n 0, 1) := by decide +kernel
theorem dX11_ruleHolds_96 : decode cX11_ruleHolds 96 = .ok (.getfield 54, 3) := by decide +kernel
theorem dX11_ruleHolds_99 : decode cX11_ruleHolds 99 = .ok (.iload_n 1, 1) := by decide +kernel
theorem dX11_ruleHolds_100 : decode cX11_ruleHolds 100 = .ok (.iload 4, 2) := by decide +kernel
theorem dX11_ruleHolds_102 : decode cX11_ruleHolds 102 = .ok (.invokevirtual 424, 3) := by decide +kernel
theorem dX11_ruleHolds_105 : decode cX11_ruleHolds 105 = .ok (.iload 5, 2) := by decide +kernel
theorem dX11_ruleHolds_107 : decode cX11_ruleHolds 107 = .ok (.iload 7, 2) := by decide +kernel
theorem dX11_ruleHolds_109 : decode cX11_ruleHolds 109 = .ok (.invokevirtual 427, 3) := by decide +kernel
theorem dX11_ruleHolds_112 : decode cX11_ruleHolds 112 = .ok (.ireturn, 1) := by decide +kernel
def lpX11_ruleHolds_13 (v1 : Int32) (v2 : Int32) (v3 : Int32) (v4 : Int32) : Nat → Int32 → Int32 → ST → (Int32 → Int32 → ST → Option (Bool × ST)) → Option (Bool × ST)
  | 0, _, _, _, _ => none
  | n + 1, v5, v6, k, cont => if (gI k 10 1) ≤ v6 then cont v5 v6 k else ob (fX11_isDead k v6 v2 v3) fun r5 k6 => if r5 = true then lpX11_ruleHolds_13 v1 v2 v3 v4 n (v5 ||| (j_shl 1 v6)) (v6 + 1) k6 cont else lpX11_ruleHolds_13 v1 v2 v3 v4 n v5 (v6 + 1) k6 cont
def jbX11_ruleHolds_80 (v1 : Int32) (v2 : Int32) (v3 : Int32) (v4 : Int32) (v5 : Int32) (v6 : Int32) (s0 : Int32) (k : ST) : Option (Bool × ST) := ck (inb v1 40) (ob (fX6_voices k v1 v4) fun r15 k16 => ob (fX5_holds k16 (gA k 45 (ix v1)) r15 v5 s0) fun r18 k19 => some (r18, k19))
def jbX11_ruleHolds_72 (v1 : Int32) (v2 : Int32) (v3 : Int32) (v4 : Int32) (v5 : Int32) (v6 : Int32)  (k : ST) : Option (Bool × ST) := jbX11_ruleHolds_80 v1 v2 v3 v4 v5 v6 (-1) k
set_option maxRecDepth 20000 in
theorem zlpX11_ruleHolds_13 {p : Program} {l : Launch} {e : Env} {R : Room} {s : State} {m : MethodId} {args : Array Value} {below : List Frame} {meth : Method} {c : Code} {g : GT} (hC : HC p s m args meth c cX11_ruleHolds 8 RX11 (some .boolean) g) (hR : 5 ≤ R.frames ∧ 119 ≤ R.locals)  (v1 : Int32) (v2 : Int32) (v3 : Int32) (v4 : Int32) {cont : Int32 → Int32 → ST → Option (Bool × ST)} (hk : ∀ (v5 : Int32) (v6 : Int32) (k : ST), ZF p l e R s m args below meth c g TK voB 8 k 48 [(0, .ref (g.2.1 10)), (1, .int v1), (2, .int v2), (3, .int v3), (4, .int v4), (5, .int v5), (6, .int v6)] [] (cont v5 v6 k)) : ∀ (n : Nat) (v5 : Int32) (v6 : Int32) (k : ST), ZF p l e R s m args below meth c g TK voB 8 k 13 [(0, .ref (g.2.1 10)), (1, .int v1), (2, .int v2), (3, .int v3), (4, .int v4), (5, .int v5), (6, .int v6)] [] (lpX11_ruleHolds_13 v1 v2 v3 v4 n v5 v6 k cont) := by
  intro n
  induction n with
  | zero => intros; exact zf_none
  | succ n ih =>
    intro v5 v6 k
    rw [lpX11_ruleHolds_13]
    refine zf_iload hC dX11_ruleHolds_13 6 rfl ?_
    refine zf_aload_n hC dX11_ruleHolds_15 rfl 0 rfl ?_
    refine gf_401 hC dX11_ruleHolds_16 ?_
    refine zf_icmp_ge hC (tgt := 48) dX11_ruleHolds_19 (by decide) (fun h4 => ?_) (fun h4 => ?_)
    · refine zf_lv (LV' := [(0, .ref (g.2.1 10)), (1, .int v1), (2, .int v2), (3, .int v3), (4, .int v4), (5, .int v5), (6, .int v6)]) [0, 1, 2, 3, 4, 5, 6] rfl ?_
      exact hk v5 v6 k
    · refine zf_aload_n hC dX11_ruleHolds_22 rfl 0 rfl ?_
      refine zf_iload hC dX11_ruleHolds_23 6 rfl ?_
      refine zf_iload_n hC dX11_ruleHolds_25 rfl 2 rfl ?_
      refine zf_iload_n hC dX11_ruleHolds_26 rfl 3 rfl ?_
      refine zf_callV hC (c_X11_isDead l g v6 v2 v3) mt_X11_isDead wd_880 sp_24 ci_10 ic_10 wd_878 rfl (rm_le hR rfl) rfl rfl (rest := []) rfl (Nat.le_of_ble_eq_true rfl) dX11_ruleHolds_27 (fun r5 k6 h7 => ?_)
      refine zf_ifb_eq hC (tgt := 42) dX11_ruleHolds_30 (by decide) (fun h8 => ?_) (fun h8 => ?_)
      · refine zf_iload hC dX11_ruleHolds_33 5 rfl ?_
        refine zf_iconst hC (v := 1) dX11_ruleHolds_35 rfl ?_
        refine zf_iload hC dX11_ruleHolds_36 6 rfl ?_
        refine zf_ishl hC dX11_ruleHolds_38 ?_
        refine zf_ior hC dX11_ruleHolds_39 ?_
        refine zf_istore hC (LV' := [(5, .int (v5 ||| (j_shl 1 v6))), (0, .ref (g.2.1 10)), (1, .int v1), (2, .int v2), (3, .int v3), (4, .int v4), (6, .int v6)]) dX11_ruleHolds_40 (by decide) rfl ?_
        refine zf_iinc hC (q := 6) (v := v6 + 1) (LV' := [(6, .int (v6 + 1)), (5, .int (v5 ||| (j_shl 1 v6))), (0, .ref (g.2.1 10)), (1, .int v1), (2, .int v2), (3, .int v3), (4, .int v4)]) dX11_ruleHolds_42 rfl rfl (by decide) rfl ?_
        refine zf_goto hC (tgt := 13) dX11_ruleHolds_45 (by decide) ?_
        refine zf_lv (LV' := [(0, .ref (g.2.1 10)), (1, .int v1), (2, .int v2), (3, .int v3), (4, .int v4), (5, .int (v5 ||| (j_shl 1 v6))), (6, .int (v6 + 1))]) [2, 3, 4, 5, 6, 1, 0] rfl ?_
        exact ih (v5 ||| (j_shl 1 v6)) (v6 + 1) k6
      · refine zf_iinc hC (q := 6) (v := v6 + 1) (LV' := [(6, .int (v6 + 1)), (0, .ref (g.2.1 10)), (1, .int v1), (2, .int v2), (3, .int v3), (4, .int v4), (5, .int v5)]) dX11_ruleHolds_42 rfl rfl (by decide) rfl ?_
        refine zf_goto hC (tgt := 13) dX11_ruleHolds_45 (by decide) ?_
        refine zf_lv (LV' := [(0, .ref (g.2.1 10)), (1, .int v1), (2, .int v2), (3, .int v3), (4, .int v4), (5, .int v5), (6, .int (v6 + 1))]) [1, 2, 3, 4, 5, 6, 0] rfl ?_
        exact ih v5 (v6 + 1) k6
set_option maxRecDepth 20000 in
theorem zjbX11_ruleHolds_80 {p : Program} {l : Launch} {e : Env} {R : Room} {s : State} {m : MethodId} {args : Array Value} {below : List Frame} {meth : Method} {c : Code} {g : GT} (hC : HC p s m args meth c cX11_ruleHolds 8 RX11 (some .boolean) g) (hR : 5 ≤ R.frames ∧ 119 ≤ R.locals)  (v1 : Int32) (v2 : Int32) (v3 : Int32) (v4 : Int32) (v5 : Int32) (v6 : Int32) (s0 : Int32) (k : ST) : ZF p l e R s m args below meth c g TK voB 8 k 80 [(0, .ref (g.2.1 10)), (1, .int v1), (2, .int v2), (3, .int v3), (4, .int v4), (5, .int v5), (6, .int v6)] [.int s0] (jbX11_ruleHolds_80  v1 v2 v3 v4 v5 v6 s0 k) := by
  unfold jbX11_ruleHolds_80
  refine zf_istore hC (LV' := [(7, .int s0), (0, .ref (g.2.1 10)), (1, .int v1), (2, .int v2), (3, .int v3), (4, .int v4), (5, .int v5), (6, .int v6)]) dX11_ruleHolds_80 (by decide) rfl ?_
  refine zf_aload_n hC dX11_ruleHolds_82 rfl 1 rfl ?_
  refine gf_411 hC dX11_ruleHolds_83 ?_
  refine zf_aload_n hC dX11_ruleHolds_86 rfl 1 rfl ?_
  refine gf_413 hC dX11_ruleHolds_87 ?_
  refine gf_271 hC dX11_ruleHolds_90 ?_
  refine zf_iload_n hC dX11_ruleHolds_93 rfl 2 rfl ?_
  refine zf_iald hC (j := 45) ia_45 rfl rfl dX11_ruleHolds_94 (fun h14 => ?_)
  refine zf_aload_n hC dX11_ruleHolds_95 rfl 1 rfl ?_
  refine gf_412 hC dX11_ruleHolds_96 ?_
  refine zf_iload_n hC dX11_ruleHolds_99 rfl 2 rfl ?_
  refine zf_iload hC dX11_ruleHolds_100 5 rfl ?_
  refine zf_callV hC (c_X6_voices l g v1 v4) mt_X6_voices wd_891 wd_892 ci_5 ic_5 wd_890 rfl (rm_le hR rfl) rfl rfl (rest := [.int (gA k 45 (ix v1)), .ref (g.2.1 4)]) rfl (Nat.le_of_ble_eq_true rfl) dX11_ruleHolds_102 (fun r15 k16 h17 => ?_)
  refine zf_iload hC dX11_ruleHolds_105 6 rfl ?_
  refine zf_iload hC dX11_ruleHolds_107 0 rfl ?_
  refine zf_callV hC (c_X5_holds l g (gA k 45 (ix v1)) r15 v5 s0) mt_X5_holds wd_895 wd_896 ci_4 ic_4 wd_894 rfl (rm_le hR rfl) rfl rfl (rest := []) rfl (Nat.le_of_ble_eq_true rfl) dX11_ruleHolds_109 (fun r18 k19 h20 => ?_)
  exact zf_zret hC rfl r18 rfl dX11_ruleHolds_112
set_option maxRecDepth 20000 in
theorem zjbX11_ruleHolds_72 {p : Program} {l : Launch} {e : Env} {R : Room} {s : State} {m : MethodId} {args : Array Value} {below : List Frame} {meth : Method} {c : Code} {g : GT} (hC : HC p s m args meth c cX11_ruleHolds 8 RX11 (some .boolean) g) (hR : 5 ≤ R.frames ∧ 119 ≤ R.locals)  (v1 : Int32) (v2 : Int32) (v3 : Int32) (v4 : Int32) (v5 : Int32) (v6 : Int32)  (k : ST) : ZF p l e R s m args below meth c g TK voB 8 k 72 [(0, .ref (g.2.1 10)), (1, .int v1), (2, .int v2), (3, .int v3), (4, .int v4), (5, .int v5), (6, .int v6)] [] (jbX11_ruleHolds_72  v1 v2 v3 v4 v5 v6 k) := by
  unfold jbX11_ruleHolds_72
  refine zf_iconst hC (v := (-1)) dX11_ruleHolds_72 rfl ?_
  refine zf_goto hC (tgt := 80) dX11_ruleHolds_73 (by decide) ?_
  exact zjbX11_ruleHolds_80 hC hR v1 v2 v3 v4 v5 v6 (-1) k
def fX11_ruleHolds (k : ST) (a0 : Int32) (a1 : Int32) (a2 : Int32) : Option (Bool × ST) := ob (fJ9_min_7cf53 k a1 a2) fun r1 k2 => lpX11_ruleHolds_13 a0 a1 a2 r1 FU 0 0 k2 fun y9 y10 k11 => ck (inb a0 40) (if (gA k11 47 (ix a0)) = (-1) then jbX11_ruleHolds_72 a0 a1 a2 r1 y9 (gA k11 47 (ix a0)) k11 else if (gA k11 47 (ix a0)) ≤ r1 then jbX11_ruleHolds_80 a0 a1 a2 r1 y9 (gA k11 47 (ix a0)) (a1 - (gA k11 47 (ix a0))) k11 else jbX11_ruleHolds_72 a0 a1 a2 r1 y9 (gA k11 47 (ix a0)) k11)
set_option maxRecDepth 20000 in
theorem c_X11_ruleHolds (l : Launch) (g : GT) (a0 : Int32) (a1 : Int32) (a2 : Int32) : CN l yX11_ruleHolds cX11_ruleHolds 8 (some .boolean) { frames := 5, cells := 0, slots := 0, locals := 119 } g TK voB [.ref (g.2.1 10), .int a0, .int a1, .int a2] (fun k => fX11_ruleHolds k a0 a1 a2) := by
  refine cn_of (by decide) (Nat.le_of_ble_eq_true rfl) ?_
  intro p e s m args below meth c hC k
  have hC : HC p s m args meth c cX11_ruleHolds 8 RX11 (some .boolean) g := hC
  have hR : 5 ≤ ({ frames := 5, cells := 0, slots := 0, locals := 119 } : Room).frames ∧ 119 ≤ ({ frames := 5, cells := 0, slots := 0, locals := 119 } : Room).locals := ⟨Nat.le_refl _, Nat.le_refl _⟩
  show ZF p l e _ s m args below meth c g TK voB 8 k 0 [(0, .ref (g.2.1 10)), (1, .int a0), (2, .int a1), (3, .int a2)] [] (fX11_ruleHolds k a0 a1 a2)
  unfold fX11_ruleHolds
  refine zf_iload_n hC dX11_ruleHolds_0 rfl 2 rfl ?_
  refine zf_iload_n hC dX11_ruleHolds_1 rfl 3 rfl ?_
  refine zf_callS hC (c_J9_min_7cf53 l g TK a1 a2) mt_J9_min_7cf53 wd_750 wd_877 rfl (rm_le hR rfl) rfl rfl (rest := []) rfl (Nat.le_of_ble_eq_true rfl) dX11_ruleHolds_2 (fun r1 k2 h3 => ?_)
  refine zf_istore hC (LV' := [(4, .int r1), (0, .ref (g.2.1 10)), (1, .int a0), (2, .int a1), (3, .int a2)]) dX11_ruleHolds_5 (by decide) rfl ?_
  refine zf_iconst hC (v := 0) dX11_ruleHolds_7 rfl ?_
  refine zf_istore hC (LV' := [(5, .int 0), (4, .int r1), (0, .ref (g.2.1 10)), (1, .int a0), (2, .int a1), (3, .int a2)]) dX11_ruleHolds_8 (by decide) rfl ?_
  refine zf_iconst hC (v := 0) dX11_ruleHolds_10 rfl ?_
  refine zf_istore hC (LV' := [(6, .int 0), (5, .int 0), (4, .int r1), (0, .ref (g.2.1 10)), (1, .int a0), (2, .int a1), (3, .int a2)]) dX11_ruleHolds_11 (by decide) rfl ?_
  refine zf_lv (LV' := [(0, .ref (g.2.1 10)), (1, .int a0), (2, .int a1), (3, .int a2), (4, .int r1), (5, .int 0), (6, .int 0)]) [3, 4, 5, 6, 2, 1, 0] rfl ?_
  refine zlpX11_ruleHolds_13 hC hR a0 a1 a2 r1 (fun y9 y10 k11 => ?_) FU 0 0 k2
  refine zf_aload_n hC dX11_ruleHolds_48 rfl 0 rfl ?_
  refine gf_413 hC dX11_ruleHolds_49 ?_
  refine gf_274 hC dX11_ruleHolds_52 ?_
  refine zf_iload_n hC dX11_ruleHolds_55 rfl 1 rfl ?_
  refine zf_iald hC (j := 47) ia_47 rfl rfl dX11_ruleHolds_56 (fun h12 => ?_)
  refine zf_istore hC (LV' := [(6, .int (gA k11 47 (ix a0))), (0, .ref (g.2.1 10)), (1, .int a0), (2, .int a1), (3, .int a2), (4, .int r1), (5, .int y9)]) dX11_ruleHolds_57 (by decide) rfl ?_
  refine zf_iload hC dX11_ruleHolds_59 0 rfl ?_
  refine zf_iconst hC (v := (-1)) dX11_ruleHolds_61 rfl ?_
  refine zf_icmp_eq hC (tgt := 72) dX11_ruleHolds_62 (by decide) (fun h13 => ?_) (fun h13 => ?_)
  · refine zf_lv (LV' := [(0, .ref (g.2.1 10)), (1, .int a0), (2, .int a1), (3, .int a2), (4, .int r1), (5, .int y9), (6, .int (gA k11 47 (ix a0)))]) [1, 2, 3, 4, 5, 6, 0] rfl ?_
    exact zjbX11_ruleHolds_72 hC hR a0 a1 a2 r1 y9 (gA k11 47 (ix a0)) k11
  · refine zf_iload hC dX11_ruleHolds_65 0 rfl ?_
    refine zf_iload hC dX11_ruleHolds_67 5 rfl ?_
    refine zf_icmp_le hC (tgt := 76) dX11_ruleHolds_69 (by decide) (fun h21 => ?_) (fun h21 => ?_)
    · refine zf_iload_n hC dX11_ruleHolds_76 rfl 3 rfl ?_
      refine zf_iload hC dX11_ruleHolds_77 0 rfl ?_
      refine zf_isub hC dX11_ruleHolds_79 ?_
      refine zf_lv (LV' := [(0, .ref (g.2.1 10)), (1, .int a0), (2, .int a1), (3, .int a2), (4, .int r1), (5, .int y9), (6, .int (gA k11 47 (ix a0)))]) [1, 2, 3, 4, 5, 6, 0] rfl ?_
      exact zjbX11_ruleHolds_80 hC hR a0 a1 a2 r1 y9 (gA k11 47 (ix a0)) (a1 - (gA k11 47 (ix a0))) k11
    · refine zf_lv (LV' := [(0, .ref (g.2.1 10)), (1, .int a0), (2, .int a1), (3, .int a2), (4, .int r1), (5, .int y9), (6, .int (gA k11 47 (ix a0)))]) [1, 2, 3, 4, 5, 6, 0] rfl ?_
      exact zjbX11_ruleHolds_72 hC hR a0 a1 a2 r1 y9 (gA k11 47 (ix a0)) k11
/-! LifeKeys.may -/
theorem dX11_may_0 : decode cX11_may 0 = .ok (.aload_n 0, 1) := by decide +kernel
theorem dX11_may_1 : decode cX11_may 1 = .ok (.getfield 61, 3) := by decide +kernel
theorem dX11_may_4 : decode cX11_may 4 = .ok (.iload_n 1, 1) := by decide +kernel
theorem dX11_may_5 : decode cX11_may 5 = .ok (.invokevirtual 281, 3) := by decide +kernel
theorem dX11_may_8 : decode cX11_may 8 = .ok (.ifCond .eq 18, 3) := by decide +kernel
theorem dX11_may_11 : decode cX11_may 11 = .ok (.iload_n 2, 1) := by decide +kernel
theorem dX11_may_12 : decode cX11_may 12 = .ok (.invokestatic 284, 3) := by decide +kernel
theorem dX11_may_15 : decode cX11_may 15 = .ok (.ifCond .eq 11, 3) := by decide +kernel
theorem dX11_may_18 : decode cX11_may 18 = .ok (.aload_n 0, 1) := by decide +kernel
theorem dX11_may_19 : decode cX11_may 19 = .ok (.iload_n 3, 1) := by decide +kernel
theorem dX11_may_20 : decode cX11_may 20 = .ok (.invokevirtual 242, 3) := by decide +kernel
theorem dX11_may_23 : decode cX11_may 23 = .ok (.ifCond .ne 5, 3) := by decide +kernel
theorem dX11_may_26 : decode cX11_may 26 = .ok (.iconst (-1), 1) := by decide +kernel
theorem dX11_may_27 : decode cX11_may 27 = .ok (.ireturn, 1) := by decide +kernel
theorem dX11_may_28 : decode cX11_may 28 = .ok (.aload_n 0, 1) := by decide +kernel
theorem dX11_may_29 : decode cX11_may 29 = .ok (.iload_n 1, 1) := by decide +kernel
theorem dX11_may_30 : decode cX11_may 30 = .ok (.iload_n 2, 1) := by decide +kernel
theorem dX11_may_31 : decode cX11_may 31 = .ok (.iload_n 3, 1) := by decide +kernel
theorem dX11_may_32 : decode cX11_may 32 = .ok (.invokevirtual 287, 3) := by decide +kernel
theorem dX11_may_35 : decode cX11_may 35 = .ok (.ifCond .eq 7, 3) := by decide +kernel
theorem dX11_may_38 : decode cX11_may 38 = .ok (.iconst 1, 1) := by decide +kernel
theorem dX11_may_39 : decode cX11_may 39 = .ok (.goto 4, 3) := by decide +kernel
theorem dX11_may_42 : decode cX11_may 42 = .ok (.iconst 0, 1) := by decide +kernel
theorem dX11_may_43 : decode cX11_may 43 = .ok (.ireturn, 1) := by decide +kernel
def fX11_may (k : ST) (a0 : Int32) (a1 : Int32) (a2 : Int32) : Option (Int32 × ST) := ob (fX9_isByRule k a0) fun r1 k2 => if r1 = true then ob (fX11_isDay k2 a1) fun r5 k6 => if r5 = true then ob (fX11_isPast k6 a2) fun r9 k10 => if r9 = true then ob (fX11_ruleHolds k10 a0 a1 a2) fun r13 k14 => if r13 = true then some (1, k14) else some (0, k14) else some ((-1), k10) else some ((-1), k6) else some ((-1), k2)
set_option maxRecDepth 20000 in
theorem c_X11_may (l : Launch) (g : GT) (a0 : Int32) (a1 : Int32) (a2 : Int32) : CN l yX11_may cX11_may 4 (some .int) { frames := 6, cells := 0, slots := 0, locals := 146 } g TK voI [.ref (g.2.1 10), .int a0, .int a1, .int a2] (fun k => fX11_may k a0 a1 a2) := by
  refine cn_of (by decide) (Nat.le_of_ble_eq_true rfl) ?_
  intro p e s m args below meth c hC k
  have hC : HC p s m args meth c cX11_may 4 RX11 (some .int) g := hC
  have hR : 6 ≤ ({ frames := 6, cells := 0, slots := 0, locals := 146 } : Room).frames ∧ 146 ≤ ({ frames := 6, cells := 0, slots := 0, locals := 146 } : Room).locals := ⟨Nat.le_refl _, Nat.le_refl _⟩
  show ZF p l e _ s m args below meth c g TK voI 4 k 0 [(0, .ref (g.2.1 10)), (1, .int a0), (2, .int a1), (3, .int a2)] [] (fX11_may k a0 a1 a2)
  unfold fX11_may
  refine zf_aload_n hC dX11_may_0 rfl 0 rfl ?_
  refine gf_413 hC dX11_may_1 ?_
  refine zf_iload_n hC dX11_may_4 rfl 1 rfl ?_
  refine zf_callV hC (c_X9_isByRule l g a0) mt_X9_isByRule wd_866 wd_867 ci_8 ic_8 wd_865 rfl (rm_le hR rfl) rfl rfl (rest := []) rfl (Nat.le_of_ble_eq_true rfl) dX11_may_5 (fun r1 k2 h3 => ?_)
  refine zf_ifb_eq hC (tgt := 26) dX11_may_8 (by decide) (fun h4 => ?_) (fun h4 => ?_)
  · refine zf_iload_n hC dX11_may_11 rfl 2 rfl ?_
    refine zf_callS hC (c_X11_isDay l g TK a1) mt_X11_isDay wd_871 wd_870 rfl (rm_le hR rfl) rfl rfl (rest := []) rfl (Nat.le_of_ble_eq_true rfl) dX11_may_12 (fun r5 k6 h7 => ?_)
    refine zf_ifb_eq hC (tgt := 26) dX11_may_15 (by decide) (fun h8 => ?_) (fun h8 => ?_)
    · refine zf_aload_n hC dX11_may_18 rfl 0 rfl ?_
      refine zf_iload_n hC dX11_may_19 rfl 3 rfl ?_
      refine zf_callV hC (c_X11_isPast l g a2) mt_X11_isPast wd_693 sp_3 ci_10 ic_10 wd_691 rfl (rm_le hR rfl) rfl rfl (rest := []) rfl (Nat.le_of_ble_eq_true rfl) dX11_may_20 (fun r9 k10 h11 => ?_)
      refine zf_ifb_ne hC (tgt := 28) dX11_may_23 (by decide) (fun h12 => ?_) (fun h12 => ?_)
      · refine zf_aload_n hC dX11_may_28 rfl 0 rfl ?_
        refine zf_iload_n hC dX11_may_29 rfl 1 rfl ?_
        refine zf_iload_n hC dX11_may_30 rfl 2 rfl ?_
        refine zf_iload_n hC dX11_may_31 rfl 3 rfl ?_
        refine zf_callV hC (c_X11_ruleHolds l g a0 a1 a2) mt_X11_ruleHolds wd_875 sp_23 ci_10 ic_10 wd_873 rfl (rm_le hR rfl) rfl rfl (rest := []) rfl (Nat.le_of_ble_eq_true rfl) dX11_may_32 (fun r13 k14 h15 => ?_)
        refine zf_ifb_eq hC (tgt := 42) dX11_may_35 (by decide) (fun h16 => ?_) (fun h16 => ?_)
        · refine zf_iconst hC (v := 1) dX11_may_38 rfl ?_
          refine zf_goto hC (tgt := 43) dX11_may_39 (by decide) ?_
          exact zf_iret hC rfl dX11_may_43
        · refine zf_iconst hC (v := 0) dX11_may_42 rfl ?_
          exact zf_iret hC rfl dX11_may_43
      · refine zf_iconst hC (v := (-1)) dX11_may_26 rfl ?_
        exact zf_iret hC rfl dX11_may_27
    · refine zf_iconst hC (v := (-1)) dX11_may_26 rfl ?_
      exact zf_iret hC rfl dX11_may_27
  · refine zf_iconst hC (v := (-1)) dX11_may_26 rfl ?_
    exact zf_iret hC rfl dX11_may_27
/-! LifeKeys.dead -/
theorem dX11_dead_0 : decode cX11_dead 0 = .ok (.aload_n 0, 1) := by decide +kernel
theorem dX11_dead_1 : decode cX11_dead 1 = .ok (.iload_n 1, 1) := by decide +kernel
theorem dX11_dead_2 : decode cX11_dead 2 = .ok (.invokevirtual 157, 3) := by decide +kernel
theorem dX11_dead_5 : decode cX11_dead 5 = .ok (.ifCond .eq 18, 3) := by decide +kernel
theorem dX11_dead_8 : decode cX11_dead 8 = .ok (.iload_n 2, 1) := by decide +kernel
theorem dX11_dead_9 : decode cX11_dead 9 = .ok (.invokestatic 284, 3) := by decide +kernel
theorem dX11_dead_12 : decode cX11_dead 12 = .ok (.ifCond .eq 11, 3) := by decide +kernel
theorem dX11_dead_15 : decode cX11_dead 15 = .ok (.aload_n 0, 1) := by decide +kernel
theorem dX11_dead_16 : decode cX11_dead 16 = .ok (.iload_n 3, 1) := by decide +kernel
theorem dX11_dead_17 : decode cX11_dead 17 = .ok (.invokevirtual 242, 3) := by decide +kernel
theorem dX11_dead_20 : decode cX11_dead 20 = .ok (.ifCond .ne 5, 3) := by decide +kernel
theorem dX11_dead_23 : decode cX11_dead 23 = .ok (.iconst (-1), 1) := by decide +kernel
theorem dX11_dead_24 : decode cX11_dead 24 = .ok (.ireturn, 1) := by decide +kernel
theorem dX11_dead_25 : decode cX11_dead 25 = .ok (.aload_n 0, 1) := by decide +kernel
theorem dX11_dead_26 : decode cX11_dead 26 = .ok (.iload_n 1, 1) := by decide +kernel
theorem dX11_dead_27 : decode cX11_dead 27 = .ok (.iload_n 2, 1) := by decide +kernel
theorem dX11_dead_28 : decode cX11_dead 28 = .ok (.iload_n 3, 1) := by decide +kernel
theorem dX11_dead_29 : decode cX11_dead 29 = .ok (.invokevirtual 290, 3) := by decide +kernel
theorem dX11_dead_32 : decode cX11_dead 32 = .ok (.ifCond .eq 7, 3) := by decide +kernel
theorem dX11_dead_35 : decode cX11_dead 35 = .ok (.iconst 1, 1) := by decide +kernel
theorem dX11_dead_36 : decode cX11_dead 36 = .ok (.goto 4, 3) := by decide +kernel
theorem dX11_dead_39 : decode cX11_dead 39 = .ok (.iconst 0, 1) := by decide +kernel
theorem dX11_dead_40 : decode cX11_dead 40 = .ok (.ireturn, 1) := by decide +kernel
def fX11_dead (k : ST) (a0 : Int32) (a1 : Int32) (a2 : Int32) : Option (Int32 × ST) := ob (fX11_isHolder k a0) fun r1 k2 => if r1 = true then ob (fX11_isDay k2 a1) fun r5 k6 => if r5 = true then ob (fX11_isPast k6 a2) fun r9 k10 => if r9 = true then ob (fX11_isDead k10 a0 a1 a2) fun r13 k14 => if r13 = true then some (1, k14) else some (0, k14) else some ((-1), k10) else some ((-1), k6) else some ((-1), k2)
set_option maxRecDepth 20000 in
theorem c_X11_dead (l : Launch) (g : GT) (a0 : Int32) (a1 : Int32) (a2 : Int32) : CN l yX11_dead cX11_dead 4 (some .int) { frames := 5, cells := 0, slots := 0, locals := 119 } g TK voI [.ref (g.2.1 10), .int a0, .int a1, .int a2] (fun k => fX11_dead k a0 a1 a2) := by
  refine cn_of (by decide) (Nat.le_of_ble_eq_true rfl) ?_
  intro p e s m args below meth c hC k
  have hC : HC p s m args meth c cX11_dead 4 RX11 (some .int) g := hC
  have hR : 5 ≤ ({ frames := 5, cells := 0, slots := 0, locals := 119 } : Room).frames ∧ 119 ≤ ({ frames := 5, cells := 0, slots := 0, locals := 119 } : Room).locals := ⟨Nat.le_refl _, Nat.le_refl _⟩
  show ZF p l e _ s m args below meth c g TK voI 4 k 0 [(0, .ref (g.2.1 10)), (1, .int a0), (2, .int a1), (3, .int a2)] [] (fX11_dead k a0 a1 a2)
  unfold fX11_dead
  refine zf_aload_n hC dX11_dead_0 rfl 0 rfl ?_
  refine zf_iload_n hC dX11_dead_1 rfl 1 rfl ?_
  refine zf_callV hC (c_X11_isHolder l g a0) mt_X11_isHolder wd_531 sp_0 ci_10 ic_10 wd_529 rfl (rm_le hR rfl) rfl rfl (rest := []) rfl (Nat.le_of_ble_eq_true rfl) dX11_dead_2 (fun r1 k2 h3 => ?_)
  refine zf_ifb_eq hC (tgt := 23) dX11_dead_5 (by decide) (fun h4 => ?_) (fun h4 => ?_)
  · refine zf_iload_n hC dX11_dead_8 rfl 2 rfl ?_
    refine zf_callS hC (c_X11_isDay l g TK a1) mt_X11_isDay wd_871 wd_870 rfl (rm_le hR rfl) rfl rfl (rest := []) rfl (Nat.le_of_ble_eq_true rfl) dX11_dead_9 (fun r5 k6 h7 => ?_)
    refine zf_ifb_eq hC (tgt := 23) dX11_dead_12 (by decide) (fun h8 => ?_) (fun h8 => ?_)
    · refine zf_aload_n hC dX11_dead_15 rfl 0 rfl ?_
      refine zf_iload_n hC dX11_dead_16 rfl 3 rfl ?_
      refine zf_callV hC (c_X11_isPast l g a2) mt_X11_isPast wd_693 sp_3 ci_10 ic_10 wd_691 rfl (rm_le hR rfl) rfl rfl (rest := []) rfl (Nat.le_of_ble_eq_true rfl) dX11_dead_17 (fun r9 k10 h11 => ?_)
      refine zf_ifb_ne hC (tgt := 25) dX11_dead_20 (by decide) (fun h12 => ?_) (fun h12 => ?_)
      · refine zf_aload_n hC dX11_dead_25 rfl 0 rfl ?_
        refine zf_iload_n hC dX11_dead_26 rfl 1 rfl ?_
        refine zf_iload_n hC dX11_dead_27 rfl 2 rfl ?_
        refine zf_iload_n hC dX11_dead_28 rfl 3 rfl ?_
        refine zf_callV hC (c_X11_isDead l g a0 a1 a2) mt_X11_isDead wd_880 sp_24 ci_10 ic_10 wd_878 rfl (rm_le hR rfl) rfl rfl (rest := []) rfl (Nat.le_of_ble_eq_true rfl) dX11_dead_29 (fun r13 k14 h15 => ?_)
        refine zf_ifb_eq hC (tgt := 39) dX11_dead_32 (by decide) (fun h16 => ?_) (fun h16 => ?_)
        · refine zf_iconst hC (v := 1) dX11_dead_35 rfl ?_
          refine zf_goto hC (tgt := 40) dX11_dead_36 (by decide) ?_
          exact zf_iret hC rfl dX11_dead_40
        · refine zf_iconst hC (v := 0) dX11_dead_39 rfl ?_
          exact zf_iret hC rfl dX11_dead_40
      · refine zf_iconst hC (v := (-1)) dX11_dead_23 rfl ?_
        exact zf_iret hC rfl dX11_dead_24
    · refine zf_iconst hC (v := (-1)) dX11_dead_23 rfl ?_
      exact zf_iret hC rfl dX11_dead_24
  · refine zf_iconst hC (v := (-1)) dX11_dead_23 rfl ?_
    exact zf_iret hC rfl dX11_dead_24
/-! LifeKeys.unseal -/
theorem dX11_unseal_0 : decode cX11_unseal 0 = .ok (.aload_n 0, 1) := by decide +kernel
theorem dX11_unseal_1 : decode cX11_unseal 1 = .ok (.getfield 61, 3) := by decide +kernel
theorem dX11_unseal_4 : decode cX11_unseal 4 = .ok (.iload_n 1, 1) := by decide +kernel
theorem dX11_unseal_5 : decode cX11_unseal 5 = .ok (.invokevirtual 281, 3) := by decide +kernel
theorem dX11_unseal_8 : decode cX11_unseal 8 = .ok (.ifCond .ne 5, 3) := by decide +kernel
theorem dX11_unseal_11 : decode cX11_unseal 11 = .ok (.iconst (-1), 1) := by decide +kernel
theorem dX11_unseal_12 : decode cX11_unseal 12 = .ok (.ireturn, 1) := by decide +kernel
theorem dX11_unseal_13 : decode cX11_unseal 13 = .ok (.aload_n 0, 1) := by decide +kernel
theorem dX11_unseal_14 : decode cX11_unseal 14 = .ok (.getfield 61, 3) := by decide +kernel
theorem dX11_unseal_17 : decode cX11_unseal 17 = .ok (.getfield 293, 3) := by decide +kernel
theorem dX11_unseal_20 : decode cX11_unseal 20 = .ok (.iload_n 1, 1) := by decide +kernel
theorem dX11_unseal_21 : decode cX11_unseal 21 = .ok (.baload, 1) := by decide +kernel
theorem dX11_unseal_22 : decode cX11_unseal 22 = .ok (.ifCond .eq 5, 3) := by decide +kernel
theorem dX11_unseal_25 : decode cX11_unseal 25 = .ok (.iconst 2, 1) := by decide +kernel
theorem dX11_unseal_26 : decode cX11_unseal 26 = .ok (.ireturn, 1) := by decide +kernel
theorem dX11_unseal_27 : decode cX11_unseal 27 = .ok (.aload_n 0, 1) := by decide +kernel
theorem dX11_unseal_28 : decode cX11_unseal 28 = .ok (.iload_n 1, 1) := by decide +kernel
theorem dX11_unseal_29 : decode cX11_unseal 29 = .ok (.aload_n 0, 1) := by decide +kernel
theorem dX11_unseal_30 : decode cX11_unseal 30 = .ok (.getfield 86, 3) := by decide +kernel
theorem dX11_unseal_33 : decode cX11_unseal 33 = .ok (.aload_n 0, 1) := by decide +kernel
theorem dX11_unseal_34 : decode cX11_unseal 34 = .ok (.getfield 86, 3) := by decide +kernel
theorem dX11_unseal_37 : decode cX11_unseal 37 = .ok (.invokevirtual 287, 3) := by decide +kernel
theorem dX11_unseal_40 : decode cX11_unseal 40 = .ok (.ifCond .ne 5, 3) := by decide +kernel
theorem dX11_unseal_43 : decode cX11_unseal 43 = .ok (.iconst 0, 1) := by decide +kernel
theorem dX11_unseal_44 : decode cX11_unseal 44 = .ok (.ireturn, 1) := by decide +kernel
theorem dX11_unseal_45 : decode cX11_unseal 45 = .ok (.aload_n 0, 1) := by decide +kernel
theorem dX11_unseal_46 : decode cX11_unseal 46 = .ok (.getfield 61, 3) := by decide +kernel
theorem dX11_unseal_49 : decode cX11_unseal 49 = .ok (.getfield 293, 3) := by decide +kernel
theorem dX11_unseal_52 : decode cX11_unseal 52 = .ok (.iload_n 1, 1) := by decide +kernel
theorem dX11_unseal_53 : decode cX11_unseal 53 = .ok (.iconst 1, 1) := by decide +kernel
theorem dX11_unseal_54 : decode cX11_unseal 54 = .ok (.bastore, 1) := by decide +kernel
theorem dX11_unseal_55 : decode cX11_unseal 55 = .ok (.iconst 1, 1) := by decide +kernel
theorem dX11_unseal_56 : decode cX11_unseal 56 = .ok (.ireturn, 1) := by decide +kernel
def fX11_unseal (k : ST) (a0 : Int32) : Option (Int32 × ST) := ob (fX9_isByRule k a0) fun r1 k2 => if r1 = true then ck (inb a0 40) (if (gA k2 48 (ix a0)) = 0 then ob (fX11_ruleHolds k2 a0 (gI k2 10 0) (gI k2 10 0)) fun r7 k8 => if r7 = true then ck (inb a0 40) (nm (sA k8 48 (ix a0) 1) fun k12 => some (1, k12)) else some (0, k8) else some (2, k2)) else some ((-1), k2)
set_option maxRecDepth 20000 in
theorem c_X11_unseal (l : Launch) (g : GT) (a0 : Int32) : CN l yX11_unseal cX11_unseal 2 (some .int) { frames := 6, cells := 0, slots := 0, locals := 146 } g TK voI [.ref (g.2.1 10), .int a0] (fun k => fX11_unseal k a0) := by
  refine cn_of (by decide) (Nat.le_of_ble_eq_true rfl) ?_
  intro p e s m args below meth c hC k
  have hC : HC p s m args meth c cX11_unseal 2 RX11 (some .int) g := hC
  have hR : 6 ≤ ({ frames := 6, cells := 0, slots := 0, locals := 146 } : Room).frames ∧ 146 ≤ ({ frames := 6, cells := 0, slots := 0, locals := 146 } : Room).locals := ⟨Nat.le_refl _, Nat.le_refl _⟩
  show ZF p l e _ s m args below meth c g TK voI 2 k 0 [(0, .ref (g.2.1 10)), (1, .int a0)] [] (fX11_unseal k a0)
  unfold fX11_unseal
  refine zf_aload_n hC dX11_unseal_0 rfl 0 rfl ?_
  refine gf_413 hC dX11_unseal_1 ?_
  refine zf_iload_n hC dX11_unseal_4 rfl 1 rfl ?_
  refine zf_callV hC (c_X9_isByRule l g a0) mt_X9_isByRule wd_866 wd_867 ci_8 ic_8 wd_865 rfl (rm_le hR rfl) rfl rfl (rest := []) rfl (Nat.le_of_ble_eq_true rfl) dX11_unseal_5 (fun r1 k2 h3 => ?_)
  refine zf_ifb_ne hC (tgt := 13) dX11_unseal_8 (by decide) (fun h4 => ?_) (fun h4 => ?_)
  · refine zf_aload_n hC dX11_unseal_13 rfl 0 rfl ?_
    refine gf_413 hC dX11_unseal_14 ?_
    refine gf_276 hC dX11_unseal_17 ?_
    refine zf_iload_n hC dX11_unseal_20 rfl 1 rfl ?_
    refine zf_zald hC (j := 48) ia_48 rfl rfl dX11_unseal_21 (fun h5 => ?_)
    refine zf_if_eq hC (tgt := 27) dX11_unseal_22 (by decide) (fun h6 => ?_) (fun h6 => ?_)
    · refine zf_aload_n hC dX11_unseal_27 rfl 0 rfl ?_
      refine zf_iload_n hC dX11_unseal_28 rfl 1 rfl ?_
      refine zf_aload_n hC dX11_unseal_29 rfl 0 rfl ?_
      refine gf_400 hC dX11_unseal_30 ?_
      refine zf_aload_n hC dX11_unseal_33 rfl 0 rfl ?_
      refine gf_400 hC dX11_unseal_34 ?_
      refine zf_callV hC (c_X11_ruleHolds l g a0 (gI k2 10 0) (gI k2 10 0)) mt_X11_ruleHolds wd_875 sp_23 ci_10 ic_10 wd_873 rfl (rm_le hR rfl) rfl rfl (rest := []) rfl (Nat.le_of_ble_eq_true rfl) dX11_unseal_37 (fun r7 k8 h9 => ?_)
      refine zf_ifb_ne hC (tgt := 45) dX11_unseal_40 (by decide) (fun h10 => ?_) (fun h10 => ?_)
      · refine zf_aload_n hC dX11_unseal_45 rfl 0 rfl ?_
        refine gf_413 hC dX11_unseal_46 ?_
        refine gf_276 hC dX11_unseal_49 ?_
        refine zf_iload_n hC dX11_unseal_52 rfl 1 rfl ?_
        refine zf_iconst hC (v := 1) dX11_unseal_53 rfl ?_
        refine zf_zast hC (j := 48) ia_48 rfl rfl rfl dX11_unseal_54 (fun h11 => ?_)
        refine zf_nmk (fun k12 => ?_)
        refine zf_iconst hC (v := 1) dX11_unseal_55 rfl ?_
        exact zf_iret hC rfl dX11_unseal_56
      · refine zf_iconst hC (v := 0) dX11_unseal_43 rfl ?_
        exact zf_iret hC rfl dX11_unseal_44
    · refine zf_iconst hC (v := 2) dX11_unseal_25 rfl ?_
      exact zf_iret hC rfl dX11_unseal_26
  · refine zf_iconst hC (v := (-1)) dX11_unseal_11 rfl ?_
    exact zf_iret hC rfl dX11_unseal_12
/-! LifeKeys.getsNow -/
theorem dX11_getsNow_0 : decode cX11_getsNow 0 = .ok (.aload_n 0, 1) := by decide +kernel
theorem dX11_getsNow_1 : decode cX11_getsNow 1 = .ok (.aload_n 0, 1) := by decide +kernel
theorem dX11_getsNow_2 : decode cX11_getsNow 2 = .ok (.getfield 86, 3) := by decide +kernel
theorem dX11_getsNow_5 : decode cX11_getsNow 5 = .ok (.invokevirtual 247, 3) := by decide +kernel
theorem dX11_getsNow_8 : decode cX11_getsNow 8 = .ok (.aload_n 0, 1) := by decide +kernel
theorem dX11_getsNow_9 : decode cX11_getsNow 9 = .ok (.getfield 82, 3) := by decide +kernel
theorem dX11_getsNow_12 : decode cX11_getsNow 12 = .ok (.iconst 1, 1) := by decide +kernel
theorem dX11_getsNow_13 : decode cX11_getsNow 13 = .ok (.iload_n 1, 1) := by decide +kernel
theorem dX11_getsNow_14 : decode cX11_getsNow 14 = .ok (.ishl, 1) := by decide +kernel
theorem dX11_getsNow_15 : decode cX11_getsNow 15 = .ok (.invokevirtual 250, 3) := by decide +kernel
theorem dX11_getsNow_18 : decode cX11_getsNow 18 = .ok (.iload_n 2, 1) := by decide +kernel
theorem dX11_getsNow_19 : decode cX11_getsNow 19 = .ok (.invokestatic 441, 3) := by decide +kernel
theorem dX11_getsNow_22 : decode cX11_getsNow 22 = .ok (.ireturn, 1) := by decide +kernel
def fX11_getsNow (k : ST) (a0 : Int32) (a1 : Int32) : Option (Bool × ST) := ob (fX11_settleReach k (gI k 10 0)) fun r1 k2 => ob (fX4_gets k2 (j_shl 1 a0)) fun r4 k5 => ob (fX11_hasKey k5 r4 a1) fun r7 k8 => some (r7, k8)
set_option maxRecDepth 20000 in
theorem c_X11_getsNow (l : Launch) (g : GT) (a0 : Int32) (a1 : Int32) : CN l yX11_getsNow cX11_getsNow 3 (some .boolean) { frames := 5, cells := 0, slots := 0, locals := 112 } g TK voB [.ref (g.2.1 10), .int a0, .int a1] (fun k => fX11_getsNow k a0 a1) := by
  refine cn_of (by decide) (Nat.le_of_ble_eq_true rfl) ?_
  intro p e s m args below meth c hC k
  have hC : HC p s m args meth c cX11_getsNow 3 RX11 (some .boolean) g := hC
  have hR : 5 ≤ ({ frames := 5, cells := 0, slots := 0, locals := 112 } : Room).frames ∧ 112 ≤ ({ frames := 5, cells := 0, slots := 0, locals := 112 } : Room).locals := ⟨Nat.le_refl _, Nat.le_refl _⟩
  show ZF p l e _ s m args below meth c g TK voB 3 k 0 [(0, .ref (g.2.1 10)), (1, .int a0), (2, .int a1)] [] (fX11_getsNow k a0 a1)
  unfold fX11_getsNow
  refine zf_aload_n hC dX11_getsNow_0 rfl 0 rfl ?_
  refine zf_aload_n hC dX11_getsNow_1 rfl 0 rfl ?_
  refine gf_400 hC dX11_getsNow_2 ?_
  refine zf_callV hC (c_X11_settleReach l g (gI k 10 0)) mt_X11_settleReach wd_698 sp_4 ci_10 ic_10 wd_696 rfl (rm_le hR rfl) rfl rfl (rest := []) rfl (Nat.le_of_ble_eq_true rfl) dX11_getsNow_5 (fun r1 k2 h3 => ?_)
  refine zf_aload_n hC dX11_getsNow_8 rfl 0 rfl ?_
  refine gf_416 hC dX11_getsNow_9 ?_
  refine zf_iconst hC (v := 1) dX11_getsNow_12 rfl ?_
  refine zf_iload_n hC dX11_getsNow_13 rfl 1 rfl ?_
  refine zf_ishl hC dX11_getsNow_14 ?_
  refine zf_callV hC (c_X4_gets l g (j_shl 1 a0)) mt_X4_gets wd_722 wd_723 ci_3 ic_3 wd_721 rfl (rm_le hR rfl) rfl rfl (rest := []) rfl (Nat.le_of_ble_eq_true rfl) dX11_getsNow_15 (fun r4 k5 h6 => ?_)
  refine zf_iload_n hC dX11_getsNow_18 rfl 2 rfl ?_
  refine zf_callS hC (c_X11_hasKey l g TK r4 a1) mt_X11_hasKey wd_538 wd_941 rfl (rm_le hR rfl) rfl rfl (rest := []) rfl (Nat.le_of_ble_eq_true rfl) dX11_getsNow_19 (fun r7 k8 h9 => ?_)
  exact zf_zret hC rfl r7 rfl dX11_getsNow_22
/-! LifeKeys.signAlone -/
theorem dX11_signAlone_0 : decode cX11_signAlone 0 = .ok (.iload_n 3, 1) := by decide +kernel
theorem dX11_signAlone_1 : decode cX11_signAlone 1 = .ok (.invokestatic 216, 3) := by decide +kernel
theorem dX11_signAlone_4 : decode cX11_signAlone 4 = .ok (.istore 4, 2) := by decide +kernel
theorem dX11_signAlone_6 : decode cX11_signAlone 6 = .ok (.iload 4, 2) := by decide +kernel
theorem dX11_signAlone_8 : decode cX11_signAlone 8 = .ok (.aload_n 0, 1) := by decide +kernel
theorem dX11_signAlone_9 : decode cX11_signAlone 9 = .ok (.getfield 61, 3) := by decide +kernel
theorem dX11_signAlone_12 : decode cX11_signAlone 12 = .ok (.getfield 333, 3) := by decide +kernel
theorem dX11_signAlone_15 : decode cX11_signAlone 15 = .ok (.iload_n 2, 1) := by decide +kernel
theorem dX11_signAlone_16 : decode cX11_signAlone 16 = .ok (.iaload, 1) := by decide +kernel
theorem dX11_signAlone_17 : decode cX11_signAlone 17 = .ok (.invokestatic 336, 3) := by decide +kernel
theorem dX11_signAlone_20 : decode cX11_signAlone 20 = .ok (.istore 5, 2) := by decide +kernel
theorem dX11_signAlone_22 : decode cX11_signAlone 22 = .ok (.iload_n 3, 1) := by decide +kernel
theorem dX11_signAlone_23 : decode cX11_signAlone 23 = .ok (.iload 5, 2) := by decide +kernel
theorem dX11_signAlone_25 : decode cX11_signAlone 25 = .ok (.aload_n 0, 1) := by decide +kernel
theorem dX11_signAlone_26 : decode cX11_signAlone 26 = .ok (.getfield 26, 3) := by decide +kernel
theorem dX11_signAlone_29 : decode cX11_signAlone 29 = .ok (.getfield 124, 3) := by decide +kernel
theorem dX11_signAlone_32 : decode cX11_signAlone 32 = .ok (.iload_n 1, 1) := by decide +kernel
theorem dX11_signAlone_33 : decode cX11_signAlone 33 = .ok (.iaload, 1) := by decide +kernel
theorem dX11_signAlone_34 : decode cX11_signAlone 34 = .ok (.invokestatic 231, 3) := by decide +kernel
theorem dX11_signAlone_37 : decode cX11_signAlone 37 = .ok (.invokestatic 234, 3) := by decide +kernel
theorem dX11_signAlone_40 : decode cX11_signAlone 40 = .ok (.istore 6, 2) := by decide +kernel
theorem dX11_signAlone_42 : decode cX11_signAlone 42 = .ok (.aload_n 0, 1) := by decide +kernel
theorem dX11_signAlone_43 : decode cX11_signAlone 43 = .ok (.getfield 68, 3) := by decide +kernel
theorem dX11_signAlone_46 : decode cX11_signAlone 46 = .ok (.iload 4, 2) := by decide +kernel
theorem dX11_signAlone_48 : decode cX11_signAlone 48 = .ok (.iload 6, 2) := by decide +kernel
theorem dX11_signAlone_50 : decode cX11_signAlone 50 = .ok (.iload_n 1, 1) := by decide +kernel
theorem dX11_signAlone_51 : decode cX11_signAlone 51 = .ok (.iload_n 2, 1) := by decide +kernel
theorem dX11_signAlone_52 : decode cX11_signAlone 52 = .ok (.aload_n 0, 1) := by decide +kernel
theorem dX11_signAlone_53 : decode cX11_signAlone 53 = .ok (.getfield 86, 3) := by decide +kernel
theorem dX11_signAlone_56 : decode cX11_signAlone 56 = .ok (.invokevirtual 445, 3) := by decide +kernel
theorem dX11_signAlone_59 : decode cX11_signAlone 59 = .ok (.ireturn, 1) := by decide +kernel
def fX11_signAlone (k : ST) (a0 : Int32) (a1 : Int32) (a2 : Int32) : Option (Int32 × ST) := ob (fX0_powerOf4 k a2) fun r1 k2 => ck (inb a1 40) (ob (fX0_challenge k2 r1 (gA k2 44 (ix a1))) fun r5 k6 => ck (inb a0 40) (ob (fX0_times k6 r5 (gA k6 0 (ix a0))) fun r9 k10 => ob (fX0_sum k10 a2 r9) fun r12 k13 => ob (fX7_add k13 r1 r12 a0 a1 (gI k13 10 0)) fun r15 k16 => some (r15, k16)))
set_option maxRecDepth 20000 in
theorem c_X11_signAlone (l : Launch) (g : GT) (a0 : Int32) (a1 : Int32) (a2 : Int32) : CN l yX11_signAlone cX11_signAlone 7 (some .int) { frames := 3, cells := 0, slots := 0, locals := 65 } g TK voI [.ref (g.2.1 10), .int a0, .int a1, .int a2] (fun k => fX11_signAlone k a0 a1 a2) := by
  refine cn_of (by decide) (Nat.le_of_ble_eq_true rfl) ?_
  intro p e s m args below meth c hC k
  have hC : HC p s m args meth c cX11_signAlone 7 RX11 (some .int) g := hC
  have hR : 3 ≤ ({ frames := 3, cells := 0, slots := 0, locals := 65 } : Room).frames ∧ 65 ≤ ({ frames := 3, cells := 0, slots := 0, locals := 65 } : Room).locals := ⟨Nat.le_refl _, Nat.le_refl _⟩
  show ZF p l e _ s m args below meth c g TK voI 7 k 0 [(0, .ref (g.2.1 10)), (1, .int a0), (2, .int a1), (3, .int a2)] [] (fX11_signAlone k a0 a1 a2)
  unfold fX11_signAlone
  refine zf_iload_n hC dX11_signAlone_0 rfl 3 rfl ?_
  refine zf_callS hC (c_X0_powerOf4 l g TK a2) mt_X0_powerOf4 wd_635 wd_650 rfl (rm_le hR rfl) rfl rfl (rest := []) rfl (Nat.le_of_ble_eq_true rfl) dX11_signAlone_1 (fun r1 k2 h3 => ?_)
  refine zf_istore hC (LV' := [(4, .int r1), (0, .ref (g.2.1 10)), (1, .int a0), (2, .int a1), (3, .int a2)]) dX11_signAlone_4 (by decide) rfl ?_
  refine zf_iload hC dX11_signAlone_6 0 rfl ?_
  refine zf_aload_n hC dX11_signAlone_8 rfl 1 rfl ?_
  refine gf_413 hC dX11_signAlone_9 ?_
  refine gf_269 hC dX11_signAlone_12 ?_
  refine zf_iload_n hC dX11_signAlone_15 rfl 3 rfl ?_
  refine zf_iald hC (j := 44) ia_44 rfl rfl dX11_signAlone_16 (fun h4 => ?_)
  refine zf_callS hC (c_X0_challenge l g TK r1 (gA k2 44 (ix a1))) mt_X0_challenge wd_947 wd_946 rfl (rm_le hR rfl) rfl rfl (rest := []) rfl (Nat.le_of_ble_eq_true rfl) dX11_signAlone_17 (fun r5 k6 h7 => ?_)
  refine zf_istore hC (LV' := [(5, .int r5), (4, .int r1), (0, .ref (g.2.1 10)), (1, .int a0), (2, .int a1), (3, .int a2)]) dX11_signAlone_20 (by decide) rfl ?_
  refine zf_iload_n hC dX11_signAlone_22 rfl 5 rfl ?_
  refine zf_iload hC dX11_signAlone_23 0 rfl ?_
  refine zf_aload_n hC dX11_signAlone_25 rfl 2 rfl ?_
  refine gf_408 hC dX11_signAlone_26 ?_
  refine gf_55 hC dX11_signAlone_29 ?_
  refine zf_iload_n hC dX11_signAlone_32 rfl 3 rfl ?_
  refine zf_iald hC (j := 0) ia_0 rfl rfl dX11_signAlone_33 (fun h8 => ?_)
  refine zf_callS hC (c_X0_times l g TK r5 (gA k6 0 (ix a0))) mt_X0_times wd_620 wd_678 rfl (rm_le hR rfl) rfl rfl (rest := [.int a2]) rfl (Nat.le_of_ble_eq_true rfl) dX11_signAlone_34 (fun r9 k10 h11 => ?_)
  refine zf_callS hC (c_X0_sum l g TK a2 r9) mt_X0_sum wd_623 wd_679 rfl (rm_le hR rfl) rfl rfl (rest := []) rfl (Nat.le_of_ble_eq_true rfl) dX11_signAlone_37 (fun r12 k13 h14 => ?_)
  refine zf_istore hC (LV' := [(6, .int r12), (5, .int r5), (4, .int r1), (0, .ref (g.2.1 10)), (1, .int a0), (2, .int a1), (3, .int a2)]) dX11_signAlone_40 (by decide) rfl ?_
  refine zf_aload_n hC dX11_signAlone_42 rfl 3 rfl ?_
  refine gf_414 hC dX11_signAlone_43 ?_
  refine zf_iload hC dX11_signAlone_46 2 rfl ?_
  refine zf_iload hC dX11_signAlone_48 0 rfl ?_
  refine zf_iload_n hC dX11_signAlone_50 rfl 4 rfl ?_
  refine zf_iload_n hC dX11_signAlone_51 rfl 5 rfl ?_
  refine zf_aload_n hC dX11_signAlone_52 rfl 3 rfl ?_
  refine gf_400 hC dX11_signAlone_53 ?_
  refine zf_callV hC (c_X7_add l g r1 r12 a0 a1 (gI k13 10 0)) mt_X7_add wd_950 wd_951 ci_6 ic_6 wd_949 rfl (rm_le hR rfl) rfl rfl (rest := []) rfl (Nat.le_of_ble_eq_true rfl) dX11_signAlone_56 (fun r15 k16 h17 => ?_)
  exact zf_iret hC rfl dX11_signAlone_59
/-! LifeKeys.sign -/
theorem dX11_sign_0 : decode cX11_sign 0 = .ok (.aload_n 0, 1) := by decide +kernel
theorem dX11_sign_1 : decode cX11_sign 1 = .ok (.iload_n 1, 1) := by decide +kernel
theorem dX11_sign_2 : decode cX11_sign 2 = .ok (.invokevirtual 157, 3) := by decide +kernel
theorem dX11_sign_5 : decode cX11_sign 5 = .ok (.ifCond .eq 33, 3) := by decide +kernel
theorem dX11_sign_8 : decode cX11_sign 8 = .ok (.aload_n 0, 1) := by decide +kernel
theorem dX11_sign_9 : decode cX11_sign 9 = .ok (.getfield 26, 3) := by decide +kernel
theorem dX11_sign_12 : decode cX11_sign 12 = .ok (.iload_n 2, 1) := by decide +kernel
theorem dX11_sign_13 : decode cX11_sign 13 = .ok (.invokevirtual 114, 3) := by decide +kernel
theorem dX11_sign_16 : decode cX11_sign 16 = .ok (.ifCond .eq 22, 3) := by decide +kernel
theorem dX11_sign_19 : decode cX11_sign 19 = .ok (.aload_n 0, 1) := by decide +kernel
theorem dX11_sign_20 : decode cX11_sign 20 = .ok (.getfield 61, 3) := by decide +kernel
theorem dX11_sign_23 : decode cX11_sign 23 = .ok (.iload_n 3, 1) := by decide +kernel
theorem dX11_sign_24 : decode cX11_sign 24 = .ok (.invokevirtual 271, 3) := by decide +kernel
theorem dX11_sign_27 : decode cX11_sign 27 = .ok (.ifCond .eq 11, 3) := by decide +kernel
theorem dX11_sign_30 : decode cX11_sign 30 = .ok (.iload 4, 2) := by decide +kernel
theorem dX11_sign_32 : decode cX11_sign 32 = .ok (.invokestatic 93, 3) := by decide +kernel
theorem dX11_sign_35 : decode cX11_sign 35 = .ok (.ifCond .ne 5, 3) := by decide +kernel
theorem dX11_sign_38 : decode cX11_sign 38 = .ok (.iconst (-1), 1) := by decide +kernel
theorem dX11_sign_39 : decode cX11_sign 39 = .ok (.ireturn, 1) := by decide +kernel
theorem dX11_sign_40 : decode cX11_sign 40 = .ok (.aload_n 0, 1) := by decide +kernel
theorem dX11_sign_41 : decode cX11_sign 41 = .ok (.getfield 26, 3) := by decide +kernel
theorem dX11_sign_44 : decode cX11_sign 44 = .ok (.iload_n 2, 1) := by decide +kernel
theorem dX11_sign_45 : decode cX11_sign 45 = .ok (.aload_n 0, 1) := by decide +kernel
theorem dX11_sign_46 : decode cX11_sign 46 = .ok (.getfield 86, 3) := by decide +kernel
theorem dX11_sign_49 : decode cX11_sign 49 = .ok (.invokevirtual 297, 3) := by decide +kernel
theorem dX11_sign_52 : decode cX11_sign 52 = .ok (.ifCond .eq 12, 3) := by decide +kernel
theorem dX11_sign_55 : decode cX11_sign 55 = .ok (.aload_n 0, 1) := by decide +kernel
theorem dX11_sign_56 : decode cX11_sign 56 = .ok (.iload_n 1, 1) := by decide +kernel
theorem dX11_sign_57 : decode cX11_sign 57 = .ok (.iload_n 2, 1) := by decide +kernel
theorem dX11_sign_58 : decode cX11_sign 58 = .ok (.invokevirtual 300, 3) := by decide +kernel
theorem dX11_sign_61 : decode cX11_sign 61 = .ok (.ifCond .ne 5, 3) := by decide +kernel
theorem dX11_sign_64 : decode cX11_sign 64 = .ok (.iconst (-1), 1) := by decide +kernel
theorem dX11_sign_65 : decode cX11_sign 65 = .ok (.ireturn, 1) := by decide +kernel
theorem dX11_sign_66 : decode cX11_sign 66 = .ok (.aload_n 0, 1) := by decide +kernel
theorem dX11_sign_67 : decode cX11_sign 67 = .ok (.iload_n 2, 1) := by decide +kernel
theorem dX11_sign_68 : decode cX11_sign 68 = .ok (.iload_n 3, 1) := by decide +kernel
theorem dX11_sign_69 : decode cX11_sign 69 = .ok (.iload 4, 2) := by decide +kernel
theorem dX11_sign_71 : decode cX11_sign 71 = .ok (.invokevirtual 303, 3) := by decide +kernel
theorem dX11_sign_74 : decode cX11_sign 74 = .ok (.ireturn, 1) := by decide +kernel
def fX11_sign (k : ST) (a0 : Int32) (a1 : Int32) (a2 : Int32) (a3 : Int32) : Option (Int32 × ST) := ob (fX11_isHolder k a0) fun r1 k2 => if r1 = true then ob (fX1_knows k2 a1) fun r5 k6 => if r5 = true then ob (fX9_knows k6 a2) fun r9 k10 => if r9 = true then ob (fX0_isSecret k10 a3) fun r13 k14 => if r13 = true then ob (fX1_maySign k14 a1 (gI k14 10 0)) fun r17 k18 => if r17 = true then ob (fX11_getsNow k18 a0 a1) fun r21 k22 => if r21 = true then ob (fX11_signAlone k22 a1 a2 a3) fun r25 k26 => some (r25, k26) else some ((-1), k22) else some ((-1), k18) else some ((-1), k14) else some ((-1), k10) else some ((-1), k6) else some ((-1), k2)
set_option maxRecDepth 20000 in
theorem c_X11_sign (l : Launch) (g : GT) (a0 : Int32) (a1 : Int32) (a2 : Int32) (a3 : Int32) : CN l yX11_sign cX11_sign 5 (some .int) { frames := 6, cells := 0, slots := 0, locals := 134 } g TK voI [.ref (g.2.1 10), .int a0, .int a1, .int a2, .int a3] (fun k => fX11_sign k a0 a1 a2 a3) := by
  refine cn_of (by decide) (Nat.le_of_ble_eq_true rfl) ?_
  intro p e s m args below meth c hC k
  have hC : HC p s m args meth c cX11_sign 5 RX11 (some .int) g := hC
  have hR : 6 ≤ ({ frames := 6, cells := 0, slots := 0, locals := 134 } : Room).frames ∧ 134 ≤ ({ frames := 6, cells := 0, slots := 0, locals := 134 } : Room).locals := ⟨Nat.le_refl _, Nat.le_refl _⟩
  show ZF p l e _ s m args below meth c g TK voI 5 k 0 [(0, .ref (g.2.1 10)), (1, .int a0), (2, .int a1), (3, .int a2), (4, .int a3)] [] (fX11_sign k a0 a1 a2 a3)
  unfold fX11_sign
  refine zf_aload_n hC dX11_sign_0 rfl 0 rfl ?_
  refine zf_iload_n hC dX11_sign_1 rfl 1 rfl ?_
  refine zf_callV hC (c_X11_isHolder l g a0) mt_X11_isHolder wd_531 sp_0 ci_10 ic_10 wd_529 rfl (rm_le hR rfl) rfl rfl (rest := []) rfl (Nat.le_of_ble_eq_true rfl) dX11_sign_2 (fun r1 k2 h3 => ?_)
  refine zf_ifb_eq hC (tgt := 38) dX11_sign_5 (by decide) (fun h4 => ?_) (fun h4 => ?_)
  · refine zf_aload_n hC dX11_sign_8 rfl 0 rfl ?_
    refine gf_408 hC dX11_sign_9 ?_
    refine zf_iload_n hC dX11_sign_12 rfl 2 rfl ?_
    refine zf_callV hC (c_X1_knows l g a1) mt_X1_knows wd_491 wd_492 ci_0 ic_0 wd_490 rfl (rm_le hR rfl) rfl rfl (rest := []) rfl (Nat.le_of_ble_eq_true rfl) dX11_sign_13 (fun r5 k6 h7 => ?_)
    refine zf_ifb_eq hC (tgt := 38) dX11_sign_16 (by decide) (fun h8 => ?_) (fun h8 => ?_)
    · refine zf_aload_n hC dX11_sign_19 rfl 0 rfl ?_
      refine gf_413 hC dX11_sign_20 ?_
      refine zf_iload_n hC dX11_sign_23 rfl 3 rfl ?_
      refine zf_callV hC (c_X9_knows l g a2) mt_X9_knows wd_843 wd_844 ci_8 ic_8 wd_842 rfl (rm_le hR rfl) rfl rfl (rest := []) rfl (Nat.le_of_ble_eq_true rfl) dX11_sign_24 (fun r9 k10 h11 => ?_)
      refine zf_ifb_eq hC (tgt := 38) dX11_sign_27 (by decide) (fun h12 => ?_) (fun h12 => ?_)
      · refine zf_iload hC dX11_sign_30 4 rfl ?_
        refine zf_callS hC (c_X0_isSecret l g TK a3) mt_X0_isSecret wd_465 wd_464 rfl (rm_le hR rfl) rfl rfl (rest := []) rfl (Nat.le_of_ble_eq_true rfl) dX11_sign_32 (fun r13 k14 h15 => ?_)
        refine zf_ifb_ne hC (tgt := 40) dX11_sign_35 (by decide) (fun h16 => ?_) (fun h16 => ?_)
        · refine zf_aload_n hC dX11_sign_40 rfl 0 rfl ?_
          refine gf_408 hC dX11_sign_41 ?_
          refine zf_iload_n hC dX11_sign_44 rfl 2 rfl ?_
          refine zf_aload_n hC dX11_sign_45 rfl 0 rfl ?_
          refine gf_400 hC dX11_sign_46 ?_
          refine zf_callV hC (c_X1_maySign l g a1 (gI k14 10 0)) mt_X1_maySign wd_929 wd_930 ci_0 ic_0 wd_928 rfl (rm_le hR rfl) rfl rfl (rest := []) rfl (Nat.le_of_ble_eq_true rfl) dX11_sign_49 (fun r17 k18 h19 => ?_)
          refine zf_ifb_eq hC (tgt := 64) dX11_sign_52 (by decide) (fun h20 => ?_) (fun h20 => ?_)
          · refine zf_aload_n hC dX11_sign_55 rfl 0 rfl ?_
            refine zf_iload_n hC dX11_sign_56 rfl 1 rfl ?_
            refine zf_iload_n hC dX11_sign_57 rfl 2 rfl ?_
            refine zf_callV hC (c_X11_getsNow l g a0 a1) mt_X11_getsNow wd_939 sp_29 ci_10 ic_10 wd_937 rfl (rm_le hR rfl) rfl rfl (rest := []) rfl (Nat.le_of_ble_eq_true rfl) dX11_sign_58 (fun r21 k22 h23 => ?_)
            refine zf_ifb_ne hC (tgt := 66) dX11_sign_61 (by decide) (fun h24 => ?_) (fun h24 => ?_)
            · refine zf_aload_n hC dX11_sign_66 rfl 0 rfl ?_
              refine zf_iload_n hC dX11_sign_67 rfl 2 rfl ?_
              refine zf_iload_n hC dX11_sign_68 rfl 3 rfl ?_
              refine zf_iload hC dX11_sign_69 4 rfl ?_
              refine zf_callV hC (c_X11_signAlone l g a1 a2 a3) mt_X11_signAlone wd_944 sp_30 ci_10 ic_10 wd_942 rfl (rm_le hR rfl) rfl rfl (rest := []) rfl (Nat.le_of_ble_eq_true rfl) dX11_sign_71 (fun r25 k26 h27 => ?_)
              exact zf_iret hC rfl dX11_sign_74
            · refine zf_iconst hC (v := (-1)) dX11_sign_64 rfl ?_
              exact zf_iret hC rfl dX11_sign_65
          · refine zf_iconst hC (v := (-1)) dX11_sign_64 rfl ?_
            exact zf_iret hC rfl dX11_sign_65
        · refine zf_iconst hC (v := (-1)) dX11_sign_38 rfl ?_
          exact zf_iret hC rfl dX11_sign_39
      · refine zf_iconst hC (v := (-1)) dX11_sign_38 rfl ?_
        exact zf_iret hC rfl dX11_sign_39
    · refine zf_iconst hC (v := (-1)) dX11_sign_38 rfl ?_
      exact zf_iret hC rfl dX11_sign_39
  · refine zf_iconst hC (v := (-1)) dX11_sign_38 rfl ?_
    exact zf_iret hC rfl dX11_sign_39
/-! LifeKeys.falsely -/
theorem dX11_falsely_0 : decode cX11_falsely 0 = .ok (.aload_n 0, 1) := by decide +kernel
theorem dX11_falsely_1 : decode cX11_falsely 1 = .ok (.iload_n 1, 1) := by decide +kernel
theorem dX11_falsely_2 : decode cX11_falsely 2 = .ok (.invokevirtual 157, 3) := by decide +kernel
theorem dX11_falsely_5 : decode cX11_falsely 5 = .ok (.ifCond .eq 15, 3) := by decide +kernel
theorem dX11_falsely_8 : decode cX11_falsely 8 = .ok (.aload_n 0, 1) := by decide +kernel
theorem dX11_falsely_9 : decode cX11_falsely 9 = .ok (.getfield 306, 3) := by decide +kernel
theorem dX11_falsely_12 : decode cX11_falsely 12 = .ok (.iload_n 1, 1) := by decide +kernel
theorem dX11_falsely_13 : decode cX11_falsely 13 = .ok (.invokestatic 225, 3) := by decide +kernel
theorem dX11_falsely_16 : decode cX11_falsely 16 = .ok (.iload_n 2, 1) := by decide +kernel
theorem dX11_falsely_17 : decode cX11_falsely 17 = .ok (.if_icmp .ne 5, 3) := by decide +kernel
theorem dX11_falsely_20 : decode cX11_falsely 20 = .ok (.iconst 0, 1) := by decide +kernel
theorem dX11_falsely_21 : decode cX11_falsely 21 = .ok (.ireturn, 1) := by decide +kernel
theorem dX11_falsely_22 : decode cX11_falsely 22 = .ok (.aload_n 0, 1) := by decide +kernel
theorem dX11_falsely_23 : decode cX11_falsely 23 = .ok (.dup, 1) := by decide +kernel
theorem dX11_falsely_24 : decode cX11_falsely 24 = .ok (.getfield 306, 3) := by decide +kernel
theorem dX11_falsely_27 : decode cX11_falsely 27 = .ok (.iconst 1, 1) := by decide +kernel
theorem dX11_falsely_28 : decode cX11_falsely 28 = .ok (.iload_n 1, 1) := by decide +kernel
theorem dX11_falsely_29 : decode cX11_falsely 29 = .ok (.ishl, 1) := by decide +kernel
theorem dX11_falsely_30 : decode cX11_falsely 30 = .ok (.ixor, 1) := by decide +kernel
theorem dX11_falsely_31 : decode cX11_falsely 31 = .ok (.putfield 306, 3) := by decide +kernel
theorem dX11_falsely_34 : decode cX11_falsely 34 = .ok (.iconst 1, 1) := by decide +kernel
theorem dX11_falsely_35 : decode cX11_falsely 35 = .ok (.ireturn, 1) := by decide +kernel
def fX11_falsely (k : ST) (a0 : Int32) (a1 : Bool) : Option (Bool × ST) := ob (fX11_isHolder k a0) fun r1 k2 => if r1 = true then ob (fX11_hasBit k2 (gI k2 10 2) a0) fun r5 k6 => if (b2i r5) = (b2i a1) then some (false, k6) else nm (sI k6 10 2 ((gI k6 10 2) ^^^ (j_shl 1 a0))) fun k9 => some (true, k9) else some (false, k2)
set_option maxRecDepth 20000 in
theorem c_X11_falsely (l : Launch) (g : GT) (a0 : Int32) (a1 : Bool) : CN l yX11_falsely cX11_falsely 3 (some .boolean) { frames := 1, cells := 0, slots := 0, locals := 21 } g TK voB [.ref (g.2.1 10), .int a0, .int (b2i a1)] (fun k => fX11_falsely k a0 a1) := by
  refine cn_of (by decide) (Nat.le_of_ble_eq_true rfl) ?_
  intro p e s m args below meth c hC k
  have hC : HC p s m args meth c cX11_falsely 3 RX11 (some .boolean) g := hC
  have hR : 1 ≤ ({ frames := 1, cells := 0, slots := 0, locals := 21 } : Room).frames ∧ 21 ≤ ({ frames := 1, cells := 0, slots := 0, locals := 21 } : Room).locals := ⟨Nat.le_refl _, Nat.le_refl _⟩
  show ZF p l e _ s m args below meth c g TK voB 3 k 0 [(0, .ref (g.2.1 10)), (1, .int a0), (2, .int (b2i a1))] [] (fX11_falsely k a0 a1)
  unfold fX11_falsely
  refine zf_aload_n hC dX11_falsely_0 rfl 0 rfl ?_
  refine zf_iload_n hC dX11_falsely_1 rfl 1 rfl ?_
  refine zf_callV hC (c_X11_isHolder l g a0) mt_X11_isHolder wd_531 sp_0 ci_10 ic_10 wd_529 rfl (rm_le hR rfl) rfl rfl (rest := []) rfl (Nat.le_of_ble_eq_true rfl) dX11_falsely_2 (fun r1 k2 h3 => ?_)
  refine zf_ifb_eq hC (tgt := 20) dX11_falsely_5 (by decide) (fun h4 => ?_) (fun h4 => ?_)
  · refine zf_aload_n hC dX11_falsely_8 rfl 0 rfl ?_
    refine gf_402 hC dX11_falsely_9 ?_
    refine zf_iload_n hC dX11_falsely_12 rfl 1 rfl ?_
    refine zf_callS hC (c_X11_hasBit l g TK (gI k2 10 2) a0) mt_X11_hasBit wd_613 wd_662 rfl (rm_le hR rfl) rfl rfl (rest := []) rfl (Nat.le_of_ble_eq_true rfl) dX11_falsely_13 (fun r5 k6 h7 => ?_)
    refine zf_iload_n hC dX11_falsely_16 rfl 2 rfl ?_
    refine zf_icmp_ne hC (tgt := 22) dX11_falsely_17 (by decide) (fun h8 => ?_) (fun h8 => ?_)
    · refine zf_iconst hC (v := 0) dX11_falsely_20 rfl ?_
      exact zf_zret hC rfl false rfl dX11_falsely_21
    · refine zf_aload_n hC dX11_falsely_22 rfl 0 rfl ?_
      refine zf_dup hC dX11_falsely_23 rfl ?_
      refine gf_402 hC dX11_falsely_24 ?_
      refine zf_iconst hC (v := 1) dX11_falsely_27 rfl ?_
      refine zf_iload_n hC dX11_falsely_28 rfl 1 rfl ?_
      refine zf_ishl hC dX11_falsely_29 ?_
      refine zf_ixor hC dX11_falsely_30 ?_
      refine pf_402 hC dX11_falsely_31 ?_
      refine zf_nmk (fun k9 => ?_)
      refine zf_iconst hC (v := 1) dX11_falsely_34 rfl ?_
      exact zf_zret hC rfl true rfl dX11_falsely_35
  · refine zf_iconst hC (v := 0) dX11_falsely_20 rfl ?_
    exact zf_zret hC rfl false rfl dX11_falsely_21
/-! LifeKeys.givenBy -/
theorem dX11_givenBy_0 : decode cX11_givenBy 0 = .ok (.aload_n 0, 1) := by decide +kernel
theorem dX11_givenBy_1 : decode cX11_givenBy 1 = .ok (.getfield 40, 3) := by decide +kernel
theorem dX11_givenBy_4 : decode cX11_givenBy 4 = .ok (.iload_n 1, 1) := by decide +kernel
theorem dX11_givenBy_5 : decode cX11_givenBy 5 = .ok (.iload_n 2, 1) := by decide +kernel
theorem dX11_givenBy_6 : decode cX11_givenBy 6 = .ok (.invokevirtual 206, 3) := by decide +kernel
theorem dX11_givenBy_9 : decode cX11_givenBy 9 = .ok (.istore 4, 2) := by decide +kernel
theorem dX11_givenBy_11 : decode cX11_givenBy 11 = .ok (.aload_n 0, 1) := by decide +kernel
theorem dX11_givenBy_12 : decode cX11_givenBy 12 = .ok (.getfield 306, 3) := by decide +kernel
theorem dX11_givenBy_15 : decode cX11_givenBy 15 = .ok (.iload_n 2, 1) := by decide +kernel
theorem dX11_givenBy_16 : decode cX11_givenBy 16 = .ok (.invokestatic 225, 3) := by decide +kernel
theorem dX11_givenBy_19 : decode cX11_givenBy 19 = .ok (.ifCond .eq 11, 3) := by decide +kernel
theorem dX11_givenBy_22 : decode cX11_givenBy 22 = .ok (.iload 4, 2) := by decide +kernel
theorem dX11_givenBy_24 : decode cX11_givenBy 24 = .ok (.iconst 1, 1) := by decide +kernel
theorem dX11_givenBy_25 : decode cX11_givenBy 25 = .ok (.invokestatic 234, 3) := by decide +kernel
theorem dX11_givenBy_28 : decode cX11_givenBy 28 = .ok (.istore 4, 2) := by decide +kernel
theorem dX11_givenBy_30 : decode cX11_givenBy 30 = .ok (.aload_n 0, 1) := by decide +kernel
theorem dX11_givenBy_31 : decode cX11_givenBy 31 = .ok (.getfield 68, 3) := by decide +kernel
theorem dX11_givenBy_34 : decode cX11_givenBy 34 = .ok (.getfield 458, 3) := by decide +kernel
theorem dX11_givenBy_37 : decode cX11_givenBy 37 = .ok (.iload_n 2, 1) := by decide +kernel
theorem dX11_givenBy_38 : decode cX11_givenBy 38 = .ok (.iaload, 1) := by decide +kernel
theorem dX11_givenBy_39 : decode cX11_givenBy 39 = .ok (.iload_n 3, 1) := by decide +kernel
theorem dX11_givenBy_40 : decode cX11_givenBy 40 = .ok (.iload 4, 2) := by decide +kernel
theorem dX11_givenBy_42 : decode cX11_givenBy 42 = .ok (.invokestatic 231, 3) := by decide +kernel
theorem dX11_givenBy_45 : decode cX11_givenBy 45 = .ok (.invokestatic 234, 3) := by decide +kernel
theorem dX11_givenBy_48 : decode cX11_givenBy 48 = .ok (.ireturn, 1) := by decide +kernel
def fX11_givenBy (k : ST) (a0 : Int32) (a1 : Int32) (a2 : Int32) : Option (Int32 × ST) := ob (fX3_partOf k a0 a1) fun r1 k2 => ob (fX11_hasBit k2 (gI k2 10 2) a1) fun r4 k5 => if r4 = true then ob (fX0_sum k5 r1 1) fun r8 k9 => ck (inb a1 12) (ob (fX0_times k9 a2 r8) fun r12 k13 => ob (fX0_sum k13 (gA k9 42 (ix a1)) r12) fun r15 k16 => some (r15, k16)) else ck (inb a1 12) (ob (fX0_times k5 a2 r1) fun r19 k20 => ob (fX0_sum k20 (gA k5 42 (ix a1)) r19) fun r22 k23 => some (r22, k23))
set_option maxRecDepth 20000 in
theorem c_X11_givenBy (l : Launch) (g : GT) (a0 : Int32) (a1 : Int32) (a2 : Int32) : CN l yX11_givenBy cX11_givenBy 5 (some .int) { frames := 2, cells := 0, slots := 0, locals := 45 } g TK voI [.ref (g.2.1 10), .int a0, .int a1, .int a2] (fun k => fX11_givenBy k a0 a1 a2) := by
  refine cn_of (by decide) (Nat.le_of_ble_eq_true rfl) ?_
  intro p e s m args below meth c hC k
  have hC : HC p s m args meth c cX11_givenBy 5 RX11 (some .int) g := hC
  have hR : 2 ≤ ({ frames := 2, cells := 0, slots := 0, locals := 45 } : Room).frames ∧ 45 ≤ ({ frames := 2, cells := 0, slots := 0, locals := 45 } : Room).locals := ⟨Nat.le_refl _, Nat.le_refl _⟩
  show ZF p l e _ s m args below meth c g TK voI 5 k 0 [(0, .ref (g.2.1 10)), (1, .int a0), (2, .int a1), (3, .int a2)] [] (fX11_givenBy k a0 a1 a2)
  unfold fX11_givenBy
  refine zf_aload_n hC dX11_givenBy_0 rfl 0 rfl ?_
  refine gf_410 hC dX11_givenBy_1 ?_
  refine zf_iload_n hC dX11_givenBy_4 rfl 1 rfl ?_
  refine zf_iload_n hC dX11_givenBy_5 rfl 2 rfl ?_
  refine zf_callV hC (c_X3_partOf l g a0 a1) mt_X3_partOf wd_616 wd_617 ci_2 ic_2 wd_615 rfl (rm_le hR rfl) rfl rfl (rest := []) rfl (Nat.le_of_ble_eq_true rfl) dX11_givenBy_6 (fun r1 k2 h3 => ?_)
  refine zf_istore hC (LV' := [(4, .int r1), (0, .ref (g.2.1 10)), (1, .int a0), (2, .int a1), (3, .int a2)]) dX11_givenBy_9 (by decide) rfl ?_
  refine zf_aload_n hC dX11_givenBy_11 rfl 1 rfl ?_
  refine gf_402 hC dX11_givenBy_12 ?_
  refine zf_iload_n hC dX11_givenBy_15 rfl 3 rfl ?_
  refine zf_callS hC (c_X11_hasBit l g TK (gI k2 10 2) a1) mt_X11_hasBit wd_613 wd_662 rfl (rm_le hR rfl) rfl rfl (rest := []) rfl (Nat.le_of_ble_eq_true rfl) dX11_givenBy_16 (fun r4 k5 h6 => ?_)
  refine zf_ifb_eq hC (tgt := 30) dX11_givenBy_19 (by decide) (fun h7 => ?_) (fun h7 => ?_)
  · refine zf_iload hC dX11_givenBy_22 0 rfl ?_
    refine zf_iconst hC (v := 1) dX11_givenBy_24 rfl ?_
    refine zf_callS hC (c_X0_sum l g TK r1 1) mt_X0_sum wd_623 wd_679 rfl (rm_le hR rfl) rfl rfl (rest := []) rfl (Nat.le_of_ble_eq_true rfl) dX11_givenBy_25 (fun r8 k9 h10 => ?_)
    refine zf_istore hC (LV' := [(4, .int r8), (0, .ref (g.2.1 10)), (1, .int a0), (2, .int a1), (3, .int a2)]) dX11_givenBy_28 (by decide) rfl ?_
    refine zf_aload_n hC dX11_givenBy_30 rfl 1 rfl ?_
    refine gf_414 hC dX11_givenBy_31 ?_
    refine gf_309 hC dX11_givenBy_34 ?_
    refine zf_iload_n hC dX11_givenBy_37 rfl 3 rfl ?_
    refine zf_iald hC (j := 42) ia_42 rfl rfl dX11_givenBy_38 (fun h11 => ?_)
    refine zf_iload_n hC dX11_givenBy_39 rfl 4 rfl ?_
    refine zf_iload hC dX11_givenBy_40 0 rfl ?_
    refine zf_callS hC (c_X0_times l g TK a2 r8) mt_X0_times wd_620 wd_678 rfl (rm_le hR rfl) rfl rfl (rest := [.int (gA k9 42 (ix a1))]) rfl (Nat.le_of_ble_eq_true rfl) dX11_givenBy_42 (fun r12 k13 h14 => ?_)
    refine zf_callS hC (c_X0_sum l g TK (gA k9 42 (ix a1)) r12) mt_X0_sum wd_623 wd_679 rfl (rm_le hR rfl) rfl rfl (rest := []) rfl (Nat.le_of_ble_eq_true rfl) dX11_givenBy_45 (fun r15 k16 h17 => ?_)
    exact zf_iret hC rfl dX11_givenBy_48
  · refine zf_aload_n hC dX11_givenBy_30 rfl 1 rfl ?_
    refine gf_414 hC dX11_givenBy_31 ?_
    refine gf_309 hC dX11_givenBy_34 ?_
    refine zf_iload_n hC dX11_givenBy_37 rfl 3 rfl ?_
    refine zf_iald hC (j := 42) ia_42 rfl rfl dX11_givenBy_38 (fun h18 => ?_)
    refine zf_iload_n hC dX11_givenBy_39 rfl 4 rfl ?_
    refine zf_iload hC dX11_givenBy_40 0 rfl ?_
    refine zf_callS hC (c_X0_times l g TK a2 r1) mt_X0_times wd_620 wd_678 rfl (rm_le hR rfl) rfl rfl (rest := [.int (gA k5 42 (ix a1))]) rfl (Nat.le_of_ble_eq_true rfl) dX11_givenBy_42 (fun r19 k20 h21 => ?_)
    refine zf_callS hC (c_X0_sum l g TK (gA k5 42 (ix a1)) r19) mt_X0_sum wd_623 wd_679 rfl (rm_le hR rfl) rfl rfl (rest := []) rfl (Nat.le_of_ble_eq_true rfl) dX11_givenBy_45 (fun r22 k23 h24 => ?_)
    exact zf_iret hC rfl dX11_givenBy_48
/-! LifeKeys.agrees -/
theorem dX11_agrees_0 : decode cX11_agrees 0 = .ok (.aload_n 0, 1) := by decide +kernel
theorem dX11_agrees_1 : decode cX11_agrees 1 = .ok (.getfield 40, 3) := by decide +kernel
theorem dX11_agrees_4 : decode cX11_agrees 4 = .ok (.iload_n 1, 1) := by decide +kernel
theorem dX11_agrees_5 : decode cX11_agrees 5 = .ok (.iload_n 2, 1) := by decide +kernel
theorem dX11_agrees_6 : decode cX11_agrees 6 = .ok (.invokevirtual 206, 3) := by decide +kernel
theorem dX11_agrees_9 : decode cX11_agrees 9 = .ok (.invokestatic 216, 3) := by decide +kernel
theorem dX11_agrees_12 : decode cX11_agrees 12 = .ok (.istore 5, 2) := by decide +kernel
theorem dX11_agrees_14 : decode cX11_agrees 14 = .ok (.aload_n 0, 1) := by decide +kernel
theorem dX11_agrees_15 : decode cX11_agrees 15 = .ok (.getfield 68, 3) := by decide +kernel
theorem dX11_agrees_18 : decode cX11_agrees 18 = .ok (.getfield 458, 3) := by decide +kernel
theorem dX11_agrees_21 : decode cX11_agrees 21 = .ok (.iload_n 2, 1) := by decide +kernel
theorem dX11_agrees_22 : decode cX11_agrees 22 = .ok (.iaload, 1) := by decide +kernel
theorem dX11_agrees_23 : decode cX11_agrees 23 = .ok (.invokestatic 216, 3) := by decide +kernel
theorem dX11_agrees_26 : decode cX11_agrees 26 = .ok (.iload 5, 2) := by decide +kernel
theorem dX11_agrees_28 : decode cX11_agrees 28 = .ok (.iload_n 3, 1) := by decide +kernel
theorem dX11_agrees_29 : decode cX11_agrees 29 = .ok (.invokestatic 339, 3) := by decide +kernel
theorem dX11_agrees_32 : decode cX11_agrees 32 = .ok (.invokestatic 342, 3) := by decide +kernel
theorem dX11_agrees_35 : decode cX11_agrees 35 = .ok (.istore 6, 2) := by decide +kernel
theorem dX11_agrees_37 : decode cX11_agrees 37 = .ok (.iload 4, 2) := by decide +kernel
theorem dX11_agrees_39 : decode cX11_agrees 39 = .ok (.invokestatic 216, 3) := by decide +kernel
theorem dX11_agrees_42 : decode cX11_agrees 42 = .ok (.iload 6, 2) := by decide +kernel
theorem dX11_agrees_44 : decode cX11_agrees 44 = .ok (.if_icmp .ne 7, 3) := by decide +kernel
theorem dX11_agrees_47 : decode cX11_agrees 47 = .ok (.iconst 1, 1) := by decide +kernel
theorem dX11_agrees_48 : decode cX11_agrees 48 = .ok (.goto 4, 3) := by decide +kernel
theorem dX11_agrees_51 : decode cX11_agrees 51 = .ok (.iconst 0, 1) := by decide +kernel
theorem dX11_agrees_52 : decode cX11_agrees 52 = .ok (.ireturn, 1) := by decide +kernel
def fX11_agrees (k : ST) (a0 : Int32) (a1 : Int32) (a2 : Int32) (a3 : Int32) : Option (Bool × ST) := ob (fX3_partOf k a0 a1) fun r1 k2 => ob (fX0_powerOf4 k2 r1) fun r4 k5 => ck (inb a1 12) (ob (fX0_powerOf4 k5 (gA k5 42 (ix a1))) fun r8 k9 => ob (fX0_raise k9 r4 a2) fun r11 k12 => ob (fX0_product k12 r8 r11) fun r14 k15 => ob (fX0_powerOf4 k15 a3) fun r17 k18 => if r17 = r14 then some (true, k18) else some (false, k18))
set_option maxRecDepth 20000 in
theorem c_X11_agrees (l : Launch) (g : GT) (a0 : Int32) (a1 : Int32) (a2 : Int32) (a3 : Int32) : CN l yX11_agrees cX11_agrees 7 (some .boolean) { frames := 3, cells := 0, slots := 0, locals := 65 } g TK voB [.ref (g.2.1 10), .int a0, .int a1, .int a2, .int a3] (fun k => fX11_agrees k a0 a1 a2 a3) := by
  refine cn_of (by decide) (Nat.le_of_ble_eq_true rfl) ?_
  intro p e s m args below meth c hC k
  have hC : HC p s m args meth c cX11_agrees 7 RX11 (some .boolean) g := hC
  have hR : 3 ≤ ({ frames := 3, cells := 0, slots := 0, locals := 65 } : Room).frames ∧ 65 ≤ ({ frames := 3, cells := 0, slots := 0, locals := 65 } : Room).locals := ⟨Nat.le_refl _, Nat.le_refl _⟩
  show ZF p l e _ s m args below meth c g TK voB 7 k 0 [(0, .ref (g.2.1 10)), (1, .int a0), (2, .int a1), (3, .int a2), (4, .int a3)] [] (fX11_agrees k a0 a1 a2 a3)
  unfold fX11_agrees
  refine zf_aload_n hC dX11_agrees_0 rfl 0 rfl ?_
  refine gf_410 hC dX11_agrees_1 ?_
  refine zf_iload_n hC dX11_agrees_4 rfl 1 rfl ?_
  refine zf_iload_n hC dX11_agrees_5 rfl 2 rfl ?_
  refine zf_callV hC (c_X3_partOf l g a0 a1) mt_X3_partOf wd_616 wd_617 ci_2 ic_2 wd_615 rfl (rm_le hR rfl) rfl rfl (rest := []) rfl (Nat.le_of_ble_eq_true rfl) dX11_agrees_6 (fun r1 k2 h3 => ?_)
  refine zf_callS hC (c_X0_powerOf4 l g TK r1) mt_X0_powerOf4 wd_635 wd_650 rfl (rm_le hR rfl) rfl rfl (rest := []) rfl (Nat.le_of_ble_eq_true rfl) dX11_agrees_9 (fun r4 k5 h6 => ?_)
  refine zf_istore hC (LV' := [(5, .int r4), (0, .ref (g.2.1 10)), (1, .int a0), (2, .int a1), (3, .int a2), (4, .int a3)]) dX11_agrees_12 (by decide) rfl ?_
  refine zf_aload_n hC dX11_agrees_14 rfl 1 rfl ?_
  refine gf_414 hC dX11_agrees_15 ?_
  refine gf_309 hC dX11_agrees_18 ?_
  refine zf_iload_n hC dX11_agrees_21 rfl 3 rfl ?_
  refine zf_iald hC (j := 42) ia_42 rfl rfl dX11_agrees_22 (fun h7 => ?_)
  refine zf_callS hC (c_X0_powerOf4 l g TK (gA k5 42 (ix a1))) mt_X0_powerOf4 wd_635 wd_650 rfl (rm_le hR rfl) rfl rfl (rest := []) rfl (Nat.le_of_ble_eq_true rfl) dX11_agrees_23 (fun r8 k9 h10 => ?_)
  refine zf_iload hC dX11_agrees_26 0 rfl ?_
  refine zf_iload_n hC dX11_agrees_28 rfl 4 rfl ?_
  refine zf_callS hC (c_X0_raise l g TK r4 a2) mt_X0_raise wd_638 wd_990 rfl (rm_le hR rfl) rfl rfl (rest := [.int r8]) rfl (Nat.le_of_ble_eq_true rfl) dX11_agrees_29 (fun r11 k12 h13 => ?_)
  refine zf_callS hC (c_X0_product l g TK r8 r11) mt_X0_product wd_641 wd_991 rfl (rm_le hR rfl) rfl rfl (rest := []) rfl (Nat.le_of_ble_eq_true rfl) dX11_agrees_32 (fun r14 k15 h16 => ?_)
  refine zf_istore hC (LV' := [(6, .int r14), (5, .int r4), (0, .ref (g.2.1 10)), (1, .int a0), (2, .int a1), (3, .int a2), (4, .int a3)]) dX11_agrees_35 (by decide) rfl ?_
  refine zf_iload hC dX11_agrees_37 6 rfl ?_
  refine zf_callS hC (c_X0_powerOf4 l g TK a3) mt_X0_powerOf4 wd_635 wd_650 rfl (rm_le hR rfl) rfl rfl (rest := []) rfl (Nat.le_of_ble_eq_true rfl) dX11_agrees_39 (fun r17 k18 h19 => ?_)
  refine zf_iload hC dX11_agrees_42 0 rfl ?_
  refine zf_icmp_ne hC (tgt := 51) dX11_agrees_44 (by decide) (fun h20 => ?_) (fun h20 => ?_)
  · refine zf_iconst hC (v := 1) dX11_agrees_47 rfl ?_
    refine zf_goto hC (tgt := 52) dX11_agrees_48 (by decide) ?_
    exact zf_zret hC rfl true rfl dX11_agrees_52
  · refine zf_iconst hC (v := 0) dX11_agrees_51 rfl ?_
    exact zf_zret hC rfl false rfl dX11_agrees_52
/-! LifeKeys.signTogether -/
theorem dX11_signTogether_0 : decode cX11_signTogether 0 = .ok (.aload_n 0, 1) := by decide +kernel
theorem dX11_signTogether_1 : decode cX11_signTogether 1 = .ok (.getfield 68, 3) := by decide +kernel
theorem dX11_signTogether_4 : decode cX11_signTogether 4 = .ok (.iload_n 2, 1) := by decide +kernel
theorem dX11_signTogether_5 : decode cX11_signTogether 5 = .ok (.lload 4, 2) := by decide +kernel
theorem dX11_signTogether_7 : decode cX11_signTogether 7 = .ok (.invokevirtual 448, 3) := by decide +kernel
theorem dX11_signTogether_10 : decode cX11_signTogether 10 = .ok (.istore 6, 2) := by decide +kernel
theorem dX11_signTogether_12 : decode cX11_signTogether 12 = .ok (.iload 6, 2) := by decide +kernel
theorem dX11_signTogether_14 : decode cX11_signTogether 14 = .ok (.aload_n 0, 1) := by decide +kernel
theorem dX11_signTogether_15 : decode cX11_signTogether 15 = .ok (.getfield 61, 3) := by decide +kernel
theorem dX11_signTogether_18 : decode cX11_signTogether 18 = .ok (.getfield 333, 3) := by decide +kernel
theorem dX11_signTogether_21 : decode cX11_signTogether 21 = .ok (.iload_n 3, 1) := by decide +kernel
theorem dX11_signTogether_22 : decode cX11_signTogether 22 = .ok (.iaload, 1) := by decide +kernel
theorem dX11_signTogether_23 : decode cX11_signTogether 23 = .ok (.invokestatic 336, 3) := by decide +kernel
theorem dX11_signTogether_26 : decode cX11_signTogether 26 = .ok (.istore 7, 2) := by decide +kernel
theorem dX11_signTogether_28 : decode cX11_signTogether 28 = .ok (.iconst 0, 1) := by decide +kernel
theorem dX11_signTogether_29 : decode cX11_signTogether 29 = .ok (.istore 8, 2) := by decide +kernel
theorem dX11_signTogether_31 : decode cX11_signTogether 31 = .ok (.iconst 0, 1) := by decide +kernel
theorem dX11_signTogether_32 : decode cX11_signTogether 32 = .ok (.istore 9, 2) := by decide +kernel
theorem dX11_signTogether_34 : decode cX11_signTogether 34 = .ok (.iload 9, 2) := by decide +kernel
theorem dX11_signTogether_36 : decode cX11_signTogether 36 = .ok (.bipush 12, 2) := by decide +kernel
theorem dX11_signTogether_38 : decode cX11_signTogether 38 = .ok (.if_icmp .ge 71, 3) := by decide +kernel
theorem dX11_signTogether_41 : decode cX11_signTogether 41 = .ok (.iload_n 2, 1) := by decide +kernel
theorem dX11_signTogether_42 : decode cX11_signTogether 42 = .ok (.iload 9, 2) := by decide +kernel
theorem dX11_signTogether_44 : decode cX11_signTogether 44 = .ok (.invokestatic 225, 3) := by decide +kernel
theorem dX11_signTogether_47 : decode cX11_signTogether 47 = .ok (.ifCond .eq 56, 3) := by decide +kernel
theorem dX11_signTogether_50 : decode cX11_signTogether 50 = .ok (.iload 7, 2) := by decide +kernel
theorem dX11_signTogether_52 : decode cX11_signTogether 52 = .ok (.iload 9, 2) := by decide +kernel
theorem dX11_signTogether_54 : decode cX11_signTogether 54 = .ok (.iload_n 2, 1) := by decide +kernel
theorem dX11_signTogether_55 : decode cX11_signTogether 55 = .ok (.invokestatic 228, 3) := by decide +kernel
theorem dX11_signTogether_58 : decode cX11_signTogether 58 = .ok (.invokestatic 231, 3) := by decide +kernel
theorem dX11_signTogether_61 : decode cX11_signTogether 61 = .ok (.istore 10, 2) := by decide +kernel
theorem dX11_signTogether_63 : decode cX11_signTogether 63 = .ok (.aload_n 0, 1) := by decide +kernel
theorem dX11_signTogether_64 : decode cX11_signTogether 64 = .ok (.iload_n 1, 1) := by decide +kernel
theorem dX11_signTogether_65 : decode cX11_signTogether 65 = .ok (.iload 9, 2) := by decide +kernel
theorem dX11_signTogether_67 : decode cX11_signTogether 67 = .ok (.iload 10, 2) := by decide +kernel
theorem dX11_signTogether_69 : decode cX11_signTogether 69 = .ok (.invokevirtual 452, 3) := by decide +kernel
theorem dX11_signTogether_72 : decode cX11_signTogether 72 = .ok (.istore 11, 2) := by decide +kernel
theorem dX11_signTogether_74 : decode cX11_signTogether 74 = .ok (.aload_n 0, 1) := by decide +kernel
theorem dX11_signTogether_75 : decode cX11_signTogether 75 = .ok (.iload_n 1, 1) := by decide +kernel
theorem dX11_signTogether_76 : decode cX11_signTogether 76 = .ok (.iload 9, 2) := by decide +kernel
theorem dX11_signTogether_78 : decode cX11_signTogether 78 = .ok (.iload 10, 2) := by decide +kernel
theorem dX11_signTogether_80 : decode cX11_signTogether 80 = .ok (.iload 11, 2) := by decide +kernel
theorem dX11_signTogether_82 : decode cX11_signTogether 82 = .ok (.invokevirtual 455, 3) := by decide +kernel
theorem dX11_signTogether_85 : decode cX11_signTogether 85 = .ok (.ifCond .ne 9, 3) := by decide +kernel
theorem dX11_signTogether_88 : decode cX11_signTogether 88 = .ok (.bipush (-2), 2) := by decide +kernel
theorem dX11_signTogether_90 : decode cX11_signTogether 90 = .ok (.iload 9, 2) := by decide +kernel
theorem dX11_signTogether_92 : decode cX11_signTogether 92 = .ok (.isub, 1) := by decide +kernel
theorem dX11_signTogether_93 : decode cX11_signTogether 93 = .ok (.ireturn, 1) := by decide +kernel
theorem dX11_signTogether_94 : decode cX11_signTogether 94 = .ok (.iload 8, 2) := by decide +kernel
theorem dX11_signTogether_96 : decode cX11_signTogether 96 = .ok (.iload 11, 2) := by decide +kernel
theorem dX11_signTogether_98 : decode cX11_signTogether 98 = .ok (.invokestatic 234, 3) := by decide +kernel
theorem dX11_signTogether_101 : decode cX11_signTogether 101 = .ok (.istore 8, 2) := by decide +kernel
theorem dX11_signTogether_103 : decode cX11_signTogether 103 = .ok (.iinc 9 1, 3) := by decide +kernel
theorem dX11_signTogether_106 : decode cX11_signTogether 106 = .ok (.goto (-72), 3) := by decide +kernel
theorem dX11_signTogether_109 : decode cX11_signTogether 109 = .ok (.aload_n 0, 1) := by decide +kernel
theorem dX11_signTogether_110 : decode cX11_signTogether 110 = .ok (.getfield 68, 3) := by decide +kernel
theorem dX11_signTogether_113 : decode cX11_signTogether 113 = .ok (.iload 6, 2) := by decide +kernel
theorem dX11_signTogether_115 : decode cX11_signTogether 115 = .ok (.iload 8, 2) := by decide +kernel
theorem dX11_signTogether_117 : decode cX11_signTogether 117 = .ok (.aload_n 0, 1) := by decide +kernel
theorem dX11_signTogether_118 : decode cX11_signTogether 118 = .ok (.getfield 40, 3) := by decide +kernel
theorem dX11_signTogether_121 : decode cX11_signTogether 121 = .ok (.getfield 191, 3) := by decide +kernel
theorem dX11_signTogether_124 : decode cX11_signTogether 124 = .ok (.iload_n 1, 1) := by decide +kernel
theorem dX11_signTogether_125 : decode cX11_signTogether 125 = .ok (.iaload, 1) := by decide +kernel
theorem dX11_signTogether_126 : decode cX11_signTogether 126 = .ok (.iload_n 3, 1) := by decide +kernel
theorem dX11_signTogether_127 : decode cX11_signTogether 127 = .ok (.aload_n 0, 1) := by decide +kernel
theorem dX11_signTogether_128 : decode cX11_signTogether 128 = .ok (.getfield 86, 3) := by decide +kernel
theorem dX11_signTogether_131 : decode cX11_signTogether 131 = .ok (.invokevirtual 445, 3) := by decide +kernel
theorem dX11_signTogether_134 : decode cX11_signTogether 134 = .ok (.ireturn, 1) := by decide +kernel
def lpX11_signTogether_34 (v1 : Int32) (v2 : Int32) (v3 : Int32) (v4 : Int64) (v6 : Int32) (v7 : Int32) : Nat → Int32 → Int32 → ST → (Int32 → Int32 → ST → Option (Int32 × ST)) → Option (Int32 × ST)
  | 0, _, _, _, _ => none
  | n + 1, v8, v9, k, cont => if 12 ≤ v9 then cont v8 v9 k else ob (fX11_hasBit k v2 v9) fun r9 k10 => if r9 = true then ob (fX0_weight k10 v9 v2) fun r13 k14 => ob (fX0_times k14 v7 r13) fun r16 k17 => ob (fX11_givenBy k17 v1 v9 r16) fun r19 k20 => ob (fX11_agrees k20 v1 v9 r16 r19) fun r22 k23 => if r22 = true then ob (fX0_sum k23 v8 r19) fun r26 k27 => lpX11_signTogether_34 v1 v2 v3 v4 v6 v7 n r26 (v9 + 1) k27 cont else some ((-2) - v9, k23) else lpX11_signTogether_34 v1 v2 v3 v4 v6 v7 n v8 (v9 + 1) k10 cont
set_option maxRecDepth 20000 in
theorem zlpX11_signTogether_34 {p : Program} {l : Launch} {e : Env} {R : Room} {s : State} {m : MethodId} {args : Array Value} {below : List Frame} {meth : Method} {c : Code} {g : GT} (hC : HC p s m args meth c cX11_signTogether 12 RX11 (some .int) g) (hR : 4 ≤ R.frames ∧ 92 ≤ R.locals)  (v1 : Int32) (v2 : Int32) (v3 : Int32) (v4 : Int64) (v6 : Int32) (v7 : Int32) {cont : Int32 → Int32 → ST → Option (Int32 × ST)} (hk : ∀ (v8 : Int32) (v9 : Int32) (k : ST), ZF p l e R s m args below meth c g TK voI 12 k 109 [(0, .ref (g.2.1 10)), (1, .int v1), (2, .int v2), (3, .int v3), (4, .long v4), (6, .int v6), (7, .int v7), (8, .int v8), (9, .int v9)] [] (cont v8 v9 k)) : ∀ (n : Nat) (v8 : Int32) (v9 : Int32) (k : ST), ZF p l e R s m args below meth c g TK voI 12 k 34 [(0, .ref (g.2.1 10)), (1, .int v1), (2, .int v2), (3, .int v3), (4, .long v4), (6, .int v6), (7, .int v7), (8, .int v8), (9, .int v9)] [] (lpX11_signTogether_34 v1 v2 v3 v4 v6 v7 n v8 v9 k cont) := by
  intro n
  induction n with
  | zero => intros; exact zf_none
  | succ n ih =>
    intro v8 v9 k
    rw [lpX11_signTogether_34]
    refine zf_iload hC dX11_signTogether_34 8 rfl ?_
    refine zf_bipush hC (v := 12) dX11_signTogether_36 rfl ?_
    refine zf_icmp_ge hC (tgt := 109) dX11_signTogether_38 (by decide) (fun h8 => ?_) (fun h8 => ?_)
    · refine zf_lv (LV' := [(0, .ref (g.2.1 10)), (1, .int v1), (2, .int v2), (3, .int v3), (4, .long v4), (6, .int v6), (7, .int v7), (8, .int v8), (9, .int v9)]) [0, 1, 2, 3, 4, 5, 6, 7, 8] rfl ?_
      exact hk v8 v9 k
    · refine zf_iload_n hC dX11_signTogether_41 rfl 2 rfl ?_
      refine zf_iload hC dX11_signTogether_42 8 rfl ?_
      refine zf_callS hC (c_X11_hasBit l g TK v2 v9) mt_X11_hasBit wd_613 wd_662 rfl (rm_le hR rfl) rfl rfl (rest := []) rfl (Nat.le_of_ble_eq_true rfl) dX11_signTogether_44 (fun r9 k10 h11 => ?_)
      refine zf_ifb_eq hC (tgt := 103) dX11_signTogether_47 (by decide) (fun h12 => ?_) (fun h12 => ?_)
      · refine zf_iload hC dX11_signTogether_50 6 rfl ?_
        refine zf_iload hC dX11_signTogether_52 8 rfl ?_
        refine zf_iload_n hC dX11_signTogether_54 rfl 2 rfl ?_
        refine zf_callS hC (c_X0_weight l g TK v9 v2) mt_X0_weight wd_668 wd_667 rfl (rm_le hR rfl) rfl rfl (rest := [.int v7]) rfl (Nat.le_of_ble_eq_true rfl) dX11_signTogether_55 (fun r13 k14 h15 => ?_)
        refine zf_callS hC (c_X0_times l g TK v7 r13) mt_X0_times wd_620 wd_678 rfl (rm_le hR rfl) rfl rfl (rest := []) rfl (Nat.le_of_ble_eq_true rfl) dX11_signTogether_58 (fun r16 k17 h18 => ?_)
        refine zf_istore hC (LV' := [(10, .int r16), (0, .ref (g.2.1 10)), (1, .int v1), (2, .int v2), (3, .int v3), (4, .long v4), (6, .int v6), (7, .int v7), (8, .int v8), (9, .int v9)]) dX11_signTogether_61 (by decide) rfl ?_
        refine zf_aload_n hC dX11_signTogether_63 rfl 1 rfl ?_
        refine zf_iload_n hC dX11_signTogether_64 rfl 2 rfl ?_
        refine zf_iload hC dX11_signTogether_65 9 rfl ?_
        refine zf_iload hC dX11_signTogether_67 0 rfl ?_
        refine zf_callV hC (c_X11_givenBy l g v1 v9 r16) mt_X11_givenBy wd_984 sp_32 ci_10 ic_10 wd_982 rfl (rm_le hR rfl) rfl rfl (rest := []) rfl (Nat.le_of_ble_eq_true rfl) dX11_signTogether_69 (fun r19 k20 h21 => ?_)
        refine zf_istore hC (LV' := [(11, .int r19), (10, .int r16), (0, .ref (g.2.1 10)), (1, .int v1), (2, .int v2), (3, .int v3), (4, .long v4), (6, .int v6), (7, .int v7), (8, .int v8), (9, .int v9)]) dX11_signTogether_72 (by decide) rfl ?_
        refine zf_aload_n hC dX11_signTogether_74 rfl 2 rfl ?_
        refine zf_iload_n hC dX11_signTogether_75 rfl 3 rfl ?_
        refine zf_iload hC dX11_signTogether_76 10 rfl ?_
        refine zf_iload hC dX11_signTogether_78 1 rfl ?_
        refine zf_iload hC dX11_signTogether_80 0 rfl ?_
        refine zf_callV hC (c_X11_agrees l g v1 v9 r16 r19) mt_X11_agrees wd_988 sp_33 ci_10 ic_10 wd_986 rfl (rm_le hR rfl) rfl rfl (rest := []) rfl (Nat.le_of_ble_eq_true rfl) dX11_signTogether_82 (fun r22 k23 h24 => ?_)
        refine zf_ifb_ne hC (tgt := 94) dX11_signTogether_85 (by decide) (fun h25 => ?_) (fun h25 => ?_)
        · refine zf_iload hC dX11_signTogether_94 9 rfl ?_
          refine zf_iload hC dX11_signTogether_96 0 rfl ?_
          refine zf_callS hC (c_X0_sum l g TK v8 r19) mt_X0_sum wd_623 wd_679 rfl (rm_le hR rfl) rfl rfl (rest := []) rfl (Nat.le_of_ble_eq_true rfl) dX11_signTogether_98 (fun r26 k27 h28 => ?_)
          refine zf_istore hC (LV' := [(8, .int r26), (11, .int r19), (10, .int r16), (0, .ref (g.2.1 10)), (1, .int v1), (2, .int v2), (3, .int v3), (4, .long v4), (6, .int v6), (7, .int v7), (9, .int v9)]) dX11_signTogether_101 (by decide) rfl ?_
          refine zf_iinc hC (q := 10) (v := v9 + 1) (LV' := [(9, .int (v9 + 1)), (8, .int r26), (11, .int r19), (10, .int r16), (0, .ref (g.2.1 10)), (1, .int v1), (2, .int v2), (3, .int v3), (4, .long v4), (6, .int v6), (7, .int v7)]) dX11_signTogether_103 rfl rfl (by decide) rfl ?_
          refine zf_goto hC (tgt := 34) dX11_signTogether_106 (by decide) ?_
          refine zf_lv (LV' := [(0, .ref (g.2.1 10)), (1, .int v1), (2, .int v2), (3, .int v3), (4, .long v4), (6, .int v6), (7, .int v7), (8, .int r26), (9, .int (v9 + 1))]) [4, 5, 6, 7, 8, 9, 10, 1, 0] rfl ?_
          exact ih r26 (v9 + 1) k27
        · refine zf_bipush hC (v := (-2)) dX11_signTogether_88 rfl ?_
          refine zf_iload hC dX11_signTogether_90 10 rfl ?_
          refine zf_isub hC dX11_signTogether_92 ?_
          exact zf_iret hC rfl dX11_signTogether_93
      · refine zf_iinc hC (q := 8) (v := v9 + 1) (LV' := [(9, .int (v9 + 1)), (0, .ref (g.2.1 10)), (1, .int v1), (2, .int v2), (3, .int v3), (4, .long v4), (6, .int v6), (7, .int v7), (8, .int v8)]) dX11_signTogether_103 rfl rfl (by decide) rfl ?_
        refine zf_goto hC (tgt := 34) dX11_signTogether_106 (by decide) ?_
        refine zf_lv (LV' := [(0, .ref (g.2.1 10)), (1, .int v1), (2, .int v2), (3, .int v3), (4, .long v4), (6, .int v6), (7, .int v7), (8, .int v8), (9, .int (v9 + 1))]) [1, 2, 3, 4, 5, 6, 7, 8, 0] rfl ?_
        exact ih v8 (v9 + 1) k10
def fX11_signTogether (k : ST) (a0 : Int32) (a1 : Int32) (a2 : Int32) (a3 : Int64) : Option (Int32 × ST) := ob (fX7_drawStarts k a1 a3) fun r1 k2 => ck (inb a2 40) (ob (fX0_challenge k2 r1 (gA k2 44 (ix a2))) fun r5 k6 => lpX11_signTogether_34 a0 a1 a2 a3 r1 r5 FU 0 0 k6 fun y29 y30 k31 => ck (inb a0 40) (ob (fX7_add k31 r1 y29 (gA k31 13 (ix a0)) a2 (gI k31 10 0)) fun r33 k34 => some (r33, k34)))
set_option maxRecDepth 20000 in
theorem c_X11_signTogether (l : Launch) (g : GT) (a0 : Int32) (a1 : Int32) (a2 : Int32) (a3 : Int64) : CN l yX11_signTogether cX11_signTogether 12 (some .int) { frames := 4, cells := 0, slots := 0, locals := 92 } g TK voI [.ref (g.2.1 10), .int a0, .int a1, .int a2, .long a3] (fun k => fX11_signTogether k a0 a1 a2 a3) := by
  refine cn_of (by decide) (Nat.le_of_ble_eq_true rfl) ?_
  intro p e s m args below meth c hC k
  have hC : HC p s m args meth c cX11_signTogether 12 RX11 (some .int) g := hC
  have hR : 4 ≤ ({ frames := 4, cells := 0, slots := 0, locals := 92 } : Room).frames ∧ 92 ≤ ({ frames := 4, cells := 0, slots := 0, locals := 92 } : Room).locals := ⟨Nat.le_refl _, Nat.le_refl _⟩
  show ZF p l e _ s m args below meth c g TK voI 12 k 0 [(0, .ref (g.2.1 10)), (1, .int a0), (2, .int a1), (3, .int a2), (4, .long a3)] [] (fX11_signTogether k a0 a1 a2 a3)
  unfold fX11_signTogether
  refine zf_aload_n hC dX11_signTogether_0 rfl 0 rfl ?_
  refine gf_414 hC dX11_signTogether_1 ?_
  refine zf_iload_n hC dX11_signTogether_4 rfl 2 rfl ?_
  refine zf_lload hC dX11_signTogether_5 4 rfl ?_
  refine zf_callV hC (c_X7_drawStarts l g a1 a3) mt_X7_drawStarts wd_971 wd_972 ci_6 ic_6 wd_970 rfl (rm_le hR rfl) rfl rfl (rest := []) rfl (Nat.le_of_ble_eq_true rfl) dX11_signTogether_7 (fun r1 k2 h3 => ?_)
  refine zf_istore hC (LV' := [(6, .int r1), (0, .ref (g.2.1 10)), (1, .int a0), (2, .int a1), (3, .int a2), (4, .long a3)]) dX11_signTogether_10 (by decide) rfl ?_
  refine zf_iload hC dX11_signTogether_12 0 rfl ?_
  refine zf_aload_n hC dX11_signTogether_14 rfl 1 rfl ?_
  refine gf_413 hC dX11_signTogether_15 ?_
  refine gf_269 hC dX11_signTogether_18 ?_
  refine zf_iload_n hC dX11_signTogether_21 rfl 4 rfl ?_
  refine zf_iald hC (j := 44) ia_44 rfl rfl dX11_signTogether_22 (fun h4 => ?_)
  refine zf_callS hC (c_X0_challenge l g TK r1 (gA k2 44 (ix a2))) mt_X0_challenge wd_947 wd_946 rfl (rm_le hR rfl) rfl rfl (rest := []) rfl (Nat.le_of_ble_eq_true rfl) dX11_signTogether_23 (fun r5 k6 h7 => ?_)
  refine zf_istore hC (LV' := [(7, .int r5), (6, .int r1), (0, .ref (g.2.1 10)), (1, .int a0), (2, .int a1), (3, .int a2), (4, .long a3)]) dX11_signTogether_26 (by decide) rfl ?_
  refine zf_iconst hC (v := 0) dX11_signTogether_28 rfl ?_
  refine zf_istore hC (LV' := [(8, .int 0), (7, .int r5), (6, .int r1), (0, .ref (g.2.1 10)), (1, .int a0), (2, .int a1), (3, .int a2), (4, .long a3)]) dX11_signTogether_29 (by decide) rfl ?_
  refine zf_iconst hC (v := 0) dX11_signTogether_31 rfl ?_
  refine zf_istore hC (LV' := [(9, .int 0), (8, .int 0), (7, .int r5), (6, .int r1), (0, .ref (g.2.1 10)), (1, .int a0), (2, .int a1), (3, .int a2), (4, .long a3)]) dX11_signTogether_32 (by decide) rfl ?_
  refine zf_lv (LV' := [(0, .ref (g.2.1 10)), (1, .int a0), (2, .int a1), (3, .int a2), (4, .long a3), (6, .int r1), (7, .int r5), (8, .int 0), (9, .int 0)]) [4, 5, 6, 7, 8, 3, 2, 1, 0] rfl ?_
  refine zlpX11_signTogether_34 hC hR a0 a1 a2 a3 r1 r5 (fun y29 y30 k31 => ?_) FU 0 0 k6
  refine zf_aload_n hC dX11_signTogether_109 rfl 0 rfl ?_
  refine gf_414 hC dX11_signTogether_110 ?_
  refine zf_iload hC dX11_signTogether_113 5 rfl ?_
  refine zf_iload hC dX11_signTogether_115 7 rfl ?_
  refine zf_aload_n hC dX11_signTogether_117 rfl 0 rfl ?_
  refine gf_410 hC dX11_signTogether_118 ?_
  refine gf_145 hC dX11_signTogether_121 ?_
  refine zf_iload_n hC dX11_signTogether_124 rfl 1 rfl ?_
  refine zf_iald hC (j := 13) ia_13 rfl rfl dX11_signTogether_125 (fun h32 => ?_)
  refine zf_iload_n hC dX11_signTogether_126 rfl 3 rfl ?_
  refine zf_aload_n hC dX11_signTogether_127 rfl 0 rfl ?_
  refine gf_400 hC dX11_signTogether_128 ?_
  refine zf_callV hC (c_X7_add l g r1 y29 (gA k31 13 (ix a0)) a2 (gI k31 10 0)) mt_X7_add wd_950 wd_951 ci_6 ic_6 wd_949 rfl (rm_le hR rfl) rfl rfl (rest := []) rfl (Nat.le_of_ble_eq_true rfl) dX11_signTogether_131 (fun r33 k34 h35 => ?_)
  exact zf_iret hC rfl dX11_signTogether_134
/-! LifeKeys.several -/
theorem dX11_several_0 : decode cX11_several 0 = .ok (.aload_n 0, 1) := by decide +kernel
theorem dX11_several_1 : decode cX11_several 1 = .ok (.getfield 40, 3) := by decide +kernel
theorem dX11_several_4 : decode cX11_several 4 = .ok (.iload_n 1, 1) := by decide +kernel
theorem dX11_several_5 : decode cX11_several 5 = .ok (.aload_n 0, 1) := by decide +kernel
theorem dX11_several_6 : decode cX11_several 6 = .ok (.getfield 86, 3) := by decide +kernel
theorem dX11_several_9 : decode cX11_several 9 = .ok (.invokevirtual 188, 3) := by decide +kernel
theorem dX11_several_12 : decode cX11_several 12 = .ok (.ifCond .eq 22, 3) := by decide +kernel
theorem dX11_several_15 : decode cX11_several 15 = .ok (.aload_n 0, 1) := by decide +kernel
theorem dX11_several_16 : decode cX11_several 16 = .ok (.getfield 61, 3) := by decide +kernel
theorem dX11_several_19 : decode cX11_several 19 = .ok (.iload_n 3, 1) := by decide +kernel
theorem dX11_several_20 : decode cX11_several 20 = .ok (.invokevirtual 271, 3) := by decide +kernel
theorem dX11_several_23 : decode cX11_several 23 = .ok (.ifCond .eq 11, 3) := by decide +kernel
theorem dX11_several_26 : decode cX11_several 26 = .ok (.aload_n 0, 1) := by decide +kernel
theorem dX11_several_27 : decode cX11_several 27 = .ok (.iload_n 2, 1) := by decide +kernel
theorem dX11_several_28 : decode cX11_several 28 = .ok (.invokevirtual 175, 3) := by decide +kernel
theorem dX11_several_31 : decode cX11_several 31 = .ok (.ifCond .ne 5, 3) := by decide +kernel
theorem dX11_several_34 : decode cX11_several 34 = .ok (.iconst (-1), 1) := by decide +kernel
theorem dX11_several_35 : decode cX11_several 35 = .ok (.ireturn, 1) := by decide +kernel
theorem dX11_several_36 : decode cX11_several 36 = .ok (.iload_n 2, 1) := by decide +kernel
theorem dX11_several_37 : decode cX11_several 37 = .ok (.aload_n 0, 1) := by decide +kernel
theorem dX11_several_38 : decode cX11_several 38 = .ok (.getfield 40, 3) := by decide +kernel
theorem dX11_several_41 : decode cX11_several 41 = .ok (.getfield 194, 3) := by decide +kernel
theorem dX11_several_44 : decode cX11_several 44 = .ok (.iload_n 1, 1) := by decide +kernel
theorem dX11_several_45 : decode cX11_several 45 = .ok (.iaload, 1) := by decide +kernel
theorem dX11_several_46 : decode cX11_several 46 = .ok (.iconst (-1), 1) := by decide +kernel
theorem dX11_several_47 : decode cX11_several 47 = .ok (.ixor, 1) := by decide +kernel
theorem dX11_several_48 : decode cX11_several 48 = .ok (.iand, 1) := by decide +kernel
theorem dX11_several_49 : decode cX11_several 49 = .ok (.ifCond .eq 7, 3) := by decide +kernel
theorem dX11_several_52 : decode cX11_several 52 = .ok (.iconst 1, 1) := by decide +kernel
theorem dX11_several_53 : decode cX11_several 53 = .ok (.goto 4, 3) := by decide +kernel
theorem dX11_several_56 : decode cX11_several 56 = .ok (.iconst 0, 1) := by decide +kernel
theorem dX11_several_57 : decode cX11_several 57 = .ok (.istore 6, 2) := by decide +kernel
theorem dX11_several_59 : decode cX11_several 59 = .ok (.iload 6, 2) := by decide +kernel
theorem dX11_several_61 : decode cX11_several 61 = .ok (.ifCond .ne 19, 3) := by decide +kernel
theorem dX11_several_64 : decode cX11_several 64 = .ok (.iload_n 2, 1) := by decide +kernel
theorem dX11_several_65 : decode cX11_several 65 = .ok (.invokestatic 178, 3) := by decide +kernel
theorem dX11_several_68 : decode cX11_several 68 = .ok (.aload_n 0, 1) := by decide +kernel
theorem dX11_several_69 : decode cX11_several 69 = .ok (.getfield 40, 3) := by decide +kernel
theorem dX11_several_72 : decode cX11_several 72 = .ok (.getfield 197, 3) := by decide +kernel
theorem dX11_several_75 : decode cX11_several 75 = .ok (.iload_n 1, 1) := by decide +kernel
theorem dX11_several_76 : decode cX11_several 76 = .ok (.iaload, 1) := by decide +kernel
theorem dX11_several_77 : decode cX11_several 77 = .ok (.if_icmp .ge 5, 3) := by decide +kernel
theorem dX11_several_80 : decode cX11_several 80 = .ok (.iconst (-1), 1) := by decide +kernel
theorem dX11_several_81 : decode cX11_several 81 = .ok (.ireturn, 1) := by decide +kernel
theorem dX11_several_82 : decode cX11_several 82 = .ok (.aload_n 0, 1) := by decide +kernel
theorem dX11_several_83 : decode cX11_several 83 = .ok (.getfield 26, 3) := by decide +kernel
theorem dX11_several_86 : decode cX11_several 86 = .ok (.aload_n 0, 1) := by decide +kernel
theorem dX11_several_87 : decode cX11_several 87 = .ok (.getfield 40, 3) := by decide +kernel
theorem dX11_several_90 : decode cX11_several 90 = .ok (.getfield 191, 3) := by decide +kernel
theorem dX11_several_93 : decode cX11_several 93 = .ok (.iload_n 1, 1) := by decide +kernel
theorem dX11_several_94 : decode cX11_several 94 = .ok (.iaload, 1) := by decide +kernel
theorem dX11_several_95 : decode cX11_several 95 = .ok (.aload_n 0, 1) := by decide +kernel
theorem dX11_several_96 : decode cX11_several 96 = .ok (.getfield 86, 3) := by decide +kernel
theorem dX11_several_99 : decode cX11_several 99 = .ok (.invokevirtual 297, 3) := by decide +kernel
theorem dX11_several_102 : decode cX11_several 102 = .ok (.ifCond .eq 13, 3) := by decide +kernel
theorem dX11_several_105 : decode cX11_several 105 = .ok (.aload_n 0, 1) := by decide +kernel
theorem dX11_several_106 : decode cX11_several 106 = .ok (.getfield 68, 3) := by decide +kernel
theorem dX11_several_109 : decode cX11_several 109 = .ok (.invokevirtual 309, 3) := by decide +kernel
theorem dX11_several_112 : decode cX11_several 112 = .ok (.ifCond .eq 5, 3) := by decide +kernel
theorem dX11_several_115 : decode cX11_several 115 = .ok (.iconst (-1), 1) := by decide +kernel
theorem dX11_several_116 : decode cX11_several 116 = .ok (.ireturn, 1) := by decide +kernel
theorem dX11_several_117 : decode cX11_several 117 = .ok (.aload_n 0, 1) := by decide +kernel
theorem dX11_several_118 : decode cX11_several 118 = .ok (.iload_n 1, 1) := by decide +kernel
theorem dX11_several_119 : decode cX11_several 119 = .ok (.iload_n 2, 1) := by decide +kernel
theorem dX11_several_120 : decode cX11_several 120 = .ok (.iload_n 3, 1) := by decide +kernel
theorem dX11_several_121 : decode cX11_several 121 = .ok (.lload 4, 2) := by decide +kernel
theorem dX11_several_123 : decode cX11_several 123 = .ok (.invokevirtual 312, 3) := by decide +kernel
theorem dX11_several_126 : decode cX11_several 126 = .ok (.ireturn, 1) := by decide +kernel
def jbX11_several_57 (v1 : Int32) (v2 : Int32) (v3 : Int32) (v4 : Int64) (s0 : Int32) (k : ST) : Option (Int32 × ST) := if s0 = 0 then ob (fJ6_bitCount_0f7a4 k v2) fun r16 k17 => ck (inb v1 40) (if (gA k17 15 (ix v1)) ≤ r16 then ck (inb v1 40) (ob (fX1_maySign k17 (gA k17 13 (ix v1)) (gI k17 10 0)) fun r22 k23 => if r22 = true then ob (fX7_isFull k23) fun r26 k27 => if r26 = true then some ((-1), k27) else ob (fX11_signTogether k27 v1 v2 v3 v4) fun r30 k31 => some (r30, k31) else some ((-1), k23)) else some ((-1), k17)) else some ((-1), k)
set_option maxRecDepth 20000 in
theorem zjbX11_several_57 {p : Program} {l : Launch} {e : Env} {R : Room} {s : State} {m : MethodId} {args : Array Value} {below : List Frame} {meth : Method} {c : Code} {g : GT} (hC : HC p s m args meth c cX11_several 7 RX11 (some .int) g) (hR : 5 ≤ R.frames ∧ 123 ≤ R.locals)  (v1 : Int32) (v2 : Int32) (v3 : Int32) (v4 : Int64) (s0 : Int32) (k : ST) : ZF p l e R s m args below meth c g TK voI 7 k 57 [(0, .ref (g.2.1 10)), (1, .int v1), (2, .int v2), (3, .int v3), (4, .long v4)] [.int s0] (jbX11_several_57  v1 v2 v3 v4 s0 k) := by
  unfold jbX11_several_57
  refine zf_istore hC (LV' := [(6, .int s0), (0, .ref (g.2.1 10)), (1, .int v1), (2, .int v2), (3, .int v3), (4, .long v4)]) dX11_several_57 (by decide) rfl ?_
  refine zf_iload hC dX11_several_59 0 rfl ?_
  refine zf_if_ne hC (tgt := 80) dX11_several_61 (by decide) (fun h15 => ?_) (fun h15 => ?_)
  · refine zf_iload_n hC dX11_several_64 rfl 3 rfl ?_
    refine zf_callS hC (c_J6_bitCount_0f7a4 l g TK v2) mt_J6_bitCount_0f7a4 wd_577 wd_576 rfl (rm_le hR rfl) rfl rfl (rest := []) rfl (Nat.le_of_ble_eq_true rfl) dX11_several_65 (fun r16 k17 h18 => ?_)
    refine zf_aload_n hC dX11_several_68 rfl 1 rfl ?_
    refine gf_410 hC dX11_several_69 ?_
    refine gf_151 hC dX11_several_72 ?_
    refine zf_iload_n hC dX11_several_75 rfl 2 rfl ?_
    refine zf_iald hC (j := 15) ia_15 rfl rfl dX11_several_76 (fun h19 => ?_)
    refine zf_icmp_ge hC (tgt := 82) dX11_several_77 (by decide) (fun h20 => ?_) (fun h20 => ?_)
    · refine zf_aload_n hC dX11_several_82 rfl 1 rfl ?_
      refine gf_408 hC dX11_several_83 ?_
      refine zf_aload_n hC dX11_several_86 rfl 1 rfl ?_
      refine gf_410 hC dX11_several_87 ?_
      refine gf_145 hC dX11_several_90 ?_
      refine zf_iload_n hC dX11_several_93 rfl 2 rfl ?_
      refine zf_iald hC (j := 13) ia_13 rfl rfl dX11_several_94 (fun h21 => ?_)
      refine zf_aload_n hC dX11_several_95 rfl 1 rfl ?_
      refine gf_400 hC dX11_several_96 ?_
      refine zf_callV hC (c_X1_maySign l g (gA k17 13 (ix v1)) (gI k17 10 0)) mt_X1_maySign wd_929 wd_930 ci_0 ic_0 wd_928 rfl (rm_le hR rfl) rfl rfl (rest := []) rfl (Nat.le_of_ble_eq_true rfl) dX11_several_99 (fun r22 k23 h24 => ?_)
      refine zf_ifb_eq hC (tgt := 115) dX11_several_102 (by decide) (fun h25 => ?_) (fun h25 => ?_)
      · refine zf_aload_n hC dX11_several_105 rfl 1 rfl ?_
        refine gf_414 hC dX11_several_106 ?_
        refine zf_callV hC (c_X7_isFull l g) mt_X7_isFull wd_954 wd_955 ci_6 ic_6 wd_965 rfl (rm_le hR rfl) rfl rfl (rest := []) rfl (Nat.le_of_ble_eq_true rfl) dX11_several_109 (fun r26 k27 h28 => ?_)
        refine zf_ifb_eq hC (tgt := 117) dX11_several_112 (by decide) (fun h29 => ?_) (fun h29 => ?_)
        · refine zf_iconst hC (v := (-1)) dX11_several_115 rfl ?_
          exact zf_iret hC rfl dX11_several_116
        · refine zf_aload_n hC dX11_several_117 rfl 1 rfl ?_
          refine zf_iload_n hC dX11_several_118 rfl 2 rfl ?_
          refine zf_iload_n hC dX11_several_119 rfl 3 rfl ?_
          refine zf_iload_n hC dX11_several_120 rfl 4 rfl ?_
          refine zf_lload hC dX11_several_121 5 rfl ?_
          refine zf_callV hC (c_X11_signTogether l g v1 v2 v3 v4) mt_X11_signTogether wd_968 sp_31 ci_10 ic_10 wd_966 rfl (rm_le hR rfl) rfl rfl (rest := []) rfl (Nat.le_of_ble_eq_true rfl) dX11_several_123 (fun r30 k31 h32 => ?_)
          exact zf_iret hC rfl dX11_several_126
      · refine zf_iconst hC (v := (-1)) dX11_several_115 rfl ?_
        exact zf_iret hC rfl dX11_several_116
    · refine zf_iconst hC (v := (-1)) dX11_several_80 rfl ?_
      exact zf_iret hC rfl dX11_several_81
  · refine zf_iconst hC (v := (-1)) dX11_several_80 rfl ?_
    exact zf_iret hC rfl dX11_several_81
def fX11_several (k : ST) (a0 : Int32) (a1 : Int32) (a2 : Int32) (a3 : Int64) : Option (Int32 × ST) := ob (fX3_inForce k a0 (gI k 10 0)) fun r1 k2 => if r1 = true then ob (fX9_knows k2 a2) fun r5 k6 => if r5 = true then ob (fX11_isSet k6 a1) fun r9 k10 => if r9 = true then ck (inb a0 40) (if (a1 &&& ((gA k10 14 (ix a0)) ^^^ (-1))) = 0 then jbX11_several_57 a0 a1 a2 a3 0 k10 else jbX11_several_57 a0 a1 a2 a3 1 k10) else some ((-1), k10) else some ((-1), k6) else some ((-1), k2)
set_option maxRecDepth 20000 in
theorem c_X11_several (l : Launch) (g : GT) (a0 : Int32) (a1 : Int32) (a2 : Int32) (a3 : Int64) : CN l yX11_several cX11_several 7 (some .int) { frames := 5, cells := 0, slots := 0, locals := 123 } g TK voI [.ref (g.2.1 10), .int a0, .int a1, .int a2, .long a3] (fun k => fX11_several k a0 a1 a2 a3) := by
  refine cn_of (by decide) (Nat.le_of_ble_eq_true rfl) ?_
  intro p e s m args below meth c hC k
  have hC : HC p s m args meth c cX11_several 7 RX11 (some .int) g := hC
  have hR : 5 ≤ ({ frames := 5, cells := 0, slots := 0, locals := 123 } : Room).frames ∧ 123 ≤ ({ frames := 5, cells := 0, slots := 0, locals := 123 } : Room).locals := ⟨Nat.le_refl _, Nat.le_refl _⟩
  show ZF p l e _ s m args below meth c g TK voI 7 k 0 [(0, .ref (g.2.1 10)), (1, .int a0), (2, .int a1), (3, .int a2), (4, .long a3)] [] (fX11_several k a0 a1 a2 a3)
  unfold fX11_several
  refine zf_aload_n hC dX11_several_0 rfl 0 rfl ?_
  refine gf_410 hC dX11_several_1 ?_
  refine zf_iload_n hC dX11_several_4 rfl 1 rfl ?_
  refine zf_aload_n hC dX11_several_5 rfl 0 rfl ?_
  refine gf_400 hC dX11_several_6 ?_
  refine zf_callV hC (c_X3_inForce l g a0 (gI k 10 0)) mt_X3_inForce wd_518 wd_519 ci_2 ic_2 wd_603 rfl (rm_le hR rfl) rfl rfl (rest := []) rfl (Nat.le_of_ble_eq_true rfl) dX11_several_9 (fun r1 k2 h3 => ?_)
  refine zf_ifb_eq hC (tgt := 34) dX11_several_12 (by decide) (fun h4 => ?_) (fun h4 => ?_)
  · refine zf_aload_n hC dX11_several_15 rfl 0 rfl ?_
    refine gf_413 hC dX11_several_16 ?_
    refine zf_iload_n hC dX11_several_19 rfl 3 rfl ?_
    refine zf_callV hC (c_X9_knows l g a2) mt_X9_knows wd_843 wd_844 ci_8 ic_8 wd_842 rfl (rm_le hR rfl) rfl rfl (rest := []) rfl (Nat.le_of_ble_eq_true rfl) dX11_several_20 (fun r5 k6 h7 => ?_)
    refine zf_ifb_eq hC (tgt := 34) dX11_several_23 (by decide) (fun h8 => ?_) (fun h8 => ?_)
    · refine zf_aload_n hC dX11_several_26 rfl 0 rfl ?_
      refine zf_iload_n hC dX11_several_27 rfl 2 rfl ?_
      refine zf_callV hC (c_X11_isSet l g a1) mt_X11_isSet wd_570 sp_1 ci_10 ic_10 wd_568 rfl (rm_le hR rfl) rfl rfl (rest := []) rfl (Nat.le_of_ble_eq_true rfl) dX11_several_28 (fun r9 k10 h11 => ?_)
      refine zf_ifb_ne hC (tgt := 36) dX11_several_31 (by decide) (fun h12 => ?_) (fun h12 => ?_)
      · refine zf_iload_n hC dX11_several_36 rfl 2 rfl ?_
        refine zf_aload_n hC dX11_several_37 rfl 0 rfl ?_
        refine gf_410 hC dX11_several_38 ?_
        refine gf_148 hC dX11_several_41 ?_
        refine zf_iload_n hC dX11_several_44 rfl 1 rfl ?_
        refine zf_iald hC (j := 14) ia_14 rfl rfl dX11_several_45 (fun h13 => ?_)
        refine zf_iconst hC (v := (-1)) dX11_several_46 rfl ?_
        refine zf_ixor hC dX11_several_47 ?_
        refine zf_iand hC dX11_several_48 ?_
        refine zf_if_eq hC (tgt := 56) dX11_several_49 (by decide) (fun h14 => ?_) (fun h14 => ?_)
        · refine zf_iconst hC (v := 0) dX11_several_56 rfl ?_
          exact zjbX11_several_57 hC hR a0 a1 a2 a3 0 k10
        · refine zf_iconst hC (v := 1) dX11_several_52 rfl ?_
          refine zf_goto hC (tgt := 57) dX11_several_53 (by decide) ?_
          exact zjbX11_several_57 hC hR a0 a1 a2 a3 1 k10
      · refine zf_iconst hC (v := (-1)) dX11_several_34 rfl ?_
        exact zf_iret hC rfl dX11_several_35
    · refine zf_iconst hC (v := (-1)) dX11_several_34 rfl ?_
      exact zf_iret hC rfl dX11_several_35
  · refine zf_iconst hC (v := (-1)) dX11_several_34 rfl ?_
    exact zf_iret hC rfl dX11_several_35
/-! LifeKeys.signed -/
theorem dX11_signed_0 : decode cX11_signed 0 = .ok (.aload_n 0, 1) := by decide +kernel
theorem dX11_signed_1 : decode cX11_signed 1 = .ok (.getfield 68, 3) := by decide +kernel
theorem dX11_signed_4 : decode cX11_signed 4 = .ok (.iload_n 1, 1) := by decide +kernel
theorem dX11_signed_5 : decode cX11_signed 5 = .ok (.invokevirtual 316, 3) := by decide +kernel
theorem dX11_signed_8 : decode cX11_signed 8 = .ok (.ifCond .ne 5, 3) := by decide +kernel
theorem dX11_signed_11 : decode cX11_signed 11 = .ok (.iconst (-1), 1) := by decide +kernel
theorem dX11_signed_12 : decode cX11_signed 12 = .ok (.ireturn, 1) := by decide +kernel
theorem dX11_signed_13 : decode cX11_signed 13 = .ok (.iload_n 2, 1) := by decide +kernel
theorem dX11_signed_14 : decode cX11_signed 14 = .ok (.tableswitch 84 0 4 #[34, 44, 54, 64, 74], 34) := by decide +kernel
theorem dX11_signed_48 : decode cX11_signed 48 = .ok (.aload_n 0, 1) := by decide +kernel
theorem dX11_signed_49 : decode cX11_signed 49 = .ok (.getfield 68, 3) := by decide +kernel
theorem dX11_signed_52 : decode cX11_signed 52 = .ok (.getfield 317, 3) := by decide +kernel
theorem dX11_signed_55 : decode cX11_signed 55 = .ok (.iload_n 1, 1) := by decide +kernel
theorem dX11_signed_56 : decode cX11_signed 56 = .ok (.iaload, 1) := by decide +kernel
theorem dX11_signed_57 : decode cX11_signed 57 = .ok (.ireturn, 1) := by decide +kernel
theorem dX11_signed_58 : decode cX11_signed 58 = .ok (.aload_n 0, 1) := by decide +kernel
theorem dX11_signed_59 : decode cX11_signed 59 = .ok (.getfield 68, 3) := by decide +kernel
theorem dX11_signed_62 : decode cX11_signed 62 = .ok (.getfield 320, 3) := by decide +kernel
theorem dX11_signed_65 : decode cX11_signed 65 = .ok (.iload_n 1, 1) := by decide +kernel
theorem dX11_signed_66 : decode cX11_signed 66 = .ok (.iaload, 1) := by decide +kernel
theorem dX11_signed_67 : decode cX11_signed 67 = .ok (.ireturn, 1) := by decide +kernel
theorem dX11_signed_68 : decode cX11_signed 68 = .ok (.aload_n 0, 1) := by decide +kernel
theorem dX11_signed_69 : decode cX11_signed 69 = .ok (.getfield 68, 3) := by decide +kernel
theorem dX11_signed_72 : decode cX11_signed 72 = .ok (.getfield 323, 3) := by decide +kernel
theorem dX11_signed_75 : decode cX11_signed 75 = .ok (.iload_n 1, 1) := by decide +kernel
theorem dX11_signed_76 : decode cX11_signed 76 = .ok (.iaload, 1) := by decide +kernel
theorem dX11_signed_77 : decode cX11_signed 77 = .ok (.ireturn, 1) := by decide +kernel
theorem dX11_signed_78 : decode cX11_signed 78 = .ok (.aload_n 0, 1) := by decide +kernel
theorem dX11_signed_79 : decode cX11_signed 79 = .ok (.getfield 68, 3) := by decide +kernel
theorem dX11_signed_82 : decode cX11_signed 82 = .ok (.getfield 324, 3) := by decide +kernel
theorem dX11_signed_85 : decode cX11_signed 85 = .ok (.iload_n 1, 1) := by decide +kernel
theorem dX11_signed_86 : decode cX11_signed 86 = .ok (.iaload, 1) := by decide +kernel
theorem dX11_signed_87 : decode cX11_signed 87 = .ok (.ireturn, 1) := by decide +kernel
theorem dX11_signed_88 : decode cX11_signed 88 = .ok (.aload_n 0, 1) := by decide +kernel
theorem dX11_signed_89 : decode cX11_signed 89 = .ok (.getfield 68, 3) := by decide +kernel
theorem dX11_signed_92 : decode cX11_signed 92 = .ok (.getfield 327, 3) := by decide +kernel
theorem dX11_signed_95 : decode cX11_signed 95 = .ok (.iload_n 1, 1) := by decide +kernel
theorem dX11_signed_96 : decode cX11_signed 96 = .ok (.iaload, 1) := by decide +kernel
theorem dX11_signed_97 : decode cX11_signed 97 = .ok (.ireturn, 1) := by decide +kernel
theorem dX11_signed_98 : decode cX11_signed 98 = .ok (.iconst (-1), 1) := by decide +kernel
theorem dX11_signed_99 : decode cX11_signed 99 = .ok (.ireturn, 1) := by decide +kernel
def fX11_signed (k : ST) (a0 : Int32) (a1 : Int32) : Option (Int32 × ST) := ob (fX7_knows k a0) fun r1 k2 => if r1 = true then if a1 = 0 then ck (inb a0 80) (some (gA k2 37 (ix a0), k2)) else if a1 = 1 then ck (inb a0 80) (some (gA k2 38 (ix a0), k2)) else if a1 = 2 then ck (inb a0 80) (some (gA k2 39 (ix a0), k2)) else if a1 = 3 then ck (inb a0 80) (some (gA k2 40 (ix a0), k2)) else if a1 = 4 then ck (inb a0 80) (some (gA k2 41 (ix a0), k2)) else some ((-1), k2) else some ((-1), k2)
set_option maxRecDepth 20000 in
theorem c_X11_signed (l : Launch) (g : GT) (a0 : Int32) (a1 : Int32) : CN l yX11_signed cX11_signed 3 (some .int) { frames := 1, cells := 0, slots := 0, locals := 21 } g TK voI [.ref (g.2.1 10), .int a0, .int a1] (fun k => fX11_signed k a0 a1) := by
  refine cn_of (by decide) (Nat.le_of_ble_eq_true rfl) ?_
  intro p e s m args below meth c hC k
  have hC : HC p s m args meth c cX11_signed 3 RX11 (some .int) g := hC
  have hR : 1 ≤ ({ frames := 1, cells := 0, slots := 0, locals := 21 } : Room).frames ∧ 21 ≤ ({ frames := 1, cells := 0, slots := 0, locals := 21 } : Room).locals := ⟨Nat.le_refl _, Nat.le_refl _⟩
  show ZF p l e _ s m args below meth c g TK voI 3 k 0 [(0, .ref (g.2.1 10)), (1, .int a0), (2, .int a1)] [] (fX11_signed k a0 a1)
  unfold fX11_signed
  refine zf_aload_n hC dX11_signed_0 rfl 0 rfl ?_
  refine gf_414 hC dX11_signed_1 ?_
  refine zf_iload_n hC dX11_signed_4 rfl 1 rfl ?_
  refine zf_callV hC (c_X7_knows l g a0) mt_X7_knows wd_997 wd_998 ci_6 ic_6 wd_996 rfl (rm_le hR rfl) rfl rfl (rest := []) rfl (Nat.le_of_ble_eq_true rfl) dX11_signed_5 (fun r1 k2 h3 => ?_)
  refine zf_ifb_ne hC (tgt := 13) dX11_signed_8 (by decide) (fun h4 => ?_) (fun h4 => ?_)
  · refine zf_iload_n hC dX11_signed_13 rfl 2 rfl ?_
    refine zf_ite (fun h5 => ?_) (fun h5 => ?_)
    · refine zf_tabIn hC (tgt := 48) (off := 34) dX11_signed_14 (by rw [h5]; decide) (by rw [h5]; decide) (by rw [h5]; rfl) (by decide) ?_
      refine zf_aload_n hC dX11_signed_48 rfl 0 rfl ?_
      refine gf_414 hC dX11_signed_49 ?_
      refine gf_299 hC dX11_signed_52 ?_
      refine zf_iload_n hC dX11_signed_55 rfl 1 rfl ?_
      refine zf_iald hC (j := 37) ia_37 rfl rfl dX11_signed_56 (fun h6 => ?_)
      exact zf_iret hC rfl dX11_signed_57
    refine zf_ite (fun h7 => ?_) (fun h7 => ?_)
    · refine zf_tabIn hC (tgt := 58) (off := 44) dX11_signed_14 (by rw [h7]; decide) (by rw [h7]; decide) (by rw [h7]; rfl) (by decide) ?_
      refine zf_aload_n hC dX11_signed_58 rfl 0 rfl ?_
      refine gf_414 hC dX11_signed_59 ?_
      refine gf_301 hC dX11_signed_62 ?_
      refine zf_iload_n hC dX11_signed_65 rfl 1 rfl ?_
      refine zf_iald hC (j := 38) ia_38 rfl rfl dX11_signed_66 (fun h8 => ?_)
      exact zf_iret hC rfl dX11_signed_67
    refine zf_ite (fun h9 => ?_) (fun h9 => ?_)
    · refine zf_tabIn hC (tgt := 68) (off := 54) dX11_signed_14 (by rw [h9]; decide) (by rw [h9]; decide) (by rw [h9]; rfl) (by decide) ?_
      refine zf_aload_n hC dX11_signed_68 rfl 0 rfl ?_
      refine gf_414 hC dX11_signed_69 ?_
      refine gf_303 hC dX11_signed_72 ?_
      refine zf_iload_n hC dX11_signed_75 rfl 1 rfl ?_
      refine zf_iald hC (j := 39) ia_39 rfl rfl dX11_signed_76 (fun h10 => ?_)
      exact zf_iret hC rfl dX11_signed_77
    refine zf_ite (fun h11 => ?_) (fun h11 => ?_)
    · refine zf_tabIn hC (tgt := 78) (off := 64) dX11_signed_14 (by rw [h11]; decide) (by rw [h11]; decide) (by rw [h11]; rfl) (by decide) ?_
      refine zf_aload_n hC dX11_signed_78 rfl 0 rfl ?_
      refine gf_414 hC dX11_signed_79 ?_
      refine gf_305 hC dX11_signed_82 ?_
      refine zf_iload_n hC dX11_signed_85 rfl 1 rfl ?_
      refine zf_iald hC (j := 40) ia_40 rfl rfl dX11_signed_86 (fun h12 => ?_)
      exact zf_iret hC rfl dX11_signed_87
    refine zf_ite (fun h13 => ?_) (fun h13 => ?_)
    · refine zf_tabIn hC (tgt := 88) (off := 74) dX11_signed_14 (by rw [h13]; decide) (by rw [h13]; decide) (by rw [h13]; rfl) (by decide) ?_
      refine zf_aload_n hC dX11_signed_88 rfl 0 rfl ?_
      refine gf_414 hC dX11_signed_89 ?_
      refine gf_307 hC dX11_signed_92 ?_
      refine zf_iload_n hC dX11_signed_95 rfl 1 rfl ?_
      refine zf_iald hC (j := 41) ia_41 rfl rfl dX11_signed_96 (fun h14 => ?_)
      exact zf_iret hC rfl dX11_signed_97
    refine zf_tabOut hC (tgt := 98) dX11_signed_14 (by have zh5 := lv_neT h5 (a := 0) rfl; have zh7 := lv_neT h7 (a := 1) rfl; have zh9 := lv_neT h9 (a := 2) rfl; have zh11 := lv_neT h11 (a := 3) rfl; have zh13 := lv_neT h13 (a := 4) rfl; omega) (by decide) ?_
    refine zf_iconst hC (v := (-1)) dX11_signed_98 rfl ?_
    exact zf_iret hC rfl dX11_signed_99
  · refine zf_iconst hC (v := (-1)) dX11_signed_11 rfl ?_
    exact zf_iret hC rfl dX11_signed_12
/-! LifeKeys.taken -/
theorem dX11_taken_0 : decode cX11_taken 0 = .ok (.aload_n 0, 1) := by decide +kernel
theorem dX11_taken_1 : decode cX11_taken 1 = .ok (.getfield 61, 3) := by decide +kernel
theorem dX11_taken_4 : decode cX11_taken 4 = .ok (.iload_n 1, 1) := by decide +kernel
theorem dX11_taken_5 : decode cX11_taken 5 = .ok (.invokevirtual 271, 3) := by decide +kernel
theorem dX11_taken_8 : decode cX11_taken 8 = .ok (.ifCond .eq 29, 3) := by decide +kernel
theorem dX11_taken_11 : decode cX11_taken 11 = .ok (.aload_n 0, 1) := by decide +kernel
theorem dX11_taken_12 : decode cX11_taken 12 = .ok (.getfield 26, 3) := by decide +kernel
theorem dX11_taken_15 : decode cX11_taken 15 = .ok (.iload_n 2, 1) := by decide +kernel
theorem dX11_taken_16 : decode cX11_taken 16 = .ok (.invokevirtual 114, 3) := by decide +kernel
theorem dX11_taken_19 : decode cX11_taken 19 = .ok (.ifCond .eq 18, 3) := by decide +kernel
theorem dX11_taken_22 : decode cX11_taken 22 = .ok (.iload_n 3, 1) := by decide +kernel
theorem dX11_taken_23 : decode cX11_taken 23 = .ok (.invokestatic 330, 3) := by decide +kernel
theorem dX11_taken_26 : decode cX11_taken 26 = .ok (.ifCond .eq 11, 3) := by decide +kernel
theorem dX11_taken_29 : decode cX11_taken 29 = .ok (.iload 4, 2) := by decide +kernel
theorem dX11_taken_31 : decode cX11_taken 31 = .ok (.invokestatic 213, 3) := by decide +kernel
theorem dX11_taken_34 : decode cX11_taken 34 = .ok (.ifCond .ne 5, 3) := by decide +kernel
theorem dX11_taken_37 : decode cX11_taken 37 = .ok (.iconst (-1), 1) := by decide +kernel
theorem dX11_taken_38 : decode cX11_taken 38 = .ok (.ireturn, 1) := by decide +kernel
theorem dX11_taken_39 : decode cX11_taken 39 = .ok (.iload_n 3, 1) := by decide +kernel
theorem dX11_taken_40 : decode cX11_taken 40 = .ok (.aload_n 0, 1) := by decide +kernel
theorem dX11_taken_41 : decode cX11_taken 41 = .ok (.getfield 61, 3) := by decide +kernel
theorem dX11_taken_44 : decode cX11_taken 44 = .ok (.getfield 333, 3) := by decide +kernel
theorem dX11_taken_47 : decode cX11_taken 47 = .ok (.iload_n 1, 1) := by decide +kernel
theorem dX11_taken_48 : decode cX11_taken 48 = .ok (.iaload, 1) := by decide +kernel
theorem dX11_taken_49 : decode cX11_taken 49 = .ok (.invokestatic 336, 3) := by decide +kernel
theorem dX11_taken_52 : decode cX11_taken 52 = .ok (.istore 5, 2) := by decide +kernel
theorem dX11_taken_54 : decode cX11_taken 54 = .ok (.iload 4, 2) := by decide +kernel
theorem dX11_taken_56 : decode cX11_taken 56 = .ok (.invokestatic 216, 3) := by decide +kernel
theorem dX11_taken_59 : decode cX11_taken 59 = .ok (.iload_n 3, 1) := by decide +kernel
theorem dX11_taken_60 : decode cX11_taken 60 = .ok (.aload_n 0, 1) := by decide +kernel
theorem dX11_taken_61 : decode cX11_taken 61 = .ok (.getfield 26, 3) := by decide +kernel
theorem dX11_taken_64 : decode cX11_taken 64 = .ok (.iload_n 2, 1) := by decide +kernel
theorem dX11_taken_65 : decode cX11_taken 65 = .ok (.invokevirtual 142, 3) := by decide +kernel
theorem dX11_taken_68 : decode cX11_taken 68 = .ok (.iload 5, 2) := by decide +kernel
theorem dX11_taken_70 : decode cX11_taken 70 = .ok (.invokestatic 339, 3) := by decide +kernel
theorem dX11_taken_73 : decode cX11_taken 73 = .ok (.invokestatic 342, 3) := by decide +kernel
theorem dX11_taken_76 : decode cX11_taken 76 = .ok (.if_icmp .ne 7, 3) := by decide +kernel
theorem dX11_taken_79 : decode cX11_taken 79 = .ok (.iconst 1, 1) := by decide +kernel
theorem dX11_taken_80 : decode cX11_taken 80 = .ok (.goto 4, 3) := by decide +kernel
theorem dX11_taken_83 : decode cX11_taken 83 = .ok (.iconst 0, 1) := by decide +kernel
theorem dX11_taken_84 : decode cX11_taken 84 = .ok (.ireturn, 1) := by decide +kernel
def fX11_taken (k : ST) (a0 : Int32) (a1 : Int32) (a2 : Int32) (a3 : Int32) : Option (Int32 × ST) := ob (fX9_knows k a0) fun r1 k2 => if r1 = true then ob (fX1_knows k2 a1) fun r5 k6 => if r5 = true then ob (fX0_isPower k6 a2) fun r9 k10 => if r9 = true then ob (fX0_isNumber k10 a3) fun r13 k14 => if r13 = true then ck (inb a0 40) (ob (fX0_challenge k14 a2 (gA k14 44 (ix a0))) fun r18 k19 => ob (fX0_powerOf4 k19 a3) fun r21 k22 => ob (fX1_publicOf k22 a1) fun r24 k25 => ob (fX0_raise k25 r24 r18) fun r27 k28 => ob (fX0_product k28 a2 r27) fun r30 k31 => if r21 = r30 then some (1, k31) else some (0, k31)) else some ((-1), k14) else some ((-1), k10) else some ((-1), k6) else some ((-1), k2)
set_option maxRecDepth 20000 in
theorem c_X11_taken (l : Launch) (g : GT) (a0 : Int32) (a1 : Int32) (a2 : Int32) (a3 : Int32) : CN l yX11_taken cX11_taken 6 (some .int) { frames := 4, cells := 0, slots := 0, locals := 86 } g TK voI [.ref (g.2.1 10), .int a0, .int a1, .int a2, .int a3] (fun k => fX11_taken k a0 a1 a2 a3) := by
  refine cn_of (by decide) (Nat.le_of_ble_eq_true rfl) ?_
  intro p e s m args below meth c hC k
  have hC : HC p s m args meth c cX11_taken 6 RX11 (some .int) g := hC
  have hR : 4 ≤ ({ frames := 4, cells := 0, slots := 0, locals := 86 } : Room).frames ∧ 86 ≤ ({ frames := 4, cells := 0, slots := 0, locals := 86 } : Room).locals := ⟨Nat.le_refl _, Nat.le_refl _⟩
  show ZF p l e _ s m args below meth c g TK voI 6 k 0 [(0, .ref (g.2.1 10)), (1, .int a0), (2, .int a1), (3, .int a2), (4, .int a3)] [] (fX11_taken k a0 a1 a2 a3)
  unfold fX11_taken
  refine zf_aload_n hC dX11_taken_0 rfl 0 rfl ?_
  refine gf_413 hC dX11_taken_1 ?_
  refine zf_iload_n hC dX11_taken_4 rfl 1 rfl ?_
  refine zf_callV hC (c_X9_knows l g a0) mt_X9_knows wd_843 wd_844 ci_8 ic_8 wd_842 rfl (rm_le hR rfl) rfl rfl (rest := []) rfl (Nat.le_of_ble_eq_true rfl) dX11_taken_5 (fun r1 k2 h3 => ?_)
  refine zf_ifb_eq hC (tgt := 37) dX11_taken_8 (by decide) (fun h4 => ?_) (fun h4 => ?_)
  · refine zf_aload_n hC dX11_taken_11 rfl 0 rfl ?_
    refine gf_408 hC dX11_taken_12 ?_
    refine zf_iload_n hC dX11_taken_15 rfl 2 rfl ?_
    refine zf_callV hC (c_X1_knows l g a1) mt_X1_knows wd_491 wd_492 ci_0 ic_0 wd_490 rfl (rm_le hR rfl) rfl rfl (rest := []) rfl (Nat.le_of_ble_eq_true rfl) dX11_taken_16 (fun r5 k6 h7 => ?_)
    refine zf_ifb_eq hC (tgt := 37) dX11_taken_19 (by decide) (fun h8 => ?_) (fun h8 => ?_)
    · refine zf_iload_n hC dX11_taken_22 rfl 3 rfl ?_
      refine zf_callS hC (c_X0_isPower l g TK a2) mt_X0_isPower wd_1005 wd_1004 rfl (rm_le hR rfl) rfl rfl (rest := []) rfl (Nat.le_of_ble_eq_true rfl) dX11_taken_23 (fun r9 k10 h11 => ?_)
      refine zf_ifb_eq hC (tgt := 37) dX11_taken_26 (by decide) (fun h12 => ?_) (fun h12 => ?_)
      · refine zf_iload hC dX11_taken_29 4 rfl ?_
        refine zf_callS hC (c_X0_isNumber l g TK a3) mt_X0_isNumber wd_648 wd_647 rfl (rm_le hR rfl) rfl rfl (rest := []) rfl (Nat.le_of_ble_eq_true rfl) dX11_taken_31 (fun r13 k14 h15 => ?_)
        refine zf_ifb_ne hC (tgt := 39) dX11_taken_34 (by decide) (fun h16 => ?_) (fun h16 => ?_)
        · refine zf_iload_n hC dX11_taken_39 rfl 3 rfl ?_
          refine zf_aload_n hC dX11_taken_40 rfl 0 rfl ?_
          refine gf_413 hC dX11_taken_41 ?_
          refine gf_269 hC dX11_taken_44 ?_
          refine zf_iload_n hC dX11_taken_47 rfl 1 rfl ?_
          refine zf_iald hC (j := 44) ia_44 rfl rfl dX11_taken_48 (fun h17 => ?_)
          refine zf_callS hC (c_X0_challenge l g TK a2 (gA k14 44 (ix a0))) mt_X0_challenge wd_947 wd_946 rfl (rm_le hR rfl) rfl rfl (rest := []) rfl (Nat.le_of_ble_eq_true rfl) dX11_taken_49 (fun r18 k19 h20 => ?_)
          refine zf_istore hC (LV' := [(5, .int r18), (0, .ref (g.2.1 10)), (1, .int a0), (2, .int a1), (3, .int a2), (4, .int a3)]) dX11_taken_52 (by decide) rfl ?_
          refine zf_iload hC dX11_taken_54 5 rfl ?_
          refine zf_callS hC (c_X0_powerOf4 l g TK a3) mt_X0_powerOf4 wd_635 wd_650 rfl (rm_le hR rfl) rfl rfl (rest := []) rfl (Nat.le_of_ble_eq_true rfl) dX11_taken_56 (fun r21 k22 h23 => ?_)
          refine zf_iload_n hC dX11_taken_59 rfl 4 rfl ?_
          refine zf_aload_n hC dX11_taken_60 rfl 1 rfl ?_
          refine gf_408 hC dX11_taken_61 ?_
          refine zf_iload_n hC dX11_taken_64 rfl 3 rfl ?_
          refine zf_callV hC (c_X1_publicOf l g a1) mt_X1_publicOf wd_1008 wd_1009 ci_0 ic_0 wd_1007 rfl (rm_le hR rfl) rfl rfl (rest := [.int a2, .int r21]) rfl (Nat.le_of_ble_eq_true rfl) dX11_taken_65 (fun r24 k25 h26 => ?_)
          refine zf_iload hC dX11_taken_68 0 rfl ?_
          refine zf_callS hC (c_X0_raise l g TK r24 r18) mt_X0_raise wd_638 wd_990 rfl (rm_le hR rfl) rfl rfl (rest := [.int a2, .int r21]) rfl (Nat.le_of_ble_eq_true rfl) dX11_taken_70 (fun r27 k28 h29 => ?_)
          refine zf_callS hC (c_X0_product l g TK a2 r27) mt_X0_product wd_641 wd_991 rfl (rm_le hR rfl) rfl rfl (rest := [.int r21]) rfl (Nat.le_of_ble_eq_true rfl) dX11_taken_73 (fun r30 k31 h32 => ?_)
          refine zf_icmp_ne hC (tgt := 83) dX11_taken_76 (by decide) (fun h33 => ?_) (fun h33 => ?_)
          · refine zf_iconst hC (v := 1) dX11_taken_79 rfl ?_
            refine zf_goto hC (tgt := 84) dX11_taken_80 (by decide) ?_
            exact zf_iret hC rfl dX11_taken_84
          · refine zf_iconst hC (v := 0) dX11_taken_83 rfl ?_
            exact zf_iret hC rfl dX11_taken_84
        · refine zf_iconst hC (v := (-1)) dX11_taken_37 rfl ?_
          exact zf_iret hC rfl dX11_taken_38
      · refine zf_iconst hC (v := (-1)) dX11_taken_37 rfl ?_
        exact zf_iret hC rfl dX11_taken_38
    · refine zf_iconst hC (v := (-1)) dX11_taken_37 rfl ?_
      exact zf_iret hC rfl dX11_taken_38
  · refine zf_iconst hC (v := (-1)) dX11_taken_37 rfl ?_
    exact zf_iret hC rfl dX11_taken_38
/-! LifeKeys.burn -/
theorem dX11_burn_0 : decode cX11_burn 0 = .ok (.aload_n 0, 1) := by decide +kernel
theorem dX11_burn_1 : decode cX11_burn 1 = .ok (.getfield 26, 3) := by decide +kernel
theorem dX11_burn_4 : decode cX11_burn 4 = .ok (.iload_n 1, 1) := by decide +kernel
theorem dX11_burn_5 : decode cX11_burn 5 = .ok (.invokevirtual 114, 3) := by decide +kernel
theorem dX11_burn_8 : decode cX11_burn 8 = .ok (.ifCond .eq 10, 3) := by decide +kernel
theorem dX11_burn_11 : decode cX11_burn 11 = .ok (.iload_n 2, 1) := by decide +kernel
theorem dX11_burn_12 : decode cX11_burn 12 = .ok (.invokestatic 284, 3) := by decide +kernel
theorem dX11_burn_15 : decode cX11_burn 15 = .ok (.ifCond .ne 5, 3) := by decide +kernel
theorem dX11_burn_18 : decode cX11_burn 18 = .ok (.iconst 0, 1) := by decide +kernel
theorem dX11_burn_19 : decode cX11_burn 19 = .ok (.ireturn, 1) := by decide +kernel
theorem dX11_burn_20 : decode cX11_burn 20 = .ok (.aload_n 0, 1) := by decide +kernel
theorem dX11_burn_21 : decode cX11_burn 21 = .ok (.getfield 26, 3) := by decide +kernel
theorem dX11_burn_24 : decode cX11_burn 24 = .ok (.iload_n 1, 1) := by decide +kernel
theorem dX11_burn_25 : decode cX11_burn 25 = .ok (.iload_n 2, 1) := by decide +kernel
theorem dX11_burn_26 : decode cX11_burn 26 = .ok (.aload_n 0, 1) := by decide +kernel
theorem dX11_burn_27 : decode cX11_burn 27 = .ok (.getfield 86, 3) := by decide +kernel
theorem dX11_burn_30 : decode cX11_burn 30 = .ok (.invokevirtual 345, 3) := by decide +kernel
theorem dX11_burn_33 : decode cX11_burn 33 = .ok (.ireturn, 1) := by decide +kernel
def fX11_burn (k : ST) (a0 : Int32) (a1 : Int32) : Option (Bool × ST) := ob (fX1_knows k a0) fun r1 k2 => if r1 = true then ob (fX11_isDay k2 a1) fun r5 k6 => if r5 = true then ob (fX1_addBurn k6 a0 a1 (gI k6 10 0)) fun r9 k10 => some (r9, k10) else some (false, k6) else some (false, k2)
set_option maxRecDepth 20000 in
theorem c_X11_burn (l : Launch) (g : GT) (a0 : Int32) (a1 : Int32) : CN l yX11_burn cX11_burn 3 (some .boolean) { frames := 1, cells := 0, slots := 0, locals := 23 } g TK voB [.ref (g.2.1 10), .int a0, .int a1] (fun k => fX11_burn k a0 a1) := by
  refine cn_of (by decide) (Nat.le_of_ble_eq_true rfl) ?_
  intro p e s m args below meth c hC k
  have hC : HC p s m args meth c cX11_burn 3 RX11 (some .boolean) g := hC
  have hR : 1 ≤ ({ frames := 1, cells := 0, slots := 0, locals := 23 } : Room).frames ∧ 23 ≤ ({ frames := 1, cells := 0, slots := 0, locals := 23 } : Room).locals := ⟨Nat.le_refl _, Nat.le_refl _⟩
  show ZF p l e _ s m args below meth c g TK voB 3 k 0 [(0, .ref (g.2.1 10)), (1, .int a0), (2, .int a1)] [] (fX11_burn k a0 a1)
  unfold fX11_burn
  refine zf_aload_n hC dX11_burn_0 rfl 0 rfl ?_
  refine gf_408 hC dX11_burn_1 ?_
  refine zf_iload_n hC dX11_burn_4 rfl 1 rfl ?_
  refine zf_callV hC (c_X1_knows l g a0) mt_X1_knows wd_491 wd_492 ci_0 ic_0 wd_490 rfl (rm_le hR rfl) rfl rfl (rest := []) rfl (Nat.le_of_ble_eq_true rfl) dX11_burn_5 (fun r1 k2 h3 => ?_)
  refine zf_ifb_eq hC (tgt := 18) dX11_burn_8 (by decide) (fun h4 => ?_) (fun h4 => ?_)
  · refine zf_iload_n hC dX11_burn_11 rfl 2 rfl ?_
    refine zf_callS hC (c_X11_isDay l g TK a1) mt_X11_isDay wd_871 wd_870 rfl (rm_le hR rfl) rfl rfl (rest := []) rfl (Nat.le_of_ble_eq_true rfl) dX11_burn_12 (fun r5 k6 h7 => ?_)
    refine zf_ifb_ne hC (tgt := 20) dX11_burn_15 (by decide) (fun h8 => ?_) (fun h8 => ?_)
    · refine zf_aload_n hC dX11_burn_20 rfl 0 rfl ?_
      refine gf_408 hC dX11_burn_21 ?_
      refine zf_iload_n hC dX11_burn_24 rfl 1 rfl ?_
      refine zf_iload_n hC dX11_burn_25 rfl 2 rfl ?_
      refine zf_aload_n hC dX11_burn_26 rfl 0 rfl ?_
      refine gf_400 hC dX11_burn_27 ?_
      refine zf_callV hC (c_X1_addBurn l g a0 a1 (gI k6 10 0)) mt_X1_addBurn wd_1017 wd_1018 ci_0 ic_0 wd_1016 rfl (rm_le hR rfl) rfl rfl (rest := []) rfl (Nat.le_of_ble_eq_true rfl) dX11_burn_30 (fun r9 k10 h11 => ?_)
      exact zf_zret hC rfl r9 rfl dX11_burn_33
    · refine zf_iconst hC (v := 0) dX11_burn_18 rfl ?_
      exact zf_zret hC rfl false rfl dX11_burn_19
  · refine zf_iconst hC (v := 0) dX11_burn_18 rfl ?_
    exact zf_zret hC rfl false rfl dX11_burn_19
/-! LifeKeys.old -/
theorem dX11_old_0 : decode cX11_old 0 = .ok (.aload_n 0, 1) := by decide +kernel
theorem dX11_old_1 : decode cX11_old 1 = .ok (.getfield 26, 3) := by decide +kernel
theorem dX11_old_4 : decode cX11_old 4 = .ok (.iload_n 1, 1) := by decide +kernel
theorem dX11_old_5 : decode cX11_old 5 = .ok (.invokevirtual 114, 3) := by decide +kernel
theorem dX11_old_8 : decode cX11_old 8 = .ok (.ifCond .eq 16, 3) := by decide +kernel
theorem dX11_old_11 : decode cX11_old 11 = .ok (.aload_n 0, 1) := by decide +kernel
theorem dX11_old_12 : decode cX11_old 12 = .ok (.getfield 26, 3) := by decide +kernel
theorem dX11_old_15 : decode cX11_old 15 = .ok (.getfield 151, 3) := by decide +kernel
theorem dX11_old_18 : decode cX11_old 18 = .ok (.iload_n 1, 1) := by decide +kernel
theorem dX11_old_19 : decode cX11_old 19 = .ok (.iaload, 1) := by decide +kernel
theorem dX11_old_20 : decode cX11_old 20 = .ok (.iconst (-1), 1) := by decide +kernel
theorem dX11_old_21 : decode cX11_old 21 = .ok (.if_icmp .eq 5, 3) := by decide +kernel
theorem dX11_old_24 : decode cX11_old 24 = .ok (.iconst 0, 1) := by decide +kernel
theorem dX11_old_25 : decode cX11_old 25 = .ok (.ireturn, 1) := by decide +kernel
theorem dX11_old_26 : decode cX11_old 26 = .ok (.aload_n 0, 1) := by decide +kernel
theorem dX11_old_27 : decode cX11_old 27 = .ok (.getfield 26, 3) := by decide +kernel
theorem dX11_old_30 : decode cX11_old 30 = .ok (.getfield 151, 3) := by decide +kernel
theorem dX11_old_33 : decode cX11_old 33 = .ok (.iload_n 1, 1) := by decide +kernel
theorem dX11_old_34 : decode cX11_old 34 = .ok (.aload_n 0, 1) := by decide +kernel
theorem dX11_old_35 : decode cX11_old 35 = .ok (.getfield 86, 3) := by decide +kernel
theorem dX11_old_38 : decode cX11_old 38 = .ok (.iastore, 1) := by decide +kernel
theorem dX11_old_39 : decode cX11_old 39 = .ok (.iconst 1, 1) := by decide +kernel
theorem dX11_old_40 : decode cX11_old 40 = .ok (.ireturn, 1) := by decide +kernel
def fX11_old (k : ST) (a0 : Int32) : Option (Bool × ST) := ob (fX1_knows k a0) fun r1 k2 => if r1 = true then ck (inb a0 40) (if (gA k2 4 (ix a0)) = (-1) then ck (inb a0 40) (nm (sA k2 4 (ix a0) (gI k2 10 0)) fun k8 => some (true, k8)) else some (false, k2)) else some (false, k2)
set_option maxRecDepth 20000 in
theorem c_X11_old (l : Launch) (g : GT) (a0 : Int32) : CN l yX11_old cX11_old 2 (some .boolean) { frames := 1, cells := 0, slots := 0, locals := 21 } g TK voB [.ref (g.2.1 10), .int a0] (fun k => fX11_old k a0) := by
  refine cn_of (by decide) (Nat.le_of_ble_eq_true rfl) ?_
  intro p e s m args below meth c hC k
  have hC : HC p s m args meth c cX11_old 2 RX11 (some .boolean) g := hC
  have hR : 1 ≤ ({ frames := 1, cells := 0, slots := 0, locals := 21 } : Room).frames ∧ 21 ≤ ({ frames := 1, cells := 0, slots := 0, locals := 21 } : Room).locals := ⟨Nat.le_refl _, Nat.le_refl _⟩
  show ZF p l e _ s m args below meth c g TK voB 2 k 0 [(0, .ref (g.2.1 10)), (1, .int a0)] [] (fX11_old k a0)
  unfold fX11_old
  refine zf_aload_n hC dX11_old_0 rfl 0 rfl ?_
  refine gf_408 hC dX11_old_1 ?_
  refine zf_iload_n hC dX11_old_4 rfl 1 rfl ?_
  refine zf_callV hC (c_X1_knows l g a0) mt_X1_knows wd_491 wd_492 ci_0 ic_0 wd_490 rfl (rm_le hR rfl) rfl rfl (rest := []) rfl (Nat.le_of_ble_eq_true rfl) dX11_old_5 (fun r1 k2 h3 => ?_)
  refine zf_ifb_eq hC (tgt := 24) dX11_old_8 (by decide) (fun h4 => ?_) (fun h4 => ?_)
  · refine zf_aload_n hC dX11_old_11 rfl 0 rfl ?_
    refine gf_408 hC dX11_old_12 ?_
    refine gf_65 hC dX11_old_15 ?_
    refine zf_iload_n hC dX11_old_18 rfl 1 rfl ?_
    refine zf_iald hC (j := 4) ia_4 rfl rfl dX11_old_19 (fun h5 => ?_)
    refine zf_iconst hC (v := (-1)) dX11_old_20 rfl ?_
    refine zf_icmp_eq hC (tgt := 26) dX11_old_21 (by decide) (fun h6 => ?_) (fun h6 => ?_)
    · refine zf_aload_n hC dX11_old_26 rfl 0 rfl ?_
      refine gf_408 hC dX11_old_27 ?_
      refine gf_65 hC dX11_old_30 ?_
      refine zf_iload_n hC dX11_old_33 rfl 1 rfl ?_
      refine zf_aload_n hC dX11_old_34 rfl 0 rfl ?_
      refine gf_400 hC dX11_old_35 ?_
      refine zf_iast hC (j := 4) ia_4 rfl rfl dX11_old_38 (fun h7 => ?_)
      refine zf_nmk (fun k8 => ?_)
      refine zf_iconst hC (v := 1) dX11_old_39 rfl ?_
      exact zf_zret hC rfl true rfl dX11_old_40
    · refine zf_iconst hC (v := 0) dX11_old_24 rfl ?_
      exact zf_zret hC rfl false rfl dX11_old_25
  · refine zf_iconst hC (v := 0) dX11_old_24 rfl ?_
    exact zf_zret hC rfl false rfl dX11_old_25
/-! LifeKeys.stands -/
theorem dX11_stands_0 : decode cX11_stands 0 = .ok (.aload_n 0, 1) := by decide +kernel
theorem dX11_stands_1 : decode cX11_stands 1 = .ok (.getfield 68, 3) := by decide +kernel
theorem dX11_stands_4 : decode cX11_stands 4 = .ok (.iload_n 1, 1) := by decide +kernel
theorem dX11_stands_5 : decode cX11_stands 5 = .ok (.invokevirtual 316, 3) := by decide +kernel
theorem dX11_stands_8 : decode cX11_stands 8 = .ok (.ifCond .eq 24, 3) := by decide +kernel
theorem dX11_stands_11 : decode cX11_stands 11 = .ok (.aload_n 0, 1) := by decide +kernel
theorem dX11_stands_12 : decode cX11_stands 12 = .ok (.iload_n 2, 1) := by decide +kernel
theorem dX11_stands_13 : decode cX11_stands 13 = .ok (.invokevirtual 242, 3) := by decide +kernel
theorem dX11_stands_16 : decode cX11_stands 16 = .ok (.ifCond .eq 16, 3) := by decide +kernel
theorem dX11_stands_19 : decode cX11_stands 19 = .ok (.aload_n 0, 1) := by decide +kernel
theorem dX11_stands_20 : decode cX11_stands 20 = .ok (.getfield 68, 3) := by decide +kernel
theorem dX11_stands_23 : decode cX11_stands 23 = .ok (.getfield 327, 3) := by decide +kernel
theorem dX11_stands_26 : decode cX11_stands 26 = .ok (.iload_n 1, 1) := by decide +kernel
theorem dX11_stands_27 : decode cX11_stands 27 = .ok (.iaload, 1) := by decide +kernel
theorem dX11_stands_28 : decode cX11_stands 28 = .ok (.iload_n 2, 1) := by decide +kernel
theorem dX11_stands_29 : decode cX11_stands 29 = .ok (.if_icmp .le 5, 3) := by decide +kernel
theorem dX11_stands_32 : decode cX11_stands 32 = .ok (.iconst (-1), 1) := by decide +kernel
theorem dX11_stands_33 : decode cX11_stands 33 = .ok (.ireturn, 1) := by decide +kernel
theorem dX11_stands_34 : decode cX11_stands 34 = .ok (.aload_n 0, 1) := by decide +kernel
theorem dX11_stands_35 : decode cX11_stands 35 = .ok (.getfield 68, 3) := by decide +kernel
theorem dX11_stands_38 : decode cX11_stands 38 = .ok (.getfield 323, 3) := by decide +kernel
theorem dX11_stands_41 : decode cX11_stands 41 = .ok (.iload_n 1, 1) := by decide +kernel
theorem dX11_stands_42 : decode cX11_stands 42 = .ok (.iaload, 1) := by decide +kernel
theorem dX11_stands_43 : decode cX11_stands 43 = .ok (.istore_n 3, 1) := by decide +kernel
theorem dX11_stands_44 : decode cX11_stands 44 = .ok (.aload_n 0, 1) := by decide +kernel
theorem dX11_stands_45 : decode cX11_stands 45 = .ok (.getfield 68, 3) := by decide +kernel
theorem dX11_stands_48 : decode cX11_stands 48 = .ok (.getfield 327, 3) := by decide +kernel
theorem dX11_stands_51 : decode cX11_stands 51 = .ok (.iload_n 1, 1) := by decide +kernel
theorem dX11_stands_52 : decode cX11_stands 52 = .ok (.iaload, 1) := by decide +kernel
theorem dX11_stands_53 : decode cX11_stands 53 = .ok (.istore 4, 2) := by decide +kernel
theorem dX11_stands_55 : decode cX11_stands 55 = .ok (.aload_n 0, 1) := by decide +kernel
theorem dX11_stands_56 : decode cX11_stands 56 = .ok (.getfield 26, 3) := by decide +kernel
theorem dX11_stands_59 : decode cX11_stands 59 = .ok (.iload_n 3, 1) := by decide +kernel
theorem dX11_stands_60 : decode cX11_stands 60 = .ok (.iload 4, 2) := by decide +kernel
theorem dX11_stands_62 : decode cX11_stands 62 = .ok (.iload_n 2, 1) := by decide +kernel
theorem dX11_stands_63 : decode cX11_stands 63 = .ok (.invokevirtual 348, 3) := by decide +kernel
theorem dX11_stands_66 : decode cX11_stands 66 = .ok (.ifCond .ne 5, 3) := by decide +kernel
theorem dX11_stands_69 : decode cX11_stands 69 = .ok (.iconst 1, 1) := by decide +kernel
theorem dX11_stands_70 : decode cX11_stands 70 = .ok (.ireturn, 1) := by decide +kernel
theorem dX11_stands_71 : decode cX11_stands 71 = .ok (.aload_n 0, 1) := by decide +kernel
theorem dX11_stands_72 : decode cX11_stands 72 = .ok (.getfield 26, 3) := by decide +kernel
theorem dX11_stands_75 : decode cX11_stands 75 = .ok (.iload_n 3, 1) := by decide +kernel
theorem dX11_stands_76 : decode cX11_stands 76 = .ok (.iload 4, 2) := by decide +kernel
theorem dX11_stands_78 : decode cX11_stands 78 = .ok (.iload 4, 2) := by decide +kernel
theorem dX11_stands_80 : decode cX11_stands 80 = .ok (.invokevirtual 348, 3) := by decide +kernel
theorem dX11_stands_83 : decode cX11_stands 83 = .ok (.ifCond .eq 7, 3) := by decide +kernel
theorem dX11_stands_86 : decode cX11_stands 86 = .ok (.iconst 3, 1) := by decide +kernel
theorem dX11_stands_87 : decode cX11_stands 87 = .ok (.goto 4, 3) := by decide +kernel
theorem dX11_stands_90 : decode cX11_stands 90 = .ok (.iconst 2, 1) := by decide +kernel
theorem dX11_stands_91 : decode cX11_stands 91 = .ok (.ireturn, 1) := by decide +kernel
def fX11_stands (k : ST) (a0 : Int32) (a1 : Int32) : Option (Int32 × ST) := ob (fX7_knows k a0) fun r1 k2 => if r1 = true then ob (fX11_isPast k2 a1) fun r5 k6 => if r5 = true then ck (inb a0 80) (if (gA k6 41 (ix a0)) ≤ a1 then ck (inb a0 80) (ck (inb a0 80) (ob (fX1_isBurnt k6 (gA k6 39 (ix a0)) (gA k6 41 (ix a0)) a1) fun r13 k14 => if r13 = true then ob (fX1_isBurnt k14 (gA k6 39 (ix a0)) (gA k6 41 (ix a0)) (gA k6 41 (ix a0))) fun r17 k18 => if r17 = true then some (3, k18) else some (2, k18) else some (1, k14))) else some ((-1), k6)) else some ((-1), k6) else some ((-1), k2)
set_option maxRecDepth 20000 in
theorem c_X11_stands (l : Launch) (g : GT) (a0 : Int32) (a1 : Int32) : CN l yX11_stands cX11_stands 5 (some .int) { frames := 2, cells := 0, slots := 0, locals := 48 } g TK voI [.ref (g.2.1 10), .int a0, .int a1] (fun k => fX11_stands k a0 a1) := by
  refine cn_of (by decide) (Nat.le_of_ble_eq_true rfl) ?_
  intro p e s m args below meth c hC k
  have hC : HC p s m args meth c cX11_stands 5 RX11 (some .int) g := hC
  have hR : 2 ≤ ({ frames := 2, cells := 0, slots := 0, locals := 48 } : Room).frames ∧ 48 ≤ ({ frames := 2, cells := 0, slots := 0, locals := 48 } : Room).locals := ⟨Nat.le_refl _, Nat.le_refl _⟩
  show ZF p l e _ s m args below meth c g TK voI 5 k 0 [(0, .ref (g.2.1 10)), (1, .int a0), (2, .int a1)] [] (fX11_stands k a0 a1)
  unfold fX11_stands
  refine zf_aload_n hC dX11_stands_0 rfl 0 rfl ?_
  refine gf_414 hC dX11_stands_1 ?_
  refine zf_iload_n hC dX11_stands_4 rfl 1 rfl ?_
  refine zf_callV hC (c_X7_knows l g a0) mt_X7_knows wd_997 wd_998 ci_6 ic_6 wd_996 rfl (rm_le hR rfl) rfl rfl (rest := []) rfl (Nat.le_of_ble_eq_true rfl) dX11_stands_5 (fun r1 k2 h3 => ?_)
  refine zf_ifb_eq hC (tgt := 32) dX11_stands_8 (by decide) (fun h4 => ?_) (fun h4 => ?_)
  · refine zf_aload_n hC dX11_stands_11 rfl 0 rfl ?_
    refine zf_iload_n hC dX11_stands_12 rfl 2 rfl ?_
    refine zf_callV hC (c_X11_isPast l g a1) mt_X11_isPast wd_693 sp_3 ci_10 ic_10 wd_691 rfl (rm_le hR rfl) rfl rfl (rest := []) rfl (Nat.le_of_ble_eq_true rfl) dX11_stands_13 (fun r5 k6 h7 => ?_)
    refine zf_ifb_eq hC (tgt := 32) dX11_stands_16 (by decide) (fun h8 => ?_) (fun h8 => ?_)
    · refine zf_aload_n hC dX11_stands_19 rfl 0 rfl ?_
      refine gf_414 hC dX11_stands_20 ?_
      refine gf_307 hC dX11_stands_23 ?_
      refine zf_iload_n hC dX11_stands_26 rfl 1 rfl ?_
      refine zf_iald hC (j := 41) ia_41 rfl rfl dX11_stands_27 (fun h9 => ?_)
      refine zf_iload_n hC dX11_stands_28 rfl 2 rfl ?_
      refine zf_icmp_le hC (tgt := 34) dX11_stands_29 (by decide) (fun h10 => ?_) (fun h10 => ?_)
      · refine zf_aload_n hC dX11_stands_34 rfl 0 rfl ?_
        refine gf_414 hC dX11_stands_35 ?_
        refine gf_303 hC dX11_stands_38 ?_
        refine zf_iload_n hC dX11_stands_41 rfl 1 rfl ?_
        refine zf_iald hC (j := 39) ia_39 rfl rfl dX11_stands_42 (fun h11 => ?_)
        refine zf_istore_n hC (LV' := [(3, .int (gA k6 39 (ix a0))), (0, .ref (g.2.1 10)), (1, .int a0), (2, .int a1)]) dX11_stands_43 rfl (by decide) rfl ?_
        refine zf_aload_n hC dX11_stands_44 rfl 1 rfl ?_
        refine gf_414 hC dX11_stands_45 ?_
        refine gf_307 hC dX11_stands_48 ?_
        refine zf_iload_n hC dX11_stands_51 rfl 2 rfl ?_
        refine zf_iald hC (j := 41) ia_41 rfl rfl dX11_stands_52 (fun h12 => ?_)
        refine zf_istore hC (LV' := [(4, .int (gA k6 41 (ix a0))), (3, .int (gA k6 39 (ix a0))), (0, .ref (g.2.1 10)), (1, .int a0), (2, .int a1)]) dX11_stands_53 (by decide) rfl ?_
        refine zf_aload_n hC dX11_stands_55 rfl 2 rfl ?_
        refine gf_408 hC dX11_stands_56 ?_
        refine zf_iload_n hC dX11_stands_59 rfl 1 rfl ?_
        refine zf_iload hC dX11_stands_60 0 rfl ?_
        refine zf_iload_n hC dX11_stands_62 rfl 4 rfl ?_
        refine zf_callV hC (c_X1_isBurnt l g (gA k6 39 (ix a0)) (gA k6 41 (ix a0)) a1) mt_X1_isBurnt wd_933 wd_934 ci_0 ic_0 wd_1028 rfl (rm_le hR rfl) rfl rfl (rest := []) rfl (Nat.le_of_ble_eq_true rfl) dX11_stands_63 (fun r13 k14 h15 => ?_)
        refine zf_ifb_ne hC (tgt := 71) dX11_stands_66 (by decide) (fun h16 => ?_) (fun h16 => ?_)
        · refine zf_aload_n hC dX11_stands_71 rfl 2 rfl ?_
          refine gf_408 hC dX11_stands_72 ?_
          refine zf_iload_n hC dX11_stands_75 rfl 1 rfl ?_
          refine zf_iload hC dX11_stands_76 0 rfl ?_
          refine zf_iload hC dX11_stands_78 0 rfl ?_
          refine zf_callV hC (c_X1_isBurnt l g (gA k6 39 (ix a0)) (gA k6 41 (ix a0)) (gA k6 41 (ix a0))) mt_X1_isBurnt wd_933 wd_934 ci_0 ic_0 wd_1028 rfl (rm_le hR rfl) rfl rfl (rest := []) rfl (Nat.le_of_ble_eq_true rfl) dX11_stands_80 (fun r17 k18 h19 => ?_)
          refine zf_ifb_eq hC (tgt := 90) dX11_stands_83 (by decide) (fun h20 => ?_) (fun h20 => ?_)
          · refine zf_iconst hC (v := 3) dX11_stands_86 rfl ?_
            refine zf_goto hC (tgt := 91) dX11_stands_87 (by decide) ?_
            exact zf_iret hC rfl dX11_stands_91
          · refine zf_iconst hC (v := 2) dX11_stands_90 rfl ?_
            exact zf_iret hC rfl dX11_stands_91
        · refine zf_iconst hC (v := 1) dX11_stands_69 rfl ?_
          exact zf_iret hC rfl dX11_stands_70
      · refine zf_iconst hC (v := (-1)) dX11_stands_32 rfl ?_
        exact zf_iret hC rfl dX11_stands_33
    · refine zf_iconst hC (v := (-1)) dX11_stands_32 rfl ?_
      exact zf_iret hC rfl dX11_stands_33
  · refine zf_iconst hC (v := (-1)) dX11_stands_32 rfl ?_
    exact zf_iret hC rfl dX11_stands_33
/-! LifeKeys.lend -/
theorem dX11_lend_0 : decode cX11_lend 0 = .ok (.aload_n 0, 1) := by decide +kernel
theorem dX11_lend_1 : decode cX11_lend 1 = .ok (.getfield 26, 3) := by decide +kernel
theorem dX11_lend_4 : decode cX11_lend 4 = .ok (.iload_n 1, 1) := by decide +kernel
theorem dX11_lend_5 : decode cX11_lend 5 = .ok (.invokevirtual 114, 3) := by decide +kernel
theorem dX11_lend_8 : decode cX11_lend 8 = .ok (.ifCond .eq 26, 3) := by decide +kernel
theorem dX11_lend_11 : decode cX11_lend 11 = .ok (.aload_n 0, 1) := by decide +kernel
theorem dX11_lend_12 : decode cX11_lend 12 = .ok (.iload_n 2, 1) := by decide +kernel
theorem dX11_lend_13 : decode cX11_lend 13 = .ok (.invokevirtual 157, 3) := by decide +kernel
theorem dX11_lend_16 : decode cX11_lend 16 = .ok (.ifCond .eq 18, 3) := by decide +kernel
theorem dX11_lend_19 : decode cX11_lend 19 = .ok (.iload_n 3, 1) := by decide +kernel
theorem dX11_lend_20 : decode cX11_lend 20 = .ok (.aload_n 0, 1) := by decide +kernel
theorem dX11_lend_21 : decode cX11_lend 21 = .ok (.getfield 86, 3) := by decide +kernel
theorem dX11_lend_24 : decode cX11_lend 24 = .ok (.if_icmp .lt 10, 3) := by decide +kernel
theorem dX11_lend_27 : decode cX11_lend 27 = .ok (.iload_n 3, 1) := by decide +kernel
theorem dX11_lend_28 : decode cX11_lend 28 = .ok (.sipush 2000, 3) := by decide +kernel
theorem dX11_lend_31 : decode cX11_lend 31 = .ok (.if_icmp .le 5, 3) := by decide +kernel
theorem dX11_lend_34 : decode cX11_lend 34 = .ok (.iconst (-1), 1) := by decide +kernel
theorem dX11_lend_35 : decode cX11_lend 35 = .ok (.ireturn, 1) := by decide +kernel
theorem dX11_lend_36 : decode cX11_lend 36 = .ok (.iload 4, 2) := by decide +kernel
theorem dX11_lend_38 : decode cX11_lend 38 = .ok (.iconst 1, 1) := by decide +kernel
theorem dX11_lend_39 : decode cX11_lend 39 = .ok (.if_icmp .lt 28, 3) := by decide +kernel
theorem dX11_lend_42 : decode cX11_lend 42 = .ok (.iload 4, 2) := by decide +kernel
theorem dX11_lend_44 : decode cX11_lend 44 = .ok (.bipush 100, 2) := by decide +kernel
theorem dX11_lend_46 : decode cX11_lend 46 = .ok (.if_icmp .gt 21, 3) := by decide +kernel
theorem dX11_lend_49 : decode cX11_lend 49 = .ok (.iload 5, 2) := by decide +kernel
theorem dX11_lend_51 : decode cX11_lend 51 = .ok (.iconst (-1), 1) := by decide +kernel
theorem dX11_lend_52 : decode cX11_lend 52 = .ok (.if_icmp .eq 17, 3) := by decide +kernel
theorem dX11_lend_55 : decode cX11_lend 55 = .ok (.aload_n 0, 1) := by decide +kernel
theorem dX11_lend_56 : decode cX11_lend 56 = .ok (.getfield 61, 3) := by decide +kernel
theorem dX11_lend_59 : decode cX11_lend 59 = .ok (.iload 5, 2) := by decide +kernel
theorem dX11_lend_61 : decode cX11_lend 61 = .ok (.invokevirtual 271, 3) := by decide +kernel
theorem dX11_lend_64 : decode cX11_lend 64 = .ok (.ifCond .ne 5, 3) := by decide +kernel
theorem dX11_lend_67 : decode cX11_lend 67 = .ok (.iconst (-1), 1) := by decide +kernel
theorem dX11_lend_68 : decode cX11_lend 68 = .ok (.ireturn, 1) := by decide +kernel
theorem dX11_lend_69 : decode cX11_lend 69 = .ok (.aload_n 0, 1) := by decide +kernel
theorem dX11_lend_70 : decode cX11_lend 70 = .ok (.getfield 75, 3) := by decide +kernel
theorem dX11_lend_73 : decode cX11_lend 73 = .ok (.iload_n 1, 1) := by decide +kernel
theorem dX11_lend_74 : decode cX11_lend 74 = .ok (.iload_n 3, 1) := by decide +kernel
theorem dX11_lend_75 : decode cX11_lend 75 = .ok (.iload 4, 2) := by decide +kernel
theorem dX11_lend_77 : decode cX11_lend 77 = .ok (.iload 5, 2) := by decide +kernel
theorem dX11_lend_79 : decode cX11_lend 79 = .ok (.invokevirtual 351, 3) := by decide +kernel
theorem dX11_lend_82 : decode cX11_lend 82 = .ok (.ireturn, 1) := by decide +kernel
def fX11_lend (k : ST) (a0 : Int32) (a1 : Int32) (a2 : Int32) (a3 : Int32) (a4 : Int32) : Option (Int32 × ST) := ob (fX1_knows k a0) fun r1 k2 => if r1 = true then ob (fX11_isHolder k2 a1) fun r5 k6 => if r5 = true then if a2 < (gI k6 10 0) then some ((-1), k6) else if a2 ≤ 2000 then if a3 < 1 then some ((-1), k6) else if 100 < a3 then some ((-1), k6) else if a4 = (-1) then ob (fX2_add k6 a0 a2 a3 a4) fun r14 k15 => some (r14, k15) else ob (fX9_knows k6 a4) fun r17 k18 => if r17 = true then ob (fX2_add k18 a0 a2 a3 a4) fun r21 k22 => some (r21, k22) else some ((-1), k18) else some ((-1), k6) else some ((-1), k6) else some ((-1), k2)
set_option maxRecDepth 20000 in
theorem c_X11_lend (l : Launch) (g : GT) (a0 : Int32) (a1 : Int32) (a2 : Int32) (a3 : Int32) (a4 : Int32) : CN l yX11_lend cX11_lend 6 (some .int) { frames := 1, cells := 0, slots := 0, locals := 24 } g TK voI [.ref (g.2.1 10), .int a0, .int a1, .int a2, .int a3, .int a4] (fun k => fX11_lend k a0 a1 a2 a3 a4) := by
  refine cn_of (by decide) (Nat.le_of_ble_eq_true rfl) ?_
  intro p e s m args below meth c hC k
  have hC : HC p s m args meth c cX11_lend 6 RX11 (some .int) g := hC
  have hR : 1 ≤ ({ frames := 1, cells := 0, slots := 0, locals := 24 } : Room).frames ∧ 24 ≤ ({ frames := 1, cells := 0, slots := 0, locals := 24 } : Room).locals := ⟨Nat.le_refl _, Nat.le_refl _⟩
  show ZF p l e _ s m args below meth c g TK voI 6 k 0 [(0, .ref (g.2.1 10)), (1, .int a0), (2, .int a1), (3, .int a2), (4, .int a3), (5, .int a4)] [] (fX11_lend k a0 a1 a2 a3 a4)
  unfold fX11_lend
  refine zf_aload_n hC dX11_lend_0 rfl 0 rfl ?_
  refine gf_408 hC dX11_lend_1 ?_
  refine zf_iload_n hC dX11_lend_4 rfl 1 rfl ?_
  refine zf_callV hC (c_X1_knows l g a0) mt_X1_knows wd_491 wd_492 ci_0 ic_0 wd_490 rfl (rm_le hR rfl) rfl rfl (rest := []) rfl (Nat.le_of_ble_eq_true rfl) dX11_lend_5 (fun r1 k2 h3 => ?_)
  refine zf_ifb_eq hC (tgt := 34) dX11_lend_8 (by decide) (fun h4 => ?_) (fun h4 => ?_)
  · refine zf_aload_n hC dX11_lend_11 rfl 0 rfl ?_
    refine zf_iload_n hC dX11_lend_12 rfl 2 rfl ?_
    refine zf_callV hC (c_X11_isHolder l g a1) mt_X11_isHolder wd_531 sp_0 ci_10 ic_10 wd_529 rfl (rm_le hR rfl) rfl rfl (rest := []) rfl (Nat.le_of_ble_eq_true rfl) dX11_lend_13 (fun r5 k6 h7 => ?_)
    refine zf_ifb_eq hC (tgt := 34) dX11_lend_16 (by decide) (fun h8 => ?_) (fun h8 => ?_)
    · refine zf_iload_n hC dX11_lend_19 rfl 3 rfl ?_
      refine zf_aload_n hC dX11_lend_20 rfl 0 rfl ?_
      refine gf_400 hC dX11_lend_21 ?_
      refine zf_icmp_lt hC (tgt := 34) dX11_lend_24 (by decide) (fun h9 => ?_) (fun h9 => ?_)
      · refine zf_iconst hC (v := (-1)) dX11_lend_34 rfl ?_
        exact zf_iret hC rfl dX11_lend_35
      · refine zf_iload_n hC dX11_lend_27 rfl 3 rfl ?_
        refine zf_sipush hC (v := 2000) dX11_lend_28 rfl ?_
        refine zf_icmp_le hC (tgt := 36) dX11_lend_31 (by decide) (fun h10 => ?_) (fun h10 => ?_)
        · refine zf_iload hC dX11_lend_36 4 rfl ?_
          refine zf_iconst hC (v := 1) dX11_lend_38 rfl ?_
          refine zf_icmp_lt hC (tgt := 67) dX11_lend_39 (by decide) (fun h11 => ?_) (fun h11 => ?_)
          · refine zf_iconst hC (v := (-1)) dX11_lend_67 rfl ?_
            exact zf_iret hC rfl dX11_lend_68
          · refine zf_iload hC dX11_lend_42 4 rfl ?_
            refine zf_bipush hC (v := 100) dX11_lend_44 rfl ?_
            refine zf_icmp_gt hC (tgt := 67) dX11_lend_46 (by decide) (fun h12 => ?_) (fun h12 => ?_)
            · refine zf_iconst hC (v := (-1)) dX11_lend_67 rfl ?_
              exact zf_iret hC rfl dX11_lend_68
            · refine zf_iload hC dX11_lend_49 5 rfl ?_
              refine zf_iconst hC (v := (-1)) dX11_lend_51 rfl ?_
              refine zf_icmp_eq hC (tgt := 69) dX11_lend_52 (by decide) (fun h13 => ?_) (fun h13 => ?_)
              · refine zf_aload_n hC dX11_lend_69 rfl 0 rfl ?_
                refine gf_415 hC dX11_lend_70 ?_
                refine zf_iload_n hC dX11_lend_73 rfl 1 rfl ?_
                refine zf_iload_n hC dX11_lend_74 rfl 3 rfl ?_
                refine zf_iload hC dX11_lend_75 4 rfl ?_
                refine zf_iload hC dX11_lend_77 5 rfl ?_
                refine zf_callV hC (c_X2_add l g a0 a2 a3 a4) mt_X2_add wd_1034 wd_1035 ci_1 ic_1 wd_1033 rfl (rm_le hR rfl) rfl rfl (rest := []) rfl (Nat.le_of_ble_eq_true rfl) dX11_lend_79 (fun r14 k15 h16 => ?_)
                exact zf_iret hC rfl dX11_lend_82
              · refine zf_aload_n hC dX11_lend_55 rfl 0 rfl ?_
                refine gf_413 hC dX11_lend_56 ?_
                refine zf_iload hC dX11_lend_59 5 rfl ?_
                refine zf_callV hC (c_X9_knows l g a4) mt_X9_knows wd_843 wd_844 ci_8 ic_8 wd_842 rfl (rm_le hR rfl) rfl rfl (rest := []) rfl (Nat.le_of_ble_eq_true rfl) dX11_lend_61 (fun r17 k18 h19 => ?_)
                refine zf_ifb_ne hC (tgt := 69) dX11_lend_64 (by decide) (fun h20 => ?_) (fun h20 => ?_)
                · refine zf_aload_n hC dX11_lend_69 rfl 0 rfl ?_
                  refine gf_415 hC dX11_lend_70 ?_
                  refine zf_iload_n hC dX11_lend_73 rfl 1 rfl ?_
                  refine zf_iload_n hC dX11_lend_74 rfl 3 rfl ?_
                  refine zf_iload hC dX11_lend_75 4 rfl ?_
                  refine zf_iload hC dX11_lend_77 5 rfl ?_
                  refine zf_callV hC (c_X2_add l g a0 a2 a3 a4) mt_X2_add wd_1034 wd_1035 ci_1 ic_1 wd_1033 rfl (rm_le hR rfl) rfl rfl (rest := []) rfl (Nat.le_of_ble_eq_true rfl) dX11_lend_79 (fun r21 k22 h23 => ?_)
                  exact zf_iret hC rfl dX11_lend_82
                · refine zf_iconst hC (v := (-1)) dX11_lend_67 rfl ?_
                  exact zf_iret hC rfl dX11_lend_68
        · refine zf_iconst hC (v := (-1)) dX11_lend_34 rfl ?_
          exact zf_iret hC rfl dX11_lend_35
    · refine zf_iconst hC (v := (-1)) dX11_lend_34 rfl ?_
      exact zf_iret hC rfl dX11_lend_35
  · refine zf_iconst hC (v := (-1)) dX11_lend_34 rfl ?_
    exact zf_iret hC rfl dX11_lend_35
/-! LifeKeys.use -/
theorem dX11_use_0 : decode cX11_use 0 = .ok (.aload_n 0, 1) := by decide +kernel
theorem dX11_use_1 : decode cX11_use 1 = .ok (.getfield 75, 3) := by decide +kernel
theorem dX11_use_4 : decode cX11_use 4 = .ok (.iload_n 1, 1) := by decide +kernel
theorem dX11_use_5 : decode cX11_use 5 = .ok (.iload_n 2, 1) := by decide +kernel
theorem dX11_use_6 : decode cX11_use 6 = .ok (.aload_n 0, 1) := by decide +kernel
theorem dX11_use_7 : decode cX11_use 7 = .ok (.getfield 86, 3) := by decide +kernel
theorem dX11_use_10 : decode cX11_use 10 = .ok (.invokevirtual 352, 3) := by decide +kernel
theorem dX11_use_13 : decode cX11_use 13 = .ok (.ifCond .eq 21, 3) := by decide +kernel
theorem dX11_use_16 : decode cX11_use 16 = .ok (.aload_n 0, 1) := by decide +kernel
theorem dX11_use_17 : decode cX11_use 17 = .ok (.getfield 61, 3) := by decide +kernel
theorem dX11_use_20 : decode cX11_use 20 = .ok (.iload_n 2, 1) := by decide +kernel
theorem dX11_use_21 : decode cX11_use 21 = .ok (.invokevirtual 271, 3) := by decide +kernel
theorem dX11_use_24 : decode cX11_use 24 = .ok (.ifCond .eq 10, 3) := by decide +kernel
theorem dX11_use_27 : decode cX11_use 27 = .ok (.iload_n 3, 1) := by decide +kernel
theorem dX11_use_28 : decode cX11_use 28 = .ok (.invokestatic 93, 3) := by decide +kernel
theorem dX11_use_31 : decode cX11_use 31 = .ok (.ifCond .ne 5, 3) := by decide +kernel
theorem dX11_use_34 : decode cX11_use 34 = .ok (.iconst (-1), 1) := by decide +kernel
theorem dX11_use_35 : decode cX11_use 35 = .ok (.ireturn, 1) := by decide +kernel
theorem dX11_use_36 : decode cX11_use 36 = .ok (.aload_n 0, 1) := by decide +kernel
theorem dX11_use_37 : decode cX11_use 37 = .ok (.getfield 75, 3) := by decide +kernel
theorem dX11_use_40 : decode cX11_use 40 = .ok (.getfield 355, 3) := by decide +kernel
theorem dX11_use_43 : decode cX11_use 43 = .ok (.iload_n 1, 1) := by decide +kernel
theorem dX11_use_44 : decode cX11_use 44 = .ok (.iaload, 1) := by decide +kernel
theorem dX11_use_45 : decode cX11_use 45 = .ok (.istore 4, 2) := by decide +kernel
theorem dX11_use_47 : decode cX11_use 47 = .ok (.aload_n 0, 1) := by decide +kernel
theorem dX11_use_48 : decode cX11_use 48 = .ok (.getfield 26, 3) := by decide +kernel
theorem dX11_use_51 : decode cX11_use 51 = .ok (.iload 4, 2) := by decide +kernel
theorem dX11_use_53 : decode cX11_use 53 = .ok (.aload_n 0, 1) := by decide +kernel
theorem dX11_use_54 : decode cX11_use 54 = .ok (.getfield 86, 3) := by decide +kernel
theorem dX11_use_57 : decode cX11_use 57 = .ok (.invokevirtual 297, 3) := by decide +kernel
theorem dX11_use_60 : decode cX11_use 60 = .ok (.ifCond .ne 5, 3) := by decide +kernel
theorem dX11_use_63 : decode cX11_use 63 = .ok (.iconst (-1), 1) := by decide +kernel
theorem dX11_use_64 : decode cX11_use 64 = .ok (.ireturn, 1) := by decide +kernel
theorem dX11_use_65 : decode cX11_use 65 = .ok (.aload_n 0, 1) := by decide +kernel
theorem dX11_use_66 : decode cX11_use 66 = .ok (.iload 4, 2) := by decide +kernel
theorem dX11_use_68 : decode cX11_use 68 = .ok (.iload_n 2, 1) := by decide +kernel
theorem dX11_use_69 : decode cX11_use 69 = .ok (.iload_n 3, 1) := by decide +kernel
theorem dX11_use_70 : decode cX11_use 70 = .ok (.invokevirtual 303, 3) := by decide +kernel
theorem dX11_use_73 : decode cX11_use 73 = .ok (.istore 5, 2) := by decide +kernel
theorem dX11_use_75 : decode cX11_use 75 = .ok (.iload 5, 2) := by decide +kernel
theorem dX11_use_77 : decode cX11_use 77 = .ok (.iconst (-1), 1) := by decide +kernel
theorem dX11_use_78 : decode cX11_use 78 = .ok (.if_icmp .eq 16, 3) := by decide +kernel
theorem dX11_use_81 : decode cX11_use 81 = .ok (.aload_n 0, 1) := by decide +kernel
theorem dX11_use_82 : decode cX11_use 82 = .ok (.getfield 75, 3) := by decide +kernel
theorem dX11_use_85 : decode cX11_use 85 = .ok (.getfield 356, 3) := by decide +kernel
theorem dX11_use_88 : decode cX11_use 88 = .ok (.iload_n 1, 1) := by decide +kernel
theorem dX11_use_89 : decode cX11_use 89 = .ok (.dup2, 1) := by decide +kernel
theorem dX11_use_90 : decode cX11_use 90 = .ok (.iaload, 1) := by decide +kernel
theorem dX11_use_91 : decode cX11_use 91 = .ok (.iconst 1, 1) := by decide +kernel
theorem dX11_use_92 : decode cX11_use 92 = .ok (.isub, 1) := by decide +kernel
theorem dX11_use_93 : decode cX11_use 93 = .ok (.iastore, 1) := by decide +kernel
theorem dX11_use_94 : decode cX11_use 94 = .ok (.iload 5, 2) := by decide +kernel
theorem dX11_use_96 : decode cX11_use 96 = .ok (.ireturn, 1) := by decide +kernel
def fX11_use (k : ST) (a0 : Int32) (a1 : Int32) (a2 : Int32) : Option (Int32 × ST) := ob (fX2_serves k a0 a1 (gI k 10 0)) fun r1 k2 => if r1 = true then ob (fX9_knows k2 a1) fun r5 k6 => if r5 = true then ob (fX0_isSecret k6 a2) fun r9 k10 => if r9 = true then ck (inb a0 40) (ob (fX1_maySign k10 (gA k10 8 (ix a0)) (gI k10 10 0)) fun r14 k15 => if r14 = true then ob (fX11_signAlone k15 (gA k10 8 (ix a0)) a1 a2) fun r18 k19 => if r18 = (-1) then some (r18, k19) else ck (inb a0 40) (ck (inb a0 40) (nm (sA k19 10 (ix a0) ((gA k19 10 (ix a0)) - 1)) fun k24 => some (r18, k24))) else some ((-1), k15)) else some ((-1), k10) else some ((-1), k6) else some ((-1), k2)
set_option maxRecDepth 20000 in
theorem c_X11_use (l : Launch) (g : GT) (a0 : Int32) (a1 : Int32) (a2 : Int32) : CN l yX11_use cX11_use 6 (some .int) { frames := 4, cells := 0, slots := 0, locals := 91 } g TK voI [.ref (g.2.1 10), .int a0, .int a1, .int a2] (fun k => fX11_use k a0 a1 a2) := by
  refine cn_of (by decide) (Nat.le_of_ble_eq_true rfl) ?_
  intro p e s m args below meth c hC k
  have hC : HC p s m args meth c cX11_use 6 RX11 (some .int) g := hC
  have hR : 4 ≤ ({ frames := 4, cells := 0, slots := 0, locals := 91 } : Room).frames ∧ 91 ≤ ({ frames := 4, cells := 0, slots := 0, locals := 91 } : Room).locals := ⟨Nat.le_refl _, Nat.le_refl _⟩
  show ZF p l e _ s m args below meth c g TK voI 6 k 0 [(0, .ref (g.2.1 10)), (1, .int a0), (2, .int a1), (3, .int a2)] [] (fX11_use k a0 a1 a2)
  unfold fX11_use
  refine zf_aload_n hC dX11_use_0 rfl 0 rfl ?_
  refine gf_415 hC dX11_use_1 ?_
  refine zf_iload_n hC dX11_use_4 rfl 1 rfl ?_
  refine zf_iload_n hC dX11_use_5 rfl 2 rfl ?_
  refine zf_aload_n hC dX11_use_6 rfl 0 rfl ?_
  refine gf_400 hC dX11_use_7 ?_
  refine zf_callV hC (c_X2_serves l g a0 a1 (gI k 10 0)) mt_X2_serves wd_1042 wd_1043 ci_1 ic_1 wd_1041 rfl (rm_le hR rfl) rfl rfl (rest := []) rfl (Nat.le_of_ble_eq_true rfl) dX11_use_10 (fun r1 k2 h3 => ?_)
  refine zf_ifb_eq hC (tgt := 34) dX11_use_13 (by decide) (fun h4 => ?_) (fun h4 => ?_)
  · refine zf_aload_n hC dX11_use_16 rfl 0 rfl ?_
    refine gf_413 hC dX11_use_17 ?_
    refine zf_iload_n hC dX11_use_20 rfl 2 rfl ?_
    refine zf_callV hC (c_X9_knows l g a1) mt_X9_knows wd_843 wd_844 ci_8 ic_8 wd_842 rfl (rm_le hR rfl) rfl rfl (rest := []) rfl (Nat.le_of_ble_eq_true rfl) dX11_use_21 (fun r5 k6 h7 => ?_)
    refine zf_ifb_eq hC (tgt := 34) dX11_use_24 (by decide) (fun h8 => ?_) (fun h8 => ?_)
    · refine zf_iload_n hC dX11_use_27 rfl 3 rfl ?_
      refine zf_callS hC (c_X0_isSecret l g TK a2) mt_X0_isSecret wd_465 wd_464 rfl (rm_le hR rfl) rfl rfl (rest := []) rfl (Nat.le_of_ble_eq_true rfl) dX11_use_28 (fun r9 k10 h11 => ?_)
      refine zf_ifb_ne hC (tgt := 36) dX11_use_31 (by decide) (fun h12 => ?_) (fun h12 => ?_)
      · refine zf_aload_n hC dX11_use_36 rfl 0 rfl ?_
        refine gf_415 hC dX11_use_37 ?_
        refine gf_333 hC dX11_use_40 ?_
        refine zf_iload_n hC dX11_use_43 rfl 1 rfl ?_
        refine zf_iald hC (j := 8) ia_8 rfl rfl dX11_use_44 (fun h13 => ?_)
        refine zf_istore hC (LV' := [(4, .int (gA k10 8 (ix a0))), (0, .ref (g.2.1 10)), (1, .int a0), (2, .int a1), (3, .int a2)]) dX11_use_45 (by decide) rfl ?_
        refine zf_aload_n hC dX11_use_47 rfl 1 rfl ?_
        refine gf_408 hC dX11_use_48 ?_
        refine zf_iload hC dX11_use_51 0 rfl ?_
        refine zf_aload_n hC dX11_use_53 rfl 1 rfl ?_
        refine gf_400 hC dX11_use_54 ?_
        refine zf_callV hC (c_X1_maySign l g (gA k10 8 (ix a0)) (gI k10 10 0)) mt_X1_maySign wd_929 wd_930 ci_0 ic_0 wd_928 rfl (rm_le hR rfl) rfl rfl (rest := []) rfl (Nat.le_of_ble_eq_true rfl) dX11_use_57 (fun r14 k15 h16 => ?_)
        refine zf_ifb_ne hC (tgt := 65) dX11_use_60 (by decide) (fun h17 => ?_) (fun h17 => ?_)
        · refine zf_aload_n hC dX11_use_65 rfl 1 rfl ?_
          refine zf_iload hC dX11_use_66 0 rfl ?_
          refine zf_iload_n hC dX11_use_68 rfl 3 rfl ?_
          refine zf_iload_n hC dX11_use_69 rfl 4 rfl ?_
          refine zf_callV hC (c_X11_signAlone l g (gA k10 8 (ix a0)) a1 a2) mt_X11_signAlone wd_944 sp_30 ci_10 ic_10 wd_942 rfl (rm_le hR rfl) rfl rfl (rest := []) rfl (Nat.le_of_ble_eq_true rfl) dX11_use_70 (fun r18 k19 h20 => ?_)
          refine zf_istore hC (LV' := [(5, .int r18), (4, .int (gA k10 8 (ix a0))), (0, .ref (g.2.1 10)), (1, .int a0), (2, .int a1), (3, .int a2)]) dX11_use_73 (by decide) rfl ?_
          refine zf_iload hC dX11_use_75 0 rfl ?_
          refine zf_iconst hC (v := (-1)) dX11_use_77 rfl ?_
          refine zf_icmp_eq hC (tgt := 94) dX11_use_78 (by decide) (fun h21 => ?_) (fun h21 => ?_)
          · refine zf_iload hC dX11_use_94 0 rfl ?_
            exact zf_iret hC rfl dX11_use_96
          · refine zf_aload_n hC dX11_use_81 rfl 2 rfl ?_
            refine gf_415 hC dX11_use_82 ?_
            refine gf_336 hC dX11_use_85 ?_
            refine zf_iload_n hC dX11_use_88 rfl 3 rfl ?_
            refine zf_dup2 hC dX11_use_89 rfl rfl ?_
            refine zf_iald hC (j := 10) ia_10 rfl rfl dX11_use_90 (fun h22 => ?_)
            refine zf_iconst hC (v := 1) dX11_use_91 rfl ?_
            refine zf_isub hC dX11_use_92 ?_
            refine zf_iast hC (j := 10) ia_10 rfl rfl dX11_use_93 (fun h23 => ?_)
            refine zf_nmk (fun k24 => ?_)
            refine zf_iload hC dX11_use_94 0 rfl ?_
            exact zf_iret hC rfl dX11_use_96
        · refine zf_iconst hC (v := (-1)) dX11_use_63 rfl ?_
          exact zf_iret hC rfl dX11_use_64
      · refine zf_iconst hC (v := (-1)) dX11_use_34 rfl ?_
        exact zf_iret hC rfl dX11_use_35
    · refine zf_iconst hC (v := (-1)) dX11_use_34 rfl ?_
      exact zf_iret hC rfl dX11_use_35
  · refine zf_iconst hC (v := (-1)) dX11_use_34 rfl ?_
    exact zf_iret hC rfl dX11_use_35
/-! LifeKeys.back -/
theorem dX11_back_0 : decode cX11_back 0 = .ok (.aload_n 0, 1) := by decide +kernel
theorem dX11_back_1 : decode cX11_back 1 = .ok (.getfield 75, 3) := by decide +kernel
theorem dX11_back_4 : decode cX11_back 4 = .ok (.iload_n 1, 1) := by decide +kernel
theorem dX11_back_5 : decode cX11_back 5 = .ok (.invokevirtual 359, 3) := by decide +kernel
theorem dX11_back_8 : decode cX11_back 8 = .ok (.ifCond .eq 15, 3) := by decide +kernel
theorem dX11_back_11 : decode cX11_back 11 = .ok (.aload_n 0, 1) := by decide +kernel
theorem dX11_back_12 : decode cX11_back 12 = .ok (.getfield 75, 3) := by decide +kernel
theorem dX11_back_15 : decode cX11_back 15 = .ok (.getfield 360, 3) := by decide +kernel
theorem dX11_back_18 : decode cX11_back 18 = .ok (.iload_n 1, 1) := by decide +kernel
theorem dX11_back_19 : decode cX11_back 19 = .ok (.baload, 1) := by decide +kernel
theorem dX11_back_20 : decode cX11_back 20 = .ok (.ifCond .eq 5, 3) := by decide +kernel
theorem dX11_back_23 : decode cX11_back 23 = .ok (.iconst 0, 1) := by decide +kernel
theorem dX11_back_24 : decode cX11_back 24 = .ok (.ireturn, 1) := by decide +kernel
theorem dX11_back_25 : decode cX11_back 25 = .ok (.aload_n 0, 1) := by decide +kernel
theorem dX11_back_26 : decode cX11_back 26 = .ok (.getfield 75, 3) := by decide +kernel
theorem dX11_back_29 : decode cX11_back 29 = .ok (.getfield 360, 3) := by decide +kernel
theorem dX11_back_32 : decode cX11_back 32 = .ok (.iload_n 1, 1) := by decide +kernel
theorem dX11_back_33 : decode cX11_back 33 = .ok (.iconst 1, 1) := by decide +kernel
theorem dX11_back_34 : decode cX11_back 34 = .ok (.bastore, 1) := by decide +kernel
theorem dX11_back_35 : decode cX11_back 35 = .ok (.iconst 1, 1) := by decide +kernel
theorem dX11_back_36 : decode cX11_back 36 = .ok (.ireturn, 1) := by decide +kernel
def fX11_back (k : ST) (a0 : Int32) : Option (Bool × ST) := ob (fX2_knows k a0) fun r1 k2 => if r1 = true then ck (inb a0 40) (if (gA k2 12 (ix a0)) = 0 then ck (inb a0 40) (nm (sA k2 12 (ix a0) 1) fun k8 => some (true, k8)) else some (false, k2)) else some (false, k2)
set_option maxRecDepth 20000 in
theorem c_X11_back (l : Launch) (g : GT) (a0 : Int32) : CN l yX11_back cX11_back 2 (some .boolean) { frames := 1, cells := 0, slots := 0, locals := 21 } g TK voB [.ref (g.2.1 10), .int a0] (fun k => fX11_back k a0) := by
  refine cn_of (by decide) (Nat.le_of_ble_eq_true rfl) ?_
  intro p e s m args below meth c hC k
  have hC : HC p s m args meth c cX11_back 2 RX11 (some .boolean) g := hC
  have hR : 1 ≤ ({ frames := 1, cells := 0, slots := 0, locals := 21 } : Room).frames ∧ 21 ≤ ({ frames := 1, cells := 0, slots := 0, locals := 21 } : Room).locals := ⟨Nat.le_refl _, Nat.le_refl _⟩
  show ZF p l e _ s m args below meth c g TK voB 2 k 0 [(0, .ref (g.2.1 10)), (1, .int a0)] [] (fX11_back k a0)
  unfold fX11_back
  refine zf_aload_n hC dX11_back_0 rfl 0 rfl ?_
  refine gf_415 hC dX11_back_1 ?_
  refine zf_iload_n hC dX11_back_4 rfl 1 rfl ?_
  refine zf_callV hC (c_X2_knows l g a0) mt_X2_knows wd_1046 wd_1047 ci_1 ic_1 wd_1053 rfl (rm_le hR rfl) rfl rfl (rest := []) rfl (Nat.le_of_ble_eq_true rfl) dX11_back_5 (fun r1 k2 h3 => ?_)
  refine zf_ifb_eq hC (tgt := 23) dX11_back_8 (by decide) (fun h4 => ?_) (fun h4 => ?_)
  · refine zf_aload_n hC dX11_back_11 rfl 0 rfl ?_
    refine gf_415 hC dX11_back_12 ?_
    refine gf_339 hC dX11_back_15 ?_
    refine zf_iload_n hC dX11_back_18 rfl 1 rfl ?_
    refine zf_zald hC (j := 12) ia_12 rfl rfl dX11_back_19 (fun h5 => ?_)
    refine zf_if_eq hC (tgt := 25) dX11_back_20 (by decide) (fun h6 => ?_) (fun h6 => ?_)
    · refine zf_aload_n hC dX11_back_25 rfl 0 rfl ?_
      refine gf_415 hC dX11_back_26 ?_
      refine gf_339 hC dX11_back_29 ?_
      refine zf_iload_n hC dX11_back_32 rfl 1 rfl ?_
      refine zf_iconst hC (v := 1) dX11_back_33 rfl ?_
      refine zf_zast hC (j := 12) ia_12 rfl rfl rfl dX11_back_34 (fun h7 => ?_)
      refine zf_nmk (fun k8 => ?_)
      refine zf_iconst hC (v := 1) dX11_back_35 rfl ?_
      exact zf_zret hC rfl true rfl dX11_back_36
    · refine zf_iconst hC (v := 0) dX11_back_23 rfl ?_
      exact zf_zret hC rfl false rfl dX11_back_24
  · refine zf_iconst hC (v := 0) dX11_back_23 rfl ?_
    exact zf_zret hC rfl false rfl dX11_back_24
/-! LifeKeys.fall -/
theorem dX11_fall_0 : decode cX11_fall 0 = .ok (.aload_n 0, 1) := by decide +kernel
theorem dX11_fall_1 : decode cX11_fall 1 = .ok (.iload_n 1, 1) := by decide +kernel
theorem dX11_fall_2 : decode cX11_fall 2 = .ok (.invokevirtual 175, 3) := by decide +kernel
theorem dX11_fall_5 : decode cX11_fall 5 = .ok (.ifCond .eq 12, 3) := by decide +kernel
theorem dX11_fall_8 : decode cX11_fall 8 = .ok (.aload_n 0, 1) := by decide +kernel
theorem dX11_fall_9 : decode cX11_fall 9 = .ok (.getfield 363, 3) := by decide +kernel
theorem dX11_fall_12 : decode cX11_fall 12 = .ok (.bipush 20, 2) := by decide +kernel
theorem dX11_fall_14 : decode cX11_fall 14 = .ok (.if_icmp .lt 5, 3) := by decide +kernel
theorem dX11_fall_17 : decode cX11_fall 17 = .ok (.iconst (-1), 1) := by decide +kernel
theorem dX11_fall_18 : decode cX11_fall 18 = .ok (.ireturn, 1) := by decide +kernel
theorem dX11_fall_19 : decode cX11_fall 19 = .ok (.aload_n 0, 1) := by decide +kernel
theorem dX11_fall_20 : decode cX11_fall 20 = .ok (.getfield 13, 3) := by decide +kernel
theorem dX11_fall_23 : decode cX11_fall 23 = .ok (.aload_n 0, 1) := by decide +kernel
theorem dX11_fall_24 : decode cX11_fall 24 = .ok (.getfield 363, 3) := by decide +kernel
theorem dX11_fall_27 : decode cX11_fall 27 = .ok (.iload_n 1, 1) := by decide +kernel
theorem dX11_fall_28 : decode cX11_fall 28 = .ok (.iastore, 1) := by decide +kernel
theorem dX11_fall_29 : decode cX11_fall 29 = .ok (.aload_n 0, 1) := by decide +kernel
theorem dX11_fall_30 : decode cX11_fall 30 = .ok (.dup, 1) := by decide +kernel
theorem dX11_fall_31 : decode cX11_fall 31 = .ok (.getfield 363, 3) := by decide +kernel
theorem dX11_fall_34 : decode cX11_fall 34 = .ok (.iconst 1, 1) := by decide +kernel
theorem dX11_fall_35 : decode cX11_fall 35 = .ok (.iadd, 1) := by decide +kernel
theorem dX11_fall_36 : decode cX11_fall 36 = .ok (.putfield 363, 3) := by decide +kernel
theorem dX11_fall_39 : decode cX11_fall 39 = .ok (.aload_n 0, 1) := by decide +kernel
theorem dX11_fall_40 : decode cX11_fall 40 = .ok (.getfield 363, 3) := by decide +kernel
theorem dX11_fall_43 : decode cX11_fall 43 = .ok (.iconst 1, 1) := by decide +kernel
theorem dX11_fall_44 : decode cX11_fall 44 = .ok (.isub, 1) := by decide +kernel
theorem dX11_fall_45 : decode cX11_fall 45 = .ok (.ireturn, 1) := by decide +kernel
def fX11_fall (k : ST) (a0 : Int32) : Option (Int32 × ST) := ob (fX11_isSet k a0) fun r1 k2 => if r1 = true then if (gI k2 10 5) < 20 then ck (inb (gI k2 10 5) 20) (nm (sA k2 58 (ix (gI k2 10 5)) a0) fun k7 => nm (sI k7 10 5 ((gI k7 10 5) + 1)) fun k8 => some ((gI k8 10 5) - 1, k8)) else some ((-1), k2) else some ((-1), k2)
set_option maxRecDepth 20000 in
theorem c_X11_fall (l : Launch) (g : GT) (a0 : Int32) : CN l yX11_fall cX11_fall 2 (some .int) { frames := 2, cells := 0, slots := 0, locals := 41 } g TK voI [.ref (g.2.1 10), .int a0] (fun k => fX11_fall k a0) := by
  refine cn_of (by decide) (Nat.le_of_ble_eq_true rfl) ?_
  intro p e s m args below meth c hC k
  have hC : HC p s m args meth c cX11_fall 2 RX11 (some .int) g := hC
  have hR : 2 ≤ ({ frames := 2, cells := 0, slots := 0, locals := 41 } : Room).frames ∧ 41 ≤ ({ frames := 2, cells := 0, slots := 0, locals := 41 } : Room).locals := ⟨Nat.le_refl _, Nat.le_refl _⟩
  show ZF p l e _ s m args below meth c g TK voI 2 k 0 [(0, .ref (g.2.1 10)), (1, .int a0)] [] (fX11_fall k a0)
  unfold fX11_fall
  refine zf_aload_n hC dX11_fall_0 rfl 0 rfl ?_
  refine zf_iload_n hC dX11_fall_1 rfl 1 rfl ?_
  refine zf_callV hC (c_X11_isSet l g a0) mt_X11_isSet wd_570 sp_1 ci_10 ic_10 wd_568 rfl (rm_le hR rfl) rfl rfl (rest := []) rfl (Nat.le_of_ble_eq_true rfl) dX11_fall_2 (fun r1 k2 h3 => ?_)
  refine zf_ifb_eq hC (tgt := 17) dX11_fall_5 (by decide) (fun h4 => ?_) (fun h4 => ?_)
  · refine zf_aload_n hC dX11_fall_8 rfl 0 rfl ?_
    refine gf_405 hC dX11_fall_9 ?_
    refine zf_bipush hC (v := 20) dX11_fall_12 rfl ?_
    refine zf_icmp_lt hC (tgt := 19) dX11_fall_14 (by decide) (fun h5 => ?_) (fun h5 => ?_)
    · refine zf_aload_n hC dX11_fall_19 rfl 0 rfl ?_
      refine gf_406 hC dX11_fall_20 ?_
      refine zf_aload_n hC dX11_fall_23 rfl 0 rfl ?_
      refine gf_405 hC dX11_fall_24 ?_
      refine zf_iload_n hC dX11_fall_27 rfl 1 rfl ?_
      refine zf_iast hC (j := 58) ia_58 rfl rfl dX11_fall_28 (fun h6 => ?_)
      refine zf_nmk (fun k7 => ?_)
      refine zf_aload_n hC dX11_fall_29 rfl 0 rfl ?_
      refine zf_dup hC dX11_fall_30 rfl ?_
      refine gf_405 hC dX11_fall_31 ?_
      refine zf_iconst hC (v := 1) dX11_fall_34 rfl ?_
      refine zf_iadd hC dX11_fall_35 ?_
      refine pf_405 hC dX11_fall_36 ?_
      refine zf_nmk (fun k8 => ?_)
      refine zf_aload_n hC dX11_fall_39 rfl 0 rfl ?_
      refine gf_405 hC dX11_fall_40 ?_
      refine zf_iconst hC (v := 1) dX11_fall_43 rfl ?_
      refine zf_isub hC dX11_fall_44 ?_
      exact zf_iret hC rfl dX11_fall_45
    · refine zf_iconst hC (v := (-1)) dX11_fall_17 rfl ?_
      exact zf_iret hC rfl dX11_fall_18
  · refine zf_iconst hC (v := (-1)) dX11_fall_17 rfl ?_
    exact zf_iret hC rfl dX11_fall_18
/-! LifeKeys.isFall -/
theorem dX11_isFall_0 : decode cX11_isFall 0 = .ok (.iload_n 1, 1) := by decide +kernel
theorem dX11_isFall_1 : decode cX11_isFall 1 = .ok (.ifCond .lt 15, 3) := by decide +kernel
theorem dX11_isFall_4 : decode cX11_isFall 4 = .ok (.iload_n 1, 1) := by decide +kernel
theorem dX11_isFall_5 : decode cX11_isFall 5 = .ok (.aload_n 0, 1) := by decide +kernel
theorem dX11_isFall_6 : decode cX11_isFall 6 = .ok (.getfield 363, 3) := by decide +kernel
theorem dX11_isFall_9 : decode cX11_isFall 9 = .ok (.if_icmp .ge 7, 3) := by decide +kernel
theorem dX11_isFall_12 : decode cX11_isFall 12 = .ok (.iconst 1, 1) := by decide +kernel
theorem dX11_isFall_13 : decode cX11_isFall 13 = .ok (.goto 4, 3) := by decide +kernel
theorem dX11_isFall_16 : decode cX11_isFall 16 = .ok (.iconst 0, 1) := by decide +kernel
theorem dX11_isFall_17 : decode cX11_isFall 17 = .ok (.ireturn, 1) := by decide +kernel
def fX11_isFall (k : ST) (a0 : Int32) : Option (Bool × ST) := if a0 < 0 then some (false, k) else if (gI k 10 5) ≤ a0 then some (false, k) else some (true, k)
set_option maxRecDepth 20000 in
theorem c_X11_isFall (l : Launch) (g : GT) (a0 : Int32) : CN l yX11_isFall cX11_isFall 2 (some .boolean) { frames := 0, cells := 0, slots := 0, locals := 0 } g TK voB [.ref (g.2.1 10), .int a0] (fun k => fX11_isFall k a0) := by
  refine cn_of (by decide) (Nat.le_of_ble_eq_true rfl) ?_
  intro p e s m args below meth c hC k
  have hC : HC p s m args meth c cX11_isFall 2 RX11 (some .boolean) g := hC
  have hR : 0 ≤ ({ frames := 0, cells := 0, slots := 0, locals := 0 } : Room).frames ∧ 0 ≤ ({ frames := 0, cells := 0, slots := 0, locals := 0 } : Room).locals := ⟨Nat.le_refl _, Nat.le_refl _⟩
  show ZF p l e _ s m args below meth c g TK voB 2 k 0 [(0, .ref (g.2.1 10)), (1, .int a0)] [] (fX11_isFall k a0)
  unfold fX11_isFall
  refine zf_iload_n hC dX11_isFall_0 rfl 1 rfl ?_
  refine zf_if_lt hC (tgt := 16) dX11_isFall_1 (by decide) (fun h1 => ?_) (fun h1 => ?_)
  · refine zf_iconst hC (v := 0) dX11_isFall_16 rfl ?_
    exact zf_zret hC rfl false rfl dX11_isFall_17
  · refine zf_iload_n hC dX11_isFall_4 rfl 1 rfl ?_
    refine zf_aload_n hC dX11_isFall_5 rfl 0 rfl ?_
    refine gf_405 hC dX11_isFall_6 ?_
    refine zf_icmp_ge hC (tgt := 16) dX11_isFall_9 (by decide) (fun h2 => ?_) (fun h2 => ?_)
    · refine zf_iconst hC (v := 0) dX11_isFall_16 rfl ?_
      exact zf_zret hC rfl false rfl dX11_isFall_17
    · refine zf_iconst hC (v := 1) dX11_isFall_12 rfl ?_
      refine zf_goto hC (tgt := 17) dX11_isFall_13 (by decide) ?_
      exact zf_zret hC rfl true rfl dX11_isFall_17
/-! LifeKeys.othersThan -/
theorem dX11_othersThan_0 : decode cX11_othersThan 0 = .ok (.aload_n 0, 1) := by decide +kernel
theorem dX11_othersThan_1 : decode cX11_othersThan 1 = .ok (.invokevirtual 415, 3) := by decide +kernel
theorem dX11_othersThan_4 : decode cX11_othersThan 4 = .ok (.iload_n 1, 1) := by decide +kernel
theorem dX11_othersThan_5 : decode cX11_othersThan 5 = .ok (.iconst (-1), 1) := by decide +kernel
theorem dX11_othersThan_6 : decode cX11_othersThan 6 = .ok (.ixor, 1) := by decide +kernel
theorem dX11_othersThan_7 : decode cX11_othersThan 7 = .ok (.iand, 1) := by decide +kernel
theorem dX11_othersThan_8 : decode cX11_othersThan 8 = .ok (.ireturn, 1) := by decide +kernel
def fX11_othersThan (k : ST) (a0 : Int32) : Option (Int32 × ST) := ob (fX11_allHolders k) fun r1 k2 => some (r1 &&& (a0 ^^^ (-1)), k2)
set_option maxRecDepth 20000 in
theorem c_X11_othersThan (l : Launch) (g : GT) (a0 : Int32) : CN l yX11_othersThan cX11_othersThan 2 (some .int) { frames := 1, cells := 0, slots := 0, locals := 20 } g TK voI [.ref (g.2.1 10), .int a0] (fun k => fX11_othersThan k a0) := by
  refine cn_of (by decide) (Nat.le_of_ble_eq_true rfl) ?_
  intro p e s m args below meth c hC k
  have hC : HC p s m args meth c cX11_othersThan 2 RX11 (some .int) g := hC
  have hR : 1 ≤ ({ frames := 1, cells := 0, slots := 0, locals := 20 } : Room).frames ∧ 20 ≤ ({ frames := 1, cells := 0, slots := 0, locals := 20 } : Room).locals := ⟨Nat.le_refl _, Nat.le_refl _⟩
  show ZF p l e _ s m args below meth c g TK voI 2 k 0 [(0, .ref (g.2.1 10)), (1, .int a0)] [] (fX11_othersThan k a0)
  unfold fX11_othersThan
  refine zf_aload_n hC dX11_othersThan_0 rfl 0 rfl ?_
  refine zf_callV hC (c_X11_allHolders l g) mt_X11_allHolders wd_574 sp_2 ci_10 ic_10 wd_572 rfl (rm_le hR rfl) rfl rfl (rest := []) rfl (Nat.le_of_ble_eq_true rfl) dX11_othersThan_1 (fun r1 k2 h3 => ?_)
  refine zf_iload_n hC dX11_othersThan_4 rfl 1 rfl ?_
  refine zf_iconst hC (v := (-1)) dX11_othersThan_5 rfl ?_
  refine zf_ixor hC dX11_othersThan_6 ?_
  refine zf_iand hC dX11_othersThan_7 ?_
  exact zf_iret hC rfl dX11_othersThan_8
/-! LifeKeys.fallen -/
theorem dX11_fallen_0 : decode cX11_fallen 0 = .ok (.aload_n 0, 1) := by decide +kernel
theorem dX11_fallen_1 : decode cX11_fallen 1 = .ok (.iload_n 1, 1) := by decide +kernel
theorem dX11_fallen_2 : decode cX11_fallen 2 = .ok (.invokevirtual 366, 3) := by decide +kernel
theorem dX11_fallen_5 : decode cX11_fallen 5 = .ok (.ifCond .eq 12, 3) := by decide +kernel
theorem dX11_fallen_8 : decode cX11_fallen 8 = .ok (.iload_n 2, 1) := by decide +kernel
theorem dX11_fallen_9 : decode cX11_fallen 9 = .ok (.ifCond .lt 8, 3) := by decide +kernel
theorem dX11_fallen_12 : decode cX11_fallen 12 = .ok (.iload_n 2, 1) := by decide +kernel
theorem dX11_fallen_13 : decode cX11_fallen 13 = .ok (.iconst 1, 1) := by decide +kernel
theorem dX11_fallen_14 : decode cX11_fallen 14 = .ok (.if_icmp .le 7, 3) := by decide +kernel
theorem dX11_fallen_17 : decode cX11_fallen 17 = .ok (.ldc2_w 245, 3) := by decide +kernel
theorem dX11_fallen_20 : decode cX11_fallen 20 = .ok (.lreturn, 1) := by decide +kernel
theorem dX11_fallen_21 : decode cX11_fallen 21 = .ok (.aload_n 0, 1) := by decide +kernel
theorem dX11_fallen_22 : decode cX11_fallen 22 = .ok (.aload_n 0, 1) := by decide +kernel
theorem dX11_fallen_23 : decode cX11_fallen 23 = .ok (.getfield 86, 3) := by decide +kernel
theorem dX11_fallen_26 : decode cX11_fallen 26 = .ok (.invokevirtual 247, 3) := by decide +kernel
theorem dX11_fallen_29 : decode cX11_fallen 29 = .ok (.iload_n 2, 1) := by decide +kernel
theorem dX11_fallen_30 : decode cX11_fallen 30 = .ok (.iconst 1, 1) := by decide +kernel
theorem dX11_fallen_31 : decode cX11_fallen 31 = .ok (.if_icmp .ne 17, 3) := by decide +kernel
theorem dX11_fallen_34 : decode cX11_fallen 34 = .ok (.aload_n 0, 1) := by decide +kernel
theorem dX11_fallen_35 : decode cX11_fallen 35 = .ok (.getfield 82, 3) := by decide +kernel
theorem dX11_fallen_38 : decode cX11_fallen 38 = .ok (.aload_n 0, 1) := by decide +kernel
theorem dX11_fallen_39 : decode cX11_fallen 39 = .ok (.getfield 13, 3) := by decide +kernel
theorem dX11_fallen_42 : decode cX11_fallen 42 = .ok (.iload_n 1, 1) := by decide +kernel
theorem dX11_fallen_43 : decode cX11_fallen 43 = .ok (.iaload, 1) := by decide +kernel
theorem dX11_fallen_44 : decode cX11_fallen 44 = .ok (.invokevirtual 250, 3) := by decide +kernel
theorem dX11_fallen_47 : decode cX11_fallen 47 = .ok (.lreturn, 1) := by decide +kernel
theorem dX11_fallen_48 : decode cX11_fallen 48 = .ok (.aload_n 0, 1) := by decide +kernel
theorem dX11_fallen_49 : decode cX11_fallen 49 = .ok (.getfield 26, 3) := by decide +kernel
theorem dX11_fallen_52 : decode cX11_fallen 52 = .ok (.invokevirtual 369, 3) := by decide +kernel
theorem dX11_fallen_55 : decode cX11_fallen 55 = .ok (.aload_n 0, 1) := by decide +kernel
theorem dX11_fallen_56 : decode cX11_fallen 56 = .ok (.getfield 82, 3) := by decide +kernel
theorem dX11_fallen_59 : decode cX11_fallen 59 = .ok (.aload_n 0, 1) := by decide +kernel
theorem dX11_fallen_60 : decode cX11_fallen 60 = .ok (.aload_n 0, 1) := by decide +kernel
theorem dX11_fallen_61 : decode cX11_fallen 61 = .ok (.getfield 13, 3) := by decide +kernel
theorem dX11_fallen_64 : decode cX11_fallen 64 = .ok (.iload_n 1, 1) := by decide +kernel
theorem dX11_fallen_65 : decode cX11_fallen 65 = .ok (.iaload, 1) := by decide +kernel
theorem dX11_fallen_66 : decode cX11_fallen 66 = .ok (.invokevirtual 373, 3) := by decide +kernel
theorem dX11_fallen_69 : decode cX11_fallen 69 = .ok (.invokevirtual 250, 3) := by decide +kernel
theorem dX11_fallen_72 : decode cX11_fallen 72 = .ok (.ldc2_w 245, 3) := by decide +kernel
theorem dX11_fallen_75 : decode cX11_fallen 75 = .ok (.lxor, 1) := by decide +kernel
theorem dX11_fallen_76 : decode cX11_fallen 76 = .ok (.land, 1) := by decide +kernel
theorem dX11_fallen_77 : decode cX11_fallen 77 = .ok (.lreturn, 1) := by decide +kernel
def fX11_fallen (k : ST) (a0 : Int32) (a1 : Int32) : Option (Int64 × ST) := ob (fX11_isFall k a0) fun r1 k2 => if r1 = true then if a1 < 0 then some (-1, k2) else if a1 ≤ 1 then ob (fX11_settleReach k2 (gI k2 10 0)) fun r7 k8 => if a1 = 1 then ck (inb a0 20) (ob (fX4_gets k8 (gA k8 58 (ix a0))) fun r12 k13 => some (r12, k13)) else ob (fX1_all k8) fun r15 k16 => ck (inb a0 20) (ob (fX11_othersThan k16 (gA k16 58 (ix a0))) fun r19 k20 => ob (fX4_gets k20 r19) fun r22 k23 => some (r15 &&& (r22 ^^^ (-1)), k23)) else some (-1, k2) else some (-1, k2)
set_option maxRecDepth 20000 in
theorem c_X11_fallen (l : Launch) (g : GT) (a0 : Int32) (a1 : Int32) : CN l yX11_fallen cX11_fallen 3 (some .long) { frames := 5, cells := 0, slots := 0, locals := 112 } g TK voL [.ref (g.2.1 10), .int a0, .int a1] (fun k => fX11_fallen k a0 a1) := by
  refine cn_of (by decide) (Nat.le_of_ble_eq_true rfl) ?_
  intro p e s m args below meth c hC k
  have hC : HC p s m args meth c cX11_fallen 3 RX11 (some .long) g := hC
  have hR : 5 ≤ ({ frames := 5, cells := 0, slots := 0, locals := 112 } : Room).frames ∧ 112 ≤ ({ frames := 5, cells := 0, slots := 0, locals := 112 } : Room).locals := ⟨Nat.le_refl _, Nat.le_refl _⟩
  show ZF p l e _ s m args below meth c g TK voL 3 k 0 [(0, .ref (g.2.1 10)), (1, .int a0), (2, .int a1)] [] (fX11_fallen k a0 a1)
  unfold fX11_fallen
  refine zf_aload_n hC dX11_fallen_0 rfl 0 rfl ?_
  refine zf_iload_n hC dX11_fallen_1 rfl 1 rfl ?_
  refine zf_callV hC (c_X11_isFall l g a0) mt_X11_isFall wd_1064 sp_34 ci_10 ic_10 wd_1062 rfl (rm_le hR rfl) rfl rfl (rest := []) rfl (Nat.le_of_ble_eq_true rfl) dX11_fallen_2 (fun r1 k2 h3 => ?_)
  refine zf_ifb_eq hC (tgt := 17) dX11_fallen_5 (by decide) (fun h4 => ?_) (fun h4 => ?_)
  · refine zf_iload_n hC dX11_fallen_8 rfl 2 rfl ?_
    refine zf_if_lt hC (tgt := 17) dX11_fallen_9 (by decide) (fun h5 => ?_) (fun h5 => ?_)
    · refine zf_ldc2 hC wd_695 dX11_fallen_17 ?_
      exact zf_lret hC rfl dX11_fallen_20
    · refine zf_iload_n hC dX11_fallen_12 rfl 2 rfl ?_
      refine zf_iconst hC (v := 1) dX11_fallen_13 rfl ?_
      refine zf_icmp_le hC (tgt := 21) dX11_fallen_14 (by decide) (fun h6 => ?_) (fun h6 => ?_)
      · refine zf_aload_n hC dX11_fallen_21 rfl 0 rfl ?_
        refine zf_aload_n hC dX11_fallen_22 rfl 0 rfl ?_
        refine gf_400 hC dX11_fallen_23 ?_
        refine zf_callV hC (c_X11_settleReach l g (gI k2 10 0)) mt_X11_settleReach wd_698 sp_4 ci_10 ic_10 wd_696 rfl (rm_le hR rfl) rfl rfl (rest := []) rfl (Nat.le_of_ble_eq_true rfl) dX11_fallen_26 (fun r7 k8 h9 => ?_)
        refine zf_iload_n hC dX11_fallen_29 rfl 2 rfl ?_
        refine zf_iconst hC (v := 1) dX11_fallen_30 rfl ?_
        refine zf_icmp_ne hC (tgt := 48) dX11_fallen_31 (by decide) (fun h10 => ?_) (fun h10 => ?_)
        · refine zf_aload_n hC dX11_fallen_34 rfl 0 rfl ?_
          refine gf_416 hC dX11_fallen_35 ?_
          refine zf_aload_n hC dX11_fallen_38 rfl 0 rfl ?_
          refine gf_406 hC dX11_fallen_39 ?_
          refine zf_iload_n hC dX11_fallen_42 rfl 1 rfl ?_
          refine zf_iald hC (j := 58) ia_58 rfl rfl dX11_fallen_43 (fun h11 => ?_)
          refine zf_callV hC (c_X4_gets l g (gA k8 58 (ix a0))) mt_X4_gets wd_722 wd_723 ci_3 ic_3 wd_721 rfl (rm_le hR rfl) rfl rfl (rest := []) rfl (Nat.le_of_ble_eq_true rfl) dX11_fallen_44 (fun r12 k13 h14 => ?_)
          exact zf_lret hC rfl dX11_fallen_47
        · refine zf_aload_n hC dX11_fallen_48 rfl 0 rfl ?_
          refine gf_408 hC dX11_fallen_49 ?_
          refine zf_callV hC (c_X1_all l g) mt_X1_all wd_1067 wd_1068 ci_0 ic_0 wd_1066 rfl (rm_le hR rfl) rfl rfl (rest := []) rfl (Nat.le_of_ble_eq_true rfl) dX11_fallen_52 (fun r15 k16 h17 => ?_)
          refine zf_aload_n hC dX11_fallen_55 rfl 0 rfl ?_
          refine gf_416 hC dX11_fallen_56 ?_
          refine zf_aload_n hC dX11_fallen_59 rfl 0 rfl ?_
          refine zf_aload_n hC dX11_fallen_60 rfl 0 rfl ?_
          refine gf_406 hC dX11_fallen_61 ?_
          refine zf_iload_n hC dX11_fallen_64 rfl 1 rfl ?_
          refine zf_iald hC (j := 58) ia_58 rfl rfl dX11_fallen_65 (fun h18 => ?_)
          refine zf_callV hC (c_X11_othersThan l g (gA k16 58 (ix a0))) mt_X11_othersThan wd_1072 sp_35 ci_10 ic_10 wd_1070 rfl (rm_le hR rfl) rfl rfl (rest := [.ref (g.2.1 3), .long r15]) rfl (Nat.le_of_ble_eq_true rfl) dX11_fallen_66 (fun r19 k20 h21 => ?_)
          refine zf_callV hC (c_X4_gets l g r19) mt_X4_gets wd_722 wd_723 ci_3 ic_3 wd_721 rfl (rm_le hR rfl) rfl rfl (rest := [.long r15]) rfl (Nat.le_of_ble_eq_true rfl) dX11_fallen_69 (fun r22 k23 h24 => ?_)
          refine zf_ldc2 hC wd_695 dX11_fallen_72 ?_
          refine zf_lxor hC dX11_fallen_75 ?_
          refine zf_land hC dX11_fallen_76 ?_
          exact zf_lret hC rfl dX11_fallen_77
      · refine zf_ldc2 hC wd_695 dX11_fallen_17 ?_
        exact zf_lret hC rfl dX11_fallen_20
  · refine zf_ldc2 hC wd_695 dX11_fallen_17 ?_
    exact zf_lret hC rfl dX11_fallen_20
/-! LifeKeys.searchLeast -/
theorem dX11_searchLeast_0 : decode cX11_searchLeast 0 = .ok (.aload_n 0, 1) := by decide +kernel
theorem dX11_searchLeast_1 : decode cX11_searchLeast 1 = .ok (.getfield 26, 3) := by decide +kernel
theorem dX11_searchLeast_4 : decode cX11_searchLeast 4 = .ok (.iload_n 1, 1) := by decide +kernel
theorem dX11_searchLeast_5 : decode cX11_searchLeast 5 = .ok (.invokevirtual 114, 3) := by decide +kernel
theorem dX11_searchLeast_8 : decode cX11_searchLeast 8 = .ok (.ifCond .eq 12, 3) := by decide +kernel
theorem dX11_searchLeast_11 : decode cX11_searchLeast 11 = .ok (.iload_n 2, 1) := by decide +kernel
theorem dX11_searchLeast_12 : decode cX11_searchLeast 12 = .ok (.ifCond .lt 8, 3) := by decide +kernel
theorem dX11_searchLeast_15 : decode cX11_searchLeast 15 = .ok (.iload_n 2, 1) := by decide +kernel
theorem dX11_searchLeast_16 : decode cX11_searchLeast 16 = .ok (.iconst 1, 1) := by decide +kernel
theorem dX11_searchLeast_17 : decode cX11_searchLeast 17 = .ok (.if_icmp .le 5, 3) := by decide +kernel
theorem dX11_searchLeast_20 : decode cX11_searchLeast 20 = .ok (.iconst 0, 1) := by decide +kernel
theorem dX11_searchLeast_21 : decode cX11_searchLeast 21 = .ok (.ireturn, 1) := by decide +kernel
theorem dX11_searchLeast_22 : decode cX11_searchLeast 22 = .ok (.aload_n 0, 1) := by decide +kernel
theorem dX11_searchLeast_23 : decode cX11_searchLeast 23 = .ok (.aload_n 0, 1) := by decide +kernel
theorem dX11_searchLeast_24 : decode cX11_searchLeast 24 = .ok (.getfield 86, 3) := by decide +kernel
theorem dX11_searchLeast_27 : decode cX11_searchLeast 27 = .ok (.invokevirtual 247, 3) := by decide +kernel
theorem dX11_searchLeast_30 : decode cX11_searchLeast 30 = .ok (.aload_n 0, 1) := by decide +kernel
theorem dX11_searchLeast_31 : decode cX11_searchLeast 31 = .ok (.getfield 82, 3) := by decide +kernel
theorem dX11_searchLeast_34 : decode cX11_searchLeast 34 = .ok (.iload_n 1, 1) := by decide +kernel
theorem dX11_searchLeast_35 : decode cX11_searchLeast 35 = .ok (.iload_n 2, 1) := by decide +kernel
theorem dX11_searchLeast_36 : decode cX11_searchLeast 36 = .ok (.iconst 1, 1) := by decide +kernel
theorem dX11_searchLeast_37 : decode cX11_searchLeast 37 = .ok (.if_icmp .ne 7, 3) := by decide +kernel
theorem dX11_searchLeast_40 : decode cX11_searchLeast 40 = .ok (.iconst 1, 1) := by decide +kernel
theorem dX11_searchLeast_41 : decode cX11_searchLeast 41 = .ok (.goto 4, 3) := by decide +kernel
theorem dX11_searchLeast_44 : decode cX11_searchLeast 44 = .ok (.iconst 0, 1) := by decide +kernel
theorem dX11_searchLeast_45 : decode cX11_searchLeast 45 = .ok (.aload_n 0, 1) := by decide +kernel
theorem dX11_searchLeast_46 : decode cX11_searchLeast 46 = .ok (.invokevirtual 415, 3) := by decide +kernel
theorem dX11_searchLeast_49 : decode cX11_searchLeast 49 = .ok (.invokevirtual 461, 3) := by decide +kernel
theorem dX11_searchLeast_52 : decode cX11_searchLeast 52 = .ok (.aload_n 0, 1) := by decide +kernel
theorem dX11_searchLeast_53 : decode cX11_searchLeast 53 = .ok (.getfield 82, 3) := by decide +kernel
theorem dX11_searchLeast_56 : decode cX11_searchLeast 56 = .ok (.getfield 382, 3) := by decide +kernel
theorem dX11_searchLeast_59 : decode cX11_searchLeast 59 = .ok (.ifCond .le 7, 3) := by decide +kernel
theorem dX11_searchLeast_62 : decode cX11_searchLeast 62 = .ok (.iconst 1, 1) := by decide +kernel
theorem dX11_searchLeast_63 : decode cX11_searchLeast 63 = .ok (.goto 4, 3) := by decide +kernel
theorem dX11_searchLeast_66 : decode cX11_searchLeast 66 = .ok (.iconst 0, 1) := by decide +kernel
theorem dX11_searchLeast_67 : decode cX11_searchLeast 67 = .ok (.ireturn, 1) := by decide +kernel
def fX11_searchLeast (k : ST) (a0 : Int32) (a1 : Int32) : Option (Bool × ST) := ob (fX1_knows k a0) fun r1 k2 => if r1 = true then if a1 < 0 then some (false, k2) else if a1 ≤ 1 then ob (fX11_settleReach k2 (gI k2 10 0)) fun r7 k8 => if a1 = 1 then ob (fX11_allHolders k8) fun r11 k12 => ob (fX4_searchLeast k12 a0 true r11) fun r14 k15 => if (gI k15 3 10) ≤ 0 then some (false, k15) else some (true, k15) else ob (fX11_allHolders k8) fun r18 k19 => ob (fX4_searchLeast k19 a0 false r18) fun r21 k22 => if (gI k22 3 10) ≤ 0 then some (false, k22) else some (true, k22) else some (false, k2) else some (false, k2)
set_option maxRecDepth 20000 in
theorem c_X11_searchLeast (l : Launch) (g : GT) (a0 : Int32) (a1 : Int32) : CN l yX11_searchLeast cX11_searchLeast 3 (some .boolean) { frames := 5, cells := 0, slots := 0, locals := 112 } g TK voB [.ref (g.2.1 10), .int a0, .int a1] (fun k => fX11_searchLeast k a0 a1) := by
  refine cn_of (by decide) (Nat.le_of_ble_eq_true rfl) ?_
  intro p e s m args below meth c hC k
  have hC : HC p s m args meth c cX11_searchLeast 3 RX11 (some .boolean) g := hC
  have hR : 5 ≤ ({ frames := 5, cells := 0, slots := 0, locals := 112 } : Room).frames ∧ 112 ≤ ({ frames := 5, cells := 0, slots := 0, locals := 112 } : Room).locals := ⟨Nat.le_refl _, Nat.le_refl _⟩
  show ZF p l e _ s m args below meth c g TK voB 3 k 0 [(0, .ref (g.2.1 10)), (1, .int a0), (2, .int a1)] [] (fX11_searchLeast k a0 a1)
  unfold fX11_searchLeast
  refine zf_aload_n hC dX11_searchLeast_0 rfl 0 rfl ?_
  refine gf_408 hC dX11_searchLeast_1 ?_
  refine zf_iload_n hC dX11_searchLeast_4 rfl 1 rfl ?_
  refine zf_callV hC (c_X1_knows l g a0) mt_X1_knows wd_491 wd_492 ci_0 ic_0 wd_490 rfl (rm_le hR rfl) rfl rfl (rest := []) rfl (Nat.le_of_ble_eq_true rfl) dX11_searchLeast_5 (fun r1 k2 h3 => ?_)
  refine zf_ifb_eq hC (tgt := 20) dX11_searchLeast_8 (by decide) (fun h4 => ?_) (fun h4 => ?_)
  · refine zf_iload_n hC dX11_searchLeast_11 rfl 2 rfl ?_
    refine zf_if_lt hC (tgt := 20) dX11_searchLeast_12 (by decide) (fun h5 => ?_) (fun h5 => ?_)
    · refine zf_iconst hC (v := 0) dX11_searchLeast_20 rfl ?_
      exact zf_zret hC rfl false rfl dX11_searchLeast_21
    · refine zf_iload_n hC dX11_searchLeast_15 rfl 2 rfl ?_
      refine zf_iconst hC (v := 1) dX11_searchLeast_16 rfl ?_
      refine zf_icmp_le hC (tgt := 22) dX11_searchLeast_17 (by decide) (fun h6 => ?_) (fun h6 => ?_)
      · refine zf_aload_n hC dX11_searchLeast_22 rfl 0 rfl ?_
        refine zf_aload_n hC dX11_searchLeast_23 rfl 0 rfl ?_
        refine gf_400 hC dX11_searchLeast_24 ?_
        refine zf_callV hC (c_X11_settleReach l g (gI k2 10 0)) mt_X11_settleReach wd_698 sp_4 ci_10 ic_10 wd_696 rfl (rm_le hR rfl) rfl rfl (rest := []) rfl (Nat.le_of_ble_eq_true rfl) dX11_searchLeast_27 (fun r7 k8 h9 => ?_)
        refine zf_aload_n hC dX11_searchLeast_30 rfl 0 rfl ?_
        refine gf_416 hC dX11_searchLeast_31 ?_
        refine zf_iload_n hC dX11_searchLeast_34 rfl 1 rfl ?_
        refine zf_iload_n hC dX11_searchLeast_35 rfl 2 rfl ?_
        refine zf_iconst hC (v := 1) dX11_searchLeast_36 rfl ?_
        refine zf_icmp_ne hC (tgt := 44) dX11_searchLeast_37 (by decide) (fun h10 => ?_) (fun h10 => ?_)
        · refine zf_iconst hC (v := 1) dX11_searchLeast_40 rfl ?_
          refine zf_goto hC (tgt := 45) dX11_searchLeast_41 (by decide) ?_
          refine zf_aload_n hC dX11_searchLeast_45 rfl 0 rfl ?_
          refine zf_callV hC (c_X11_allHolders l g) mt_X11_allHolders wd_574 sp_2 ci_10 ic_10 wd_572 rfl (rm_le hR rfl) rfl rfl (rest := [.int 1, .int a0, .ref (g.2.1 3)]) rfl (Nat.le_of_ble_eq_true rfl) dX11_searchLeast_46 (fun r11 k12 h13 => ?_)
          refine zf_callV hC (c_X4_searchLeast l g a0 true r11) mt_X4_searchLeast wd_1083 wd_1084 ci_3 ic_3 wd_1082 rfl (rm_le hR rfl) rfl rfl (rest := []) rfl (Nat.le_of_ble_eq_true rfl) dX11_searchLeast_49 (fun r14 k15 h16 => ?_)
          refine zf_aload_n hC dX11_searchLeast_52 rfl 0 rfl ?_
          refine gf_416 hC dX11_searchLeast_53 ?_
          refine gf_372 hC dX11_searchLeast_56 ?_
          refine zf_if_le hC (tgt := 66) dX11_searchLeast_59 (by decide) (fun h17 => ?_) (fun h17 => ?_)
          · refine zf_iconst hC (v := 0) dX11_searchLeast_66 rfl ?_
            exact zf_zret hC rfl false rfl dX11_searchLeast_67
          · refine zf_iconst hC (v := 1) dX11_searchLeast_62 rfl ?_
            refine zf_goto hC (tgt := 67) dX11_searchLeast_63 (by decide) ?_
            exact zf_zret hC rfl true rfl dX11_searchLeast_67
        · refine zf_iconst hC (v := 0) dX11_searchLeast_44 rfl ?_
          refine zf_aload_n hC dX11_searchLeast_45 rfl 0 rfl ?_
          refine zf_callV hC (c_X11_allHolders l g) mt_X11_allHolders wd_574 sp_2 ci_10 ic_10 wd_572 rfl (rm_le hR rfl) rfl rfl (rest := [.int 0, .int a0, .ref (g.2.1 3)]) rfl (Nat.le_of_ble_eq_true rfl) dX11_searchLeast_46 (fun r18 k19 h20 => ?_)
          refine zf_callV hC (c_X4_searchLeast l g a0 false r18) mt_X4_searchLeast wd_1083 wd_1084 ci_3 ic_3 wd_1082 rfl (rm_le hR rfl) rfl rfl (rest := []) rfl (Nat.le_of_ble_eq_true rfl) dX11_searchLeast_49 (fun r21 k22 h23 => ?_)
          refine zf_aload_n hC dX11_searchLeast_52 rfl 0 rfl ?_
          refine gf_416 hC dX11_searchLeast_53 ?_
          refine gf_372 hC dX11_searchLeast_56 ?_
          refine zf_if_le hC (tgt := 66) dX11_searchLeast_59 (by decide) (fun h24 => ?_) (fun h24 => ?_)
          · refine zf_iconst hC (v := 0) dX11_searchLeast_66 rfl ?_
            exact zf_zret hC rfl false rfl dX11_searchLeast_67
          · refine zf_iconst hC (v := 1) dX11_searchLeast_62 rfl ?_
            refine zf_goto hC (tgt := 67) dX11_searchLeast_63 (by decide) ?_
            exact zf_zret hC rfl true rfl dX11_searchLeast_67
      · refine zf_iconst hC (v := 0) dX11_searchLeast_20 rfl ?_
        exact zf_zret hC rfl false rfl dX11_searchLeast_21
  · refine zf_iconst hC (v := 0) dX11_searchLeast_20 rfl ?_
    exact zf_zret hC rfl false rfl dX11_searchLeast_21
/-! LifeKeys.least -/
theorem dX11_least_0 : decode cX11_least 0 = .ok (.aload_n 0, 1) := by decide +kernel
theorem dX11_least_1 : decode cX11_least 1 = .ok (.iload_n 1, 1) := by decide +kernel
theorem dX11_least_2 : decode cX11_least 2 = .ok (.iload_n 2, 1) := by decide +kernel
theorem dX11_least_3 : decode cX11_least 3 = .ok (.invokevirtual 376, 3) := by decide +kernel
theorem dX11_least_6 : decode cX11_least 6 = .ok (.ifCond .eq 13, 3) := by decide +kernel
theorem dX11_least_9 : decode cX11_least 9 = .ok (.aload_n 0, 1) := by decide +kernel
theorem dX11_least_10 : decode cX11_least 10 = .ok (.getfield 82, 3) := by decide +kernel
theorem dX11_least_13 : decode cX11_least 13 = .ok (.getfield 379, 3) := by decide +kernel
theorem dX11_least_16 : decode cX11_least 16 = .ok (.goto 4, 3) := by decide +kernel
theorem dX11_least_19 : decode cX11_least 19 = .ok (.iconst (-1), 1) := by decide +kernel
theorem dX11_least_20 : decode cX11_least 20 = .ok (.ireturn, 1) := by decide +kernel
def fX11_least (k : ST) (a0 : Int32) (a1 : Int32) : Option (Int32 × ST) := ob (fX11_searchLeast k a0 a1) fun r1 k2 => if r1 = true then some (gI k2 3 9, k2) else some ((-1), k2)
set_option maxRecDepth 20000 in
theorem c_X11_least (l : Launch) (g : GT) (a0 : Int32) (a1 : Int32) : CN l yX11_least cX11_least 3 (some .int) { frames := 6, cells := 0, slots := 0, locals := 134 } g TK voI [.ref (g.2.1 10), .int a0, .int a1] (fun k => fX11_least k a0 a1) := by
  refine cn_of (by decide) (Nat.le_of_ble_eq_true rfl) ?_
  intro p e s m args below meth c hC k
  have hC : HC p s m args meth c cX11_least 3 RX11 (some .int) g := hC
  have hR : 6 ≤ ({ frames := 6, cells := 0, slots := 0, locals := 134 } : Room).frames ∧ 134 ≤ ({ frames := 6, cells := 0, slots := 0, locals := 134 } : Room).locals := ⟨Nat.le_refl _, Nat.le_refl _⟩
  show ZF p l e _ s m args below meth c g TK voI 3 k 0 [(0, .ref (g.2.1 10)), (1, .int a0), (2, .int a1)] [] (fX11_least k a0 a1)
  unfold fX11_least
  refine zf_aload_n hC dX11_least_0 rfl 0 rfl ?_
  refine zf_iload_n hC dX11_least_1 rfl 1 rfl ?_
  refine zf_iload_n hC dX11_least_2 rfl 2 rfl ?_
  refine zf_callV hC (c_X11_searchLeast l g a0 a1) mt_X11_searchLeast wd_1080 sp_36 ci_10 ic_10 wd_1078 rfl (rm_le hR rfl) rfl rfl (rest := []) rfl (Nat.le_of_ble_eq_true rfl) dX11_least_3 (fun r1 k2 h3 => ?_)
  refine zf_ifb_eq hC (tgt := 19) dX11_least_6 (by decide) (fun h4 => ?_) (fun h4 => ?_)
  · refine zf_aload_n hC dX11_least_9 rfl 0 rfl ?_
    refine gf_416 hC dX11_least_10 ?_
    refine gf_370 hC dX11_least_13 ?_
    refine zf_goto hC (tgt := 20) dX11_least_16 (by decide) ?_
    exact zf_iret hC rfl dX11_least_20
  · refine zf_iconst hC (v := (-1)) dX11_least_19 rfl ?_
    exact zf_iret hC rfl dX11_least_20
/-! LifeKeys.ways -/
theorem dX11_ways_0 : decode cX11_ways 0 = .ok (.aload_n 0, 1) := by decide +kernel
theorem dX11_ways_1 : decode cX11_ways 1 = .ok (.iload_n 1, 1) := by decide +kernel
theorem dX11_ways_2 : decode cX11_ways 2 = .ok (.iload_n 2, 1) := by decide +kernel
theorem dX11_ways_3 : decode cX11_ways 3 = .ok (.invokevirtual 376, 3) := by decide +kernel
theorem dX11_ways_6 : decode cX11_ways 6 = .ok (.ifCond .eq 13, 3) := by decide +kernel
theorem dX11_ways_9 : decode cX11_ways 9 = .ok (.aload_n 0, 1) := by decide +kernel
theorem dX11_ways_10 : decode cX11_ways 10 = .ok (.getfield 82, 3) := by decide +kernel
theorem dX11_ways_13 : decode cX11_ways 13 = .ok (.getfield 382, 3) := by decide +kernel
theorem dX11_ways_16 : decode cX11_ways 16 = .ok (.goto 4, 3) := by decide +kernel
theorem dX11_ways_19 : decode cX11_ways 19 = .ok (.iconst (-1), 1) := by decide +kernel
theorem dX11_ways_20 : decode cX11_ways 20 = .ok (.ireturn, 1) := by decide +kernel
def fX11_ways (k : ST) (a0 : Int32) (a1 : Int32) : Option (Int32 × ST) := ob (fX11_searchLeast k a0 a1) fun r1 k2 => if r1 = true then some (gI k2 3 10, k2) else some ((-1), k2)
set_option maxRecDepth 20000 in
theorem c_X11_ways (l : Launch) (g : GT) (a0 : Int32) (a1 : Int32) : CN l yX11_ways cX11_ways 3 (some .int) { frames := 6, cells := 0, slots := 0, locals := 134 } g TK voI [.ref (g.2.1 10), .int a0, .int a1] (fun k => fX11_ways k a0 a1) := by
  refine cn_of (by decide) (Nat.le_of_ble_eq_true rfl) ?_
  intro p e s m args below meth c hC k
  have hC : HC p s m args meth c cX11_ways 3 RX11 (some .int) g := hC
  have hR : 6 ≤ ({ frames := 6, cells := 0, slots := 0, locals := 134 } : Room).frames ∧ 134 ≤ ({ frames := 6, cells := 0, slots := 0, locals := 134 } : Room).locals := ⟨Nat.le_refl _, Nat.le_refl _⟩
  show ZF p l e _ s m args below meth c g TK voI 3 k 0 [(0, .ref (g.2.1 10)), (1, .int a0), (2, .int a1)] [] (fX11_ways k a0 a1)
  unfold fX11_ways
  refine zf_aload_n hC dX11_ways_0 rfl 0 rfl ?_
  refine zf_iload_n hC dX11_ways_1 rfl 1 rfl ?_
  refine zf_iload_n hC dX11_ways_2 rfl 2 rfl ?_
  refine zf_callV hC (c_X11_searchLeast l g a0 a1) mt_X11_searchLeast wd_1080 sp_36 ci_10 ic_10 wd_1078 rfl (rm_le hR rfl) rfl rfl (rest := []) rfl (Nat.le_of_ble_eq_true rfl) dX11_ways_3 (fun r1 k2 h3 => ?_)
  refine zf_ifb_eq hC (tgt := 19) dX11_ways_6 (by decide) (fun h4 => ?_) (fun h4 => ?_)
  · refine zf_aload_n hC dX11_ways_9 rfl 0 rfl ?_
    refine gf_416 hC dX11_ways_10 ?_
    refine gf_372 hC dX11_ways_13 ?_
    refine zf_goto hC (tgt := 20) dX11_ways_16 (by decide) ?_
    exact zf_iret hC rfl dX11_ways_20
  · refine zf_iconst hC (v := (-1)) dX11_ways_19 rfl ?_
    exact zf_iret hC rfl dX11_ways_20
/-! LifeKeys.first -/
theorem dX11_first_0 : decode cX11_first 0 = .ok (.aload_n 0, 1) := by decide +kernel
theorem dX11_first_1 : decode cX11_first 1 = .ok (.iload_n 1, 1) := by decide +kernel
theorem dX11_first_2 : decode cX11_first 2 = .ok (.iload_n 2, 1) := by decide +kernel
theorem dX11_first_3 : decode cX11_first 3 = .ok (.invokevirtual 376, 3) := by decide +kernel
theorem dX11_first_6 : decode cX11_first 6 = .ok (.ifCond .eq 13, 3) := by decide +kernel
theorem dX11_first_9 : decode cX11_first 9 = .ok (.aload_n 0, 1) := by decide +kernel
theorem dX11_first_10 : decode cX11_first 10 = .ok (.getfield 82, 3) := by decide +kernel
theorem dX11_first_13 : decode cX11_first 13 = .ok (.getfield 385, 3) := by decide +kernel
theorem dX11_first_16 : decode cX11_first 16 = .ok (.goto 4, 3) := by decide +kernel
theorem dX11_first_19 : decode cX11_first 19 = .ok (.iconst (-1), 1) := by decide +kernel
theorem dX11_first_20 : decode cX11_first 20 = .ok (.ireturn, 1) := by decide +kernel
def fX11_first (k : ST) (a0 : Int32) (a1 : Int32) : Option (Int32 × ST) := ob (fX11_searchLeast k a0 a1) fun r1 k2 => if r1 = true then some (gI k2 3 11, k2) else some ((-1), k2)
set_option maxRecDepth 20000 in
theorem c_X11_first (l : Launch) (g : GT) (a0 : Int32) (a1 : Int32) : CN l yX11_first cX11_first 3 (some .int) { frames := 6, cells := 0, slots := 0, locals := 134 } g TK voI [.ref (g.2.1 10), .int a0, .int a1] (fun k => fX11_first k a0 a1) := by
  refine cn_of (by decide) (Nat.le_of_ble_eq_true rfl) ?_
  intro p e s m args below meth c hC k
  have hC : HC p s m args meth c cX11_first 3 RX11 (some .int) g := hC
  have hR : 6 ≤ ({ frames := 6, cells := 0, slots := 0, locals := 134 } : Room).frames ∧ 134 ≤ ({ frames := 6, cells := 0, slots := 0, locals := 134 } : Room).locals := ⟨Nat.le_refl _, Nat.le_refl _⟩
  show ZF p l e _ s m args below meth c g TK voI 3 k 0 [(0, .ref (g.2.1 10)), (1, .int a0), (2, .int a1)] [] (fX11_first k a0 a1)
  unfold fX11_first
  refine zf_aload_n hC dX11_first_0 rfl 0 rfl ?_
  refine zf_iload_n hC dX11_first_1 rfl 1 rfl ?_
  refine zf_iload_n hC dX11_first_2 rfl 2 rfl ?_
  refine zf_callV hC (c_X11_searchLeast l g a0 a1) mt_X11_searchLeast wd_1080 sp_36 ci_10 ic_10 wd_1078 rfl (rm_le hR rfl) rfl rfl (rest := []) rfl (Nat.le_of_ble_eq_true rfl) dX11_first_3 (fun r1 k2 h3 => ?_)
  refine zf_ifb_eq hC (tgt := 19) dX11_first_6 (by decide) (fun h4 => ?_) (fun h4 => ?_)
  · refine zf_aload_n hC dX11_first_9 rfl 0 rfl ?_
    refine gf_416 hC dX11_first_10 ?_
    refine gf_374 hC dX11_first_13 ?_
    refine zf_goto hC (tgt := 20) dX11_first_16 (by decide) ?_
    exact zf_iret hC rfl dX11_first_20
  · refine zf_iconst hC (v := (-1)) dX11_first_19 rfl ?_
    exact zf_iret hC rfl dX11_first_20
/-! LifeKeys.outlastsFalls -/
theorem dX11_outlastsFalls_0 : decode cX11_outlastsFalls 0 = .ok (.aload_n 0, 1) := by decide +kernel
theorem dX11_outlastsFalls_1 : decode cX11_outlastsFalls 1 = .ok (.getfield 40, 3) := by decide +kernel
theorem dX11_outlastsFalls_4 : decode cX11_outlastsFalls 4 = .ok (.getfield 191, 3) := by decide +kernel
theorem dX11_outlastsFalls_7 : decode cX11_outlastsFalls 7 = .ok (.iload_n 1, 1) := by decide +kernel
theorem dX11_outlastsFalls_8 : decode cX11_outlastsFalls 8 = .ok (.iaload, 1) := by decide +kernel
theorem dX11_outlastsFalls_9 : decode cX11_outlastsFalls 9 = .ok (.istore_n 3, 1) := by decide +kernel
theorem dX11_outlastsFalls_10 : decode cX11_outlastsFalls 10 = .ok (.aload_n 0, 1) := by decide +kernel
theorem dX11_outlastsFalls_11 : decode cX11_outlastsFalls 11 = .ok (.getfield 82, 3) := by decide +kernel
theorem dX11_outlastsFalls_14 : decode cX11_outlastsFalls 14 = .ok (.getfield 464, 3) := by decide +kernel
theorem dX11_outlastsFalls_17 : decode cX11_outlastsFalls 17 = .ok (.iload_n 1, 1) := by decide +kernel
theorem dX11_outlastsFalls_18 : decode cX11_outlastsFalls 18 = .ok (.iload_n 2, 1) := by decide +kernel
theorem dX11_outlastsFalls_19 : decode cX11_outlastsFalls 19 = .ok (.iastore, 1) := by decide +kernel
theorem dX11_outlastsFalls_20 : decode cX11_outlastsFalls 20 = .ok (.iconst 0, 1) := by decide +kernel
theorem dX11_outlastsFalls_21 : decode cX11_outlastsFalls 21 = .ok (.istore 4, 2) := by decide +kernel
theorem dX11_outlastsFalls_23 : decode cX11_outlastsFalls 23 = .ok (.iload 4, 2) := by decide +kernel
theorem dX11_outlastsFalls_25 : decode cX11_outlastsFalls 25 = .ok (.aload_n 0, 1) := by decide +kernel
theorem dX11_outlastsFalls_26 : decode cX11_outlastsFalls 26 = .ok (.getfield 363, 3) := by decide +kernel
theorem dX11_outlastsFalls_29 : decode cX11_outlastsFalls 29 = .ok (.if_icmp .ge 65, 3) := by decide +kernel
theorem dX11_outlastsFalls_32 : decode cX11_outlastsFalls 32 = .ok (.aload_n 0, 1) := by decide +kernel
theorem dX11_outlastsFalls_33 : decode cX11_outlastsFalls 33 = .ok (.getfield 82, 3) := by decide +kernel
theorem dX11_outlastsFalls_36 : decode cX11_outlastsFalls 36 = .ok (.aload_n 0, 1) := by decide +kernel
theorem dX11_outlastsFalls_37 : decode cX11_outlastsFalls 37 = .ok (.getfield 13, 3) := by decide +kernel
theorem dX11_outlastsFalls_40 : decode cX11_outlastsFalls 40 = .ok (.iload 4, 2) := by decide +kernel
theorem dX11_outlastsFalls_42 : decode cX11_outlastsFalls 42 = .ok (.iaload, 1) := by decide +kernel
theorem dX11_outlastsFalls_43 : decode cX11_outlastsFalls 43 = .ok (.invokevirtual 250, 3) := by decide +kernel
theorem dX11_outlastsFalls_46 : decode cX11_outlastsFalls 46 = .ok (.iload_n 3, 1) := by decide +kernel
theorem dX11_outlastsFalls_47 : decode cX11_outlastsFalls 47 = .ok (.invokestatic 441, 3) := by decide +kernel
theorem dX11_outlastsFalls_50 : decode cX11_outlastsFalls 50 = .ok (.istore 5, 2) := by decide +kernel
theorem dX11_outlastsFalls_52 : decode cX11_outlastsFalls 52 = .ok (.aload_n 0, 1) := by decide +kernel
theorem dX11_outlastsFalls_53 : decode cX11_outlastsFalls 53 = .ok (.getfield 82, 3) := by decide +kernel
theorem dX11_outlastsFalls_56 : decode cX11_outlastsFalls 56 = .ok (.aload_n 0, 1) := by decide +kernel
theorem dX11_outlastsFalls_57 : decode cX11_outlastsFalls 57 = .ok (.aload_n 0, 1) := by decide +kernel
theorem dX11_outlastsFalls_58 : decode cX11_outlastsFalls 58 = .ok (.getfield 13, 3) := by decide +kernel
theorem dX11_outlastsFalls_61 : decode cX11_outlastsFalls 61 = .ok (.iload 4, 2) := by decide +kernel
theorem dX11_outlastsFalls_63 : decode cX11_outlastsFalls 63 = .ok (.iaload, 1) := by decide +kernel
theorem dX11_outlastsFalls_64 : decode cX11_outlastsFalls 64 = .ok (.invokevirtual 373, 3) := by decide +kernel
theorem dX11_outlastsFalls_67 : decode cX11_outlastsFalls 67 = .ok (.invokevirtual 250, 3) := by decide +kernel
theorem dX11_outlastsFalls_70 : decode cX11_outlastsFalls 70 = .ok (.iload_n 3, 1) := by decide +kernel
theorem dX11_outlastsFalls_71 : decode cX11_outlastsFalls 71 = .ok (.invokestatic 441, 3) := by decide +kernel
theorem dX11_outlastsFalls_74 : decode cX11_outlastsFalls 74 = .ok (.istore 6, 2) := by decide +kernel
theorem dX11_outlastsFalls_76 : decode cX11_outlastsFalls 76 = .ok (.iload 5, 2) := by decide +kernel
theorem dX11_outlastsFalls_78 : decode cX11_outlastsFalls 78 = .ok (.ifCond .ne 8, 3) := by decide +kernel
theorem dX11_outlastsFalls_81 : decode cX11_outlastsFalls 81 = .ok (.iload 6, 2) := by decide +kernel
theorem dX11_outlastsFalls_83 : decode cX11_outlastsFalls 83 = .ok (.ifCond .ne 5, 3) := by decide +kernel
theorem dX11_outlastsFalls_86 : decode cX11_outlastsFalls 86 = .ok (.iconst 0, 1) := by decide +kernel
theorem dX11_outlastsFalls_87 : decode cX11_outlastsFalls 87 = .ok (.ireturn, 1) := by decide +kernel
theorem dX11_outlastsFalls_88 : decode cX11_outlastsFalls 88 = .ok (.iinc 4 1, 3) := by decide +kernel
theorem dX11_outlastsFalls_91 : decode cX11_outlastsFalls 91 = .ok (.goto (-68), 3) := by decide +kernel
theorem dX11_outlastsFalls_94 : decode cX11_outlastsFalls 94 = .ok (.iconst 1, 1) := by decide +kernel
theorem dX11_outlastsFalls_95 : decode cX11_outlastsFalls 95 = .ok (.ireturn, 1) := by decide +kernel
def lpX11_outlastsFalls_23 (v1 : Int32) (v2 : Int32) (v3 : Int32) : Nat → Int32 → ST → (Int32 → ST → Option (Bool × ST)) → Option (Bool × ST)
  | 0, _, _, _ => none
  | n + 1, v4, k, cont => if (gI k 10 5) ≤ v4 then cont v4 k else ck (inb v4 20) (ob (fX4_gets k (gA k 58 (ix v4))) fun r6 k7 => ob (fX11_hasKey k7 r6 v3) fun r9 k10 => ck (inb v4 20) (ob (fX11_othersThan k10 (gA k10 58 (ix v4))) fun r13 k14 => ob (fX4_gets k14 r13) fun r16 k17 => ob (fX11_hasKey k17 r16 v3) fun r19 k20 => if r9 = true then some (false, k20) else if r19 = true then lpX11_outlastsFalls_23 v1 v2 v3 n (v4 + 1) k20 cont else some (false, k20)))
set_option maxRecDepth 20000 in
theorem zlpX11_outlastsFalls_23 {p : Program} {l : Launch} {e : Env} {R : Room} {s : State} {m : MethodId} {args : Array Value} {below : List Frame} {meth : Method} {c : Code} {g : GT} (hC : HC p s m args meth c cX11_outlastsFalls 7 RX11 (some .boolean) g) (hR : 4 ≤ R.frames ∧ 87 ≤ R.locals)  (v1 : Int32) (v2 : Int32) (v3 : Int32) {cont : Int32 → ST → Option (Bool × ST)} (hk : ∀ (v4 : Int32) (k : ST), ZF p l e R s m args below meth c g TK voB 7 k 94 [(0, .ref (g.2.1 10)), (1, .int v1), (2, .int v2), (3, .int v3), (4, .int v4)] [] (cont v4 k)) : ∀ (n : Nat) (v4 : Int32) (k : ST), ZF p l e R s m args below meth c g TK voB 7 k 23 [(0, .ref (g.2.1 10)), (1, .int v1), (2, .int v2), (3, .int v3), (4, .int v4)] [] (lpX11_outlastsFalls_23 v1 v2 v3 n v4 k cont) := by
  intro n
  induction n with
  | zero => intros; exact zf_none
  | succ n ih =>
    intro v4 k
    rw [lpX11_outlastsFalls_23]
    refine zf_iload hC dX11_outlastsFalls_23 4 rfl ?_
    refine zf_aload_n hC dX11_outlastsFalls_25 rfl 0 rfl ?_
    refine gf_405 hC dX11_outlastsFalls_26 ?_
    refine zf_icmp_ge hC (tgt := 94) dX11_outlastsFalls_29 (by decide) (fun h4 => ?_) (fun h4 => ?_)
    · refine zf_lv (LV' := [(0, .ref (g.2.1 10)), (1, .int v1), (2, .int v2), (3, .int v3), (4, .int v4)]) [0, 1, 2, 3, 4] rfl ?_
      exact hk v4 k
    · refine zf_aload_n hC dX11_outlastsFalls_32 rfl 0 rfl ?_
      refine gf_416 hC dX11_outlastsFalls_33 ?_
      refine zf_aload_n hC dX11_outlastsFalls_36 rfl 0 rfl ?_
      refine gf_406 hC dX11_outlastsFalls_37 ?_
      refine zf_iload hC dX11_outlastsFalls_40 4 rfl ?_
      refine zf_iald hC (j := 58) ia_58 rfl rfl dX11_outlastsFalls_42 (fun h5 => ?_)
      refine zf_callV hC (c_X4_gets l g (gA k 58 (ix v4))) mt_X4_gets wd_722 wd_723 ci_3 ic_3 wd_721 rfl (rm_le hR rfl) rfl rfl (rest := []) rfl (Nat.le_of_ble_eq_true rfl) dX11_outlastsFalls_43 (fun r6 k7 h8 => ?_)
      refine zf_iload_n hC dX11_outlastsFalls_46 rfl 3 rfl ?_
      refine zf_callS hC (c_X11_hasKey l g TK r6 v3) mt_X11_hasKey wd_538 wd_941 rfl (rm_le hR rfl) rfl rfl (rest := []) rfl (Nat.le_of_ble_eq_true rfl) dX11_outlastsFalls_47 (fun r9 k10 h11 => ?_)
      refine zf_istore hC (LV' := [(5, .int (b2i r9)), (0, .ref (g.2.1 10)), (1, .int v1), (2, .int v2), (3, .int v3), (4, .int v4)]) dX11_outlastsFalls_50 (by decide) rfl ?_
      refine zf_aload_n hC dX11_outlastsFalls_52 rfl 1 rfl ?_
      refine gf_416 hC dX11_outlastsFalls_53 ?_
      refine zf_aload_n hC dX11_outlastsFalls_56 rfl 1 rfl ?_
      refine zf_aload_n hC dX11_outlastsFalls_57 rfl 1 rfl ?_
      refine gf_406 hC dX11_outlastsFalls_58 ?_
      refine zf_iload hC dX11_outlastsFalls_61 5 rfl ?_
      refine zf_iald hC (j := 58) ia_58 rfl rfl dX11_outlastsFalls_63 (fun h12 => ?_)
      refine zf_callV hC (c_X11_othersThan l g (gA k10 58 (ix v4))) mt_X11_othersThan wd_1072 sp_35 ci_10 ic_10 wd_1070 rfl (rm_le hR rfl) rfl rfl (rest := [.ref (g.2.1 3)]) rfl (Nat.le_of_ble_eq_true rfl) dX11_outlastsFalls_64 (fun r13 k14 h15 => ?_)
      refine zf_callV hC (c_X4_gets l g r13) mt_X4_gets wd_722 wd_723 ci_3 ic_3 wd_721 rfl (rm_le hR rfl) rfl rfl (rest := []) rfl (Nat.le_of_ble_eq_true rfl) dX11_outlastsFalls_67 (fun r16 k17 h18 => ?_)
      refine zf_iload_n hC dX11_outlastsFalls_70 rfl 4 rfl ?_
      refine zf_callS hC (c_X11_hasKey l g TK r16 v3) mt_X11_hasKey wd_538 wd_941 rfl (rm_le hR rfl) rfl rfl (rest := []) rfl (Nat.le_of_ble_eq_true rfl) dX11_outlastsFalls_71 (fun r19 k20 h21 => ?_)
      refine zf_istore hC (LV' := [(6, .int (b2i r19)), (5, .int (b2i r9)), (0, .ref (g.2.1 10)), (1, .int v1), (2, .int v2), (3, .int v3), (4, .int v4)]) dX11_outlastsFalls_74 (by decide) rfl ?_
      refine zf_iload hC dX11_outlastsFalls_76 1 rfl ?_
      refine zf_ifb_ne hC (tgt := 86) dX11_outlastsFalls_78 (by decide) (fun h22 => ?_) (fun h22 => ?_)
      · refine zf_iconst hC (v := 0) dX11_outlastsFalls_86 rfl ?_
        exact zf_zret hC rfl false rfl dX11_outlastsFalls_87
      · refine zf_iload hC dX11_outlastsFalls_81 0 rfl ?_
        refine zf_ifb_ne hC (tgt := 88) dX11_outlastsFalls_83 (by decide) (fun h23 => ?_) (fun h23 => ?_)
        · refine zf_iinc hC (q := 6) (v := v4 + 1) (LV' := [(4, .int (v4 + 1)), (6, .int (b2i r19)), (5, .int (b2i r9)), (0, .ref (g.2.1 10)), (1, .int v1), (2, .int v2), (3, .int v3)]) dX11_outlastsFalls_88 rfl rfl (by decide) rfl ?_
          refine zf_goto hC (tgt := 23) dX11_outlastsFalls_91 (by decide) ?_
          refine zf_lv (LV' := [(0, .ref (g.2.1 10)), (1, .int v1), (2, .int v2), (3, .int v3), (4, .int (v4 + 1))]) [3, 4, 5, 6, 0] rfl ?_
          exact ih (v4 + 1) k20
        · refine zf_iconst hC (v := 0) dX11_outlastsFalls_86 rfl ?_
          exact zf_zret hC rfl false rfl dX11_outlastsFalls_87
def fX11_outlastsFalls (k : ST) (a0 : Int32) (a1 : Int32) : Option (Bool × ST) := ck (inb a0 40) (ck (inb a0 40) (nm (sA k 22 (ix a0) a1) fun k3 => lpX11_outlastsFalls_23 a0 a1 (gA k 13 (ix a0)) FU 0 k3 fun y24 k25 => some (true, k25)))
set_option maxRecDepth 20000 in
theorem c_X11_outlastsFalls (l : Launch) (g : GT) (a0 : Int32) (a1 : Int32) : CN l yX11_outlastsFalls cX11_outlastsFalls 7 (some .boolean) { frames := 4, cells := 0, slots := 0, locals := 87 } g TK voB [.ref (g.2.1 10), .int a0, .int a1] (fun k => fX11_outlastsFalls k a0 a1) := by
  refine cn_of (by decide) (Nat.le_of_ble_eq_true rfl) ?_
  intro p e s m args below meth c hC k
  have hC : HC p s m args meth c cX11_outlastsFalls 7 RX11 (some .boolean) g := hC
  have hR : 4 ≤ ({ frames := 4, cells := 0, slots := 0, locals := 87 } : Room).frames ∧ 87 ≤ ({ frames := 4, cells := 0, slots := 0, locals := 87 } : Room).locals := ⟨Nat.le_refl _, Nat.le_refl _⟩
  show ZF p l e _ s m args below meth c g TK voB 7 k 0 [(0, .ref (g.2.1 10)), (1, .int a0), (2, .int a1)] [] (fX11_outlastsFalls k a0 a1)
  unfold fX11_outlastsFalls
  refine zf_aload_n hC dX11_outlastsFalls_0 rfl 0 rfl ?_
  refine gf_410 hC dX11_outlastsFalls_1 ?_
  refine gf_145 hC dX11_outlastsFalls_4 ?_
  refine zf_iload_n hC dX11_outlastsFalls_7 rfl 1 rfl ?_
  refine zf_iald hC (j := 13) ia_13 rfl rfl dX11_outlastsFalls_8 (fun h1 => ?_)
  refine zf_istore_n hC (LV' := [(3, .int (gA k 13 (ix a0))), (0, .ref (g.2.1 10)), (1, .int a0), (2, .int a1)]) dX11_outlastsFalls_9 rfl (by decide) rfl ?_
  refine zf_aload_n hC dX11_outlastsFalls_10 rfl 1 rfl ?_
  refine gf_416 hC dX11_outlastsFalls_11 ?_
  refine gf_363 hC dX11_outlastsFalls_14 ?_
  refine zf_iload_n hC dX11_outlastsFalls_17 rfl 2 rfl ?_
  refine zf_iload_n hC dX11_outlastsFalls_18 rfl 3 rfl ?_
  refine zf_iast hC (j := 22) ia_22 rfl rfl dX11_outlastsFalls_19 (fun h2 => ?_)
  refine zf_nmk (fun k3 => ?_)
  refine zf_iconst hC (v := 0) dX11_outlastsFalls_20 rfl ?_
  refine zf_istore hC (LV' := [(4, .int 0), (3, .int (gA k 13 (ix a0))), (0, .ref (g.2.1 10)), (1, .int a0), (2, .int a1)]) dX11_outlastsFalls_21 (by decide) rfl ?_
  refine zf_lv (LV' := [(0, .ref (g.2.1 10)), (1, .int a0), (2, .int a1), (3, .int (gA k 13 (ix a0))), (4, .int 0)]) [2, 3, 4, 1, 0] rfl ?_
  refine zlpX11_outlastsFalls_23 hC hR a0 a1 (gA k 13 (ix a0)) (fun y24 k25 => ?_) FU 0 k3
  refine zf_iconst hC (v := 1) dX11_outlastsFalls_94 rfl ?_
  exact zf_zret hC rfl true rfl dX11_outlastsFalls_95
/-! LifeKeys.better -/
theorem dX11_better_0 : decode cX11_better 0 = .ok (.aload_n 0, 1) := by decide +kernel
theorem dX11_better_1 : decode cX11_better 1 = .ok (.getfield 40, 3) := by decide +kernel
theorem dX11_better_4 : decode cX11_better 4 = .ok (.iload_n 1, 1) := by decide +kernel
theorem dX11_better_5 : decode cX11_better 5 = .ok (.aload_n 0, 1) := by decide +kernel
theorem dX11_better_6 : decode cX11_better 6 = .ok (.getfield 86, 3) := by decide +kernel
theorem dX11_better_9 : decode cX11_better 9 = .ok (.invokevirtual 188, 3) := by decide +kernel
theorem dX11_better_12 : decode cX11_better 12 = .ok (.ifCond .ne 5, 3) := by decide +kernel
theorem dX11_better_15 : decode cX11_better 15 = .ok (.iconst (-1), 1) := by decide +kernel
theorem dX11_better_16 : decode cX11_better 16 = .ok (.ireturn, 1) := by decide +kernel
theorem dX11_better_17 : decode cX11_better 17 = .ok (.aload_n 0, 1) := by decide +kernel
theorem dX11_better_18 : decode cX11_better 18 = .ok (.aload_n 0, 1) := by decide +kernel
theorem dX11_better_19 : decode cX11_better 19 = .ok (.getfield 86, 3) := by decide +kernel
theorem dX11_better_22 : decode cX11_better 22 = .ok (.invokevirtual 247, 3) := by decide +kernel
theorem dX11_better_25 : decode cX11_better 25 = .ok (.aload_n 0, 1) := by decide +kernel
theorem dX11_better_26 : decode cX11_better 26 = .ok (.getfield 40, 3) := by decide +kernel
theorem dX11_better_29 : decode cX11_better 29 = .ok (.getfield 197, 3) := by decide +kernel
theorem dX11_better_32 : decode cX11_better 32 = .ok (.iload_n 1, 1) := by decide +kernel
theorem dX11_better_33 : decode cX11_better 33 = .ok (.iaload, 1) := by decide +kernel
theorem dX11_better_34 : decode cX11_better 34 = .ok (.istore_n 2, 1) := by decide +kernel
theorem dX11_better_35 : decode cX11_better 35 = .ok (.aload_n 0, 1) := by decide +kernel
theorem dX11_better_36 : decode cX11_better 36 = .ok (.getfield 40, 3) := by decide +kernel
theorem dX11_better_39 : decode cX11_better 39 = .ok (.getfield 194, 3) := by decide +kernel
theorem dX11_better_42 : decode cX11_better 42 = .ok (.iload_n 1, 1) := by decide +kernel
theorem dX11_better_43 : decode cX11_better 43 = .ok (.iaload, 1) := by decide +kernel
theorem dX11_better_44 : decode cX11_better 44 = .ok (.invokestatic 178, 3) := by decide +kernel
theorem dX11_better_47 : decode cX11_better 47 = .ok (.istore_n 3, 1) := by decide +kernel
theorem dX11_better_48 : decode cX11_better 48 = .ok (.iconst 0, 1) := by decide +kernel
theorem dX11_better_49 : decode cX11_better 49 = .ok (.istore 4, 2) := by decide +kernel
theorem dX11_better_51 : decode cX11_better 51 = .ok (.iload 4, 2) := by decide +kernel
theorem dX11_better_53 : decode cX11_better 53 = .ok (.bipush 12, 2) := by decide +kernel
theorem dX11_better_55 : decode cX11_better 55 = .ok (.if_icmp .ge 59, 3) := by decide +kernel
theorem dX11_better_58 : decode cX11_better 58 = .ok (.iload_n 2, 1) := by decide +kernel
theorem dX11_better_59 : decode cX11_better 59 = .ok (.iload 4, 2) := by decide +kernel
theorem dX11_better_61 : decode cX11_better 61 = .ok (.isub, 1) := by decide +kernel
theorem dX11_better_62 : decode cX11_better 62 = .ok (.iconst 1, 1) := by decide +kernel
theorem dX11_better_63 : decode cX11_better 63 = .ok (.if_icmp .lt 20, 3) := by decide +kernel
theorem dX11_better_66 : decode cX11_better 66 = .ok (.aload_n 0, 1) := by decide +kernel
theorem dX11_better_67 : decode cX11_better 67 = .ok (.iload_n 1, 1) := by decide +kernel
theorem dX11_better_68 : decode cX11_better 68 = .ok (.iload_n 2, 1) := by decide +kernel
theorem dX11_better_69 : decode cX11_better 69 = .ok (.iload 4, 2) := by decide +kernel
theorem dX11_better_71 : decode cX11_better 71 = .ok (.isub, 1) := by decide +kernel
theorem dX11_better_72 : decode cX11_better 72 = .ok (.invokevirtual 388, 3) := by decide +kernel
theorem dX11_better_75 : decode cX11_better 75 = .ok (.ifCond .eq 8, 3) := by decide +kernel
theorem dX11_better_78 : decode cX11_better 78 = .ok (.iload_n 2, 1) := by decide +kernel
theorem dX11_better_79 : decode cX11_better 79 = .ok (.iload 4, 2) := by decide +kernel
theorem dX11_better_81 : decode cX11_better 81 = .ok (.isub, 1) := by decide +kernel
theorem dX11_better_82 : decode cX11_better 82 = .ok (.ireturn, 1) := by decide +kernel
theorem dX11_better_83 : decode cX11_better 83 = .ok (.iload_n 2, 1) := by decide +kernel
theorem dX11_better_84 : decode cX11_better 84 = .ok (.iload 4, 2) := by decide +kernel
theorem dX11_better_86 : decode cX11_better 86 = .ok (.iadd, 1) := by decide +kernel
theorem dX11_better_87 : decode cX11_better 87 = .ok (.iload_n 3, 1) := by decide +kernel
theorem dX11_better_88 : decode cX11_better 88 = .ok (.if_icmp .gt 20, 3) := by decide +kernel
theorem dX11_better_91 : decode cX11_better 91 = .ok (.aload_n 0, 1) := by decide +kernel
theorem dX11_better_92 : decode cX11_better 92 = .ok (.iload_n 1, 1) := by decide +kernel
theorem dX11_better_93 : decode cX11_better 93 = .ok (.iload_n 2, 1) := by decide +kernel
theorem dX11_better_94 : decode cX11_better 94 = .ok (.iload 4, 2) := by decide +kernel
theorem dX11_better_96 : decode cX11_better 96 = .ok (.iadd, 1) := by decide +kernel
theorem dX11_better_97 : decode cX11_better 97 = .ok (.invokevirtual 388, 3) := by decide +kernel
theorem dX11_better_100 : decode cX11_better 100 = .ok (.ifCond .eq 8, 3) := by decide +kernel
theorem dX11_better_103 : decode cX11_better 103 = .ok (.iload_n 2, 1) := by decide +kernel
theorem dX11_better_104 : decode cX11_better 104 = .ok (.iload 4, 2) := by decide +kernel
theorem dX11_better_106 : decode cX11_better 106 = .ok (.iadd, 1) := by decide +kernel
theorem dX11_better_107 : decode cX11_better 107 = .ok (.ireturn, 1) := by decide +kernel
theorem dX11_better_108 : decode cX11_better 108 = .ok (.iinc 4 1, 3) := by decide +kernel
theorem dX11_better_111 : decode cX11_better 111 = .ok (.goto (-60), 3) := by decide +kernel
theorem dX11_better_114 : decode cX11_better 114 = .ok (.iconst (-1), 1) := by decide +kernel
theorem dX11_better_115 : decode cX11_better 115 = .ok (.ireturn, 1) := by decide +kernel
def jbX11_better_83 (rc cont : Int32 → ST → Option (Int32 × ST)) (v1 : Int32) (v2 : Int32) (v3 : Int32) (v4 : Int32)  (k : ST) : Option (Int32 × ST) := if v3 < (v2 + v4) then rc (v4 + 1) k else ob (fX11_outlastsFalls k v1 (v2 + v4)) fun r16 k17 => if r16 = true then some (v2 + v4, k17) else rc (v4 + 1) k17
def lpX11_better_51 (v1 : Int32) (v2 : Int32) (v3 : Int32) : Nat → Int32 → ST → (Int32 → ST → Option (Int32 × ST)) → Option (Int32 × ST)
  | 0, _, _, _ => none
  | n + 1, v4, k, cont => if 12 ≤ v4 then cont v4 k else if (v2 - v4) < 1 then jbX11_better_83 (fun w4 k => lpX11_better_51 v1 v2 v3 n w4 k cont) cont v1 v2 v3 v4 k else ob (fX11_outlastsFalls k v1 (v2 - v4)) fun r20 k21 => if r20 = true then some (v2 - v4, k21) else jbX11_better_83 (fun w4 k => lpX11_better_51 v1 v2 v3 n w4 k cont) cont v1 v2 v3 v4 k21
set_option maxRecDepth 20000 in
theorem zjbX11_better_83 {p : Program} {l : Launch} {e : Env} {R : Room} {s : State} {m : MethodId} {args : Array Value} {below : List Frame} {meth : Method} {c : Code} {g : GT} (hC : HC p s m args meth c cX11_better 5 RX11 (some .int) g) (hR : 5 ≤ R.frames ∧ 113 ≤ R.locals)  {rc cont : Int32 → ST → Option (Int32 × ST)} (v1 : Int32) (v2 : Int32) (v3 : Int32) (v4 : Int32)  (hrc : ∀ (w4 : Int32) (k : ST), ZF p l e R s m args below meth c g TK voI 5 k 51 [(0, .ref (g.2.1 10)), (1, .int v1), (2, .int v2), (3, .int v3), (4, .int w4)] [] (rc w4 k)) (hk : ∀ (w4 : Int32) (k : ST), ZF p l e R s m args below meth c g TK voI 5 k 114 [(0, .ref (g.2.1 10)), (1, .int v1), (2, .int v2), (3, .int v3), (4, .int w4)] [] (cont w4 k)) (k : ST) : ZF p l e R s m args below meth c g TK voI 5 k 83 [(0, .ref (g.2.1 10)), (1, .int v1), (2, .int v2), (3, .int v3), (4, .int v4)] [] (jbX11_better_83 rc cont v1 v2 v3 v4 k) := by
  unfold jbX11_better_83
  refine zf_iload_n hC dX11_better_83 rfl 2 rfl ?_
  refine zf_iload hC dX11_better_84 4 rfl ?_
  refine zf_iadd hC dX11_better_86 ?_
  refine zf_iload_n hC dX11_better_87 rfl 3 rfl ?_
  refine zf_icmp_gt hC (tgt := 108) dX11_better_88 (by decide) (fun h15 => ?_) (fun h15 => ?_)
  · refine zf_iinc hC (q := 4) (v := v4 + 1) (LV' := [(4, .int (v4 + 1)), (0, .ref (g.2.1 10)), (1, .int v1), (2, .int v2), (3, .int v3)]) dX11_better_108 rfl rfl (by decide) rfl ?_
    refine zf_goto hC (tgt := 51) dX11_better_111 (by decide) ?_
    refine zf_lv (LV' := [(0, .ref (g.2.1 10)), (1, .int v1), (2, .int v2), (3, .int v3), (4, .int (v4 + 1))]) [1, 2, 3, 4, 0] rfl ?_
    exact hrc (v4 + 1) k
  · refine zf_aload_n hC dX11_better_91 rfl 0 rfl ?_
    refine zf_iload_n hC dX11_better_92 rfl 1 rfl ?_
    refine zf_iload_n hC dX11_better_93 rfl 2 rfl ?_
    refine zf_iload hC dX11_better_94 4 rfl ?_
    refine zf_iadd hC dX11_better_96 ?_
    refine zf_callV hC (c_X11_outlastsFalls l g v1 (v2 + v4)) mt_X11_outlastsFalls wd_1120 sp_42 ci_10 ic_10 wd_1118 rfl (rm_le hR rfl) rfl rfl (rest := []) rfl (Nat.le_of_ble_eq_true rfl) dX11_better_97 (fun r16 k17 h18 => ?_)
    refine zf_ifb_eq hC (tgt := 108) dX11_better_100 (by decide) (fun h19 => ?_) (fun h19 => ?_)
    · refine zf_iload_n hC dX11_better_103 rfl 2 rfl ?_
      refine zf_iload hC dX11_better_104 4 rfl ?_
      refine zf_iadd hC dX11_better_106 ?_
      exact zf_iret hC rfl dX11_better_107
    · refine zf_iinc hC (q := 4) (v := v4 + 1) (LV' := [(4, .int (v4 + 1)), (0, .ref (g.2.1 10)), (1, .int v1), (2, .int v2), (3, .int v3)]) dX11_better_108 rfl rfl (by decide) rfl ?_
      refine zf_goto hC (tgt := 51) dX11_better_111 (by decide) ?_
      refine zf_lv (LV' := [(0, .ref (g.2.1 10)), (1, .int v1), (2, .int v2), (3, .int v3), (4, .int (v4 + 1))]) [1, 2, 3, 4, 0] rfl ?_
      exact hrc (v4 + 1) k17
set_option maxRecDepth 20000 in
theorem zlpX11_better_51 {p : Program} {l : Launch} {e : Env} {R : Room} {s : State} {m : MethodId} {args : Array Value} {below : List Frame} {meth : Method} {c : Code} {g : GT} (hC : HC p s m args meth c cX11_better 5 RX11 (some .int) g) (hR : 5 ≤ R.frames ∧ 113 ≤ R.locals)  (v1 : Int32) (v2 : Int32) (v3 : Int32) {cont : Int32 → ST → Option (Int32 × ST)} (hk : ∀ (v4 : Int32) (k : ST), ZF p l e R s m args below meth c g TK voI 5 k 114 [(0, .ref (g.2.1 10)), (1, .int v1), (2, .int v2), (3, .int v3), (4, .int v4)] [] (cont v4 k)) : ∀ (n : Nat) (v4 : Int32) (k : ST), ZF p l e R s m args below meth c g TK voI 5 k 51 [(0, .ref (g.2.1 10)), (1, .int v1), (2, .int v2), (3, .int v3), (4, .int v4)] [] (lpX11_better_51 v1 v2 v3 n v4 k cont) := by
  intro n
  induction n with
  | zero => intros; exact zf_none
  | succ n ih =>
    intro v4 k
    rw [lpX11_better_51]
    refine zf_iload hC dX11_better_51 4 rfl ?_
    refine zf_bipush hC (v := 12) dX11_better_53 rfl ?_
    refine zf_icmp_ge hC (tgt := 114) dX11_better_55 (by decide) (fun h13 => ?_) (fun h13 => ?_)
    · refine zf_lv (LV' := [(0, .ref (g.2.1 10)), (1, .int v1), (2, .int v2), (3, .int v3), (4, .int v4)]) [0, 1, 2, 3, 4] rfl ?_
      exact hk v4 k
    · refine zf_iload_n hC dX11_better_58 rfl 2 rfl ?_
      refine zf_iload hC dX11_better_59 4 rfl ?_
      refine zf_isub hC dX11_better_61 ?_
      refine zf_iconst hC (v := 1) dX11_better_62 rfl ?_
      refine zf_icmp_lt hC (tgt := 83) dX11_better_63 (by decide) (fun h14 => ?_) (fun h14 => ?_)
      · exact zjbX11_better_83 hC hR v1 v2 v3 v4 ih hk k
      · refine zf_aload_n hC dX11_better_66 rfl 0 rfl ?_
        refine zf_iload_n hC dX11_better_67 rfl 1 rfl ?_
        refine zf_iload_n hC dX11_better_68 rfl 2 rfl ?_
        refine zf_iload hC dX11_better_69 4 rfl ?_
        refine zf_isub hC dX11_better_71 ?_
        refine zf_callV hC (c_X11_outlastsFalls l g v1 (v2 - v4)) mt_X11_outlastsFalls wd_1120 sp_42 ci_10 ic_10 wd_1118 rfl (rm_le hR rfl) rfl rfl (rest := []) rfl (Nat.le_of_ble_eq_true rfl) dX11_better_72 (fun r20 k21 h22 => ?_)
        refine zf_ifb_eq hC (tgt := 83) dX11_better_75 (by decide) (fun h23 => ?_) (fun h23 => ?_)
        · refine zf_iload_n hC dX11_better_78 rfl 2 rfl ?_
          refine zf_iload hC dX11_better_79 4 rfl ?_
          refine zf_isub hC dX11_better_81 ?_
          exact zf_iret hC rfl dX11_better_82
        · exact zjbX11_better_83 hC hR v1 v2 v3 v4 ih hk k21
def fX11_better (k : ST) (a0 : Int32) : Option (Int32 × ST) := ob (fX3_inForce k a0 (gI k 10 0)) fun r1 k2 => if r1 = true then ob (fX11_settleReach k2 (gI k2 10 0)) fun r5 k6 => ck (inb a0 40) (ck (inb a0 40) (ob (fJ6_bitCount_0f7a4 k6 (gA k6 14 (ix a0))) fun r10 k11 => lpX11_better_51 a0 (gA k6 15 (ix a0)) r10 FU 0 k11 fun y24 k25 => some ((-1), k25))) else some ((-1), k2)
set_option maxRecDepth 20000 in
theorem c_X11_better (l : Launch) (g : GT) (a0 : Int32) : CN l yX11_better cX11_better 5 (some .int) { frames := 5, cells := 0, slots := 0, locals := 113 } g TK voI [.ref (g.2.1 10), .int a0] (fun k => fX11_better k a0) := by
  refine cn_of (by decide) (Nat.le_of_ble_eq_true rfl) ?_
  intro p e s m args below meth c hC k
  have hC : HC p s m args meth c cX11_better 5 RX11 (some .int) g := hC
  have hR : 5 ≤ ({ frames := 5, cells := 0, slots := 0, locals := 113 } : Room).frames ∧ 113 ≤ ({ frames := 5, cells := 0, slots := 0, locals := 113 } : Room).locals := ⟨Nat.le_refl _, Nat.le_refl _⟩
  show ZF p l e _ s m args below meth c g TK voI 5 k 0 [(0, .ref (g.2.1 10)), (1, .int a0)] [] (fX11_better k a0)
  unfold fX11_better
  refine zf_aload_n hC dX11_better_0 rfl 0 rfl ?_
  refine gf_410 hC dX11_better_1 ?_
  refine zf_iload_n hC dX11_better_4 rfl 1 rfl ?_
  refine zf_aload_n hC dX11_better_5 rfl 0 rfl ?_
  refine gf_400 hC dX11_better_6 ?_
  refine zf_callV hC (c_X3_inForce l g a0 (gI k 10 0)) mt_X3_inForce wd_518 wd_519 ci_2 ic_2 wd_603 rfl (rm_le hR rfl) rfl rfl (rest := []) rfl (Nat.le_of_ble_eq_true rfl) dX11_better_9 (fun r1 k2 h3 => ?_)
  refine zf_ifb_ne hC (tgt := 17) dX11_better_12 (by decide) (fun h4 => ?_) (fun h4 => ?_)
  · refine zf_aload_n hC dX11_better_17 rfl 0 rfl ?_
    refine zf_aload_n hC dX11_better_18 rfl 0 rfl ?_
    refine gf_400 hC dX11_better_19 ?_
    refine zf_callV hC (c_X11_settleReach l g (gI k2 10 0)) mt_X11_settleReach wd_698 sp_4 ci_10 ic_10 wd_696 rfl (rm_le hR rfl) rfl rfl (rest := []) rfl (Nat.le_of_ble_eq_true rfl) dX11_better_22 (fun r5 k6 h7 => ?_)
    refine zf_aload_n hC dX11_better_25 rfl 0 rfl ?_
    refine gf_410 hC dX11_better_26 ?_
    refine gf_151 hC dX11_better_29 ?_
    refine zf_iload_n hC dX11_better_32 rfl 1 rfl ?_
    refine zf_iald hC (j := 15) ia_15 rfl rfl dX11_better_33 (fun h8 => ?_)
    refine zf_istore_n hC (LV' := [(2, .int (gA k6 15 (ix a0))), (0, .ref (g.2.1 10)), (1, .int a0)]) dX11_better_34 rfl (by decide) rfl ?_
    refine zf_aload_n hC dX11_better_35 rfl 1 rfl ?_
    refine gf_410 hC dX11_better_36 ?_
    refine gf_148 hC dX11_better_39 ?_
    refine zf_iload_n hC dX11_better_42 rfl 2 rfl ?_
    refine zf_iald hC (j := 14) ia_14 rfl rfl dX11_better_43 (fun h9 => ?_)
    refine zf_callS hC (c_J6_bitCount_0f7a4 l g TK (gA k6 14 (ix a0))) mt_J6_bitCount_0f7a4 wd_577 wd_576 rfl (rm_le hR rfl) rfl rfl (rest := []) rfl (Nat.le_of_ble_eq_true rfl) dX11_better_44 (fun r10 k11 h12 => ?_)
    refine zf_istore_n hC (LV' := [(3, .int r10), (2, .int (gA k6 15 (ix a0))), (0, .ref (g.2.1 10)), (1, .int a0)]) dX11_better_47 rfl (by decide) rfl ?_
    refine zf_iconst hC (v := 0) dX11_better_48 rfl ?_
    refine zf_istore hC (LV' := [(4, .int 0), (3, .int r10), (2, .int (gA k6 15 (ix a0))), (0, .ref (g.2.1 10)), (1, .int a0)]) dX11_better_49 (by decide) rfl ?_
    refine zf_lv (LV' := [(0, .ref (g.2.1 10)), (1, .int a0), (2, .int (gA k6 15 (ix a0))), (3, .int r10), (4, .int 0)]) [3, 4, 2, 1, 0] rfl ?_
    refine zlpX11_better_51 hC hR a0 (gA k6 15 (ix a0)) r10 (fun y24 k25 => ?_) FU 0 k11
    refine zf_iconst hC (v := (-1)) dX11_better_114 rfl ?_
    exact zf_iret hC rfl dX11_better_115
  · refine zf_iconst hC (v := (-1)) dX11_better_15 rfl ?_
    exact zf_iret hC rfl dX11_better_16
/-! LifeKeys.order -/
theorem dX11_order_0 : decode cX11_order 0 = .ok (.aload_n 0, 1) := by decide +kernel
theorem dX11_order_1 : decode cX11_order 1 = .ok (.iload_n 1, 1) := by decide +kernel
theorem dX11_order_2 : decode cX11_order 2 = .ok (.invokevirtual 366, 3) := by decide +kernel
theorem dX11_order_5 : decode cX11_order 5 = .ok (.ifCond .eq 13, 3) := by decide +kernel
theorem dX11_order_8 : decode cX11_order 8 = .ok (.iload_n 2, 1) := by decide +kernel
theorem dX11_order_9 : decode cX11_order 9 = .ok (.ifCond .lt 9, 3) := by decide +kernel
theorem dX11_order_12 : decode cX11_order 12 = .ok (.iload_n 2, 1) := by decide +kernel
theorem dX11_order_13 : decode cX11_order 13 = .ok (.bipush 40, 2) := by decide +kernel
theorem dX11_order_15 : decode cX11_order 15 = .ok (.if_icmp .lt 5, 3) := by decide +kernel
theorem dX11_order_18 : decode cX11_order 18 = .ok (.iconst (-1), 1) := by decide +kernel
theorem dX11_order_19 : decode cX11_order 19 = .ok (.ireturn, 1) := by decide +kernel
theorem dX11_order_20 : decode cX11_order 20 = .ok (.aload_n 0, 1) := by decide +kernel
theorem dX11_order_21 : decode cX11_order 21 = .ok (.aload_n 0, 1) := by decide +kernel
theorem dX11_order_22 : decode cX11_order 22 = .ok (.getfield 86, 3) := by decide +kernel
theorem dX11_order_25 : decode cX11_order 25 = .ok (.invokevirtual 247, 3) := by decide +kernel
theorem dX11_order_28 : decode cX11_order 28 = .ok (.aload_n 0, 1) := by decide +kernel
theorem dX11_order_29 : decode cX11_order 29 = .ok (.getfield 82, 3) := by decide +kernel
theorem dX11_order_32 : decode cX11_order 32 = .ok (.aload_n 0, 1) := by decide +kernel
theorem dX11_order_33 : decode cX11_order 33 = .ok (.getfield 13, 3) := by decide +kernel
theorem dX11_order_36 : decode cX11_order 36 = .ok (.iload_n 1, 1) := by decide +kernel
theorem dX11_order_37 : decode cX11_order 37 = .ok (.iaload, 1) := by decide +kernel
theorem dX11_order_38 : decode cX11_order 38 = .ok (.invokevirtual 250, 3) := by decide +kernel
theorem dX11_order_41 : decode cX11_order 41 = .ok (.lstore_n 3, 1) := by decide +kernel
theorem dX11_order_42 : decode cX11_order 42 = .ok (.aload_n 0, 1) := by decide +kernel
theorem dX11_order_43 : decode cX11_order 43 = .ok (.getfield 82, 3) := by decide +kernel
theorem dX11_order_46 : decode cX11_order 46 = .ok (.lload_n 3, 1) := by decide +kernel
theorem dX11_order_47 : decode cX11_order 47 = .ok (.invokevirtual 391, 3) := by decide +kernel
theorem dX11_order_50 : decode cX11_order 50 = .ok (.istore 5, 2) := by decide +kernel
theorem dX11_order_52 : decode cX11_order 52 = .ok (.iconst 0, 1) := by decide +kernel
theorem dX11_order_53 : decode cX11_order 53 = .ok (.istore 6, 2) := by decide +kernel
theorem dX11_order_55 : decode cX11_order 55 = .ok (.iload 6, 2) := by decide +kernel
theorem dX11_order_57 : decode cX11_order 57 = .ok (.iload_n 2, 1) := by decide +kernel
theorem dX11_order_58 : decode cX11_order 58 = .ok (.if_icmp .ge 36, 3) := by decide +kernel
theorem dX11_order_61 : decode cX11_order 61 = .ok (.iload 5, 2) := by decide +kernel
theorem dX11_order_63 : decode cX11_order 63 = .ok (.iconst (-1), 1) := by decide +kernel
theorem dX11_order_64 : decode cX11_order 64 = .ok (.if_icmp .eq 30, 3) := by decide +kernel
theorem dX11_order_67 : decode cX11_order 67 = .ok (.lload_n 3, 1) := by decide +kernel
theorem dX11_order_68 : decode cX11_order 68 = .ok (.lconst 1, 1) := by decide +kernel
theorem dX11_order_69 : decode cX11_order 69 = .ok (.iload 5, 2) := by decide +kernel
theorem dX11_order_71 : decode cX11_order 71 = .ok (.lshl, 1) := by decide +kernel
theorem dX11_order_72 : decode cX11_order 72 = .ok (.ldc2_w 245, 3) := by decide +kernel
theorem dX11_order_75 : decode cX11_order 75 = .ok (.lxor, 1) := by decide +kernel
theorem dX11_order_76 : decode cX11_order 76 = .ok (.land, 1) := by decide +kernel
theorem dX11_order_77 : decode cX11_order 77 = .ok (.lstore_n 3, 1) := by decide +kernel
theorem dX11_order_78 : decode cX11_order 78 = .ok (.aload_n 0, 1) := by decide +kernel
theorem dX11_order_79 : decode cX11_order 79 = .ok (.getfield 82, 3) := by decide +kernel
theorem dX11_order_82 : decode cX11_order 82 = .ok (.lload_n 3, 1) := by decide +kernel
theorem dX11_order_83 : decode cX11_order 83 = .ok (.invokevirtual 391, 3) := by decide +kernel
theorem dX11_order_86 : decode cX11_order 86 = .ok (.istore 5, 2) := by decide +kernel
theorem dX11_order_88 : decode cX11_order 88 = .ok (.iinc 6 1, 3) := by decide +kernel
theorem dX11_order_91 : decode cX11_order 91 = .ok (.goto (-36), 3) := by decide +kernel
theorem dX11_order_94 : decode cX11_order 94 = .ok (.iload 5, 2) := by decide +kernel
theorem dX11_order_96 : decode cX11_order 96 = .ok (.ireturn, 1) := by decide +kernel
def lpX11_order_55 (v1 : Int32) (v2 : Int32) : Nat → Int64 → Int32 → Int32 → ST → (Int64 → Int32 → Int32 → ST → Option (Int32 × ST)) → Option (Int32 × ST)
  | 0, _, _, _, _, _ => none
  | n + 1, v3, v5, v6, k, cont => if v2 ≤ v6 then cont v3 v5 v6 k else if v5 = (-1) then cont v3 v5 v6 k else nm (v3 &&& ((j_lshl 1 v5) ^^^ (-1))) fun x19 => ob (fX4_lowestFree k x19) fun r20 k21 => lpX11_order_55 v1 v2 n x19 r20 (v6 + 1) k21 cont
set_option maxRecDepth 20000 in
theorem zlpX11_order_55 {p : Program} {l : Launch} {e : Env} {R : Room} {s : State} {m : MethodId} {args : Array Value} {below : List Frame} {meth : Method} {c : Code} {g : GT} (hC : HC p s m args meth c cX11_order 7 RX11 (some .int) g) (hR : 5 ≤ R.frames ∧ 112 ≤ R.locals)  (v1 : Int32) (v2 : Int32) {cont : Int64 → Int32 → Int32 → ST → Option (Int32 × ST)} (hk : ∀ (v3 : Int64) (v5 : Int32) (v6 : Int32) (k : ST), ZF p l e R s m args below meth c g TK voI 7 k 94 [(0, .ref (g.2.1 10)), (1, .int v1), (2, .int v2), (3, .long v3), (5, .int v5), (6, .int v6)] [] (cont v3 v5 v6 k)) : ∀ (n : Nat) (v3 : Int64) (v5 : Int32) (v6 : Int32) (k : ST), ZF p l e R s m args below meth c g TK voI 7 k 55 [(0, .ref (g.2.1 10)), (1, .int v1), (2, .int v2), (3, .long v3), (5, .int v5), (6, .int v6)] [] (lpX11_order_55 v1 v2 n v3 v5 v6 k cont) := by
  intro n
  induction n with
  | zero => intros; exact zf_none
  | succ n ih =>
    intro v3 v5 v6 k
    rw [lpX11_order_55]
    refine zf_iload hC dX11_order_55 5 rfl ?_
    refine zf_iload_n hC dX11_order_57 rfl 2 rfl ?_
    refine zf_icmp_ge hC (tgt := 94) dX11_order_58 (by decide) (fun h17 => ?_) (fun h17 => ?_)
    · refine zf_lv (LV' := [(0, .ref (g.2.1 10)), (1, .int v1), (2, .int v2), (3, .long v3), (5, .int v5), (6, .int v6)]) [0, 1, 2, 3, 4, 5] rfl ?_
      exact hk v3 v5 v6 k
    · refine zf_iload hC dX11_order_61 4 rfl ?_
      refine zf_iconst hC (v := (-1)) dX11_order_63 rfl ?_
      refine zf_icmp_eq hC (tgt := 94) dX11_order_64 (by decide) (fun h18 => ?_) (fun h18 => ?_)
      · refine zf_lv (LV' := [(0, .ref (g.2.1 10)), (1, .int v1), (2, .int v2), (3, .long v3), (5, .int v5), (6, .int v6)]) [0, 1, 2, 3, 4, 5] rfl ?_
        exact hk v3 v5 v6 k
      · refine zf_lload_n hC dX11_order_67 rfl 3 rfl ?_
        refine zf_lconst hC (v := 1) dX11_order_68 rfl ?_
        refine zf_iload hC dX11_order_69 4 rfl ?_
        refine zf_lshl hC dX11_order_71 ?_
        refine zf_ldc2 hC wd_695 dX11_order_72 ?_
        refine zf_lxor hC dX11_order_75 ?_
        refine zf_land hC dX11_order_76 ?_
        refine zf_nml (fun x19 => ?_)
        refine zf_lstore_n hC (LV' := [(3, .long x19), (0, .ref (g.2.1 10)), (1, .int v1), (2, .int v2), (5, .int v5), (6, .int v6)]) dX11_order_77 rfl (by decide) rfl ?_
        refine zf_aload_n hC dX11_order_78 rfl 1 rfl ?_
        refine gf_416 hC dX11_order_79 ?_
        refine zf_lload_n hC dX11_order_82 rfl 0 rfl ?_
        refine zf_callV hC (c_X4_lowestFree l g x19) mt_X4_lowestFree wd_1127 wd_1128 ci_3 ic_3 wd_1126 rfl (rm_le hR rfl) rfl rfl (rest := []) rfl (Nat.le_of_ble_eq_true rfl) dX11_order_83 (fun r20 k21 h22 => ?_)
        refine zf_istore hC (LV' := [(5, .int r20), (3, .long x19), (0, .ref (g.2.1 10)), (1, .int v1), (2, .int v2), (6, .int v6)]) dX11_order_86 (by decide) rfl ?_
        refine zf_iinc hC (q := 5) (v := v6 + 1) (LV' := [(6, .int (v6 + 1)), (5, .int r20), (3, .long x19), (0, .ref (g.2.1 10)), (1, .int v1), (2, .int v2)]) dX11_order_88 rfl rfl (by decide) rfl ?_
        refine zf_goto hC (tgt := 55) dX11_order_91 (by decide) ?_
        refine zf_lv (LV' := [(0, .ref (g.2.1 10)), (1, .int v1), (2, .int v2), (3, .long x19), (5, .int r20), (6, .int (v6 + 1))]) [3, 4, 5, 2, 1, 0] rfl ?_
        exact ih x19 r20 (v6 + 1) k21
def fX11_order (k : ST) (a0 : Int32) (a1 : Int32) : Option (Int32 × ST) := ob (fX11_isFall k a0) fun r1 k2 => if r1 = true then if a1 < 0 then some ((-1), k2) else if a1 < 40 then ob (fX11_settleReach k2 (gI k2 10 0)) fun r7 k8 => ck (inb a0 20) (ob (fX4_gets k8 (gA k8 58 (ix a0))) fun r11 k12 => ob (fX4_lowestFree k12 r11) fun r14 k15 => lpX11_order_55 a0 a1 FU r11 r14 0 k15 fun y23 y24 y25 k26 => some (y24, k26)) else some ((-1), k2) else some ((-1), k2)
set_option maxRecDepth 20000 in
theorem c_X11_order (l : Launch) (g : GT) (a0 : Int32) (a1 : Int32) : CN l yX11_order cX11_order 7 (some .int) { frames := 5, cells := 0, slots := 0, locals := 112 } g TK voI [.ref (g.2.1 10), .int a0, .int a1] (fun k => fX11_order k a0 a1) := by
  refine cn_of (by decide) (Nat.le_of_ble_eq_true rfl) ?_
  intro p e s m args below meth c hC k
  have hC : HC p s m args meth c cX11_order 7 RX11 (some .int) g := hC
  have hR : 5 ≤ ({ frames := 5, cells := 0, slots := 0, locals := 112 } : Room).frames ∧ 112 ≤ ({ frames := 5, cells := 0, slots := 0, locals := 112 } : Room).locals := ⟨Nat.le_refl _, Nat.le_refl _⟩
  show ZF p l e _ s m args below meth c g TK voI 7 k 0 [(0, .ref (g.2.1 10)), (1, .int a0), (2, .int a1)] [] (fX11_order k a0 a1)
  unfold fX11_order
  refine zf_aload_n hC dX11_order_0 rfl 0 rfl ?_
  refine zf_iload_n hC dX11_order_1 rfl 1 rfl ?_
  refine zf_callV hC (c_X11_isFall l g a0) mt_X11_isFall wd_1064 sp_34 ci_10 ic_10 wd_1062 rfl (rm_le hR rfl) rfl rfl (rest := []) rfl (Nat.le_of_ble_eq_true rfl) dX11_order_2 (fun r1 k2 h3 => ?_)
  refine zf_ifb_eq hC (tgt := 18) dX11_order_5 (by decide) (fun h4 => ?_) (fun h4 => ?_)
  · refine zf_iload_n hC dX11_order_8 rfl 2 rfl ?_
    refine zf_if_lt hC (tgt := 18) dX11_order_9 (by decide) (fun h5 => ?_) (fun h5 => ?_)
    · refine zf_iconst hC (v := (-1)) dX11_order_18 rfl ?_
      exact zf_iret hC rfl dX11_order_19
    · refine zf_iload_n hC dX11_order_12 rfl 2 rfl ?_
      refine zf_bipush hC (v := 40) dX11_order_13 rfl ?_
      refine zf_icmp_lt hC (tgt := 20) dX11_order_15 (by decide) (fun h6 => ?_) (fun h6 => ?_)
      · refine zf_aload_n hC dX11_order_20 rfl 0 rfl ?_
        refine zf_aload_n hC dX11_order_21 rfl 0 rfl ?_
        refine gf_400 hC dX11_order_22 ?_
        refine zf_callV hC (c_X11_settleReach l g (gI k2 10 0)) mt_X11_settleReach wd_698 sp_4 ci_10 ic_10 wd_696 rfl (rm_le hR rfl) rfl rfl (rest := []) rfl (Nat.le_of_ble_eq_true rfl) dX11_order_25 (fun r7 k8 h9 => ?_)
        refine zf_aload_n hC dX11_order_28 rfl 0 rfl ?_
        refine gf_416 hC dX11_order_29 ?_
        refine zf_aload_n hC dX11_order_32 rfl 0 rfl ?_
        refine gf_406 hC dX11_order_33 ?_
        refine zf_iload_n hC dX11_order_36 rfl 1 rfl ?_
        refine zf_iald hC (j := 58) ia_58 rfl rfl dX11_order_37 (fun h10 => ?_)
        refine zf_callV hC (c_X4_gets l g (gA k8 58 (ix a0))) mt_X4_gets wd_722 wd_723 ci_3 ic_3 wd_721 rfl (rm_le hR rfl) rfl rfl (rest := []) rfl (Nat.le_of_ble_eq_true rfl) dX11_order_38 (fun r11 k12 h13 => ?_)
        refine zf_lstore_n hC (LV' := [(3, .long r11), (0, .ref (g.2.1 10)), (1, .int a0), (2, .int a1)]) dX11_order_41 rfl (by decide) rfl ?_
        refine zf_aload_n hC dX11_order_42 rfl 1 rfl ?_
        refine gf_416 hC dX11_order_43 ?_
        refine zf_lload_n hC dX11_order_46 rfl 0 rfl ?_
        refine zf_callV hC (c_X4_lowestFree l g r11) mt_X4_lowestFree wd_1127 wd_1128 ci_3 ic_3 wd_1126 rfl (rm_le hR rfl) rfl rfl (rest := []) rfl (Nat.le_of_ble_eq_true rfl) dX11_order_47 (fun r14 k15 h16 => ?_)
        refine zf_istore hC (LV' := [(5, .int r14), (3, .long r11), (0, .ref (g.2.1 10)), (1, .int a0), (2, .int a1)]) dX11_order_50 (by decide) rfl ?_
        refine zf_iconst hC (v := 0) dX11_order_52 rfl ?_
        refine zf_istore hC (LV' := [(6, .int 0), (5, .int r14), (3, .long r11), (0, .ref (g.2.1 10)), (1, .int a0), (2, .int a1)]) dX11_order_53 (by decide) rfl ?_
        refine zf_lv (LV' := [(0, .ref (g.2.1 10)), (1, .int a0), (2, .int a1), (3, .long r11), (5, .int r14), (6, .int 0)]) [3, 4, 5, 2, 1, 0] rfl ?_
        refine zlpX11_order_55 hC hR a0 a1 (fun y23 y24 y25 k26 => ?_) FU r11 r14 0 k15
        refine zf_iload hC dX11_order_94 4 rfl ?_
        exact zf_iret hC rfl dX11_order_96
      · refine zf_iconst hC (v := (-1)) dX11_order_18 rfl ?_
        exact zf_iret hC rfl dX11_order_19
  · refine zf_iconst hC (v := (-1)) dX11_order_18 rfl ?_
    exact zf_iret hC rfl dX11_order_19
/-! LifeKeys.countFurther -/
theorem dX11_countFurther_0 : decode cX11_countFurther 0 = .ok (.iload_n 1, 1) := by decide +kernel
theorem dX11_countFurther_1 : decode cX11_countFurther 1 = .ok (.tableswitch 96 7 13 #[43, 51, 59, 67, 72, 80, 88], 43) := by decide +kernel
theorem dX11_countFurther_44 : decode cX11_countFurther 44 = .ok (.aload_n 0, 1) := by decide +kernel
theorem dX11_countFurther_45 : decode cX11_countFurther 45 = .ok (.getfield 54, 3) := by decide +kernel
theorem dX11_countFurther_48 : decode cX11_countFurther 48 = .ok (.getfield 407, 3) := by decide +kernel
theorem dX11_countFurther_51 : decode cX11_countFurther 51 = .ok (.ireturn, 1) := by decide +kernel
theorem dX11_countFurther_52 : decode cX11_countFurther 52 = .ok (.aload_n 0, 1) := by decide +kernel
theorem dX11_countFurther_53 : decode cX11_countFurther 53 = .ok (.getfield 68, 3) := by decide +kernel
theorem dX11_countFurther_56 : decode cX11_countFurther 56 = .ok (.getfield 408, 3) := by decide +kernel
theorem dX11_countFurther_59 : decode cX11_countFurther 59 = .ok (.ireturn, 1) := by decide +kernel
theorem dX11_countFurther_60 : decode cX11_countFurther 60 = .ok (.aload_n 0, 1) := by decide +kernel
theorem dX11_countFurther_61 : decode cX11_countFurther 61 = .ok (.getfield 75, 3) := by decide +kernel
theorem dX11_countFurther_64 : decode cX11_countFurther 64 = .ok (.invokevirtual 409, 3) := by decide +kernel
theorem dX11_countFurther_67 : decode cX11_countFurther 67 = .ok (.ireturn, 1) := by decide +kernel
theorem dX11_countFurther_68 : decode cX11_countFurther 68 = .ok (.aload_n 0, 1) := by decide +kernel
theorem dX11_countFurther_69 : decode cX11_countFurther 69 = .ok (.getfield 363, 3) := by decide +kernel
theorem dX11_countFurther_72 : decode cX11_countFurther 72 = .ok (.ireturn, 1) := by decide +kernel
theorem dX11_countFurther_73 : decode cX11_countFurther 73 = .ok (.aload_n 0, 1) := by decide +kernel
theorem dX11_countFurther_74 : decode cX11_countFurther 74 = .ok (.getfield 19, 3) := by decide +kernel
theorem dX11_countFurther_77 : decode cX11_countFurther 77 = .ok (.getfield 107, 3) := by decide +kernel
theorem dX11_countFurther_80 : decode cX11_countFurther 80 = .ok (.ireturn, 1) := by decide +kernel
theorem dX11_countFurther_81 : decode cX11_countFurther 81 = .ok (.aload_n 0, 1) := by decide +kernel
theorem dX11_countFurther_82 : decode cX11_countFurther 82 = .ok (.getfield 222, 3) := by decide +kernel
theorem dX11_countFurther_85 : decode cX11_countFurther 85 = .ok (.invokestatic 178, 3) := by decide +kernel
theorem dX11_countFurther_88 : decode cX11_countFurther 88 = .ok (.ireturn, 1) := by decide +kernel
theorem dX11_countFurther_89 : decode cX11_countFurther 89 = .ok (.aload_n 0, 1) := by decide +kernel
theorem dX11_countFurther_90 : decode cX11_countFurther 90 = .ok (.getfield 61, 3) := by decide +kernel
theorem dX11_countFurther_93 : decode cX11_countFurther 93 = .ok (.invokevirtual 412, 3) := by decide +kernel
theorem dX11_countFurther_96 : decode cX11_countFurther 96 = .ok (.ireturn, 1) := by decide +kernel
theorem dX11_countFurther_97 : decode cX11_countFurther 97 = .ok (.iconst (-1), 1) := by decide +kernel
theorem dX11_countFurther_98 : decode cX11_countFurther 98 = .ok (.ireturn, 1) := by decide +kernel
def fX11_countFurther (k : ST) (a0 : Int32) : Option (Int32 × ST) := if a0 = 7 then some (gI k 5 0, k) else if a0 = 8 then some (gI k 6 0, k) else if a0 = 9 then ob (fX2_notBack k) fun r4 k5 => some (r4, k5) else if a0 = 10 then some (gI k 10 5, k) else if a0 = 11 then some (gI k 7 1, k) else if a0 = 12 then ob (fJ6_bitCount_0f7a4 k (gI k 10 3)) fun r10 k11 => some (r10, k11) else if a0 = 13 then ob (fX9_openedOnes k) fun r14 k15 => some (r14, k15) else some ((-1), k)
set_option maxRecDepth 20000 in
theorem c_X11_countFurther (l : Launch) (g : GT) (a0 : Int32) : CN l yX11_countFurther cX11_countFurther 2 (some .int) { frames := 1, cells := 0, slots := 0, locals := 22 } g TK voI [.ref (g.2.1 10), .int a0] (fun k => fX11_countFurther k a0) := by
  refine cn_of (by decide) (Nat.le_of_ble_eq_true rfl) ?_
  intro p e s m args below meth c hC k
  have hC : HC p s m args meth c cX11_countFurther 2 RX11 (some .int) g := hC
  have hR : 1 ≤ ({ frames := 1, cells := 0, slots := 0, locals := 22 } : Room).frames ∧ 22 ≤ ({ frames := 1, cells := 0, slots := 0, locals := 22 } : Room).locals := ⟨Nat.le_refl _, Nat.le_refl _⟩
  show ZF p l e _ s m args below meth c g TK voI 2 k 0 [(0, .ref (g.2.1 10)), (1, .int a0)] [] (fX11_countFurther k a0)
  unfold fX11_countFurther
  refine zf_iload_n hC dX11_countFurther_0 rfl 1 rfl ?_
  refine zf_ite (fun h1 => ?_) (fun h1 => ?_)
  · refine zf_tabIn hC (tgt := 44) (off := 43) dX11_countFurther_1 (by rw [h1]; decide) (by rw [h1]; decide) (by rw [h1]; rfl) (by decide) ?_
    refine zf_aload_n hC dX11_countFurther_44 rfl 0 rfl ?_
    refine gf_412 hC dX11_countFurther_45 ?_
    refine gf_232 hC dX11_countFurther_48 ?_
    exact zf_iret hC rfl dX11_countFurther_51
  refine zf_ite (fun h2 => ?_) (fun h2 => ?_)
  · refine zf_tabIn hC (tgt := 52) (off := 51) dX11_countFurther_1 (by rw [h2]; decide) (by rw [h2]; decide) (by rw [h2]; rfl) (by decide) ?_
    refine zf_aload_n hC dX11_countFurther_52 rfl 0 rfl ?_
    refine gf_414 hC dX11_countFurther_53 ?_
    refine gf_297 hC dX11_countFurther_56 ?_
    exact zf_iret hC rfl dX11_countFurther_59
  refine zf_ite (fun h3 => ?_) (fun h3 => ?_)
  · refine zf_tabIn hC (tgt := 60) (off := 59) dX11_countFurther_1 (by rw [h3]; decide) (by rw [h3]; decide) (by rw [h3]; rfl) (by decide) ?_
    refine zf_aload_n hC dX11_countFurther_60 rfl 0 rfl ?_
    refine gf_415 hC dX11_countFurther_61 ?_
    refine zf_callV hC (c_X2_notBack l g) mt_X2_notBack wd_1143 wd_1144 ci_1 ic_1 wd_1142 rfl (rm_le hR rfl) rfl rfl (rest := []) rfl (Nat.le_of_ble_eq_true rfl) dX11_countFurther_64 (fun r4 k5 h6 => ?_)
    exact zf_iret hC rfl dX11_countFurther_67
  refine zf_ite (fun h7 => ?_) (fun h7 => ?_)
  · refine zf_tabIn hC (tgt := 68) (off := 67) dX11_countFurther_1 (by rw [h7]; decide) (by rw [h7]; decide) (by rw [h7]; rfl) (by decide) ?_
    refine zf_aload_n hC dX11_countFurther_68 rfl 0 rfl ?_
    refine gf_405 hC dX11_countFurther_69 ?_
    exact zf_iret hC rfl dX11_countFurther_72
  refine zf_ite (fun h8 => ?_) (fun h8 => ?_)
  · refine zf_tabIn hC (tgt := 73) (off := 72) dX11_countFurther_1 (by rw [h8]; decide) (by rw [h8]; decide) (by rw [h8]; rfl) (by decide) ?_
    refine zf_aload_n hC dX11_countFurther_73 rfl 0 rfl ?_
    refine gf_407 hC dX11_countFurther_74 ?_
    refine gf_38 hC dX11_countFurther_77 ?_
    exact zf_iret hC rfl dX11_countFurther_80
  refine zf_ite (fun h9 => ?_) (fun h9 => ?_)
  · refine zf_tabIn hC (tgt := 81) (off := 80) dX11_countFurther_1 (by rw [h9]; decide) (by rw [h9]; decide) (by rw [h9]; rfl) (by decide) ?_
    refine zf_aload_n hC dX11_countFurther_81 rfl 0 rfl ?_
    refine gf_403 hC dX11_countFurther_82 ?_
    refine zf_callS hC (c_J6_bitCount_0f7a4 l g TK (gI k 10 3)) mt_J6_bitCount_0f7a4 wd_577 wd_576 rfl (rm_le hR rfl) rfl rfl (rest := []) rfl (Nat.le_of_ble_eq_true rfl) dX11_countFurther_85 (fun r10 k11 h12 => ?_)
    exact zf_iret hC rfl dX11_countFurther_88
  refine zf_ite (fun h13 => ?_) (fun h13 => ?_)
  · refine zf_tabIn hC (tgt := 89) (off := 88) dX11_countFurther_1 (by rw [h13]; decide) (by rw [h13]; decide) (by rw [h13]; rfl) (by decide) ?_
    refine zf_aload_n hC dX11_countFurther_89 rfl 0 rfl ?_
    refine gf_413 hC dX11_countFurther_90 ?_
    refine zf_callV hC (c_X9_openedOnes l g) mt_X9_openedOnes wd_1147 wd_1148 ci_8 ic_8 wd_1146 rfl (rm_le hR rfl) rfl rfl (rest := []) rfl (Nat.le_of_ble_eq_true rfl) dX11_countFurther_93 (fun r14 k15 h16 => ?_)
    exact zf_iret hC rfl dX11_countFurther_96
  refine zf_tabOut hC (tgt := 97) dX11_countFurther_1 (by have zh1 := lv_neT h1 (a := 7) rfl; have zh2 := lv_neT h2 (a := 8) rfl; have zh3 := lv_neT h3 (a := 9) rfl; have zh7 := lv_neT h7 (a := 10) rfl; have zh8 := lv_neT h8 (a := 11) rfl; have zh9 := lv_neT h9 (a := 12) rfl; have zh13 := lv_neT h13 (a := 13) rfl; omega) (by decide) ?_
  refine zf_iconst hC (v := (-1)) dX11_countFurther_97 rfl ?_
  exact zf_iret hC rfl dX11_countFurther_98
/-! LifeKeys.count -/
theorem dX11_count_0 : decode cX11_count 0 = .ok (.iload_n 1, 1) := by decide +kernel
theorem dX11_count_1 : decode cX11_count 1 = .ok (.tableswitch 93 0 6 #[43, 48, 53, 61, 69, 77, 85], 43) := by decide +kernel
theorem dX11_count_44 : decode cX11_count 44 = .ok (.aload_n 0, 1) := by decide +kernel
theorem dX11_count_45 : decode cX11_count 45 = .ok (.getfield 86, 3) := by decide +kernel
theorem dX11_count_48 : decode cX11_count 48 = .ok (.ireturn, 1) := by decide +kernel
theorem dX11_count_49 : decode cX11_count 49 = .ok (.aload_n 0, 1) := by decide +kernel
theorem dX11_count_50 : decode cX11_count 50 = .ok (.getfield 90, 3) := by decide +kernel
theorem dX11_count_53 : decode cX11_count 53 = .ok (.ireturn, 1) := by decide +kernel
theorem dX11_count_54 : decode cX11_count 54 = .ok (.aload_n 0, 1) := by decide +kernel
theorem dX11_count_55 : decode cX11_count 55 = .ok (.getfield 26, 3) := by decide +kernel
theorem dX11_count_58 : decode cX11_count 58 = .ok (.getfield 395, 3) := by decide +kernel
theorem dX11_count_61 : decode cX11_count 61 = .ok (.ireturn, 1) := by decide +kernel
theorem dX11_count_62 : decode cX11_count 62 = .ok (.aload_n 0, 1) := by decide +kernel
theorem dX11_count_63 : decode cX11_count 63 = .ok (.getfield 40, 3) := by decide +kernel
theorem dX11_count_66 : decode cX11_count 66 = .ok (.getfield 398, 3) := by decide +kernel
theorem dX11_count_69 : decode cX11_count 69 = .ok (.ireturn, 1) := by decide +kernel
theorem dX11_count_70 : decode cX11_count 70 = .ok (.aload_n 0, 1) := by decide +kernel
theorem dX11_count_71 : decode cX11_count 71 = .ok (.getfield 33, 3) := by decide +kernel
theorem dX11_count_74 : decode cX11_count 74 = .ok (.invokevirtual 399, 3) := by decide +kernel
theorem dX11_count_77 : decode cX11_count 77 = .ok (.ireturn, 1) := by decide +kernel
theorem dX11_count_78 : decode cX11_count 78 = .ok (.aload_n 0, 1) := by decide +kernel
theorem dX11_count_79 : decode cX11_count 79 = .ok (.getfield 47, 3) := by decide +kernel
theorem dX11_count_82 : decode cX11_count 82 = .ok (.getfield 402, 3) := by decide +kernel
theorem dX11_count_85 : decode cX11_count 85 = .ok (.ireturn, 1) := by decide +kernel
theorem dX11_count_86 : decode cX11_count 86 = .ok (.aload_n 0, 1) := by decide +kernel
theorem dX11_count_87 : decode cX11_count 87 = .ok (.getfield 61, 3) := by decide +kernel
theorem dX11_count_90 : decode cX11_count 90 = .ok (.getfield 403, 3) := by decide +kernel
theorem dX11_count_93 : decode cX11_count 93 = .ok (.ireturn, 1) := by decide +kernel
theorem dX11_count_94 : decode cX11_count 94 = .ok (.aload_n 0, 1) := by decide +kernel
theorem dX11_count_95 : decode cX11_count 95 = .ok (.iload_n 1, 1) := by decide +kernel
theorem dX11_count_96 : decode cX11_count 96 = .ok (.invokevirtual 404, 3) := by decide +kernel
theorem dX11_count_99 : decode cX11_count 99 = .ok (.ireturn, 1) := by decide +kernel
def fX11_count (k : ST) (a0 : Int32) : Option (Int32 × ST) := if a0 = 0 then some (gI k 10 0, k) else if a0 = 1 then some (gI k 10 1, k) else if a0 = 2 then some (gI k 0 0, k) else if a0 = 3 then some (gI k 2 0, k) else if a0 = 4 then ob (fX10_uncutWraps k) fun r6 k7 => some (r6, k7) else if a0 = 5 then some (gI k 4 0, k) else if a0 = 6 then some (gI k 8 0, k) else ob (fX11_countFurther k a0) fun r11 k12 => some (r11, k12)
set_option maxRecDepth 20000 in
theorem c_X11_count (l : Launch) (g : GT) (a0 : Int32) : CN l yX11_count cX11_count 2 (some .int) { frames := 2, cells := 0, slots := 0, locals := 43 } g TK voI [.ref (g.2.1 10), .int a0] (fun k => fX11_count k a0) := by
  refine cn_of (by decide) (Nat.le_of_ble_eq_true rfl) ?_
  intro p e s m args below meth c hC k
  have hC : HC p s m args meth c cX11_count 2 RX11 (some .int) g := hC
  have hR : 2 ≤ ({ frames := 2, cells := 0, slots := 0, locals := 43 } : Room).frames ∧ 43 ≤ ({ frames := 2, cells := 0, slots := 0, locals := 43 } : Room).locals := ⟨Nat.le_refl _, Nat.le_refl _⟩
  show ZF p l e _ s m args below meth c g TK voI 2 k 0 [(0, .ref (g.2.1 10)), (1, .int a0)] [] (fX11_count k a0)
  unfold fX11_count
  refine zf_iload_n hC dX11_count_0 rfl 1 rfl ?_
  refine zf_ite (fun h1 => ?_) (fun h1 => ?_)
  · refine zf_tabIn hC (tgt := 44) (off := 43) dX11_count_1 (by rw [h1]; decide) (by rw [h1]; decide) (by rw [h1]; rfl) (by decide) ?_
    refine zf_aload_n hC dX11_count_44 rfl 0 rfl ?_
    refine gf_400 hC dX11_count_45 ?_
    exact zf_iret hC rfl dX11_count_48
  refine zf_ite (fun h2 => ?_) (fun h2 => ?_)
  · refine zf_tabIn hC (tgt := 49) (off := 48) dX11_count_1 (by rw [h2]; decide) (by rw [h2]; decide) (by rw [h2]; rfl) (by decide) ?_
    refine zf_aload_n hC dX11_count_49 rfl 0 rfl ?_
    refine gf_401 hC dX11_count_50 ?_
    exact zf_iret hC rfl dX11_count_53
  refine zf_ite (fun h3 => ?_) (fun h3 => ?_)
  · refine zf_tabIn hC (tgt := 54) (off := 53) dX11_count_1 (by rw [h3]; decide) (by rw [h3]; decide) (by rw [h3]; rfl) (by decide) ?_
    refine zf_aload_n hC dX11_count_54 rfl 0 rfl ?_
    refine gf_408 hC dX11_count_55 ?_
    refine gf_53 hC dX11_count_58 ?_
    exact zf_iret hC rfl dX11_count_61
  refine zf_ite (fun h4 => ?_) (fun h4 => ?_)
  · refine zf_tabIn hC (tgt := 62) (off := 61) dX11_count_1 (by rw [h4]; decide) (by rw [h4]; decide) (by rw [h4]; rfl) (by decide) ?_
    refine zf_aload_n hC dX11_count_62 rfl 0 rfl ?_
    refine gf_410 hC dX11_count_63 ?_
    refine gf_142 hC dX11_count_66 ?_
    exact zf_iret hC rfl dX11_count_69
  refine zf_ite (fun h5 => ?_) (fun h5 => ?_)
  · refine zf_tabIn hC (tgt := 70) (off := 69) dX11_count_1 (by rw [h5]; decide) (by rw [h5]; decide) (by rw [h5]; rfl) (by decide) ?_
    refine zf_aload_n hC dX11_count_70 rfl 0 rfl ?_
    refine gf_409 hC dX11_count_71 ?_
    refine zf_callV hC (c_X10_uncutWraps l g) mt_X10_uncutWraps wd_1135 wd_1136 ci_9 ic_9 wd_1134 rfl (rm_le hR rfl) rfl rfl (rest := []) rfl (Nat.le_of_ble_eq_true rfl) dX11_count_74 (fun r6 k7 h8 => ?_)
    exact zf_iret hC rfl dX11_count_77
  refine zf_ite (fun h9 => ?_) (fun h9 => ?_)
  · refine zf_tabIn hC (tgt := 78) (off := 77) dX11_count_1 (by rw [h9]; decide) (by rw [h9]; decide) (by rw [h9]; rfl) (by decide) ?_
    refine zf_aload_n hC dX11_count_78 rfl 0 rfl ?_
    refine gf_411 hC dX11_count_79 ?_
    refine gf_178 hC dX11_count_82 ?_
    exact zf_iret hC rfl dX11_count_85
  refine zf_ite (fun h10 => ?_) (fun h10 => ?_)
  · refine zf_tabIn hC (tgt := 86) (off := 85) dX11_count_1 (by rw [h10]; decide) (by rw [h10]; decide) (by rw [h10]; rfl) (by decide) ?_
    refine zf_aload_n hC dX11_count_86 rfl 0 rfl ?_
    refine gf_413 hC dX11_count_87 ?_
    refine gf_267 hC dX11_count_90 ?_
    exact zf_iret hC rfl dX11_count_93
  refine zf_tabOut hC (tgt := 94) dX11_count_1 (by have zh1 := lv_neT h1 (a := 0) rfl; have zh2 := lv_neT h2 (a := 1) rfl; have zh3 := lv_neT h3 (a := 2) rfl; have zh4 := lv_neT h4 (a := 3) rfl; have zh5 := lv_neT h5 (a := 4) rfl; have zh9 := lv_neT h9 (a := 5) rfl; have zh10 := lv_neT h10 (a := 6) rfl; omega) (by decide) ?_
  refine zf_aload_n hC dX11_count_94 rfl 0 rfl ?_
  refine zf_iload_n hC dX11_count_95 rfl 1 rfl ?_
  refine zf_callV hC (c_X11_countFurther l g a0) mt_X11_countFurther wd_1140 sp_43 ci_10 ic_10 wd_1138 rfl (rm_le hR rfl) rfl rfl (rest := []) rfl (Nat.le_of_ble_eq_true rfl) dX11_count_96 (fun r11 k12 h13 => ?_)
  exact zf_iret hC rfl dX11_count_99
