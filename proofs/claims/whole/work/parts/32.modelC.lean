/-! LifeKeysModel.isDead -/
theorem dX12_isDead_0 : decode cX12_isDead 0 = .ok (.aload_n 0, 1) := by decide +kernel
theorem dX12_isDead_1 : decode cX12_isDead 1 = .ok (.getfield 133, 3) := by decide +kernel
theorem dX12_isDead_4 : decode cX12_isDead 4 = .ok (.iload_n 1, 1) := by decide +kernel
theorem dX12_isDead_5 : decode cX12_isDead 5 = .ok (.baload, 1) := by decide +kernel
theorem dX12_isDead_6 : decode cX12_isDead 6 = .ok (.ireturn, 1) := by decide +kernel
def fX12_isDead (k : ST) (a0 : Int32) : Option (Bool × ST) := ck (inb a0 12) (if gA k 138 (ix a0) = 0 then some (false, k) else if gA k 138 (ix a0) = 1 then some (true, k) else none)
set_option maxRecDepth 20000 in
theorem c_X12_isDead (l : Launch) (g : GT) (a0 : Int32) : CN l yX12_isDead cX12_isDead 2 (some .boolean) { frames := 0, cells := 0, slots := 0, locals := 0 } g TM voB [.ref (g.2.1 11), .int a0] (fun k => fX12_isDead k a0) := by
  refine cn_of (by decide) (Nat.le_of_ble_eq_true rfl) ?_
  intro p e s m args below meth c hC k
  have hC : HC p s m args meth c cX12_isDead 2 RX12 (some .boolean) g := hC
  have hR : 0 ≤ ({ frames := 0, cells := 0, slots := 0, locals := 0 } : Room).frames ∧ 0 ≤ ({ frames := 0, cells := 0, slots := 0, locals := 0 } : Room).locals := ⟨Nat.le_refl _, Nat.le_refl _⟩
  show ZF p l e _ s m args below meth c g TM voB 2 k 0 [(0, .ref (g.2.1 11)), (1, .int a0)] [] (fX12_isDead k a0)
  unfold fX12_isDead
  refine zf_aload_n hC dX12_isDead_0 rfl 0 rfl ?_
  refine gf_1293 hC dX12_isDead_1 ?_
  refine zf_iload_n hC dX12_isDead_4 rfl 1 rfl ?_
  refine zf_zald hC (j := 138) ia_138 rfl rfl dX12_isDead_5 (fun h1 => ?_)
  exact zf_zretI hC rfl dX12_isDead_6
/-! LifeKeysModel.saysLast -/
theorem dX12_saysLast_0 : decode cX12_saysLast 0 = .ok (.iconst (-1), 1) := by decide +kernel
theorem dX12_saysLast_1 : decode cX12_saysLast 1 = .ok (.istore_n 2, 1) := by decide +kernel
theorem dX12_saysLast_2 : decode cX12_saysLast 2 = .ok (.iconst 0, 1) := by decide +kernel
theorem dX12_saysLast_3 : decode cX12_saysLast 3 = .ok (.istore_n 3, 1) := by decide +kernel
theorem dX12_saysLast_4 : decode cX12_saysLast 4 = .ok (.iload_n 3, 1) := by decide +kernel
theorem dX12_saysLast_5 : decode cX12_saysLast 5 = .ok (.aload_n 0, 1) := by decide +kernel
theorem dX12_saysLast_6 : decode cX12_saysLast 6 = .ok (.getfield 375, 3) := by decide +kernel
theorem dX12_saysLast_9 : decode cX12_saysLast 9 = .ok (.if_icmp .ge 86, 3) := by decide +kernel
theorem dX12_saysLast_12 : decode cX12_saysLast 12 = .ok (.aload_n 0, 1) := by decide +kernel
theorem dX12_saysLast_13 : decode cX12_saysLast 13 = .ok (.getfield 109, 3) := by decide +kernel
theorem dX12_saysLast_16 : decode cX12_saysLast 16 = .ok (.iload_n 3, 1) := by decide +kernel
theorem dX12_saysLast_17 : decode cX12_saysLast 17 = .ok (.iaload, 1) := by decide +kernel
theorem dX12_saysLast_18 : decode cX12_saysLast 18 = .ok (.iload_n 1, 1) := by decide +kernel
theorem dX12_saysLast_19 : decode cX12_saysLast 19 = .ok (.if_icmp .ne 70, 3) := by decide +kernel
theorem dX12_saysLast_22 : decode cX12_saysLast 22 = .ok (.aload_n 0, 1) := by decide +kernel
theorem dX12_saysLast_23 : decode cX12_saysLast 23 = .ok (.getfield 127, 3) := by decide +kernel
theorem dX12_saysLast_26 : decode cX12_saysLast 26 = .ok (.iload_n 3, 1) := by decide +kernel
theorem dX12_saysLast_27 : decode cX12_saysLast 27 = .ok (.baload, 1) := by decide +kernel
theorem dX12_saysLast_28 : decode cX12_saysLast 28 = .ok (.aload_n 0, 1) := by decide +kernel
theorem dX12_saysLast_29 : decode cX12_saysLast 29 = .ok (.getfield 360, 3) := by decide +kernel
theorem dX12_saysLast_32 : decode cX12_saysLast 32 = .ok (.if_icmp .ne 57, 3) := by decide +kernel
theorem dX12_saysLast_35 : decode cX12_saysLast 35 = .ok (.aload_n 0, 1) := by decide +kernel
theorem dX12_saysLast_36 : decode cX12_saysLast 36 = .ok (.getfield 112, 3) := by decide +kernel
theorem dX12_saysLast_39 : decode cX12_saysLast 39 = .ok (.iload_n 3, 1) := by decide +kernel
theorem dX12_saysLast_40 : decode cX12_saysLast 40 = .ok (.iaload, 1) := by decide +kernel
theorem dX12_saysLast_41 : decode cX12_saysLast 41 = .ok (.aload_n 0, 1) := by decide +kernel
theorem dX12_saysLast_42 : decode cX12_saysLast 42 = .ok (.getfield 378, 3) := by decide +kernel
theorem dX12_saysLast_45 : decode cX12_saysLast 45 = .ok (.if_icmp .ne 44, 3) := by decide +kernel
theorem dX12_saysLast_48 : decode cX12_saysLast 48 = .ok (.aload_n 0, 1) := by decide +kernel
theorem dX12_saysLast_49 : decode cX12_saysLast 49 = .ok (.getfield 115, 3) := by decide +kernel
theorem dX12_saysLast_52 : decode cX12_saysLast 52 = .ok (.iload_n 3, 1) := by decide +kernel
theorem dX12_saysLast_53 : decode cX12_saysLast 53 = .ok (.iaload, 1) := by decide +kernel
theorem dX12_saysLast_54 : decode cX12_saysLast 54 = .ok (.aload_n 0, 1) := by decide +kernel
theorem dX12_saysLast_55 : decode cX12_saysLast 55 = .ok (.getfield 372, 3) := by decide +kernel
theorem dX12_saysLast_58 : decode cX12_saysLast 58 = .ok (.if_icmp .gt 31, 3) := by decide +kernel
theorem dX12_saysLast_61 : decode cX12_saysLast 61 = .ok (.aload_n 0, 1) := by decide +kernel
theorem dX12_saysLast_62 : decode cX12_saysLast 62 = .ok (.getfield 115, 3) := by decide +kernel
theorem dX12_saysLast_65 : decode cX12_saysLast 65 = .ok (.iload_n 3, 1) := by decide +kernel
theorem dX12_saysLast_66 : decode cX12_saysLast 66 = .ok (.iaload, 1) := by decide +kernel
theorem dX12_saysLast_67 : decode cX12_saysLast 67 = .ok (.aload_n 0, 1) := by decide +kernel
theorem dX12_saysLast_68 : decode cX12_saysLast 68 = .ok (.getfield 381, 3) := by decide +kernel
theorem dX12_saysLast_71 : decode cX12_saysLast 71 = .ok (.if_icmp .gt 18, 3) := by decide +kernel
theorem dX12_saysLast_74 : decode cX12_saysLast 74 = .ok (.aload_n 0, 1) := by decide +kernel
theorem dX12_saysLast_75 : decode cX12_saysLast 75 = .ok (.getfield 124, 3) := by decide +kernel
theorem dX12_saysLast_78 : decode cX12_saysLast 78 = .ok (.iload_n 3, 1) := by decide +kernel
theorem dX12_saysLast_79 : decode cX12_saysLast 79 = .ok (.baload, 1) := by decide +kernel
theorem dX12_saysLast_80 : decode cX12_saysLast 80 = .ok (.ifCond .eq 7, 3) := by decide +kernel
theorem dX12_saysLast_83 : decode cX12_saysLast 83 = .ok (.iconst 1, 1) := by decide +kernel
theorem dX12_saysLast_84 : decode cX12_saysLast 84 = .ok (.goto 4, 3) := by decide +kernel
theorem dX12_saysLast_87 : decode cX12_saysLast 87 = .ok (.iconst 0, 1) := by decide +kernel
theorem dX12_saysLast_88 : decode cX12_saysLast 88 = .ok (.istore_n 2, 1) := by decide +kernel
theorem dX12_saysLast_89 : decode cX12_saysLast 89 = .ok (.iinc 3 1, 3) := by decide +kernel
theorem dX12_saysLast_92 : decode cX12_saysLast 92 = .ok (.goto (-88), 3) := by decide +kernel
theorem dX12_saysLast_95 : decode cX12_saysLast 95 = .ok (.iload_n 2, 1) := by decide +kernel
theorem dX12_saysLast_96 : decode cX12_saysLast 96 = .ok (.ireturn, 1) := by decide +kernel
def lpX12_saysLast_4 (v1 : Int32) : Nat → Int32 → Int32 → ST → (Int32 → Int32 → ST → Option (Int32 × ST)) → Option (Int32 × ST)
  | 0, _, _, _, _ => none
  | n + 1, v2, v3, k, cont => if (gI k 11 51) ≤ v3 then cont v2 v3 k else ck (inb v3 200) (if (gA k 131 (ix v3)) = v1 then ck (inb v3 200) (if (gA k 137 (ix v3)) = (gI k 11 62) then ck (inb v3 200) (if (gA k 132 (ix v3)) = (gI k 11 58) then ck (inb v3 200) (if (gI k 11 59) < (gA k 133 (ix v3)) then lpX12_saysLast_4 v1 n v2 (v3 + 1) k cont else ck (inb v3 200) (if (gI k 11 60) < (gA k 133 (ix v3)) then lpX12_saysLast_4 v1 n v2 (v3 + 1) k cont else ck (inb v3 200) (if (gA k 136 (ix v3)) = 0 then lpX12_saysLast_4 v1 n 0 (v3 + 1) k cont else lpX12_saysLast_4 v1 n 1 (v3 + 1) k cont))) else lpX12_saysLast_4 v1 n v2 (v3 + 1) k cont) else lpX12_saysLast_4 v1 n v2 (v3 + 1) k cont) else lpX12_saysLast_4 v1 n v2 (v3 + 1) k cont)
set_option maxRecDepth 20000 in
theorem zlpX12_saysLast_4 {p : Program} {l : Launch} {e : Env} {R : Room} {s : State} {m : MethodId} {args : Array Value} {below : List Frame} {meth : Method} {c : Code} {g : GT} (hC : HC p s m args meth c cX12_saysLast 4 RX12 (some .int) g) (hR : 0 ≤ R.frames ∧ 0 ≤ R.locals)  (v1 : Int32) {cont : Int32 → Int32 → ST → Option (Int32 × ST)} (hk : ∀ (v2 : Int32) (v3 : Int32) (k : ST), ZF p l e R s m args below meth c g TM voI 4 k 95 [(0, .ref (g.2.1 11)), (1, .int v1), (2, .int v2), (3, .int v3)] [] (cont v2 v3 k)) : ∀ (n : Nat) (v2 : Int32) (v3 : Int32) (k : ST), ZF p l e R s m args below meth c g TM voI 4 k 4 [(0, .ref (g.2.1 11)), (1, .int v1), (2, .int v2), (3, .int v3)] [] (lpX12_saysLast_4 v1 n v2 v3 k cont) := by
  intro n
  induction n with
  | zero => intros; exact zf_none
  | succ n ih =>
    intro v2 v3 k
    rw [lpX12_saysLast_4]
    refine zf_iload_n hC dX12_saysLast_4 rfl 3 rfl ?_
    refine zf_aload_n hC dX12_saysLast_5 rfl 0 rfl ?_
    refine gf_1281 hC dX12_saysLast_6 ?_
    refine zf_icmp_ge hC (tgt := 95) dX12_saysLast_9 (by decide) (fun h1 => ?_) (fun h1 => ?_)
    · refine zf_lv (LV' := [(0, .ref (g.2.1 11)), (1, .int v1), (2, .int v2), (3, .int v3)]) [0, 1, 2, 3] rfl ?_
      exact hk v2 v3 k
    · refine zf_aload_n hC dX12_saysLast_12 rfl 0 rfl ?_
      refine gf_1271 hC dX12_saysLast_13 ?_
      refine zf_iload_n hC dX12_saysLast_16 rfl 3 rfl ?_
      refine zf_iald hC (j := 131) ia_131 rfl rfl dX12_saysLast_17 (fun h2 => ?_)
      refine zf_iload_n hC dX12_saysLast_18 rfl 1 rfl ?_
      refine zf_icmp_ne hC (tgt := 89) dX12_saysLast_19 (by decide) (fun h3 => ?_) (fun h3 => ?_)
      · refine zf_aload_n hC dX12_saysLast_22 rfl 0 rfl ?_
        refine gf_1277 hC dX12_saysLast_23 ?_
        refine zf_iload_n hC dX12_saysLast_26 rfl 3 rfl ?_
        refine zf_zald hC (j := 137) ia_137 rfl rfl dX12_saysLast_27 (fun h4 => ?_)
        refine zf_aload_n hC dX12_saysLast_28 rfl 0 rfl ?_
        refine gf_1292 hC dX12_saysLast_29 ?_
        refine zf_icmp_ne hC (tgt := 89) dX12_saysLast_32 (by decide) (fun h5 => ?_) (fun h5 => ?_)
        · refine zf_aload_n hC dX12_saysLast_35 rfl 0 rfl ?_
          refine gf_1272 hC dX12_saysLast_36 ?_
          refine zf_iload_n hC dX12_saysLast_39 rfl 3 rfl ?_
          refine zf_iald hC (j := 132) ia_132 rfl rfl dX12_saysLast_40 (fun h6 => ?_)
          refine zf_aload_n hC dX12_saysLast_41 rfl 0 rfl ?_
          refine gf_1288 hC dX12_saysLast_42 ?_
          refine zf_icmp_ne hC (tgt := 89) dX12_saysLast_45 (by decide) (fun h7 => ?_) (fun h7 => ?_)
          · refine zf_aload_n hC dX12_saysLast_48 rfl 0 rfl ?_
            refine gf_1273 hC dX12_saysLast_49 ?_
            refine zf_iload_n hC dX12_saysLast_52 rfl 3 rfl ?_
            refine zf_iald hC (j := 133) ia_133 rfl rfl dX12_saysLast_53 (fun h8 => ?_)
            refine zf_aload_n hC dX12_saysLast_54 rfl 0 rfl ?_
            refine gf_1289 hC dX12_saysLast_55 ?_
            refine zf_icmp_gt hC (tgt := 89) dX12_saysLast_58 (by decide) (fun h9 => ?_) (fun h9 => ?_)
            · refine zf_iinc hC (q := 3) (v := v3 + 1) (LV' := [(3, .int (v3 + 1)), (0, .ref (g.2.1 11)), (1, .int v1), (2, .int v2)]) dX12_saysLast_89 rfl rfl (by decide) rfl ?_
              refine zf_goto hC (tgt := 4) dX12_saysLast_92 (by decide) ?_
              refine zf_lv (LV' := [(0, .ref (g.2.1 11)), (1, .int v1), (2, .int v2), (3, .int (v3 + 1))]) [1, 2, 3, 0] rfl ?_
              exact ih v2 (v3 + 1) k
            · refine zf_aload_n hC dX12_saysLast_61 rfl 0 rfl ?_
              refine gf_1273 hC dX12_saysLast_62 ?_
              refine zf_iload_n hC dX12_saysLast_65 rfl 3 rfl ?_
              refine zf_iald hC (j := 133) ia_133 rfl rfl dX12_saysLast_66 (fun h10 => ?_)
              refine zf_aload_n hC dX12_saysLast_67 rfl 0 rfl ?_
              refine gf_1290 hC dX12_saysLast_68 ?_
              refine zf_icmp_gt hC (tgt := 89) dX12_saysLast_71 (by decide) (fun h11 => ?_) (fun h11 => ?_)
              · refine zf_iinc hC (q := 3) (v := v3 + 1) (LV' := [(3, .int (v3 + 1)), (0, .ref (g.2.1 11)), (1, .int v1), (2, .int v2)]) dX12_saysLast_89 rfl rfl (by decide) rfl ?_
                refine zf_goto hC (tgt := 4) dX12_saysLast_92 (by decide) ?_
                refine zf_lv (LV' := [(0, .ref (g.2.1 11)), (1, .int v1), (2, .int v2), (3, .int (v3 + 1))]) [1, 2, 3, 0] rfl ?_
                exact ih v2 (v3 + 1) k
              · refine zf_aload_n hC dX12_saysLast_74 rfl 0 rfl ?_
                refine gf_1276 hC dX12_saysLast_75 ?_
                refine zf_iload_n hC dX12_saysLast_78 rfl 3 rfl ?_
                refine zf_zald hC (j := 136) ia_136 rfl rfl dX12_saysLast_79 (fun h12 => ?_)
                refine zf_if_eq hC (tgt := 87) dX12_saysLast_80 (by decide) (fun h13 => ?_) (fun h13 => ?_)
                · refine zf_iconst hC (v := 0) dX12_saysLast_87 rfl ?_
                  refine zf_istore_n hC (LV' := [(2, .int 0), (0, .ref (g.2.1 11)), (1, .int v1), (3, .int v3)]) dX12_saysLast_88 rfl (by decide) rfl ?_
                  refine zf_iinc hC (q := 3) (v := v3 + 1) (LV' := [(3, .int (v3 + 1)), (2, .int 0), (0, .ref (g.2.1 11)), (1, .int v1)]) dX12_saysLast_89 rfl rfl (by decide) rfl ?_
                  refine zf_goto hC (tgt := 4) dX12_saysLast_92 (by decide) ?_
                  refine zf_lv (LV' := [(0, .ref (g.2.1 11)), (1, .int v1), (2, .int 0), (3, .int (v3 + 1))]) [2, 3, 1, 0] rfl ?_
                  exact ih 0 (v3 + 1) k
                · refine zf_iconst hC (v := 1) dX12_saysLast_83 rfl ?_
                  refine zf_goto hC (tgt := 88) dX12_saysLast_84 (by decide) ?_
                  refine zf_istore_n hC (LV' := [(2, .int 1), (0, .ref (g.2.1 11)), (1, .int v1), (3, .int v3)]) dX12_saysLast_88 rfl (by decide) rfl ?_
                  refine zf_iinc hC (q := 3) (v := v3 + 1) (LV' := [(3, .int (v3 + 1)), (2, .int 1), (0, .ref (g.2.1 11)), (1, .int v1)]) dX12_saysLast_89 rfl rfl (by decide) rfl ?_
                  refine zf_goto hC (tgt := 4) dX12_saysLast_92 (by decide) ?_
                  refine zf_lv (LV' := [(0, .ref (g.2.1 11)), (1, .int v1), (2, .int 1), (3, .int (v3 + 1))]) [2, 3, 1, 0] rfl ?_
                  exact ih 1 (v3 + 1) k
          · refine zf_iinc hC (q := 3) (v := v3 + 1) (LV' := [(3, .int (v3 + 1)), (0, .ref (g.2.1 11)), (1, .int v1), (2, .int v2)]) dX12_saysLast_89 rfl rfl (by decide) rfl ?_
            refine zf_goto hC (tgt := 4) dX12_saysLast_92 (by decide) ?_
            refine zf_lv (LV' := [(0, .ref (g.2.1 11)), (1, .int v1), (2, .int v2), (3, .int (v3 + 1))]) [1, 2, 3, 0] rfl ?_
            exact ih v2 (v3 + 1) k
        · refine zf_iinc hC (q := 3) (v := v3 + 1) (LV' := [(3, .int (v3 + 1)), (0, .ref (g.2.1 11)), (1, .int v1), (2, .int v2)]) dX12_saysLast_89 rfl rfl (by decide) rfl ?_
          refine zf_goto hC (tgt := 4) dX12_saysLast_92 (by decide) ?_
          refine zf_lv (LV' := [(0, .ref (g.2.1 11)), (1, .int v1), (2, .int v2), (3, .int (v3 + 1))]) [1, 2, 3, 0] rfl ?_
          exact ih v2 (v3 + 1) k
      · refine zf_iinc hC (q := 3) (v := v3 + 1) (LV' := [(3, .int (v3 + 1)), (0, .ref (g.2.1 11)), (1, .int v1), (2, .int v2)]) dX12_saysLast_89 rfl rfl (by decide) rfl ?_
        refine zf_goto hC (tgt := 4) dX12_saysLast_92 (by decide) ?_
        refine zf_lv (LV' := [(0, .ref (g.2.1 11)), (1, .int v1), (2, .int v2), (3, .int (v3 + 1))]) [1, 2, 3, 0] rfl ?_
        exact ih v2 (v3 + 1) k
def fX12_saysLast (k : ST) (a0 : Int32) : Option (Int32 × ST) := lpX12_saysLast_4 a0 FU (-1) 0 k fun y14 y15 k16 => some (y14, k16)
set_option maxRecDepth 20000 in
theorem c_X12_saysLast (l : Launch) (g : GT) (a0 : Int32) : CN l yX12_saysLast cX12_saysLast 4 (some .int) { frames := 0, cells := 0, slots := 0, locals := 0 } g TM voI [.ref (g.2.1 11), .int a0] (fun k => fX12_saysLast k a0) := by
  refine cn_of (by decide) (Nat.le_of_ble_eq_true rfl) ?_
  intro p e s m args below meth c hC k
  have hC : HC p s m args meth c cX12_saysLast 4 RX12 (some .int) g := hC
  have hR : 0 ≤ ({ frames := 0, cells := 0, slots := 0, locals := 0 } : Room).frames ∧ 0 ≤ ({ frames := 0, cells := 0, slots := 0, locals := 0 } : Room).locals := ⟨Nat.le_refl _, Nat.le_refl _⟩
  show ZF p l e _ s m args below meth c g TM voI 4 k 0 [(0, .ref (g.2.1 11)), (1, .int a0)] [] (fX12_saysLast k a0)
  unfold fX12_saysLast
  refine zf_iconst hC (v := (-1)) dX12_saysLast_0 rfl ?_
  refine zf_istore_n hC (LV' := [(2, .int (-1)), (0, .ref (g.2.1 11)), (1, .int a0)]) dX12_saysLast_1 rfl (by decide) rfl ?_
  refine zf_iconst hC (v := 0) dX12_saysLast_2 rfl ?_
  refine zf_istore_n hC (LV' := [(3, .int 0), (2, .int (-1)), (0, .ref (g.2.1 11)), (1, .int a0)]) dX12_saysLast_3 rfl (by decide) rfl ?_
  refine zf_lv (LV' := [(0, .ref (g.2.1 11)), (1, .int a0), (2, .int (-1)), (3, .int 0)]) [2, 3, 1, 0] rfl ?_
  refine zlpX12_saysLast_4 hC hR a0 (fun y14 y15 k16 => ?_) FU (-1) 0 k
  refine zf_iload_n hC dX12_saysLast_95 rfl 2 rfl ?_
  exact zf_iret hC rfl dX12_saysLast_96
/-! LifeKeysModel.all -/
theorem dX12_all_0 : decode cX12_all 0 = .ok (.aload_n 0, 1) := by decide +kernel
theorem dX12_all_1 : decode cX12_all 1 = .ok (.invokevirtual 345, 3) := by decide +kernel
theorem dX12_all_4 : decode cX12_all 4 = .ok (.istore_n 1, 1) := by decide +kernel
theorem dX12_all_5 : decode cX12_all 5 = .ok (.aload_n 0, 1) := by decide +kernel
theorem dX12_all_6 : decode cX12_all 6 = .ok (.getfield 325, 3) := by decide +kernel
theorem dX12_all_9 : decode cX12_all 9 = .ok (.iconst (-1), 1) := by decide +kernel
theorem dX12_all_10 : decode cX12_all 10 = .ok (.if_icmp .ne 44, 3) := by decide +kernel
theorem dX12_all_13 : decode cX12_all 13 = .ok (.aload_n 0, 1) := by decide +kernel
theorem dX12_all_14 : decode cX12_all 14 = .ok (.invokevirtual 335, 3) := by decide +kernel
theorem dX12_all_17 : decode cX12_all 17 = .ok (.bipush 38, 2) := by decide +kernel
theorem dX12_all_19 : decode cX12_all 19 = .ok (.if_icmp .ne 35, 3) := by decide +kernel
theorem dX12_all_22 : decode cX12_all 22 = .ok (.aload_n 0, 1) := by decide +kernel
theorem dX12_all_23 : decode cX12_all 23 = .ok (.dup, 1) := by decide +kernel
theorem dX12_all_24 : decode cX12_all 24 = .ok (.getfield 316, 3) := by decide +kernel
theorem dX12_all_27 : decode cX12_all 27 = .ok (.iconst 1, 1) := by decide +kernel
theorem dX12_all_28 : decode cX12_all 28 = .ok (.iadd, 1) := by decide +kernel
theorem dX12_all_29 : decode cX12_all 29 = .ok (.putfield 316, 3) := by decide +kernel
theorem dX12_all_32 : decode cX12_all 32 = .ok (.aload_n 0, 1) := by decide +kernel
theorem dX12_all_33 : decode cX12_all 33 = .ok (.invokevirtual 345, 3) := by decide +kernel
theorem dX12_all_36 : decode cX12_all 36 = .ok (.istore_n 2, 1) := by decide +kernel
theorem dX12_all_37 : decode cX12_all 37 = .ok (.iload_n 1, 1) := by decide +kernel
theorem dX12_all_38 : decode cX12_all 38 = .ok (.ifCond .eq 11, 3) := by decide +kernel
theorem dX12_all_41 : decode cX12_all 41 = .ok (.iload_n 2, 1) := by decide +kernel
theorem dX12_all_42 : decode cX12_all 42 = .ok (.ifCond .eq 7, 3) := by decide +kernel
theorem dX12_all_45 : decode cX12_all 45 = .ok (.iconst 1, 1) := by decide +kernel
theorem dX12_all_46 : decode cX12_all 46 = .ok (.goto 4, 3) := by decide +kernel
theorem dX12_all_49 : decode cX12_all 49 = .ok (.iconst 0, 1) := by decide +kernel
theorem dX12_all_50 : decode cX12_all 50 = .ok (.istore_n 1, 1) := by decide +kernel
theorem dX12_all_51 : decode cX12_all 51 = .ok (.goto (-46), 3) := by decide +kernel
theorem dX12_all_54 : decode cX12_all 54 = .ok (.iload_n 1, 1) := by decide +kernel
theorem dX12_all_55 : decode cX12_all 55 = .ok (.ireturn, 1) := by decide +kernel
def lpX12_all_5 (u : ST → Option (Bool × ST))  : Nat → Bool → ST → (Bool → ST → Option (Bool × ST)) → Option (Bool × ST)
  | 0, _, _, _ => none
  | n + 1, v1, k, cont => if (gI k 11 56) = (-1) then ob (fX12_look k) fun r5 k6 => if r5 = 38 then nm (sI k6 11 55 ((gI k6 11 55) + 1)) fun k9 => ob (u k9) fun r10 k11 => if v1 = true then if r10 = true then lpX12_all_5 u n true k11 cont else lpX12_all_5 u n false k11 cont else lpX12_all_5 u n false k11 cont else cont v1 k6 else cont v1 k
set_option maxRecDepth 20000 in
theorem zlpX12_all_5 {p : Program} {l : Launch} {e : Env} {R : Room} {s : State} {m : MethodId} {args : Array Value} {below : List Frame} {meth : Method} {c : Code} {g : GT} (hC : HC p s m args meth c cX12_all 3 RX12 (some .boolean) g) {fu lu : Nat} (hR : fu + 1 ≤ R.frames ∧ lu + 23 ≤ R.locals) {u : ST → Option (Bool × ST)} (hu : CN l yX12_unit cX12_unit 4 (some .boolean) { frames := fu, cells := 0, slots := 0, locals := lu } g TM voB [.ref (g.2.1 11)] (fun k => u k))   {cont : Bool → ST → Option (Bool × ST)} (hk : ∀ (v1 : Bool) (k : ST), ZF p l e R s m args below meth c g TM voB 3 k 54 [(0, .ref (g.2.1 11)), (1, .int (b2i v1))] [] (cont v1 k)) : ∀ (n : Nat) (v1 : Bool) (k : ST), ZF p l e R s m args below meth c g TM voB 3 k 5 [(0, .ref (g.2.1 11)), (1, .int (b2i v1))] [] (lpX12_all_5 u n v1 k cont) := by
  intro n
  induction n with
  | zero => intros; exact zf_none
  | succ n ih =>
    intro v1 k
    rw [lpX12_all_5]
    refine zf_aload_n hC dX12_all_5 rfl 0 rfl ?_
    refine gf_1286 hC dX12_all_6 ?_
    refine zf_iconst hC (v := (-1)) dX12_all_9 rfl ?_
    refine zf_icmp_ne hC (tgt := 54) dX12_all_10 (by decide) (fun h4 => ?_) (fun h4 => ?_)
    · refine zf_aload_n hC dX12_all_13 rfl 0 rfl ?_
      refine zf_callV hC (c_X12_look l g) mt_X12_look wd_1690 sp_66 ci_11 ic_11 wd_1688 rfl (show 0 + 1 ≤ R.frames ∧ 8 + (1 + 11) + 0 ≤ R.locals by omega) rfl rfl (rest := []) rfl (Nat.le_of_ble_eq_true rfl) dX12_all_14 (fun r5 k6 h7 => ?_)
      refine zf_bipush hC (v := 38) dX12_all_17 rfl ?_
      refine zf_icmp_ne hC (tgt := 54) dX12_all_19 (by decide) (fun h8 => ?_) (fun h8 => ?_)
      · refine zf_aload_n hC dX12_all_22 rfl 0 rfl ?_
        refine zf_dup hC dX12_all_23 rfl ?_
        refine gf_1285 hC dX12_all_24 ?_
        refine zf_iconst hC (v := 1) dX12_all_27 rfl ?_
        refine zf_iadd hC dX12_all_28 ?_
        refine pf_1285 hC dX12_all_29 ?_
        refine zf_nmk (fun k9 => ?_)
        refine zf_aload_n hC dX12_all_32 rfl 0 rfl ?_
        refine zf_callV hC (hu) mt_X12_unit wd_1686 sp_65 ci_11 ic_11 wd_1684 rfl (show fu + 0 + 1 ≤ R.frames ∧ 8 + (4 + 11) + (lu + 0) ≤ R.locals by omega) rfl rfl (rest := []) rfl (Nat.le_of_ble_eq_true rfl) dX12_all_33 (fun r10 k11 h12 => ?_)
        refine zf_istore_n hC (LV' := [(2, .int (b2i r10)), (0, .ref (g.2.1 11)), (1, .int (b2i v1))]) dX12_all_36 rfl (by decide) rfl ?_
        refine zf_iload_n hC dX12_all_37 rfl 2 rfl ?_
        refine zf_ifb_eq hC (tgt := 49) dX12_all_38 (by decide) (fun h13 => ?_) (fun h13 => ?_)
        · refine zf_iload_n hC dX12_all_41 rfl 0 rfl ?_
          refine zf_ifb_eq hC (tgt := 49) dX12_all_42 (by decide) (fun h14 => ?_) (fun h14 => ?_)
          · refine zf_iconst hC (v := 1) dX12_all_45 rfl ?_
            refine zf_goto hC (tgt := 50) dX12_all_46 (by decide) ?_
            refine zf_istore_n hC (LV' := [(1, .int 1), (2, .int (b2i r10)), (0, .ref (g.2.1 11))]) dX12_all_50 rfl (by decide) rfl ?_
            refine zf_goto hC (tgt := 5) dX12_all_51 (by decide) ?_
            refine zf_lv (LV' := [(0, .ref (g.2.1 11)), (1, .int (b2i true))]) [2, 0] rfl ?_
            exact ih true k11
          · refine zf_iconst hC (v := 0) dX12_all_49 rfl ?_
            refine zf_istore_n hC (LV' := [(1, .int 0), (2, .int (b2i r10)), (0, .ref (g.2.1 11))]) dX12_all_50 rfl (by decide) rfl ?_
            refine zf_goto hC (tgt := 5) dX12_all_51 (by decide) ?_
            refine zf_lv (LV' := [(0, .ref (g.2.1 11)), (1, .int (b2i false))]) [2, 0] rfl ?_
            exact ih false k11
        · refine zf_iconst hC (v := 0) dX12_all_49 rfl ?_
          refine zf_istore_n hC (LV' := [(1, .int 0), (2, .int (b2i r10)), (0, .ref (g.2.1 11))]) dX12_all_50 rfl (by decide) rfl ?_
          refine zf_goto hC (tgt := 5) dX12_all_51 (by decide) ?_
          refine zf_lv (LV' := [(0, .ref (g.2.1 11)), (1, .int (b2i false))]) [2, 0] rfl ?_
          exact ih false k11
      · refine zf_lv (LV' := [(0, .ref (g.2.1 11)), (1, .int (b2i v1))]) [0, 1] rfl ?_
        exact hk v1 k6
    · refine zf_lv (LV' := [(0, .ref (g.2.1 11)), (1, .int (b2i v1))]) [0, 1] rfl ?_
      exact hk v1 k
def FX12_all (u : ST → Option (Bool × ST)) (k : ST)  : Option (Bool × ST) := ob (u k) fun r1 k2 => lpX12_all_5 u FU r1 k2 fun y15 k16 => some (y15, k16)
set_option maxRecDepth 20000 in
theorem cF_X12_all (l : Launch) (g : GT) {fu lu : Nat} {u : ST → Option (Bool × ST)} (hu : CN l yX12_unit cX12_unit 4 (some .boolean) { frames := fu, cells := 0, slots := 0, locals := lu } g TM voB [.ref (g.2.1 11)] (fun k => u k))  : CN l yX12_all cX12_all 3 (some .boolean) { frames := fu + 1, cells := 0, slots := 0, locals := lu + 23 } g TM voB [.ref (g.2.1 11)] (fun k => FX12_all u k) := by
  refine cn_of (by decide) (Nat.le_of_ble_eq_true rfl) ?_
  intro p e s m args below meth c hC k
  have hC : HC p s m args meth c cX12_all 3 RX12 (some .boolean) g := hC
  generalize hRe : ({ frames := fu + 1, cells := 0, slots := 0, locals := lu + 23 } : Room) = R
  have hR : fu + 1 ≤ R.frames ∧ lu + 23 ≤ R.locals := by rw [← hRe]; exact ⟨Nat.le_refl _, Nat.le_refl _⟩
  show ZF p l e _ s m args below meth c g TM voB 3 k 0 [(0, .ref (g.2.1 11))] [] (FX12_all u k)
  unfold FX12_all
  refine zf_aload_n hC dX12_all_0 rfl 0 rfl ?_
  refine zf_callV hC (hu) mt_X12_unit wd_1686 sp_65 ci_11 ic_11 wd_1684 rfl (show fu + 0 + 1 ≤ R.frames ∧ 8 + (4 + 11) + (lu + 0) ≤ R.locals by omega) rfl rfl (rest := []) rfl (Nat.le_of_ble_eq_true rfl) dX12_all_1 (fun r1 k2 h3 => ?_)
  refine zf_istore_n hC (LV' := [(1, .int (b2i r1)), (0, .ref (g.2.1 11))]) dX12_all_4 rfl (by decide) rfl ?_
  refine zf_lv (LV' := [(0, .ref (g.2.1 11)), (1, .int (b2i r1))]) [1, 0] rfl ?_
  refine zlpX12_all_5 hC hR hu (fun y15 k16 => ?_) FU r1 k2
  refine zf_iload_n hC dX12_all_54 rfl 1 rfl ?_
  exact zf_zret hC rfl y15 rfl dX12_all_55
/-! LifeKeysModel.any -/
theorem dX12_any_0 : decode cX12_any 0 = .ok (.aload_n 0, 1) := by decide +kernel
theorem dX12_any_1 : decode cX12_any 1 = .ok (.invokevirtual 342, 3) := by decide +kernel
theorem dX12_any_4 : decode cX12_any 4 = .ok (.istore_n 1, 1) := by decide +kernel
theorem dX12_any_5 : decode cX12_any 5 = .ok (.aload_n 0, 1) := by decide +kernel
theorem dX12_any_6 : decode cX12_any 6 = .ok (.getfield 325, 3) := by decide +kernel
theorem dX12_any_9 : decode cX12_any 9 = .ok (.iconst (-1), 1) := by decide +kernel
theorem dX12_any_10 : decode cX12_any 10 = .ok (.if_icmp .ne 44, 3) := by decide +kernel
theorem dX12_any_13 : decode cX12_any 13 = .ok (.aload_n 0, 1) := by decide +kernel
theorem dX12_any_14 : decode cX12_any 14 = .ok (.invokevirtual 335, 3) := by decide +kernel
theorem dX12_any_17 : decode cX12_any 17 = .ok (.bipush 124, 2) := by decide +kernel
theorem dX12_any_19 : decode cX12_any 19 = .ok (.if_icmp .ne 35, 3) := by decide +kernel
theorem dX12_any_22 : decode cX12_any 22 = .ok (.aload_n 0, 1) := by decide +kernel
theorem dX12_any_23 : decode cX12_any 23 = .ok (.dup, 1) := by decide +kernel
theorem dX12_any_24 : decode cX12_any 24 = .ok (.getfield 316, 3) := by decide +kernel
theorem dX12_any_27 : decode cX12_any 27 = .ok (.iconst 1, 1) := by decide +kernel
theorem dX12_any_28 : decode cX12_any 28 = .ok (.iadd, 1) := by decide +kernel
theorem dX12_any_29 : decode cX12_any 29 = .ok (.putfield 316, 3) := by decide +kernel
theorem dX12_any_32 : decode cX12_any 32 = .ok (.aload_n 0, 1) := by decide +kernel
theorem dX12_any_33 : decode cX12_any 33 = .ok (.invokevirtual 342, 3) := by decide +kernel
theorem dX12_any_36 : decode cX12_any 36 = .ok (.istore_n 2, 1) := by decide +kernel
theorem dX12_any_37 : decode cX12_any 37 = .ok (.iload_n 1, 1) := by decide +kernel
theorem dX12_any_38 : decode cX12_any 38 = .ok (.ifCond .ne 7, 3) := by decide +kernel
theorem dX12_any_41 : decode cX12_any 41 = .ok (.iload_n 2, 1) := by decide +kernel
theorem dX12_any_42 : decode cX12_any 42 = .ok (.ifCond .eq 7, 3) := by decide +kernel
theorem dX12_any_45 : decode cX12_any 45 = .ok (.iconst 1, 1) := by decide +kernel
theorem dX12_any_46 : decode cX12_any 46 = .ok (.goto 4, 3) := by decide +kernel
theorem dX12_any_49 : decode cX12_any 49 = .ok (.iconst 0, 1) := by decide +kernel
theorem dX12_any_50 : decode cX12_any 50 = .ok (.istore_n 1, 1) := by decide +kernel
theorem dX12_any_51 : decode cX12_any 51 = .ok (.goto (-46), 3) := by decide +kernel
theorem dX12_any_54 : decode cX12_any 54 = .ok (.iload_n 1, 1) := by decide +kernel
theorem dX12_any_55 : decode cX12_any 55 = .ok (.ireturn, 1) := by decide +kernel
def lpX12_any_5 (u : ST → Option (Bool × ST))  : Nat → Bool → ST → (Bool → ST → Option (Bool × ST)) → Option (Bool × ST)
  | 0, _, _, _ => none
  | n + 1, v1, k, cont => if (gI k 11 56) = (-1) then ob (fX12_look k) fun r5 k6 => if r5 = 124 then nm (sI k6 11 55 ((gI k6 11 55) + 1)) fun k9 => ob (FX12_all u k9) fun r10 k11 => if v1 = true then lpX12_any_5 u n true k11 cont else if r10 = true then lpX12_any_5 u n true k11 cont else lpX12_any_5 u n false k11 cont else cont v1 k6 else cont v1 k
set_option maxRecDepth 20000 in
theorem zlpX12_any_5 {p : Program} {l : Launch} {e : Env} {R : Room} {s : State} {m : MethodId} {args : Array Value} {below : List Frame} {meth : Method} {c : Code} {g : GT} (hC : HC p s m args meth c cX12_any 3 RX12 (some .boolean) g) {fu lu : Nat} (hR : fu + 2 ≤ R.frames ∧ lu + 45 ≤ R.locals) {u : ST → Option (Bool × ST)} (hu : CN l yX12_unit cX12_unit 4 (some .boolean) { frames := fu, cells := 0, slots := 0, locals := lu } g TM voB [.ref (g.2.1 11)] (fun k => u k))   {cont : Bool → ST → Option (Bool × ST)} (hk : ∀ (v1 : Bool) (k : ST), ZF p l e R s m args below meth c g TM voB 3 k 54 [(0, .ref (g.2.1 11)), (1, .int (b2i v1))] [] (cont v1 k)) : ∀ (n : Nat) (v1 : Bool) (k : ST), ZF p l e R s m args below meth c g TM voB 3 k 5 [(0, .ref (g.2.1 11)), (1, .int (b2i v1))] [] (lpX12_any_5 u n v1 k cont) := by
  intro n
  induction n with
  | zero => intros; exact zf_none
  | succ n ih =>
    intro v1 k
    rw [lpX12_any_5]
    refine zf_aload_n hC dX12_any_5 rfl 0 rfl ?_
    refine gf_1286 hC dX12_any_6 ?_
    refine zf_iconst hC (v := (-1)) dX12_any_9 rfl ?_
    refine zf_icmp_ne hC (tgt := 54) dX12_any_10 (by decide) (fun h4 => ?_) (fun h4 => ?_)
    · refine zf_aload_n hC dX12_any_13 rfl 0 rfl ?_
      refine zf_callV hC (c_X12_look l g) mt_X12_look wd_1690 sp_66 ci_11 ic_11 wd_1688 rfl (show 0 + 1 ≤ R.frames ∧ 8 + (1 + 11) + 0 ≤ R.locals by omega) rfl rfl (rest := []) rfl (Nat.le_of_ble_eq_true rfl) dX12_any_14 (fun r5 k6 h7 => ?_)
      refine zf_bipush hC (v := 124) dX12_any_17 rfl ?_
      refine zf_icmp_ne hC (tgt := 54) dX12_any_19 (by decide) (fun h8 => ?_) (fun h8 => ?_)
      · refine zf_aload_n hC dX12_any_22 rfl 0 rfl ?_
        refine zf_dup hC dX12_any_23 rfl ?_
        refine gf_1285 hC dX12_any_24 ?_
        refine zf_iconst hC (v := 1) dX12_any_27 rfl ?_
        refine zf_iadd hC dX12_any_28 ?_
        refine pf_1285 hC dX12_any_29 ?_
        refine zf_nmk (fun k9 => ?_)
        refine zf_aload_n hC dX12_any_32 rfl 0 rfl ?_
        refine zf_callV hC (cF_X12_all l g hu) mt_X12_all wd_1682 sp_64 ci_11 ic_11 wd_1680 rfl (show fu + 1 + 1 ≤ R.frames ∧ 8 + (3 + 11) + (lu + 23) ≤ R.locals by omega) rfl rfl (rest := []) rfl (Nat.le_of_ble_eq_true rfl) dX12_any_33 (fun r10 k11 h12 => ?_)
        refine zf_istore_n hC (LV' := [(2, .int (b2i r10)), (0, .ref (g.2.1 11)), (1, .int (b2i v1))]) dX12_any_36 rfl (by decide) rfl ?_
        refine zf_iload_n hC dX12_any_37 rfl 2 rfl ?_
        refine zf_ifb_ne hC (tgt := 45) dX12_any_38 (by decide) (fun h13 => ?_) (fun h13 => ?_)
        · refine zf_iconst hC (v := 1) dX12_any_45 rfl ?_
          refine zf_goto hC (tgt := 50) dX12_any_46 (by decide) ?_
          refine zf_istore_n hC (LV' := [(1, .int 1), (2, .int (b2i r10)), (0, .ref (g.2.1 11))]) dX12_any_50 rfl (by decide) rfl ?_
          refine zf_goto hC (tgt := 5) dX12_any_51 (by decide) ?_
          refine zf_lv (LV' := [(0, .ref (g.2.1 11)), (1, .int (b2i true))]) [2, 0] rfl ?_
          exact ih true k11
        · refine zf_iload_n hC dX12_any_41 rfl 0 rfl ?_
          refine zf_ifb_eq hC (tgt := 49) dX12_any_42 (by decide) (fun h14 => ?_) (fun h14 => ?_)
          · refine zf_iconst hC (v := 1) dX12_any_45 rfl ?_
            refine zf_goto hC (tgt := 50) dX12_any_46 (by decide) ?_
            refine zf_istore_n hC (LV' := [(1, .int 1), (2, .int (b2i r10)), (0, .ref (g.2.1 11))]) dX12_any_50 rfl (by decide) rfl ?_
            refine zf_goto hC (tgt := 5) dX12_any_51 (by decide) ?_
            refine zf_lv (LV' := [(0, .ref (g.2.1 11)), (1, .int (b2i true))]) [2, 0] rfl ?_
            exact ih true k11
          · refine zf_iconst hC (v := 0) dX12_any_49 rfl ?_
            refine zf_istore_n hC (LV' := [(1, .int 0), (2, .int (b2i r10)), (0, .ref (g.2.1 11))]) dX12_any_50 rfl (by decide) rfl ?_
            refine zf_goto hC (tgt := 5) dX12_any_51 (by decide) ?_
            refine zf_lv (LV' := [(0, .ref (g.2.1 11)), (1, .int (b2i false))]) [2, 0] rfl ?_
            exact ih false k11
      · refine zf_lv (LV' := [(0, .ref (g.2.1 11)), (1, .int (b2i v1))]) [0, 1] rfl ?_
        exact hk v1 k6
    · refine zf_lv (LV' := [(0, .ref (g.2.1 11)), (1, .int (b2i v1))]) [0, 1] rfl ?_
      exact hk v1 k
def FX12_any (u : ST → Option (Bool × ST)) (k : ST)  : Option (Bool × ST) := ob (FX12_all u k) fun r1 k2 => lpX12_any_5 u FU r1 k2 fun y15 k16 => some (y15, k16)
set_option maxRecDepth 20000 in
theorem cF_X12_any (l : Launch) (g : GT) {fu lu : Nat} {u : ST → Option (Bool × ST)} (hu : CN l yX12_unit cX12_unit 4 (some .boolean) { frames := fu, cells := 0, slots := 0, locals := lu } g TM voB [.ref (g.2.1 11)] (fun k => u k))  : CN l yX12_any cX12_any 3 (some .boolean) { frames := fu + 2, cells := 0, slots := 0, locals := lu + 45 } g TM voB [.ref (g.2.1 11)] (fun k => FX12_any u k) := by
  refine cn_of (by decide) (Nat.le_of_ble_eq_true rfl) ?_
  intro p e s m args below meth c hC k
  have hC : HC p s m args meth c cX12_any 3 RX12 (some .boolean) g := hC
  generalize hRe : ({ frames := fu + 2, cells := 0, slots := 0, locals := lu + 45 } : Room) = R
  have hR : fu + 2 ≤ R.frames ∧ lu + 45 ≤ R.locals := by rw [← hRe]; exact ⟨Nat.le_refl _, Nat.le_refl _⟩
  show ZF p l e _ s m args below meth c g TM voB 3 k 0 [(0, .ref (g.2.1 11))] [] (FX12_any u k)
  unfold FX12_any
  refine zf_aload_n hC dX12_any_0 rfl 0 rfl ?_
  refine zf_callV hC (cF_X12_all l g hu) mt_X12_all wd_1682 sp_64 ci_11 ic_11 wd_1680 rfl (show fu + 1 + 1 ≤ R.frames ∧ 8 + (3 + 11) + (lu + 23) ≤ R.locals by omega) rfl rfl (rest := []) rfl (Nat.le_of_ble_eq_true rfl) dX12_any_1 (fun r1 k2 h3 => ?_)
  refine zf_istore_n hC (LV' := [(1, .int (b2i r1)), (0, .ref (g.2.1 11))]) dX12_any_4 rfl (by decide) rfl ?_
  refine zf_lv (LV' := [(0, .ref (g.2.1 11)), (1, .int (b2i r1))]) [1, 0] rfl ?_
  refine zlpX12_any_5 hC hR hu (fun y15 k16 => ?_) FU r1 k2
  refine zf_iload_n hC dX12_any_54 rfl 1 rfl ?_
  exact zf_zret hC rfl y15 rfl dX12_any_55
/-! LifeKeysModel.unit -/
theorem dX12_unit_0 : decode cX12_unit 0 = .ok (.aload_n 0, 1) := by decide +kernel
theorem dX12_unit_1 : decode cX12_unit 1 = .ok (.invokevirtual 335, 3) := by decide +kernel
theorem dX12_unit_4 : decode cX12_unit 4 = .ok (.istore_n 1, 1) := by decide +kernel
theorem dX12_unit_5 : decode cX12_unit 5 = .ok (.iload_n 1, 1) := by decide +kernel
theorem dX12_unit_6 : decode cX12_unit 6 = .ok (.bipush 33, 2) := by decide +kernel
theorem dX12_unit_8 : decode cX12_unit 8 = .ok (.if_icmp .ne 37, 3) := by decide +kernel
theorem dX12_unit_11 : decode cX12_unit 11 = .ok (.aload_n 0, 1) := by decide +kernel
theorem dX12_unit_12 : decode cX12_unit 12 = .ok (.invokevirtual 348, 3) := by decide +kernel
theorem dX12_unit_15 : decode cX12_unit 15 = .ok (.ifCond .ne 5, 3) := by decide +kernel
theorem dX12_unit_18 : decode cX12_unit 18 = .ok (.iconst 0, 1) := by decide +kernel
theorem dX12_unit_19 : decode cX12_unit 19 = .ok (.ireturn, 1) := by decide +kernel
theorem dX12_unit_20 : decode cX12_unit 20 = .ok (.aload_n 0, 1) := by decide +kernel
theorem dX12_unit_21 : decode cX12_unit 21 = .ok (.invokevirtual 345, 3) := by decide +kernel
theorem dX12_unit_24 : decode cX12_unit 24 = .ok (.istore_n 2, 1) := by decide +kernel
theorem dX12_unit_25 : decode cX12_unit 25 = .ok (.aload_n 0, 1) := by decide +kernel
theorem dX12_unit_26 : decode cX12_unit 26 = .ok (.dup, 1) := by decide +kernel
theorem dX12_unit_27 : decode cX12_unit 27 = .ok (.getfield 328, 3) := by decide +kernel
theorem dX12_unit_30 : decode cX12_unit 30 = .ok (.iconst 1, 1) := by decide +kernel
theorem dX12_unit_31 : decode cX12_unit 31 = .ok (.isub, 1) := by decide +kernel
theorem dX12_unit_32 : decode cX12_unit 32 = .ok (.putfield 328, 3) := by decide +kernel
theorem dX12_unit_35 : decode cX12_unit 35 = .ok (.iload_n 2, 1) := by decide +kernel
theorem dX12_unit_36 : decode cX12_unit 36 = .ok (.ifCond .ne 7, 3) := by decide +kernel
theorem dX12_unit_39 : decode cX12_unit 39 = .ok (.iconst 1, 1) := by decide +kernel
theorem dX12_unit_40 : decode cX12_unit 40 = .ok (.goto 4, 3) := by decide +kernel
theorem dX12_unit_43 : decode cX12_unit 43 = .ok (.iconst 0, 1) := by decide +kernel
theorem dX12_unit_44 : decode cX12_unit 44 = .ok (.ireturn, 1) := by decide +kernel
theorem dX12_unit_45 : decode cX12_unit 45 = .ok (.iload_n 1, 1) := by decide +kernel
theorem dX12_unit_46 : decode cX12_unit 46 = .ok (.bipush 40, 2) := by decide +kernel
theorem dX12_unit_48 : decode cX12_unit 48 = .ok (.if_icmp .ne 40, 3) := by decide +kernel
theorem dX12_unit_51 : decode cX12_unit 51 = .ok (.aload_n 0, 1) := by decide +kernel
theorem dX12_unit_52 : decode cX12_unit 52 = .ok (.invokevirtual 348, 3) := by decide +kernel
theorem dX12_unit_55 : decode cX12_unit 55 = .ok (.ifCond .ne 5, 3) := by decide +kernel
theorem dX12_unit_58 : decode cX12_unit 58 = .ok (.iconst 0, 1) := by decide +kernel
theorem dX12_unit_59 : decode cX12_unit 59 = .ok (.ireturn, 1) := by decide +kernel
theorem dX12_unit_60 : decode cX12_unit 60 = .ok (.aload_n 0, 1) := by decide +kernel
theorem dX12_unit_61 : decode cX12_unit 61 = .ok (.invokevirtual 351, 3) := by decide +kernel
theorem dX12_unit_64 : decode cX12_unit 64 = .ok (.istore_n 2, 1) := by decide +kernel
theorem dX12_unit_65 : decode cX12_unit 65 = .ok (.aload_n 0, 1) := by decide +kernel
theorem dX12_unit_66 : decode cX12_unit 66 = .ok (.bipush 41, 2) := by decide +kernel
theorem dX12_unit_68 : decode cX12_unit 68 = .ok (.invokevirtual 354, 3) := by decide +kernel
theorem dX12_unit_71 : decode cX12_unit 71 = .ok (.ifCond .ne 5, 3) := by decide +kernel
theorem dX12_unit_74 : decode cX12_unit 74 = .ok (.iconst 0, 1) := by decide +kernel
theorem dX12_unit_75 : decode cX12_unit 75 = .ok (.ireturn, 1) := by decide +kernel
theorem dX12_unit_76 : decode cX12_unit 76 = .ok (.aload_n 0, 1) := by decide +kernel
theorem dX12_unit_77 : decode cX12_unit 77 = .ok (.dup, 1) := by decide +kernel
theorem dX12_unit_78 : decode cX12_unit 78 = .ok (.getfield 328, 3) := by decide +kernel
theorem dX12_unit_81 : decode cX12_unit 81 = .ok (.iconst 1, 1) := by decide +kernel
theorem dX12_unit_82 : decode cX12_unit 82 = .ok (.isub, 1) := by decide +kernel
theorem dX12_unit_83 : decode cX12_unit 83 = .ok (.putfield 328, 3) := by decide +kernel
theorem dX12_unit_86 : decode cX12_unit 86 = .ok (.iload_n 2, 1) := by decide +kernel
theorem dX12_unit_87 : decode cX12_unit 87 = .ok (.ireturn, 1) := by decide +kernel
theorem dX12_unit_88 : decode cX12_unit 88 = .ok (.iload_n 1, 1) := by decide +kernel
theorem dX12_unit_89 : decode cX12_unit 89 = .ok (.bipush 104, 2) := by decide +kernel
theorem dX12_unit_91 : decode cX12_unit 91 = .ok (.if_icmp .eq 15, 3) := by decide +kernel
theorem dX12_unit_94 : decode cX12_unit 94 = .ok (.iload_n 1, 1) := by decide +kernel
theorem dX12_unit_95 : decode cX12_unit 95 = .ok (.bipush 110, 2) := by decide +kernel
theorem dX12_unit_97 : decode cX12_unit 97 = .ok (.if_icmp .eq 9, 3) := by decide +kernel
theorem dX12_unit_100 : decode cX12_unit 100 = .ok (.iload_n 1, 1) := by decide +kernel
theorem dX12_unit_101 : decode cX12_unit 101 = .ok (.bipush 100, 2) := by decide +kernel
theorem dX12_unit_103 : decode cX12_unit 103 = .ok (.if_icmp .ne 77, 3) := by decide +kernel
theorem dX12_unit_106 : decode cX12_unit 106 = .ok (.aload_n 0, 1) := by decide +kernel
theorem dX12_unit_107 : decode cX12_unit 107 = .ok (.dup, 1) := by decide +kernel
theorem dX12_unit_108 : decode cX12_unit 108 = .ok (.getfield 316, 3) := by decide +kernel
theorem dX12_unit_111 : decode cX12_unit 111 = .ok (.iconst 1, 1) := by decide +kernel
theorem dX12_unit_112 : decode cX12_unit 112 = .ok (.iadd, 1) := by decide +kernel
theorem dX12_unit_113 : decode cX12_unit 113 = .ok (.putfield 316, 3) := by decide +kernel
theorem dX12_unit_116 : decode cX12_unit 116 = .ok (.aload_n 0, 1) := by decide +kernel
theorem dX12_unit_117 : decode cX12_unit 117 = .ok (.bipush 11, 2) := by decide +kernel
theorem dX12_unit_119 : decode cX12_unit 119 = .ok (.invokevirtual 357, 3) := by decide +kernel
theorem dX12_unit_122 : decode cX12_unit 122 = .ok (.istore_n 2, 1) := by decide +kernel
theorem dX12_unit_123 : decode cX12_unit 123 = .ok (.aload_n 0, 1) := by decide +kernel
theorem dX12_unit_124 : decode cX12_unit 124 = .ok (.getfield 325, 3) := by decide +kernel
theorem dX12_unit_127 : decode cX12_unit 127 = .ok (.iconst (-1), 1) := by decide +kernel
theorem dX12_unit_128 : decode cX12_unit 128 = .ok (.if_icmp .ne 50, 3) := by decide +kernel
theorem dX12_unit_131 : decode cX12_unit 131 = .ok (.iload_n 1, 1) := by decide +kernel
theorem dX12_unit_132 : decode cX12_unit 132 = .ok (.bipush 100, 2) := by decide +kernel
theorem dX12_unit_134 : decode cX12_unit 134 = .ok (.if_icmp .ne 21, 3) := by decide +kernel
theorem dX12_unit_137 : decode cX12_unit 137 = .ok (.aload_n 0, 1) := by decide +kernel
theorem dX12_unit_138 : decode cX12_unit 138 = .ok (.getfield 360, 3) := by decide +kernel
theorem dX12_unit_141 : decode cX12_unit 141 = .ok (.ifCond .ne 37, 3) := by decide +kernel
theorem dX12_unit_144 : decode cX12_unit 144 = .ok (.aload_n 0, 1) := by decide +kernel
theorem dX12_unit_145 : decode cX12_unit 145 = .ok (.iload_n 2, 1) := by decide +kernel
theorem dX12_unit_146 : decode cX12_unit 146 = .ok (.invokevirtual 364, 3) := by decide +kernel
theorem dX12_unit_149 : decode cX12_unit 149 = .ok (.ifCond .eq 29, 3) := by decide +kernel
theorem dX12_unit_152 : decode cX12_unit 152 = .ok (.goto 22, 3) := by decide +kernel
theorem dX12_unit_155 : decode cX12_unit 155 = .ok (.aload_n 0, 1) := by decide +kernel
theorem dX12_unit_156 : decode cX12_unit 156 = .ok (.iload_n 2, 1) := by decide +kernel
theorem dX12_unit_157 : decode cX12_unit 157 = .ok (.invokevirtual 366, 3) := by decide +kernel
theorem dX12_unit_160 : decode cX12_unit 160 = .ok (.iload_n 1, 1) := by decide +kernel
theorem dX12_unit_161 : decode cX12_unit 161 = .ok (.bipush 104, 2) := by decide +kernel
theorem dX12_unit_163 : decode cX12_unit 163 = .ok (.if_icmp .ne 7, 3) := by decide +kernel
theorem dX12_unit_166 : decode cX12_unit 166 = .ok (.iconst 1, 1) := by decide +kernel
theorem dX12_unit_167 : decode cX12_unit 167 = .ok (.goto 4, 3) := by decide +kernel
theorem dX12_unit_170 : decode cX12_unit 170 = .ok (.iconst 0, 1) := by decide +kernel
theorem dX12_unit_171 : decode cX12_unit 171 = .ok (.if_icmp .ne 7, 3) := by decide +kernel
theorem dX12_unit_174 : decode cX12_unit 174 = .ok (.iconst 1, 1) := by decide +kernel
theorem dX12_unit_175 : decode cX12_unit 175 = .ok (.goto 4, 3) := by decide +kernel
theorem dX12_unit_178 : decode cX12_unit 178 = .ok (.iconst 0, 1) := by decide +kernel
theorem dX12_unit_179 : decode cX12_unit 179 = .ok (.ireturn, 1) := by decide +kernel
theorem dX12_unit_180 : decode cX12_unit 180 = .ok (.iload_n 1, 1) := by decide +kernel
theorem dX12_unit_181 : decode cX12_unit 181 = .ok (.bipush 119, 2) := by decide +kernel
theorem dX12_unit_183 : decode cX12_unit 183 = .ok (.if_icmp .ne 56, 3) := by decide +kernel
theorem dX12_unit_186 : decode cX12_unit 186 = .ok (.aload_n 0, 1) := by decide +kernel
theorem dX12_unit_187 : decode cX12_unit 187 = .ok (.dup, 1) := by decide +kernel
theorem dX12_unit_188 : decode cX12_unit 188 = .ok (.getfield 316, 3) := by decide +kernel
theorem dX12_unit_191 : decode cX12_unit 191 = .ok (.iconst 1, 1) := by decide +kernel
theorem dX12_unit_192 : decode cX12_unit 192 = .ok (.iadd, 1) := by decide +kernel
theorem dX12_unit_193 : decode cX12_unit 193 = .ok (.putfield 316, 3) := by decide +kernel
theorem dX12_unit_196 : decode cX12_unit 196 = .ok (.aload_n 0, 1) := by decide +kernel
theorem dX12_unit_197 : decode cX12_unit 197 = .ok (.sipush 999, 3) := by decide +kernel
theorem dX12_unit_200 : decode cX12_unit 200 = .ok (.invokevirtual 357, 3) := by decide +kernel
theorem dX12_unit_203 : decode cX12_unit 203 = .ok (.istore_n 2, 1) := by decide +kernel
theorem dX12_unit_204 : decode cX12_unit 204 = .ok (.aload_n 0, 1) := by decide +kernel
theorem dX12_unit_205 : decode cX12_unit 205 = .ok (.getfield 325, 3) := by decide +kernel
theorem dX12_unit_208 : decode cX12_unit 208 = .ok (.iconst (-1), 1) := by decide +kernel
theorem dX12_unit_209 : decode cX12_unit 209 = .ok (.if_icmp .ne 28, 3) := by decide +kernel
theorem dX12_unit_212 : decode cX12_unit 212 = .ok (.aload_n 0, 1) := by decide +kernel
theorem dX12_unit_213 : decode cX12_unit 213 = .ok (.getfield 369, 3) := by decide +kernel
theorem dX12_unit_216 : decode cX12_unit 216 = .ok (.iconst (-1), 1) := by decide +kernel
theorem dX12_unit_217 : decode cX12_unit 217 = .ok (.if_icmp .eq 20, 3) := by decide +kernel
theorem dX12_unit_220 : decode cX12_unit 220 = .ok (.aload_n 0, 1) := by decide +kernel
theorem dX12_unit_221 : decode cX12_unit 221 = .ok (.getfield 372, 3) := by decide +kernel
theorem dX12_unit_224 : decode cX12_unit 224 = .ok (.aload_n 0, 1) := by decide +kernel
theorem dX12_unit_225 : decode cX12_unit 225 = .ok (.getfield 369, 3) := by decide +kernel
theorem dX12_unit_228 : decode cX12_unit 228 = .ok (.isub, 1) := by decide +kernel
theorem dX12_unit_229 : decode cX12_unit 229 = .ok (.iload_n 2, 1) := by decide +kernel
theorem dX12_unit_230 : decode cX12_unit 230 = .ok (.if_icmp .lt 7, 3) := by decide +kernel
theorem dX12_unit_233 : decode cX12_unit 233 = .ok (.iconst 1, 1) := by decide +kernel
theorem dX12_unit_234 : decode cX12_unit 234 = .ok (.goto 4, 3) := by decide +kernel
theorem dX12_unit_237 : decode cX12_unit 237 = .ok (.iconst 0, 1) := by decide +kernel
theorem dX12_unit_238 : decode cX12_unit 238 = .ok (.ireturn, 1) := by decide +kernel
theorem dX12_unit_239 : decode cX12_unit 239 = .ok (.aload_n 0, 1) := by decide +kernel
theorem dX12_unit_240 : decode cX12_unit 240 = .ok (.sipush 999, 3) := by decide +kernel
theorem dX12_unit_243 : decode cX12_unit 243 = .ok (.invokevirtual 357, 3) := by decide +kernel
theorem dX12_unit_246 : decode cX12_unit 246 = .ok (.istore_n 2, 1) := by decide +kernel
theorem dX12_unit_247 : decode cX12_unit 247 = .ok (.aload_n 0, 1) := by decide +kernel
theorem dX12_unit_248 : decode cX12_unit 248 = .ok (.getfield 325, 3) := by decide +kernel
theorem dX12_unit_251 : decode cX12_unit 251 = .ok (.iconst (-1), 1) := by decide +kernel
theorem dX12_unit_252 : decode cX12_unit 252 = .ok (.if_icmp .ne 12, 3) := by decide +kernel
theorem dX12_unit_255 : decode cX12_unit 255 = .ok (.aload_n 0, 1) := by decide +kernel
theorem dX12_unit_256 : decode cX12_unit 256 = .ok (.invokevirtual 335, 3) := by decide +kernel
theorem dX12_unit_259 : decode cX12_unit 259 = .ok (.bipush 123, 2) := by decide +kernel
theorem dX12_unit_261 : decode cX12_unit 261 = .ok (.if_icmp .eq 8, 3) := by decide +kernel
theorem dX12_unit_264 : decode cX12_unit 264 = .ok (.aload_n 0, 1) := by decide +kernel
theorem dX12_unit_265 : decode cX12_unit 265 = .ok (.invokevirtual 331, 3) := by decide +kernel
theorem dX12_unit_268 : decode cX12_unit 268 = .ok (.ireturn, 1) := by decide +kernel
theorem dX12_unit_269 : decode cX12_unit 269 = .ok (.aload_n 0, 1) := by decide +kernel
theorem dX12_unit_270 : decode cX12_unit 270 = .ok (.invokevirtual 348, 3) := by decide +kernel
theorem dX12_unit_273 : decode cX12_unit 273 = .ok (.ifCond .ne 5, 3) := by decide +kernel
theorem dX12_unit_276 : decode cX12_unit 276 = .ok (.iconst 0, 1) := by decide +kernel
theorem dX12_unit_277 : decode cX12_unit 277 = .ok (.ireturn, 1) := by decide +kernel
theorem dX12_unit_278 : decode cX12_unit 278 = .ok (.aload_n 0, 1) := by decide +kernel
theorem dX12_unit_279 : decode cX12_unit 279 = .ok (.invokevirtual 351, 3) := by decide +kernel
theorem dX12_unit_282 : decode cX12_unit 282 = .ok (.ifCond .eq 7, 3) := by decide +kernel
theorem dX12_unit_285 : decode cX12_unit 285 = .ok (.iconst 1, 1) := by decide +kernel
theorem dX12_unit_286 : decode cX12_unit 286 = .ok (.goto 4, 3) := by decide +kernel
theorem dX12_unit_289 : decode cX12_unit 289 = .ok (.iconst 0, 1) := by decide +kernel
theorem dX12_unit_290 : decode cX12_unit 290 = .ok (.istore_n 3, 1) := by decide +kernel
theorem dX12_unit_291 : decode cX12_unit 291 = .ok (.aload_n 0, 1) := by decide +kernel
theorem dX12_unit_292 : decode cX12_unit 292 = .ok (.getfield 325, 3) := by decide +kernel
theorem dX12_unit_295 : decode cX12_unit 295 = .ok (.iconst (-1), 1) := by decide +kernel
theorem dX12_unit_296 : decode cX12_unit 296 = .ok (.if_icmp .ne 40, 3) := by decide +kernel
theorem dX12_unit_299 : decode cX12_unit 299 = .ok (.aload_n 0, 1) := by decide +kernel
theorem dX12_unit_300 : decode cX12_unit 300 = .ok (.invokevirtual 335, 3) := by decide +kernel
theorem dX12_unit_303 : decode cX12_unit 303 = .ok (.bipush 44, 2) := by decide +kernel
theorem dX12_unit_305 : decode cX12_unit 305 = .ok (.if_icmp .ne 31, 3) := by decide +kernel
theorem dX12_unit_308 : decode cX12_unit 308 = .ok (.aload_n 0, 1) := by decide +kernel
theorem dX12_unit_309 : decode cX12_unit 309 = .ok (.dup, 1) := by decide +kernel
theorem dX12_unit_310 : decode cX12_unit 310 = .ok (.getfield 316, 3) := by decide +kernel
theorem dX12_unit_313 : decode cX12_unit 313 = .ok (.iconst 1, 1) := by decide +kernel
theorem dX12_unit_314 : decode cX12_unit 314 = .ok (.iadd, 1) := by decide +kernel
theorem dX12_unit_315 : decode cX12_unit 315 = .ok (.putfield 316, 3) := by decide +kernel
theorem dX12_unit_318 : decode cX12_unit 318 = .ok (.iload_n 3, 1) := by decide +kernel
theorem dX12_unit_319 : decode cX12_unit 319 = .ok (.aload_n 0, 1) := by decide +kernel
theorem dX12_unit_320 : decode cX12_unit 320 = .ok (.invokevirtual 351, 3) := by decide +kernel
theorem dX12_unit_323 : decode cX12_unit 323 = .ok (.ifCond .eq 7, 3) := by decide +kernel
theorem dX12_unit_326 : decode cX12_unit 326 = .ok (.iconst 1, 1) := by decide +kernel
theorem dX12_unit_327 : decode cX12_unit 327 = .ok (.goto 4, 3) := by decide +kernel
theorem dX12_unit_330 : decode cX12_unit 330 = .ok (.iconst 0, 1) := by decide +kernel
theorem dX12_unit_331 : decode cX12_unit 331 = .ok (.iadd, 1) := by decide +kernel
theorem dX12_unit_332 : decode cX12_unit 332 = .ok (.istore_n 3, 1) := by decide +kernel
theorem dX12_unit_333 : decode cX12_unit 333 = .ok (.goto (-42), 3) := by decide +kernel
theorem dX12_unit_336 : decode cX12_unit 336 = .ok (.aload_n 0, 1) := by decide +kernel
theorem dX12_unit_337 : decode cX12_unit 337 = .ok (.bipush 125, 2) := by decide +kernel
theorem dX12_unit_339 : decode cX12_unit 339 = .ok (.invokevirtual 354, 3) := by decide +kernel
theorem dX12_unit_342 : decode cX12_unit 342 = .ok (.ifCond .ne 5, 3) := by decide +kernel
theorem dX12_unit_345 : decode cX12_unit 345 = .ok (.iconst 0, 1) := by decide +kernel
theorem dX12_unit_346 : decode cX12_unit 346 = .ok (.ireturn, 1) := by decide +kernel
theorem dX12_unit_347 : decode cX12_unit 347 = .ok (.aload_n 0, 1) := by decide +kernel
theorem dX12_unit_348 : decode cX12_unit 348 = .ok (.dup, 1) := by decide +kernel
theorem dX12_unit_349 : decode cX12_unit 349 = .ok (.getfield 328, 3) := by decide +kernel
theorem dX12_unit_352 : decode cX12_unit 352 = .ok (.iconst 1, 1) := by decide +kernel
theorem dX12_unit_353 : decode cX12_unit 353 = .ok (.isub, 1) := by decide +kernel
theorem dX12_unit_354 : decode cX12_unit 354 = .ok (.putfield 328, 3) := by decide +kernel
theorem dX12_unit_357 : decode cX12_unit 357 = .ok (.iload_n 3, 1) := by decide +kernel
theorem dX12_unit_358 : decode cX12_unit 358 = .ok (.iload_n 2, 1) := by decide +kernel
theorem dX12_unit_359 : decode cX12_unit 359 = .ok (.if_icmp .lt 7, 3) := by decide +kernel
theorem dX12_unit_362 : decode cX12_unit 362 = .ok (.iconst 1, 1) := by decide +kernel
theorem dX12_unit_363 : decode cX12_unit 363 = .ok (.goto 4, 3) := by decide +kernel
theorem dX12_unit_366 : decode cX12_unit 366 = .ok (.iconst 0, 1) := by decide +kernel
theorem dX12_unit_367 : decode cX12_unit 367 = .ok (.ireturn, 1) := by decide +kernel
def jbX12_unit_106 (u : ST → Option (Bool × ST)) (v1 : Int32)  (k : ST) : Option (Bool × ST) := nm (sI k 11 55 ((gI k 11 55) + 1)) fun k28 => ob (fX12_number k28 11) fun r29 k30 => if (gI k30 11 56) = (-1) then if v1 = 100 then if (gI k30 11 62) = 0 then ob (fX12_isDead k30 r29) fun r35 k36 => if r35 = true then some (true, k36) else some (false, k36) else some (false, k30) else ob (fX12_saysLast k30 r29) fun r39 k40 => if v1 = 104 then if r39 = 1 then some (true, k40) else some (false, k40) else if r39 = 0 then some (true, k40) else some (false, k40) else some (false, k30)
def lpX12_unit_291 (u : ST → Option (Bool × ST)) (v1 : Int32) (v2 : Int32) : Nat → Int32 → ST → (Int32 → ST → Option (Bool × ST)) → Option (Bool × ST)
  | 0, _, _, _ => none
  | n + 1, v3, k, cont => if (gI k 11 56) = (-1) then ob (fX12_look k) fun r72 k73 => if r72 = 44 then nm (sI k73 11 55 ((gI k73 11 55) + 1)) fun k76 => ob (FX12_any u k76) fun r77 k78 => if r77 = true then lpX12_unit_291 u v1 v2 n (v3 + 1) k78 cont else lpX12_unit_291 u v1 v2 n (v3 + 0) k78 cont else cont v3 k73 else cont v3 k
def jbX12_unit_336 (u : ST → Option (Bool × ST)) (v1 : Int32) (v2 : Int32) (v3 : Int32)  (k : ST) : Option (Bool × ST) := ob (fX12_takes k 125) fun r83 k84 => if r83 = true then nm (sI k84 11 57 ((gI k84 11 57) - 1)) fun k87 => if v3 < v2 then some (false, k87) else some (true, k87) else some (false, k84)
def jbX12_unit_290 (u : ST → Option (Bool × ST)) (v1 : Int32) (v2 : Int32) (s0 : Int32) (k : ST) : Option (Bool × ST) := lpX12_unit_291 u v1 v2 FU s0 k fun y81 k82 => jbX12_unit_336 u v1 v2 y81 k82
set_option maxRecDepth 20000 in
theorem zjbX12_unit_106 {p : Program} {l : Launch} {e : Env} {R : Room} {s : State} {m : MethodId} {args : Array Value} {below : List Frame} {meth : Method} {c : Code} {g : GT} (hC : HC p s m args meth c cX12_unit 4 RX12 (some .boolean) g) {fu lu : Nat} (hR : fu + 3 ≤ R.frames ∧ lu + 67 ≤ R.locals) {u : ST → Option (Bool × ST)} (hu : CN l yX12_unit cX12_unit 4 (some .boolean) { frames := fu, cells := 0, slots := 0, locals := lu } g TM voB [.ref (g.2.1 11)] (fun k => u k))  (v1 : Int32)  (k : ST) : ZF p l e R s m args below meth c g TM voB 4 k 106 [(0, .ref (g.2.1 11)), (1, .int v1)] [] (jbX12_unit_106 u  v1 k) := by
  unfold jbX12_unit_106
  refine zf_aload_n hC dX12_unit_106 rfl 0 rfl ?_
  refine zf_dup hC dX12_unit_107 rfl ?_
  refine gf_1285 hC dX12_unit_108 ?_
  refine zf_iconst hC (v := 1) dX12_unit_111 rfl ?_
  refine zf_iadd hC dX12_unit_112 ?_
  refine pf_1285 hC dX12_unit_113 ?_
  refine zf_nmk (fun k28 => ?_)
  refine zf_aload_n hC dX12_unit_116 rfl 0 rfl ?_
  refine zf_bipush hC (v := 11) dX12_unit_117 rfl ?_
  refine zf_callV hC (c_X12_number l g 11) mt_X12_number wd_1706 sp_70 ci_11 ic_11 wd_1704 rfl (show 1 + 1 ≤ R.frames ∧ 8 + (5 + 11) + 20 ≤ R.locals by omega) rfl rfl (rest := []) rfl (Nat.le_of_ble_eq_true rfl) dX12_unit_119 (fun r29 k30 h31 => ?_)
  refine zf_istore_n hC (LV' := [(2, .int r29), (0, .ref (g.2.1 11)), (1, .int v1)]) dX12_unit_122 rfl (by decide) rfl ?_
  refine zf_aload_n hC dX12_unit_123 rfl 1 rfl ?_
  refine gf_1286 hC dX12_unit_124 ?_
  refine zf_iconst hC (v := (-1)) dX12_unit_127 rfl ?_
  refine zf_icmp_ne hC (tgt := 178) dX12_unit_128 (by decide) (fun h32 => ?_) (fun h32 => ?_)
  · refine zf_iload_n hC dX12_unit_131 rfl 2 rfl ?_
    refine zf_bipush hC (v := 100) dX12_unit_132 rfl ?_
    refine zf_icmp_ne hC (tgt := 155) dX12_unit_134 (by decide) (fun h33 => ?_) (fun h33 => ?_)
    · refine zf_aload_n hC dX12_unit_137 rfl 1 rfl ?_
      refine gf_1292 hC dX12_unit_138 ?_
      refine zf_if_ne hC (tgt := 178) dX12_unit_141 (by decide) (fun h34 => ?_) (fun h34 => ?_)
      · refine zf_aload_n hC dX12_unit_144 rfl 1 rfl ?_
        refine zf_iload_n hC dX12_unit_145 rfl 0 rfl ?_
        refine zf_callV hC (c_X12_isDead l g r29) mt_X12_isDead wd_1714 sp_72 ci_11 ic_11 wd_1712 rfl (show 0 + 1 ≤ R.frames ∧ 8 + (2 + 11) + 0 ≤ R.locals by omega) rfl rfl (rest := []) rfl (Nat.le_of_ble_eq_true rfl) dX12_unit_146 (fun r35 k36 h37 => ?_)
        refine zf_ifb_eq hC (tgt := 178) dX12_unit_149 (by decide) (fun h38 => ?_) (fun h38 => ?_)
        · refine zf_goto hC (tgt := 174) dX12_unit_152 (by decide) ?_
          refine zf_iconst hC (v := 1) dX12_unit_174 rfl ?_
          refine zf_goto hC (tgt := 179) dX12_unit_175 (by decide) ?_
          exact zf_zret hC rfl true rfl dX12_unit_179
        · refine zf_iconst hC (v := 0) dX12_unit_178 rfl ?_
          exact zf_zret hC rfl false rfl dX12_unit_179
      · refine zf_iconst hC (v := 0) dX12_unit_178 rfl ?_
        exact zf_zret hC rfl false rfl dX12_unit_179
    · refine zf_aload_n hC dX12_unit_155 rfl 1 rfl ?_
      refine zf_iload_n hC dX12_unit_156 rfl 0 rfl ?_
      refine zf_callV hC (c_X12_saysLast l g r29) mt_X12_saysLast wd_1718 sp_73 ci_11 ic_11 wd_1716 rfl (show 0 + 1 ≤ R.frames ∧ 8 + (4 + 11) + 0 ≤ R.locals by omega) rfl rfl (rest := []) rfl (Nat.le_of_ble_eq_true rfl) dX12_unit_157 (fun r39 k40 h41 => ?_)
      refine zf_iload_n hC dX12_unit_160 rfl 2 rfl ?_
      refine zf_bipush hC (v := 104) dX12_unit_161 rfl ?_
      refine zf_icmp_ne hC (tgt := 170) dX12_unit_163 (by decide) (fun h42 => ?_) (fun h42 => ?_)
      · refine zf_iconst hC (v := 1) dX12_unit_166 rfl ?_
        refine zf_goto hC (tgt := 171) dX12_unit_167 (by decide) ?_
        refine zf_icmp_ne hC (tgt := 178) dX12_unit_171 (by decide) (fun h43 => ?_) (fun h43 => ?_)
        · refine zf_iconst hC (v := 1) dX12_unit_174 rfl ?_
          refine zf_goto hC (tgt := 179) dX12_unit_175 (by decide) ?_
          exact zf_zret hC rfl true rfl dX12_unit_179
        · refine zf_iconst hC (v := 0) dX12_unit_178 rfl ?_
          exact zf_zret hC rfl false rfl dX12_unit_179
      · refine zf_iconst hC (v := 0) dX12_unit_170 rfl ?_
        refine zf_icmp_ne hC (tgt := 178) dX12_unit_171 (by decide) (fun h44 => ?_) (fun h44 => ?_)
        · refine zf_iconst hC (v := 1) dX12_unit_174 rfl ?_
          refine zf_goto hC (tgt := 179) dX12_unit_175 (by decide) ?_
          exact zf_zret hC rfl true rfl dX12_unit_179
        · refine zf_iconst hC (v := 0) dX12_unit_178 rfl ?_
          exact zf_zret hC rfl false rfl dX12_unit_179
  · refine zf_iconst hC (v := 0) dX12_unit_178 rfl ?_
    exact zf_zret hC rfl false rfl dX12_unit_179
set_option maxRecDepth 20000 in
theorem zlpX12_unit_291 {p : Program} {l : Launch} {e : Env} {R : Room} {s : State} {m : MethodId} {args : Array Value} {below : List Frame} {meth : Method} {c : Code} {g : GT} (hC : HC p s m args meth c cX12_unit 4 RX12 (some .boolean) g) {fu lu : Nat} (hR : fu + 3 ≤ R.frames ∧ lu + 67 ≤ R.locals) {u : ST → Option (Bool × ST)} (hu : CN l yX12_unit cX12_unit 4 (some .boolean) { frames := fu, cells := 0, slots := 0, locals := lu } g TM voB [.ref (g.2.1 11)] (fun k => u k))  (v1 : Int32) (v2 : Int32) {cont : Int32 → ST → Option (Bool × ST)} (hk : ∀ (v3 : Int32) (k : ST), ZF p l e R s m args below meth c g TM voB 4 k 336 [(0, .ref (g.2.1 11)), (1, .int v1), (2, .int v2), (3, .int v3)] [] (cont v3 k)) : ∀ (n : Nat) (v3 : Int32) (k : ST), ZF p l e R s m args below meth c g TM voB 4 k 291 [(0, .ref (g.2.1 11)), (1, .int v1), (2, .int v2), (3, .int v3)] [] (lpX12_unit_291 u v1 v2 n v3 k cont) := by
  intro n
  induction n with
  | zero => intros; exact zf_none
  | succ n ih =>
    intro v3 k
    rw [lpX12_unit_291]
    refine zf_aload_n hC dX12_unit_291 rfl 0 rfl ?_
    refine gf_1286 hC dX12_unit_292 ?_
    refine zf_iconst hC (v := (-1)) dX12_unit_295 rfl ?_
    refine zf_icmp_ne hC (tgt := 336) dX12_unit_296 (by decide) (fun h71 => ?_) (fun h71 => ?_)
    · refine zf_aload_n hC dX12_unit_299 rfl 0 rfl ?_
      refine zf_callV hC (c_X12_look l g) mt_X12_look wd_1690 sp_66 ci_11 ic_11 wd_1688 rfl (show 0 + 1 ≤ R.frames ∧ 8 + (1 + 11) + 0 ≤ R.locals by omega) rfl rfl (rest := []) rfl (Nat.le_of_ble_eq_true rfl) dX12_unit_300 (fun r72 k73 h74 => ?_)
      refine zf_bipush hC (v := 44) dX12_unit_303 rfl ?_
      refine zf_icmp_ne hC (tgt := 336) dX12_unit_305 (by decide) (fun h75 => ?_) (fun h75 => ?_)
      · refine zf_aload_n hC dX12_unit_308 rfl 0 rfl ?_
        refine zf_dup hC dX12_unit_309 rfl ?_
        refine gf_1285 hC dX12_unit_310 ?_
        refine zf_iconst hC (v := 1) dX12_unit_313 rfl ?_
        refine zf_iadd hC dX12_unit_314 ?_
        refine pf_1285 hC dX12_unit_315 ?_
        refine zf_nmk (fun k76 => ?_)
        refine zf_iload_n hC dX12_unit_318 rfl 3 rfl ?_
        refine zf_aload_n hC dX12_unit_319 rfl 0 rfl ?_
        refine zf_callV hC (cF_X12_any l g hu) mt_X12_any wd_1678 sp_63 ci_11 ic_11 wd_1676 rfl (show fu + 2 + 1 ≤ R.frames ∧ 8 + (3 + 11) + (lu + 45) ≤ R.locals by omega) rfl rfl (rest := [.int v3]) rfl (Nat.le_of_ble_eq_true rfl) dX12_unit_320 (fun r77 k78 h79 => ?_)
        refine zf_ifb_eq hC (tgt := 330) dX12_unit_323 (by decide) (fun h80 => ?_) (fun h80 => ?_)
        · refine zf_iconst hC (v := 1) dX12_unit_326 rfl ?_
          refine zf_goto hC (tgt := 331) dX12_unit_327 (by decide) ?_
          refine zf_iadd hC dX12_unit_331 ?_
          refine zf_istore_n hC (LV' := [(3, .int (v3 + 1)), (0, .ref (g.2.1 11)), (1, .int v1), (2, .int v2)]) dX12_unit_332 rfl (by decide) rfl ?_
          refine zf_goto hC (tgt := 291) dX12_unit_333 (by decide) ?_
          refine zf_lv (LV' := [(0, .ref (g.2.1 11)), (1, .int v1), (2, .int v2), (3, .int (v3 + 1))]) [1, 2, 3, 0] rfl ?_
          exact ih (v3 + 1) k78
        · refine zf_iconst hC (v := 0) dX12_unit_330 rfl ?_
          refine zf_iadd hC dX12_unit_331 ?_
          refine zf_istore_n hC (LV' := [(3, .int (v3 + 0)), (0, .ref (g.2.1 11)), (1, .int v1), (2, .int v2)]) dX12_unit_332 rfl (by decide) rfl ?_
          refine zf_goto hC (tgt := 291) dX12_unit_333 (by decide) ?_
          refine zf_lv (LV' := [(0, .ref (g.2.1 11)), (1, .int v1), (2, .int v2), (3, .int (v3 + 0))]) [1, 2, 3, 0] rfl ?_
          exact ih (v3 + 0) k78
      · refine zf_lv (LV' := [(0, .ref (g.2.1 11)), (1, .int v1), (2, .int v2), (3, .int v3)]) [0, 1, 2, 3] rfl ?_
        exact hk v3 k73
    · refine zf_lv (LV' := [(0, .ref (g.2.1 11)), (1, .int v1), (2, .int v2), (3, .int v3)]) [0, 1, 2, 3] rfl ?_
      exact hk v3 k
set_option maxRecDepth 20000 in
theorem zjbX12_unit_336 {p : Program} {l : Launch} {e : Env} {R : Room} {s : State} {m : MethodId} {args : Array Value} {below : List Frame} {meth : Method} {c : Code} {g : GT} (hC : HC p s m args meth c cX12_unit 4 RX12 (some .boolean) g) {fu lu : Nat} (hR : fu + 3 ≤ R.frames ∧ lu + 67 ≤ R.locals) {u : ST → Option (Bool × ST)} (hu : CN l yX12_unit cX12_unit 4 (some .boolean) { frames := fu, cells := 0, slots := 0, locals := lu } g TM voB [.ref (g.2.1 11)] (fun k => u k))  (v1 : Int32) (v2 : Int32) (v3 : Int32)  (k : ST) : ZF p l e R s m args below meth c g TM voB 4 k 336 [(0, .ref (g.2.1 11)), (1, .int v1), (2, .int v2), (3, .int v3)] [] (jbX12_unit_336 u  v1 v2 v3 k) := by
  unfold jbX12_unit_336
  refine zf_aload_n hC dX12_unit_336 rfl 0 rfl ?_
  refine zf_bipush hC (v := 125) dX12_unit_337 rfl ?_
  refine zf_callV hC (c_X12_takes l g 125) mt_X12_takes wd_1702 sp_69 ci_11 ic_11 wd_1700 rfl (show 1 + 1 ≤ R.frames ∧ 8 + (2 + 11) + 20 ≤ R.locals by omega) rfl rfl (rest := []) rfl (Nat.le_of_ble_eq_true rfl) dX12_unit_339 (fun r83 k84 h85 => ?_)
  refine zf_ifb_ne hC (tgt := 347) dX12_unit_342 (by decide) (fun h86 => ?_) (fun h86 => ?_)
  · refine zf_aload_n hC dX12_unit_347 rfl 0 rfl ?_
    refine zf_dup hC dX12_unit_348 rfl ?_
    refine gf_1287 hC dX12_unit_349 ?_
    refine zf_iconst hC (v := 1) dX12_unit_352 rfl ?_
    refine zf_isub hC dX12_unit_353 ?_
    refine pf_1287 hC dX12_unit_354 ?_
    refine zf_nmk (fun k87 => ?_)
    refine zf_iload_n hC dX12_unit_357 rfl 3 rfl ?_
    refine zf_iload_n hC dX12_unit_358 rfl 2 rfl ?_
    refine zf_icmp_lt hC (tgt := 366) dX12_unit_359 (by decide) (fun h88 => ?_) (fun h88 => ?_)
    · refine zf_iconst hC (v := 0) dX12_unit_366 rfl ?_
      exact zf_zret hC rfl false rfl dX12_unit_367
    · refine zf_iconst hC (v := 1) dX12_unit_362 rfl ?_
      refine zf_goto hC (tgt := 367) dX12_unit_363 (by decide) ?_
      exact zf_zret hC rfl true rfl dX12_unit_367
  · refine zf_iconst hC (v := 0) dX12_unit_345 rfl ?_
    exact zf_zret hC rfl false rfl dX12_unit_346
set_option maxRecDepth 20000 in
theorem zjbX12_unit_290 {p : Program} {l : Launch} {e : Env} {R : Room} {s : State} {m : MethodId} {args : Array Value} {below : List Frame} {meth : Method} {c : Code} {g : GT} (hC : HC p s m args meth c cX12_unit 4 RX12 (some .boolean) g) {fu lu : Nat} (hR : fu + 3 ≤ R.frames ∧ lu + 67 ≤ R.locals) {u : ST → Option (Bool × ST)} (hu : CN l yX12_unit cX12_unit 4 (some .boolean) { frames := fu, cells := 0, slots := 0, locals := lu } g TM voB [.ref (g.2.1 11)] (fun k => u k))  (v1 : Int32) (v2 : Int32) (s0 : Int32) (k : ST) : ZF p l e R s m args below meth c g TM voB 4 k 290 [(0, .ref (g.2.1 11)), (1, .int v1), (2, .int v2)] [.int s0] (jbX12_unit_290 u  v1 v2 s0 k) := by
  unfold jbX12_unit_290
  refine zf_istore_n hC (LV' := [(3, .int s0), (0, .ref (g.2.1 11)), (1, .int v1), (2, .int v2)]) dX12_unit_290 rfl (by decide) rfl ?_
  refine zf_lv (LV' := [(0, .ref (g.2.1 11)), (1, .int v1), (2, .int v2), (3, .int s0)]) [1, 2, 3, 0] rfl ?_
  refine zlpX12_unit_291 hC hR hu v1 v2 (fun y81 k82 => ?_) FU s0 k
  exact zjbX12_unit_336 hC hR hu v1 v2 y81 k82
def FX12_unit (u : ST → Option (Bool × ST)) (k : ST)  : Option (Bool × ST) := ob (fX12_look k) fun r1 k2 => if r1 = 33 then ob (fX12_goesIn k2) fun r5 k6 => if r5 = true then ob (u k6) fun r9 k10 => nm (sI k10 11 57 ((gI k10 11 57) - 1)) fun k12 => if r9 = true then some (false, k12) else some (true, k12) else some (false, k6) else if r1 = 40 then ob (fX12_goesIn k2) fun r15 k16 => if r15 = true then ob (FX12_any u k16) fun r19 k20 => ob (fX12_takes k20 41) fun r22 k23 => if r22 = true then nm (sI k23 11 57 ((gI k23 11 57) - 1)) fun k26 => some (r19, k26) else some (false, k23) else some (false, k16) else if r1 = 104 then jbX12_unit_106 u r1 k2 else if r1 = 110 then jbX12_unit_106 u r1 k2 else if r1 = 100 then jbX12_unit_106 u r1 k2 else if r1 = 119 then nm (sI k2 11 55 ((gI k2 11 55) + 1)) fun k48 => ob (fX12_number k48 999) fun r49 k50 => if (gI k50 11 56) = (-1) then if (gI k50 11 61) = (-1) then some (false, k50) else if ((gI k50 11 59) - (gI k50 11 61)) < r49 then some (false, k50) else some (true, k50) else some (false, k50) else ob (fX12_number k2 999) fun r55 k56 => if (gI k56 11 56) = (-1) then ob (fX12_look k56) fun r59 k60 => if r59 = 123 then ob (fX12_goesIn k60) fun r63 k64 => if r63 = true then ob (FX12_any u k64) fun r67 k68 => if r67 = true then jbX12_unit_290 u r1 r55 1 k68 else jbX12_unit_290 u r1 r55 0 k68 else some (false, k64) else ob (fX12_stop k60) fun r89 k90 => some (r89, k90) else ob (fX12_stop k56) fun r92 k93 => some (r92, k93)
set_option maxRecDepth 20000 in
theorem cF_X12_unit (l : Launch) (g : GT) {fu lu : Nat} {u : ST → Option (Bool × ST)} (hu : CN l yX12_unit cX12_unit 4 (some .boolean) { frames := fu, cells := 0, slots := 0, locals := lu } g TM voB [.ref (g.2.1 11)] (fun k => u k))  : CN l yX12_unit cX12_unit 4 (some .boolean) { frames := fu + 3, cells := 0, slots := 0, locals := lu + 67 } g TM voB [.ref (g.2.1 11)] (fun k => FX12_unit u k) := by
  refine cn_of (by decide) (Nat.le_of_ble_eq_true rfl) ?_
  intro p e s m args below meth c hC k
  have hC : HC p s m args meth c cX12_unit 4 RX12 (some .boolean) g := hC
  generalize hRe : ({ frames := fu + 3, cells := 0, slots := 0, locals := lu + 67 } : Room) = R
  have hR : fu + 3 ≤ R.frames ∧ lu + 67 ≤ R.locals := by rw [← hRe]; exact ⟨Nat.le_refl _, Nat.le_refl _⟩
  show ZF p l e _ s m args below meth c g TM voB 4 k 0 [(0, .ref (g.2.1 11))] [] (FX12_unit u k)
  unfold FX12_unit
  refine zf_aload_n hC dX12_unit_0 rfl 0 rfl ?_
  refine zf_callV hC (c_X12_look l g) mt_X12_look wd_1690 sp_66 ci_11 ic_11 wd_1688 rfl (show 0 + 1 ≤ R.frames ∧ 8 + (1 + 11) + 0 ≤ R.locals by omega) rfl rfl (rest := []) rfl (Nat.le_of_ble_eq_true rfl) dX12_unit_1 (fun r1 k2 h3 => ?_)
  refine zf_istore_n hC (LV' := [(1, .int r1), (0, .ref (g.2.1 11))]) dX12_unit_4 rfl (by decide) rfl ?_
  refine zf_iload_n hC dX12_unit_5 rfl 0 rfl ?_
  refine zf_bipush hC (v := 33) dX12_unit_6 rfl ?_
  refine zf_icmp_ne hC (tgt := 45) dX12_unit_8 (by decide) (fun h4 => ?_) (fun h4 => ?_)
  · refine zf_aload_n hC dX12_unit_11 rfl 1 rfl ?_
    refine zf_callV hC (c_X12_goesIn l g) mt_X12_goesIn wd_1694 sp_67 ci_11 ic_11 wd_1692 rfl (show 1 + 1 ≤ R.frames ∧ 8 + (1 + 11) + 20 ≤ R.locals by omega) rfl rfl (rest := []) rfl (Nat.le_of_ble_eq_true rfl) dX12_unit_12 (fun r5 k6 h7 => ?_)
    refine zf_ifb_ne hC (tgt := 20) dX12_unit_15 (by decide) (fun h8 => ?_) (fun h8 => ?_)
    · refine zf_aload_n hC dX12_unit_20 rfl 1 rfl ?_
      refine zf_callV hC (hu) mt_X12_unit wd_1686 sp_65 ci_11 ic_11 wd_1684 rfl (show fu + 0 + 1 ≤ R.frames ∧ 8 + (4 + 11) + (lu + 0) ≤ R.locals by omega) rfl rfl (rest := []) rfl (Nat.le_of_ble_eq_true rfl) dX12_unit_21 (fun r9 k10 h11 => ?_)
      refine zf_istore_n hC (LV' := [(2, .int (b2i r9)), (1, .int r1), (0, .ref (g.2.1 11))]) dX12_unit_24 rfl (by decide) rfl ?_
      refine zf_aload_n hC dX12_unit_25 rfl 2 rfl ?_
      refine zf_dup hC dX12_unit_26 rfl ?_
      refine gf_1287 hC dX12_unit_27 ?_
      refine zf_iconst hC (v := 1) dX12_unit_30 rfl ?_
      refine zf_isub hC dX12_unit_31 ?_
      refine pf_1287 hC dX12_unit_32 ?_
      refine zf_nmk (fun k12 => ?_)
      refine zf_iload_n hC dX12_unit_35 rfl 0 rfl ?_
      refine zf_ifb_ne hC (tgt := 43) dX12_unit_36 (by decide) (fun h13 => ?_) (fun h13 => ?_)
      · refine zf_iconst hC (v := 0) dX12_unit_43 rfl ?_
        exact zf_zret hC rfl false rfl dX12_unit_44
      · refine zf_iconst hC (v := 1) dX12_unit_39 rfl ?_
        refine zf_goto hC (tgt := 44) dX12_unit_40 (by decide) ?_
        exact zf_zret hC rfl true rfl dX12_unit_44
    · refine zf_iconst hC (v := 0) dX12_unit_18 rfl ?_
      exact zf_zret hC rfl false rfl dX12_unit_19
  · refine zf_iload_n hC dX12_unit_45 rfl 0 rfl ?_
    refine zf_bipush hC (v := 40) dX12_unit_46 rfl ?_
    refine zf_icmp_ne hC (tgt := 88) dX12_unit_48 (by decide) (fun h14 => ?_) (fun h14 => ?_)
    · refine zf_aload_n hC dX12_unit_51 rfl 1 rfl ?_
      refine zf_callV hC (c_X12_goesIn l g) mt_X12_goesIn wd_1694 sp_67 ci_11 ic_11 wd_1692 rfl (show 1 + 1 ≤ R.frames ∧ 8 + (1 + 11) + 20 ≤ R.locals by omega) rfl rfl (rest := []) rfl (Nat.le_of_ble_eq_true rfl) dX12_unit_52 (fun r15 k16 h17 => ?_)
      refine zf_ifb_ne hC (tgt := 60) dX12_unit_55 (by decide) (fun h18 => ?_) (fun h18 => ?_)
      · refine zf_aload_n hC dX12_unit_60 rfl 1 rfl ?_
        refine zf_callV hC (cF_X12_any l g hu) mt_X12_any wd_1678 sp_63 ci_11 ic_11 wd_1676 rfl (show fu + 2 + 1 ≤ R.frames ∧ 8 + (3 + 11) + (lu + 45) ≤ R.locals by omega) rfl rfl (rest := []) rfl (Nat.le_of_ble_eq_true rfl) dX12_unit_61 (fun r19 k20 h21 => ?_)
        refine zf_istore_n hC (LV' := [(2, .int (b2i r19)), (1, .int r1), (0, .ref (g.2.1 11))]) dX12_unit_64 rfl (by decide) rfl ?_
        refine zf_aload_n hC dX12_unit_65 rfl 2 rfl ?_
        refine zf_bipush hC (v := 41) dX12_unit_66 rfl ?_
        refine zf_callV hC (c_X12_takes l g 41) mt_X12_takes wd_1702 sp_69 ci_11 ic_11 wd_1700 rfl (show 1 + 1 ≤ R.frames ∧ 8 + (2 + 11) + 20 ≤ R.locals by omega) rfl rfl (rest := []) rfl (Nat.le_of_ble_eq_true rfl) dX12_unit_68 (fun r22 k23 h24 => ?_)
        refine zf_ifb_ne hC (tgt := 76) dX12_unit_71 (by decide) (fun h25 => ?_) (fun h25 => ?_)
        · refine zf_aload_n hC dX12_unit_76 rfl 2 rfl ?_
          refine zf_dup hC dX12_unit_77 rfl ?_
          refine gf_1287 hC dX12_unit_78 ?_
          refine zf_iconst hC (v := 1) dX12_unit_81 rfl ?_
          refine zf_isub hC dX12_unit_82 ?_
          refine pf_1287 hC dX12_unit_83 ?_
          refine zf_nmk (fun k26 => ?_)
          refine zf_iload_n hC dX12_unit_86 rfl 0 rfl ?_
          exact zf_zret hC rfl r19 rfl dX12_unit_87
        · refine zf_iconst hC (v := 0) dX12_unit_74 rfl ?_
          exact zf_zret hC rfl false rfl dX12_unit_75
      · refine zf_iconst hC (v := 0) dX12_unit_58 rfl ?_
        exact zf_zret hC rfl false rfl dX12_unit_59
    · refine zf_iload_n hC dX12_unit_88 rfl 0 rfl ?_
      refine zf_bipush hC (v := 104) dX12_unit_89 rfl ?_
      refine zf_icmp_eq hC (tgt := 106) dX12_unit_91 (by decide) (fun h27 => ?_) (fun h27 => ?_)
      · refine zf_lv (LV' := [(0, .ref (g.2.1 11)), (1, .int r1)]) [1, 0] rfl ?_
        exact zjbX12_unit_106 hC hR hu r1 k2
      · refine zf_iload_n hC dX12_unit_94 rfl 0 rfl ?_
        refine zf_bipush hC (v := 110) dX12_unit_95 rfl ?_
        refine zf_icmp_eq hC (tgt := 106) dX12_unit_97 (by decide) (fun h45 => ?_) (fun h45 => ?_)
        · refine zf_lv (LV' := [(0, .ref (g.2.1 11)), (1, .int r1)]) [1, 0] rfl ?_
          exact zjbX12_unit_106 hC hR hu r1 k2
        · refine zf_iload_n hC dX12_unit_100 rfl 0 rfl ?_
          refine zf_bipush hC (v := 100) dX12_unit_101 rfl ?_
          refine zf_icmp_ne hC (tgt := 180) dX12_unit_103 (by decide) (fun h46 => ?_) (fun h46 => ?_)
          · refine zf_lv (LV' := [(0, .ref (g.2.1 11)), (1, .int r1)]) [1, 0] rfl ?_
            exact zjbX12_unit_106 hC hR hu r1 k2
          · refine zf_iload_n hC dX12_unit_180 rfl 0 rfl ?_
            refine zf_bipush hC (v := 119) dX12_unit_181 rfl ?_
            refine zf_icmp_ne hC (tgt := 239) dX12_unit_183 (by decide) (fun h47 => ?_) (fun h47 => ?_)
            · refine zf_aload_n hC dX12_unit_186 rfl 1 rfl ?_
              refine zf_dup hC dX12_unit_187 rfl ?_
              refine gf_1285 hC dX12_unit_188 ?_
              refine zf_iconst hC (v := 1) dX12_unit_191 rfl ?_
              refine zf_iadd hC dX12_unit_192 ?_
              refine pf_1285 hC dX12_unit_193 ?_
              refine zf_nmk (fun k48 => ?_)
              refine zf_aload_n hC dX12_unit_196 rfl 1 rfl ?_
              refine zf_sipush hC (v := 999) dX12_unit_197 rfl ?_
              refine zf_callV hC (c_X12_number l g 999) mt_X12_number wd_1706 sp_70 ci_11 ic_11 wd_1704 rfl (show 1 + 1 ≤ R.frames ∧ 8 + (5 + 11) + 20 ≤ R.locals by omega) rfl rfl (rest := []) rfl (Nat.le_of_ble_eq_true rfl) dX12_unit_200 (fun r49 k50 h51 => ?_)
              refine zf_istore_n hC (LV' := [(2, .int r49), (1, .int r1), (0, .ref (g.2.1 11))]) dX12_unit_203 rfl (by decide) rfl ?_
              refine zf_aload_n hC dX12_unit_204 rfl 2 rfl ?_
              refine gf_1286 hC dX12_unit_205 ?_
              refine zf_iconst hC (v := (-1)) dX12_unit_208 rfl ?_
              refine zf_icmp_ne hC (tgt := 237) dX12_unit_209 (by decide) (fun h52 => ?_) (fun h52 => ?_)
              · refine zf_aload_n hC dX12_unit_212 rfl 2 rfl ?_
                refine gf_1291 hC dX12_unit_213 ?_
                refine zf_iconst hC (v := (-1)) dX12_unit_216 rfl ?_
                refine zf_icmp_eq hC (tgt := 237) dX12_unit_217 (by decide) (fun h53 => ?_) (fun h53 => ?_)
                · refine zf_iconst hC (v := 0) dX12_unit_237 rfl ?_
                  exact zf_zret hC rfl false rfl dX12_unit_238
                · refine zf_aload_n hC dX12_unit_220 rfl 2 rfl ?_
                  refine gf_1289 hC dX12_unit_221 ?_
                  refine zf_aload_n hC dX12_unit_224 rfl 2 rfl ?_
                  refine gf_1291 hC dX12_unit_225 ?_
                  refine zf_isub hC dX12_unit_228 ?_
                  refine zf_iload_n hC dX12_unit_229 rfl 0 rfl ?_
                  refine zf_icmp_lt hC (tgt := 237) dX12_unit_230 (by decide) (fun h54 => ?_) (fun h54 => ?_)
                  · refine zf_iconst hC (v := 0) dX12_unit_237 rfl ?_
                    exact zf_zret hC rfl false rfl dX12_unit_238
                  · refine zf_iconst hC (v := 1) dX12_unit_233 rfl ?_
                    refine zf_goto hC (tgt := 238) dX12_unit_234 (by decide) ?_
                    exact zf_zret hC rfl true rfl dX12_unit_238
              · refine zf_iconst hC (v := 0) dX12_unit_237 rfl ?_
                exact zf_zret hC rfl false rfl dX12_unit_238
            · refine zf_aload_n hC dX12_unit_239 rfl 1 rfl ?_
              refine zf_sipush hC (v := 999) dX12_unit_240 rfl ?_
              refine zf_callV hC (c_X12_number l g 999) mt_X12_number wd_1706 sp_70 ci_11 ic_11 wd_1704 rfl (show 1 + 1 ≤ R.frames ∧ 8 + (5 + 11) + 20 ≤ R.locals by omega) rfl rfl (rest := []) rfl (Nat.le_of_ble_eq_true rfl) dX12_unit_243 (fun r55 k56 h57 => ?_)
              refine zf_istore_n hC (LV' := [(2, .int r55), (1, .int r1), (0, .ref (g.2.1 11))]) dX12_unit_246 rfl (by decide) rfl ?_
              refine zf_aload_n hC dX12_unit_247 rfl 2 rfl ?_
              refine gf_1286 hC dX12_unit_248 ?_
              refine zf_iconst hC (v := (-1)) dX12_unit_251 rfl ?_
              refine zf_icmp_ne hC (tgt := 264) dX12_unit_252 (by decide) (fun h58 => ?_) (fun h58 => ?_)
              · refine zf_aload_n hC dX12_unit_255 rfl 2 rfl ?_
                refine zf_callV hC (c_X12_look l g) mt_X12_look wd_1690 sp_66 ci_11 ic_11 wd_1688 rfl (show 0 + 1 ≤ R.frames ∧ 8 + (1 + 11) + 0 ≤ R.locals by omega) rfl rfl (rest := []) rfl (Nat.le_of_ble_eq_true rfl) dX12_unit_256 (fun r59 k60 h61 => ?_)
                refine zf_bipush hC (v := 123) dX12_unit_259 rfl ?_
                refine zf_icmp_eq hC (tgt := 269) dX12_unit_261 (by decide) (fun h62 => ?_) (fun h62 => ?_)
                · refine zf_aload_n hC dX12_unit_269 rfl 2 rfl ?_
                  refine zf_callV hC (c_X12_goesIn l g) mt_X12_goesIn wd_1694 sp_67 ci_11 ic_11 wd_1692 rfl (show 1 + 1 ≤ R.frames ∧ 8 + (1 + 11) + 20 ≤ R.locals by omega) rfl rfl (rest := []) rfl (Nat.le_of_ble_eq_true rfl) dX12_unit_270 (fun r63 k64 h65 => ?_)
                  refine zf_ifb_ne hC (tgt := 278) dX12_unit_273 (by decide) (fun h66 => ?_) (fun h66 => ?_)
                  · refine zf_aload_n hC dX12_unit_278 rfl 2 rfl ?_
                    refine zf_callV hC (cF_X12_any l g hu) mt_X12_any wd_1678 sp_63 ci_11 ic_11 wd_1676 rfl (show fu + 2 + 1 ≤ R.frames ∧ 8 + (3 + 11) + (lu + 45) ≤ R.locals by omega) rfl rfl (rest := []) rfl (Nat.le_of_ble_eq_true rfl) dX12_unit_279 (fun r67 k68 h69 => ?_)
                    refine zf_ifb_eq hC (tgt := 289) dX12_unit_282 (by decide) (fun h70 => ?_) (fun h70 => ?_)
                    · refine zf_iconst hC (v := 1) dX12_unit_285 rfl ?_
                      refine zf_goto hC (tgt := 290) dX12_unit_286 (by decide) ?_
                      refine zf_lv (LV' := [(0, .ref (g.2.1 11)), (1, .int r1), (2, .int r55)]) [2, 1, 0] rfl ?_
                      exact zjbX12_unit_290 hC hR hu r1 r55 1 k68
                    · refine zf_iconst hC (v := 0) dX12_unit_289 rfl ?_
                      refine zf_lv (LV' := [(0, .ref (g.2.1 11)), (1, .int r1), (2, .int r55)]) [2, 1, 0] rfl ?_
                      exact zjbX12_unit_290 hC hR hu r1 r55 0 k68
                  · refine zf_iconst hC (v := 0) dX12_unit_276 rfl ?_
                    exact zf_zret hC rfl false rfl dX12_unit_277
                · refine zf_aload_n hC dX12_unit_264 rfl 2 rfl ?_
                  refine zf_callV hC (c_X12_stop l g) mt_X12_stop wd_1698 sp_68 ci_11 ic_11 wd_1696 rfl (show 0 + 1 ≤ R.frames ∧ 8 + (1 + 11) + 0 ≤ R.locals by omega) rfl rfl (rest := []) rfl (Nat.le_of_ble_eq_true rfl) dX12_unit_265 (fun r89 k90 h91 => ?_)
                  exact zf_zret hC rfl r89 rfl dX12_unit_268
              · refine zf_aload_n hC dX12_unit_264 rfl 2 rfl ?_
                refine zf_callV hC (c_X12_stop l g) mt_X12_stop wd_1698 sp_68 ci_11 ic_11 wd_1696 rfl (show 0 + 1 ≤ R.frames ∧ 8 + (1 + 11) + 0 ≤ R.locals by omega) rfl rfl (rest := []) rfl (Nat.le_of_ble_eq_true rfl) dX12_unit_265 (fun r92 k93 h94 => ?_)
                exact zf_zret hC rfl r92 rfl dX12_unit_268
def fX12_unit : Nat → ST → Option (Bool × ST)
  | 0 => fun _ => none
  | n + 1 => FX12_unit (fX12_unit n)
theorem c_X12_unit (l : Launch) (g : GT) : ∀ (n : Nat), CN l yX12_unit cX12_unit 4 (some .boolean) { frames := 3 * n, cells := 0, slots := 0, locals := 67 * n } g TM voB [.ref (g.2.1 11)] (fun k => fX12_unit n k) := by
  intro n
  induction n with
  | zero => intro k r k' h; cases h
  | succ n ih => exact cF_X12_unit l g ih
def fX12_all (k : ST)  : Option (Bool × ST) := FX12_all (fX12_unit 10) k
theorem c_X12_all (l : Launch) (g : GT)  : CN l yX12_all cX12_all 3 (some .boolean) { frames := 31, cells := 0, slots := 0, locals := 693 } g TM voB [.ref (g.2.1 11)] (fun k => fX12_all k) := cF_X12_all l g (fu := 3 * 10) (lu := 67 * 10) (c_X12_unit l g 10)
def fX12_any (k : ST)  : Option (Bool × ST) := FX12_any (fX12_unit 10) k
theorem c_X12_any (l : Launch) (g : GT)  : CN l yX12_any cX12_any 3 (some .boolean) { frames := 32, cells := 0, slots := 0, locals := 715 } g TM voB [.ref (g.2.1 11)] (fun k => fX12_any k) := cF_X12_any l g (fu := 3 * 10) (lu := 67 * 10) (c_X12_unit l g 10)
/-! LifeKeysModel.goThrough -/
theorem dX12_goThrough_0 : decode cX12_goThrough 0 = .ok (.aload_n 0, 1) := by decide +kernel
theorem dX12_goThrough_1 : decode cX12_goThrough 1 = .ok (.aload_n 1, 1) := by decide +kernel
theorem dX12_goThrough_2 : decode cX12_goThrough 2 = .ok (.putfield 130, 3) := by decide +kernel
theorem dX12_goThrough_5 : decode cX12_goThrough 5 = .ok (.aload_n 0, 1) := by decide +kernel
theorem dX12_goThrough_6 : decode cX12_goThrough 6 = .ok (.iload_n 2, 1) := by decide +kernel
theorem dX12_goThrough_7 : decode cX12_goThrough 7 = .ok (.putfield 322, 3) := by decide +kernel
theorem dX12_goThrough_10 : decode cX12_goThrough 10 = .ok (.aload_n 0, 1) := by decide +kernel
theorem dX12_goThrough_11 : decode cX12_goThrough 11 = .ok (.iload_n 3, 1) := by decide +kernel
theorem dX12_goThrough_12 : decode cX12_goThrough 12 = .ok (.putfield 319, 3) := by decide +kernel
theorem dX12_goThrough_15 : decode cX12_goThrough 15 = .ok (.aload_n 0, 1) := by decide +kernel
theorem dX12_goThrough_16 : decode cX12_goThrough 16 = .ok (.iconst 0, 1) := by decide +kernel
theorem dX12_goThrough_17 : decode cX12_goThrough 17 = .ok (.putfield 316, 3) := by decide +kernel
theorem dX12_goThrough_20 : decode cX12_goThrough 20 = .ok (.aload_n 0, 1) := by decide +kernel
theorem dX12_goThrough_21 : decode cX12_goThrough 21 = .ok (.iconst (-1), 1) := by decide +kernel
theorem dX12_goThrough_22 : decode cX12_goThrough 22 = .ok (.putfield 325, 3) := by decide +kernel
theorem dX12_goThrough_25 : decode cX12_goThrough 25 = .ok (.aload_n 0, 1) := by decide +kernel
theorem dX12_goThrough_26 : decode cX12_goThrough 26 = .ok (.iconst 0, 1) := by decide +kernel
theorem dX12_goThrough_27 : decode cX12_goThrough 27 = .ok (.putfield 328, 3) := by decide +kernel
theorem dX12_goThrough_30 : decode cX12_goThrough 30 = .ok (.aload_n 0, 1) := by decide +kernel
theorem dX12_goThrough_31 : decode cX12_goThrough 31 = .ok (.invokevirtual 351, 3) := by decide +kernel
theorem dX12_goThrough_34 : decode cX12_goThrough 34 = .ok (.istore 4, 2) := by decide +kernel
theorem dX12_goThrough_36 : decode cX12_goThrough 36 = .ok (.aload_n 0, 1) := by decide +kernel
theorem dX12_goThrough_37 : decode cX12_goThrough 37 = .ok (.getfield 325, 3) := by decide +kernel
theorem dX12_goThrough_40 : decode cX12_goThrough 40 = .ok (.iconst (-1), 1) := by decide +kernel
theorem dX12_goThrough_41 : decode cX12_goThrough 41 = .ok (.if_icmp .ne 16, 3) := by decide +kernel
theorem dX12_goThrough_44 : decode cX12_goThrough 44 = .ok (.aload_n 0, 1) := by decide +kernel
theorem dX12_goThrough_45 : decode cX12_goThrough 45 = .ok (.invokevirtual 335, 3) := by decide +kernel
theorem dX12_goThrough_48 : decode cX12_goThrough 48 = .ok (.iconst (-1), 1) := by decide +kernel
theorem dX12_goThrough_49 : decode cX12_goThrough 49 = .ok (.if_icmp .eq 8, 3) := by decide +kernel
theorem dX12_goThrough_52 : decode cX12_goThrough 52 = .ok (.aload_n 0, 1) := by decide +kernel
theorem dX12_goThrough_53 : decode cX12_goThrough 53 = .ok (.invokevirtual 331, 3) := by decide +kernel
theorem dX12_goThrough_56 : decode cX12_goThrough 56 = .ok (.pop, 1) := by decide +kernel
theorem dX12_goThrough_57 : decode cX12_goThrough 57 = .ok (.iload 4, 2) := by decide +kernel
theorem dX12_goThrough_59 : decode cX12_goThrough 59 = .ok (.ireturn, 1) := by decide +kernel
def fX12_goThrough (k : ST) (a0 : Int32) (a1 : Int32) (a2 : Int32) : Option (Bool × ST) := nm (sI k 11 52 a0) fun k1 => nm (sI k1 11 53 a1) fun k2 => nm (sI k2 11 54 a2) fun k3 => nm (sI k3 11 55 0) fun k4 => nm (sI k4 11 56 (-1)) fun k5 => nm (sI k5 11 57 0) fun k6 => ob (fX12_any k6) fun r7 k8 => if (gI k8 11 56) = (-1) then ob (fX12_look k8) fun r11 k12 => if r11 = (-1) then some (r7, k12) else ob (fX12_stop k12) fun r15 k16 => some (r7, k16) else some (r7, k8)
set_option maxRecDepth 20000 in
theorem c_X12_goThrough (l : Launch) (g : GT) (a0 : Int32) (a1 : Int32) (a2 : Int32) : CN l yX12_goThrough cX12_goThrough 5 (some .boolean) { frames := 33, cells := 0, slots := 0, locals := 737 } g TM voB [.ref (g.2.1 11), .ref (g.2.1 (ix a0)), .int a1, .int a2] (fun k => fX12_goThrough k a0 a1 a2) := by
  refine cn_of (by decide) (Nat.le_of_ble_eq_true rfl) ?_
  intro p e s m args below meth c hC k
  have hC : HC p s m args meth c cX12_goThrough 5 RX12 (some .boolean) g := hC
  have hR : 33 ≤ ({ frames := 33, cells := 0, slots := 0, locals := 737 } : Room).frames ∧ 737 ≤ ({ frames := 33, cells := 0, slots := 0, locals := 737 } : Room).locals := ⟨Nat.le_refl _, Nat.le_refl _⟩
  show ZF p l e _ s m args below meth c g TM voB 5 k 0 [(0, .ref (g.2.1 11)), (1, .ref (g.2.1 (ix a0))), (2, .int a1), (3, .int a2)] [] (fX12_goThrough k a0 a1 a2)
  unfold fX12_goThrough
  refine zf_aload_n hC dX12_goThrough_0 rfl 0 rfl ?_
  refine zf_aload_n hC dX12_goThrough_1 rfl 1 rfl ?_
  refine pf_1282 hC a0 (n := ix a0) rfl dX12_goThrough_2 ?_
  refine zf_nmk (fun k1 => ?_)
  refine zf_aload_n hC dX12_goThrough_5 rfl 0 rfl ?_
  refine zf_iload_n hC dX12_goThrough_6 rfl 2 rfl ?_
  refine pf_1283 hC dX12_goThrough_7 ?_
  refine zf_nmk (fun k2 => ?_)
  refine zf_aload_n hC dX12_goThrough_10 rfl 0 rfl ?_
  refine zf_iload_n hC dX12_goThrough_11 rfl 3 rfl ?_
  refine pf_1284 hC dX12_goThrough_12 ?_
  refine zf_nmk (fun k3 => ?_)
  refine zf_aload_n hC dX12_goThrough_15 rfl 0 rfl ?_
  refine zf_iconst hC (v := 0) dX12_goThrough_16 rfl ?_
  refine pf_1285 hC dX12_goThrough_17 ?_
  refine zf_nmk (fun k4 => ?_)
  refine zf_aload_n hC dX12_goThrough_20 rfl 0 rfl ?_
  refine zf_iconst hC (v := (-1)) dX12_goThrough_21 rfl ?_
  refine pf_1286 hC dX12_goThrough_22 ?_
  refine zf_nmk (fun k5 => ?_)
  refine zf_aload_n hC dX12_goThrough_25 rfl 0 rfl ?_
  refine zf_iconst hC (v := 0) dX12_goThrough_26 rfl ?_
  refine pf_1287 hC dX12_goThrough_27 ?_
  refine zf_nmk (fun k6 => ?_)
  refine zf_aload_n hC dX12_goThrough_30 rfl 0 rfl ?_
  refine zf_callV hC (c_X12_any l g) mt_X12_any wd_1678 sp_63 ci_11 ic_11 wd_1676 rfl (rm_le hR rfl) rfl rfl (rest := []) rfl (Nat.le_of_ble_eq_true rfl) dX12_goThrough_31 (fun r7 k8 h9 => ?_)
  refine zf_istore hC (LV' := [(4, .int (b2i r7)), (0, .ref (g.2.1 11)), (1, .ref (g.2.1 (ix a0))), (2, .int a1), (3, .int a2)]) dX12_goThrough_34 (by decide) rfl ?_
  refine zf_aload_n hC dX12_goThrough_36 rfl 1 rfl ?_
  refine gf_1286 hC dX12_goThrough_37 ?_
  refine zf_iconst hC (v := (-1)) dX12_goThrough_40 rfl ?_
  refine zf_icmp_ne hC (tgt := 57) dX12_goThrough_41 (by decide) (fun h10 => ?_) (fun h10 => ?_)
  · refine zf_aload_n hC dX12_goThrough_44 rfl 1 rfl ?_
    refine zf_callV hC (c_X12_look l g) mt_X12_look wd_1690 sp_66 ci_11 ic_11 wd_1688 rfl (rm_le hR rfl) rfl rfl (rest := []) rfl (Nat.le_of_ble_eq_true rfl) dX12_goThrough_45 (fun r11 k12 h13 => ?_)
    refine zf_iconst hC (v := (-1)) dX12_goThrough_48 rfl ?_
    refine zf_icmp_eq hC (tgt := 57) dX12_goThrough_49 (by decide) (fun h14 => ?_) (fun h14 => ?_)
    · refine zf_iload hC dX12_goThrough_57 0 rfl ?_
      exact zf_zret hC rfl r7 rfl dX12_goThrough_59
    · refine zf_aload_n hC dX12_goThrough_52 rfl 1 rfl ?_
      refine zf_callV hC (c_X12_stop l g) mt_X12_stop wd_1698 sp_68 ci_11 ic_11 wd_1696 rfl (rm_le hR rfl) rfl rfl (rest := []) rfl (Nat.le_of_ble_eq_true rfl) dX12_goThrough_53 (fun r15 k16 h17 => ?_)
      refine zf_pop hC dX12_goThrough_56 rfl ?_
      refine zf_iload hC dX12_goThrough_57 0 rfl ?_
      exact zf_zret hC rfl r7 rfl dX12_goThrough_59
  · refine zf_iload hC dX12_goThrough_57 0 rfl ?_
    exact zf_zret hC rfl r7 rfl dX12_goThrough_59
/-! LifeKeysModel.fault -/
theorem dX12_fault_0 : decode cX12_fault 0 = .ok (.aload_n 0, 1) := by decide +kernel
theorem dX12_fault_1 : decode cX12_fault 1 = .ok (.iconst 0, 1) := by decide +kernel
theorem dX12_fault_2 : decode cX12_fault 2 = .ok (.putfield 181, 3) := by decide +kernel
theorem dX12_fault_5 : decode cX12_fault 5 = .ok (.aload_n 0, 1) := by decide +kernel
theorem dX12_fault_6 : decode cX12_fault 6 = .ok (.iconst 1, 1) := by decide +kernel
theorem dX12_fault_7 : decode cX12_fault 7 = .ok (.putfield 360, 3) := by decide +kernel
theorem dX12_fault_10 : decode cX12_fault 10 = .ok (.aload_n 0, 1) := by decide +kernel
theorem dX12_fault_11 : decode cX12_fault 11 = .ok (.aload_n 0, 1) := by decide +kernel
theorem dX12_fault_12 : decode cX12_fault 12 = .ok (.getfield 41, 3) := by decide +kernel
theorem dX12_fault_15 : decode cX12_fault 15 = .ok (.iconst 0, 1) := by decide +kernel
theorem dX12_fault_16 : decode cX12_fault 16 = .ok (.aload_n 0, 1) := by decide +kernel
theorem dX12_fault_17 : decode cX12_fault 17 = .ok (.getfield 205, 3) := by decide +kernel
theorem dX12_fault_20 : decode cX12_fault 20 = .ok (.invokevirtual 384, 3) := by decide +kernel
theorem dX12_fault_23 : decode cX12_fault 23 = .ok (.istore_n 1, 1) := by decide +kernel
theorem dX12_fault_24 : decode cX12_fault 24 = .ok (.aload_n 0, 1) := by decide +kernel
theorem dX12_fault_25 : decode cX12_fault 25 = .ok (.getfield 325, 3) := by decide +kernel
theorem dX12_fault_28 : decode cX12_fault 28 = .ok (.ireturn, 1) := by decide +kernel
def fX12_fault (k : ST)  : Option (Int32 × ST) := nm (sI k 11 0 0) fun k1 => nm (sI k1 11 62 1) fun k2 => ob (fX12_goThrough k2 121 0 (gI k2 11 16)) fun r3 k4 => some (gI k4 11 56, k4)
set_option maxRecDepth 20000 in
theorem c_X12_fault (l : Launch) (g : GT)  : CN l yX12_fault cX12_fault 2 (some .int) { frames := 34, cells := 0, slots := 0, locals := 761 } g TM voI [.ref (g.2.1 11)] (fun k => fX12_fault k) := by
  refine cn_of (by decide) (Nat.le_of_ble_eq_true rfl) ?_
  intro p e s m args below meth c hC k
  have hC : HC p s m args meth c cX12_fault 2 RX12 (some .int) g := hC
  have hR : 34 ≤ ({ frames := 34, cells := 0, slots := 0, locals := 761 } : Room).frames ∧ 761 ≤ ({ frames := 34, cells := 0, slots := 0, locals := 761 } : Room).locals := ⟨Nat.le_refl _, Nat.le_refl _⟩
  show ZF p l e _ s m args below meth c g TM voI 2 k 0 [(0, .ref (g.2.1 11))] [] (fX12_fault k)
  unfold fX12_fault
  refine zf_aload_n hC dX12_fault_0 rfl 0 rfl ?_
  refine zf_iconst hC (v := 0) dX12_fault_1 rfl ?_
  refine pf_1230 hC dX12_fault_2 ?_
  refine zf_nmk (fun k1 => ?_)
  refine zf_aload_n hC dX12_fault_5 rfl 0 rfl ?_
  refine zf_iconst hC (v := 1) dX12_fault_6 rfl ?_
  refine pf_1292 hC true rfl dX12_fault_7 ?_
  refine zf_nmk (fun k2 => ?_)
  refine zf_aload_n hC dX12_fault_10 rfl 0 rfl ?_
  refine zf_aload_n hC dX12_fault_11 rfl 0 rfl ?_
  refine gf_1245 hC dX12_fault_12 ?_
  refine zf_iconst hC (v := 0) dX12_fault_15 rfl ?_
  refine zf_aload_n hC dX12_fault_16 rfl 0 rfl ?_
  refine gf_1246 hC dX12_fault_17 ?_
  refine zf_callV hC (c_X12_goThrough l g 121 0 (gI k2 11 16)) mt_X12_goThrough wd_1674 sp_62 ci_11 ic_11 wd_1672 rfl (rm_le hR rfl) rfl rfl (rest := []) rfl (Nat.le_of_ble_eq_true rfl) dX12_fault_20 (fun r3 k4 h5 => ?_)
  refine zf_istore_n hC (LV' := [(1, .int (b2i r3)), (0, .ref (g.2.1 11))]) dX12_fault_23 rfl (by decide) rfl ?_
  refine zf_aload_n hC dX12_fault_24 rfl 1 rfl ?_
  refine gf_1286 hC dX12_fault_25 ?_
  exact zf_iret hC rfl dX12_fault_28
/-! LifeKeysModel.rule -/
theorem dX12_rule_0 : decode cX12_rule 0 = .ok (.aload_n 0, 1) := by decide +kernel
theorem dX12_rule_1 : decode cX12_rule 1 = .ok (.invokevirtual 398, 3) := by decide +kernel
theorem dX12_rule_4 : decode cX12_rule 4 = .ok (.iconst (-1), 1) := by decide +kernel
theorem dX12_rule_5 : decode cX12_rule 5 = .ok (.if_icmp .ne 12, 3) := by decide +kernel
theorem dX12_rule_8 : decode cX12_rule 8 = .ok (.aload_n 0, 1) := by decide +kernel
theorem dX12_rule_9 : decode cX12_rule 9 = .ok (.getfield 400, 3) := by decide +kernel
theorem dX12_rule_12 : decode cX12_rule 12 = .ok (.bipush 20, 2) := by decide +kernel
theorem dX12_rule_14 : decode cX12_rule 14 = .ok (.if_icmp .ne 5, 3) := by decide +kernel
theorem dX12_rule_17 : decode cX12_rule 17 = .ok (.iconst (-1), 1) := by decide +kernel
theorem dX12_rule_18 : decode cX12_rule 18 = .ok (.ireturn, 1) := by decide +kernel
theorem dX12_rule_19 : decode cX12_rule 19 = .ok (.iconst 0, 1) := by decide +kernel
theorem dX12_rule_20 : decode cX12_rule 20 = .ok (.istore_n 1, 1) := by decide +kernel
theorem dX12_rule_21 : decode cX12_rule 21 = .ok (.iload_n 1, 1) := by decide +kernel
theorem dX12_rule_22 : decode cX12_rule 22 = .ok (.aload_n 0, 1) := by decide +kernel
theorem dX12_rule_23 : decode cX12_rule 23 = .ok (.getfield 205, 3) := by decide +kernel
theorem dX12_rule_26 : decode cX12_rule 26 = .ok (.if_icmp .ge 30, 3) := by decide +kernel
theorem dX12_rule_29 : decode cX12_rule 29 = .ok (.aload_n 0, 1) := by decide +kernel
theorem dX12_rule_30 : decode cX12_rule 30 = .ok (.getfield 85, 3) := by decide +kernel
theorem dX12_rule_33 : decode cX12_rule 33 = .ok (.sipush 160, 3) := by decide +kernel
theorem dX12_rule_36 : decode cX12_rule 36 = .ok (.aload_n 0, 1) := by decide +kernel
theorem dX12_rule_37 : decode cX12_rule 37 = .ok (.getfield 400, 3) := by decide +kernel
theorem dX12_rule_40 : decode cX12_rule 40 = .ok (.imul, 1) := by decide +kernel
theorem dX12_rule_41 : decode cX12_rule 41 = .ok (.iload_n 1, 1) := by decide +kernel
theorem dX12_rule_42 : decode cX12_rule 42 = .ok (.iadd, 1) := by decide +kernel
theorem dX12_rule_43 : decode cX12_rule 43 = .ok (.aload_n 0, 1) := by decide +kernel
theorem dX12_rule_44 : decode cX12_rule 44 = .ok (.getfield 41, 3) := by decide +kernel
theorem dX12_rule_47 : decode cX12_rule 47 = .ok (.iload_n 1, 1) := by decide +kernel
theorem dX12_rule_48 : decode cX12_rule 48 = .ok (.baload, 1) := by decide +kernel
theorem dX12_rule_49 : decode cX12_rule 49 = .ok (.bastore, 1) := by decide +kernel
theorem dX12_rule_50 : decode cX12_rule 50 = .ok (.iinc 1 1, 3) := by decide +kernel
theorem dX12_rule_53 : decode cX12_rule 53 = .ok (.goto (-32), 3) := by decide +kernel
theorem dX12_rule_56 : decode cX12_rule 56 = .ok (.aload_n 0, 1) := by decide +kernel
theorem dX12_rule_57 : decode cX12_rule 57 = .ok (.getfield 88, 3) := by decide +kernel
theorem dX12_rule_60 : decode cX12_rule 60 = .ok (.aload_n 0, 1) := by decide +kernel
theorem dX12_rule_61 : decode cX12_rule 61 = .ok (.getfield 400, 3) := by decide +kernel
theorem dX12_rule_64 : decode cX12_rule 64 = .ok (.aload_n 0, 1) := by decide +kernel
theorem dX12_rule_65 : decode cX12_rule 65 = .ok (.getfield 205, 3) := by decide +kernel
theorem dX12_rule_68 : decode cX12_rule 68 = .ok (.iastore, 1) := by decide +kernel
theorem dX12_rule_69 : decode cX12_rule 69 = .ok (.aload_n 0, 1) := by decide +kernel
theorem dX12_rule_70 : decode cX12_rule 70 = .ok (.dup, 1) := by decide +kernel
theorem dX12_rule_71 : decode cX12_rule 71 = .ok (.getfield 400, 3) := by decide +kernel
theorem dX12_rule_74 : decode cX12_rule 74 = .ok (.iconst 1, 1) := by decide +kernel
theorem dX12_rule_75 : decode cX12_rule 75 = .ok (.iadd, 1) := by decide +kernel
theorem dX12_rule_76 : decode cX12_rule 76 = .ok (.putfield 400, 3) := by decide +kernel
theorem dX12_rule_79 : decode cX12_rule 79 = .ok (.aload_n 0, 1) := by decide +kernel
theorem dX12_rule_80 : decode cX12_rule 80 = .ok (.iconst 0, 1) := by decide +kernel
theorem dX12_rule_81 : decode cX12_rule 81 = .ok (.putfield 205, 3) := by decide +kernel
theorem dX12_rule_84 : decode cX12_rule 84 = .ok (.aload_n 0, 1) := by decide +kernel
theorem dX12_rule_85 : decode cX12_rule 85 = .ok (.getfield 400, 3) := by decide +kernel
theorem dX12_rule_88 : decode cX12_rule 88 = .ok (.iconst 1, 1) := by decide +kernel
theorem dX12_rule_89 : decode cX12_rule 89 = .ok (.isub, 1) := by decide +kernel
theorem dX12_rule_90 : decode cX12_rule 90 = .ok (.ireturn, 1) := by decide +kernel
def lpX12_rule_21  : Nat → Int32 → ST → (Int32 → ST → Option (Int32 × ST)) → Option (Int32 × ST)
  | 0, _, _, _ => none
  | n + 1, v1, k, cont => if (gI k 11 16) ≤ v1 then cont v1 k else ck (inb v1 160) (ck (inb ((160 * (gI k 11 48)) + v1) 3200) (nm (sA k 123 (ix ((160 * (gI k 11 48)) + v1)) (Int8.toInt32 (Int32.toInt8 (gA k 109 (ix v1))))) fun k9 => lpX12_rule_21 n (v1 + 1) k9 cont))
set_option maxRecDepth 20000 in
theorem zlpX12_rule_21 {p : Program} {l : Launch} {e : Env} {R : Room} {s : State} {m : MethodId} {args : Array Value} {below : List Frame} {meth : Method} {c : Code} {g : GT} (hC : HC p s m args meth c cX12_rule 2 RX12 (some .int) g) (hR : 35 ≤ R.frames ∧ 782 ≤ R.locals)   {cont : Int32 → ST → Option (Int32 × ST)} (hk : ∀ (v1 : Int32) (k : ST), ZF p l e R s m args below meth c g TM voI 2 k 56 [(0, .ref (g.2.1 11)), (1, .int v1)] [] (cont v1 k)) : ∀ (n : Nat) (v1 : Int32) (k : ST), ZF p l e R s m args below meth c g TM voI 2 k 21 [(0, .ref (g.2.1 11)), (1, .int v1)] [] (lpX12_rule_21 n v1 k cont) := by
  intro n
  induction n with
  | zero => intros; exact zf_none
  | succ n ih =>
    intro v1 k
    rw [lpX12_rule_21]
    refine zf_iload_n hC dX12_rule_21 rfl 1 rfl ?_
    refine zf_aload_n hC dX12_rule_22 rfl 0 rfl ?_
    refine gf_1246 hC dX12_rule_23 ?_
    refine zf_icmp_ge hC (tgt := 56) dX12_rule_26 (by decide) (fun h6 => ?_) (fun h6 => ?_)
    · refine zf_lv (LV' := [(0, .ref (g.2.1 11)), (1, .int v1)]) [0, 1] rfl ?_
      exact hk v1 k
    · refine zf_aload_n hC dX12_rule_29 rfl 0 rfl ?_
      refine gf_1263 hC dX12_rule_30 ?_
      refine zf_sipush hC (v := 160) dX12_rule_33 rfl ?_
      refine zf_aload_n hC dX12_rule_36 rfl 0 rfl ?_
      refine gf_1278 hC dX12_rule_37 ?_
      refine zf_imul hC dX12_rule_40 ?_
      refine zf_iload_n hC dX12_rule_41 rfl 1 rfl ?_
      refine zf_iadd hC dX12_rule_42 ?_
      refine zf_aload_n hC dX12_rule_43 rfl 0 rfl ?_
      refine gf_1245 hC dX12_rule_44 ?_
      refine zf_iload_n hC dX12_rule_47 rfl 1 rfl ?_
      refine zf_bald hC (j := 109) ia_109 rfl rfl dX12_rule_48 (fun h7 => ?_)
      refine zf_bast hC (j := 123) ia_123 rfl rfl dX12_rule_49 (fun h8 => ?_)
      refine zf_nmk (fun k9 => ?_)
      refine zf_iinc hC (q := 1) (v := v1 + 1) (LV' := [(1, .int (v1 + 1)), (0, .ref (g.2.1 11))]) dX12_rule_50 rfl rfl (by decide) rfl ?_
      refine zf_goto hC (tgt := 21) dX12_rule_53 (by decide) ?_
      refine zf_lv (LV' := [(0, .ref (g.2.1 11)), (1, .int (v1 + 1))]) [1, 0] rfl ?_
      exact ih (v1 + 1) k9
def fX12_rule (k : ST)  : Option (Int32 × ST) := ob (fX12_fault k) fun r1 k2 => if r1 = (-1) then if (gI k2 11 48) = 20 then some ((-1), k2) else lpX12_rule_21 FU 0 k2 fun y10 k11 => ck (inb (gI k11 11 48) 20) (nm (sA k11 124 (ix (gI k11 11 48)) (gI k11 11 16)) fun k13 => nm (sI k13 11 48 ((gI k13 11 48) + 1)) fun k14 => nm (sI k14 11 16 0) fun k15 => some ((gI k15 11 48) - 1, k15)) else some ((-1), k2)
set_option maxRecDepth 20000 in
theorem c_X12_rule (l : Launch) (g : GT)  : CN l yX12_rule cX12_rule 2 (some .int) { frames := 35, cells := 0, slots := 0, locals := 782 } g TM voI [.ref (g.2.1 11)] (fun k => fX12_rule k) := by
  refine cn_of (by decide) (Nat.le_of_ble_eq_true rfl) ?_
  intro p e s m args below meth c hC k
  have hC : HC p s m args meth c cX12_rule 2 RX12 (some .int) g := hC
  have hR : 35 ≤ ({ frames := 35, cells := 0, slots := 0, locals := 782 } : Room).frames ∧ 782 ≤ ({ frames := 35, cells := 0, slots := 0, locals := 782 } : Room).locals := ⟨Nat.le_refl _, Nat.le_refl _⟩
  show ZF p l e _ s m args below meth c g TM voI 2 k 0 [(0, .ref (g.2.1 11))] [] (fX12_rule k)
  unfold fX12_rule
  refine zf_aload_n hC dX12_rule_0 rfl 0 rfl ?_
  refine zf_callV hC (c_X12_fault l g) mt_X12_fault wd_1669 wd_1670 ci_11 ic_11 wd_1724 rfl (rm_le hR rfl) rfl rfl (rest := []) rfl (Nat.le_of_ble_eq_true rfl) dX12_rule_1 (fun r1 k2 h3 => ?_)
  refine zf_iconst hC (v := (-1)) dX12_rule_4 rfl ?_
  refine zf_icmp_ne hC (tgt := 17) dX12_rule_5 (by decide) (fun h4 => ?_) (fun h4 => ?_)
  · refine zf_aload_n hC dX12_rule_8 rfl 0 rfl ?_
    refine gf_1278 hC dX12_rule_9 ?_
    refine zf_bipush hC (v := 20) dX12_rule_12 rfl ?_
    refine zf_icmp_ne hC (tgt := 19) dX12_rule_14 (by decide) (fun h5 => ?_) (fun h5 => ?_)
    · refine zf_iconst hC (v := (-1)) dX12_rule_17 rfl ?_
      exact zf_iret hC rfl dX12_rule_18
    · refine zf_iconst hC (v := 0) dX12_rule_19 rfl ?_
      refine zf_istore_n hC (LV' := [(1, .int 0), (0, .ref (g.2.1 11))]) dX12_rule_20 rfl (by decide) rfl ?_
      refine zf_lv (LV' := [(0, .ref (g.2.1 11)), (1, .int 0)]) [1, 0] rfl ?_
      refine zlpX12_rule_21 hC hR (fun y10 k11 => ?_) FU 0 k2
      refine zf_aload_n hC dX12_rule_56 rfl 0 rfl ?_
      refine gf_1264 hC dX12_rule_57 ?_
      refine zf_aload_n hC dX12_rule_60 rfl 0 rfl ?_
      refine gf_1278 hC dX12_rule_61 ?_
      refine zf_aload_n hC dX12_rule_64 rfl 0 rfl ?_
      refine gf_1246 hC dX12_rule_65 ?_
      refine zf_iast hC (j := 124) ia_124 rfl rfl dX12_rule_68 (fun h12 => ?_)
      refine zf_nmk (fun k13 => ?_)
      refine zf_aload_n hC dX12_rule_69 rfl 0 rfl ?_
      refine zf_dup hC dX12_rule_70 rfl ?_
      refine gf_1278 hC dX12_rule_71 ?_
      refine zf_iconst hC (v := 1) dX12_rule_74 rfl ?_
      refine zf_iadd hC dX12_rule_75 ?_
      refine pf_1278 hC dX12_rule_76 ?_
      refine zf_nmk (fun k14 => ?_)
      refine zf_aload_n hC dX12_rule_79 rfl 0 rfl ?_
      refine zf_iconst hC (v := 0) dX12_rule_80 rfl ?_
      refine pf_1246 hC dX12_rule_81 ?_
      refine zf_nmk (fun k15 => ?_)
      refine zf_aload_n hC dX12_rule_84 rfl 0 rfl ?_
      refine gf_1278 hC dX12_rule_85 ?_
      refine zf_iconst hC (v := 1) dX12_rule_88 rfl ?_
      refine zf_isub hC dX12_rule_89 ?_
      exact zf_iret hC rfl dX12_rule_90
  · refine zf_iconst hC (v := (-1)) dX12_rule_17 rfl ?_
    exact zf_iret hC rfl dX12_rule_18
/-! LifeKeysModel.isRule -/
theorem dX12_isRule_0 : decode cX12_isRule 0 = .ok (.iload_n 1, 1) := by decide +kernel
theorem dX12_isRule_1 : decode cX12_isRule 1 = .ok (.ifCond .lt 15, 3) := by decide +kernel
theorem dX12_isRule_4 : decode cX12_isRule 4 = .ok (.iload_n 1, 1) := by decide +kernel
theorem dX12_isRule_5 : decode cX12_isRule 5 = .ok (.aload_n 0, 1) := by decide +kernel
theorem dX12_isRule_6 : decode cX12_isRule 6 = .ok (.getfield 400, 3) := by decide +kernel
theorem dX12_isRule_9 : decode cX12_isRule 9 = .ok (.if_icmp .ge 7, 3) := by decide +kernel
theorem dX12_isRule_12 : decode cX12_isRule 12 = .ok (.iconst 1, 1) := by decide +kernel
theorem dX12_isRule_13 : decode cX12_isRule 13 = .ok (.goto 4, 3) := by decide +kernel
theorem dX12_isRule_16 : decode cX12_isRule 16 = .ok (.iconst 0, 1) := by decide +kernel
theorem dX12_isRule_17 : decode cX12_isRule 17 = .ok (.ireturn, 1) := by decide +kernel
def fX12_isRule (k : ST) (a0 : Int32) : Option (Bool × ST) := if a0 < 0 then some (false, k) else if (gI k 11 48) ≤ a0 then some (false, k) else some (true, k)
set_option maxRecDepth 20000 in
theorem c_X12_isRule (l : Launch) (g : GT) (a0 : Int32) : CN l yX12_isRule cX12_isRule 2 (some .boolean) { frames := 0, cells := 0, slots := 0, locals := 0 } g TM voB [.ref (g.2.1 11), .int a0] (fun k => fX12_isRule k a0) := by
  refine cn_of (by decide) (Nat.le_of_ble_eq_true rfl) ?_
  intro p e s m args below meth c hC k
  have hC : HC p s m args meth c cX12_isRule 2 RX12 (some .boolean) g := hC
  have hR : 0 ≤ ({ frames := 0, cells := 0, slots := 0, locals := 0 } : Room).frames ∧ 0 ≤ ({ frames := 0, cells := 0, slots := 0, locals := 0 } : Room).locals := ⟨Nat.le_refl _, Nat.le_refl _⟩
  show ZF p l e _ s m args below meth c g TM voB 2 k 0 [(0, .ref (g.2.1 11)), (1, .int a0)] [] (fX12_isRule k a0)
  unfold fX12_isRule
  refine zf_iload_n hC dX12_isRule_0 rfl 1 rfl ?_
  refine zf_if_lt hC (tgt := 16) dX12_isRule_1 (by decide) (fun h1 => ?_) (fun h1 => ?_)
  · refine zf_iconst hC (v := 0) dX12_isRule_16 rfl ?_
    exact zf_zret hC rfl false rfl dX12_isRule_17
  · refine zf_iload_n hC dX12_isRule_4 rfl 1 rfl ?_
    refine zf_aload_n hC dX12_isRule_5 rfl 0 rfl ?_
    refine gf_1278 hC dX12_isRule_6 ?_
    refine zf_icmp_ge hC (tgt := 16) dX12_isRule_9 (by decide) (fun h2 => ?_) (fun h2 => ?_)
    · refine zf_iconst hC (v := 0) dX12_isRule_16 rfl ?_
      exact zf_zret hC rfl false rfl dX12_isRule_17
    · refine zf_iconst hC (v := 1) dX12_isRule_12 rfl ?_
      refine zf_goto hC (tgt := 17) dX12_isRule_13 (by decide) ?_
      exact zf_zret hC rfl true rfl dX12_isRule_17
/-! LifeKeysModel.death -/
theorem dX12_death_0 : decode cX12_death 0 = .ok (.aload_n 0, 1) := by decide +kernel
theorem dX12_death_1 : decode cX12_death 1 = .ok (.iconst 0, 1) := by decide +kernel
theorem dX12_death_2 : decode cX12_death 2 = .ok (.putfield 181, 3) := by decide +kernel
theorem dX12_death_5 : decode cX12_death 5 = .ok (.aload_n 0, 1) := by decide +kernel
theorem dX12_death_6 : decode cX12_death 6 = .ok (.getfield 388, 3) := by decide +kernel
theorem dX12_death_9 : decode cX12_death 9 = .ok (.bipush 40, 2) := by decide +kernel
theorem dX12_death_11 : decode cX12_death 11 = .ok (.if_icmp .eq 19, 3) := by decide +kernel
theorem dX12_death_14 : decode cX12_death 14 = .ok (.aload_n 0, 1) := by decide +kernel
theorem dX12_death_15 : decode cX12_death 15 = .ok (.iload_n 1, 1) := by decide +kernel
theorem dX12_death_16 : decode cX12_death 16 = .ok (.invokevirtual 226, 3) := by decide +kernel
theorem dX12_death_19 : decode cX12_death 19 = .ok (.ifCond .eq 11, 3) := by decide +kernel
theorem dX12_death_22 : decode cX12_death 22 = .ok (.aload_n 0, 1) := by decide +kernel
theorem dX12_death_23 : decode cX12_death 23 = .ok (.iload_n 2, 1) := by decide +kernel
theorem dX12_death_24 : decode cX12_death 24 = .ok (.invokevirtual 403, 3) := by decide +kernel
theorem dX12_death_27 : decode cX12_death 27 = .ok (.ifCond .ne 5, 3) := by decide +kernel
theorem dX12_death_30 : decode cX12_death 30 = .ok (.iconst 0, 1) := by decide +kernel
theorem dX12_death_31 : decode cX12_death 31 = .ok (.ireturn, 1) := by decide +kernel
theorem dX12_death_32 : decode cX12_death 32 = .ok (.aload_n 0, 1) := by decide +kernel
theorem dX12_death_33 : decode cX12_death 33 = .ok (.getfield 91, 3) := by decide +kernel
theorem dX12_death_36 : decode cX12_death 36 = .ok (.aload_n 0, 1) := by decide +kernel
theorem dX12_death_37 : decode cX12_death 37 = .ok (.getfield 388, 3) := by decide +kernel
theorem dX12_death_40 : decode cX12_death 40 = .ok (.iload_n 1, 1) := by decide +kernel
theorem dX12_death_41 : decode cX12_death 41 = .ok (.iastore, 1) := by decide +kernel
theorem dX12_death_42 : decode cX12_death 42 = .ok (.aload_n 0, 1) := by decide +kernel
theorem dX12_death_43 : decode cX12_death 43 = .ok (.getfield 94, 3) := by decide +kernel
theorem dX12_death_46 : decode cX12_death 46 = .ok (.aload_n 0, 1) := by decide +kernel
theorem dX12_death_47 : decode cX12_death 47 = .ok (.getfield 388, 3) := by decide +kernel
theorem dX12_death_50 : decode cX12_death 50 = .ok (.iload_n 2, 1) := by decide +kernel
theorem dX12_death_51 : decode cX12_death 51 = .ok (.iastore, 1) := by decide +kernel
theorem dX12_death_52 : decode cX12_death 52 = .ok (.aload_n 0, 1) := by decide +kernel
theorem dX12_death_53 : decode cX12_death 53 = .ok (.getfield 97, 3) := by decide +kernel
theorem dX12_death_56 : decode cX12_death 56 = .ok (.aload_n 0, 1) := by decide +kernel
theorem dX12_death_57 : decode cX12_death 57 = .ok (.getfield 388, 3) := by decide +kernel
theorem dX12_death_60 : decode cX12_death 60 = .ok (.aload_n 0, 1) := by decide +kernel
theorem dX12_death_61 : decode cX12_death 61 = .ok (.getfield 185, 3) := by decide +kernel
theorem dX12_death_64 : decode cX12_death 64 = .ok (.iastore, 1) := by decide +kernel
theorem dX12_death_65 : decode cX12_death 65 = .ok (.aload_n 0, 1) := by decide +kernel
theorem dX12_death_66 : decode cX12_death 66 = .ok (.dup, 1) := by decide +kernel
theorem dX12_death_67 : decode cX12_death 67 = .ok (.getfield 388, 3) := by decide +kernel
theorem dX12_death_70 : decode cX12_death 70 = .ok (.iconst 1, 1) := by decide +kernel
theorem dX12_death_71 : decode cX12_death 71 = .ok (.iadd, 1) := by decide +kernel
theorem dX12_death_72 : decode cX12_death 72 = .ok (.putfield 388, 3) := by decide +kernel
theorem dX12_death_75 : decode cX12_death 75 = .ok (.iconst 1, 1) := by decide +kernel
theorem dX12_death_76 : decode cX12_death 76 = .ok (.ireturn, 1) := by decide +kernel
def fX12_death (k : ST) (a0 : Int32) (a1 : Int32) : Option (Bool × ST) := nm (sI k 11 0 0) fun k1 => if (gI k1 11 49) = 40 then some (false, k1) else ob (fX12_isHolder k1 a0) fun r3 k4 => if r3 = true then ob (fX12_isRule k4 a1) fun r7 k8 => if r7 = true then ck (inb (gI k8 11 49) 40) (nm (sA k8 125 (ix (gI k8 11 49)) a0) fun k12 => ck (inb (gI k12 11 49) 40) (nm (sA k12 126 (ix (gI k12 11 49)) a1) fun k14 => ck (inb (gI k14 11 49) 40) (nm (sA k14 127 (ix (gI k14 11 49)) (gI k14 11 1)) fun k16 => nm (sI k16 11 49 ((gI k16 11 49) + 1)) fun k17 => some (true, k17)))) else some (false, k8) else some (false, k4)
set_option maxRecDepth 20000 in
theorem c_X12_death (l : Launch) (g : GT) (a0 : Int32) (a1 : Int32) : CN l yX12_death cX12_death 3 (some .boolean) { frames := 1, cells := 0, slots := 0, locals := 21 } g TM voB [.ref (g.2.1 11), .int a0, .int a1] (fun k => fX12_death k a0 a1) := by
  refine cn_of (by decide) (Nat.le_of_ble_eq_true rfl) ?_
  intro p e s m args below meth c hC k
  have hC : HC p s m args meth c cX12_death 3 RX12 (some .boolean) g := hC
  have hR : 1 ≤ ({ frames := 1, cells := 0, slots := 0, locals := 21 } : Room).frames ∧ 21 ≤ ({ frames := 1, cells := 0, slots := 0, locals := 21 } : Room).locals := ⟨Nat.le_refl _, Nat.le_refl _⟩
  show ZF p l e _ s m args below meth c g TM voB 3 k 0 [(0, .ref (g.2.1 11)), (1, .int a0), (2, .int a1)] [] (fX12_death k a0 a1)
  unfold fX12_death
  refine zf_aload_n hC dX12_death_0 rfl 0 rfl ?_
  refine zf_iconst hC (v := 0) dX12_death_1 rfl ?_
  refine pf_1230 hC dX12_death_2 ?_
  refine zf_nmk (fun k1 => ?_)
  refine zf_aload_n hC dX12_death_5 rfl 0 rfl ?_
  refine gf_1279 hC dX12_death_6 ?_
  refine zf_bipush hC (v := 40) dX12_death_9 rfl ?_
  refine zf_icmp_eq hC (tgt := 30) dX12_death_11 (by decide) (fun h2 => ?_) (fun h2 => ?_)
  · refine zf_iconst hC (v := 0) dX12_death_30 rfl ?_
    exact zf_zret hC rfl false rfl dX12_death_31
  · refine zf_aload_n hC dX12_death_14 rfl 0 rfl ?_
    refine zf_iload_n hC dX12_death_15 rfl 1 rfl ?_
    refine zf_callV hC (c_X12_isHolder l g a0) mt_X12_isHolder wd_1552 sp_49 ci_11 ic_11 wd_1550 rfl (rm_le hR rfl) rfl rfl (rest := []) rfl (Nat.le_of_ble_eq_true rfl) dX12_death_16 (fun r3 k4 h5 => ?_)
    refine zf_ifb_eq hC (tgt := 30) dX12_death_19 (by decide) (fun h6 => ?_) (fun h6 => ?_)
    · refine zf_aload_n hC dX12_death_22 rfl 0 rfl ?_
      refine zf_iload_n hC dX12_death_23 rfl 2 rfl ?_
      refine zf_callV hC (c_X12_isRule l g a1) mt_X12_isRule wd_1731 sp_74 ci_11 ic_11 wd_1729 rfl (rm_le hR rfl) rfl rfl (rest := []) rfl (Nat.le_of_ble_eq_true rfl) dX12_death_24 (fun r7 k8 h9 => ?_)
      refine zf_ifb_ne hC (tgt := 32) dX12_death_27 (by decide) (fun h10 => ?_) (fun h10 => ?_)
      · refine zf_aload_n hC dX12_death_32 rfl 0 rfl ?_
        refine gf_1265 hC dX12_death_33 ?_
        refine zf_aload_n hC dX12_death_36 rfl 0 rfl ?_
        refine gf_1279 hC dX12_death_37 ?_
        refine zf_iload_n hC dX12_death_40 rfl 1 rfl ?_
        refine zf_iast hC (j := 125) ia_125 rfl rfl dX12_death_41 (fun h11 => ?_)
        refine zf_nmk (fun k12 => ?_)
        refine zf_aload_n hC dX12_death_42 rfl 0 rfl ?_
        refine gf_1266 hC dX12_death_43 ?_
        refine zf_aload_n hC dX12_death_46 rfl 0 rfl ?_
        refine gf_1279 hC dX12_death_47 ?_
        refine zf_iload_n hC dX12_death_50 rfl 2 rfl ?_
        refine zf_iast hC (j := 126) ia_126 rfl rfl dX12_death_51 (fun h13 => ?_)
        refine zf_nmk (fun k14 => ?_)
        refine zf_aload_n hC dX12_death_52 rfl 0 rfl ?_
        refine gf_1267 hC dX12_death_53 ?_
        refine zf_aload_n hC dX12_death_56 rfl 0 rfl ?_
        refine gf_1279 hC dX12_death_57 ?_
        refine zf_aload_n hC dX12_death_60 rfl 0 rfl ?_
        refine gf_1231 hC dX12_death_61 ?_
        refine zf_iast hC (j := 127) ia_127 rfl rfl dX12_death_64 (fun h15 => ?_)
        refine zf_nmk (fun k16 => ?_)
        refine zf_aload_n hC dX12_death_65 rfl 0 rfl ?_
        refine zf_dup hC dX12_death_66 rfl ?_
        refine gf_1279 hC dX12_death_67 ?_
        refine zf_iconst hC (v := 1) dX12_death_70 rfl ?_
        refine zf_iadd hC dX12_death_71 ?_
        refine pf_1279 hC dX12_death_72 ?_
        refine zf_nmk (fun k17 => ?_)
        refine zf_iconst hC (v := 1) dX12_death_75 rfl ?_
        exact zf_zret hC rfl true rfl dX12_death_76
      · refine zf_iconst hC (v := 0) dX12_death_30 rfl ?_
        exact zf_zret hC rfl false rfl dX12_death_31
    · refine zf_iconst hC (v := 0) dX12_death_30 rfl ?_
      exact zf_zret hC rfl false rfl dX12_death_31
/-! LifeKeysModel.seal -/
theorem dX12_seal_0 : decode cX12_seal 0 = .ok (.aload_n 0, 1) := by decide +kernel
theorem dX12_seal_1 : decode cX12_seal 1 = .ok (.iconst 0, 1) := by decide +kernel
theorem dX12_seal_2 : decode cX12_seal 2 = .ok (.putfield 181, 3) := by decide +kernel
theorem dX12_seal_5 : decode cX12_seal 5 = .ok (.aload_n 0, 1) := by decide +kernel
theorem dX12_seal_6 : decode cX12_seal 6 = .ok (.getfield 406, 3) := by decide +kernel
theorem dX12_seal_9 : decode cX12_seal 9 = .ok (.bipush 40, 2) := by decide +kernel
theorem dX12_seal_11 : decode cX12_seal 11 = .ok (.if_icmp .eq 37, 3) := by decide +kernel
theorem dX12_seal_14 : decode cX12_seal 14 = .ok (.iload_n 1, 1) := by decide +kernel
theorem dX12_seal_15 : decode cX12_seal 15 = .ok (.iconst 0, 1) := by decide +kernel
theorem dX12_seal_16 : decode cX12_seal 16 = .ok (.sipush 1018, 3) := by decide +kernel
theorem dX12_seal_19 : decode cX12_seal 19 = .ok (.invokestatic 188, 3) := by decide +kernel
theorem dX12_seal_22 : decode cX12_seal 22 = .ok (.ifCond .eq 26, 3) := by decide +kernel
theorem dX12_seal_25 : decode cX12_seal 25 = .ok (.iload_n 3, 1) := by decide +kernel
theorem dX12_seal_26 : decode cX12_seal 26 = .ok (.ifCond .eq 14, 3) := by decide +kernel
theorem dX12_seal_29 : decode cX12_seal 29 = .ok (.aload_n 0, 1) := by decide +kernel
theorem dX12_seal_30 : decode cX12_seal 30 = .ok (.iload_n 2, 1) := by decide +kernel
theorem dX12_seal_31 : decode cX12_seal 31 = .ok (.invokevirtual 403, 3) := by decide +kernel
theorem dX12_seal_34 : decode cX12_seal 34 = .ok (.ifCond .ne 16, 3) := by decide +kernel
theorem dX12_seal_37 : decode cX12_seal 37 = .ok (.goto 11, 3) := by decide +kernel
theorem dX12_seal_40 : decode cX12_seal 40 = .ok (.aload_n 0, 1) := by decide +kernel
theorem dX12_seal_41 : decode cX12_seal 41 = .ok (.iload_n 2, 1) := by decide +kernel
theorem dX12_seal_42 : decode cX12_seal 42 = .ok (.invokevirtual 216, 3) := by decide +kernel
theorem dX12_seal_45 : decode cX12_seal 45 = .ok (.ifCond .ne 5, 3) := by decide +kernel
theorem dX12_seal_48 : decode cX12_seal 48 = .ok (.iconst (-1), 1) := by decide +kernel
theorem dX12_seal_49 : decode cX12_seal 49 = .ok (.ireturn, 1) := by decide +kernel
theorem dX12_seal_50 : decode cX12_seal 50 = .ok (.aload_n 0, 1) := by decide +kernel
theorem dX12_seal_51 : decode cX12_seal 51 = .ok (.getfield 100, 3) := by decide +kernel
theorem dX12_seal_54 : decode cX12_seal 54 = .ok (.aload_n 0, 1) := by decide +kernel
theorem dX12_seal_55 : decode cX12_seal 55 = .ok (.getfield 406, 3) := by decide +kernel
theorem dX12_seal_58 : decode cX12_seal 58 = .ok (.iload_n 1, 1) := by decide +kernel
theorem dX12_seal_59 : decode cX12_seal 59 = .ok (.iastore, 1) := by decide +kernel
theorem dX12_seal_60 : decode cX12_seal 60 = .ok (.aload_n 0, 1) := by decide +kernel
theorem dX12_seal_61 : decode cX12_seal 61 = .ok (.getfield 103, 3) := by decide +kernel
theorem dX12_seal_64 : decode cX12_seal 64 = .ok (.aload_n 0, 1) := by decide +kernel
theorem dX12_seal_65 : decode cX12_seal 65 = .ok (.getfield 406, 3) := by decide +kernel
theorem dX12_seal_68 : decode cX12_seal 68 = .ok (.iload_n 2, 1) := by decide +kernel
theorem dX12_seal_69 : decode cX12_seal 69 = .ok (.iastore, 1) := by decide +kernel
theorem dX12_seal_70 : decode cX12_seal 70 = .ok (.aload_n 0, 1) := by decide +kernel
theorem dX12_seal_71 : decode cX12_seal 71 = .ok (.getfield 118, 3) := by decide +kernel
theorem dX12_seal_74 : decode cX12_seal 74 = .ok (.aload_n 0, 1) := by decide +kernel
theorem dX12_seal_75 : decode cX12_seal 75 = .ok (.getfield 406, 3) := by decide +kernel
theorem dX12_seal_78 : decode cX12_seal 78 = .ok (.iload_n 3, 1) := by decide +kernel
theorem dX12_seal_79 : decode cX12_seal 79 = .ok (.bastore, 1) := by decide +kernel
theorem dX12_seal_80 : decode cX12_seal 80 = .ok (.aload_n 0, 1) := by decide +kernel
theorem dX12_seal_81 : decode cX12_seal 81 = .ok (.getfield 106, 3) := by decide +kernel
theorem dX12_seal_84 : decode cX12_seal 84 = .ok (.aload_n 0, 1) := by decide +kernel
theorem dX12_seal_85 : decode cX12_seal 85 = .ok (.getfield 406, 3) := by decide +kernel
theorem dX12_seal_88 : decode cX12_seal 88 = .ok (.iconst (-1), 1) := by decide +kernel
theorem dX12_seal_89 : decode cX12_seal 89 = .ok (.iastore, 1) := by decide +kernel
theorem dX12_seal_90 : decode cX12_seal 90 = .ok (.aload_n 0, 1) := by decide +kernel
theorem dX12_seal_91 : decode cX12_seal 91 = .ok (.dup, 1) := by decide +kernel
theorem dX12_seal_92 : decode cX12_seal 92 = .ok (.getfield 406, 3) := by decide +kernel
theorem dX12_seal_95 : decode cX12_seal 95 = .ok (.iconst 1, 1) := by decide +kernel
theorem dX12_seal_96 : decode cX12_seal 96 = .ok (.iadd, 1) := by decide +kernel
theorem dX12_seal_97 : decode cX12_seal 97 = .ok (.putfield 406, 3) := by decide +kernel
theorem dX12_seal_100 : decode cX12_seal 100 = .ok (.aload_n 0, 1) := by decide +kernel
theorem dX12_seal_101 : decode cX12_seal 101 = .ok (.getfield 406, 3) := by decide +kernel
theorem dX12_seal_104 : decode cX12_seal 104 = .ok (.iconst 1, 1) := by decide +kernel
theorem dX12_seal_105 : decode cX12_seal 105 = .ok (.isub, 1) := by decide +kernel
theorem dX12_seal_106 : decode cX12_seal 106 = .ok (.ireturn, 1) := by decide +kernel
def jbX12_seal_50 (v1 : Int32) (v2 : Int32) (v3 : Bool)  (k : ST) : Option (Int32 × ST) := ck (inb (gI k 11 50) 40) (nm (sA k 128 (ix (gI k 11 50)) v1) fun k13 => ck (inb (gI k13 11 50) 40) (nm (sA k13 129 (ix (gI k13 11 50)) v2) fun k15 => ck (inb (gI k15 11 50) 40) (nm (sA k15 134 (ix (gI k15 11 50)) (b2i v3)) fun k17 => ck (inb (gI k17 11 50) 40) (nm (sA k17 130 (ix (gI k17 11 50)) (-1)) fun k19 => nm (sI k19 11 50 ((gI k19 11 50) + 1)) fun k20 => some ((gI k20 11 50) - 1, k20)))))
set_option maxRecDepth 20000 in
theorem zjbX12_seal_50 {p : Program} {l : Launch} {e : Env} {R : Room} {s : State} {m : MethodId} {args : Array Value} {below : List Frame} {meth : Method} {c : Code} {g : GT} (hC : HC p s m args meth c cX12_seal 4 RX12 (some .int) g) (hR : 1 ≤ R.frames ∧ 22 ≤ R.locals)  (v1 : Int32) (v2 : Int32) (v3 : Bool)  (k : ST) : ZF p l e R s m args below meth c g TM voI 4 k 50 [(0, .ref (g.2.1 11)), (1, .int v1), (2, .int v2), (3, .int (b2i v3))] [] (jbX12_seal_50  v1 v2 v3 k) := by
  unfold jbX12_seal_50
  refine zf_aload_n hC dX12_seal_50 rfl 0 rfl ?_
  refine gf_1268 hC dX12_seal_51 ?_
  refine zf_aload_n hC dX12_seal_54 rfl 0 rfl ?_
  refine gf_1280 hC dX12_seal_55 ?_
  refine zf_iload_n hC dX12_seal_58 rfl 1 rfl ?_
  refine zf_iast hC (j := 128) ia_128 rfl rfl dX12_seal_59 (fun h12 => ?_)
  refine zf_nmk (fun k13 => ?_)
  refine zf_aload_n hC dX12_seal_60 rfl 0 rfl ?_
  refine gf_1269 hC dX12_seal_61 ?_
  refine zf_aload_n hC dX12_seal_64 rfl 0 rfl ?_
  refine gf_1280 hC dX12_seal_65 ?_
  refine zf_iload_n hC dX12_seal_68 rfl 2 rfl ?_
  refine zf_iast hC (j := 129) ia_129 rfl rfl dX12_seal_69 (fun h14 => ?_)
  refine zf_nmk (fun k15 => ?_)
  refine zf_aload_n hC dX12_seal_70 rfl 0 rfl ?_
  refine gf_1274 hC dX12_seal_71 ?_
  refine zf_aload_n hC dX12_seal_74 rfl 0 rfl ?_
  refine gf_1280 hC dX12_seal_75 ?_
  refine zf_iload_n hC dX12_seal_78 rfl 3 rfl ?_
  refine zf_zast hC (j := 134) ia_134 rfl rfl (nar_b _) dX12_seal_79 (fun h16 => ?_)
  refine zf_nmk (fun k17 => ?_)
  refine zf_aload_n hC dX12_seal_80 rfl 0 rfl ?_
  refine gf_1270 hC dX12_seal_81 ?_
  refine zf_aload_n hC dX12_seal_84 rfl 0 rfl ?_
  refine gf_1280 hC dX12_seal_85 ?_
  refine zf_iconst hC (v := (-1)) dX12_seal_88 rfl ?_
  refine zf_iast hC (j := 130) ia_130 rfl rfl dX12_seal_89 (fun h18 => ?_)
  refine zf_nmk (fun k19 => ?_)
  refine zf_aload_n hC dX12_seal_90 rfl 0 rfl ?_
  refine zf_dup hC dX12_seal_91 rfl ?_
  refine gf_1280 hC dX12_seal_92 ?_
  refine zf_iconst hC (v := 1) dX12_seal_95 rfl ?_
  refine zf_iadd hC dX12_seal_96 ?_
  refine pf_1280 hC dX12_seal_97 ?_
  refine zf_nmk (fun k20 => ?_)
  refine zf_aload_n hC dX12_seal_100 rfl 0 rfl ?_
  refine gf_1280 hC dX12_seal_101 ?_
  refine zf_iconst hC (v := 1) dX12_seal_104 rfl ?_
  refine zf_isub hC dX12_seal_105 ?_
  exact zf_iret hC rfl dX12_seal_106
def fX12_seal (k : ST) (a0 : Int32) (a1 : Int32) (a2 : Bool) : Option (Int32 × ST) := nm (sI k 11 0 0) fun k1 => if (gI k1 11 50) = 40 then some ((-1), k1) else ob (fX12_isIn k1 a0 0 1018) fun r3 k4 => if r3 = true then if a2 = true then ob (fX12_isRule k4 a1) fun r8 k9 => if r8 = true then jbX12_seal_50 a0 a1 a2 k9 else some ((-1), k9) else ob (fX12_isKey k4 a1) fun r21 k22 => if r21 = true then jbX12_seal_50 a0 a1 a2 k22 else some ((-1), k22) else some ((-1), k4)
set_option maxRecDepth 20000 in
theorem c_X12_seal (l : Launch) (g : GT) (a0 : Int32) (a1 : Int32) (a2 : Bool) : CN l yX12_seal cX12_seal 4 (some .int) { frames := 1, cells := 0, slots := 0, locals := 22 } g TM voI [.ref (g.2.1 11), .int a0, .int a1, .int (b2i a2)] (fun k => fX12_seal k a0 a1 a2) := by
  refine cn_of (by decide) (Nat.le_of_ble_eq_true rfl) ?_
  intro p e s m args below meth c hC k
  have hC : HC p s m args meth c cX12_seal 4 RX12 (some .int) g := hC
  have hR : 1 ≤ ({ frames := 1, cells := 0, slots := 0, locals := 22 } : Room).frames ∧ 22 ≤ ({ frames := 1, cells := 0, slots := 0, locals := 22 } : Room).locals := ⟨Nat.le_refl _, Nat.le_refl _⟩
  show ZF p l e _ s m args below meth c g TM voI 4 k 0 [(0, .ref (g.2.1 11)), (1, .int a0), (2, .int a1), (3, .int (b2i a2))] [] (fX12_seal k a0 a1 a2)
  unfold fX12_seal
  refine zf_aload_n hC dX12_seal_0 rfl 0 rfl ?_
  refine zf_iconst hC (v := 0) dX12_seal_1 rfl ?_
  refine pf_1230 hC dX12_seal_2 ?_
  refine zf_nmk (fun k1 => ?_)
  refine zf_aload_n hC dX12_seal_5 rfl 0 rfl ?_
  refine gf_1280 hC dX12_seal_6 ?_
  refine zf_bipush hC (v := 40) dX12_seal_9 rfl ?_
  refine zf_icmp_eq hC (tgt := 48) dX12_seal_11 (by decide) (fun h2 => ?_) (fun h2 => ?_)
  · refine zf_iconst hC (v := (-1)) dX12_seal_48 rfl ?_
    exact zf_iret hC rfl dX12_seal_49
  · refine zf_iload_n hC dX12_seal_14 rfl 1 rfl ?_
    refine zf_iconst hC (v := 0) dX12_seal_15 rfl ?_
    refine zf_sipush hC (v := 1018) dX12_seal_16 rfl ?_
    refine zf_callS hC (c_X12_isIn l g TM a0 0 1018) mt_X12_isIn wd_1495 wd_1494 rfl (rm_le hR rfl) rfl rfl (rest := []) rfl (Nat.le_of_ble_eq_true rfl) dX12_seal_19 (fun r3 k4 h5 => ?_)
    refine zf_ifb_eq hC (tgt := 48) dX12_seal_22 (by decide) (fun h6 => ?_) (fun h6 => ?_)
    · refine zf_iload_n hC dX12_seal_25 rfl 3 rfl ?_
      refine zf_ifb_eq hC (tgt := 40) dX12_seal_26 (by decide) (fun h7 => ?_) (fun h7 => ?_)
      · refine zf_aload_n hC dX12_seal_29 rfl 0 rfl ?_
        refine zf_iload_n hC dX12_seal_30 rfl 2 rfl ?_
        refine zf_callV hC (c_X12_isRule l g a1) mt_X12_isRule wd_1731 sp_74 ci_11 ic_11 wd_1729 rfl (rm_le hR rfl) rfl rfl (rest := []) rfl (Nat.le_of_ble_eq_true rfl) dX12_seal_31 (fun r8 k9 h10 => ?_)
        refine zf_ifb_ne hC (tgt := 50) dX12_seal_34 (by decide) (fun h11 => ?_) (fun h11 => ?_)
        · exact zjbX12_seal_50 hC hR a0 a1 a2 k9
        · refine zf_goto hC (tgt := 48) dX12_seal_37 (by decide) ?_
          refine zf_iconst hC (v := (-1)) dX12_seal_48 rfl ?_
          exact zf_iret hC rfl dX12_seal_49
      · refine zf_aload_n hC dX12_seal_40 rfl 0 rfl ?_
        refine zf_iload_n hC dX12_seal_41 rfl 2 rfl ?_
        refine zf_callV hC (c_X12_isKey l g a1) mt_X12_isKey wd_1530 sp_47 ci_11 ic_11 wd_1528 rfl (rm_le hR rfl) rfl rfl (rest := []) rfl (Nat.le_of_ble_eq_true rfl) dX12_seal_42 (fun r21 k22 h23 => ?_)
        refine zf_ifb_ne hC (tgt := 50) dX12_seal_45 (by decide) (fun h24 => ?_) (fun h24 => ?_)
        · exact zjbX12_seal_50 hC hR a0 a1 a2 k22
        · refine zf_iconst hC (v := (-1)) dX12_seal_48 rfl ?_
          exact zf_iret hC rfl dX12_seal_49
    · refine zf_iconst hC (v := (-1)) dX12_seal_48 rfl ?_
      exact zf_iret hC rfl dX12_seal_49
/-! LifeKeysModel.isThing -/
theorem dX12_isThing_0 : decode cX12_isThing 0 = .ok (.iload_n 1, 1) := by decide +kernel
theorem dX12_isThing_1 : decode cX12_isThing 1 = .ok (.ifCond .lt 15, 3) := by decide +kernel
theorem dX12_isThing_4 : decode cX12_isThing 4 = .ok (.iload_n 1, 1) := by decide +kernel
theorem dX12_isThing_5 : decode cX12_isThing 5 = .ok (.aload_n 0, 1) := by decide +kernel
theorem dX12_isThing_6 : decode cX12_isThing 6 = .ok (.getfield 406, 3) := by decide +kernel
theorem dX12_isThing_9 : decode cX12_isThing 9 = .ok (.if_icmp .ge 7, 3) := by decide +kernel
theorem dX12_isThing_12 : decode cX12_isThing 12 = .ok (.iconst 1, 1) := by decide +kernel
theorem dX12_isThing_13 : decode cX12_isThing 13 = .ok (.goto 4, 3) := by decide +kernel
theorem dX12_isThing_16 : decode cX12_isThing 16 = .ok (.iconst 0, 1) := by decide +kernel
theorem dX12_isThing_17 : decode cX12_isThing 17 = .ok (.ireturn, 1) := by decide +kernel
def fX12_isThing (k : ST) (a0 : Int32) : Option (Bool × ST) := if a0 < 0 then some (false, k) else if (gI k 11 50) ≤ a0 then some (false, k) else some (true, k)
set_option maxRecDepth 20000 in
theorem c_X12_isThing (l : Launch) (g : GT) (a0 : Int32) : CN l yX12_isThing cX12_isThing 2 (some .boolean) { frames := 0, cells := 0, slots := 0, locals := 0 } g TM voB [.ref (g.2.1 11), .int a0] (fun k => fX12_isThing k a0) := by
  refine cn_of (by decide) (Nat.le_of_ble_eq_true rfl) ?_
  intro p e s m args below meth c hC k
  have hC : HC p s m args meth c cX12_isThing 2 RX12 (some .boolean) g := hC
  have hR : 0 ≤ ({ frames := 0, cells := 0, slots := 0, locals := 0 } : Room).frames ∧ 0 ≤ ({ frames := 0, cells := 0, slots := 0, locals := 0 } : Room).locals := ⟨Nat.le_refl _, Nat.le_refl _⟩
  show ZF p l e _ s m args below meth c g TM voB 2 k 0 [(0, .ref (g.2.1 11)), (1, .int a0)] [] (fX12_isThing k a0)
  unfold fX12_isThing
  refine zf_iload_n hC dX12_isThing_0 rfl 1 rfl ?_
  refine zf_if_lt hC (tgt := 16) dX12_isThing_1 (by decide) (fun h1 => ?_) (fun h1 => ?_)
  · refine zf_iconst hC (v := 0) dX12_isThing_16 rfl ?_
    exact zf_zret hC rfl false rfl dX12_isThing_17
  · refine zf_iload_n hC dX12_isThing_4 rfl 1 rfl ?_
    refine zf_aload_n hC dX12_isThing_5 rfl 0 rfl ?_
    refine gf_1280 hC dX12_isThing_6 ?_
    refine zf_icmp_ge hC (tgt := 16) dX12_isThing_9 (by decide) (fun h2 => ?_) (fun h2 => ?_)
    · refine zf_iconst hC (v := 0) dX12_isThing_16 rfl ?_
      exact zf_zret hC rfl false rfl dX12_isThing_17
    · refine zf_iconst hC (v := 1) dX12_isThing_12 rfl ?_
      refine zf_goto hC (tgt := 17) dX12_isThing_13 (by decide) ?_
      exact zf_zret hC rfl true rfl dX12_isThing_17
/-! LifeKeysModel.says -/
theorem dX12_says_0 : decode cX12_says 0 = .ok (.aload_n 0, 1) := by decide +kernel
theorem dX12_says_1 : decode cX12_says 1 = .ok (.getfield 375, 3) := by decide +kernel
theorem dX12_says_4 : decode cX12_says 4 = .ok (.sipush 200, 3) := by decide +kernel
theorem dX12_says_7 : decode cX12_says 7 = .ok (.if_icmp .ne 5, 3) := by decide +kernel
theorem dX12_says_10 : decode cX12_says 10 = .ok (.iconst 0, 1) := by decide +kernel
theorem dX12_says_11 : decode cX12_says 11 = .ok (.ireturn, 1) := by decide +kernel
theorem dX12_says_12 : decode cX12_says 12 = .ok (.aload_n 0, 1) := by decide +kernel
theorem dX12_says_13 : decode cX12_says 13 = .ok (.getfield 109, 3) := by decide +kernel
theorem dX12_says_16 : decode cX12_says 16 = .ok (.aload_n 0, 1) := by decide +kernel
theorem dX12_says_17 : decode cX12_says 17 = .ok (.getfield 375, 3) := by decide +kernel
theorem dX12_says_20 : decode cX12_says 20 = .ok (.iload_n 1, 1) := by decide +kernel
theorem dX12_says_21 : decode cX12_says 21 = .ok (.iastore, 1) := by decide +kernel
theorem dX12_says_22 : decode cX12_says 22 = .ok (.aload_n 0, 1) := by decide +kernel
theorem dX12_says_23 : decode cX12_says 23 = .ok (.getfield 112, 3) := by decide +kernel
theorem dX12_says_26 : decode cX12_says 26 = .ok (.aload_n 0, 1) := by decide +kernel
theorem dX12_says_27 : decode cX12_says 27 = .ok (.getfield 375, 3) := by decide +kernel
theorem dX12_says_30 : decode cX12_says 30 = .ok (.iload_n 2, 1) := by decide +kernel
theorem dX12_says_31 : decode cX12_says 31 = .ok (.iastore, 1) := by decide +kernel
theorem dX12_says_32 : decode cX12_says 32 = .ok (.aload_n 0, 1) := by decide +kernel
theorem dX12_says_33 : decode cX12_says 33 = .ok (.getfield 115, 3) := by decide +kernel
theorem dX12_says_36 : decode cX12_says 36 = .ok (.aload_n 0, 1) := by decide +kernel
theorem dX12_says_37 : decode cX12_says 37 = .ok (.getfield 375, 3) := by decide +kernel
theorem dX12_says_40 : decode cX12_says 40 = .ok (.aload_n 0, 1) := by decide +kernel
theorem dX12_says_41 : decode cX12_says 41 = .ok (.getfield 185, 3) := by decide +kernel
theorem dX12_says_44 : decode cX12_says 44 = .ok (.iastore, 1) := by decide +kernel
theorem dX12_says_45 : decode cX12_says 45 = .ok (.aload_n 0, 1) := by decide +kernel
theorem dX12_says_46 : decode cX12_says 46 = .ok (.getfield 124, 3) := by decide +kernel
theorem dX12_says_49 : decode cX12_says 49 = .ok (.aload_n 0, 1) := by decide +kernel
theorem dX12_says_50 : decode cX12_says 50 = .ok (.getfield 375, 3) := by decide +kernel
theorem dX12_says_53 : decode cX12_says 53 = .ok (.iload_n 3, 1) := by decide +kernel
theorem dX12_says_54 : decode cX12_says 54 = .ok (.bastore, 1) := by decide +kernel
theorem dX12_says_55 : decode cX12_says 55 = .ok (.aload_n 0, 1) := by decide +kernel
theorem dX12_says_56 : decode cX12_says 56 = .ok (.getfield 127, 3) := by decide +kernel
theorem dX12_says_59 : decode cX12_says 59 = .ok (.aload_n 0, 1) := by decide +kernel
theorem dX12_says_60 : decode cX12_says 60 = .ok (.getfield 375, 3) := by decide +kernel
theorem dX12_says_63 : decode cX12_says 63 = .ok (.iload 4, 2) := by decide +kernel
theorem dX12_says_65 : decode cX12_says 65 = .ok (.bastore, 1) := by decide +kernel
theorem dX12_says_66 : decode cX12_says 66 = .ok (.aload_n 0, 1) := by decide +kernel
theorem dX12_says_67 : decode cX12_says 67 = .ok (.dup, 1) := by decide +kernel
theorem dX12_says_68 : decode cX12_says 68 = .ok (.getfield 375, 3) := by decide +kernel
theorem dX12_says_71 : decode cX12_says 71 = .ok (.iconst 1, 1) := by decide +kernel
theorem dX12_says_72 : decode cX12_says 72 = .ok (.iadd, 1) := by decide +kernel
theorem dX12_says_73 : decode cX12_says 73 = .ok (.putfield 375, 3) := by decide +kernel
theorem dX12_says_76 : decode cX12_says 76 = .ok (.iconst 1, 1) := by decide +kernel
theorem dX12_says_77 : decode cX12_says 77 = .ok (.ireturn, 1) := by decide +kernel
def fX12_says (k : ST) (a0 : Int32) (a1 : Int32) (a2 : Bool) (a3 : Bool) : Option (Bool × ST) := if (gI k 11 51) = 200 then some (false, k) else ck (inb (gI k 11 51) 200) (nm (sA k 131 (ix (gI k 11 51)) a0) fun k3 => ck (inb (gI k3 11 51) 200) (nm (sA k3 132 (ix (gI k3 11 51)) a1) fun k5 => ck (inb (gI k5 11 51) 200) (nm (sA k5 133 (ix (gI k5 11 51)) (gI k5 11 1)) fun k7 => ck (inb (gI k7 11 51) 200) (nm (sA k7 136 (ix (gI k7 11 51)) (b2i a2)) fun k9 => ck (inb (gI k9 11 51) 200) (nm (sA k9 137 (ix (gI k9 11 51)) (b2i a3)) fun k11 => nm (sI k11 11 51 ((gI k11 11 51) + 1)) fun k12 => some (true, k12))))))
set_option maxRecDepth 20000 in
theorem c_X12_says (l : Launch) (g : GT) (a0 : Int32) (a1 : Int32) (a2 : Bool) (a3 : Bool) : CN l yX12_says cX12_says 5 (some .boolean) { frames := 0, cells := 0, slots := 0, locals := 0 } g TM voB [.ref (g.2.1 11), .int a0, .int a1, .int (b2i a2), .int (b2i a3)] (fun k => fX12_says k a0 a1 a2 a3) := by
  refine cn_of (by decide) (Nat.le_of_ble_eq_true rfl) ?_
  intro p e s m args below meth c hC k
  have hC : HC p s m args meth c cX12_says 5 RX12 (some .boolean) g := hC
  have hR : 0 ≤ ({ frames := 0, cells := 0, slots := 0, locals := 0 } : Room).frames ∧ 0 ≤ ({ frames := 0, cells := 0, slots := 0, locals := 0 } : Room).locals := ⟨Nat.le_refl _, Nat.le_refl _⟩
  show ZF p l e _ s m args below meth c g TM voB 5 k 0 [(0, .ref (g.2.1 11)), (1, .int a0), (2, .int a1), (3, .int (b2i a2)), (4, .int (b2i a3))] [] (fX12_says k a0 a1 a2 a3)
  unfold fX12_says
  refine zf_aload_n hC dX12_says_0 rfl 0 rfl ?_
  refine gf_1281 hC dX12_says_1 ?_
  refine zf_sipush hC (v := 200) dX12_says_4 rfl ?_
  refine zf_icmp_ne hC (tgt := 12) dX12_says_7 (by decide) (fun h1 => ?_) (fun h1 => ?_)
  · refine zf_iconst hC (v := 0) dX12_says_10 rfl ?_
    exact zf_zret hC rfl false rfl dX12_says_11
  · refine zf_aload_n hC dX12_says_12 rfl 0 rfl ?_
    refine gf_1271 hC dX12_says_13 ?_
    refine zf_aload_n hC dX12_says_16 rfl 0 rfl ?_
    refine gf_1281 hC dX12_says_17 ?_
    refine zf_iload_n hC dX12_says_20 rfl 1 rfl ?_
    refine zf_iast hC (j := 131) ia_131 rfl rfl dX12_says_21 (fun h2 => ?_)
    refine zf_nmk (fun k3 => ?_)
    refine zf_aload_n hC dX12_says_22 rfl 0 rfl ?_
    refine gf_1272 hC dX12_says_23 ?_
    refine zf_aload_n hC dX12_says_26 rfl 0 rfl ?_
    refine gf_1281 hC dX12_says_27 ?_
    refine zf_iload_n hC dX12_says_30 rfl 2 rfl ?_
    refine zf_iast hC (j := 132) ia_132 rfl rfl dX12_says_31 (fun h4 => ?_)
    refine zf_nmk (fun k5 => ?_)
    refine zf_aload_n hC dX12_says_32 rfl 0 rfl ?_
    refine gf_1273 hC dX12_says_33 ?_
    refine zf_aload_n hC dX12_says_36 rfl 0 rfl ?_
    refine gf_1281 hC dX12_says_37 ?_
    refine zf_aload_n hC dX12_says_40 rfl 0 rfl ?_
    refine gf_1231 hC dX12_says_41 ?_
    refine zf_iast hC (j := 133) ia_133 rfl rfl dX12_says_44 (fun h6 => ?_)
    refine zf_nmk (fun k7 => ?_)
    refine zf_aload_n hC dX12_says_45 rfl 0 rfl ?_
    refine gf_1276 hC dX12_says_46 ?_
    refine zf_aload_n hC dX12_says_49 rfl 0 rfl ?_
    refine gf_1281 hC dX12_says_50 ?_
    refine zf_iload_n hC dX12_says_53 rfl 3 rfl ?_
    refine zf_zast hC (j := 136) ia_136 rfl rfl (nar_b _) dX12_says_54 (fun h8 => ?_)
    refine zf_nmk (fun k9 => ?_)
    refine zf_aload_n hC dX12_says_55 rfl 0 rfl ?_
    refine gf_1277 hC dX12_says_56 ?_
    refine zf_aload_n hC dX12_says_59 rfl 0 rfl ?_
    refine gf_1281 hC dX12_says_60 ?_
    refine zf_iload hC dX12_says_63 4 rfl ?_
    refine zf_zast hC (j := 137) ia_137 rfl rfl (nar_b _) dX12_says_65 (fun h10 => ?_)
    refine zf_nmk (fun k11 => ?_)
    refine zf_aload_n hC dX12_says_66 rfl 0 rfl ?_
    refine zf_dup hC dX12_says_67 rfl ?_
    refine gf_1281 hC dX12_says_68 ?_
    refine zf_iconst hC (v := 1) dX12_says_71 rfl ?_
    refine zf_iadd hC dX12_says_72 ?_
    refine pf_1281 hC dX12_says_73 ?_
    refine zf_nmk (fun k12 => ?_)
    refine zf_iconst hC (v := 1) dX12_says_76 rfl ?_
    exact zf_zret hC rfl true rfl dX12_says_77
/-! LifeKeysModel.say -/
theorem dX12_say_0 : decode cX12_say 0 = .ok (.aload_n 0, 1) := by decide +kernel
theorem dX12_say_1 : decode cX12_say 1 = .ok (.iconst 0, 1) := by decide +kernel
theorem dX12_say_2 : decode cX12_say 2 = .ok (.putfield 181, 3) := by decide +kernel
theorem dX12_say_5 : decode cX12_say 5 = .ok (.aload_n 0, 1) := by decide +kernel
theorem dX12_say_6 : decode cX12_say 6 = .ok (.iload_n 1, 1) := by decide +kernel
theorem dX12_say_7 : decode cX12_say 7 = .ok (.invokevirtual 226, 3) := by decide +kernel
theorem dX12_say_10 : decode cX12_say 10 = .ok (.ifCond .eq 26, 3) := by decide +kernel
theorem dX12_say_13 : decode cX12_say 13 = .ok (.aload_n 0, 1) := by decide +kernel
theorem dX12_say_14 : decode cX12_say 14 = .ok (.iload_n 2, 1) := by decide +kernel
theorem dX12_say_15 : decode cX12_say 15 = .ok (.invokevirtual 409, 3) := by decide +kernel
theorem dX12_say_18 : decode cX12_say 18 = .ok (.ifCond .eq 18, 3) := by decide +kernel
theorem dX12_say_21 : decode cX12_say 21 = .ok (.aload_n 0, 1) := by decide +kernel
theorem dX12_say_22 : decode cX12_say 22 = .ok (.iload_n 1, 1) := by decide +kernel
theorem dX12_say_23 : decode cX12_say 23 = .ok (.iload_n 2, 1) := by decide +kernel
theorem dX12_say_24 : decode cX12_say 24 = .ok (.iload_n 3, 1) := by decide +kernel
theorem dX12_say_25 : decode cX12_say 25 = .ok (.iconst 0, 1) := by decide +kernel
theorem dX12_say_26 : decode cX12_say 26 = .ok (.invokevirtual 412, 3) := by decide +kernel
theorem dX12_say_29 : decode cX12_say 29 = .ok (.ifCond .eq 7, 3) := by decide +kernel
theorem dX12_say_32 : decode cX12_say 32 = .ok (.iconst 1, 1) := by decide +kernel
theorem dX12_say_33 : decode cX12_say 33 = .ok (.goto 4, 3) := by decide +kernel
theorem dX12_say_36 : decode cX12_say 36 = .ok (.iconst 0, 1) := by decide +kernel
theorem dX12_say_37 : decode cX12_say 37 = .ok (.ireturn, 1) := by decide +kernel
def fX12_say (k : ST) (a0 : Int32) (a1 : Int32) (a2 : Bool) : Option (Bool × ST) := nm (sI k 11 0 0) fun k1 => ob (fX12_isHolder k1 a0) fun r2 k3 => if r2 = true then ob (fX12_isThing k3 a1) fun r6 k7 => if r6 = true then ob (fX12_says k7 a0 a1 a2 false) fun r10 k11 => if r10 = true then some (true, k11) else some (false, k11) else some (false, k7) else some (false, k3)
set_option maxRecDepth 20000 in
theorem c_X12_say (l : Launch) (g : GT) (a0 : Int32) (a1 : Int32) (a2 : Bool) : CN l yX12_say cX12_say 4 (some .boolean) { frames := 1, cells := 0, slots := 0, locals := 24 } g TM voB [.ref (g.2.1 11), .int a0, .int a1, .int (b2i a2)] (fun k => fX12_say k a0 a1 a2) := by
  refine cn_of (by decide) (Nat.le_of_ble_eq_true rfl) ?_
  intro p e s m args below meth c hC k
  have hC : HC p s m args meth c cX12_say 4 RX12 (some .boolean) g := hC
  have hR : 1 ≤ ({ frames := 1, cells := 0, slots := 0, locals := 24 } : Room).frames ∧ 24 ≤ ({ frames := 1, cells := 0, slots := 0, locals := 24 } : Room).locals := ⟨Nat.le_refl _, Nat.le_refl _⟩
  show ZF p l e _ s m args below meth c g TM voB 4 k 0 [(0, .ref (g.2.1 11)), (1, .int a0), (2, .int a1), (3, .int (b2i a2))] [] (fX12_say k a0 a1 a2)
  unfold fX12_say
  refine zf_aload_n hC dX12_say_0 rfl 0 rfl ?_
  refine zf_iconst hC (v := 0) dX12_say_1 rfl ?_
  refine pf_1230 hC dX12_say_2 ?_
  refine zf_nmk (fun k1 => ?_)
  refine zf_aload_n hC dX12_say_5 rfl 0 rfl ?_
  refine zf_iload_n hC dX12_say_6 rfl 1 rfl ?_
  refine zf_callV hC (c_X12_isHolder l g a0) mt_X12_isHolder wd_1552 sp_49 ci_11 ic_11 wd_1550 rfl (rm_le hR rfl) rfl rfl (rest := []) rfl (Nat.le_of_ble_eq_true rfl) dX12_say_7 (fun r2 k3 h4 => ?_)
  refine zf_ifb_eq hC (tgt := 36) dX12_say_10 (by decide) (fun h5 => ?_) (fun h5 => ?_)
  · refine zf_aload_n hC dX12_say_13 rfl 0 rfl ?_
    refine zf_iload_n hC dX12_say_14 rfl 2 rfl ?_
    refine zf_callV hC (c_X12_isThing l g a1) mt_X12_isThing wd_1743 sp_75 ci_11 ic_11 wd_1741 rfl (rm_le hR rfl) rfl rfl (rest := []) rfl (Nat.le_of_ble_eq_true rfl) dX12_say_15 (fun r6 k7 h8 => ?_)
    refine zf_ifb_eq hC (tgt := 36) dX12_say_18 (by decide) (fun h9 => ?_) (fun h9 => ?_)
    · refine zf_aload_n hC dX12_say_21 rfl 0 rfl ?_
      refine zf_iload_n hC dX12_say_22 rfl 1 rfl ?_
      refine zf_iload_n hC dX12_say_23 rfl 2 rfl ?_
      refine zf_iload_n hC dX12_say_24 rfl 3 rfl ?_
      refine zf_iconst hC (v := 0) dX12_say_25 rfl ?_
      refine zf_callV hC (c_X12_says l g a0 a1 a2 false) mt_X12_says wd_1747 sp_76 ci_11 ic_11 wd_1745 rfl (rm_le hR rfl) rfl rfl (rest := []) rfl (Nat.le_of_ble_eq_true rfl) dX12_say_26 (fun r10 k11 h12 => ?_)
      refine zf_ifb_eq hC (tgt := 36) dX12_say_29 (by decide) (fun h13 => ?_) (fun h13 => ?_)
      · refine zf_iconst hC (v := 1) dX12_say_32 rfl ?_
        refine zf_goto hC (tgt := 37) dX12_say_33 (by decide) ?_
        exact zf_zret hC rfl true rfl dX12_say_37
      · refine zf_iconst hC (v := 0) dX12_say_36 rfl ?_
        exact zf_zret hC rfl false rfl dX12_say_37
    · refine zf_iconst hC (v := 0) dX12_say_36 rfl ?_
      exact zf_zret hC rfl false rfl dX12_say_37
  · refine zf_iconst hC (v := 0) dX12_say_36 rfl ?_
    exact zf_zret hC rfl false rfl dX12_say_37
/-! LifeKeysModel.mourn -/
theorem dX12_mourn_0 : decode cX12_mourn 0 = .ok (.aload_n 0, 1) := by decide +kernel
theorem dX12_mourn_1 : decode cX12_mourn 1 = .ok (.iconst 0, 1) := by decide +kernel
theorem dX12_mourn_2 : decode cX12_mourn 2 = .ok (.putfield 181, 3) := by decide +kernel
theorem dX12_mourn_5 : decode cX12_mourn 5 = .ok (.aload_n 0, 1) := by decide +kernel
theorem dX12_mourn_6 : decode cX12_mourn 6 = .ok (.iload_n 1, 1) := by decide +kernel
theorem dX12_mourn_7 : decode cX12_mourn 7 = .ok (.invokevirtual 226, 3) := by decide +kernel
theorem dX12_mourn_10 : decode cX12_mourn 10 = .ok (.ifCond .eq 31, 3) := by decide +kernel
theorem dX12_mourn_13 : decode cX12_mourn 13 = .ok (.aload_n 0, 1) := by decide +kernel
theorem dX12_mourn_14 : decode cX12_mourn 14 = .ok (.iload_n 2, 1) := by decide +kernel
theorem dX12_mourn_15 : decode cX12_mourn 15 = .ok (.invokevirtual 226, 3) := by decide +kernel
theorem dX12_mourn_18 : decode cX12_mourn 18 = .ok (.ifCond .eq 23, 3) := by decide +kernel
theorem dX12_mourn_21 : decode cX12_mourn 21 = .ok (.iload_n 1, 1) := by decide +kernel
theorem dX12_mourn_22 : decode cX12_mourn 22 = .ok (.iload_n 2, 1) := by decide +kernel
theorem dX12_mourn_23 : decode cX12_mourn 23 = .ok (.if_icmp .eq 18, 3) := by decide +kernel
theorem dX12_mourn_26 : decode cX12_mourn 26 = .ok (.aload_n 0, 1) := by decide +kernel
theorem dX12_mourn_27 : decode cX12_mourn 27 = .ok (.iload_n 1, 1) := by decide +kernel
theorem dX12_mourn_28 : decode cX12_mourn 28 = .ok (.iload_n 2, 1) := by decide +kernel
theorem dX12_mourn_29 : decode cX12_mourn 29 = .ok (.iload_n 3, 1) := by decide +kernel
theorem dX12_mourn_30 : decode cX12_mourn 30 = .ok (.iconst 1, 1) := by decide +kernel
theorem dX12_mourn_31 : decode cX12_mourn 31 = .ok (.invokevirtual 412, 3) := by decide +kernel
theorem dX12_mourn_34 : decode cX12_mourn 34 = .ok (.ifCond .eq 7, 3) := by decide +kernel
theorem dX12_mourn_37 : decode cX12_mourn 37 = .ok (.iconst 1, 1) := by decide +kernel
theorem dX12_mourn_38 : decode cX12_mourn 38 = .ok (.goto 4, 3) := by decide +kernel
theorem dX12_mourn_41 : decode cX12_mourn 41 = .ok (.iconst 0, 1) := by decide +kernel
theorem dX12_mourn_42 : decode cX12_mourn 42 = .ok (.ireturn, 1) := by decide +kernel
def fX12_mourn (k : ST) (a0 : Int32) (a1 : Int32) (a2 : Bool) : Option (Bool × ST) := nm (sI k 11 0 0) fun k1 => ob (fX12_isHolder k1 a0) fun r2 k3 => if r2 = true then ob (fX12_isHolder k3 a1) fun r6 k7 => if r6 = true then if a0 = a1 then some (false, k7) else ob (fX12_says k7 a0 a1 a2 true) fun r11 k12 => if r11 = true then some (true, k12) else some (false, k12) else some (false, k7) else some (false, k3)
set_option maxRecDepth 20000 in
theorem c_X12_mourn (l : Launch) (g : GT) (a0 : Int32) (a1 : Int32) (a2 : Bool) : CN l yX12_mourn cX12_mourn 4 (some .boolean) { frames := 1, cells := 0, slots := 0, locals := 24 } g TM voB [.ref (g.2.1 11), .int a0, .int a1, .int (b2i a2)] (fun k => fX12_mourn k a0 a1 a2) := by
  refine cn_of (by decide) (Nat.le_of_ble_eq_true rfl) ?_
  intro p e s m args below meth c hC k
  have hC : HC p s m args meth c cX12_mourn 4 RX12 (some .boolean) g := hC
  have hR : 1 ≤ ({ frames := 1, cells := 0, slots := 0, locals := 24 } : Room).frames ∧ 24 ≤ ({ frames := 1, cells := 0, slots := 0, locals := 24 } : Room).locals := ⟨Nat.le_refl _, Nat.le_refl _⟩
  show ZF p l e _ s m args below meth c g TM voB 4 k 0 [(0, .ref (g.2.1 11)), (1, .int a0), (2, .int a1), (3, .int (b2i a2))] [] (fX12_mourn k a0 a1 a2)
  unfold fX12_mourn
  refine zf_aload_n hC dX12_mourn_0 rfl 0 rfl ?_
  refine zf_iconst hC (v := 0) dX12_mourn_1 rfl ?_
  refine pf_1230 hC dX12_mourn_2 ?_
  refine zf_nmk (fun k1 => ?_)
  refine zf_aload_n hC dX12_mourn_5 rfl 0 rfl ?_
  refine zf_iload_n hC dX12_mourn_6 rfl 1 rfl ?_
  refine zf_callV hC (c_X12_isHolder l g a0) mt_X12_isHolder wd_1552 sp_49 ci_11 ic_11 wd_1550 rfl (rm_le hR rfl) rfl rfl (rest := []) rfl (Nat.le_of_ble_eq_true rfl) dX12_mourn_7 (fun r2 k3 h4 => ?_)
  refine zf_ifb_eq hC (tgt := 41) dX12_mourn_10 (by decide) (fun h5 => ?_) (fun h5 => ?_)
  · refine zf_aload_n hC dX12_mourn_13 rfl 0 rfl ?_
    refine zf_iload_n hC dX12_mourn_14 rfl 2 rfl ?_
    refine zf_callV hC (c_X12_isHolder l g a1) mt_X12_isHolder wd_1552 sp_49 ci_11 ic_11 wd_1550 rfl (rm_le hR rfl) rfl rfl (rest := []) rfl (Nat.le_of_ble_eq_true rfl) dX12_mourn_15 (fun r6 k7 h8 => ?_)
    refine zf_ifb_eq hC (tgt := 41) dX12_mourn_18 (by decide) (fun h9 => ?_) (fun h9 => ?_)
    · refine zf_iload_n hC dX12_mourn_21 rfl 1 rfl ?_
      refine zf_iload_n hC dX12_mourn_22 rfl 2 rfl ?_
      refine zf_icmp_eq hC (tgt := 41) dX12_mourn_23 (by decide) (fun h10 => ?_) (fun h10 => ?_)
      · refine zf_iconst hC (v := 0) dX12_mourn_41 rfl ?_
        exact zf_zret hC rfl false rfl dX12_mourn_42
      · refine zf_aload_n hC dX12_mourn_26 rfl 0 rfl ?_
        refine zf_iload_n hC dX12_mourn_27 rfl 1 rfl ?_
        refine zf_iload_n hC dX12_mourn_28 rfl 2 rfl ?_
        refine zf_iload_n hC dX12_mourn_29 rfl 3 rfl ?_
        refine zf_iconst hC (v := 1) dX12_mourn_30 rfl ?_
        refine zf_callV hC (c_X12_says l g a0 a1 a2 true) mt_X12_says wd_1747 sp_76 ci_11 ic_11 wd_1745 rfl (rm_le hR rfl) rfl rfl (rest := []) rfl (Nat.le_of_ble_eq_true rfl) dX12_mourn_31 (fun r11 k12 h13 => ?_)
        refine zf_ifb_eq hC (tgt := 41) dX12_mourn_34 (by decide) (fun h14 => ?_) (fun h14 => ?_)
        · refine zf_iconst hC (v := 1) dX12_mourn_37 rfl ?_
          refine zf_goto hC (tgt := 42) dX12_mourn_38 (by decide) ?_
          exact zf_zret hC rfl true rfl dX12_mourn_42
        · refine zf_iconst hC (v := 0) dX12_mourn_41 rfl ?_
          exact zf_zret hC rfl false rfl dX12_mourn_42
    · refine zf_iconst hC (v := 0) dX12_mourn_41 rfl ?_
      exact zf_zret hC rfl false rfl dX12_mourn_42
  · refine zf_iconst hC (v := 0) dX12_mourn_41 rfl ?_
    exact zf_zret hC rfl false rfl dX12_mourn_42
/-! LifeKeysModel.ask -/
theorem dX12_ask_0 : decode cX12_ask 0 = .ok (.aload_n 0, 1) := by decide +kernel
theorem dX12_ask_1 : decode cX12_ask 1 = .ok (.iconst 0, 1) := by decide +kernel
theorem dX12_ask_2 : decode cX12_ask 2 = .ok (.putfield 181, 3) := by decide +kernel
theorem dX12_ask_5 : decode cX12_ask 5 = .ok (.aload_n 0, 1) := by decide +kernel
theorem dX12_ask_6 : decode cX12_ask 6 = .ok (.iload_n 1, 1) := by decide +kernel
theorem dX12_ask_7 : decode cX12_ask 7 = .ok (.invokevirtual 409, 3) := by decide +kernel
theorem dX12_ask_10 : decode cX12_ask 10 = .ok (.ifCond .eq 13, 3) := by decide +kernel
theorem dX12_ask_13 : decode cX12_ask 13 = .ok (.aload_n 0, 1) := by decide +kernel
theorem dX12_ask_14 : decode cX12_ask 14 = .ok (.getfield 106, 3) := by decide +kernel
theorem dX12_ask_17 : decode cX12_ask 17 = .ok (.iload_n 1, 1) := by decide +kernel
theorem dX12_ask_18 : decode cX12_ask 18 = .ok (.iaload, 1) := by decide +kernel
theorem dX12_ask_19 : decode cX12_ask 19 = .ok (.iconst (-1), 1) := by decide +kernel
theorem dX12_ask_20 : decode cX12_ask 20 = .ok (.if_icmp .eq 5, 3) := by decide +kernel
theorem dX12_ask_23 : decode cX12_ask 23 = .ok (.iconst 0, 1) := by decide +kernel
theorem dX12_ask_24 : decode cX12_ask 24 = .ok (.ireturn, 1) := by decide +kernel
theorem dX12_ask_25 : decode cX12_ask 25 = .ok (.aload_n 0, 1) := by decide +kernel
theorem dX12_ask_26 : decode cX12_ask 26 = .ok (.getfield 106, 3) := by decide +kernel
theorem dX12_ask_29 : decode cX12_ask 29 = .ok (.iload_n 1, 1) := by decide +kernel
theorem dX12_ask_30 : decode cX12_ask 30 = .ok (.aload_n 0, 1) := by decide +kernel
theorem dX12_ask_31 : decode cX12_ask 31 = .ok (.getfield 185, 3) := by decide +kernel
theorem dX12_ask_34 : decode cX12_ask 34 = .ok (.iastore, 1) := by decide +kernel
theorem dX12_ask_35 : decode cX12_ask 35 = .ok (.iconst 1, 1) := by decide +kernel
theorem dX12_ask_36 : decode cX12_ask 36 = .ok (.ireturn, 1) := by decide +kernel
def fX12_ask (k : ST) (a0 : Int32) : Option (Bool × ST) := nm (sI k 11 0 0) fun k1 => ob (fX12_isThing k1 a0) fun r2 k3 => if r2 = true then ck (inb a0 40) (if (gA k3 130 (ix a0)) = (-1) then ck (inb a0 40) (nm (sA k3 130 (ix a0) (gI k3 11 1)) fun k9 => some (true, k9)) else some (false, k3)) else some (false, k3)
set_option maxRecDepth 20000 in
theorem c_X12_ask (l : Launch) (g : GT) (a0 : Int32) : CN l yX12_ask cX12_ask 2 (some .boolean) { frames := 1, cells := 0, slots := 0, locals := 21 } g TM voB [.ref (g.2.1 11), .int a0] (fun k => fX12_ask k a0) := by
  refine cn_of (by decide) (Nat.le_of_ble_eq_true rfl) ?_
  intro p e s m args below meth c hC k
  have hC : HC p s m args meth c cX12_ask 2 RX12 (some .boolean) g := hC
  have hR : 1 ≤ ({ frames := 1, cells := 0, slots := 0, locals := 21 } : Room).frames ∧ 21 ≤ ({ frames := 1, cells := 0, slots := 0, locals := 21 } : Room).locals := ⟨Nat.le_refl _, Nat.le_refl _⟩
  show ZF p l e _ s m args below meth c g TM voB 2 k 0 [(0, .ref (g.2.1 11)), (1, .int a0)] [] (fX12_ask k a0)
  unfold fX12_ask
  refine zf_aload_n hC dX12_ask_0 rfl 0 rfl ?_
  refine zf_iconst hC (v := 0) dX12_ask_1 rfl ?_
  refine pf_1230 hC dX12_ask_2 ?_
  refine zf_nmk (fun k1 => ?_)
  refine zf_aload_n hC dX12_ask_5 rfl 0 rfl ?_
  refine zf_iload_n hC dX12_ask_6 rfl 1 rfl ?_
  refine zf_callV hC (c_X12_isThing l g a0) mt_X12_isThing wd_1743 sp_75 ci_11 ic_11 wd_1741 rfl (rm_le hR rfl) rfl rfl (rest := []) rfl (Nat.le_of_ble_eq_true rfl) dX12_ask_7 (fun r2 k3 h4 => ?_)
  refine zf_ifb_eq hC (tgt := 23) dX12_ask_10 (by decide) (fun h5 => ?_) (fun h5 => ?_)
  · refine zf_aload_n hC dX12_ask_13 rfl 0 rfl ?_
    refine gf_1270 hC dX12_ask_14 ?_
    refine zf_iload_n hC dX12_ask_17 rfl 1 rfl ?_
    refine zf_iald hC (j := 130) ia_130 rfl rfl dX12_ask_18 (fun h6 => ?_)
    refine zf_iconst hC (v := (-1)) dX12_ask_19 rfl ?_
    refine zf_icmp_eq hC (tgt := 25) dX12_ask_20 (by decide) (fun h7 => ?_) (fun h7 => ?_)
    · refine zf_aload_n hC dX12_ask_25 rfl 0 rfl ?_
      refine gf_1270 hC dX12_ask_26 ?_
      refine zf_iload_n hC dX12_ask_29 rfl 1 rfl ?_
      refine zf_aload_n hC dX12_ask_30 rfl 0 rfl ?_
      refine gf_1231 hC dX12_ask_31 ?_
      refine zf_iast hC (j := 130) ia_130 rfl rfl dX12_ask_34 (fun h8 => ?_)
      refine zf_nmk (fun k9 => ?_)
      refine zf_iconst hC (v := 1) dX12_ask_35 rfl ?_
      exact zf_zret hC rfl true rfl dX12_ask_36
    · refine zf_iconst hC (v := 0) dX12_ask_23 rfl ?_
      exact zf_zret hC rfl false rfl dX12_ask_24
  · refine zf_iconst hC (v := 0) dX12_ask_23 rfl ?_
    exact zf_zret hC rfl false rfl dX12_ask_24
/-! LifeKeysModel.isDay -/
theorem dX12_isDay_0 : decode cX12_isDay 0 = .ok (.iload_n 0, 1) := by decide +kernel
theorem dX12_isDay_1 : decode cX12_isDay 1 = .ok (.iconst 0, 1) := by decide +kernel
theorem dX12_isDay_2 : decode cX12_isDay 2 = .ok (.sipush 2000, 3) := by decide +kernel
theorem dX12_isDay_5 : decode cX12_isDay 5 = .ok (.invokestatic 188, 3) := by decide +kernel
theorem dX12_isDay_8 : decode cX12_isDay 8 = .ok (.ireturn, 1) := by decide +kernel
def fX12_isDay (k : ST) (a0 : Int32) : Option (Bool × ST) := ob (fX12_isIn k a0 0 2000) fun r1 k2 => some (r1, k2)
set_option maxRecDepth 20000 in
theorem c_X12_isDay (l : Launch) (g : GT) (T : TT) (a0 : Int32) : CN l yX12_isDay cX12_isDay 1 (some .boolean) { frames := 1, cells := 0, slots := 0, locals := 22 } g T voB [.int a0] (fun k => fX12_isDay k a0) := by
  refine cn_of (by decide) (Nat.le_of_ble_eq_true rfl) ?_
  intro p e s m args below meth c hC k
  have hC : HC p s m args meth c cX12_isDay 1 RX12 (some .boolean) g := hC
  have hR : 1 ≤ ({ frames := 1, cells := 0, slots := 0, locals := 22 } : Room).frames ∧ 22 ≤ ({ frames := 1, cells := 0, slots := 0, locals := 22 } : Room).locals := ⟨Nat.le_refl _, Nat.le_refl _⟩
  show ZF p l e _ s m args below meth c g T voB 1 k 0 [(0, .int a0)] [] (fX12_isDay k a0)
  unfold fX12_isDay
  refine zf_iload_n hC dX12_isDay_0 rfl 0 rfl ?_
  refine zf_iconst hC (v := 0) dX12_isDay_1 rfl ?_
  refine zf_sipush hC (v := 2000) dX12_isDay_2 rfl ?_
  refine zf_callS hC (c_X12_isIn l g T a0 0 2000) mt_X12_isIn wd_1495 wd_1494 rfl (rm_le hR rfl) rfl rfl (rest := []) rfl (Nat.le_of_ble_eq_true rfl) dX12_isDay_5 (fun r1 k2 h3 => ?_)
  exact zf_zret hC rfl r1 rfl dX12_isDay_8
/-! LifeKeysModel.holds -/
theorem dX12_holds_0 : decode cX12_holds 0 = .ok (.aload_n 0, 1) := by decide +kernel
theorem dX12_holds_1 : decode cX12_holds 1 = .ok (.aload_n 0, 1) := by decide +kernel
theorem dX12_holds_2 : decode cX12_holds 2 = .ok (.getfield 85, 3) := by decide +kernel
theorem dX12_holds_5 : decode cX12_holds 5 = .ok (.sipush 160, 3) := by decide +kernel
theorem dX12_holds_8 : decode cX12_holds 8 = .ok (.iload_n 1, 1) := by decide +kernel
theorem dX12_holds_9 : decode cX12_holds 9 = .ok (.imul, 1) := by decide +kernel
theorem dX12_holds_10 : decode cX12_holds 10 = .ok (.aload_n 0, 1) := by decide +kernel
theorem dX12_holds_11 : decode cX12_holds 11 = .ok (.getfield 88, 3) := by decide +kernel
theorem dX12_holds_14 : decode cX12_holds 14 = .ok (.iload_n 1, 1) := by decide +kernel
theorem dX12_holds_15 : decode cX12_holds 15 = .ok (.iaload, 1) := by decide +kernel
theorem dX12_holds_16 : decode cX12_holds 16 = .ok (.invokevirtual 384, 3) := by decide +kernel
theorem dX12_holds_19 : decode cX12_holds 19 = .ok (.ireturn, 1) := by decide +kernel
def fX12_holds (k : ST) (a0 : Int32) : Option (Bool × ST) := ck (inb a0 20) (ob (fX12_goThrough k 135 (160 * a0) (gA k 124 (ix a0))) fun r2 k3 => some (r2, k3))
set_option maxRecDepth 20000 in
theorem c_X12_holds (l : Launch) (g : GT) (a0 : Int32) : CN l yX12_holds cX12_holds 2 (some .boolean) { frames := 34, cells := 0, slots := 0, locals := 761 } g TM voB [.ref (g.2.1 11), .int a0] (fun k => fX12_holds k a0) := by
  refine cn_of (by decide) (Nat.le_of_ble_eq_true rfl) ?_
  intro p e s m args below meth c hC k
  have hC : HC p s m args meth c cX12_holds 2 RX12 (some .boolean) g := hC
  have hR : 34 ≤ ({ frames := 34, cells := 0, slots := 0, locals := 761 } : Room).frames ∧ 761 ≤ ({ frames := 34, cells := 0, slots := 0, locals := 761 } : Room).locals := ⟨Nat.le_refl _, Nat.le_refl _⟩
  show ZF p l e _ s m args below meth c g TM voB 2 k 0 [(0, .ref (g.2.1 11)), (1, .int a0)] [] (fX12_holds k a0)
  unfold fX12_holds
  refine zf_aload_n hC dX12_holds_0 rfl 0 rfl ?_
  refine zf_aload_n hC dX12_holds_1 rfl 0 rfl ?_
  refine gf_1263 hC dX12_holds_2 ?_
  refine zf_sipush hC (v := 160) dX12_holds_5 rfl ?_
  refine zf_iload_n hC dX12_holds_8 rfl 1 rfl ?_
  refine zf_imul hC dX12_holds_9 ?_
  refine zf_aload_n hC dX12_holds_10 rfl 0 rfl ?_
  refine gf_1264 hC dX12_holds_11 ?_
  refine zf_iload_n hC dX12_holds_14 rfl 1 rfl ?_
  refine zf_iald hC (j := 124) ia_124 rfl rfl dX12_holds_15 (fun h1 => ?_)
  refine zf_callV hC (c_X12_goThrough l g 135 (160 * a0) (gA k 124 (ix a0))) mt_X12_goThrough wd_1674 sp_62 ci_11 ic_11 wd_1672 rfl (rm_le hR rfl) rfl rfl (rest := []) rfl (Nat.le_of_ble_eq_true rfl) dX12_holds_16 (fun r2 k3 h4 => ?_)
  exact zf_zret hC rfl r2 rfl dX12_holds_19
/-! LifeKeysModel.findDead -/
theorem dX12_findDead_0 : decode cX12_findDead 0 = .ok (.aload_n 0, 1) := by decide +kernel
theorem dX12_findDead_1 : decode cX12_findDead 1 = .ok (.iconst 1, 1) := by decide +kernel
theorem dX12_findDead_2 : decode cX12_findDead 2 = .ok (.putfield 360, 3) := by decide +kernel
theorem dX12_findDead_5 : decode cX12_findDead 5 = .ok (.aload_n 0, 1) := by decide +kernel
theorem dX12_findDead_6 : decode cX12_findDead 6 = .ok (.iload_n 1, 1) := by decide +kernel
theorem dX12_findDead_7 : decode cX12_findDead 7 = .ok (.putfield 372, 3) := by decide +kernel
theorem dX12_findDead_10 : decode cX12_findDead 10 = .ok (.aload_n 0, 1) := by decide +kernel
theorem dX12_findDead_11 : decode cX12_findDead 11 = .ok (.iload_n 2, 1) := by decide +kernel
theorem dX12_findDead_12 : decode cX12_findDead 12 = .ok (.putfield 381, 3) := by decide +kernel
theorem dX12_findDead_15 : decode cX12_findDead 15 = .ok (.iconst 0, 1) := by decide +kernel
theorem dX12_findDead_16 : decode cX12_findDead 16 = .ok (.istore_n 3, 1) := by decide +kernel
theorem dX12_findDead_17 : decode cX12_findDead 17 = .ok (.iload_n 3, 1) := by decide +kernel
theorem dX12_findDead_18 : decode cX12_findDead 18 = .ok (.bipush 12, 2) := by decide +kernel
theorem dX12_findDead_20 : decode cX12_findDead 20 = .ok (.if_icmp .ge 180, 3) := by decide +kernel
theorem dX12_findDead_23 : decode cX12_findDead 23 = .ok (.iconst (-1), 1) := by decide +kernel
theorem dX12_findDead_24 : decode cX12_findDead 24 = .ok (.istore 4, 2) := by decide +kernel
theorem dX12_findDead_26 : decode cX12_findDead 26 = .ok (.iconst 0, 1) := by decide +kernel
theorem dX12_findDead_27 : decode cX12_findDead 27 = .ok (.istore 5, 2) := by decide +kernel
theorem dX12_findDead_29 : decode cX12_findDead 29 = .ok (.iload 5, 2) := by decide +kernel
theorem dX12_findDead_31 : decode cX12_findDead 31 = .ok (.aload_n 0, 1) := by decide +kernel
theorem dX12_findDead_32 : decode cX12_findDead 32 = .ok (.getfield 388, 3) := by decide +kernel
theorem dX12_findDead_35 : decode cX12_findDead 35 = .ok (.if_icmp .ge 40, 3) := by decide +kernel
theorem dX12_findDead_38 : decode cX12_findDead 38 = .ok (.aload_n 0, 1) := by decide +kernel
theorem dX12_findDead_39 : decode cX12_findDead 39 = .ok (.getfield 91, 3) := by decide +kernel
theorem dX12_findDead_42 : decode cX12_findDead 42 = .ok (.iload 5, 2) := by decide +kernel
theorem dX12_findDead_44 : decode cX12_findDead 44 = .ok (.iaload, 1) := by decide +kernel
theorem dX12_findDead_45 : decode cX12_findDead 45 = .ok (.iload_n 3, 1) := by decide +kernel
theorem dX12_findDead_46 : decode cX12_findDead 46 = .ok (.if_icmp .ne 23, 3) := by decide +kernel
theorem dX12_findDead_49 : decode cX12_findDead 49 = .ok (.aload_n 0, 1) := by decide +kernel
theorem dX12_findDead_50 : decode cX12_findDead 50 = .ok (.getfield 97, 3) := by decide +kernel
theorem dX12_findDead_53 : decode cX12_findDead 53 = .ok (.iload 5, 2) := by decide +kernel
theorem dX12_findDead_55 : decode cX12_findDead 55 = .ok (.iaload, 1) := by decide +kernel
theorem dX12_findDead_56 : decode cX12_findDead 56 = .ok (.iload_n 2, 1) := by decide +kernel
theorem dX12_findDead_57 : decode cX12_findDead 57 = .ok (.if_icmp .gt 12, 3) := by decide +kernel
theorem dX12_findDead_60 : decode cX12_findDead 60 = .ok (.aload_n 0, 1) := by decide +kernel
theorem dX12_findDead_61 : decode cX12_findDead 61 = .ok (.getfield 94, 3) := by decide +kernel
theorem dX12_findDead_64 : decode cX12_findDead 64 = .ok (.iload 5, 2) := by decide +kernel
theorem dX12_findDead_66 : decode cX12_findDead 66 = .ok (.iaload, 1) := by decide +kernel
theorem dX12_findDead_67 : decode cX12_findDead 67 = .ok (.istore 4, 2) := by decide +kernel
theorem dX12_findDead_69 : decode cX12_findDead 69 = .ok (.iinc 5 1, 3) := by decide +kernel
theorem dX12_findDead_72 : decode cX12_findDead 72 = .ok (.goto (-43), 3) := by decide +kernel
theorem dX12_findDead_75 : decode cX12_findDead 75 = .ok (.aload_n 0, 1) := by decide +kernel
theorem dX12_findDead_76 : decode cX12_findDead 76 = .ok (.iload_n 3, 1) := by decide +kernel
theorem dX12_findDead_77 : decode cX12_findDead 77 = .ok (.putfield 378, 3) := by decide +kernel
theorem dX12_findDead_80 : decode cX12_findDead 80 = .ok (.aload_n 0, 1) := by decide +kernel
theorem dX12_findDead_81 : decode cX12_findDead 81 = .ok (.iconst (-1), 1) := by decide +kernel
theorem dX12_findDead_82 : decode cX12_findDead 82 = .ok (.putfield 369, 3) := by decide +kernel
theorem dX12_findDead_85 : decode cX12_findDead 85 = .ok (.aload_n 0, 1) := by decide +kernel
theorem dX12_findDead_86 : decode cX12_findDead 86 = .ok (.getfield 375, 3) := by decide +kernel
theorem dX12_findDead_89 : decode cX12_findDead 89 = .ok (.iconst 1, 1) := by decide +kernel
theorem dX12_findDead_90 : decode cX12_findDead 90 = .ok (.isub, 1) := by decide +kernel
theorem dX12_findDead_91 : decode cX12_findDead 91 = .ok (.istore 5, 2) := by decide +kernel
theorem dX12_findDead_93 : decode cX12_findDead 93 = .ok (.iload 5, 2) := by decide +kernel
theorem dX12_findDead_95 : decode cX12_findDead 95 = .ok (.ifCond .lt 73, 3) := by decide +kernel
theorem dX12_findDead_98 : decode cX12_findDead 98 = .ok (.aload_n 0, 1) := by decide +kernel
theorem dX12_findDead_99 : decode cX12_findDead 99 = .ok (.getfield 127, 3) := by decide +kernel
theorem dX12_findDead_102 : decode cX12_findDead 102 = .ok (.iload 5, 2) := by decide +kernel
theorem dX12_findDead_104 : decode cX12_findDead 104 = .ok (.baload, 1) := by decide +kernel
theorem dX12_findDead_105 : decode cX12_findDead 105 = .ok (.ifCond .eq 57, 3) := by decide +kernel
theorem dX12_findDead_108 : decode cX12_findDead 108 = .ok (.aload_n 0, 1) := by decide +kernel
theorem dX12_findDead_109 : decode cX12_findDead 109 = .ok (.getfield 112, 3) := by decide +kernel
theorem dX12_findDead_112 : decode cX12_findDead 112 = .ok (.iload 5, 2) := by decide +kernel
theorem dX12_findDead_114 : decode cX12_findDead 114 = .ok (.iaload, 1) := by decide +kernel
theorem dX12_findDead_115 : decode cX12_findDead 115 = .ok (.iload_n 3, 1) := by decide +kernel
theorem dX12_findDead_116 : decode cX12_findDead 116 = .ok (.if_icmp .ne 46, 3) := by decide +kernel
theorem dX12_findDead_119 : decode cX12_findDead 119 = .ok (.aload_n 0, 1) := by decide +kernel
theorem dX12_findDead_120 : decode cX12_findDead 120 = .ok (.getfield 124, 3) := by decide +kernel
theorem dX12_findDead_123 : decode cX12_findDead 123 = .ok (.iload 5, 2) := by decide +kernel
theorem dX12_findDead_125 : decode cX12_findDead 125 = .ok (.baload, 1) := by decide +kernel
theorem dX12_findDead_126 : decode cX12_findDead 126 = .ok (.ifCond .eq 36, 3) := by decide +kernel
theorem dX12_findDead_129 : decode cX12_findDead 129 = .ok (.aload_n 0, 1) := by decide +kernel
theorem dX12_findDead_130 : decode cX12_findDead 130 = .ok (.getfield 115, 3) := by decide +kernel
theorem dX12_findDead_133 : decode cX12_findDead 133 = .ok (.iload 5, 2) := by decide +kernel
theorem dX12_findDead_135 : decode cX12_findDead 135 = .ok (.iaload, 1) := by decide +kernel
theorem dX12_findDead_136 : decode cX12_findDead 136 = .ok (.iload_n 1, 1) := by decide +kernel
theorem dX12_findDead_137 : decode cX12_findDead 137 = .ok (.if_icmp .gt 25, 3) := by decide +kernel
theorem dX12_findDead_140 : decode cX12_findDead 140 = .ok (.aload_n 0, 1) := by decide +kernel
theorem dX12_findDead_141 : decode cX12_findDead 141 = .ok (.getfield 115, 3) := by decide +kernel
theorem dX12_findDead_144 : decode cX12_findDead 144 = .ok (.iload 5, 2) := by decide +kernel
theorem dX12_findDead_146 : decode cX12_findDead 146 = .ok (.iaload, 1) := by decide +kernel
theorem dX12_findDead_147 : decode cX12_findDead 147 = .ok (.iload_n 2, 1) := by decide +kernel
theorem dX12_findDead_148 : decode cX12_findDead 148 = .ok (.if_icmp .gt 14, 3) := by decide +kernel
theorem dX12_findDead_151 : decode cX12_findDead 151 = .ok (.aload_n 0, 1) := by decide +kernel
theorem dX12_findDead_152 : decode cX12_findDead 152 = .ok (.aload_n 0, 1) := by decide +kernel
theorem dX12_findDead_153 : decode cX12_findDead 153 = .ok (.getfield 115, 3) := by decide +kernel
theorem dX12_findDead_156 : decode cX12_findDead 156 = .ok (.iload 5, 2) := by decide +kernel
theorem dX12_findDead_158 : decode cX12_findDead 158 = .ok (.iaload, 1) := by decide +kernel
theorem dX12_findDead_159 : decode cX12_findDead 159 = .ok (.putfield 369, 3) := by decide +kernel
theorem dX12_findDead_162 : decode cX12_findDead 162 = .ok (.iinc 5 (-1), 3) := by decide +kernel
theorem dX12_findDead_165 : decode cX12_findDead 165 = .ok (.goto (-72), 3) := by decide +kernel
theorem dX12_findDead_168 : decode cX12_findDead 168 = .ok (.aload_n 0, 1) := by decide +kernel
theorem dX12_findDead_169 : decode cX12_findDead 169 = .ok (.getfield 133, 3) := by decide +kernel
theorem dX12_findDead_172 : decode cX12_findDead 172 = .ok (.iload_n 3, 1) := by decide +kernel
theorem dX12_findDead_173 : decode cX12_findDead 173 = .ok (.iload 4, 2) := by decide +kernel
theorem dX12_findDead_175 : decode cX12_findDead 175 = .ok (.iconst (-1), 1) := by decide +kernel
theorem dX12_findDead_176 : decode cX12_findDead 176 = .ok (.if_icmp .eq 16, 3) := by decide +kernel
theorem dX12_findDead_179 : decode cX12_findDead 179 = .ok (.aload_n 0, 1) := by decide +kernel
theorem dX12_findDead_180 : decode cX12_findDead 180 = .ok (.iload 4, 2) := by decide +kernel
theorem dX12_findDead_182 : decode cX12_findDead 182 = .ok (.invokevirtual 391, 3) := by decide +kernel
theorem dX12_findDead_185 : decode cX12_findDead 185 = .ok (.ifCond .eq 7, 3) := by decide +kernel
theorem dX12_findDead_188 : decode cX12_findDead 188 = .ok (.iconst 1, 1) := by decide +kernel
theorem dX12_findDead_189 : decode cX12_findDead 189 = .ok (.goto 4, 3) := by decide +kernel
theorem dX12_findDead_192 : decode cX12_findDead 192 = .ok (.iconst 0, 1) := by decide +kernel
theorem dX12_findDead_193 : decode cX12_findDead 193 = .ok (.bastore, 1) := by decide +kernel
theorem dX12_findDead_194 : decode cX12_findDead 194 = .ok (.iinc 3 1, 3) := by decide +kernel
theorem dX12_findDead_197 : decode cX12_findDead 197 = .ok (.goto (-180), 3) := by decide +kernel
theorem dX12_findDead_200 : decode cX12_findDead 200 = .ok (.return_, 1) := by decide +kernel
def lpX12_findDead_29 (v1 : Int32) (v2 : Int32) (v3 : Int32) : Nat → Int32 → Int32 → ST → (Int32 → Int32 → ST → Option (Unit × ST)) → Option (Unit × ST)
  | 0, _, _, _, _ => none
  | n + 1, v4, v5, k, cont => if (gI k 11 49) ≤ v5 then cont v4 v5 k else ck (inb v5 40) (if (gA k 125 (ix v5)) = v3 then ck (inb v5 40) (if v2 < (gA k 127 (ix v5)) then lpX12_findDead_29 v1 v2 v3 n v4 (v5 + 1) k cont else ck (inb v5 40) (lpX12_findDead_29 v1 v2 v3 n (gA k 126 (ix v5)) (v5 + 1) k cont)) else lpX12_findDead_29 v1 v2 v3 n v4 (v5 + 1) k cont)
def lpX12_findDead_93 (v1 : Int32) (v2 : Int32) (v3 : Int32) (v4 : Int32) : Nat → Int32 → ST → (Int32 → ST → Option (Unit × ST)) → Option (Unit × ST)
  | 0, _, _, _ => none
  | n + 1, v5, k, cont => if v5 < 0 then cont v5 k else ck (inb v5 200) (if (gA k 137 (ix v5)) = 0 then lpX12_findDead_93 v1 v2 v3 v4 n (v5 + (-1)) k cont else ck (inb v5 200) (if (gA k 132 (ix v5)) = v3 then ck (inb v5 200) (if (gA k 136 (ix v5)) = 0 then lpX12_findDead_93 v1 v2 v3 v4 n (v5 + (-1)) k cont else ck (inb v5 200) (if v1 < (gA k 133 (ix v5)) then lpX12_findDead_93 v1 v2 v3 v4 n (v5 + (-1)) k cont else ck (inb v5 200) (if v2 < (gA k 133 (ix v5)) then lpX12_findDead_93 v1 v2 v3 v4 n (v5 + (-1)) k cont else ck (inb v5 200) (nm (sI k 11 61 (gA k 133 (ix v5))) fun k28 => lpX12_findDead_93 v1 v2 v3 v4 n (v5 + (-1)) k28 cont)))) else lpX12_findDead_93 v1 v2 v3 v4 n (v5 + (-1)) k cont))
def lpX12_findDead_17 (v1 : Int32) (v2 : Int32) : Nat → Int32 → ST → (Int32 → ST → Option (Unit × ST)) → Option (Unit × ST)
  | 0, _, _, _ => none
  | n + 1, v3, k, cont => if 12 ≤ v3 then cont v3 k else lpX12_findDead_29 v1 v2 v3 FU (-1) 0 k fun y11 y12 k13 => nm (sI k13 11 58 v3) fun k14 => nm (sI k14 11 61 (-1)) fun k15 => lpX12_findDead_93 v1 v2 v3 y11 FU ((gI k15 11 51) - 1) k15 fun y29 k30 => if y11 = (-1) then ck (inb v3 12) (nm (sA k30 138 (ix v3) 0) fun k33 => lpX12_findDead_17 v1 v2 n (v3 + 1) k33 cont) else ob (fX12_holds k30 y11) fun r34 k35 => if r34 = true then ck (inb v3 12) (nm (sA k35 138 (ix v3) 1) fun k39 => lpX12_findDead_17 v1 v2 n (v3 + 1) k39 cont) else ck (inb v3 12) (nm (sA k35 138 (ix v3) 0) fun k41 => lpX12_findDead_17 v1 v2 n (v3 + 1) k41 cont)
set_option maxRecDepth 20000 in
theorem zlpX12_findDead_29 {p : Program} {l : Launch} {e : Env} {R : Room} {s : State} {m : MethodId} {args : Array Value} {below : List Frame} {meth : Method} {c : Code} {g : GT} (hC : HC p s m args meth c cX12_findDead 6 RX12 none g) (hR : 35 ≤ R.frames ∧ 782 ≤ R.locals)  (v1 : Int32) (v2 : Int32) (v3 : Int32) {cont : Int32 → Int32 → ST → Option (Unit × ST)} (hk : ∀ (v4 : Int32) (v5 : Int32) (k : ST), ZF p l e R s m args below meth c g TM voV 6 k 75 [(0, .ref (g.2.1 11)), (1, .int v1), (2, .int v2), (3, .int v3), (4, .int v4), (5, .int v5)] [] (cont v4 v5 k)) : ∀ (n : Nat) (v4 : Int32) (v5 : Int32) (k : ST), ZF p l e R s m args below meth c g TM voV 6 k 29 [(0, .ref (g.2.1 11)), (1, .int v1), (2, .int v2), (3, .int v3), (4, .int v4), (5, .int v5)] [] (lpX12_findDead_29 v1 v2 v3 n v4 v5 k cont) := by
  intro n
  induction n with
  | zero => intros; exact zf_none
  | succ n ih =>
    intro v4 v5 k
    rw [lpX12_findDead_29]
    refine zf_iload hC dX12_findDead_29 5 rfl ?_
    refine zf_aload_n hC dX12_findDead_31 rfl 0 rfl ?_
    refine gf_1279 hC dX12_findDead_32 ?_
    refine zf_icmp_ge hC (tgt := 75) dX12_findDead_35 (by decide) (fun h5 => ?_) (fun h5 => ?_)
    · refine zf_lv (LV' := [(0, .ref (g.2.1 11)), (1, .int v1), (2, .int v2), (3, .int v3), (4, .int v4), (5, .int v5)]) [0, 1, 2, 3, 4, 5] rfl ?_
      exact hk v4 v5 k
    · refine zf_aload_n hC dX12_findDead_38 rfl 0 rfl ?_
      refine gf_1265 hC dX12_findDead_39 ?_
      refine zf_iload hC dX12_findDead_42 5 rfl ?_
      refine zf_iald hC (j := 125) ia_125 rfl rfl dX12_findDead_44 (fun h6 => ?_)
      refine zf_iload_n hC dX12_findDead_45 rfl 3 rfl ?_
      refine zf_icmp_ne hC (tgt := 69) dX12_findDead_46 (by decide) (fun h7 => ?_) (fun h7 => ?_)
      · refine zf_aload_n hC dX12_findDead_49 rfl 0 rfl ?_
        refine gf_1267 hC dX12_findDead_50 ?_
        refine zf_iload hC dX12_findDead_53 5 rfl ?_
        refine zf_iald hC (j := 127) ia_127 rfl rfl dX12_findDead_55 (fun h8 => ?_)
        refine zf_iload_n hC dX12_findDead_56 rfl 2 rfl ?_
        refine zf_icmp_gt hC (tgt := 69) dX12_findDead_57 (by decide) (fun h9 => ?_) (fun h9 => ?_)
        · refine zf_iinc hC (q := 5) (v := v5 + 1) (LV' := [(5, .int (v5 + 1)), (0, .ref (g.2.1 11)), (1, .int v1), (2, .int v2), (3, .int v3), (4, .int v4)]) dX12_findDead_69 rfl rfl (by decide) rfl ?_
          refine zf_goto hC (tgt := 29) dX12_findDead_72 (by decide) ?_
          refine zf_lv (LV' := [(0, .ref (g.2.1 11)), (1, .int v1), (2, .int v2), (3, .int v3), (4, .int v4), (5, .int (v5 + 1))]) [1, 2, 3, 4, 5, 0] rfl ?_
          exact ih v4 (v5 + 1) k
        · refine zf_aload_n hC dX12_findDead_60 rfl 0 rfl ?_
          refine gf_1266 hC dX12_findDead_61 ?_
          refine zf_iload hC dX12_findDead_64 5 rfl ?_
          refine zf_iald hC (j := 126) ia_126 rfl rfl dX12_findDead_66 (fun h10 => ?_)
          refine zf_istore hC (LV' := [(4, .int (gA k 126 (ix v5))), (0, .ref (g.2.1 11)), (1, .int v1), (2, .int v2), (3, .int v3), (5, .int v5)]) dX12_findDead_67 (by decide) rfl ?_
          refine zf_iinc hC (q := 5) (v := v5 + 1) (LV' := [(5, .int (v5 + 1)), (4, .int (gA k 126 (ix v5))), (0, .ref (g.2.1 11)), (1, .int v1), (2, .int v2), (3, .int v3)]) dX12_findDead_69 rfl rfl (by decide) rfl ?_
          refine zf_goto hC (tgt := 29) dX12_findDead_72 (by decide) ?_
          refine zf_lv (LV' := [(0, .ref (g.2.1 11)), (1, .int v1), (2, .int v2), (3, .int v3), (4, .int (gA k 126 (ix v5))), (5, .int (v5 + 1))]) [2, 3, 4, 5, 1, 0] rfl ?_
          exact ih (gA k 126 (ix v5)) (v5 + 1) k
      · refine zf_iinc hC (q := 5) (v := v5 + 1) (LV' := [(5, .int (v5 + 1)), (0, .ref (g.2.1 11)), (1, .int v1), (2, .int v2), (3, .int v3), (4, .int v4)]) dX12_findDead_69 rfl rfl (by decide) rfl ?_
        refine zf_goto hC (tgt := 29) dX12_findDead_72 (by decide) ?_
        refine zf_lv (LV' := [(0, .ref (g.2.1 11)), (1, .int v1), (2, .int v2), (3, .int v3), (4, .int v4), (5, .int (v5 + 1))]) [1, 2, 3, 4, 5, 0] rfl ?_
        exact ih v4 (v5 + 1) k
set_option maxRecDepth 20000 in
theorem zlpX12_findDead_93 {p : Program} {l : Launch} {e : Env} {R : Room} {s : State} {m : MethodId} {args : Array Value} {below : List Frame} {meth : Method} {c : Code} {g : GT} (hC : HC p s m args meth c cX12_findDead 6 RX12 none g) (hR : 35 ≤ R.frames ∧ 782 ≤ R.locals)  (v1 : Int32) (v2 : Int32) (v3 : Int32) (v4 : Int32) {cont : Int32 → ST → Option (Unit × ST)} (hk : ∀ (v5 : Int32) (k : ST), ZF p l e R s m args below meth c g TM voV 6 k 168 [(0, .ref (g.2.1 11)), (1, .int v1), (2, .int v2), (3, .int v3), (4, .int v4), (5, .int v5)] [] (cont v5 k)) : ∀ (n : Nat) (v5 : Int32) (k : ST), ZF p l e R s m args below meth c g TM voV 6 k 93 [(0, .ref (g.2.1 11)), (1, .int v1), (2, .int v2), (3, .int v3), (4, .int v4), (5, .int v5)] [] (lpX12_findDead_93 v1 v2 v3 v4 n v5 k cont) := by
  intro n
  induction n with
  | zero => intros; exact zf_none
  | succ n ih =>
    intro v5 k
    rw [lpX12_findDead_93]
    refine zf_iload hC dX12_findDead_93 5 rfl ?_
    refine zf_if_lt hC (tgt := 168) dX12_findDead_95 (by decide) (fun h16 => ?_) (fun h16 => ?_)
    · refine zf_lv (LV' := [(0, .ref (g.2.1 11)), (1, .int v1), (2, .int v2), (3, .int v3), (4, .int v4), (5, .int v5)]) [0, 1, 2, 3, 4, 5] rfl ?_
      exact hk v5 k
    · refine zf_aload_n hC dX12_findDead_98 rfl 0 rfl ?_
      refine gf_1277 hC dX12_findDead_99 ?_
      refine zf_iload hC dX12_findDead_102 5 rfl ?_
      refine zf_zald hC (j := 137) ia_137 rfl rfl dX12_findDead_104 (fun h17 => ?_)
      refine zf_if_eq hC (tgt := 162) dX12_findDead_105 (by decide) (fun h18 => ?_) (fun h18 => ?_)
      · refine zf_iinc hC (q := 5) (v := v5 + (-1)) (LV' := [(5, .int (v5 + (-1))), (0, .ref (g.2.1 11)), (1, .int v1), (2, .int v2), (3, .int v3), (4, .int v4)]) dX12_findDead_162 rfl rfl (by decide) rfl ?_
        refine zf_goto hC (tgt := 93) dX12_findDead_165 (by decide) ?_
        refine zf_lv (LV' := [(0, .ref (g.2.1 11)), (1, .int v1), (2, .int v2), (3, .int v3), (4, .int v4), (5, .int (v5 + (-1)))]) [1, 2, 3, 4, 5, 0] rfl ?_
        exact ih (v5 + (-1)) k
      · refine zf_aload_n hC dX12_findDead_108 rfl 0 rfl ?_
        refine gf_1272 hC dX12_findDead_109 ?_
        refine zf_iload hC dX12_findDead_112 5 rfl ?_
        refine zf_iald hC (j := 132) ia_132 rfl rfl dX12_findDead_114 (fun h19 => ?_)
        refine zf_iload_n hC dX12_findDead_115 rfl 3 rfl ?_
        refine zf_icmp_ne hC (tgt := 162) dX12_findDead_116 (by decide) (fun h20 => ?_) (fun h20 => ?_)
        · refine zf_aload_n hC dX12_findDead_119 rfl 0 rfl ?_
          refine gf_1276 hC dX12_findDead_120 ?_
          refine zf_iload hC dX12_findDead_123 5 rfl ?_
          refine zf_zald hC (j := 136) ia_136 rfl rfl dX12_findDead_125 (fun h21 => ?_)
          refine zf_if_eq hC (tgt := 162) dX12_findDead_126 (by decide) (fun h22 => ?_) (fun h22 => ?_)
          · refine zf_iinc hC (q := 5) (v := v5 + (-1)) (LV' := [(5, .int (v5 + (-1))), (0, .ref (g.2.1 11)), (1, .int v1), (2, .int v2), (3, .int v3), (4, .int v4)]) dX12_findDead_162 rfl rfl (by decide) rfl ?_
            refine zf_goto hC (tgt := 93) dX12_findDead_165 (by decide) ?_
            refine zf_lv (LV' := [(0, .ref (g.2.1 11)), (1, .int v1), (2, .int v2), (3, .int v3), (4, .int v4), (5, .int (v5 + (-1)))]) [1, 2, 3, 4, 5, 0] rfl ?_
            exact ih (v5 + (-1)) k
          · refine zf_aload_n hC dX12_findDead_129 rfl 0 rfl ?_
            refine gf_1273 hC dX12_findDead_130 ?_
            refine zf_iload hC dX12_findDead_133 5 rfl ?_
            refine zf_iald hC (j := 133) ia_133 rfl rfl dX12_findDead_135 (fun h23 => ?_)
            refine zf_iload_n hC dX12_findDead_136 rfl 1 rfl ?_
            refine zf_icmp_gt hC (tgt := 162) dX12_findDead_137 (by decide) (fun h24 => ?_) (fun h24 => ?_)
            · refine zf_iinc hC (q := 5) (v := v5 + (-1)) (LV' := [(5, .int (v5 + (-1))), (0, .ref (g.2.1 11)), (1, .int v1), (2, .int v2), (3, .int v3), (4, .int v4)]) dX12_findDead_162 rfl rfl (by decide) rfl ?_
              refine zf_goto hC (tgt := 93) dX12_findDead_165 (by decide) ?_
              refine zf_lv (LV' := [(0, .ref (g.2.1 11)), (1, .int v1), (2, .int v2), (3, .int v3), (4, .int v4), (5, .int (v5 + (-1)))]) [1, 2, 3, 4, 5, 0] rfl ?_
              exact ih (v5 + (-1)) k
            · refine zf_aload_n hC dX12_findDead_140 rfl 0 rfl ?_
              refine gf_1273 hC dX12_findDead_141 ?_
              refine zf_iload hC dX12_findDead_144 5 rfl ?_
              refine zf_iald hC (j := 133) ia_133 rfl rfl dX12_findDead_146 (fun h25 => ?_)
              refine zf_iload_n hC dX12_findDead_147 rfl 2 rfl ?_
              refine zf_icmp_gt hC (tgt := 162) dX12_findDead_148 (by decide) (fun h26 => ?_) (fun h26 => ?_)
              · refine zf_iinc hC (q := 5) (v := v5 + (-1)) (LV' := [(5, .int (v5 + (-1))), (0, .ref (g.2.1 11)), (1, .int v1), (2, .int v2), (3, .int v3), (4, .int v4)]) dX12_findDead_162 rfl rfl (by decide) rfl ?_
                refine zf_goto hC (tgt := 93) dX12_findDead_165 (by decide) ?_
                refine zf_lv (LV' := [(0, .ref (g.2.1 11)), (1, .int v1), (2, .int v2), (3, .int v3), (4, .int v4), (5, .int (v5 + (-1)))]) [1, 2, 3, 4, 5, 0] rfl ?_
                exact ih (v5 + (-1)) k
              · refine zf_aload_n hC dX12_findDead_151 rfl 0 rfl ?_
                refine zf_aload_n hC dX12_findDead_152 rfl 0 rfl ?_
                refine gf_1273 hC dX12_findDead_153 ?_
                refine zf_iload hC dX12_findDead_156 5 rfl ?_
                refine zf_iald hC (j := 133) ia_133 rfl rfl dX12_findDead_158 (fun h27 => ?_)
                refine pf_1291 hC dX12_findDead_159 ?_
                refine zf_nmk (fun k28 => ?_)
                refine zf_iinc hC (q := 5) (v := v5 + (-1)) (LV' := [(5, .int (v5 + (-1))), (0, .ref (g.2.1 11)), (1, .int v1), (2, .int v2), (3, .int v3), (4, .int v4)]) dX12_findDead_162 rfl rfl (by decide) rfl ?_
                refine zf_goto hC (tgt := 93) dX12_findDead_165 (by decide) ?_
                refine zf_lv (LV' := [(0, .ref (g.2.1 11)), (1, .int v1), (2, .int v2), (3, .int v3), (4, .int v4), (5, .int (v5 + (-1)))]) [1, 2, 3, 4, 5, 0] rfl ?_
                exact ih (v5 + (-1)) k28
        · refine zf_iinc hC (q := 5) (v := v5 + (-1)) (LV' := [(5, .int (v5 + (-1))), (0, .ref (g.2.1 11)), (1, .int v1), (2, .int v2), (3, .int v3), (4, .int v4)]) dX12_findDead_162 rfl rfl (by decide) rfl ?_
          refine zf_goto hC (tgt := 93) dX12_findDead_165 (by decide) ?_
          refine zf_lv (LV' := [(0, .ref (g.2.1 11)), (1, .int v1), (2, .int v2), (3, .int v3), (4, .int v4), (5, .int (v5 + (-1)))]) [1, 2, 3, 4, 5, 0] rfl ?_
          exact ih (v5 + (-1)) k
set_option maxRecDepth 20000 in
theorem zlpX12_findDead_17 {p : Program} {l : Launch} {e : Env} {R : Room} {s : State} {m : MethodId} {args : Array Value} {below : List Frame} {meth : Method} {c : Code} {g : GT} (hC : HC p s m args meth c cX12_findDead 6 RX12 none g) (hR : 35 ≤ R.frames ∧ 782 ≤ R.locals)  (v1 : Int32) (v2 : Int32) {cont : Int32 → ST → Option (Unit × ST)} (hk : ∀ (v3 : Int32) (k : ST), ZF p l e R s m args below meth c g TM voV 6 k 200 [(0, .ref (g.2.1 11)), (1, .int v1), (2, .int v2), (3, .int v3)] [] (cont v3 k)) : ∀ (n : Nat) (v3 : Int32) (k : ST), ZF p l e R s m args below meth c g TM voV 6 k 17 [(0, .ref (g.2.1 11)), (1, .int v1), (2, .int v2), (3, .int v3)] [] (lpX12_findDead_17 v1 v2 n v3 k cont) := by
  intro n
  induction n with
  | zero => intros; exact zf_none
  | succ n ih =>
    intro v3 k
    rw [lpX12_findDead_17]
    refine zf_iload_n hC dX12_findDead_17 rfl 3 rfl ?_
    refine zf_bipush hC (v := 12) dX12_findDead_18 rfl ?_
    refine zf_icmp_ge hC (tgt := 200) dX12_findDead_20 (by decide) (fun h4 => ?_) (fun h4 => ?_)
    · refine zf_lv (LV' := [(0, .ref (g.2.1 11)), (1, .int v1), (2, .int v2), (3, .int v3)]) [0, 1, 2, 3] rfl ?_
      exact hk v3 k
    · refine zf_iconst hC (v := (-1)) dX12_findDead_23 rfl ?_
      refine zf_istore hC (LV' := [(4, .int (-1)), (0, .ref (g.2.1 11)), (1, .int v1), (2, .int v2), (3, .int v3)]) dX12_findDead_24 (by decide) rfl ?_
      refine zf_iconst hC (v := 0) dX12_findDead_26 rfl ?_
      refine zf_istore hC (LV' := [(5, .int 0), (4, .int (-1)), (0, .ref (g.2.1 11)), (1, .int v1), (2, .int v2), (3, .int v3)]) dX12_findDead_27 (by decide) rfl ?_
      refine zf_lv (LV' := [(0, .ref (g.2.1 11)), (1, .int v1), (2, .int v2), (3, .int v3), (4, .int (-1)), (5, .int 0)]) [2, 3, 4, 5, 1, 0] rfl ?_
      refine zlpX12_findDead_29 hC hR v1 v2 v3 (fun y11 y12 k13 => ?_) FU (-1) 0 k
      refine zf_aload_n hC dX12_findDead_75 rfl 0 rfl ?_
      refine zf_iload_n hC dX12_findDead_76 rfl 3 rfl ?_
      refine pf_1288 hC dX12_findDead_77 ?_
      refine zf_nmk (fun k14 => ?_)
      refine zf_aload_n hC dX12_findDead_80 rfl 0 rfl ?_
      refine zf_iconst hC (v := (-1)) dX12_findDead_81 rfl ?_
      refine pf_1291 hC dX12_findDead_82 ?_
      refine zf_nmk (fun k15 => ?_)
      refine zf_aload_n hC dX12_findDead_85 rfl 0 rfl ?_
      refine gf_1281 hC dX12_findDead_86 ?_
      refine zf_iconst hC (v := 1) dX12_findDead_89 rfl ?_
      refine zf_isub hC dX12_findDead_90 ?_
      refine zf_istore hC (LV' := [(5, .int ((gI k15 11 51) - 1)), (0, .ref (g.2.1 11)), (1, .int v1), (2, .int v2), (3, .int v3), (4, .int y11)]) dX12_findDead_91 (by decide) rfl ?_
      refine zf_lv (LV' := [(0, .ref (g.2.1 11)), (1, .int v1), (2, .int v2), (3, .int v3), (4, .int y11), (5, .int ((gI k15 11 51) - 1))]) [1, 2, 3, 4, 5, 0] rfl ?_
      refine zlpX12_findDead_93 hC hR v1 v2 v3 y11 (fun y29 k30 => ?_) FU ((gI k15 11 51) - 1) k15
      refine zf_aload_n hC dX12_findDead_168 rfl 0 rfl ?_
      refine gf_1293 hC dX12_findDead_169 ?_
      refine zf_iload_n hC dX12_findDead_172 rfl 3 rfl ?_
      refine zf_iload hC dX12_findDead_173 4 rfl ?_
      refine zf_iconst hC (v := (-1)) dX12_findDead_175 rfl ?_
      refine zf_icmp_eq hC (tgt := 192) dX12_findDead_176 (by decide) (fun h31 => ?_) (fun h31 => ?_)
      · refine zf_iconst hC (v := 0) dX12_findDead_192 rfl ?_
        refine zf_zast hC (j := 138) ia_138 rfl rfl rfl dX12_findDead_193 (fun h32 => ?_)
        refine zf_nmk (fun k33 => ?_)
        refine zf_iinc hC (q := 3) (v := v3 + 1) (LV' := [(3, .int (v3 + 1)), (0, .ref (g.2.1 11)), (1, .int v1), (2, .int v2), (4, .int y11), (5, .int y29)]) dX12_findDead_194 rfl rfl (by decide) rfl ?_
        refine zf_goto hC (tgt := 17) dX12_findDead_197 (by decide) ?_
        refine zf_lv (LV' := [(0, .ref (g.2.1 11)), (1, .int v1), (2, .int v2), (3, .int (v3 + 1))]) [1, 2, 3, 0] rfl ?_
        exact ih (v3 + 1) k33
      · refine zf_aload_n hC dX12_findDead_179 rfl 0 rfl ?_
        refine zf_iload hC dX12_findDead_180 4 rfl ?_
        refine zf_callV hC (c_X12_holds l g y11) mt_X12_holds wd_1774 sp_79 ci_11 ic_11 wd_1772 rfl (rm_le hR rfl) rfl rfl (rest := [.int v3, .ref (g.2.1 150)]) rfl (Nat.le_of_ble_eq_true rfl) dX12_findDead_182 (fun r34 k35 h36 => ?_)
        refine zf_ifb_eq hC (tgt := 192) dX12_findDead_185 (by decide) (fun h37 => ?_) (fun h37 => ?_)
        · refine zf_iconst hC (v := 1) dX12_findDead_188 rfl ?_
          refine zf_goto hC (tgt := 193) dX12_findDead_189 (by decide) ?_
          refine zf_zast hC (j := 138) ia_138 rfl rfl rfl dX12_findDead_193 (fun h38 => ?_)
          refine zf_nmk (fun k39 => ?_)
          refine zf_iinc hC (q := 3) (v := v3 + 1) (LV' := [(3, .int (v3 + 1)), (0, .ref (g.2.1 11)), (1, .int v1), (2, .int v2), (4, .int y11), (5, .int y29)]) dX12_findDead_194 rfl rfl (by decide) rfl ?_
          refine zf_goto hC (tgt := 17) dX12_findDead_197 (by decide) ?_
          refine zf_lv (LV' := [(0, .ref (g.2.1 11)), (1, .int v1), (2, .int v2), (3, .int (v3 + 1))]) [1, 2, 3, 0] rfl ?_
          exact ih (v3 + 1) k39
        · refine zf_iconst hC (v := 0) dX12_findDead_192 rfl ?_
          refine zf_zast hC (j := 138) ia_138 rfl rfl rfl dX12_findDead_193 (fun h40 => ?_)
          refine zf_nmk (fun k41 => ?_)
          refine zf_iinc hC (q := 3) (v := v3 + 1) (LV' := [(3, .int (v3 + 1)), (0, .ref (g.2.1 11)), (1, .int v1), (2, .int v2), (4, .int y11), (5, .int y29)]) dX12_findDead_194 rfl rfl (by decide) rfl ?_
          refine zf_goto hC (tgt := 17) dX12_findDead_197 (by decide) ?_
          refine zf_lv (LV' := [(0, .ref (g.2.1 11)), (1, .int v1), (2, .int v2), (3, .int (v3 + 1))]) [1, 2, 3, 0] rfl ?_
          exact ih (v3 + 1) k41
def fX12_findDead (k : ST) (a0 : Int32) (a1 : Int32) : Option (Unit × ST) := nm (sI k 11 62 1) fun k1 => nm (sI k1 11 59 a0) fun k2 => nm (sI k2 11 60 a1) fun k3 => lpX12_findDead_17 a0 a1 FU 0 k3 fun y42 k43 => some ((), k43)
set_option maxRecDepth 20000 in
theorem c_X12_findDead (l : Launch) (g : GT) (a0 : Int32) (a1 : Int32) : CN l yX12_findDead cX12_findDead 6 none { frames := 35, cells := 0, slots := 0, locals := 782 } g TM voV [.ref (g.2.1 11), .int a0, .int a1] (fun k => fX12_findDead k a0 a1) := by
  refine cn_of (by decide) (Nat.le_of_ble_eq_true rfl) ?_
  intro p e s m args below meth c hC k
  have hC : HC p s m args meth c cX12_findDead 6 RX12 none g := hC
  have hR : 35 ≤ ({ frames := 35, cells := 0, slots := 0, locals := 782 } : Room).frames ∧ 782 ≤ ({ frames := 35, cells := 0, slots := 0, locals := 782 } : Room).locals := ⟨Nat.le_refl _, Nat.le_refl _⟩
  show ZF p l e _ s m args below meth c g TM voV 6 k 0 [(0, .ref (g.2.1 11)), (1, .int a0), (2, .int a1)] [] (fX12_findDead k a0 a1)
  unfold fX12_findDead
  refine zf_aload_n hC dX12_findDead_0 rfl 0 rfl ?_
  refine zf_iconst hC (v := 1) dX12_findDead_1 rfl ?_
  refine pf_1292 hC true rfl dX12_findDead_2 ?_
  refine zf_nmk (fun k1 => ?_)
  refine zf_aload_n hC dX12_findDead_5 rfl 0 rfl ?_
  refine zf_iload_n hC dX12_findDead_6 rfl 1 rfl ?_
  refine pf_1289 hC dX12_findDead_7 ?_
  refine zf_nmk (fun k2 => ?_)
  refine zf_aload_n hC dX12_findDead_10 rfl 0 rfl ?_
  refine zf_iload_n hC dX12_findDead_11 rfl 2 rfl ?_
  refine pf_1290 hC dX12_findDead_12 ?_
  refine zf_nmk (fun k3 => ?_)
  refine zf_iconst hC (v := 0) dX12_findDead_15 rfl ?_
  refine zf_istore_n hC (LV' := [(3, .int 0), (0, .ref (g.2.1 11)), (1, .int a0), (2, .int a1)]) dX12_findDead_16 rfl (by decide) rfl ?_
  refine zf_lv (LV' := [(0, .ref (g.2.1 11)), (1, .int a0), (2, .int a1), (3, .int 0)]) [1, 2, 3, 0] rfl ?_
  refine zlpX12_findDead_17 hC hR a0 a1 (fun y42 k43 => ?_) FU 0 k3
  exact zf_vret hC rfl dX12_findDead_200
/-! LifeKeysModel.holdsFor -/
theorem dX12_holdsFor_0 : decode cX12_holdsFor 0 = .ok (.aload_n 0, 1) := by decide +kernel
theorem dX12_holdsFor_1 : decode cX12_holdsFor 1 = .ok (.iload_n 2, 1) := by decide +kernel
theorem dX12_holdsFor_2 : decode cX12_holdsFor 2 = .ok (.iload_n 3, 1) := by decide +kernel
theorem dX12_holdsFor_3 : decode cX12_holdsFor 3 = .ok (.invokevirtual 394, 3) := by decide +kernel
theorem dX12_holdsFor_6 : decode cX12_holdsFor 6 = .ok (.aload_n 0, 1) := by decide +kernel
theorem dX12_holdsFor_7 : decode cX12_holdsFor 7 = .ok (.iconst 0, 1) := by decide +kernel
theorem dX12_holdsFor_8 : decode cX12_holdsFor 8 = .ok (.putfield 360, 3) := by decide +kernel
theorem dX12_holdsFor_11 : decode cX12_holdsFor 11 = .ok (.aload_n 0, 1) := by decide +kernel
theorem dX12_holdsFor_12 : decode cX12_holdsFor 12 = .ok (.iload_n 1, 1) := by decide +kernel
theorem dX12_holdsFor_13 : decode cX12_holdsFor 13 = .ok (.putfield 378, 3) := by decide +kernel
theorem dX12_holdsFor_16 : decode cX12_holdsFor 16 = .ok (.aload_n 0, 1) := by decide +kernel
theorem dX12_holdsFor_17 : decode cX12_holdsFor 17 = .ok (.aload_n 0, 1) := by decide +kernel
theorem dX12_holdsFor_18 : decode cX12_holdsFor 18 = .ok (.getfield 106, 3) := by decide +kernel
theorem dX12_holdsFor_21 : decode cX12_holdsFor 21 = .ok (.iload_n 1, 1) := by decide +kernel
theorem dX12_holdsFor_22 : decode cX12_holdsFor 22 = .ok (.iaload, 1) := by decide +kernel
theorem dX12_holdsFor_23 : decode cX12_holdsFor 23 = .ok (.iconst (-1), 1) := by decide +kernel
theorem dX12_holdsFor_24 : decode cX12_holdsFor 24 = .ok (.if_icmp .eq 32, 3) := by decide +kernel
theorem dX12_holdsFor_27 : decode cX12_holdsFor 27 = .ok (.aload_n 0, 1) := by decide +kernel
theorem dX12_holdsFor_28 : decode cX12_holdsFor 28 = .ok (.getfield 106, 3) := by decide +kernel
theorem dX12_holdsFor_31 : decode cX12_holdsFor 31 = .ok (.iload_n 1, 1) := by decide +kernel
theorem dX12_holdsFor_32 : decode cX12_holdsFor 32 = .ok (.iaload, 1) := by decide +kernel
theorem dX12_holdsFor_33 : decode cX12_holdsFor 33 = .ok (.iload_n 2, 1) := by decide +kernel
theorem dX12_holdsFor_34 : decode cX12_holdsFor 34 = .ok (.if_icmp .gt 22, 3) := by decide +kernel
theorem dX12_holdsFor_37 : decode cX12_holdsFor 37 = .ok (.aload_n 0, 1) := by decide +kernel
theorem dX12_holdsFor_38 : decode cX12_holdsFor 38 = .ok (.getfield 106, 3) := by decide +kernel
theorem dX12_holdsFor_41 : decode cX12_holdsFor 41 = .ok (.iload_n 1, 1) := by decide +kernel
theorem dX12_holdsFor_42 : decode cX12_holdsFor 42 = .ok (.iaload, 1) := by decide +kernel
theorem dX12_holdsFor_43 : decode cX12_holdsFor 43 = .ok (.iload_n 3, 1) := by decide +kernel
theorem dX12_holdsFor_44 : decode cX12_holdsFor 44 = .ok (.if_icmp .gt 12, 3) := by decide +kernel
theorem dX12_holdsFor_47 : decode cX12_holdsFor 47 = .ok (.aload_n 0, 1) := by decide +kernel
theorem dX12_holdsFor_48 : decode cX12_holdsFor 48 = .ok (.getfield 106, 3) := by decide +kernel
theorem dX12_holdsFor_51 : decode cX12_holdsFor 51 = .ok (.iload_n 1, 1) := by decide +kernel
theorem dX12_holdsFor_52 : decode cX12_holdsFor 52 = .ok (.iaload, 1) := by decide +kernel
theorem dX12_holdsFor_53 : decode cX12_holdsFor 53 = .ok (.goto 4, 3) := by decide +kernel
theorem dX12_holdsFor_56 : decode cX12_holdsFor 56 = .ok (.iconst (-1), 1) := by decide +kernel
theorem dX12_holdsFor_57 : decode cX12_holdsFor 57 = .ok (.putfield 369, 3) := by decide +kernel
theorem dX12_holdsFor_60 : decode cX12_holdsFor 60 = .ok (.aload_n 0, 1) := by decide +kernel
theorem dX12_holdsFor_61 : decode cX12_holdsFor 61 = .ok (.aload_n 0, 1) := by decide +kernel
theorem dX12_holdsFor_62 : decode cX12_holdsFor 62 = .ok (.getfield 103, 3) := by decide +kernel
theorem dX12_holdsFor_65 : decode cX12_holdsFor 65 = .ok (.iload_n 1, 1) := by decide +kernel
theorem dX12_holdsFor_66 : decode cX12_holdsFor 66 = .ok (.iaload, 1) := by decide +kernel
theorem dX12_holdsFor_67 : decode cX12_holdsFor 67 = .ok (.invokevirtual 391, 3) := by decide +kernel
theorem dX12_holdsFor_70 : decode cX12_holdsFor 70 = .ok (.ireturn, 1) := by decide +kernel
def fX12_holdsFor (k : ST) (a0 : Int32) (a1 : Int32) (a2 : Int32) : Option (Bool × ST) := ob (fX12_findDead k a1 a2) fun r1 k2 => nm (sI k2 11 62 0) fun k4 => nm (sI k4 11 58 a0) fun k5 => ck (inb a0 40) (if (gA k5 130 (ix a0)) = (-1) then nm (sI k5 11 61 (-1)) fun k8 => ck (inb a0 40) (ob (fX12_holds k8 (gA k8 129 (ix a0))) fun r10 k11 => some (r10, k11)) else ck (inb a0 40) (if a1 < (gA k5 130 (ix a0)) then nm (sI k5 11 61 (-1)) fun k15 => ck (inb a0 40) (ob (fX12_holds k15 (gA k15 129 (ix a0))) fun r17 k18 => some (r17, k18)) else ck (inb a0 40) (if a2 < (gA k5 130 (ix a0)) then nm (sI k5 11 61 (-1)) fun k22 => ck (inb a0 40) (ob (fX12_holds k22 (gA k22 129 (ix a0))) fun r24 k25 => some (r24, k25)) else ck (inb a0 40) (nm (sI k5 11 61 (gA k5 130 (ix a0))) fun k28 => ck (inb a0 40) (ob (fX12_holds k28 (gA k28 129 (ix a0))) fun r30 k31 => some (r30, k31))))))
set_option maxRecDepth 20000 in
theorem c_X12_holdsFor (l : Launch) (g : GT) (a0 : Int32) (a1 : Int32) (a2 : Int32) : CN l yX12_holdsFor cX12_holdsFor 4 (some .boolean) { frames := 36, cells := 0, slots := 0, locals := 807 } g TM voB [.ref (g.2.1 11), .int a0, .int a1, .int a2] (fun k => fX12_holdsFor k a0 a1 a2) := by
  refine cn_of (by decide) (Nat.le_of_ble_eq_true rfl) ?_
  intro p e s m args below meth c hC k
  have hC : HC p s m args meth c cX12_holdsFor 4 RX12 (some .boolean) g := hC
  have hR : 36 ≤ ({ frames := 36, cells := 0, slots := 0, locals := 807 } : Room).frames ∧ 807 ≤ ({ frames := 36, cells := 0, slots := 0, locals := 807 } : Room).locals := ⟨Nat.le_refl _, Nat.le_refl _⟩
  show ZF p l e _ s m args below meth c g TM voB 4 k 0 [(0, .ref (g.2.1 11)), (1, .int a0), (2, .int a1), (3, .int a2)] [] (fX12_holdsFor k a0 a1 a2)
  unfold fX12_holdsFor
  refine zf_aload_n hC dX12_holdsFor_0 rfl 0 rfl ?_
  refine zf_iload_n hC dX12_holdsFor_1 rfl 2 rfl ?_
  refine zf_iload_n hC dX12_holdsFor_2 rfl 3 rfl ?_
  refine zf_callV hC (c_X12_findDead l g a1 a2) mt_X12_findDead wd_1770 sp_78 ci_11 ic_11 wd_1768 rfl (rm_le hR rfl) rfl rfl (rest := []) rfl (Nat.le_of_ble_eq_true rfl) dX12_holdsFor_3 (fun r1 k2 h3 => ?_)
  refine zf_aload_n hC dX12_holdsFor_6 rfl 0 rfl ?_
  refine zf_iconst hC (v := 0) dX12_holdsFor_7 rfl ?_
  refine pf_1292 hC false rfl dX12_holdsFor_8 ?_
  refine zf_nmk (fun k4 => ?_)
  refine zf_aload_n hC dX12_holdsFor_11 rfl 0 rfl ?_
  refine zf_iload_n hC dX12_holdsFor_12 rfl 1 rfl ?_
  refine pf_1288 hC dX12_holdsFor_13 ?_
  refine zf_nmk (fun k5 => ?_)
  refine zf_aload_n hC dX12_holdsFor_16 rfl 0 rfl ?_
  refine zf_aload_n hC dX12_holdsFor_17 rfl 0 rfl ?_
  refine gf_1270 hC dX12_holdsFor_18 ?_
  refine zf_iload_n hC dX12_holdsFor_21 rfl 1 rfl ?_
  refine zf_iald hC (j := 130) ia_130 rfl rfl dX12_holdsFor_22 (fun h6 => ?_)
  refine zf_iconst hC (v := (-1)) dX12_holdsFor_23 rfl ?_
  refine zf_icmp_eq hC (tgt := 56) dX12_holdsFor_24 (by decide) (fun h7 => ?_) (fun h7 => ?_)
  · refine zf_iconst hC (v := (-1)) dX12_holdsFor_56 rfl ?_
    refine pf_1291 hC dX12_holdsFor_57 ?_
    refine zf_nmk (fun k8 => ?_)
    refine zf_aload_n hC dX12_holdsFor_60 rfl 0 rfl ?_
    refine zf_aload_n hC dX12_holdsFor_61 rfl 0 rfl ?_
    refine gf_1269 hC dX12_holdsFor_62 ?_
    refine zf_iload_n hC dX12_holdsFor_65 rfl 1 rfl ?_
    refine zf_iald hC (j := 129) ia_129 rfl rfl dX12_holdsFor_66 (fun h9 => ?_)
    refine zf_callV hC (c_X12_holds l g (gA k8 129 (ix a0))) mt_X12_holds wd_1774 sp_79 ci_11 ic_11 wd_1772 rfl (rm_le hR rfl) rfl rfl (rest := []) rfl (Nat.le_of_ble_eq_true rfl) dX12_holdsFor_67 (fun r10 k11 h12 => ?_)
    exact zf_zret hC rfl r10 rfl dX12_holdsFor_70
  · refine zf_aload_n hC dX12_holdsFor_27 rfl 0 rfl ?_
    refine gf_1270 hC dX12_holdsFor_28 ?_
    refine zf_iload_n hC dX12_holdsFor_31 rfl 1 rfl ?_
    refine zf_iald hC (j := 130) ia_130 rfl rfl dX12_holdsFor_32 (fun h13 => ?_)
    refine zf_iload_n hC dX12_holdsFor_33 rfl 2 rfl ?_
    refine zf_icmp_gt hC (tgt := 56) dX12_holdsFor_34 (by decide) (fun h14 => ?_) (fun h14 => ?_)
    · refine zf_iconst hC (v := (-1)) dX12_holdsFor_56 rfl ?_
      refine pf_1291 hC dX12_holdsFor_57 ?_
      refine zf_nmk (fun k15 => ?_)
      refine zf_aload_n hC dX12_holdsFor_60 rfl 0 rfl ?_
      refine zf_aload_n hC dX12_holdsFor_61 rfl 0 rfl ?_
      refine gf_1269 hC dX12_holdsFor_62 ?_
      refine zf_iload_n hC dX12_holdsFor_65 rfl 1 rfl ?_
      refine zf_iald hC (j := 129) ia_129 rfl rfl dX12_holdsFor_66 (fun h16 => ?_)
      refine zf_callV hC (c_X12_holds l g (gA k15 129 (ix a0))) mt_X12_holds wd_1774 sp_79 ci_11 ic_11 wd_1772 rfl (rm_le hR rfl) rfl rfl (rest := []) rfl (Nat.le_of_ble_eq_true rfl) dX12_holdsFor_67 (fun r17 k18 h19 => ?_)
      exact zf_zret hC rfl r17 rfl dX12_holdsFor_70
    · refine zf_aload_n hC dX12_holdsFor_37 rfl 0 rfl ?_
      refine gf_1270 hC dX12_holdsFor_38 ?_
      refine zf_iload_n hC dX12_holdsFor_41 rfl 1 rfl ?_
      refine zf_iald hC (j := 130) ia_130 rfl rfl dX12_holdsFor_42 (fun h20 => ?_)
      refine zf_iload_n hC dX12_holdsFor_43 rfl 3 rfl ?_
      refine zf_icmp_gt hC (tgt := 56) dX12_holdsFor_44 (by decide) (fun h21 => ?_) (fun h21 => ?_)
      · refine zf_iconst hC (v := (-1)) dX12_holdsFor_56 rfl ?_
        refine pf_1291 hC dX12_holdsFor_57 ?_
        refine zf_nmk (fun k22 => ?_)
        refine zf_aload_n hC dX12_holdsFor_60 rfl 0 rfl ?_
        refine zf_aload_n hC dX12_holdsFor_61 rfl 0 rfl ?_
        refine gf_1269 hC dX12_holdsFor_62 ?_
        refine zf_iload_n hC dX12_holdsFor_65 rfl 1 rfl ?_
        refine zf_iald hC (j := 129) ia_129 rfl rfl dX12_holdsFor_66 (fun h23 => ?_)
        refine zf_callV hC (c_X12_holds l g (gA k22 129 (ix a0))) mt_X12_holds wd_1774 sp_79 ci_11 ic_11 wd_1772 rfl (rm_le hR rfl) rfl rfl (rest := []) rfl (Nat.le_of_ble_eq_true rfl) dX12_holdsFor_67 (fun r24 k25 h26 => ?_)
        exact zf_zret hC rfl r24 rfl dX12_holdsFor_70
      · refine zf_aload_n hC dX12_holdsFor_47 rfl 0 rfl ?_
        refine gf_1270 hC dX12_holdsFor_48 ?_
        refine zf_iload_n hC dX12_holdsFor_51 rfl 1 rfl ?_
        refine zf_iald hC (j := 130) ia_130 rfl rfl dX12_holdsFor_52 (fun h27 => ?_)
        refine zf_goto hC (tgt := 57) dX12_holdsFor_53 (by decide) ?_
        refine pf_1291 hC dX12_holdsFor_57 ?_
        refine zf_nmk (fun k28 => ?_)
        refine zf_aload_n hC dX12_holdsFor_60 rfl 0 rfl ?_
        refine zf_aload_n hC dX12_holdsFor_61 rfl 0 rfl ?_
        refine gf_1269 hC dX12_holdsFor_62 ?_
        refine zf_iload_n hC dX12_holdsFor_65 rfl 1 rfl ?_
        refine zf_iald hC (j := 129) ia_129 rfl rfl dX12_holdsFor_66 (fun h29 => ?_)
        refine zf_callV hC (c_X12_holds l g (gA k28 129 (ix a0))) mt_X12_holds wd_1774 sp_79 ci_11 ic_11 wd_1772 rfl (rm_le hR rfl) rfl rfl (rest := []) rfl (Nat.le_of_ble_eq_true rfl) dX12_holdsFor_67 (fun r30 k31 h32 => ?_)
        exact zf_zret hC rfl r30 rfl dX12_holdsFor_70
/-! LifeKeysModel.may -/
theorem dX12_may_0 : decode cX12_may 0 = .ok (.aload_n 0, 1) := by decide +kernel
theorem dX12_may_1 : decode cX12_may 1 = .ok (.iconst 0, 1) := by decide +kernel
theorem dX12_may_2 : decode cX12_may 2 = .ok (.putfield 181, 3) := by decide +kernel
theorem dX12_may_5 : decode cX12_may 5 = .ok (.aload_n 0, 1) := by decide +kernel
theorem dX12_may_6 : decode cX12_may 6 = .ok (.iload_n 1, 1) := by decide +kernel
theorem dX12_may_7 : decode cX12_may 7 = .ok (.invokevirtual 409, 3) := by decide +kernel
theorem dX12_may_10 : decode cX12_may 10 = .ok (.ifCond .eq 27, 3) := by decide +kernel
theorem dX12_may_13 : decode cX12_may 13 = .ok (.aload_n 0, 1) := by decide +kernel
theorem dX12_may_14 : decode cX12_may 14 = .ok (.getfield 118, 3) := by decide +kernel
theorem dX12_may_17 : decode cX12_may 17 = .ok (.iload_n 1, 1) := by decide +kernel
theorem dX12_may_18 : decode cX12_may 18 = .ok (.baload, 1) := by decide +kernel
theorem dX12_may_19 : decode cX12_may 19 = .ok (.ifCond .eq 18, 3) := by decide +kernel
theorem dX12_may_22 : decode cX12_may 22 = .ok (.iload_n 2, 1) := by decide +kernel
theorem dX12_may_23 : decode cX12_may 23 = .ok (.invokestatic 416, 3) := by decide +kernel
theorem dX12_may_26 : decode cX12_may 26 = .ok (.ifCond .eq 11, 3) := by decide +kernel
theorem dX12_may_29 : decode cX12_may 29 = .ok (.aload_n 0, 1) := by decide +kernel
theorem dX12_may_30 : decode cX12_may 30 = .ok (.iload_n 3, 1) := by decide +kernel
theorem dX12_may_31 : decode cX12_may 31 = .ok (.invokevirtual 307, 3) := by decide +kernel
theorem dX12_may_34 : decode cX12_may 34 = .ok (.ifCond .ne 7, 3) := by decide +kernel
theorem dX12_may_37 : decode cX12_may 37 = .ok (.iconst (-1), 1) := by decide +kernel
theorem dX12_may_38 : decode cX12_may 38 = .ok (.goto 18, 3) := by decide +kernel
theorem dX12_may_41 : decode cX12_may 41 = .ok (.aload_n 0, 1) := by decide +kernel
theorem dX12_may_42 : decode cX12_may 42 = .ok (.iload_n 1, 1) := by decide +kernel
theorem dX12_may_43 : decode cX12_may 43 = .ok (.iload_n 2, 1) := by decide +kernel
theorem dX12_may_44 : decode cX12_may 44 = .ok (.iload_n 3, 1) := by decide +kernel
theorem dX12_may_45 : decode cX12_may 45 = .ok (.invokevirtual 419, 3) := by decide +kernel
theorem dX12_may_48 : decode cX12_may 48 = .ok (.ifCond .eq 7, 3) := by decide +kernel
theorem dX12_may_51 : decode cX12_may 51 = .ok (.iconst 1, 1) := by decide +kernel
theorem dX12_may_52 : decode cX12_may 52 = .ok (.goto 4, 3) := by decide +kernel
theorem dX12_may_55 : decode cX12_may 55 = .ok (.iconst 0, 1) := by decide +kernel
theorem dX12_may_56 : decode cX12_may 56 = .ok (.ireturn, 1) := by decide +kernel
def fX12_may (k : ST) (a0 : Int32) (a1 : Int32) (a2 : Int32) : Option (Int32 × ST) := nm (sI k 11 0 0) fun k1 => ob (fX12_isThing k1 a0) fun r2 k3 => if r2 = true then ck (inb a0 40) (if (gA k3 134 (ix a0)) = 0 then some ((-1), k3) else ob (fX12_isDay k3 a1) fun r8 k9 => if r8 = true then ob (fX12_isKnown k9 a2) fun r12 k13 => if r12 = true then ob (fX12_holdsFor k13 a0 a1 a2) fun r16 k17 => if r16 = true then some (1, k17) else some (0, k17) else some ((-1), k13) else some ((-1), k9)) else some ((-1), k3)
set_option maxRecDepth 20000 in
theorem c_X12_may (l : Launch) (g : GT) (a0 : Int32) (a1 : Int32) (a2 : Int32) : CN l yX12_may cX12_may 4 (some .int) { frames := 37, cells := 0, slots := 0, locals := 830 } g TM voI [.ref (g.2.1 11), .int a0, .int a1, .int a2] (fun k => fX12_may k a0 a1 a2) := by
  refine cn_of (by decide) (Nat.le_of_ble_eq_true rfl) ?_
  intro p e s m args below meth c hC k
  have hC : HC p s m args meth c cX12_may 4 RX12 (some .int) g := hC
  have hR : 37 ≤ ({ frames := 37, cells := 0, slots := 0, locals := 830 } : Room).frames ∧ 830 ≤ ({ frames := 37, cells := 0, slots := 0, locals := 830 } : Room).locals := ⟨Nat.le_refl _, Nat.le_refl _⟩
  show ZF p l e _ s m args below meth c g TM voI 4 k 0 [(0, .ref (g.2.1 11)), (1, .int a0), (2, .int a1), (3, .int a2)] [] (fX12_may k a0 a1 a2)
  unfold fX12_may
  refine zf_aload_n hC dX12_may_0 rfl 0 rfl ?_
  refine zf_iconst hC (v := 0) dX12_may_1 rfl ?_
  refine pf_1230 hC dX12_may_2 ?_
  refine zf_nmk (fun k1 => ?_)
  refine zf_aload_n hC dX12_may_5 rfl 0 rfl ?_
  refine zf_iload_n hC dX12_may_6 rfl 1 rfl ?_
  refine zf_callV hC (c_X12_isThing l g a0) mt_X12_isThing wd_1743 sp_75 ci_11 ic_11 wd_1741 rfl (rm_le hR rfl) rfl rfl (rest := []) rfl (Nat.le_of_ble_eq_true rfl) dX12_may_7 (fun r2 k3 h4 => ?_)
  refine zf_ifb_eq hC (tgt := 37) dX12_may_10 (by decide) (fun h5 => ?_) (fun h5 => ?_)
  · refine zf_aload_n hC dX12_may_13 rfl 0 rfl ?_
    refine gf_1274 hC dX12_may_14 ?_
    refine zf_iload_n hC dX12_may_17 rfl 1 rfl ?_
    refine zf_zald hC (j := 134) ia_134 rfl rfl dX12_may_18 (fun h6 => ?_)
    refine zf_if_eq hC (tgt := 37) dX12_may_19 (by decide) (fun h7 => ?_) (fun h7 => ?_)
    · refine zf_iconst hC (v := (-1)) dX12_may_37 rfl ?_
      refine zf_goto hC (tgt := 56) dX12_may_38 (by decide) ?_
      exact zf_iret hC rfl dX12_may_56
    · refine zf_iload_n hC dX12_may_22 rfl 2 rfl ?_
      refine zf_callS hC (c_X12_isDay l g TM a1) mt_X12_isDay wd_1762 wd_1761 rfl (rm_le hR rfl) rfl rfl (rest := []) rfl (Nat.le_of_ble_eq_true rfl) dX12_may_23 (fun r8 k9 h10 => ?_)
      refine zf_ifb_eq hC (tgt := 37) dX12_may_26 (by decide) (fun h11 => ?_) (fun h11 => ?_)
      · refine zf_aload_n hC dX12_may_29 rfl 0 rfl ?_
        refine zf_iload_n hC dX12_may_30 rfl 3 rfl ?_
        refine zf_callV hC (c_X12_isKnown l g a2) mt_X12_isKnown wd_1645 sp_56 ci_11 ic_11 wd_1643 rfl (rm_le hR rfl) rfl rfl (rest := []) rfl (Nat.le_of_ble_eq_true rfl) dX12_may_31 (fun r12 k13 h14 => ?_)
        refine zf_ifb_ne hC (tgt := 41) dX12_may_34 (by decide) (fun h15 => ?_) (fun h15 => ?_)
        · refine zf_aload_n hC dX12_may_41 rfl 0 rfl ?_
          refine zf_iload_n hC dX12_may_42 rfl 1 rfl ?_
          refine zf_iload_n hC dX12_may_43 rfl 2 rfl ?_
          refine zf_iload_n hC dX12_may_44 rfl 3 rfl ?_
          refine zf_callV hC (c_X12_holdsFor l g a0 a1 a2) mt_X12_holdsFor wd_1766 sp_77 ci_11 ic_11 wd_1764 rfl (rm_le hR rfl) rfl rfl (rest := []) rfl (Nat.le_of_ble_eq_true rfl) dX12_may_45 (fun r16 k17 h18 => ?_)
          refine zf_ifb_eq hC (tgt := 55) dX12_may_48 (by decide) (fun h19 => ?_) (fun h19 => ?_)
          · refine zf_iconst hC (v := 1) dX12_may_51 rfl ?_
            refine zf_goto hC (tgt := 56) dX12_may_52 (by decide) ?_
            exact zf_iret hC rfl dX12_may_56
          · refine zf_iconst hC (v := 0) dX12_may_55 rfl ?_
            exact zf_iret hC rfl dX12_may_56
        · refine zf_iconst hC (v := (-1)) dX12_may_37 rfl ?_
          refine zf_goto hC (tgt := 56) dX12_may_38 (by decide) ?_
          exact zf_iret hC rfl dX12_may_56
      · refine zf_iconst hC (v := (-1)) dX12_may_37 rfl ?_
        refine zf_goto hC (tgt := 56) dX12_may_38 (by decide) ?_
        exact zf_iret hC rfl dX12_may_56
  · refine zf_iconst hC (v := (-1)) dX12_may_37 rfl ?_
    refine zf_goto hC (tgt := 56) dX12_may_38 (by decide) ?_
    exact zf_iret hC rfl dX12_may_56
/-! LifeKeysModel.dead -/
theorem dX12_dead_0 : decode cX12_dead 0 = .ok (.aload_n 0, 1) := by decide +kernel
theorem dX12_dead_1 : decode cX12_dead 1 = .ok (.iconst 0, 1) := by decide +kernel
theorem dX12_dead_2 : decode cX12_dead 2 = .ok (.putfield 181, 3) := by decide +kernel
theorem dX12_dead_5 : decode cX12_dead 5 = .ok (.aload_n 0, 1) := by decide +kernel
theorem dX12_dead_6 : decode cX12_dead 6 = .ok (.iload_n 1, 1) := by decide +kernel
theorem dX12_dead_7 : decode cX12_dead 7 = .ok (.invokevirtual 226, 3) := by decide +kernel
theorem dX12_dead_10 : decode cX12_dead 10 = .ok (.ifCond .eq 18, 3) := by decide +kernel
theorem dX12_dead_13 : decode cX12_dead 13 = .ok (.iload_n 2, 1) := by decide +kernel
theorem dX12_dead_14 : decode cX12_dead 14 = .ok (.invokestatic 416, 3) := by decide +kernel
theorem dX12_dead_17 : decode cX12_dead 17 = .ok (.ifCond .eq 11, 3) := by decide +kernel
theorem dX12_dead_20 : decode cX12_dead 20 = .ok (.aload_n 0, 1) := by decide +kernel
theorem dX12_dead_21 : decode cX12_dead 21 = .ok (.iload_n 3, 1) := by decide +kernel
theorem dX12_dead_22 : decode cX12_dead 22 = .ok (.invokevirtual 307, 3) := by decide +kernel
theorem dX12_dead_25 : decode cX12_dead 25 = .ok (.ifCond .ne 5, 3) := by decide +kernel
theorem dX12_dead_28 : decode cX12_dead 28 = .ok (.iconst (-1), 1) := by decide +kernel
theorem dX12_dead_29 : decode cX12_dead 29 = .ok (.ireturn, 1) := by decide +kernel
theorem dX12_dead_30 : decode cX12_dead 30 = .ok (.aload_n 0, 1) := by decide +kernel
theorem dX12_dead_31 : decode cX12_dead 31 = .ok (.iload_n 2, 1) := by decide +kernel
theorem dX12_dead_32 : decode cX12_dead 32 = .ok (.iload_n 3, 1) := by decide +kernel
theorem dX12_dead_33 : decode cX12_dead 33 = .ok (.invokevirtual 394, 3) := by decide +kernel
theorem dX12_dead_36 : decode cX12_dead 36 = .ok (.aload_n 0, 1) := by decide +kernel
theorem dX12_dead_37 : decode cX12_dead 37 = .ok (.getfield 133, 3) := by decide +kernel
theorem dX12_dead_40 : decode cX12_dead 40 = .ok (.iload_n 1, 1) := by decide +kernel
theorem dX12_dead_41 : decode cX12_dead 41 = .ok (.baload, 1) := by decide +kernel
theorem dX12_dead_42 : decode cX12_dead 42 = .ok (.ifCond .eq 7, 3) := by decide +kernel
theorem dX12_dead_45 : decode cX12_dead 45 = .ok (.iconst 1, 1) := by decide +kernel
theorem dX12_dead_46 : decode cX12_dead 46 = .ok (.goto 4, 3) := by decide +kernel
theorem dX12_dead_49 : decode cX12_dead 49 = .ok (.iconst 0, 1) := by decide +kernel
theorem dX12_dead_50 : decode cX12_dead 50 = .ok (.ireturn, 1) := by decide +kernel
def fX12_dead (k : ST) (a0 : Int32) (a1 : Int32) (a2 : Int32) : Option (Int32 × ST) := nm (sI k 11 0 0) fun k1 => ob (fX12_isHolder k1 a0) fun r2 k3 => if r2 = true then ob (fX12_isDay k3 a1) fun r6 k7 => if r6 = true then ob (fX12_isKnown k7 a2) fun r10 k11 => if r10 = true then ob (fX12_findDead k11 a1 a2) fun r14 k15 => ck (inb a0 12) (if (gA k15 138 (ix a0)) = 0 then some (0, k15) else some (1, k15)) else some ((-1), k11) else some ((-1), k7) else some ((-1), k3)
set_option maxRecDepth 20000 in
theorem c_X12_dead (l : Launch) (g : GT) (a0 : Int32) (a1 : Int32) (a2 : Int32) : CN l yX12_dead cX12_dead 4 (some .int) { frames := 36, cells := 0, slots := 0, locals := 807 } g TM voI [.ref (g.2.1 11), .int a0, .int a1, .int a2] (fun k => fX12_dead k a0 a1 a2) := by
  refine cn_of (by decide) (Nat.le_of_ble_eq_true rfl) ?_
  intro p e s m args below meth c hC k
  have hC : HC p s m args meth c cX12_dead 4 RX12 (some .int) g := hC
  have hR : 36 ≤ ({ frames := 36, cells := 0, slots := 0, locals := 807 } : Room).frames ∧ 807 ≤ ({ frames := 36, cells := 0, slots := 0, locals := 807 } : Room).locals := ⟨Nat.le_refl _, Nat.le_refl _⟩
  show ZF p l e _ s m args below meth c g TM voI 4 k 0 [(0, .ref (g.2.1 11)), (1, .int a0), (2, .int a1), (3, .int a2)] [] (fX12_dead k a0 a1 a2)
  unfold fX12_dead
  refine zf_aload_n hC dX12_dead_0 rfl 0 rfl ?_
  refine zf_iconst hC (v := 0) dX12_dead_1 rfl ?_
  refine pf_1230 hC dX12_dead_2 ?_
  refine zf_nmk (fun k1 => ?_)
  refine zf_aload_n hC dX12_dead_5 rfl 0 rfl ?_
  refine zf_iload_n hC dX12_dead_6 rfl 1 rfl ?_
  refine zf_callV hC (c_X12_isHolder l g a0) mt_X12_isHolder wd_1552 sp_49 ci_11 ic_11 wd_1550 rfl (rm_le hR rfl) rfl rfl (rest := []) rfl (Nat.le_of_ble_eq_true rfl) dX12_dead_7 (fun r2 k3 h4 => ?_)
  refine zf_ifb_eq hC (tgt := 28) dX12_dead_10 (by decide) (fun h5 => ?_) (fun h5 => ?_)
  · refine zf_iload_n hC dX12_dead_13 rfl 2 rfl ?_
    refine zf_callS hC (c_X12_isDay l g TM a1) mt_X12_isDay wd_1762 wd_1761 rfl (rm_le hR rfl) rfl rfl (rest := []) rfl (Nat.le_of_ble_eq_true rfl) dX12_dead_14 (fun r6 k7 h8 => ?_)
    refine zf_ifb_eq hC (tgt := 28) dX12_dead_17 (by decide) (fun h9 => ?_) (fun h9 => ?_)
    · refine zf_aload_n hC dX12_dead_20 rfl 0 rfl ?_
      refine zf_iload_n hC dX12_dead_21 rfl 3 rfl ?_
      refine zf_callV hC (c_X12_isKnown l g a2) mt_X12_isKnown wd_1645 sp_56 ci_11 ic_11 wd_1643 rfl (rm_le hR rfl) rfl rfl (rest := []) rfl (Nat.le_of_ble_eq_true rfl) dX12_dead_22 (fun r10 k11 h12 => ?_)
      refine zf_ifb_ne hC (tgt := 30) dX12_dead_25 (by decide) (fun h13 => ?_) (fun h13 => ?_)
      · refine zf_aload_n hC dX12_dead_30 rfl 0 rfl ?_
        refine zf_iload_n hC dX12_dead_31 rfl 2 rfl ?_
        refine zf_iload_n hC dX12_dead_32 rfl 3 rfl ?_
        refine zf_callV hC (c_X12_findDead l g a1 a2) mt_X12_findDead wd_1770 sp_78 ci_11 ic_11 wd_1768 rfl (rm_le hR rfl) rfl rfl (rest := []) rfl (Nat.le_of_ble_eq_true rfl) dX12_dead_33 (fun r14 k15 h16 => ?_)
        refine zf_aload_n hC dX12_dead_36 rfl 0 rfl ?_
        refine gf_1293 hC dX12_dead_37 ?_
        refine zf_iload_n hC dX12_dead_40 rfl 1 rfl ?_
        refine zf_zald hC (j := 138) ia_138 rfl rfl dX12_dead_41 (fun h17 => ?_)
        refine zf_if_eq hC (tgt := 49) dX12_dead_42 (by decide) (fun h18 => ?_) (fun h18 => ?_)
        · refine zf_iconst hC (v := 0) dX12_dead_49 rfl ?_
          exact zf_iret hC rfl dX12_dead_50
        · refine zf_iconst hC (v := 1) dX12_dead_45 rfl ?_
          refine zf_goto hC (tgt := 50) dX12_dead_46 (by decide) ?_
          exact zf_iret hC rfl dX12_dead_50
      · refine zf_iconst hC (v := (-1)) dX12_dead_28 rfl ?_
        exact zf_iret hC rfl dX12_dead_29
    · refine zf_iconst hC (v := (-1)) dX12_dead_28 rfl ?_
      exact zf_iret hC rfl dX12_dead_29
  · refine zf_iconst hC (v := (-1)) dX12_dead_28 rfl ?_
    exact zf_iret hC rfl dX12_dead_29
/-! LifeKeysModel.unseal -/
theorem dX12_unseal_0 : decode cX12_unseal 0 = .ok (.aload_n 0, 1) := by decide +kernel
theorem dX12_unseal_1 : decode cX12_unseal 1 = .ok (.iconst 0, 1) := by decide +kernel
theorem dX12_unseal_2 : decode cX12_unseal 2 = .ok (.putfield 181, 3) := by decide +kernel
theorem dX12_unseal_5 : decode cX12_unseal 5 = .ok (.aload_n 0, 1) := by decide +kernel
theorem dX12_unseal_6 : decode cX12_unseal 6 = .ok (.iload_n 1, 1) := by decide +kernel
theorem dX12_unseal_7 : decode cX12_unseal 7 = .ok (.invokevirtual 409, 3) := by decide +kernel
theorem dX12_unseal_10 : decode cX12_unseal 10 = .ok (.ifCond .eq 12, 3) := by decide +kernel
theorem dX12_unseal_13 : decode cX12_unseal 13 = .ok (.aload_n 0, 1) := by decide +kernel
theorem dX12_unseal_14 : decode cX12_unseal 14 = .ok (.getfield 118, 3) := by decide +kernel
theorem dX12_unseal_17 : decode cX12_unseal 17 = .ok (.iload_n 1, 1) := by decide +kernel
theorem dX12_unseal_18 : decode cX12_unseal 18 = .ok (.baload, 1) := by decide +kernel
theorem dX12_unseal_19 : decode cX12_unseal 19 = .ok (.ifCond .ne 5, 3) := by decide +kernel
theorem dX12_unseal_22 : decode cX12_unseal 22 = .ok (.iconst (-1), 1) := by decide +kernel
theorem dX12_unseal_23 : decode cX12_unseal 23 = .ok (.ireturn, 1) := by decide +kernel
theorem dX12_unseal_24 : decode cX12_unseal 24 = .ok (.aload_n 0, 1) := by decide +kernel
theorem dX12_unseal_25 : decode cX12_unseal 25 = .ok (.getfield 121, 3) := by decide +kernel
theorem dX12_unseal_28 : decode cX12_unseal 28 = .ok (.iload_n 1, 1) := by decide +kernel
theorem dX12_unseal_29 : decode cX12_unseal 29 = .ok (.baload, 1) := by decide +kernel
theorem dX12_unseal_30 : decode cX12_unseal 30 = .ok (.ifCond .eq 5, 3) := by decide +kernel
theorem dX12_unseal_33 : decode cX12_unseal 33 = .ok (.iconst 2, 1) := by decide +kernel
theorem dX12_unseal_34 : decode cX12_unseal 34 = .ok (.ireturn, 1) := by decide +kernel
theorem dX12_unseal_35 : decode cX12_unseal 35 = .ok (.aload_n 0, 1) := by decide +kernel
theorem dX12_unseal_36 : decode cX12_unseal 36 = .ok (.getfield 121, 3) := by decide +kernel
theorem dX12_unseal_39 : decode cX12_unseal 39 = .ok (.iload_n 1, 1) := by decide +kernel
theorem dX12_unseal_40 : decode cX12_unseal 40 = .ok (.aload_n 0, 1) := by decide +kernel
theorem dX12_unseal_41 : decode cX12_unseal 41 = .ok (.iload_n 1, 1) := by decide +kernel
theorem dX12_unseal_42 : decode cX12_unseal 42 = .ok (.aload_n 0, 1) := by decide +kernel
theorem dX12_unseal_43 : decode cX12_unseal 43 = .ok (.getfield 185, 3) := by decide +kernel
theorem dX12_unseal_46 : decode cX12_unseal 46 = .ok (.aload_n 0, 1) := by decide +kernel
theorem dX12_unseal_47 : decode cX12_unseal 47 = .ok (.getfield 185, 3) := by decide +kernel
theorem dX12_unseal_50 : decode cX12_unseal 50 = .ok (.invokevirtual 419, 3) := by decide +kernel
theorem dX12_unseal_53 : decode cX12_unseal 53 = .ok (.bastore, 1) := by decide +kernel
theorem dX12_unseal_54 : decode cX12_unseal 54 = .ok (.aload_n 0, 1) := by decide +kernel
theorem dX12_unseal_55 : decode cX12_unseal 55 = .ok (.getfield 121, 3) := by decide +kernel
theorem dX12_unseal_58 : decode cX12_unseal 58 = .ok (.iload_n 1, 1) := by decide +kernel
theorem dX12_unseal_59 : decode cX12_unseal 59 = .ok (.baload, 1) := by decide +kernel
theorem dX12_unseal_60 : decode cX12_unseal 60 = .ok (.ifCond .eq 7, 3) := by decide +kernel
theorem dX12_unseal_63 : decode cX12_unseal 63 = .ok (.iconst 1, 1) := by decide +kernel
theorem dX12_unseal_64 : decode cX12_unseal 64 = .ok (.goto 4, 3) := by decide +kernel
theorem dX12_unseal_67 : decode cX12_unseal 67 = .ok (.iconst 0, 1) := by decide +kernel
theorem dX12_unseal_68 : decode cX12_unseal 68 = .ok (.ireturn, 1) := by decide +kernel
def fX12_unseal (k : ST) (a0 : Int32) : Option (Int32 × ST) := nm (sI k 11 0 0) fun k1 => ob (fX12_isThing k1 a0) fun r2 k3 => if r2 = true then ck (inb a0 40) (if (gA k3 134 (ix a0)) = 0 then some ((-1), k3) else ck (inb a0 40) (if (gA k3 135 (ix a0)) = 0 then ob (fX12_holdsFor k3 a0 (gI k3 11 1) (gI k3 11 1)) fun r10 k11 => ck (inb a0 40) (nm (sA k11 135 (ix a0) (b2i r10)) fun k14 => ck (inb a0 40) (if (gA k14 135 (ix a0)) = 0 then some (0, k14) else some (1, k14))) else some (2, k3))) else some ((-1), k3)
set_option maxRecDepth 20000 in
theorem c_X12_unseal (l : Launch) (g : GT) (a0 : Int32) : CN l yX12_unseal cX12_unseal 2 (some .int) { frames := 37, cells := 0, slots := 0, locals := 830 } g TM voI [.ref (g.2.1 11), .int a0] (fun k => fX12_unseal k a0) := by
  refine cn_of (by decide) (Nat.le_of_ble_eq_true rfl) ?_
  intro p e s m args below meth c hC k
  have hC : HC p s m args meth c cX12_unseal 2 RX12 (some .int) g := hC
  have hR : 37 ≤ ({ frames := 37, cells := 0, slots := 0, locals := 830 } : Room).frames ∧ 830 ≤ ({ frames := 37, cells := 0, slots := 0, locals := 830 } : Room).locals := ⟨Nat.le_refl _, Nat.le_refl _⟩
  show ZF p l e _ s m args below meth c g TM voI 2 k 0 [(0, .ref (g.2.1 11)), (1, .int a0)] [] (fX12_unseal k a0)
  unfold fX12_unseal
  refine zf_aload_n hC dX12_unseal_0 rfl 0 rfl ?_
  refine zf_iconst hC (v := 0) dX12_unseal_1 rfl ?_
  refine pf_1230 hC dX12_unseal_2 ?_
  refine zf_nmk (fun k1 => ?_)
  refine zf_aload_n hC dX12_unseal_5 rfl 0 rfl ?_
  refine zf_iload_n hC dX12_unseal_6 rfl 1 rfl ?_
  refine zf_callV hC (c_X12_isThing l g a0) mt_X12_isThing wd_1743 sp_75 ci_11 ic_11 wd_1741 rfl (rm_le hR rfl) rfl rfl (rest := []) rfl (Nat.le_of_ble_eq_true rfl) dX12_unseal_7 (fun r2 k3 h4 => ?_)
  refine zf_ifb_eq hC (tgt := 22) dX12_unseal_10 (by decide) (fun h5 => ?_) (fun h5 => ?_)
  · refine zf_aload_n hC dX12_unseal_13 rfl 0 rfl ?_
    refine gf_1274 hC dX12_unseal_14 ?_
    refine zf_iload_n hC dX12_unseal_17 rfl 1 rfl ?_
    refine zf_zald hC (j := 134) ia_134 rfl rfl dX12_unseal_18 (fun h6 => ?_)
    refine zf_if_ne hC (tgt := 24) dX12_unseal_19 (by decide) (fun h7 => ?_) (fun h7 => ?_)
    · refine zf_iconst hC (v := (-1)) dX12_unseal_22 rfl ?_
      exact zf_iret hC rfl dX12_unseal_23
    · refine zf_aload_n hC dX12_unseal_24 rfl 0 rfl ?_
      refine gf_1275 hC dX12_unseal_25 ?_
      refine zf_iload_n hC dX12_unseal_28 rfl 1 rfl ?_
      refine zf_zald hC (j := 135) ia_135 rfl rfl dX12_unseal_29 (fun h8 => ?_)
      refine zf_if_eq hC (tgt := 35) dX12_unseal_30 (by decide) (fun h9 => ?_) (fun h9 => ?_)
      · refine zf_aload_n hC dX12_unseal_35 rfl 0 rfl ?_
        refine gf_1275 hC dX12_unseal_36 ?_
        refine zf_iload_n hC dX12_unseal_39 rfl 1 rfl ?_
        refine zf_aload_n hC dX12_unseal_40 rfl 0 rfl ?_
        refine zf_iload_n hC dX12_unseal_41 rfl 1 rfl ?_
        refine zf_aload_n hC dX12_unseal_42 rfl 0 rfl ?_
        refine gf_1231 hC dX12_unseal_43 ?_
        refine zf_aload_n hC dX12_unseal_46 rfl 0 rfl ?_
        refine gf_1231 hC dX12_unseal_47 ?_
        refine zf_callV hC (c_X12_holdsFor l g a0 (gI k3 11 1) (gI k3 11 1)) mt_X12_holdsFor wd_1766 sp_77 ci_11 ic_11 wd_1764 rfl (rm_le hR rfl) rfl rfl (rest := [.int a0, .ref (g.2.1 147)]) rfl (Nat.le_of_ble_eq_true rfl) dX12_unseal_50 (fun r10 k11 h12 => ?_)
        refine zf_zast hC (j := 135) ia_135 rfl rfl (nar_b _) dX12_unseal_53 (fun h13 => ?_)
        refine zf_nmk (fun k14 => ?_)
        refine zf_aload_n hC dX12_unseal_54 rfl 0 rfl ?_
        refine gf_1275 hC dX12_unseal_55 ?_
        refine zf_iload_n hC dX12_unseal_58 rfl 1 rfl ?_
        refine zf_zald hC (j := 135) ia_135 rfl rfl dX12_unseal_59 (fun h15 => ?_)
        refine zf_if_eq hC (tgt := 67) dX12_unseal_60 (by decide) (fun h16 => ?_) (fun h16 => ?_)
        · refine zf_iconst hC (v := 0) dX12_unseal_67 rfl ?_
          exact zf_iret hC rfl dX12_unseal_68
        · refine zf_iconst hC (v := 1) dX12_unseal_63 rfl ?_
          refine zf_goto hC (tgt := 68) dX12_unseal_64 (by decide) ?_
          exact zf_iret hC rfl dX12_unseal_68
      · refine zf_iconst hC (v := 2) dX12_unseal_33 rfl ?_
        exact zf_iret hC rfl dX12_unseal_34
  · refine zf_iconst hC (v := (-1)) dX12_unseal_22 rfl ?_
    exact zf_iret hC rfl dX12_unseal_23
/-! LifeKeysModel.burntFrom -/
theorem dX12_burntFrom_0 : decode cX12_burntFrom 0 = .ok (.iconst (-1), 1) := by decide +kernel
theorem dX12_burntFrom_1 : decode cX12_burntFrom 1 = .ok (.istore_n 3, 1) := by decide +kernel
theorem dX12_burntFrom_2 : decode cX12_burntFrom 2 = .ok (.iconst 0, 1) := by decide +kernel
theorem dX12_burntFrom_3 : decode cX12_burntFrom 3 = .ok (.istore 4, 2) := by decide +kernel
theorem dX12_burntFrom_5 : decode cX12_burntFrom 5 = .ok (.iload 4, 2) := by decide +kernel
theorem dX12_burntFrom_7 : decode cX12_burntFrom 7 = .ok (.aload_n 0, 1) := by decide +kernel
theorem dX12_burntFrom_8 : decode cX12_burntFrom 8 = .ok (.getfield 422, 3) := by decide +kernel
theorem dX12_burntFrom_11 : decode cX12_burntFrom 11 = .ok (.if_icmp .ge 55, 3) := by decide +kernel
theorem dX12_burntFrom_14 : decode cX12_burntFrom 14 = .ok (.aload_n 0, 1) := by decide +kernel
theorem dX12_burntFrom_15 : decode cX12_burntFrom 15 = .ok (.getfield 151, 3) := by decide +kernel
theorem dX12_burntFrom_18 : decode cX12_burntFrom 18 = .ok (.iload 4, 2) := by decide +kernel
theorem dX12_burntFrom_20 : decode cX12_burntFrom 20 = .ok (.iaload, 1) := by decide +kernel
theorem dX12_burntFrom_21 : decode cX12_burntFrom 21 = .ok (.iload_n 1, 1) := by decide +kernel
theorem dX12_burntFrom_22 : decode cX12_burntFrom 22 = .ok (.if_icmp .ne 38, 3) := by decide +kernel
theorem dX12_burntFrom_25 : decode cX12_burntFrom 25 = .ok (.aload_n 0, 1) := by decide +kernel
theorem dX12_burntFrom_26 : decode cX12_burntFrom 26 = .ok (.getfield 157, 3) := by decide +kernel
theorem dX12_burntFrom_29 : decode cX12_burntFrom 29 = .ok (.iload 4, 2) := by decide +kernel
theorem dX12_burntFrom_31 : decode cX12_burntFrom 31 = .ok (.iaload, 1) := by decide +kernel
theorem dX12_burntFrom_32 : decode cX12_burntFrom 32 = .ok (.iload_n 2, 1) := by decide +kernel
theorem dX12_burntFrom_33 : decode cX12_burntFrom 33 = .ok (.if_icmp .gt 27, 3) := by decide +kernel
theorem dX12_burntFrom_36 : decode cX12_burntFrom 36 = .ok (.iload_n 3, 1) := by decide +kernel
theorem dX12_burntFrom_37 : decode cX12_burntFrom 37 = .ok (.iconst (-1), 1) := by decide +kernel
theorem dX12_burntFrom_38 : decode cX12_burntFrom 38 = .ok (.if_icmp .eq 14, 3) := by decide +kernel
theorem dX12_burntFrom_41 : decode cX12_burntFrom 41 = .ok (.aload_n 0, 1) := by decide +kernel
theorem dX12_burntFrom_42 : decode cX12_burntFrom 42 = .ok (.getfield 154, 3) := by decide +kernel
theorem dX12_burntFrom_45 : decode cX12_burntFrom 45 = .ok (.iload 4, 2) := by decide +kernel
theorem dX12_burntFrom_47 : decode cX12_burntFrom 47 = .ok (.iaload, 1) := by decide +kernel
theorem dX12_burntFrom_48 : decode cX12_burntFrom 48 = .ok (.iload_n 3, 1) := by decide +kernel
theorem dX12_burntFrom_49 : decode cX12_burntFrom 49 = .ok (.if_icmp .ge 11, 3) := by decide +kernel
theorem dX12_burntFrom_52 : decode cX12_burntFrom 52 = .ok (.aload_n 0, 1) := by decide +kernel
theorem dX12_burntFrom_53 : decode cX12_burntFrom 53 = .ok (.getfield 154, 3) := by decide +kernel
theorem dX12_burntFrom_56 : decode cX12_burntFrom 56 = .ok (.iload 4, 2) := by decide +kernel
theorem dX12_burntFrom_58 : decode cX12_burntFrom 58 = .ok (.iaload, 1) := by decide +kernel
theorem dX12_burntFrom_59 : decode cX12_burntFrom 59 = .ok (.istore_n 3, 1) := by decide +kernel
theorem dX12_burntFrom_60 : decode cX12_burntFrom 60 = .ok (.iinc 4 1, 3) := by decide +kernel
theorem dX12_burntFrom_63 : decode cX12_burntFrom 63 = .ok (.goto (-58), 3) := by decide +kernel
theorem dX12_burntFrom_66 : decode cX12_burntFrom 66 = .ok (.iload_n 3, 1) := by decide +kernel
theorem dX12_burntFrom_67 : decode cX12_burntFrom 67 = .ok (.ireturn, 1) := by decide +kernel
def lpX12_burntFrom_5 (v1 : Int32) (v2 : Int32) : Nat → Int32 → Int32 → ST → (Int32 → Int32 → ST → Option (Int32 × ST)) → Option (Int32 × ST)
  | 0, _, _, _, _ => none
  | n + 1, v3, v4, k, cont => if (gI k 11 78) ≤ v4 then cont v3 v4 k else ck (inb v4 60) (if (gA k 144 (ix v4)) = v1 then ck (inb v4 60) (if v2 < (gA k 146 (ix v4)) then lpX12_burntFrom_5 v1 v2 n v3 (v4 + 1) k cont else if v3 = (-1) then ck (inb v4 60) (lpX12_burntFrom_5 v1 v2 n (gA k 145 (ix v4)) (v4 + 1) k cont) else ck (inb v4 60) (if v3 ≤ (gA k 145 (ix v4)) then lpX12_burntFrom_5 v1 v2 n v3 (v4 + 1) k cont else ck (inb v4 60) (lpX12_burntFrom_5 v1 v2 n (gA k 145 (ix v4)) (v4 + 1) k cont))) else lpX12_burntFrom_5 v1 v2 n v3 (v4 + 1) k cont)
set_option maxRecDepth 20000 in
theorem zlpX12_burntFrom_5 {p : Program} {l : Launch} {e : Env} {R : Room} {s : State} {m : MethodId} {args : Array Value} {below : List Frame} {meth : Method} {c : Code} {g : GT} (hC : HC p s m args meth c cX12_burntFrom 5 RX12 (some .int) g) (hR : 0 ≤ R.frames ∧ 0 ≤ R.locals)  (v1 : Int32) (v2 : Int32) {cont : Int32 → Int32 → ST → Option (Int32 × ST)} (hk : ∀ (v3 : Int32) (v4 : Int32) (k : ST), ZF p l e R s m args below meth c g TM voI 5 k 66 [(0, .ref (g.2.1 11)), (1, .int v1), (2, .int v2), (3, .int v3), (4, .int v4)] [] (cont v3 v4 k)) : ∀ (n : Nat) (v3 : Int32) (v4 : Int32) (k : ST), ZF p l e R s m args below meth c g TM voI 5 k 5 [(0, .ref (g.2.1 11)), (1, .int v1), (2, .int v2), (3, .int v3), (4, .int v4)] [] (lpX12_burntFrom_5 v1 v2 n v3 v4 k cont) := by
  intro n
  induction n with
  | zero => intros; exact zf_none
  | succ n ih =>
    intro v3 v4 k
    rw [lpX12_burntFrom_5]
    refine zf_iload hC dX12_burntFrom_5 4 rfl ?_
    refine zf_aload_n hC dX12_burntFrom_7 rfl 0 rfl ?_
    refine gf_1308 hC dX12_burntFrom_8 ?_
    refine zf_icmp_ge hC (tgt := 66) dX12_burntFrom_11 (by decide) (fun h1 => ?_) (fun h1 => ?_)
    · refine zf_lv (LV' := [(0, .ref (g.2.1 11)), (1, .int v1), (2, .int v2), (3, .int v3), (4, .int v4)]) [0, 1, 2, 3, 4] rfl ?_
      exact hk v3 v4 k
    · refine zf_aload_n hC dX12_burntFrom_14 rfl 0 rfl ?_
      refine gf_1299 hC dX12_burntFrom_15 ?_
      refine zf_iload hC dX12_burntFrom_18 4 rfl ?_
      refine zf_iald hC (j := 144) ia_144 rfl rfl dX12_burntFrom_20 (fun h2 => ?_)
      refine zf_iload_n hC dX12_burntFrom_21 rfl 1 rfl ?_
      refine zf_icmp_ne hC (tgt := 60) dX12_burntFrom_22 (by decide) (fun h3 => ?_) (fun h3 => ?_)
      · refine zf_aload_n hC dX12_burntFrom_25 rfl 0 rfl ?_
        refine gf_1301 hC dX12_burntFrom_26 ?_
        refine zf_iload hC dX12_burntFrom_29 4 rfl ?_
        refine zf_iald hC (j := 146) ia_146 rfl rfl dX12_burntFrom_31 (fun h4 => ?_)
        refine zf_iload_n hC dX12_burntFrom_32 rfl 2 rfl ?_
        refine zf_icmp_gt hC (tgt := 60) dX12_burntFrom_33 (by decide) (fun h5 => ?_) (fun h5 => ?_)
        · refine zf_iinc hC (q := 4) (v := v4 + 1) (LV' := [(4, .int (v4 + 1)), (0, .ref (g.2.1 11)), (1, .int v1), (2, .int v2), (3, .int v3)]) dX12_burntFrom_60 rfl rfl (by decide) rfl ?_
          refine zf_goto hC (tgt := 5) dX12_burntFrom_63 (by decide) ?_
          refine zf_lv (LV' := [(0, .ref (g.2.1 11)), (1, .int v1), (2, .int v2), (3, .int v3), (4, .int (v4 + 1))]) [1, 2, 3, 4, 0] rfl ?_
          exact ih v3 (v4 + 1) k
        · refine zf_iload_n hC dX12_burntFrom_36 rfl 3 rfl ?_
          refine zf_iconst hC (v := (-1)) dX12_burntFrom_37 rfl ?_
          refine zf_icmp_eq hC (tgt := 52) dX12_burntFrom_38 (by decide) (fun h6 => ?_) (fun h6 => ?_)
          · refine zf_aload_n hC dX12_burntFrom_52 rfl 0 rfl ?_
            refine gf_1300 hC dX12_burntFrom_53 ?_
            refine zf_iload hC dX12_burntFrom_56 4 rfl ?_
            refine zf_iald hC (j := 145) ia_145 rfl rfl dX12_burntFrom_58 (fun h7 => ?_)
            refine zf_istore_n hC (LV' := [(3, .int (gA k 145 (ix v4))), (0, .ref (g.2.1 11)), (1, .int v1), (2, .int v2), (4, .int v4)]) dX12_burntFrom_59 rfl (by decide) rfl ?_
            refine zf_iinc hC (q := 4) (v := v4 + 1) (LV' := [(4, .int (v4 + 1)), (3, .int (gA k 145 (ix v4))), (0, .ref (g.2.1 11)), (1, .int v1), (2, .int v2)]) dX12_burntFrom_60 rfl rfl (by decide) rfl ?_
            refine zf_goto hC (tgt := 5) dX12_burntFrom_63 (by decide) ?_
            refine zf_lv (LV' := [(0, .ref (g.2.1 11)), (1, .int v1), (2, .int v2), (3, .int (gA k 145 (ix v4))), (4, .int (v4 + 1))]) [2, 3, 4, 1, 0] rfl ?_
            exact ih (gA k 145 (ix v4)) (v4 + 1) k
          · refine zf_aload_n hC dX12_burntFrom_41 rfl 0 rfl ?_
            refine gf_1300 hC dX12_burntFrom_42 ?_
            refine zf_iload hC dX12_burntFrom_45 4 rfl ?_
            refine zf_iald hC (j := 145) ia_145 rfl rfl dX12_burntFrom_47 (fun h8 => ?_)
            refine zf_iload_n hC dX12_burntFrom_48 rfl 3 rfl ?_
            refine zf_icmp_ge hC (tgt := 60) dX12_burntFrom_49 (by decide) (fun h9 => ?_) (fun h9 => ?_)
            · refine zf_iinc hC (q := 4) (v := v4 + 1) (LV' := [(4, .int (v4 + 1)), (0, .ref (g.2.1 11)), (1, .int v1), (2, .int v2), (3, .int v3)]) dX12_burntFrom_60 rfl rfl (by decide) rfl ?_
              refine zf_goto hC (tgt := 5) dX12_burntFrom_63 (by decide) ?_
              refine zf_lv (LV' := [(0, .ref (g.2.1 11)), (1, .int v1), (2, .int v2), (3, .int v3), (4, .int (v4 + 1))]) [1, 2, 3, 4, 0] rfl ?_
              exact ih v3 (v4 + 1) k
            · refine zf_aload_n hC dX12_burntFrom_52 rfl 0 rfl ?_
              refine gf_1300 hC dX12_burntFrom_53 ?_
              refine zf_iload hC dX12_burntFrom_56 4 rfl ?_
              refine zf_iald hC (j := 145) ia_145 rfl rfl dX12_burntFrom_58 (fun h10 => ?_)
              refine zf_istore_n hC (LV' := [(3, .int (gA k 145 (ix v4))), (0, .ref (g.2.1 11)), (1, .int v1), (2, .int v2), (4, .int v4)]) dX12_burntFrom_59 rfl (by decide) rfl ?_
              refine zf_iinc hC (q := 4) (v := v4 + 1) (LV' := [(4, .int (v4 + 1)), (3, .int (gA k 145 (ix v4))), (0, .ref (g.2.1 11)), (1, .int v1), (2, .int v2)]) dX12_burntFrom_60 rfl rfl (by decide) rfl ?_
              refine zf_goto hC (tgt := 5) dX12_burntFrom_63 (by decide) ?_
              refine zf_lv (LV' := [(0, .ref (g.2.1 11)), (1, .int v1), (2, .int v2), (3, .int (gA k 145 (ix v4))), (4, .int (v4 + 1))]) [2, 3, 4, 1, 0] rfl ?_
              exact ih (gA k 145 (ix v4)) (v4 + 1) k
      · refine zf_iinc hC (q := 4) (v := v4 + 1) (LV' := [(4, .int (v4 + 1)), (0, .ref (g.2.1 11)), (1, .int v1), (2, .int v2), (3, .int v3)]) dX12_burntFrom_60 rfl rfl (by decide) rfl ?_
        refine zf_goto hC (tgt := 5) dX12_burntFrom_63 (by decide) ?_
        refine zf_lv (LV' := [(0, .ref (g.2.1 11)), (1, .int v1), (2, .int v2), (3, .int v3), (4, .int (v4 + 1))]) [1, 2, 3, 4, 0] rfl ?_
        exact ih v3 (v4 + 1) k
def fX12_burntFrom (k : ST) (a0 : Int32) (a1 : Int32) : Option (Int32 × ST) := lpX12_burntFrom_5 a0 a1 FU (-1) 0 k fun y11 y12 k13 => some (y11, k13)
set_option maxRecDepth 20000 in
theorem c_X12_burntFrom (l : Launch) (g : GT) (a0 : Int32) (a1 : Int32) : CN l yX12_burntFrom cX12_burntFrom 5 (some .int) { frames := 0, cells := 0, slots := 0, locals := 0 } g TM voI [.ref (g.2.1 11), .int a0, .int a1] (fun k => fX12_burntFrom k a0 a1) := by
  refine cn_of (by decide) (Nat.le_of_ble_eq_true rfl) ?_
  intro p e s m args below meth c hC k
  have hC : HC p s m args meth c cX12_burntFrom 5 RX12 (some .int) g := hC
  have hR : 0 ≤ ({ frames := 0, cells := 0, slots := 0, locals := 0 } : Room).frames ∧ 0 ≤ ({ frames := 0, cells := 0, slots := 0, locals := 0 } : Room).locals := ⟨Nat.le_refl _, Nat.le_refl _⟩
  show ZF p l e _ s m args below meth c g TM voI 5 k 0 [(0, .ref (g.2.1 11)), (1, .int a0), (2, .int a1)] [] (fX12_burntFrom k a0 a1)
  unfold fX12_burntFrom
  refine zf_iconst hC (v := (-1)) dX12_burntFrom_0 rfl ?_
  refine zf_istore_n hC (LV' := [(3, .int (-1)), (0, .ref (g.2.1 11)), (1, .int a0), (2, .int a1)]) dX12_burntFrom_1 rfl (by decide) rfl ?_
  refine zf_iconst hC (v := 0) dX12_burntFrom_2 rfl ?_
  refine zf_istore hC (LV' := [(4, .int 0), (3, .int (-1)), (0, .ref (g.2.1 11)), (1, .int a0), (2, .int a1)]) dX12_burntFrom_3 (by decide) rfl ?_
  refine zf_lv (LV' := [(0, .ref (g.2.1 11)), (1, .int a0), (2, .int a1), (3, .int (-1)), (4, .int 0)]) [2, 3, 4, 1, 0] rfl ?_
  refine zlpX12_burntFrom_5 hC hR a0 a1 (fun y11 y12 k13 => ?_) FU (-1) 0 k
  refine zf_iload_n hC dX12_burntFrom_66 rfl 3 rfl ?_
  exact zf_iret hC rfl dX12_burntFrom_67
/-! LifeKeysModel.maySign -/
theorem dX12_maySign_0 : decode cX12_maySign 0 = .ok (.aload_n 0, 1) := by decide +kernel
theorem dX12_maySign_1 : decode cX12_maySign 1 = .ok (.iload_n 1, 1) := by decide +kernel
theorem dX12_maySign_2 : decode cX12_maySign 2 = .ok (.aload_n 0, 1) := by decide +kernel
theorem dX12_maySign_3 : decode cX12_maySign 3 = .ok (.getfield 185, 3) := by decide +kernel
theorem dX12_maySign_6 : decode cX12_maySign 6 = .ok (.invokevirtual 425, 3) := by decide +kernel
theorem dX12_maySign_9 : decode cX12_maySign 9 = .ok (.istore_n 2, 1) := by decide +kernel
theorem dX12_maySign_10 : decode cX12_maySign 10 = .ok (.iload_n 2, 1) := by decide +kernel
theorem dX12_maySign_11 : decode cX12_maySign 11 = .ok (.iconst (-1), 1) := by decide +kernel
theorem dX12_maySign_12 : decode cX12_maySign 12 = .ok (.if_icmp .eq 11, 3) := by decide +kernel
theorem dX12_maySign_15 : decode cX12_maySign 15 = .ok (.iload_n 2, 1) := by decide +kernel
theorem dX12_maySign_16 : decode cX12_maySign 16 = .ok (.aload_n 0, 1) := by decide +kernel
theorem dX12_maySign_17 : decode cX12_maySign 17 = .ok (.getfield 185, 3) := by decide +kernel
theorem dX12_maySign_20 : decode cX12_maySign 20 = .ok (.if_icmp .le 17, 3) := by decide +kernel
theorem dX12_maySign_23 : decode cX12_maySign 23 = .ok (.aload_n 0, 1) := by decide +kernel
theorem dX12_maySign_24 : decode cX12_maySign 24 = .ok (.getfield 22, 3) := by decide +kernel
theorem dX12_maySign_27 : decode cX12_maySign 27 = .ok (.iload_n 1, 1) := by decide +kernel
theorem dX12_maySign_28 : decode cX12_maySign 28 = .ok (.iaload, 1) := by decide +kernel
theorem dX12_maySign_29 : decode cX12_maySign 29 = .ok (.iconst (-1), 1) := by decide +kernel
theorem dX12_maySign_30 : decode cX12_maySign 30 = .ok (.if_icmp .ne 7, 3) := by decide +kernel
theorem dX12_maySign_33 : decode cX12_maySign 33 = .ok (.iconst 1, 1) := by decide +kernel
theorem dX12_maySign_34 : decode cX12_maySign 34 = .ok (.goto 4, 3) := by decide +kernel
theorem dX12_maySign_37 : decode cX12_maySign 37 = .ok (.iconst 0, 1) := by decide +kernel
theorem dX12_maySign_38 : decode cX12_maySign 38 = .ok (.ireturn, 1) := by decide +kernel
def fX12_maySign (k : ST) (a0 : Int32) : Option (Bool × ST) := ob (fX12_burntFrom k a0 (gI k 11 1)) fun r1 k2 => if r1 = (-1) then ck (inb a0 40) (if (gA k2 103 (ix a0)) = (-1) then some (true, k2) else some (false, k2)) else if r1 ≤ (gI k2 11 1) then some (false, k2) else ck (inb a0 40) (if (gA k2 103 (ix a0)) = (-1) then some (true, k2) else some (false, k2))
set_option maxRecDepth 20000 in
theorem c_X12_maySign (l : Launch) (g : GT) (a0 : Int32) : CN l yX12_maySign cX12_maySign 3 (some .boolean) { frames := 1, cells := 0, slots := 0, locals := 24 } g TM voB [.ref (g.2.1 11), .int a0] (fun k => fX12_maySign k a0) := by
  refine cn_of (by decide) (Nat.le_of_ble_eq_true rfl) ?_
  intro p e s m args below meth c hC k
  have hC : HC p s m args meth c cX12_maySign 3 RX12 (some .boolean) g := hC
  have hR : 1 ≤ ({ frames := 1, cells := 0, slots := 0, locals := 24 } : Room).frames ∧ 24 ≤ ({ frames := 1, cells := 0, slots := 0, locals := 24 } : Room).locals := ⟨Nat.le_refl _, Nat.le_refl _⟩
  show ZF p l e _ s m args below meth c g TM voB 3 k 0 [(0, .ref (g.2.1 11)), (1, .int a0)] [] (fX12_maySign k a0)
  unfold fX12_maySign
  refine zf_aload_n hC dX12_maySign_0 rfl 0 rfl ?_
  refine zf_iload_n hC dX12_maySign_1 rfl 1 rfl ?_
  refine zf_aload_n hC dX12_maySign_2 rfl 0 rfl ?_
  refine gf_1231 hC dX12_maySign_3 ?_
  refine zf_callV hC (c_X12_burntFrom l g a0 (gI k 11 1)) mt_X12_burntFrom wd_1794 sp_81 ci_11 ic_11 wd_1792 rfl (rm_le hR rfl) rfl rfl (rest := []) rfl (Nat.le_of_ble_eq_true rfl) dX12_maySign_6 (fun r1 k2 h3 => ?_)
  refine zf_istore_n hC (LV' := [(2, .int r1), (0, .ref (g.2.1 11)), (1, .int a0)]) dX12_maySign_9 rfl (by decide) rfl ?_
  refine zf_iload_n hC dX12_maySign_10 rfl 0 rfl ?_
  refine zf_iconst hC (v := (-1)) dX12_maySign_11 rfl ?_
  refine zf_icmp_eq hC (tgt := 23) dX12_maySign_12 (by decide) (fun h4 => ?_) (fun h4 => ?_)
  · refine zf_aload_n hC dX12_maySign_23 rfl 1 rfl ?_
    refine gf_1236 hC dX12_maySign_24 ?_
    refine zf_iload_n hC dX12_maySign_27 rfl 2 rfl ?_
    refine zf_iald hC (j := 103) ia_103 rfl rfl dX12_maySign_28 (fun h5 => ?_)
    refine zf_iconst hC (v := (-1)) dX12_maySign_29 rfl ?_
    refine zf_icmp_ne hC (tgt := 37) dX12_maySign_30 (by decide) (fun h6 => ?_) (fun h6 => ?_)
    · refine zf_iconst hC (v := 1) dX12_maySign_33 rfl ?_
      refine zf_goto hC (tgt := 38) dX12_maySign_34 (by decide) ?_
      exact zf_zret hC rfl true rfl dX12_maySign_38
    · refine zf_iconst hC (v := 0) dX12_maySign_37 rfl ?_
      exact zf_zret hC rfl false rfl dX12_maySign_38
  · refine zf_iload_n hC dX12_maySign_15 rfl 0 rfl ?_
    refine zf_aload_n hC dX12_maySign_16 rfl 1 rfl ?_
    refine gf_1231 hC dX12_maySign_17 ?_
    refine zf_icmp_le hC (tgt := 37) dX12_maySign_20 (by decide) (fun h7 => ?_) (fun h7 => ?_)
    · refine zf_iconst hC (v := 0) dX12_maySign_37 rfl ?_
      exact zf_zret hC rfl false rfl dX12_maySign_38
    · refine zf_aload_n hC dX12_maySign_23 rfl 1 rfl ?_
      refine gf_1236 hC dX12_maySign_24 ?_
      refine zf_iload_n hC dX12_maySign_27 rfl 2 rfl ?_
      refine zf_iald hC (j := 103) ia_103 rfl rfl dX12_maySign_28 (fun h8 => ?_)
      refine zf_iconst hC (v := (-1)) dX12_maySign_29 rfl ?_
      refine zf_icmp_ne hC (tgt := 37) dX12_maySign_30 (by decide) (fun h9 => ?_) (fun h9 => ?_)
      · refine zf_iconst hC (v := 1) dX12_maySign_33 rfl ?_
        refine zf_goto hC (tgt := 38) dX12_maySign_34 (by decide) ?_
        exact zf_zret hC rfl true rfl dX12_maySign_38
      · refine zf_iconst hC (v := 0) dX12_maySign_37 rfl ?_
        exact zf_zret hC rfl false rfl dX12_maySign_38
/-! LifeKeysModel.challenge -/
theorem dX12_challenge_0 : decode cX12_challenge 0 = .ok (.iload_n 0, 1) := by decide +kernel
theorem dX12_challenge_1 : decode cX12_challenge 1 = .ok (.bipush 7, 2) := by decide +kernel
theorem dX12_challenge_3 : decode cX12_challenge 3 = .ok (.iload_n 1, 1) := by decide +kernel
theorem dX12_challenge_4 : decode cX12_challenge 4 = .ok (.imul, 1) := by decide +kernel
theorem dX12_challenge_5 : decode cX12_challenge 5 = .ok (.iadd, 1) := by decide +kernel
theorem dX12_challenge_6 : decode cX12_challenge 6 = .ok (.sipush 1019, 3) := by decide +kernel
theorem dX12_challenge_9 : decode cX12_challenge 9 = .ok (.irem, 1) := by decide +kernel
theorem dX12_challenge_10 : decode cX12_challenge 10 = .ok (.ireturn, 1) := by decide +kernel
def fX12_challenge (k : ST) (a0 : Int32) (a1 : Int32) : Option (Int32 × ST) := some (j_rem (a0 + (7 * a1)) 1019, k)
set_option maxRecDepth 20000 in
theorem c_X12_challenge (l : Launch) (g : GT) (T : TT) (a0 : Int32) (a1 : Int32) : CN l yX12_challenge cX12_challenge 2 (some .int) { frames := 0, cells := 0, slots := 0, locals := 0 } g T voI [.int a0, .int a1] (fun k => fX12_challenge k a0 a1) := by
  refine cn_of (by decide) (Nat.le_of_ble_eq_true rfl) ?_
  intro p e s m args below meth c hC k
  have hC : HC p s m args meth c cX12_challenge 2 RX12 (some .int) g := hC
  have hR : 0 ≤ ({ frames := 0, cells := 0, slots := 0, locals := 0 } : Room).frames ∧ 0 ≤ ({ frames := 0, cells := 0, slots := 0, locals := 0 } : Room).locals := ⟨Nat.le_refl _, Nat.le_refl _⟩
  show ZF p l e _ s m args below meth c g T voI 2 k 0 [(0, .int a0), (1, .int a1)] [] (fX12_challenge k a0 a1)
  unfold fX12_challenge
  refine zf_iload_n hC dX12_challenge_0 rfl 0 rfl ?_
  refine zf_bipush hC (v := 7) dX12_challenge_1 rfl ?_
  refine zf_iload_n hC dX12_challenge_3 rfl 1 rfl ?_
  refine zf_imul hC dX12_challenge_4 ?_
  refine zf_iadd hC dX12_challenge_5 ?_
  refine zf_sipush hC (v := 1019) dX12_challenge_6 rfl ?_
  refine zf_irem hC dX12_challenge_9 (by decide) ?_
  exact zf_iret hC rfl dX12_challenge_10
/-! LifeKeysModel.keeps -/
theorem dX12_keeps_0 : decode cX12_keeps 0 = .ok (.aload_n 0, 1) := by decide +kernel
theorem dX12_keeps_1 : decode cX12_keeps 1 = .ok (.getfield 136, 3) := by decide +kernel
theorem dX12_keeps_4 : decode cX12_keeps 4 = .ok (.aload_n 0, 1) := by decide +kernel
theorem dX12_keeps_5 : decode cX12_keeps 5 = .ok (.getfield 428, 3) := by decide +kernel
theorem dX12_keeps_8 : decode cX12_keeps 8 = .ok (.iload_n 1, 1) := by decide +kernel
theorem dX12_keeps_9 : decode cX12_keeps 9 = .ok (.iastore, 1) := by decide +kernel
theorem dX12_keeps_10 : decode cX12_keeps 10 = .ok (.aload_n 0, 1) := by decide +kernel
theorem dX12_keeps_11 : decode cX12_keeps 11 = .ok (.getfield 139, 3) := by decide +kernel
theorem dX12_keeps_14 : decode cX12_keeps 14 = .ok (.aload_n 0, 1) := by decide +kernel
theorem dX12_keeps_15 : decode cX12_keeps 15 = .ok (.getfield 428, 3) := by decide +kernel
theorem dX12_keeps_18 : decode cX12_keeps 18 = .ok (.iload_n 2, 1) := by decide +kernel
theorem dX12_keeps_19 : decode cX12_keeps 19 = .ok (.iastore, 1) := by decide +kernel
theorem dX12_keeps_20 : decode cX12_keeps 20 = .ok (.aload_n 0, 1) := by decide +kernel
theorem dX12_keeps_21 : decode cX12_keeps 21 = .ok (.getfield 142, 3) := by decide +kernel
theorem dX12_keeps_24 : decode cX12_keeps 24 = .ok (.aload_n 0, 1) := by decide +kernel
theorem dX12_keeps_25 : decode cX12_keeps 25 = .ok (.getfield 428, 3) := by decide +kernel
theorem dX12_keeps_28 : decode cX12_keeps 28 = .ok (.iload_n 3, 1) := by decide +kernel
theorem dX12_keeps_29 : decode cX12_keeps 29 = .ok (.iastore, 1) := by decide +kernel
theorem dX12_keeps_30 : decode cX12_keeps 30 = .ok (.aload_n 0, 1) := by decide +kernel
theorem dX12_keeps_31 : decode cX12_keeps 31 = .ok (.getfield 145, 3) := by decide +kernel
theorem dX12_keeps_34 : decode cX12_keeps 34 = .ok (.aload_n 0, 1) := by decide +kernel
theorem dX12_keeps_35 : decode cX12_keeps 35 = .ok (.getfield 428, 3) := by decide +kernel
theorem dX12_keeps_38 : decode cX12_keeps 38 = .ok (.iload 4, 2) := by decide +kernel
theorem dX12_keeps_40 : decode cX12_keeps 40 = .ok (.iastore, 1) := by decide +kernel
theorem dX12_keeps_41 : decode cX12_keeps 41 = .ok (.aload_n 0, 1) := by decide +kernel
theorem dX12_keeps_42 : decode cX12_keeps 42 = .ok (.getfield 148, 3) := by decide +kernel
theorem dX12_keeps_45 : decode cX12_keeps 45 = .ok (.aload_n 0, 1) := by decide +kernel
theorem dX12_keeps_46 : decode cX12_keeps 46 = .ok (.getfield 428, 3) := by decide +kernel
theorem dX12_keeps_49 : decode cX12_keeps 49 = .ok (.aload_n 0, 1) := by decide +kernel
theorem dX12_keeps_50 : decode cX12_keeps 50 = .ok (.getfield 185, 3) := by decide +kernel
theorem dX12_keeps_53 : decode cX12_keeps 53 = .ok (.iastore, 1) := by decide +kernel
theorem dX12_keeps_54 : decode cX12_keeps 54 = .ok (.aload_n 0, 1) := by decide +kernel
theorem dX12_keeps_55 : decode cX12_keeps 55 = .ok (.dup, 1) := by decide +kernel
theorem dX12_keeps_56 : decode cX12_keeps 56 = .ok (.getfield 428, 3) := by decide +kernel
theorem dX12_keeps_59 : decode cX12_keeps 59 = .ok (.iconst 1, 1) := by decide +kernel
theorem dX12_keeps_60 : decode cX12_keeps 60 = .ok (.iadd, 1) := by decide +kernel
theorem dX12_keeps_61 : decode cX12_keeps 61 = .ok (.putfield 428, 3) := by decide +kernel
theorem dX12_keeps_64 : decode cX12_keeps 64 = .ok (.aload_n 0, 1) := by decide +kernel
theorem dX12_keeps_65 : decode cX12_keeps 65 = .ok (.getfield 428, 3) := by decide +kernel
theorem dX12_keeps_68 : decode cX12_keeps 68 = .ok (.iconst 1, 1) := by decide +kernel
theorem dX12_keeps_69 : decode cX12_keeps 69 = .ok (.isub, 1) := by decide +kernel
theorem dX12_keeps_70 : decode cX12_keeps 70 = .ok (.ireturn, 1) := by decide +kernel
def fX12_keeps (k : ST) (a0 : Int32) (a1 : Int32) (a2 : Int32) (a3 : Int32) : Option (Int32 × ST) := ck (inb (gI k 11 77) 80) (nm (sA k 139 (ix (gI k 11 77)) a0) fun k2 => ck (inb (gI k2 11 77) 80) (nm (sA k2 140 (ix (gI k2 11 77)) a1) fun k4 => ck (inb (gI k4 11 77) 80) (nm (sA k4 141 (ix (gI k4 11 77)) a2) fun k6 => ck (inb (gI k6 11 77) 80) (nm (sA k6 142 (ix (gI k6 11 77)) a3) fun k8 => ck (inb (gI k8 11 77) 80) (nm (sA k8 143 (ix (gI k8 11 77)) (gI k8 11 1)) fun k10 => nm (sI k10 11 77 ((gI k10 11 77) + 1)) fun k11 => some ((gI k11 11 77) - 1, k11))))))
set_option maxRecDepth 20000 in
theorem c_X12_keeps (l : Launch) (g : GT) (a0 : Int32) (a1 : Int32) (a2 : Int32) (a3 : Int32) : CN l yX12_keeps cX12_keeps 5 (some .int) { frames := 0, cells := 0, slots := 0, locals := 0 } g TM voI [.ref (g.2.1 11), .int a0, .int a1, .int a2, .int a3] (fun k => fX12_keeps k a0 a1 a2 a3) := by
  refine cn_of (by decide) (Nat.le_of_ble_eq_true rfl) ?_
  intro p e s m args below meth c hC k
  have hC : HC p s m args meth c cX12_keeps 5 RX12 (some .int) g := hC
  have hR : 0 ≤ ({ frames := 0, cells := 0, slots := 0, locals := 0 } : Room).frames ∧ 0 ≤ ({ frames := 0, cells := 0, slots := 0, locals := 0 } : Room).locals := ⟨Nat.le_refl _, Nat.le_refl _⟩
  show ZF p l e _ s m args below meth c g TM voI 5 k 0 [(0, .ref (g.2.1 11)), (1, .int a0), (2, .int a1), (3, .int a2), (4, .int a3)] [] (fX12_keeps k a0 a1 a2 a3)
  unfold fX12_keeps
  refine zf_aload_n hC dX12_keeps_0 rfl 0 rfl ?_
  refine gf_1294 hC dX12_keeps_1 ?_
  refine zf_aload_n hC dX12_keeps_4 rfl 0 rfl ?_
  refine gf_1307 hC dX12_keeps_5 ?_
  refine zf_iload_n hC dX12_keeps_8 rfl 1 rfl ?_
  refine zf_iast hC (j := 139) ia_139 rfl rfl dX12_keeps_9 (fun h1 => ?_)
  refine zf_nmk (fun k2 => ?_)
  refine zf_aload_n hC dX12_keeps_10 rfl 0 rfl ?_
  refine gf_1295 hC dX12_keeps_11 ?_
  refine zf_aload_n hC dX12_keeps_14 rfl 0 rfl ?_
  refine gf_1307 hC dX12_keeps_15 ?_
  refine zf_iload_n hC dX12_keeps_18 rfl 2 rfl ?_
  refine zf_iast hC (j := 140) ia_140 rfl rfl dX12_keeps_19 (fun h3 => ?_)
  refine zf_nmk (fun k4 => ?_)
  refine zf_aload_n hC dX12_keeps_20 rfl 0 rfl ?_
  refine gf_1296 hC dX12_keeps_21 ?_
  refine zf_aload_n hC dX12_keeps_24 rfl 0 rfl ?_
  refine gf_1307 hC dX12_keeps_25 ?_
  refine zf_iload_n hC dX12_keeps_28 rfl 3 rfl ?_
  refine zf_iast hC (j := 141) ia_141 rfl rfl dX12_keeps_29 (fun h5 => ?_)
  refine zf_nmk (fun k6 => ?_)
  refine zf_aload_n hC dX12_keeps_30 rfl 0 rfl ?_
  refine gf_1297 hC dX12_keeps_31 ?_
  refine zf_aload_n hC dX12_keeps_34 rfl 0 rfl ?_
  refine gf_1307 hC dX12_keeps_35 ?_
  refine zf_iload hC dX12_keeps_38 4 rfl ?_
  refine zf_iast hC (j := 142) ia_142 rfl rfl dX12_keeps_40 (fun h7 => ?_)
  refine zf_nmk (fun k8 => ?_)
  refine zf_aload_n hC dX12_keeps_41 rfl 0 rfl ?_
  refine gf_1298 hC dX12_keeps_42 ?_
  refine zf_aload_n hC dX12_keeps_45 rfl 0 rfl ?_
  refine gf_1307 hC dX12_keeps_46 ?_
  refine zf_aload_n hC dX12_keeps_49 rfl 0 rfl ?_
  refine gf_1231 hC dX12_keeps_50 ?_
  refine zf_iast hC (j := 143) ia_143 rfl rfl dX12_keeps_53 (fun h9 => ?_)
  refine zf_nmk (fun k10 => ?_)
  refine zf_aload_n hC dX12_keeps_54 rfl 0 rfl ?_
  refine zf_dup hC dX12_keeps_55 rfl ?_
  refine gf_1307 hC dX12_keeps_56 ?_
  refine zf_iconst hC (v := 1) dX12_keeps_59 rfl ?_
  refine zf_iadd hC dX12_keeps_60 ?_
  refine pf_1307 hC dX12_keeps_61 ?_
  refine zf_nmk (fun k11 => ?_)
  refine zf_aload_n hC dX12_keeps_64 rfl 0 rfl ?_
  refine gf_1307 hC dX12_keeps_65 ?_
  refine zf_iconst hC (v := 1) dX12_keeps_68 rfl ?_
  refine zf_isub hC dX12_keeps_69 ?_
  exact zf_iret hC rfl dX12_keeps_70
/-! LifeKeysModel.signs -/
theorem dX12_signs_0 : decode cX12_signs 0 = .ok (.iload_n 3, 1) := by decide +kernel
theorem dX12_signs_1 : decode cX12_signs 1 = .ok (.invokestatic 220, 3) := by decide +kernel
theorem dX12_signs_4 : decode cX12_signs 4 = .ok (.istore 4, 2) := by decide +kernel
theorem dX12_signs_6 : decode cX12_signs 6 = .ok (.aload_n 0, 1) := by decide +kernel
theorem dX12_signs_7 : decode cX12_signs 7 = .ok (.iload 4, 2) := by decide +kernel
theorem dX12_signs_9 : decode cX12_signs 9 = .ok (.iload_n 3, 1) := by decide +kernel
theorem dX12_signs_10 : decode cX12_signs 10 = .ok (.iload 4, 2) := by decide +kernel
theorem dX12_signs_12 : decode cX12_signs 12 = .ok (.aload_n 0, 1) := by decide +kernel
theorem dX12_signs_13 : decode cX12_signs 13 = .ok (.getfield 100, 3) := by decide +kernel
theorem dX12_signs_16 : decode cX12_signs 16 = .ok (.iload_n 2, 1) := by decide +kernel
theorem dX12_signs_17 : decode cX12_signs 17 = .ok (.iaload, 1) := by decide +kernel
theorem dX12_signs_18 : decode cX12_signs 18 = .ok (.invokestatic 431, 3) := by decide +kernel
theorem dX12_signs_21 : decode cX12_signs 21 = .ok (.aload_n 0, 1) := by decide +kernel
theorem dX12_signs_22 : decode cX12_signs 22 = .ok (.getfield 13, 3) := by decide +kernel
theorem dX12_signs_25 : decode cX12_signs 25 = .ok (.iload_n 1, 1) := by decide +kernel
theorem dX12_signs_26 : decode cX12_signs 26 = .ok (.iaload, 1) := by decide +kernel
theorem dX12_signs_27 : decode cX12_signs 27 = .ok (.imul, 1) := by decide +kernel
theorem dX12_signs_28 : decode cX12_signs 28 = .ok (.iadd, 1) := by decide +kernel
theorem dX12_signs_29 : decode cX12_signs 29 = .ok (.sipush 1019, 3) := by decide +kernel
theorem dX12_signs_32 : decode cX12_signs 32 = .ok (.irem, 1) := by decide +kernel
theorem dX12_signs_33 : decode cX12_signs 33 = .ok (.iload_n 1, 1) := by decide +kernel
theorem dX12_signs_34 : decode cX12_signs 34 = .ok (.iload_n 2, 1) := by decide +kernel
theorem dX12_signs_35 : decode cX12_signs 35 = .ok (.invokevirtual 434, 3) := by decide +kernel
theorem dX12_signs_38 : decode cX12_signs 38 = .ok (.ireturn, 1) := by decide +kernel
def fX12_signs (k : ST) (a0 : Int32) (a1 : Int32) (a2 : Int32) : Option (Int32 × ST) := ob (fX12_four k a2) fun r1 k2 => ck (inb a1 40) (ob (fX12_challenge k2 r1 (gA k2 128 (ix a1))) fun r5 k6 => ck (inb a0 40) (ob (fX12_keeps k6 r1 (j_rem (a2 + (r5 * (gA k6 100 (ix a0)))) 1019) a0 a1) fun r9 k10 => some (r9, k10)))
set_option maxRecDepth 20000 in
theorem c_X12_signs (l : Launch) (g : GT) (a0 : Int32) (a1 : Int32) (a2 : Int32) : CN l yX12_signs cX12_signs 5 (some .int) { frames := 2, cells := 0, slots := 0, locals := 44 } g TM voI [.ref (g.2.1 11), .int a0, .int a1, .int a2] (fun k => fX12_signs k a0 a1 a2) := by
  refine cn_of (by decide) (Nat.le_of_ble_eq_true rfl) ?_
  intro p e s m args below meth c hC k
  have hC : HC p s m args meth c cX12_signs 5 RX12 (some .int) g := hC
  have hR : 2 ≤ ({ frames := 2, cells := 0, slots := 0, locals := 44 } : Room).frames ∧ 44 ≤ ({ frames := 2, cells := 0, slots := 0, locals := 44 } : Room).locals := ⟨Nat.le_refl _, Nat.le_refl _⟩
  show ZF p l e _ s m args below meth c g TM voI 5 k 0 [(0, .ref (g.2.1 11)), (1, .int a0), (2, .int a1), (3, .int a2)] [] (fX12_signs k a0 a1 a2)
  unfold fX12_signs
  refine zf_iload_n hC dX12_signs_0 rfl 3 rfl ?_
  refine zf_callS hC (c_X12_four l g TM a2) mt_X12_four wd_1537 wd_1536 rfl (rm_le hR rfl) rfl rfl (rest := []) rfl (Nat.le_of_ble_eq_true rfl) dX12_signs_1 (fun r1 k2 h3 => ?_)
  refine zf_istore hC (LV' := [(4, .int r1), (0, .ref (g.2.1 11)), (1, .int a0), (2, .int a1), (3, .int a2)]) dX12_signs_4 (by decide) rfl ?_
  refine zf_aload_n hC dX12_signs_6 rfl 1 rfl ?_
  refine zf_iload hC dX12_signs_7 0 rfl ?_
  refine zf_iload_n hC dX12_signs_9 rfl 4 rfl ?_
  refine zf_iload hC dX12_signs_10 0 rfl ?_
  refine zf_aload_n hC dX12_signs_12 rfl 1 rfl ?_
  refine gf_1268 hC dX12_signs_13 ?_
  refine zf_iload_n hC dX12_signs_16 rfl 3 rfl ?_
  refine zf_iald hC (j := 128) ia_128 rfl rfl dX12_signs_17 (fun h4 => ?_)
  refine zf_callS hC (c_X12_challenge l g TM r1 (gA k2 128 (ix a1))) mt_X12_challenge wd_1801 wd_1800 rfl (rm_le hR rfl) rfl rfl (rest := [.int a2, .int r1, .ref (g.2.1 11)]) rfl (Nat.le_of_ble_eq_true rfl) dX12_signs_18 (fun r5 k6 h7 => ?_)
  refine zf_aload_n hC dX12_signs_21 rfl 1 rfl ?_
  refine gf_1233 hC dX12_signs_22 ?_
  refine zf_iload_n hC dX12_signs_25 rfl 2 rfl ?_
  refine zf_iald hC (j := 100) ia_100 rfl rfl dX12_signs_26 (fun h8 => ?_)
  refine zf_imul hC dX12_signs_27 ?_
  refine zf_iadd hC dX12_signs_28 ?_
  refine zf_sipush hC (v := 1019) dX12_signs_29 rfl ?_
  refine zf_irem hC dX12_signs_32 (by decide) ?_
  refine zf_iload_n hC dX12_signs_33 rfl 2 rfl ?_
  refine zf_iload_n hC dX12_signs_34 rfl 3 rfl ?_
  refine zf_callV hC (c_X12_keeps l g r1 (j_rem (a2 + (r5 * (gA k6 100 (ix a0)))) 1019) a0 a1) mt_X12_keeps wd_1805 sp_83 ci_11 ic_11 wd_1803 rfl (rm_le hR rfl) rfl rfl (rest := []) rfl (Nat.le_of_ble_eq_true rfl) dX12_signs_35 (fun r9 k10 h11 => ?_)
  exact zf_iret hC rfl dX12_signs_38
