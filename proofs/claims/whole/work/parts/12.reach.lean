/-! LifeKeys.Partings.knows -/
theorem dX3_knows_0 : decode cX3_knows 0 = .ok (.iload_n 1, 1) := by decide +kernel
theorem dX3_knows_1 : decode cX3_knows 1 = .ok (.ifCond .lt 15, 3) := by decide +kernel
theorem dX3_knows_4 : decode cX3_knows 4 = .ok (.iload_n 1, 1) := by decide +kernel
theorem dX3_knows_5 : decode cX3_knows 5 = .ok (.aload_n 0, 1) := by decide +kernel
theorem dX3_knows_6 : decode cX3_knows 6 = .ok (.getfield 32, 3) := by decide +kernel
theorem dX3_knows_9 : decode cX3_knows 9 = .ok (.if_icmp .ge 7, 3) := by decide +kernel
theorem dX3_knows_12 : decode cX3_knows 12 = .ok (.iconst 1, 1) := by decide +kernel
theorem dX3_knows_13 : decode cX3_knows 13 = .ok (.goto 4, 3) := by decide +kernel
theorem dX3_knows_16 : decode cX3_knows 16 = .ok (.iconst 0, 1) := by decide +kernel
theorem dX3_knows_17 : decode cX3_knows 17 = .ok (.ireturn, 1) := by decide +kernel
def fX3_knows (k : ST) (a0 : Int32) : Option (Bool × ST) := if a0 < 0 then some (false, k) else if (gI k 2 0) ≤ a0 then some (false, k) else some (true, k)
set_option maxRecDepth 20000 in
theorem c_X3_knows (l : Launch) (g : GT) (a0 : Int32) : CN l yX3_knows cX3_knows 2 (some .boolean) { frames := 0, cells := 0, slots := 0, locals := 0 } g TK voB [.ref (g.2.1 2), .int a0] (fun k => fX3_knows k a0) := by
  refine cn_of (by decide) (Nat.le_of_ble_eq_true rfl) ?_
  intro p e s m args below meth c hC k
  have hC : HC p s m args meth c cX3_knows 2 RX3 (some .boolean) g := hC
  have hR : 0 ≤ ({ frames := 0, cells := 0, slots := 0, locals := 0 } : Room).frames ∧ 0 ≤ ({ frames := 0, cells := 0, slots := 0, locals := 0 } : Room).locals := ⟨Nat.le_refl _, Nat.le_refl _⟩
  show ZF p l e _ s m args below meth c g TK voB 2 k 0 [(0, .ref (g.2.1 2)), (1, .int a0)] [] (fX3_knows k a0)
  unfold fX3_knows
  refine zf_iload_n hC dX3_knows_0 rfl 1 rfl ?_
  refine zf_if_lt hC (tgt := 16) dX3_knows_1 (by decide) (fun h1 => ?_) (fun h1 => ?_)
  · refine zf_iconst hC (v := 0) dX3_knows_16 rfl ?_
    exact zf_zret hC rfl false rfl dX3_knows_17
  · refine zf_iload_n hC dX3_knows_4 rfl 1 rfl ?_
    refine zf_aload_n hC dX3_knows_5 rfl 0 rfl ?_
    refine gf_140 hC dX3_knows_6 ?_
    refine zf_icmp_ge hC (tgt := 16) dX3_knows_9 (by decide) (fun h2 => ?_) (fun h2 => ?_)
    · refine zf_iconst hC (v := 0) dX3_knows_16 rfl ?_
      exact zf_zret hC rfl false rfl dX3_knows_17
    · refine zf_iconst hC (v := 1) dX3_knows_12 rfl ?_
      refine zf_goto hC (tgt := 17) dX3_knows_13 (by decide) ?_
      exact zf_zret hC rfl true rfl dX3_knows_17
/-! LifeKeys.Partings.inForce -/
theorem dX3_inForce_0 : decode cX3_inForce 0 = .ok (.aload_n 0, 1) := by decide +kernel
theorem dX3_inForce_1 : decode cX3_inForce 1 = .ok (.iload_n 1, 1) := by decide +kernel
theorem dX3_inForce_2 : decode cX3_inForce 2 = .ok (.invokevirtual 46, 3) := by decide +kernel
theorem dX3_inForce_5 : decode cX3_inForce 5 = .ok (.ifCond .eq 37, 3) := by decide +kernel
theorem dX3_inForce_8 : decode cX3_inForce 8 = .ok (.aload_n 0, 1) := by decide +kernel
theorem dX3_inForce_9 : decode cX3_inForce 9 = .ok (.getfield 21, 3) := by decide +kernel
theorem dX3_inForce_12 : decode cX3_inForce 12 = .ok (.iload_n 1, 1) := by decide +kernel
theorem dX3_inForce_13 : decode cX3_inForce 13 = .ok (.iaload, 1) := by decide +kernel
theorem dX3_inForce_14 : decode cX3_inForce 14 = .ok (.iload_n 2, 1) := by decide +kernel
theorem dX3_inForce_15 : decode cX3_inForce 15 = .ok (.if_icmp .gt 27, 3) := by decide +kernel
theorem dX3_inForce_18 : decode cX3_inForce 18 = .ok (.aload_n 0, 1) := by decide +kernel
theorem dX3_inForce_19 : decode cX3_inForce 19 = .ok (.getfield 24, 3) := by decide +kernel
theorem dX3_inForce_22 : decode cX3_inForce 22 = .ok (.iload_n 1, 1) := by decide +kernel
theorem dX3_inForce_23 : decode cX3_inForce 23 = .ok (.iaload, 1) := by decide +kernel
theorem dX3_inForce_24 : decode cX3_inForce 24 = .ok (.iconst (-1), 1) := by decide +kernel
theorem dX3_inForce_25 : decode cX3_inForce 25 = .ok (.if_icmp .eq 13, 3) := by decide +kernel
theorem dX3_inForce_28 : decode cX3_inForce 28 = .ok (.iload_n 2, 1) := by decide +kernel
theorem dX3_inForce_29 : decode cX3_inForce 29 = .ok (.aload_n 0, 1) := by decide +kernel
theorem dX3_inForce_30 : decode cX3_inForce 30 = .ok (.getfield 24, 3) := by decide +kernel
theorem dX3_inForce_33 : decode cX3_inForce 33 = .ok (.iload_n 1, 1) := by decide +kernel
theorem dX3_inForce_34 : decode cX3_inForce 34 = .ok (.iaload, 1) := by decide +kernel
theorem dX3_inForce_35 : decode cX3_inForce 35 = .ok (.if_icmp .ge 7, 3) := by decide +kernel
theorem dX3_inForce_38 : decode cX3_inForce 38 = .ok (.iconst 1, 1) := by decide +kernel
theorem dX3_inForce_39 : decode cX3_inForce 39 = .ok (.goto 4, 3) := by decide +kernel
theorem dX3_inForce_42 : decode cX3_inForce 42 = .ok (.iconst 0, 1) := by decide +kernel
theorem dX3_inForce_43 : decode cX3_inForce 43 = .ok (.ireturn, 1) := by decide +kernel
def fX3_inForce (k : ST) (a0 : Int32) (a1 : Int32) : Option (Bool × ST) := ob (fX3_knows k a0) fun r1 k2 => if r1 = true then ck (inb a0 40) (if a1 < (gA k2 16 (ix a0)) then some (false, k2) else ck (inb a0 40) (if (gA k2 17 (ix a0)) = (-1) then some (true, k2) else ck (inb a0 40) (if (gA k2 17 (ix a0)) ≤ a1 then some (false, k2) else some (true, k2)))) else some (false, k2)
set_option maxRecDepth 20000 in
theorem c_X3_inForce (l : Launch) (g : GT) (a0 : Int32) (a1 : Int32) : CN l yX3_inForce cX3_inForce 3 (some .boolean) { frames := 1, cells := 0, slots := 0, locals := 21 } g TK voB [.ref (g.2.1 2), .int a0, .int a1] (fun k => fX3_inForce k a0 a1) := by
  refine cn_of (by decide) (Nat.le_of_ble_eq_true rfl) ?_
  intro p e s m args below meth c hC k
  have hC : HC p s m args meth c cX3_inForce 3 RX3 (some .boolean) g := hC
  have hR : 1 ≤ ({ frames := 1, cells := 0, slots := 0, locals := 21 } : Room).frames ∧ 21 ≤ ({ frames := 1, cells := 0, slots := 0, locals := 21 } : Room).locals := ⟨Nat.le_refl _, Nat.le_refl _⟩
  show ZF p l e _ s m args below meth c g TK voB 3 k 0 [(0, .ref (g.2.1 2)), (1, .int a0), (2, .int a1)] [] (fX3_inForce k a0 a1)
  unfold fX3_inForce
  refine zf_aload_n hC dX3_inForce_0 rfl 0 rfl ?_
  refine zf_iload_n hC dX3_inForce_1 rfl 1 rfl ?_
  refine zf_callV hC (c_X3_knows l g a0) mt_X3_knows wd_522 wd_523 ci_2 ic_2 wd_521 rfl (rm_le hR rfl) rfl rfl (rest := []) rfl (Nat.le_of_ble_eq_true rfl) dX3_inForce_2 (fun r1 k2 h3 => ?_)
  refine zf_ifb_eq hC (tgt := 42) dX3_inForce_5 (by decide) (fun h4 => ?_) (fun h4 => ?_)
  · refine zf_aload_n hC dX3_inForce_8 rfl 0 rfl ?_
    refine gf_152 hC dX3_inForce_9 ?_
    refine zf_iload_n hC dX3_inForce_12 rfl 1 rfl ?_
    refine zf_iald hC (j := 16) ia_16 rfl rfl dX3_inForce_13 (fun h5 => ?_)
    refine zf_iload_n hC dX3_inForce_14 rfl 2 rfl ?_
    refine zf_icmp_gt hC (tgt := 42) dX3_inForce_15 (by decide) (fun h6 => ?_) (fun h6 => ?_)
    · refine zf_iconst hC (v := 0) dX3_inForce_42 rfl ?_
      exact zf_zret hC rfl false rfl dX3_inForce_43
    · refine zf_aload_n hC dX3_inForce_18 rfl 0 rfl ?_
      refine gf_153 hC dX3_inForce_19 ?_
      refine zf_iload_n hC dX3_inForce_22 rfl 1 rfl ?_
      refine zf_iald hC (j := 17) ia_17 rfl rfl dX3_inForce_23 (fun h7 => ?_)
      refine zf_iconst hC (v := (-1)) dX3_inForce_24 rfl ?_
      refine zf_icmp_eq hC (tgt := 38) dX3_inForce_25 (by decide) (fun h8 => ?_) (fun h8 => ?_)
      · refine zf_iconst hC (v := 1) dX3_inForce_38 rfl ?_
        refine zf_goto hC (tgt := 43) dX3_inForce_39 (by decide) ?_
        exact zf_zret hC rfl true rfl dX3_inForce_43
      · refine zf_iload_n hC dX3_inForce_28 rfl 2 rfl ?_
        refine zf_aload_n hC dX3_inForce_29 rfl 0 rfl ?_
        refine gf_153 hC dX3_inForce_30 ?_
        refine zf_iload_n hC dX3_inForce_33 rfl 1 rfl ?_
        refine zf_iald hC (j := 17) ia_17 rfl rfl dX3_inForce_34 (fun h9 => ?_)
        refine zf_icmp_ge hC (tgt := 42) dX3_inForce_35 (by decide) (fun h10 => ?_) (fun h10 => ?_)
        · refine zf_iconst hC (v := 0) dX3_inForce_42 rfl ?_
          exact zf_zret hC rfl false rfl dX3_inForce_43
        · refine zf_iconst hC (v := 1) dX3_inForce_38 rfl ?_
          refine zf_goto hC (tgt := 43) dX3_inForce_39 (by decide) ?_
          exact zf_zret hC rfl true rfl dX3_inForce_43
  · refine zf_iconst hC (v := 0) dX3_inForce_42 rfl ?_
    exact zf_zret hC rfl false rfl dX3_inForce_43
/-! LifeKeys.Partings.lastInForce -/
theorem dX3_lastInForce_0 : decode cX3_lastInForce 0 = .ok (.aload_n 0, 1) := by decide +kernel
theorem dX3_lastInForce_1 : decode cX3_lastInForce 1 = .ok (.getfield 32, 3) := by decide +kernel
theorem dX3_lastInForce_4 : decode cX3_lastInForce 4 = .ok (.iconst 1, 1) := by decide +kernel
theorem dX3_lastInForce_5 : decode cX3_lastInForce 5 = .ok (.isub, 1) := by decide +kernel
theorem dX3_lastInForce_6 : decode cX3_lastInForce 6 = .ok (.istore_n 3, 1) := by decide +kernel
theorem dX3_lastInForce_7 : decode cX3_lastInForce 7 = .ok (.iload_n 3, 1) := by decide +kernel
theorem dX3_lastInForce_8 : decode cX3_lastInForce 8 = .ok (.ifCond .lt 30, 3) := by decide +kernel
theorem dX3_lastInForce_11 : decode cX3_lastInForce 11 = .ok (.aload_n 0, 1) := by decide +kernel
theorem dX3_lastInForce_12 : decode cX3_lastInForce 12 = .ok (.getfield 11, 3) := by decide +kernel
theorem dX3_lastInForce_15 : decode cX3_lastInForce 15 = .ok (.iload_n 3, 1) := by decide +kernel
theorem dX3_lastInForce_16 : decode cX3_lastInForce 16 = .ok (.iaload, 1) := by decide +kernel
theorem dX3_lastInForce_17 : decode cX3_lastInForce 17 = .ok (.iload_n 1, 1) := by decide +kernel
theorem dX3_lastInForce_18 : decode cX3_lastInForce 18 = .ok (.if_icmp .ne 14, 3) := by decide +kernel
theorem dX3_lastInForce_21 : decode cX3_lastInForce 21 = .ok (.aload_n 0, 1) := by decide +kernel
theorem dX3_lastInForce_22 : decode cX3_lastInForce 22 = .ok (.iload_n 3, 1) := by decide +kernel
theorem dX3_lastInForce_23 : decode cX3_lastInForce 23 = .ok (.iload_n 2, 1) := by decide +kernel
theorem dX3_lastInForce_24 : decode cX3_lastInForce 24 = .ok (.invokevirtual 50, 3) := by decide +kernel
theorem dX3_lastInForce_27 : decode cX3_lastInForce 27 = .ok (.ifCond .eq 5, 3) := by decide +kernel
theorem dX3_lastInForce_30 : decode cX3_lastInForce 30 = .ok (.iload_n 3, 1) := by decide +kernel
theorem dX3_lastInForce_31 : decode cX3_lastInForce 31 = .ok (.ireturn, 1) := by decide +kernel
theorem dX3_lastInForce_32 : decode cX3_lastInForce 32 = .ok (.iinc 3 (-1), 3) := by decide +kernel
theorem dX3_lastInForce_35 : decode cX3_lastInForce 35 = .ok (.goto (-28), 3) := by decide +kernel
theorem dX3_lastInForce_38 : decode cX3_lastInForce 38 = .ok (.iconst (-1), 1) := by decide +kernel
theorem dX3_lastInForce_39 : decode cX3_lastInForce 39 = .ok (.ireturn, 1) := by decide +kernel
def lpX3_lastInForce_7 (v1 : Int32) (v2 : Int32) : Nat → Int32 → ST → (Int32 → ST → Option (Int32 × ST)) → Option (Int32 × ST)
  | 0, _, _, _ => none
  | n + 1, v3, k, cont => if v3 < 0 then cont v3 k else ck (inb v3 40) (if (gA k 13 (ix v3)) = v1 then ob (fX3_inForce k v3 v2) fun r4 k5 => if r4 = true then some (v3, k5) else lpX3_lastInForce_7 v1 v2 n (v3 + (-1)) k5 cont else lpX3_lastInForce_7 v1 v2 n (v3 + (-1)) k cont)
set_option maxRecDepth 20000 in
theorem zlpX3_lastInForce_7 {p : Program} {l : Launch} {e : Env} {R : Room} {s : State} {m : MethodId} {args : Array Value} {below : List Frame} {meth : Method} {c : Code} {g : GT} (hC : HC p s m args meth c cX3_lastInForce 4 RX3 (some .int) g) (hR : 2 ≤ R.frames ∧ 43 ≤ R.locals)  (v1 : Int32) (v2 : Int32) {cont : Int32 → ST → Option (Int32 × ST)} (hk : ∀ (v3 : Int32) (k : ST), ZF p l e R s m args below meth c g TK voI 4 k 38 [(0, .ref (g.2.1 2)), (1, .int v1), (2, .int v2), (3, .int v3)] [] (cont v3 k)) : ∀ (n : Nat) (v3 : Int32) (k : ST), ZF p l e R s m args below meth c g TK voI 4 k 7 [(0, .ref (g.2.1 2)), (1, .int v1), (2, .int v2), (3, .int v3)] [] (lpX3_lastInForce_7 v1 v2 n v3 k cont) := by
  intro n
  induction n with
  | zero => intros; exact zf_none
  | succ n ih =>
    intro v3 k
    rw [lpX3_lastInForce_7]
    refine zf_iload_n hC dX3_lastInForce_7 rfl 3 rfl ?_
    refine zf_if_lt hC (tgt := 38) dX3_lastInForce_8 (by decide) (fun h1 => ?_) (fun h1 => ?_)
    · refine zf_lv (LV' := [(0, .ref (g.2.1 2)), (1, .int v1), (2, .int v2), (3, .int v3)]) [0, 1, 2, 3] rfl ?_
      exact hk v3 k
    · refine zf_aload_n hC dX3_lastInForce_11 rfl 0 rfl ?_
      refine gf_143 hC dX3_lastInForce_12 ?_
      refine zf_iload_n hC dX3_lastInForce_15 rfl 3 rfl ?_
      refine zf_iald hC (j := 13) ia_13 rfl rfl dX3_lastInForce_16 (fun h2 => ?_)
      refine zf_iload_n hC dX3_lastInForce_17 rfl 1 rfl ?_
      refine zf_icmp_ne hC (tgt := 32) dX3_lastInForce_18 (by decide) (fun h3 => ?_) (fun h3 => ?_)
      · refine zf_aload_n hC dX3_lastInForce_21 rfl 0 rfl ?_
        refine zf_iload_n hC dX3_lastInForce_22 rfl 3 rfl ?_
        refine zf_iload_n hC dX3_lastInForce_23 rfl 2 rfl ?_
        refine zf_callV hC (c_X3_inForce l g v3 v2) mt_X3_inForce wd_518 wd_519 ci_2 ic_2 wd_517 rfl (rm_le hR rfl) rfl rfl (rest := []) rfl (Nat.le_of_ble_eq_true rfl) dX3_lastInForce_24 (fun r4 k5 h6 => ?_)
        refine zf_ifb_eq hC (tgt := 32) dX3_lastInForce_27 (by decide) (fun h7 => ?_) (fun h7 => ?_)
        · refine zf_iload_n hC dX3_lastInForce_30 rfl 3 rfl ?_
          exact zf_iret hC rfl dX3_lastInForce_31
        · refine zf_iinc hC (q := 3) (v := v3 + (-1)) (LV' := [(3, .int (v3 + (-1))), (0, .ref (g.2.1 2)), (1, .int v1), (2, .int v2)]) dX3_lastInForce_32 rfl rfl (by decide) rfl ?_
          refine zf_goto hC (tgt := 7) dX3_lastInForce_35 (by decide) ?_
          refine zf_lv (LV' := [(0, .ref (g.2.1 2)), (1, .int v1), (2, .int v2), (3, .int (v3 + (-1)))]) [1, 2, 3, 0] rfl ?_
          exact ih (v3 + (-1)) k5
      · refine zf_iinc hC (q := 3) (v := v3 + (-1)) (LV' := [(3, .int (v3 + (-1))), (0, .ref (g.2.1 2)), (1, .int v1), (2, .int v2)]) dX3_lastInForce_32 rfl rfl (by decide) rfl ?_
        refine zf_goto hC (tgt := 7) dX3_lastInForce_35 (by decide) ?_
        refine zf_lv (LV' := [(0, .ref (g.2.1 2)), (1, .int v1), (2, .int v2), (3, .int (v3 + (-1)))]) [1, 2, 3, 0] rfl ?_
        exact ih (v3 + (-1)) k
def fX3_lastInForce (k : ST) (a0 : Int32) (a1 : Int32) : Option (Int32 × ST) := lpX3_lastInForce_7 a0 a1 FU ((gI k 2 0) - 1) k fun y8 k9 => some ((-1), k9)
set_option maxRecDepth 20000 in
theorem c_X3_lastInForce (l : Launch) (g : GT) (a0 : Int32) (a1 : Int32) : CN l yX3_lastInForce cX3_lastInForce 4 (some .int) { frames := 2, cells := 0, slots := 0, locals := 43 } g TK voI [.ref (g.2.1 2), .int a0, .int a1] (fun k => fX3_lastInForce k a0 a1) := by
  refine cn_of (by decide) (Nat.le_of_ble_eq_true rfl) ?_
  intro p e s m args below meth c hC k
  have hC : HC p s m args meth c cX3_lastInForce 4 RX3 (some .int) g := hC
  have hR : 2 ≤ ({ frames := 2, cells := 0, slots := 0, locals := 43 } : Room).frames ∧ 43 ≤ ({ frames := 2, cells := 0, slots := 0, locals := 43 } : Room).locals := ⟨Nat.le_refl _, Nat.le_refl _⟩
  show ZF p l e _ s m args below meth c g TK voI 4 k 0 [(0, .ref (g.2.1 2)), (1, .int a0), (2, .int a1)] [] (fX3_lastInForce k a0 a1)
  unfold fX3_lastInForce
  refine zf_aload_n hC dX3_lastInForce_0 rfl 0 rfl ?_
  refine gf_140 hC dX3_lastInForce_1 ?_
  refine zf_iconst hC (v := 1) dX3_lastInForce_4 rfl ?_
  refine zf_isub hC dX3_lastInForce_5 ?_
  refine zf_istore_n hC (LV' := [(3, .int ((gI k 2 0) - 1)), (0, .ref (g.2.1 2)), (1, .int a0), (2, .int a1)]) dX3_lastInForce_6 rfl (by decide) rfl ?_
  refine zf_lv (LV' := [(0, .ref (g.2.1 2)), (1, .int a0), (2, .int a1), (3, .int ((gI k 2 0) - 1))]) [1, 2, 3, 0] rfl ?_
  refine zlpX3_lastInForce_7 hC hR a0 a1 (fun y8 k9 => ?_) FU ((gI k 2 0) - 1) k
  refine zf_iconst hC (v := (-1)) dX3_lastInForce_38 rfl ?_
  exact zf_iret hC rfl dX3_lastInForce_39
/-! LifeKeys.Partings.add -/
theorem dX3_add_0 : decode cX3_add 0 = .ok (.aload_n 0, 1) := by decide +kernel
theorem dX3_add_1 : decode cX3_add 1 = .ok (.getfield 32, 3) := by decide +kernel
theorem dX3_add_4 : decode cX3_add 4 = .ok (.bipush 40, 2) := by decide +kernel
theorem dX3_add_6 : decode cX3_add 6 = .ok (.if_icmp .lt 5, 3) := by decide +kernel
theorem dX3_add_9 : decode cX3_add 9 = .ok (.iconst (-1), 1) := by decide +kernel
theorem dX3_add_10 : decode cX3_add 10 = .ok (.ireturn, 1) := by decide +kernel
theorem dX3_add_11 : decode cX3_add 11 = .ok (.aload_n 0, 1) := by decide +kernel
theorem dX3_add_12 : decode cX3_add 12 = .ok (.getfield 11, 3) := by decide +kernel
theorem dX3_add_15 : decode cX3_add 15 = .ok (.aload_n 0, 1) := by decide +kernel
theorem dX3_add_16 : decode cX3_add 16 = .ok (.getfield 32, 3) := by decide +kernel
theorem dX3_add_19 : decode cX3_add 19 = .ok (.iload_n 1, 1) := by decide +kernel
theorem dX3_add_20 : decode cX3_add 20 = .ok (.iastore, 1) := by decide +kernel
theorem dX3_add_21 : decode cX3_add 21 = .ok (.aload_n 0, 1) := by decide +kernel
theorem dX3_add_22 : decode cX3_add 22 = .ok (.getfield 15, 3) := by decide +kernel
theorem dX3_add_25 : decode cX3_add 25 = .ok (.aload_n 0, 1) := by decide +kernel
theorem dX3_add_26 : decode cX3_add 26 = .ok (.getfield 32, 3) := by decide +kernel
theorem dX3_add_29 : decode cX3_add 29 = .ok (.iload_n 2, 1) := by decide +kernel
theorem dX3_add_30 : decode cX3_add 30 = .ok (.iastore, 1) := by decide +kernel
theorem dX3_add_31 : decode cX3_add 31 = .ok (.aload_n 0, 1) := by decide +kernel
theorem dX3_add_32 : decode cX3_add 32 = .ok (.getfield 18, 3) := by decide +kernel
theorem dX3_add_35 : decode cX3_add 35 = .ok (.aload_n 0, 1) := by decide +kernel
theorem dX3_add_36 : decode cX3_add 36 = .ok (.getfield 32, 3) := by decide +kernel
theorem dX3_add_39 : decode cX3_add 39 = .ok (.iload_n 3, 1) := by decide +kernel
theorem dX3_add_40 : decode cX3_add 40 = .ok (.iastore, 1) := by decide +kernel
theorem dX3_add_41 : decode cX3_add 41 = .ok (.aload_n 0, 1) := by decide +kernel
theorem dX3_add_42 : decode cX3_add 42 = .ok (.getfield 21, 3) := by decide +kernel
theorem dX3_add_45 : decode cX3_add 45 = .ok (.aload_n 0, 1) := by decide +kernel
theorem dX3_add_46 : decode cX3_add 46 = .ok (.getfield 32, 3) := by decide +kernel
theorem dX3_add_49 : decode cX3_add 49 = .ok (.iload 4, 2) := by decide +kernel
theorem dX3_add_51 : decode cX3_add 51 = .ok (.iastore, 1) := by decide +kernel
theorem dX3_add_52 : decode cX3_add 52 = .ok (.aload_n 0, 1) := by decide +kernel
theorem dX3_add_53 : decode cX3_add 53 = .ok (.getfield 24, 3) := by decide +kernel
theorem dX3_add_56 : decode cX3_add 56 = .ok (.aload_n 0, 1) := by decide +kernel
theorem dX3_add_57 : decode cX3_add 57 = .ok (.getfield 32, 3) := by decide +kernel
theorem dX3_add_60 : decode cX3_add 60 = .ok (.iconst (-1), 1) := by decide +kernel
theorem dX3_add_61 : decode cX3_add 61 = .ok (.iastore, 1) := by decide +kernel
theorem dX3_add_62 : decode cX3_add 62 = .ok (.aload_n 0, 1) := by decide +kernel
theorem dX3_add_63 : decode cX3_add 63 = .ok (.dup, 1) := by decide +kernel
theorem dX3_add_64 : decode cX3_add 64 = .ok (.getfield 32, 3) := by decide +kernel
theorem dX3_add_67 : decode cX3_add 67 = .ok (.iconst 1, 1) := by decide +kernel
theorem dX3_add_68 : decode cX3_add 68 = .ok (.iadd, 1) := by decide +kernel
theorem dX3_add_69 : decode cX3_add 69 = .ok (.putfield 32, 3) := by decide +kernel
theorem dX3_add_72 : decode cX3_add 72 = .ok (.aload_n 0, 1) := by decide +kernel
theorem dX3_add_73 : decode cX3_add 73 = .ok (.getfield 32, 3) := by decide +kernel
theorem dX3_add_76 : decode cX3_add 76 = .ok (.iconst 1, 1) := by decide +kernel
theorem dX3_add_77 : decode cX3_add 77 = .ok (.isub, 1) := by decide +kernel
theorem dX3_add_78 : decode cX3_add 78 = .ok (.ireturn, 1) := by decide +kernel
def fX3_add (k : ST) (a0 : Int32) (a1 : Int32) (a2 : Int32) (a3 : Int32) : Option (Int32 × ST) := if (gI k 2 0) < 40 then ck (inb (gI k 2 0) 40) (nm (sA k 13 (ix (gI k 2 0)) a0) fun k3 => ck (inb (gI k3 2 0) 40) (nm (sA k3 14 (ix (gI k3 2 0)) a1) fun k5 => ck (inb (gI k5 2 0) 40) (nm (sA k5 15 (ix (gI k5 2 0)) a2) fun k7 => ck (inb (gI k7 2 0) 40) (nm (sA k7 16 (ix (gI k7 2 0)) a3) fun k9 => ck (inb (gI k9 2 0) 40) (nm (sA k9 17 (ix (gI k9 2 0)) (-1)) fun k11 => nm (sI k11 2 0 ((gI k11 2 0) + 1)) fun k12 => some ((gI k12 2 0) - 1, k12)))))) else some ((-1), k)
set_option maxRecDepth 20000 in
theorem c_X3_add (l : Launch) (g : GT) (a0 : Int32) (a1 : Int32) (a2 : Int32) (a3 : Int32) : CN l yX3_add cX3_add 5 (some .int) { frames := 0, cells := 0, slots := 0, locals := 0 } g TK voI [.ref (g.2.1 2), .int a0, .int a1, .int a2, .int a3] (fun k => fX3_add k a0 a1 a2 a3) := by
  refine cn_of (by decide) (Nat.le_of_ble_eq_true rfl) ?_
  intro p e s m args below meth c hC k
  have hC : HC p s m args meth c cX3_add 5 RX3 (some .int) g := hC
  have hR : 0 ≤ ({ frames := 0, cells := 0, slots := 0, locals := 0 } : Room).frames ∧ 0 ≤ ({ frames := 0, cells := 0, slots := 0, locals := 0 } : Room).locals := ⟨Nat.le_refl _, Nat.le_refl _⟩
  show ZF p l e _ s m args below meth c g TK voI 5 k 0 [(0, .ref (g.2.1 2)), (1, .int a0), (2, .int a1), (3, .int a2), (4, .int a3)] [] (fX3_add k a0 a1 a2 a3)
  unfold fX3_add
  refine zf_aload_n hC dX3_add_0 rfl 0 rfl ?_
  refine gf_140 hC dX3_add_1 ?_
  refine zf_bipush hC (v := 40) dX3_add_4 rfl ?_
  refine zf_icmp_lt hC (tgt := 11) dX3_add_6 (by decide) (fun h1 => ?_) (fun h1 => ?_)
  · refine zf_aload_n hC dX3_add_11 rfl 0 rfl ?_
    refine gf_143 hC dX3_add_12 ?_
    refine zf_aload_n hC dX3_add_15 rfl 0 rfl ?_
    refine gf_140 hC dX3_add_16 ?_
    refine zf_iload_n hC dX3_add_19 rfl 1 rfl ?_
    refine zf_iast hC (j := 13) ia_13 rfl rfl dX3_add_20 (fun h2 => ?_)
    refine zf_nmk (fun k3 => ?_)
    refine zf_aload_n hC dX3_add_21 rfl 0 rfl ?_
    refine gf_146 hC dX3_add_22 ?_
    refine zf_aload_n hC dX3_add_25 rfl 0 rfl ?_
    refine gf_140 hC dX3_add_26 ?_
    refine zf_iload_n hC dX3_add_29 rfl 2 rfl ?_
    refine zf_iast hC (j := 14) ia_14 rfl rfl dX3_add_30 (fun h4 => ?_)
    refine zf_nmk (fun k5 => ?_)
    refine zf_aload_n hC dX3_add_31 rfl 0 rfl ?_
    refine gf_149 hC dX3_add_32 ?_
    refine zf_aload_n hC dX3_add_35 rfl 0 rfl ?_
    refine gf_140 hC dX3_add_36 ?_
    refine zf_iload_n hC dX3_add_39 rfl 3 rfl ?_
    refine zf_iast hC (j := 15) ia_15 rfl rfl dX3_add_40 (fun h6 => ?_)
    refine zf_nmk (fun k7 => ?_)
    refine zf_aload_n hC dX3_add_41 rfl 0 rfl ?_
    refine gf_152 hC dX3_add_42 ?_
    refine zf_aload_n hC dX3_add_45 rfl 0 rfl ?_
    refine gf_140 hC dX3_add_46 ?_
    refine zf_iload hC dX3_add_49 4 rfl ?_
    refine zf_iast hC (j := 16) ia_16 rfl rfl dX3_add_51 (fun h8 => ?_)
    refine zf_nmk (fun k9 => ?_)
    refine zf_aload_n hC dX3_add_52 rfl 0 rfl ?_
    refine gf_153 hC dX3_add_53 ?_
    refine zf_aload_n hC dX3_add_56 rfl 0 rfl ?_
    refine gf_140 hC dX3_add_57 ?_
    refine zf_iconst hC (v := (-1)) dX3_add_60 rfl ?_
    refine zf_iast hC (j := 17) ia_17 rfl rfl dX3_add_61 (fun h10 => ?_)
    refine zf_nmk (fun k11 => ?_)
    refine zf_aload_n hC dX3_add_62 rfl 0 rfl ?_
    refine zf_dup hC dX3_add_63 rfl ?_
    refine gf_140 hC dX3_add_64 ?_
    refine zf_iconst hC (v := 1) dX3_add_67 rfl ?_
    refine zf_iadd hC dX3_add_68 ?_
    refine pf_140 hC dX3_add_69 ?_
    refine zf_nmk (fun k12 => ?_)
    refine zf_aload_n hC dX3_add_72 rfl 0 rfl ?_
    refine gf_140 hC dX3_add_73 ?_
    refine zf_iconst hC (v := 1) dX3_add_76 rfl ?_
    refine zf_isub hC dX3_add_77 ?_
    exact zf_iret hC rfl dX3_add_78
  · refine zf_iconst hC (v := (-1)) dX3_add_9 rfl ?_
    exact zf_iret hC rfl dX3_add_10
/-! LifeKeys.Partings.drawCurve -/
theorem dX3_drawCurve_0 : decode cX3_drawCurve 0 = .ok (.aload_n 0, 1) := by decide +kernel
theorem dX3_drawCurve_1 : decode cX3_drawCurve 1 = .ok (.getfield 29, 3) := by decide +kernel
theorem dX3_drawCurve_4 : decode cX3_drawCurve 4 = .ok (.iload_n 1, 1) := by decide +kernel
theorem dX3_drawCurve_5 : decode cX3_drawCurve 5 = .ok (.aaload, 1) := by decide +kernel
theorem dX3_drawCurve_6 : decode cX3_drawCurve 6 = .ok (.iconst 0, 1) := by decide +kernel
theorem dX3_drawCurve_7 : decode cX3_drawCurve 7 = .ok (.iload_n 2, 1) := by decide +kernel
theorem dX3_drawCurve_8 : decode cX3_drawCurve 8 = .ok (.iastore, 1) := by decide +kernel
theorem dX3_drawCurve_9 : decode cX3_drawCurve 9 = .ok (.lload_n 3, 1) := by decide +kernel
theorem dX3_drawCurve_10 : decode cX3_drawCurve 10 = .ok (.lstore 5, 2) := by decide +kernel
theorem dX3_drawCurve_12 : decode cX3_drawCurve 12 = .ok (.iconst 1, 1) := by decide +kernel
theorem dX3_drawCurve_13 : decode cX3_drawCurve 13 = .ok (.istore 7, 2) := by decide +kernel
theorem dX3_drawCurve_15 : decode cX3_drawCurve 15 = .ok (.iload 7, 2) := by decide +kernel
theorem dX3_drawCurve_17 : decode cX3_drawCurve 17 = .ok (.aload_n 0, 1) := by decide +kernel
theorem dX3_drawCurve_18 : decode cX3_drawCurve 18 = .ok (.getfield 18, 3) := by decide +kernel
theorem dX3_drawCurve_21 : decode cX3_drawCurve 21 = .ok (.iload_n 1, 1) := by decide +kernel
theorem dX3_drawCurve_22 : decode cX3_drawCurve 22 = .ok (.iaload, 1) := by decide +kernel
theorem dX3_drawCurve_23 : decode cX3_drawCurve 23 = .ok (.if_icmp .ge 30, 3) := by decide +kernel
theorem dX3_drawCurve_26 : decode cX3_drawCurve 26 = .ok (.lload 5, 2) := by decide +kernel
theorem dX3_drawCurve_28 : decode cX3_drawCurve 28 = .ok (.invokestatic 36, 3) := by decide +kernel
theorem dX3_drawCurve_31 : decode cX3_drawCurve 31 = .ok (.lstore 5, 2) := by decide +kernel
theorem dX3_drawCurve_33 : decode cX3_drawCurve 33 = .ok (.aload_n 0, 1) := by decide +kernel
theorem dX3_drawCurve_34 : decode cX3_drawCurve 34 = .ok (.getfield 29, 3) := by decide +kernel
theorem dX3_drawCurve_37 : decode cX3_drawCurve 37 = .ok (.iload_n 1, 1) := by decide +kernel
theorem dX3_drawCurve_38 : decode cX3_drawCurve 38 = .ok (.aaload, 1) := by decide +kernel
theorem dX3_drawCurve_39 : decode cX3_drawCurve 39 = .ok (.iload 7, 2) := by decide +kernel
theorem dX3_drawCurve_41 : decode cX3_drawCurve 41 = .ok (.lload 5, 2) := by decide +kernel
theorem dX3_drawCurve_43 : decode cX3_drawCurve 43 = .ok (.invokestatic 42, 3) := by decide +kernel
theorem dX3_drawCurve_46 : decode cX3_drawCurve 46 = .ok (.iastore, 1) := by decide +kernel
theorem dX3_drawCurve_47 : decode cX3_drawCurve 47 = .ok (.iinc 7 1, 3) := by decide +kernel
theorem dX3_drawCurve_50 : decode cX3_drawCurve 50 = .ok (.goto (-35), 3) := by decide +kernel
theorem dX3_drawCurve_53 : decode cX3_drawCurve 53 = .ok (.return_, 1) := by decide +kernel
def lpX3_drawCurve_15 (v1 : Int32) (v2 : Int32) (v3 : Int64) : Nat → Int64 → Int32 → ST → (Int64 → Int32 → ST → Option (Unit × ST)) → Option (Unit × ST)
  | 0, _, _, _, _ => none
  | n + 1, v5, v7, k, cont => ck (inb v1 40) (if (gA k 15 (ix v1)) ≤ v7 then cont v5 v7 k else ob (fX0_nextSeed k v5) fun r6 k7 => ck (inb v1 40) (ob (fX0_coefficient k7 r6) fun r10 k11 => ck (inb v7 12) (nm (sA k11 (59 + ix v1) (ix v7) r10) fun k14 => lpX3_drawCurve_15 v1 v2 v3 n r6 (v7 + 1) k14 cont)))
set_option maxRecDepth 20000 in
theorem zlpX3_drawCurve_15 {p : Program} {l : Launch} {e : Env} {R : Room} {s : State} {m : MethodId} {args : Array Value} {below : List Frame} {meth : Method} {c : Code} {g : GT} (hC : HC p s m args meth c cX3_drawCurve 8 RX3 none g) (hR : 1 ≤ R.frames ∧ 21 ≤ R.locals)  (v1 : Int32) (v2 : Int32) (v3 : Int64) {cont : Int64 → Int32 → ST → Option (Unit × ST)} (hk : ∀ (v5 : Int64) (v7 : Int32) (k : ST), ZF p l e R s m args below meth c g TK voV 8 k 53 [(0, .ref (g.2.1 2)), (1, .int v1), (2, .int v2), (3, .long v3), (5, .long v5), (7, .int v7)] [] (cont v5 v7 k)) : ∀ (n : Nat) (v5 : Int64) (v7 : Int32) (k : ST), ZF p l e R s m args below meth c g TK voV 8 k 15 [(0, .ref (g.2.1 2)), (1, .int v1), (2, .int v2), (3, .long v3), (5, .long v5), (7, .int v7)] [] (lpX3_drawCurve_15 v1 v2 v3 n v5 v7 k cont) := by
  intro n
  induction n with
  | zero => intros; exact zf_none
  | succ n ih =>
    intro v5 v7 k
    rw [lpX3_drawCurve_15]
    refine zf_iload hC dX3_drawCurve_15 5 rfl ?_
    refine zf_aload_n hC dX3_drawCurve_17 rfl 0 rfl ?_
    refine gf_149 hC dX3_drawCurve_18 ?_
    refine zf_iload_n hC dX3_drawCurve_21 rfl 1 rfl ?_
    refine zf_iald hC (j := 15) ia_15 rfl rfl dX3_drawCurve_22 (fun h4 => ?_)
    refine zf_icmp_ge hC (tgt := 53) dX3_drawCurve_23 (by decide) (fun h5 => ?_) (fun h5 => ?_)
    · refine zf_lv (LV' := [(0, .ref (g.2.1 2)), (1, .int v1), (2, .int v2), (3, .long v3), (5, .long v5), (7, .int v7)]) [0, 1, 2, 3, 4, 5] rfl ?_
      exact hk v5 v7 k
    · refine zf_lload hC dX3_drawCurve_26 4 rfl ?_
      refine zf_callS hC (c_X0_nextSeed l g TK v5) mt_X0_nextSeed wd_591 wd_590 rfl (rm_le hR rfl) rfl rfl (rest := []) rfl (Nat.le_of_ble_eq_true rfl) dX3_drawCurve_28 (fun r6 k7 h8 => ?_)
      refine zf_lstore hC (LV' := [(5, .long r6), (0, .ref (g.2.1 2)), (1, .int v1), (2, .int v2), (3, .long v3), (7, .int v7)]) dX3_drawCurve_31 (by decide) rfl ?_
      refine zf_aload_n hC dX3_drawCurve_33 rfl 1 rfl ?_
      refine gf_155 hC dX3_drawCurve_34 ?_
      refine zf_iload_n hC dX3_drawCurve_37 rfl 2 rfl ?_
      refine zf_aald hC (j := 18) ia_18 rfl rfl dX3_drawCurve_38 (fun h9 => ?_)
      refine zf_iload hC dX3_drawCurve_39 5 rfl ?_
      refine zf_lload hC dX3_drawCurve_41 0 rfl ?_
      refine zf_callS hC (c_X0_coefficient l g TK r6) mt_X0_coefficient wd_596 wd_595 rfl (rm_le hR rfl) rfl rfl (rest := [.int v7, .ref (g.2.1 (12 + (59 + ix v1)))]) rfl (Nat.le_of_ble_eq_true rfl) dX3_drawCurve_43 (fun r10 k11 h12 => ?_)
      refine zf_iast hC (j := 59 + ix v1) (row_kd (inb_lt h9)).2.2 (row_kd (inb_lt h9)).1 (row_kd (inb_lt h9)).2.1 dX3_drawCurve_46 (fun h13 => ?_)
      refine zf_nmk (fun k14 => ?_)
      refine zf_iinc hC (q := 5) (v := v7 + 1) (LV' := [(7, .int (v7 + 1)), (5, .long r6), (0, .ref (g.2.1 2)), (1, .int v1), (2, .int v2), (3, .long v3)]) dX3_drawCurve_47 rfl rfl (by decide) rfl ?_
      refine zf_goto hC (tgt := 15) dX3_drawCurve_50 (by decide) ?_
      refine zf_lv (LV' := [(0, .ref (g.2.1 2)), (1, .int v1), (2, .int v2), (3, .long v3), (5, .long r6), (7, .int (v7 + 1))]) [2, 3, 4, 5, 1, 0] rfl ?_
      exact ih r6 (v7 + 1) k14
def fX3_drawCurve (k : ST) (a0 : Int32) (a1 : Int32) (a2 : Int64) : Option (Unit × ST) := ck (inb a0 40) (ck (inb 0 12) (nm (sA k (59 + ix a0) (ix 0) a1) fun k3 => lpX3_drawCurve_15 a0 a1 a2 FU a2 1 k3 fun y15 y16 k17 => some ((), k17)))
set_option maxRecDepth 20000 in
theorem c_X3_drawCurve (l : Launch) (g : GT) (a0 : Int32) (a1 : Int32) (a2 : Int64) : CN l yX3_drawCurve cX3_drawCurve 8 none { frames := 1, cells := 0, slots := 0, locals := 21 } g TK voV [.ref (g.2.1 2), .int a0, .int a1, .long a2] (fun k => fX3_drawCurve k a0 a1 a2) := by
  refine cn_of (by decide) (Nat.le_of_ble_eq_true rfl) ?_
  intro p e s m args below meth c hC k
  have hC : HC p s m args meth c cX3_drawCurve 8 RX3 none g := hC
  have hR : 1 ≤ ({ frames := 1, cells := 0, slots := 0, locals := 21 } : Room).frames ∧ 21 ≤ ({ frames := 1, cells := 0, slots := 0, locals := 21 } : Room).locals := ⟨Nat.le_refl _, Nat.le_refl _⟩
  show ZF p l e _ s m args below meth c g TK voV 8 k 0 [(0, .ref (g.2.1 2)), (1, .int a0), (2, .int a1), (3, .long a2)] [] (fX3_drawCurve k a0 a1 a2)
  unfold fX3_drawCurve
  refine zf_aload_n hC dX3_drawCurve_0 rfl 0 rfl ?_
  refine gf_155 hC dX3_drawCurve_1 ?_
  refine zf_iload_n hC dX3_drawCurve_4 rfl 1 rfl ?_
  refine zf_aald hC (j := 18) ia_18 rfl rfl dX3_drawCurve_5 (fun h1 => ?_)
  refine zf_iconst hC (v := 0) dX3_drawCurve_6 rfl ?_
  refine zf_iload_n hC dX3_drawCurve_7 rfl 2 rfl ?_
  refine zf_iast hC (j := 59 + ix a0) (row_kd (inb_lt h1)).2.2 (row_kd (inb_lt h1)).1 (row_kd (inb_lt h1)).2.1 dX3_drawCurve_8 (fun h2 => ?_)
  refine zf_nmk (fun k3 => ?_)
  refine zf_lload_n hC dX3_drawCurve_9 rfl 3 rfl ?_
  refine zf_lstore hC (LV' := [(5, .long a2), (0, .ref (g.2.1 2)), (1, .int a0), (2, .int a1), (3, .long a2)]) dX3_drawCurve_10 (by decide) rfl ?_
  refine zf_iconst hC (v := 1) dX3_drawCurve_12 rfl ?_
  refine zf_istore hC (LV' := [(7, .int 1), (5, .long a2), (0, .ref (g.2.1 2)), (1, .int a0), (2, .int a1), (3, .long a2)]) dX3_drawCurve_13 (by decide) rfl ?_
  refine zf_lv (LV' := [(0, .ref (g.2.1 2)), (1, .int a0), (2, .int a1), (3, .long a2), (5, .long a2), (7, .int 1)]) [2, 3, 4, 5, 1, 0] rfl ?_
  refine zlpX3_drawCurve_15 hC hR a0 a1 a2 (fun y15 y16 k17 => ?_) FU a2 1 k3
  exact zf_vret hC rfl dX3_drawCurve_53
/-! LifeKeys.Partings.isAmong -/
theorem dX3_isAmong_0 : decode cX3_isAmong 0 = .ok (.aload_n 0, 1) := by decide +kernel
theorem dX3_isAmong_1 : decode cX3_isAmong 1 = .ok (.iload_n 1, 1) := by decide +kernel
theorem dX3_isAmong_2 : decode cX3_isAmong 2 = .ok (.invokevirtual 46, 3) := by decide +kernel
theorem dX3_isAmong_5 : decode cX3_isAmong 5 = .ok (.ifCond .eq 30, 3) := by decide +kernel
theorem dX3_isAmong_8 : decode cX3_isAmong 8 = .ok (.iload_n 2, 1) := by decide +kernel
theorem dX3_isAmong_9 : decode cX3_isAmong 9 = .ok (.ifCond .lt 26, 3) := by decide +kernel
theorem dX3_isAmong_12 : decode cX3_isAmong 12 = .ok (.iload_n 2, 1) := by decide +kernel
theorem dX3_isAmong_13 : decode cX3_isAmong 13 = .ok (.bipush 12, 2) := by decide +kernel
theorem dX3_isAmong_15 : decode cX3_isAmong 15 = .ok (.if_icmp .ge 20, 3) := by decide +kernel
theorem dX3_isAmong_18 : decode cX3_isAmong 18 = .ok (.aload_n 0, 1) := by decide +kernel
theorem dX3_isAmong_19 : decode cX3_isAmong 19 = .ok (.getfield 15, 3) := by decide +kernel
theorem dX3_isAmong_22 : decode cX3_isAmong 22 = .ok (.iload_n 1, 1) := by decide +kernel
theorem dX3_isAmong_23 : decode cX3_isAmong 23 = .ok (.iaload, 1) := by decide +kernel
theorem dX3_isAmong_24 : decode cX3_isAmong 24 = .ok (.iload_n 2, 1) := by decide +kernel
theorem dX3_isAmong_25 : decode cX3_isAmong 25 = .ok (.invokestatic 54, 3) := by decide +kernel
theorem dX3_isAmong_28 : decode cX3_isAmong 28 = .ok (.ifCond .eq 7, 3) := by decide +kernel
theorem dX3_isAmong_31 : decode cX3_isAmong 31 = .ok (.iconst 1, 1) := by decide +kernel
theorem dX3_isAmong_32 : decode cX3_isAmong 32 = .ok (.goto 4, 3) := by decide +kernel
theorem dX3_isAmong_35 : decode cX3_isAmong 35 = .ok (.iconst 0, 1) := by decide +kernel
theorem dX3_isAmong_36 : decode cX3_isAmong 36 = .ok (.ireturn, 1) := by decide +kernel
def fX3_isAmong (k : ST) (a0 : Int32) (a1 : Int32) : Option (Bool × ST) := ob (fX3_knows k a0) fun r1 k2 => if r1 = true then if a1 < 0 then some (false, k2) else if 12 ≤ a1 then some (false, k2) else ck (inb a0 40) (ob (fX11_hasBit k2 (gA k2 14 (ix a0)) a1) fun r8 k9 => if r8 = true then some (true, k9) else some (false, k9)) else some (false, k2)
set_option maxRecDepth 20000 in
theorem c_X3_isAmong (l : Launch) (g : GT) (a0 : Int32) (a1 : Int32) : CN l yX3_isAmong cX3_isAmong 3 (some .boolean) { frames := 1, cells := 0, slots := 0, locals := 21 } g TK voB [.ref (g.2.1 2), .int a0, .int a1] (fun k => fX3_isAmong k a0 a1) := by
  refine cn_of (by decide) (Nat.le_of_ble_eq_true rfl) ?_
  intro p e s m args below meth c hC k
  have hC : HC p s m args meth c cX3_isAmong 3 RX3 (some .boolean) g := hC
  have hR : 1 ≤ ({ frames := 1, cells := 0, slots := 0, locals := 21 } : Room).frames ∧ 21 ≤ ({ frames := 1, cells := 0, slots := 0, locals := 21 } : Room).locals := ⟨Nat.le_refl _, Nat.le_refl _⟩
  show ZF p l e _ s m args below meth c g TK voB 3 k 0 [(0, .ref (g.2.1 2)), (1, .int a0), (2, .int a1)] [] (fX3_isAmong k a0 a1)
  unfold fX3_isAmong
  refine zf_aload_n hC dX3_isAmong_0 rfl 0 rfl ?_
  refine zf_iload_n hC dX3_isAmong_1 rfl 1 rfl ?_
  refine zf_callV hC (c_X3_knows l g a0) mt_X3_knows wd_522 wd_523 ci_2 ic_2 wd_521 rfl (rm_le hR rfl) rfl rfl (rest := []) rfl (Nat.le_of_ble_eq_true rfl) dX3_isAmong_2 (fun r1 k2 h3 => ?_)
  refine zf_ifb_eq hC (tgt := 35) dX3_isAmong_5 (by decide) (fun h4 => ?_) (fun h4 => ?_)
  · refine zf_iload_n hC dX3_isAmong_8 rfl 2 rfl ?_
    refine zf_if_lt hC (tgt := 35) dX3_isAmong_9 (by decide) (fun h5 => ?_) (fun h5 => ?_)
    · refine zf_iconst hC (v := 0) dX3_isAmong_35 rfl ?_
      exact zf_zret hC rfl false rfl dX3_isAmong_36
    · refine zf_iload_n hC dX3_isAmong_12 rfl 2 rfl ?_
      refine zf_bipush hC (v := 12) dX3_isAmong_13 rfl ?_
      refine zf_icmp_ge hC (tgt := 35) dX3_isAmong_15 (by decide) (fun h6 => ?_) (fun h6 => ?_)
      · refine zf_iconst hC (v := 0) dX3_isAmong_35 rfl ?_
        exact zf_zret hC rfl false rfl dX3_isAmong_36
      · refine zf_aload_n hC dX3_isAmong_18 rfl 0 rfl ?_
        refine gf_146 hC dX3_isAmong_19 ?_
        refine zf_iload_n hC dX3_isAmong_22 rfl 1 rfl ?_
        refine zf_iald hC (j := 14) ia_14 rfl rfl dX3_isAmong_23 (fun h7 => ?_)
        refine zf_iload_n hC dX3_isAmong_24 rfl 2 rfl ?_
        refine zf_callSN hC (c_X11_hasBit l g TK (gA k2 14 (ix a0)) a1) mt_X11_hasBit wd_613 wd_612 rfl (rm_le hR rfl) rfl rfl (rest := []) rfl (Nat.le_of_ble_eq_true rfl) dX3_isAmong_25 (fun r8 k9 h10 => ?_)
        refine zf_ifb_eq hC (tgt := 35) dX3_isAmong_28 (by decide) (fun h11 => ?_) (fun h11 => ?_)
        · refine zf_iconst hC (v := 1) dX3_isAmong_31 rfl ?_
          refine zf_goto hC (tgt := 36) dX3_isAmong_32 (by decide) ?_
          exact zf_zret hC rfl true rfl dX3_isAmong_36
        · refine zf_iconst hC (v := 0) dX3_isAmong_35 rfl ?_
          exact zf_zret hC rfl false rfl dX3_isAmong_36
  · refine zf_iconst hC (v := 0) dX3_isAmong_35 rfl ?_
    exact zf_zret hC rfl false rfl dX3_isAmong_36
/-! LifeKeys.Partings.partOf -/
theorem dX3_partOf_0 : decode cX3_partOf 0 = .ok (.iconst 0, 1) := by decide +kernel
theorem dX3_partOf_1 : decode cX3_partOf 1 = .ok (.istore_n 3, 1) := by decide +kernel
theorem dX3_partOf_2 : decode cX3_partOf 2 = .ok (.aload_n 0, 1) := by decide +kernel
theorem dX3_partOf_3 : decode cX3_partOf 3 = .ok (.getfield 18, 3) := by decide +kernel
theorem dX3_partOf_6 : decode cX3_partOf 6 = .ok (.iload_n 1, 1) := by decide +kernel
theorem dX3_partOf_7 : decode cX3_partOf 7 = .ok (.iaload, 1) := by decide +kernel
theorem dX3_partOf_8 : decode cX3_partOf 8 = .ok (.iconst 1, 1) := by decide +kernel
theorem dX3_partOf_9 : decode cX3_partOf 9 = .ok (.isub, 1) := by decide +kernel
theorem dX3_partOf_10 : decode cX3_partOf 10 = .ok (.istore 4, 2) := by decide +kernel
theorem dX3_partOf_12 : decode cX3_partOf 12 = .ok (.iload 4, 2) := by decide +kernel
theorem dX3_partOf_14 : decode cX3_partOf 14 = .ok (.ifCond .lt 29, 3) := by decide +kernel
theorem dX3_partOf_17 : decode cX3_partOf 17 = .ok (.iload_n 3, 1) := by decide +kernel
theorem dX3_partOf_18 : decode cX3_partOf 18 = .ok (.iload_n 2, 1) := by decide +kernel
theorem dX3_partOf_19 : decode cX3_partOf 19 = .ok (.iconst 1, 1) := by decide +kernel
theorem dX3_partOf_20 : decode cX3_partOf 20 = .ok (.iadd, 1) := by decide +kernel
theorem dX3_partOf_21 : decode cX3_partOf 21 = .ok (.invokestatic 57, 3) := by decide +kernel
theorem dX3_partOf_24 : decode cX3_partOf 24 = .ok (.aload_n 0, 1) := by decide +kernel
theorem dX3_partOf_25 : decode cX3_partOf 25 = .ok (.getfield 29, 3) := by decide +kernel
theorem dX3_partOf_28 : decode cX3_partOf 28 = .ok (.iload_n 1, 1) := by decide +kernel
theorem dX3_partOf_29 : decode cX3_partOf 29 = .ok (.aaload, 1) := by decide +kernel
theorem dX3_partOf_30 : decode cX3_partOf 30 = .ok (.iload 4, 2) := by decide +kernel
theorem dX3_partOf_32 : decode cX3_partOf 32 = .ok (.iaload, 1) := by decide +kernel
theorem dX3_partOf_33 : decode cX3_partOf 33 = .ok (.invokestatic 61, 3) := by decide +kernel
theorem dX3_partOf_36 : decode cX3_partOf 36 = .ok (.istore_n 3, 1) := by decide +kernel
theorem dX3_partOf_37 : decode cX3_partOf 37 = .ok (.iinc 4 (-1), 3) := by decide +kernel
theorem dX3_partOf_40 : decode cX3_partOf 40 = .ok (.goto (-28), 3) := by decide +kernel
theorem dX3_partOf_43 : decode cX3_partOf 43 = .ok (.iload_n 3, 1) := by decide +kernel
theorem dX3_partOf_44 : decode cX3_partOf 44 = .ok (.ireturn, 1) := by decide +kernel
def lpX3_partOf_12 (v1 : Int32) (v2 : Int32) : Nat → Int32 → Int32 → ST → (Int32 → Int32 → ST → Option (Int32 × ST)) → Option (Int32 × ST)
  | 0, _, _, _, _ => none
  | n + 1, v3, v4, k, cont => if v4 < 0 then cont v3 v4 k else ob (fX0_times k v3 (v2 + 1)) fun r3 k4 => ck (inb v1 40) (ck (inb v4 12) (ob (fX0_sum k4 r3 (gA k4 (59 + ix v1) (ix v4))) fun r8 k9 => lpX3_partOf_12 v1 v2 n r8 (v4 + (-1)) k9 cont))
set_option maxRecDepth 20000 in
theorem zlpX3_partOf_12 {p : Program} {l : Launch} {e : Env} {R : Room} {s : State} {m : MethodId} {args : Array Value} {below : List Frame} {meth : Method} {c : Code} {g : GT} (hC : HC p s m args meth c cX3_partOf 5 RX3 (some .int) g) (hR : 1 ≤ R.frames ∧ 21 ≤ R.locals)  (v1 : Int32) (v2 : Int32) {cont : Int32 → Int32 → ST → Option (Int32 × ST)} (hk : ∀ (v3 : Int32) (v4 : Int32) (k : ST), ZF p l e R s m args below meth c g TK voI 5 k 43 [(0, .ref (g.2.1 2)), (1, .int v1), (2, .int v2), (3, .int v3), (4, .int v4)] [] (cont v3 v4 k)) : ∀ (n : Nat) (v3 : Int32) (v4 : Int32) (k : ST), ZF p l e R s m args below meth c g TK voI 5 k 12 [(0, .ref (g.2.1 2)), (1, .int v1), (2, .int v2), (3, .int v3), (4, .int v4)] [] (lpX3_partOf_12 v1 v2 n v3 v4 k cont) := by
  intro n
  induction n with
  | zero => intros; exact zf_none
  | succ n ih =>
    intro v3 v4 k
    rw [lpX3_partOf_12]
    refine zf_iload hC dX3_partOf_12 4 rfl ?_
    refine zf_if_lt hC (tgt := 43) dX3_partOf_14 (by decide) (fun h2 => ?_) (fun h2 => ?_)
    · refine zf_lv (LV' := [(0, .ref (g.2.1 2)), (1, .int v1), (2, .int v2), (3, .int v3), (4, .int v4)]) [0, 1, 2, 3, 4] rfl ?_
      exact hk v3 v4 k
    · refine zf_iload_n hC dX3_partOf_17 rfl 3 rfl ?_
      refine zf_iload_n hC dX3_partOf_18 rfl 2 rfl ?_
      refine zf_iconst hC (v := 1) dX3_partOf_19 rfl ?_
      refine zf_iadd hC dX3_partOf_20 ?_
      refine zf_callS hC (c_X0_times l g TK v3 (v2 + 1)) mt_X0_times wd_620 wd_619 rfl (rm_le hR rfl) rfl rfl (rest := []) rfl (Nat.le_of_ble_eq_true rfl) dX3_partOf_21 (fun r3 k4 h5 => ?_)
      refine zf_aload_n hC dX3_partOf_24 rfl 0 rfl ?_
      refine gf_155 hC dX3_partOf_25 ?_
      refine zf_iload_n hC dX3_partOf_28 rfl 1 rfl ?_
      refine zf_aald hC (j := 18) ia_18 rfl rfl dX3_partOf_29 (fun h6 => ?_)
      refine zf_iload hC dX3_partOf_30 4 rfl ?_
      refine zf_iald hC (j := 59 + ix v1) (row_kd (inb_lt h6)).2.2 (row_kd (inb_lt h6)).1 (row_kd (inb_lt h6)).2.1 dX3_partOf_32 (fun h7 => ?_)
      refine zf_callS hC (c_X0_sum l g TK r3 (gA k4 (59 + ix v1) (ix v4))) mt_X0_sum wd_623 wd_622 rfl (rm_le hR rfl) rfl rfl (rest := []) rfl (Nat.le_of_ble_eq_true rfl) dX3_partOf_33 (fun r8 k9 h10 => ?_)
      refine zf_istore_n hC (LV' := [(3, .int r8), (0, .ref (g.2.1 2)), (1, .int v1), (2, .int v2), (4, .int v4)]) dX3_partOf_36 rfl (by decide) rfl ?_
      refine zf_iinc hC (q := 4) (v := v4 + (-1)) (LV' := [(4, .int (v4 + (-1))), (3, .int r8), (0, .ref (g.2.1 2)), (1, .int v1), (2, .int v2)]) dX3_partOf_37 rfl rfl (by decide) rfl ?_
      refine zf_goto hC (tgt := 12) dX3_partOf_40 (by decide) ?_
      refine zf_lv (LV' := [(0, .ref (g.2.1 2)), (1, .int v1), (2, .int v2), (3, .int r8), (4, .int (v4 + (-1)))]) [2, 3, 4, 1, 0] rfl ?_
      exact ih r8 (v4 + (-1)) k9
def fX3_partOf (k : ST) (a0 : Int32) (a1 : Int32) : Option (Int32 × ST) := ck (inb a0 40) (lpX3_partOf_12 a0 a1 FU 0 ((gA k 15 (ix a0)) - 1) k fun y11 y12 k13 => some (y11, k13))
set_option maxRecDepth 20000 in
theorem c_X3_partOf (l : Launch) (g : GT) (a0 : Int32) (a1 : Int32) : CN l yX3_partOf cX3_partOf 5 (some .int) { frames := 1, cells := 0, slots := 0, locals := 21 } g TK voI [.ref (g.2.1 2), .int a0, .int a1] (fun k => fX3_partOf k a0 a1) := by
  refine cn_of (by decide) (Nat.le_of_ble_eq_true rfl) ?_
  intro p e s m args below meth c hC k
  have hC : HC p s m args meth c cX3_partOf 5 RX3 (some .int) g := hC
  have hR : 1 ≤ ({ frames := 1, cells := 0, slots := 0, locals := 21 } : Room).frames ∧ 21 ≤ ({ frames := 1, cells := 0, slots := 0, locals := 21 } : Room).locals := ⟨Nat.le_refl _, Nat.le_refl _⟩
  show ZF p l e _ s m args below meth c g TK voI 5 k 0 [(0, .ref (g.2.1 2)), (1, .int a0), (2, .int a1)] [] (fX3_partOf k a0 a1)
  unfold fX3_partOf
  refine zf_iconst hC (v := 0) dX3_partOf_0 rfl ?_
  refine zf_istore_n hC (LV' := [(3, .int 0), (0, .ref (g.2.1 2)), (1, .int a0), (2, .int a1)]) dX3_partOf_1 rfl (by decide) rfl ?_
  refine zf_aload_n hC dX3_partOf_2 rfl 1 rfl ?_
  refine gf_149 hC dX3_partOf_3 ?_
  refine zf_iload_n hC dX3_partOf_6 rfl 2 rfl ?_
  refine zf_iald hC (j := 15) ia_15 rfl rfl dX3_partOf_7 (fun h1 => ?_)
  refine zf_iconst hC (v := 1) dX3_partOf_8 rfl ?_
  refine zf_isub hC dX3_partOf_9 ?_
  refine zf_istore hC (LV' := [(4, .int ((gA k 15 (ix a0)) - 1)), (3, .int 0), (0, .ref (g.2.1 2)), (1, .int a0), (2, .int a1)]) dX3_partOf_10 (by decide) rfl ?_
  refine zf_lv (LV' := [(0, .ref (g.2.1 2)), (1, .int a0), (2, .int a1), (3, .int 0), (4, .int ((gA k 15 (ix a0)) - 1))]) [2, 3, 4, 1, 0] rfl ?_
  refine zlpX3_partOf_12 hC hR a0 a1 (fun y11 y12 k13 => ?_) FU 0 ((gA k 15 (ix a0)) - 1) k
  refine zf_iload_n hC dX3_partOf_43 rfl 3 rfl ?_
  exact zf_iret hC rfl dX3_partOf_44
/-! LifeKeys.Partings.checkOf -/
theorem dX3_checkOf_0 : decode cX3_checkOf 0 = .ok (.aload_n 0, 1) := by decide +kernel
theorem dX3_checkOf_1 : decode cX3_checkOf 1 = .ok (.getfield 29, 3) := by decide +kernel
theorem dX3_checkOf_4 : decode cX3_checkOf 4 = .ok (.iload_n 1, 1) := by decide +kernel
theorem dX3_checkOf_5 : decode cX3_checkOf 5 = .ok (.aaload, 1) := by decide +kernel
theorem dX3_checkOf_6 : decode cX3_checkOf 6 = .ok (.iload_n 2, 1) := by decide +kernel
theorem dX3_checkOf_7 : decode cX3_checkOf 7 = .ok (.iaload, 1) := by decide +kernel
theorem dX3_checkOf_8 : decode cX3_checkOf 8 = .ok (.invokestatic 64, 3) := by decide +kernel
theorem dX3_checkOf_11 : decode cX3_checkOf 11 = .ok (.ireturn, 1) := by decide +kernel
def fX3_checkOf (k : ST) (a0 : Int32) (a1 : Int32) : Option (Int32 × ST) := ck (inb a0 40) (ck (inb a1 12) (ob (fX0_powerOf4 k (gA k (59 + ix a0) (ix a1))) fun r3 k4 => some (r3, k4)))
set_option maxRecDepth 20000 in
theorem c_X3_checkOf (l : Launch) (g : GT) (a0 : Int32) (a1 : Int32) : CN l yX3_checkOf cX3_checkOf 3 (some .int) { frames := 3, cells := 0, slots := 0, locals := 65 } g TK voI [.ref (g.2.1 2), .int a0, .int a1] (fun k => fX3_checkOf k a0 a1) := by
  refine cn_of (by decide) (Nat.le_of_ble_eq_true rfl) ?_
  intro p e s m args below meth c hC k
  have hC : HC p s m args meth c cX3_checkOf 3 RX3 (some .int) g := hC
  have hR : 3 ≤ ({ frames := 3, cells := 0, slots := 0, locals := 65 } : Room).frames ∧ 65 ≤ ({ frames := 3, cells := 0, slots := 0, locals := 65 } : Room).locals := ⟨Nat.le_refl _, Nat.le_refl _⟩
  show ZF p l e _ s m args below meth c g TK voI 3 k 0 [(0, .ref (g.2.1 2)), (1, .int a0), (2, .int a1)] [] (fX3_checkOf k a0 a1)
  unfold fX3_checkOf
  refine zf_aload_n hC dX3_checkOf_0 rfl 0 rfl ?_
  refine gf_155 hC dX3_checkOf_1 ?_
  refine zf_iload_n hC dX3_checkOf_4 rfl 1 rfl ?_
  refine zf_aald hC (j := 18) ia_18 rfl rfl dX3_checkOf_5 (fun h1 => ?_)
  refine zf_iload_n hC dX3_checkOf_6 rfl 2 rfl ?_
  refine zf_iald hC (j := 59 + ix a0) (row_kd (inb_lt h1)).2.2 (row_kd (inb_lt h1)).1 (row_kd (inb_lt h1)).2.1 dX3_checkOf_7 (fun h2 => ?_)
  refine zf_callS hC (c_X0_powerOf4 l g TK (gA k (59 + ix a0) (ix a1))) mt_X0_powerOf4 wd_635 wd_634 rfl (rm_le hR rfl) rfl rfl (rest := []) rfl (Nat.le_of_ble_eq_true rfl) dX3_checkOf_8 (fun r3 k4 h5 => ?_)
  exact zf_iret hC rfl dX3_checkOf_11
/-! LifeKeys.Partings.checkedPart -/
theorem dX3_checkedPart_0 : decode cX3_checkedPart 0 = .ok (.iconst 1, 1) := by decide +kernel
theorem dX3_checkedPart_1 : decode cX3_checkedPart 1 = .ok (.istore_n 3, 1) := by decide +kernel
theorem dX3_checkedPart_2 : decode cX3_checkedPart 2 = .ok (.iconst 1, 1) := by decide +kernel
theorem dX3_checkedPart_3 : decode cX3_checkedPart 3 = .ok (.istore 4, 2) := by decide +kernel
theorem dX3_checkedPart_5 : decode cX3_checkedPart 5 = .ok (.iconst 0, 1) := by decide +kernel
theorem dX3_checkedPart_6 : decode cX3_checkedPart 6 = .ok (.istore 5, 2) := by decide +kernel
theorem dX3_checkedPart_8 : decode cX3_checkedPart 8 = .ok (.iload 5, 2) := by decide +kernel
theorem dX3_checkedPart_10 : decode cX3_checkedPart 10 = .ok (.aload_n 0, 1) := by decide +kernel
theorem dX3_checkedPart_11 : decode cX3_checkedPart 11 = .ok (.getfield 18, 3) := by decide +kernel
theorem dX3_checkedPart_14 : decode cX3_checkedPart 14 = .ok (.iload_n 1, 1) := by decide +kernel
theorem dX3_checkedPart_15 : decode cX3_checkedPart 15 = .ok (.iaload, 1) := by decide +kernel
theorem dX3_checkedPart_16 : decode cX3_checkedPart 16 = .ok (.if_icmp .ge 36, 3) := by decide +kernel
theorem dX3_checkedPart_19 : decode cX3_checkedPart 19 = .ok (.iload_n 3, 1) := by decide +kernel
theorem dX3_checkedPart_20 : decode cX3_checkedPart 20 = .ok (.aload_n 0, 1) := by decide +kernel
theorem dX3_checkedPart_21 : decode cX3_checkedPart 21 = .ok (.iload_n 1, 1) := by decide +kernel
theorem dX3_checkedPart_22 : decode cX3_checkedPart 22 = .ok (.iload 5, 2) := by decide +kernel
theorem dX3_checkedPart_24 : decode cX3_checkedPart 24 = .ok (.invokevirtual 68, 3) := by decide +kernel
theorem dX3_checkedPart_27 : decode cX3_checkedPart 27 = .ok (.iload 4, 2) := by decide +kernel
theorem dX3_checkedPart_29 : decode cX3_checkedPart 29 = .ok (.invokestatic 71, 3) := by decide +kernel
theorem dX3_checkedPart_32 : decode cX3_checkedPart 32 = .ok (.invokestatic 74, 3) := by decide +kernel
theorem dX3_checkedPart_35 : decode cX3_checkedPart 35 = .ok (.istore_n 3, 1) := by decide +kernel
theorem dX3_checkedPart_36 : decode cX3_checkedPart 36 = .ok (.iload 4, 2) := by decide +kernel
theorem dX3_checkedPart_38 : decode cX3_checkedPart 38 = .ok (.iload_n 2, 1) := by decide +kernel
theorem dX3_checkedPart_39 : decode cX3_checkedPart 39 = .ok (.iconst 1, 1) := by decide +kernel
theorem dX3_checkedPart_40 : decode cX3_checkedPart 40 = .ok (.iadd, 1) := by decide +kernel
theorem dX3_checkedPart_41 : decode cX3_checkedPart 41 = .ok (.invokestatic 57, 3) := by decide +kernel
theorem dX3_checkedPart_44 : decode cX3_checkedPart 44 = .ok (.istore 4, 2) := by decide +kernel
theorem dX3_checkedPart_46 : decode cX3_checkedPart 46 = .ok (.iinc 5 1, 3) := by decide +kernel
theorem dX3_checkedPart_49 : decode cX3_checkedPart 49 = .ok (.goto (-41), 3) := by decide +kernel
theorem dX3_checkedPart_52 : decode cX3_checkedPart 52 = .ok (.iload_n 3, 1) := by decide +kernel
theorem dX3_checkedPart_53 : decode cX3_checkedPart 53 = .ok (.ireturn, 1) := by decide +kernel
def lpX3_checkedPart_8 (v1 : Int32) (v2 : Int32) : Nat → Int32 → Int32 → Int32 → ST → (Int32 → Int32 → Int32 → ST → Option (Int32 × ST)) → Option (Int32 × ST)
  | 0, _, _, _, _, _ => none
  | n + 1, v3, v4, v5, k, cont => ck (inb v1 40) (if (gA k 15 (ix v1)) ≤ v5 then cont v3 v4 v5 k else ob (fX3_checkOf k v1 v5) fun r3 k4 => ob (fX0_raise k4 r3 v4) fun r6 k7 => ob (fX0_product k7 v3 r6) fun r9 k10 => ob (fX0_times k10 v4 (v2 + 1)) fun r12 k13 => lpX3_checkedPart_8 v1 v2 n r9 r12 (v5 + 1) k13 cont)
set_option maxRecDepth 20000 in
theorem zlpX3_checkedPart_8 {p : Program} {l : Launch} {e : Env} {R : Room} {s : State} {m : MethodId} {args : Array Value} {below : List Frame} {meth : Method} {c : Code} {g : GT} (hC : HC p s m args meth c cX3_checkedPart 6 RX3 (some .int) g) (hR : 4 ≤ R.frames ∧ 87 ≤ R.locals)  (v1 : Int32) (v2 : Int32) {cont : Int32 → Int32 → Int32 → ST → Option (Int32 × ST)} (hk : ∀ (v3 : Int32) (v4 : Int32) (v5 : Int32) (k : ST), ZF p l e R s m args below meth c g TK voI 6 k 52 [(0, .ref (g.2.1 2)), (1, .int v1), (2, .int v2), (3, .int v3), (4, .int v4), (5, .int v5)] [] (cont v3 v4 v5 k)) : ∀ (n : Nat) (v3 : Int32) (v4 : Int32) (v5 : Int32) (k : ST), ZF p l e R s m args below meth c g TK voI 6 k 8 [(0, .ref (g.2.1 2)), (1, .int v1), (2, .int v2), (3, .int v3), (4, .int v4), (5, .int v5)] [] (lpX3_checkedPart_8 v1 v2 n v3 v4 v5 k cont) := by
  intro n
  induction n with
  | zero => intros; exact zf_none
  | succ n ih =>
    intro v3 v4 v5 k
    rw [lpX3_checkedPart_8]
    refine zf_iload hC dX3_checkedPart_8 5 rfl ?_
    refine zf_aload_n hC dX3_checkedPart_10 rfl 0 rfl ?_
    refine gf_149 hC dX3_checkedPart_11 ?_
    refine zf_iload_n hC dX3_checkedPart_14 rfl 1 rfl ?_
    refine zf_iald hC (j := 15) ia_15 rfl rfl dX3_checkedPart_15 (fun h1 => ?_)
    refine zf_icmp_ge hC (tgt := 52) dX3_checkedPart_16 (by decide) (fun h2 => ?_) (fun h2 => ?_)
    · refine zf_lv (LV' := [(0, .ref (g.2.1 2)), (1, .int v1), (2, .int v2), (3, .int v3), (4, .int v4), (5, .int v5)]) [0, 1, 2, 3, 4, 5] rfl ?_
      exact hk v3 v4 v5 k
    · refine zf_iload_n hC dX3_checkedPart_19 rfl 3 rfl ?_
      refine zf_aload_n hC dX3_checkedPart_20 rfl 0 rfl ?_
      refine zf_iload_n hC dX3_checkedPart_21 rfl 1 rfl ?_
      refine zf_iload hC dX3_checkedPart_22 5 rfl ?_
      refine zf_callV hC (c_X3_checkOf l g v1 v5) mt_X3_checkOf wd_631 wd_632 ci_2 ic_2 wd_655 rfl (rm_le hR rfl) rfl rfl (rest := [.int v3]) rfl (Nat.le_of_ble_eq_true rfl) dX3_checkedPart_24 (fun r3 k4 h5 => ?_)
      refine zf_iload hC dX3_checkedPart_27 4 rfl ?_
      refine zf_callS hC (c_X0_raise l g TK r3 v4) mt_X0_raise wd_638 wd_656 rfl (rm_le hR rfl) rfl rfl (rest := [.int v3]) rfl (Nat.le_of_ble_eq_true rfl) dX3_checkedPart_29 (fun r6 k7 h8 => ?_)
      refine zf_callS hC (c_X0_product l g TK v3 r6) mt_X0_product wd_641 wd_657 rfl (rm_le hR rfl) rfl rfl (rest := []) rfl (Nat.le_of_ble_eq_true rfl) dX3_checkedPart_32 (fun r9 k10 h11 => ?_)
      refine zf_istore_n hC (LV' := [(3, .int r9), (0, .ref (g.2.1 2)), (1, .int v1), (2, .int v2), (4, .int v4), (5, .int v5)]) dX3_checkedPart_35 rfl (by decide) rfl ?_
      refine zf_iload hC dX3_checkedPart_36 4 rfl ?_
      refine zf_iload_n hC dX3_checkedPart_38 rfl 3 rfl ?_
      refine zf_iconst hC (v := 1) dX3_checkedPart_39 rfl ?_
      refine zf_iadd hC dX3_checkedPart_40 ?_
      refine zf_callS hC (c_X0_times l g TK v4 (v2 + 1)) mt_X0_times wd_620 wd_619 rfl (rm_le hR rfl) rfl rfl (rest := []) rfl (Nat.le_of_ble_eq_true rfl) dX3_checkedPart_41 (fun r12 k13 h14 => ?_)
      refine zf_istore hC (LV' := [(4, .int r12), (3, .int r9), (0, .ref (g.2.1 2)), (1, .int v1), (2, .int v2), (5, .int v5)]) dX3_checkedPart_44 (by decide) rfl ?_
      refine zf_iinc hC (q := 5) (v := v5 + 1) (LV' := [(5, .int (v5 + 1)), (4, .int r12), (3, .int r9), (0, .ref (g.2.1 2)), (1, .int v1), (2, .int v2)]) dX3_checkedPart_46 rfl rfl (by decide) rfl ?_
      refine zf_goto hC (tgt := 8) dX3_checkedPart_49 (by decide) ?_
      refine zf_lv (LV' := [(0, .ref (g.2.1 2)), (1, .int v1), (2, .int v2), (3, .int r9), (4, .int r12), (5, .int (v5 + 1))]) [3, 4, 5, 2, 1, 0] rfl ?_
      exact ih r9 r12 (v5 + 1) k13
def fX3_checkedPart (k : ST) (a0 : Int32) (a1 : Int32) : Option (Int32 × ST) := lpX3_checkedPart_8 a0 a1 FU 1 1 0 k fun y15 y16 y17 k18 => some (y15, k18)
set_option maxRecDepth 20000 in
theorem c_X3_checkedPart (l : Launch) (g : GT) (a0 : Int32) (a1 : Int32) : CN l yX3_checkedPart cX3_checkedPart 6 (some .int) { frames := 4, cells := 0, slots := 0, locals := 87 } g TK voI [.ref (g.2.1 2), .int a0, .int a1] (fun k => fX3_checkedPart k a0 a1) := by
  refine cn_of (by decide) (Nat.le_of_ble_eq_true rfl) ?_
  intro p e s m args below meth c hC k
  have hC : HC p s m args meth c cX3_checkedPart 6 RX3 (some .int) g := hC
  have hR : 4 ≤ ({ frames := 4, cells := 0, slots := 0, locals := 87 } : Room).frames ∧ 87 ≤ ({ frames := 4, cells := 0, slots := 0, locals := 87 } : Room).locals := ⟨Nat.le_refl _, Nat.le_refl _⟩
  show ZF p l e _ s m args below meth c g TK voI 6 k 0 [(0, .ref (g.2.1 2)), (1, .int a0), (2, .int a1)] [] (fX3_checkedPart k a0 a1)
  unfold fX3_checkedPart
  refine zf_iconst hC (v := 1) dX3_checkedPart_0 rfl ?_
  refine zf_istore_n hC (LV' := [(3, .int 1), (0, .ref (g.2.1 2)), (1, .int a0), (2, .int a1)]) dX3_checkedPart_1 rfl (by decide) rfl ?_
  refine zf_iconst hC (v := 1) dX3_checkedPart_2 rfl ?_
  refine zf_istore hC (LV' := [(4, .int 1), (3, .int 1), (0, .ref (g.2.1 2)), (1, .int a0), (2, .int a1)]) dX3_checkedPart_3 (by decide) rfl ?_
  refine zf_iconst hC (v := 0) dX3_checkedPart_5 rfl ?_
  refine zf_istore hC (LV' := [(5, .int 0), (4, .int 1), (3, .int 1), (0, .ref (g.2.1 2)), (1, .int a0), (2, .int a1)]) dX3_checkedPart_6 (by decide) rfl ?_
  refine zf_lv (LV' := [(0, .ref (g.2.1 2)), (1, .int a0), (2, .int a1), (3, .int 1), (4, .int 1), (5, .int 0)]) [3, 4, 5, 2, 1, 0] rfl ?_
  refine zlpX3_checkedPart_8 hC hR a0 a1 (fun y15 y16 y17 k18 => ?_) FU 1 1 0 k
  refine zf_iload_n hC dX3_checkedPart_52 rfl 3 rfl ?_
  exact zf_iret hC rfl dX3_checkedPart_53
/-! LifeKeys.Reach.settlePartings -/
theorem dX4_settlePartings_0 : decode cX4_settlePartings 0 = .ok (.aload_n 0, 1) := by decide +kernel
theorem dX4_settlePartings_1 : decode cX4_settlePartings 1 = .ok (.iconst 0, 1) := by decide +kernel
theorem dX4_settlePartings_2 : decode cX4_settlePartings 2 = .ok (.putfield 81, 3) := by decide +kernel
theorem dX4_settlePartings_5 : decode cX4_settlePartings 5 = .ok (.iconst 0, 1) := by decide +kernel
theorem dX4_settlePartings_6 : decode cX4_settlePartings 6 = .ok (.istore_n 3, 1) := by decide +kernel
theorem dX4_settlePartings_7 : decode cX4_settlePartings 7 = .ok (.iload_n 3, 1) := by decide +kernel
theorem dX4_settlePartings_8 : decode cX4_settlePartings 8 = .ok (.aload_n 2, 1) := by decide +kernel
theorem dX4_settlePartings_9 : decode cX4_settlePartings 9 = .ok (.getfield 84, 3) := by decide +kernel
theorem dX4_settlePartings_12 : decode cX4_settlePartings 12 = .ok (.if_icmp .ge 74, 3) := by decide +kernel
theorem dX4_settlePartings_15 : decode cX4_settlePartings 15 = .ok (.aload_n 2, 1) := by decide +kernel
theorem dX4_settlePartings_16 : decode cX4_settlePartings 16 = .ok (.iload_n 3, 1) := by decide +kernel
theorem dX4_settlePartings_17 : decode cX4_settlePartings 17 = .ok (.iload_n 1, 1) := by decide +kernel
theorem dX4_settlePartings_18 : decode cX4_settlePartings 18 = .ok (.invokevirtual 85, 3) := by decide +kernel
theorem dX4_settlePartings_21 : decode cX4_settlePartings 21 = .ok (.ifCond .eq 59, 3) := by decide +kernel
theorem dX4_settlePartings_24 : decode cX4_settlePartings 24 = .ok (.aload_n 0, 1) := by decide +kernel
theorem dX4_settlePartings_25 : decode cX4_settlePartings 25 = .ok (.getfield 21, 3) := by decide +kernel
theorem dX4_settlePartings_28 : decode cX4_settlePartings 28 = .ok (.iload_n 3, 1) := by decide +kernel
theorem dX4_settlePartings_29 : decode cX4_settlePartings 29 = .ok (.aload_n 2, 1) := by decide +kernel
theorem dX4_settlePartings_30 : decode cX4_settlePartings 30 = .ok (.getfield 88, 3) := by decide +kernel
theorem dX4_settlePartings_33 : decode cX4_settlePartings 33 = .ok (.iload_n 3, 1) := by decide +kernel
theorem dX4_settlePartings_34 : decode cX4_settlePartings 34 = .ok (.iaload, 1) := by decide +kernel
theorem dX4_settlePartings_35 : decode cX4_settlePartings 35 = .ok (.iastore, 1) := by decide +kernel
theorem dX4_settlePartings_36 : decode cX4_settlePartings 36 = .ok (.aload_n 0, 1) := by decide +kernel
theorem dX4_settlePartings_37 : decode cX4_settlePartings 37 = .ok (.getfield 25, 3) := by decide +kernel
theorem dX4_settlePartings_40 : decode cX4_settlePartings 40 = .ok (.iload_n 3, 1) := by decide +kernel
theorem dX4_settlePartings_41 : decode cX4_settlePartings 41 = .ok (.aload_n 2, 1) := by decide +kernel
theorem dX4_settlePartings_42 : decode cX4_settlePartings 42 = .ok (.getfield 89, 3) := by decide +kernel
theorem dX4_settlePartings_45 : decode cX4_settlePartings 45 = .ok (.iload_n 3, 1) := by decide +kernel
theorem dX4_settlePartings_46 : decode cX4_settlePartings 46 = .ok (.iaload, 1) := by decide +kernel
theorem dX4_settlePartings_47 : decode cX4_settlePartings 47 = .ok (.iastore, 1) := by decide +kernel
theorem dX4_settlePartings_48 : decode cX4_settlePartings 48 = .ok (.aload_n 0, 1) := by decide +kernel
theorem dX4_settlePartings_49 : decode cX4_settlePartings 49 = .ok (.getfield 28, 3) := by decide +kernel
theorem dX4_settlePartings_52 : decode cX4_settlePartings 52 = .ok (.iload_n 3, 1) := by decide +kernel
theorem dX4_settlePartings_53 : decode cX4_settlePartings 53 = .ok (.aload_n 2, 1) := by decide +kernel
theorem dX4_settlePartings_54 : decode cX4_settlePartings 54 = .ok (.getfield 90, 3) := by decide +kernel
theorem dX4_settlePartings_57 : decode cX4_settlePartings 57 = .ok (.iload_n 3, 1) := by decide +kernel
theorem dX4_settlePartings_58 : decode cX4_settlePartings 58 = .ok (.iaload, 1) := by decide +kernel
theorem dX4_settlePartings_59 : decode cX4_settlePartings 59 = .ok (.iastore, 1) := by decide +kernel
theorem dX4_settlePartings_60 : decode cX4_settlePartings 60 = .ok (.aload_n 0, 1) := by decide +kernel
theorem dX4_settlePartings_61 : decode cX4_settlePartings 61 = .ok (.getfield 31, 3) := by decide +kernel
theorem dX4_settlePartings_64 : decode cX4_settlePartings 64 = .ok (.aload_n 0, 1) := by decide +kernel
theorem dX4_settlePartings_65 : decode cX4_settlePartings 65 = .ok (.getfield 81, 3) := by decide +kernel
theorem dX4_settlePartings_68 : decode cX4_settlePartings 68 = .ok (.iload_n 3, 1) := by decide +kernel
theorem dX4_settlePartings_69 : decode cX4_settlePartings 69 = .ok (.iastore, 1) := by decide +kernel
theorem dX4_settlePartings_70 : decode cX4_settlePartings 70 = .ok (.aload_n 0, 1) := by decide +kernel
theorem dX4_settlePartings_71 : decode cX4_settlePartings 71 = .ok (.dup, 1) := by decide +kernel
theorem dX4_settlePartings_72 : decode cX4_settlePartings 72 = .ok (.getfield 81, 3) := by decide +kernel
theorem dX4_settlePartings_75 : decode cX4_settlePartings 75 = .ok (.iconst 1, 1) := by decide +kernel
theorem dX4_settlePartings_76 : decode cX4_settlePartings 76 = .ok (.iadd, 1) := by decide +kernel
theorem dX4_settlePartings_77 : decode cX4_settlePartings 77 = .ok (.putfield 81, 3) := by decide +kernel
theorem dX4_settlePartings_80 : decode cX4_settlePartings 80 = .ok (.iinc 3 1, 3) := by decide +kernel
theorem dX4_settlePartings_83 : decode cX4_settlePartings 83 = .ok (.goto (-76), 3) := by decide +kernel
theorem dX4_settlePartings_86 : decode cX4_settlePartings 86 = .ok (.return_, 1) := by decide +kernel
def lpX4_settlePartings_7 (v1 : Int32) : Nat → Int32 → ST → (Int32 → ST → Option (Unit × ST)) → Option (Unit × ST)
  | 0, _, _, _ => none
  | n + 1, v3, k, cont => if (gI k 2 0) ≤ v3 then cont v3 k else ob (fX3_inForce k v3 v1) fun r3 k4 => if r3 = true then ck (inb v3 40) (ck (inb v3 40) (nm (sA k4 20 (ix v3) (gA k4 13 (ix v3))) fun k9 => ck (inb v3 40) (ck (inb v3 40) (nm (sA k9 21 (ix v3) (gA k9 14 (ix v3))) fun k12 => ck (inb v3 40) (ck (inb v3 40) (nm (sA k12 22 (ix v3) (gA k12 15 (ix v3))) fun k15 => ck (inb (gI k15 3 5) 40) (nm (sA k15 23 (ix (gI k15 3 5)) v3) fun k17 => nm (sI k17 3 5 ((gI k17 3 5) + 1)) fun k18 => lpX4_settlePartings_7 v1 n (v3 + 1) k18 cont))))))) else lpX4_settlePartings_7 v1 n (v3 + 1) k4 cont
set_option maxRecDepth 20000 in
theorem zlpX4_settlePartings_7 {p : Program} {l : Launch} {e : Env} {R : Room} {s : State} {m : MethodId} {args : Array Value} {below : List Frame} {meth : Method} {c : Code} {g : GT} (hC : HC p s m args meth c cX4_settlePartings 4 RX4 none g) (hR : 2 ≤ R.frames ∧ 43 ≤ R.locals)  (v1 : Int32) {cont : Int32 → ST → Option (Unit × ST)} (hk : ∀ (v3 : Int32) (k : ST), ZF p l e R s m args below meth c g TK voV 4 k 86 [(0, .ref (g.2.1 3)), (1, .int v1), (2, .ref (g.2.1 2)), (3, .int v3)] [] (cont v3 k)) : ∀ (n : Nat) (v3 : Int32) (k : ST), ZF p l e R s m args below meth c g TK voV 4 k 7 [(0, .ref (g.2.1 3)), (1, .int v1), (2, .ref (g.2.1 2)), (3, .int v3)] [] (lpX4_settlePartings_7 v1 n v3 k cont) := by
  intro n
  induction n with
  | zero => intros; exact zf_none
  | succ n ih =>
    intro v3 k
    rw [lpX4_settlePartings_7]
    refine zf_iload_n hC dX4_settlePartings_7 rfl 3 rfl ?_
    refine zf_aload_n hC dX4_settlePartings_8 rfl 2 rfl ?_
    refine gf_141 hC dX4_settlePartings_9 ?_
    refine zf_icmp_ge hC (tgt := 86) dX4_settlePartings_12 (by decide) (fun h2 => ?_) (fun h2 => ?_)
    · refine zf_lv (LV' := [(0, .ref (g.2.1 3)), (1, .int v1), (2, .ref (g.2.1 2)), (3, .int v3)]) [0, 1, 2, 3] rfl ?_
      exact hk v3 k
    · refine zf_aload_n hC dX4_settlePartings_15 rfl 2 rfl ?_
      refine zf_iload_n hC dX4_settlePartings_16 rfl 3 rfl ?_
      refine zf_iload_n hC dX4_settlePartings_17 rfl 1 rfl ?_
      refine zf_callV hC (c_X3_inForce l g v3 v1) mt_X3_inForce wd_518 wd_519 ci_2 ic_2 wd_712 rfl (rm_le hR rfl) rfl rfl (rest := []) rfl (Nat.le_of_ble_eq_true rfl) dX4_settlePartings_18 (fun r3 k4 h5 => ?_)
      refine zf_ifb_eq hC (tgt := 80) dX4_settlePartings_21 (by decide) (fun h6 => ?_) (fun h6 => ?_)
      · refine zf_aload_n hC dX4_settlePartings_24 rfl 0 rfl ?_
        refine gf_360 hC dX4_settlePartings_25 ?_
        refine zf_iload_n hC dX4_settlePartings_28 rfl 3 rfl ?_
        refine zf_aload_n hC dX4_settlePartings_29 rfl 2 rfl ?_
        refine gf_144 hC dX4_settlePartings_30 ?_
        refine zf_iload_n hC dX4_settlePartings_33 rfl 3 rfl ?_
        refine zf_iald hC (j := 13) ia_13 rfl rfl dX4_settlePartings_34 (fun h7 => ?_)
        refine zf_iast hC (j := 20) ia_20 rfl rfl dX4_settlePartings_35 (fun h8 => ?_)
        refine zf_nmk (fun k9 => ?_)
        refine zf_aload_n hC dX4_settlePartings_36 rfl 0 rfl ?_
        refine gf_361 hC dX4_settlePartings_37 ?_
        refine zf_iload_n hC dX4_settlePartings_40 rfl 3 rfl ?_
        refine zf_aload_n hC dX4_settlePartings_41 rfl 2 rfl ?_
        refine gf_147 hC dX4_settlePartings_42 ?_
        refine zf_iload_n hC dX4_settlePartings_45 rfl 3 rfl ?_
        refine zf_iald hC (j := 14) ia_14 rfl rfl dX4_settlePartings_46 (fun h10 => ?_)
        refine zf_iast hC (j := 21) ia_21 rfl rfl dX4_settlePartings_47 (fun h11 => ?_)
        refine zf_nmk (fun k12 => ?_)
        refine zf_aload_n hC dX4_settlePartings_48 rfl 0 rfl ?_
        refine gf_362 hC dX4_settlePartings_49 ?_
        refine zf_iload_n hC dX4_settlePartings_52 rfl 3 rfl ?_
        refine zf_aload_n hC dX4_settlePartings_53 rfl 2 rfl ?_
        refine gf_150 hC dX4_settlePartings_54 ?_
        refine zf_iload_n hC dX4_settlePartings_57 rfl 3 rfl ?_
        refine zf_iald hC (j := 15) ia_15 rfl rfl dX4_settlePartings_58 (fun h13 => ?_)
        refine zf_iast hC (j := 22) ia_22 rfl rfl dX4_settlePartings_59 (fun h14 => ?_)
        refine zf_nmk (fun k15 => ?_)
        refine zf_aload_n hC dX4_settlePartings_60 rfl 0 rfl ?_
        refine gf_364 hC dX4_settlePartings_61 ?_
        refine zf_aload_n hC dX4_settlePartings_64 rfl 0 rfl ?_
        refine gf_365 hC dX4_settlePartings_65 ?_
        refine zf_iload_n hC dX4_settlePartings_68 rfl 3 rfl ?_
        refine zf_iast hC (j := 23) ia_23 rfl rfl dX4_settlePartings_69 (fun h16 => ?_)
        refine zf_nmk (fun k17 => ?_)
        refine zf_aload_n hC dX4_settlePartings_70 rfl 0 rfl ?_
        refine zf_dup hC dX4_settlePartings_71 rfl ?_
        refine gf_365 hC dX4_settlePartings_72 ?_
        refine zf_iconst hC (v := 1) dX4_settlePartings_75 rfl ?_
        refine zf_iadd hC dX4_settlePartings_76 ?_
        refine pf_365 hC dX4_settlePartings_77 ?_
        refine zf_nmk (fun k18 => ?_)
        refine zf_iinc hC (q := 3) (v := v3 + 1) (LV' := [(3, .int (v3 + 1)), (0, .ref (g.2.1 3)), (1, .int v1), (2, .ref (g.2.1 2))]) dX4_settlePartings_80 rfl rfl (by decide) rfl ?_
        refine zf_goto hC (tgt := 7) dX4_settlePartings_83 (by decide) ?_
        refine zf_lv (LV' := [(0, .ref (g.2.1 3)), (1, .int v1), (2, .ref (g.2.1 2)), (3, .int (v3 + 1))]) [1, 2, 3, 0] rfl ?_
        exact ih (v3 + 1) k18
      · refine zf_iinc hC (q := 3) (v := v3 + 1) (LV' := [(3, .int (v3 + 1)), (0, .ref (g.2.1 3)), (1, .int v1), (2, .ref (g.2.1 2))]) dX4_settlePartings_80 rfl rfl (by decide) rfl ?_
        refine zf_goto hC (tgt := 7) dX4_settlePartings_83 (by decide) ?_
        refine zf_lv (LV' := [(0, .ref (g.2.1 3)), (1, .int v1), (2, .ref (g.2.1 2)), (3, .int (v3 + 1))]) [1, 2, 3, 0] rfl ?_
        exact ih (v3 + 1) k4
def fX4_settlePartings (k : ST) (a0 : Int32) : Option (Unit × ST) := nm (sI k 3 5 0) fun k1 => lpX4_settlePartings_7 a0 FU 0 k1 fun y19 k20 => some ((), k20)
set_option maxRecDepth 20000 in
theorem c_X4_settlePartings (l : Launch) (g : GT) (a0 : Int32) : CN l yX4_settlePartings cX4_settlePartings 4 none { frames := 2, cells := 0, slots := 0, locals := 43 } g TK voV [.ref (g.2.1 3), .int a0, .ref (g.2.1 2)] (fun k => fX4_settlePartings k a0) := by
  refine cn_of (by decide) (Nat.le_of_ble_eq_true rfl) ?_
  intro p e s m args below meth c hC k
  have hC : HC p s m args meth c cX4_settlePartings 4 RX4 none g := hC
  have hR : 2 ≤ ({ frames := 2, cells := 0, slots := 0, locals := 43 } : Room).frames ∧ 43 ≤ ({ frames := 2, cells := 0, slots := 0, locals := 43 } : Room).locals := ⟨Nat.le_refl _, Nat.le_refl _⟩
  show ZF p l e _ s m args below meth c g TK voV 4 k 0 [(0, .ref (g.2.1 3)), (1, .int a0), (2, .ref (g.2.1 2))] [] (fX4_settlePartings k a0)
  unfold fX4_settlePartings
  refine zf_aload_n hC dX4_settlePartings_0 rfl 0 rfl ?_
  refine zf_iconst hC (v := 0) dX4_settlePartings_1 rfl ?_
  refine pf_365 hC dX4_settlePartings_2 ?_
  refine zf_nmk (fun k1 => ?_)
  refine zf_iconst hC (v := 0) dX4_settlePartings_5 rfl ?_
  refine zf_istore_n hC (LV' := [(3, .int 0), (0, .ref (g.2.1 3)), (1, .int a0), (2, .ref (g.2.1 2))]) dX4_settlePartings_6 rfl (by decide) rfl ?_
  refine zf_lv (LV' := [(0, .ref (g.2.1 3)), (1, .int a0), (2, .ref (g.2.1 2)), (3, .int 0)]) [1, 2, 3, 0] rfl ?_
  refine zlpX4_settlePartings_7 hC hR a0 (fun y19 k20 => ?_) FU 0 k1
  exact zf_vret hC rfl dX4_settlePartings_86
/-! LifeKeys.Reach.addStep -/
theorem dX4_addStep_0 : decode cX4_addStep 0 = .ok (.aload_n 0, 1) := by decide +kernel
theorem dX4_addStep_1 : decode cX4_addStep 1 = .ok (.getfield 48, 3) := by decide +kernel
theorem dX4_addStep_4 : decode cX4_addStep 4 = .ok (.bipush 80, 2) := by decide +kernel
theorem dX4_addStep_6 : decode cX4_addStep 6 = .ok (.if_icmp .ge 33, 3) := by decide +kernel
theorem dX4_addStep_9 : decode cX4_addStep 9 = .ok (.aload_n 0, 1) := by decide +kernel
theorem dX4_addStep_10 : decode cX4_addStep 10 = .ok (.getfield 34, 3) := by decide +kernel
theorem dX4_addStep_13 : decode cX4_addStep 13 = .ok (.aload_n 0, 1) := by decide +kernel
theorem dX4_addStep_14 : decode cX4_addStep 14 = .ok (.getfield 48, 3) := by decide +kernel
theorem dX4_addStep_17 : decode cX4_addStep 17 = .ok (.iload_n 1, 1) := by decide +kernel
theorem dX4_addStep_18 : decode cX4_addStep 18 = .ok (.iastore, 1) := by decide +kernel
theorem dX4_addStep_19 : decode cX4_addStep 19 = .ok (.aload_n 0, 1) := by decide +kernel
theorem dX4_addStep_20 : decode cX4_addStep 20 = .ok (.getfield 37, 3) := by decide +kernel
theorem dX4_addStep_23 : decode cX4_addStep 23 = .ok (.aload_n 0, 1) := by decide +kernel
theorem dX4_addStep_24 : decode cX4_addStep 24 = .ok (.getfield 48, 3) := by decide +kernel
theorem dX4_addStep_27 : decode cX4_addStep 27 = .ok (.iload_n 2, 1) := by decide +kernel
theorem dX4_addStep_28 : decode cX4_addStep 28 = .ok (.iastore, 1) := by decide +kernel
theorem dX4_addStep_29 : decode cX4_addStep 29 = .ok (.aload_n 0, 1) := by decide +kernel
theorem dX4_addStep_30 : decode cX4_addStep 30 = .ok (.dup, 1) := by decide +kernel
theorem dX4_addStep_31 : decode cX4_addStep 31 = .ok (.getfield 48, 3) := by decide +kernel
theorem dX4_addStep_34 : decode cX4_addStep 34 = .ok (.iconst 1, 1) := by decide +kernel
theorem dX4_addStep_35 : decode cX4_addStep 35 = .ok (.iadd, 1) := by decide +kernel
theorem dX4_addStep_36 : decode cX4_addStep 36 = .ok (.putfield 48, 3) := by decide +kernel
theorem dX4_addStep_39 : decode cX4_addStep 39 = .ok (.return_, 1) := by decide +kernel
def fX4_addStep (k : ST) (a0 : Int32) (a1 : Int32) : Option (Unit × ST) := if 80 ≤ (gI k 3 8) then some ((), k) else ck (inb (gI k 3 8) 80) (nm (sA k 24 (ix (gI k 3 8)) a0) fun k3 => ck (inb (gI k3 3 8) 80) (nm (sA k3 25 (ix (gI k3 3 8)) a1) fun k5 => nm (sI k5 3 8 ((gI k5 3 8) + 1)) fun k6 => some ((), k6)))
set_option maxRecDepth 20000 in
theorem c_X4_addStep (l : Launch) (g : GT) (a0 : Int32) (a1 : Int32) : CN l yX4_addStep cX4_addStep 3 none { frames := 0, cells := 0, slots := 0, locals := 0 } g TK voV [.ref (g.2.1 3), .int a0, .int a1] (fun k => fX4_addStep k a0 a1) := by
  refine cn_of (by decide) (Nat.le_of_ble_eq_true rfl) ?_
  intro p e s m args below meth c hC k
  have hC : HC p s m args meth c cX4_addStep 3 RX4 none g := hC
  have hR : 0 ≤ ({ frames := 0, cells := 0, slots := 0, locals := 0 } : Room).frames ∧ 0 ≤ ({ frames := 0, cells := 0, slots := 0, locals := 0 } : Room).locals := ⟨Nat.le_refl _, Nat.le_refl _⟩
  show ZF p l e _ s m args below meth c g TK voV 3 k 0 [(0, .ref (g.2.1 3)), (1, .int a0), (2, .int a1)] [] (fX4_addStep k a0 a1)
  unfold fX4_addStep
  refine zf_aload_n hC dX4_addStep_0 rfl 0 rfl ?_
  refine gf_368 hC dX4_addStep_1 ?_
  refine zf_bipush hC (v := 80) dX4_addStep_4 rfl ?_
  refine zf_icmp_ge hC (tgt := 39) dX4_addStep_6 (by decide) (fun h1 => ?_) (fun h1 => ?_)
  · exact zf_vret hC rfl dX4_addStep_39
  · refine zf_aload_n hC dX4_addStep_9 rfl 0 rfl ?_
    refine gf_366 hC dX4_addStep_10 ?_
    refine zf_aload_n hC dX4_addStep_13 rfl 0 rfl ?_
    refine gf_368 hC dX4_addStep_14 ?_
    refine zf_iload_n hC dX4_addStep_17 rfl 1 rfl ?_
    refine zf_iast hC (j := 24) ia_24 rfl rfl dX4_addStep_18 (fun h2 => ?_)
    refine zf_nmk (fun k3 => ?_)
    refine zf_aload_n hC dX4_addStep_19 rfl 0 rfl ?_
    refine gf_367 hC dX4_addStep_20 ?_
    refine zf_aload_n hC dX4_addStep_23 rfl 0 rfl ?_
    refine gf_368 hC dX4_addStep_24 ?_
    refine zf_iload_n hC dX4_addStep_27 rfl 2 rfl ?_
    refine zf_iast hC (j := 25) ia_25 rfl rfl dX4_addStep_28 (fun h4 => ?_)
    refine zf_nmk (fun k5 => ?_)
    refine zf_aload_n hC dX4_addStep_29 rfl 0 rfl ?_
    refine zf_dup hC dX4_addStep_30 rfl ?_
    refine gf_368 hC dX4_addStep_31 ?_
    refine zf_iconst hC (v := 1) dX4_addStep_34 rfl ?_
    refine zf_iadd hC dX4_addStep_35 ?_
    refine pf_368 hC dX4_addStep_36 ?_
    refine zf_nmk (fun k6 => ?_)
    exact zf_vret hC rfl dX4_addStep_39
/-! LifeKeys.Reach.settle -/
theorem dX4_settle_0 : decode cX4_settle 0 = .ok (.aload_n 3, 1) := by decide +kernel
theorem dX4_settle_1 : decode cX4_settle 1 = .ok (.iload_n 1, 1) := by decide +kernel
theorem dX4_settle_2 : decode cX4_settle 2 = .ok (.aload_n 0, 1) := by decide +kernel
theorem dX4_settle_3 : decode cX4_settle 3 = .ok (.getfield 13, 3) := by decide +kernel
theorem dX4_settle_6 : decode cX4_settle 6 = .ok (.invokevirtual 40, 3) := by decide +kernel
theorem dX4_settle_9 : decode cX4_settle 9 = .ok (.aload_n 0, 1) := by decide +kernel
theorem dX4_settle_10 : decode cX4_settle 10 = .ok (.iload_n 1, 1) := by decide +kernel
theorem dX4_settle_11 : decode cX4_settle 11 = .ok (.aload 4, 2) := by decide +kernel
theorem dX4_settle_13 : decode cX4_settle 13 = .ok (.invokevirtual 44, 3) := by decide +kernel
theorem dX4_settle_16 : decode cX4_settle 16 = .ok (.aload_n 0, 1) := by decide +kernel
theorem dX4_settle_17 : decode cX4_settle 17 = .ok (.iconst 0, 1) := by decide +kernel
theorem dX4_settle_18 : decode cX4_settle 18 = .ok (.putfield 48, 3) := by decide +kernel
theorem dX4_settle_21 : decode cX4_settle 21 = .ok (.iconst 0, 1) := by decide +kernel
theorem dX4_settle_22 : decode cX4_settle 22 = .ok (.istore 5, 2) := by decide +kernel
theorem dX4_settle_24 : decode cX4_settle 24 = .ok (.iload 5, 2) := by decide +kernel
theorem dX4_settle_26 : decode cX4_settle 26 = .ok (.aload_n 2, 1) := by decide +kernel
theorem dX4_settle_27 : decode cX4_settle 27 = .ok (.getfield 52, 3) := by decide +kernel
theorem dX4_settle_30 : decode cX4_settle 30 = .ok (.if_icmp .ge 44, 3) := by decide +kernel
theorem dX4_settle_33 : decode cX4_settle 33 = .ok (.aload_n 2, 1) := by decide +kernel
theorem dX4_settle_34 : decode cX4_settle 34 = .ok (.getfield 55, 3) := by decide +kernel
theorem dX4_settle_37 : decode cX4_settle 37 = .ok (.iload 5, 2) := by decide +kernel
theorem dX4_settle_39 : decode cX4_settle 39 = .ok (.iaload, 1) := by decide +kernel
theorem dX4_settle_40 : decode cX4_settle 40 = .ok (.iconst 2, 1) := by decide +kernel
theorem dX4_settle_41 : decode cX4_settle 41 = .ok (.if_icmp .ne 27, 3) := by decide +kernel
theorem dX4_settle_44 : decode cX4_settle 44 = .ok (.aload_n 2, 1) := by decide +kernel
theorem dX4_settle_45 : decode cX4_settle 45 = .ok (.getfield 58, 3) := by decide +kernel
theorem dX4_settle_48 : decode cX4_settle 48 = .ok (.iload 5, 2) := by decide +kernel
theorem dX4_settle_50 : decode cX4_settle 50 = .ok (.iaload, 1) := by decide +kernel
theorem dX4_settle_51 : decode cX4_settle 51 = .ok (.iload_n 1, 1) := by decide +kernel
theorem dX4_settle_52 : decode cX4_settle 52 = .ok (.if_icmp .gt 16, 3) := by decide +kernel
theorem dX4_settle_55 : decode cX4_settle 55 = .ok (.aload_n 0, 1) := by decide +kernel
theorem dX4_settle_56 : decode cX4_settle 56 = .ok (.aload_n 2, 1) := by decide +kernel
theorem dX4_settle_57 : decode cX4_settle 57 = .ok (.getfield 61, 3) := by decide +kernel
theorem dX4_settle_60 : decode cX4_settle 60 = .ok (.iload 5, 2) := by decide +kernel
theorem dX4_settle_62 : decode cX4_settle 62 = .ok (.iaload, 1) := by decide +kernel
theorem dX4_settle_63 : decode cX4_settle 63 = .ok (.iload 5, 2) := by decide +kernel
theorem dX4_settle_65 : decode cX4_settle 65 = .ok (.invokevirtual 64, 3) := by decide +kernel
theorem dX4_settle_68 : decode cX4_settle 68 = .ok (.iinc 5 1, 3) := by decide +kernel
theorem dX4_settle_71 : decode cX4_settle 71 = .ok (.goto (-47), 3) := by decide +kernel
theorem dX4_settle_74 : decode cX4_settle 74 = .ok (.iconst 0, 1) := by decide +kernel
theorem dX4_settle_75 : decode cX4_settle 75 = .ok (.istore 5, 2) := by decide +kernel
theorem dX4_settle_77 : decode cX4_settle 77 = .ok (.iload 5, 2) := by decide +kernel
theorem dX4_settle_79 : decode cX4_settle 79 = .ok (.aload_n 3, 1) := by decide +kernel
theorem dX4_settle_80 : decode cX4_settle 80 = .ok (.getfield 68, 3) := by decide +kernel
theorem dX4_settle_83 : decode cX4_settle 83 = .ok (.if_icmp .ge 37, 3) := by decide +kernel
theorem dX4_settle_86 : decode cX4_settle 86 = .ok (.aload_n 3, 1) := by decide +kernel
theorem dX4_settle_87 : decode cX4_settle 87 = .ok (.iload 5, 2) := by decide +kernel
theorem dX4_settle_89 : decode cX4_settle 89 = .ok (.iload_n 1, 1) := by decide +kernel
theorem dX4_settle_90 : decode cX4_settle 90 = .ok (.invokevirtual 71, 3) := by decide +kernel
theorem dX4_settle_93 : decode cX4_settle 93 = .ok (.ifCond .eq 21, 3) := by decide +kernel
theorem dX4_settle_96 : decode cX4_settle 96 = .ok (.aload_n 0, 1) := by decide +kernel
theorem dX4_settle_97 : decode cX4_settle 97 = .ok (.aload_n 3, 1) := by decide +kernel
theorem dX4_settle_98 : decode cX4_settle 98 = .ok (.getfield 75, 3) := by decide +kernel
theorem dX4_settle_101 : decode cX4_settle 101 = .ok (.iload 5, 2) := by decide +kernel
theorem dX4_settle_103 : decode cX4_settle 103 = .ok (.iaload, 1) := by decide +kernel
theorem dX4_settle_104 : decode cX4_settle 104 = .ok (.aload_n 3, 1) := by decide +kernel
theorem dX4_settle_105 : decode cX4_settle 105 = .ok (.getfield 78, 3) := by decide +kernel
theorem dX4_settle_108 : decode cX4_settle 108 = .ok (.iload 5, 2) := by decide +kernel
theorem dX4_settle_110 : decode cX4_settle 110 = .ok (.iaload, 1) := by decide +kernel
theorem dX4_settle_111 : decode cX4_settle 111 = .ok (.invokevirtual 64, 3) := by decide +kernel
theorem dX4_settle_114 : decode cX4_settle 114 = .ok (.iinc 5 1, 3) := by decide +kernel
theorem dX4_settle_117 : decode cX4_settle 117 = .ok (.goto (-40), 3) := by decide +kernel
theorem dX4_settle_120 : decode cX4_settle 120 = .ok (.return_, 1) := by decide +kernel
def lpX4_settle_24 (v1 : Int32) : Nat → Int32 → ST → (Int32 → ST → Option (Unit × ST)) → Option (Unit × ST)
  | 0, _, _, _ => none
  | n + 1, v5, k, cont => if (gI k 0 0) ≤ v5 then cont v5 k else ck (inb v5 40) (if (gA k 1 (ix v5)) = 2 then ck (inb v5 40) (if v1 < (gA k 3 (ix v5)) then lpX4_settle_24 v1 n (v5 + 1) k cont else ck (inb v5 40) (ob (fX4_addStep k (gA k 2 (ix v5)) v5) fun r14 k15 => lpX4_settle_24 v1 n (v5 + 1) k15 cont)) else lpX4_settle_24 v1 n (v5 + 1) k cont)
def lpX4_settle_77 (v1 : Int32) : Nat → Int32 → ST → (Int32 → ST → Option (Unit × ST)) → Option (Unit × ST)
  | 0, _, _, _ => none
  | n + 1, v5, k, cont => if (gI k 9 5) ≤ v5 then cont v5 k else ob (fX10_isWrapOn k v5 v1) fun r20 k21 => if r20 = true then ck (inb v5 40) (ck (inb v5 40) (ob (fX4_addStep k21 (gA k21 54 (ix v5)) (gA k21 53 (ix v5))) fun r26 k27 => lpX4_settle_77 v1 n (v5 + 1) k27 cont)) else lpX4_settle_77 v1 n (v5 + 1) k21 cont
set_option maxRecDepth 20000 in
theorem zlpX4_settle_24 {p : Program} {l : Launch} {e : Env} {R : Room} {s : State} {m : MethodId} {args : Array Value} {below : List Frame} {meth : Method} {c : Code} {g : GT} (hC : HC p s m args meth c cX4_settle 6 RX4 none g) (hR : 3 ≤ R.frames ∧ 66 ≤ R.locals)  (v1 : Int32) {cont : Int32 → ST → Option (Unit × ST)} (hk : ∀ (v5 : Int32) (k : ST), ZF p l e R s m args below meth c g TK voV 6 k 74 [(0, .ref (g.2.1 3)), (1, .int v1), (2, .ref (g.2.1 0)), (3, .ref (g.2.1 9)), (4, .ref (g.2.1 2)), (5, .int v5)] [] (cont v5 k)) : ∀ (n : Nat) (v5 : Int32) (k : ST), ZF p l e R s m args below meth c g TK voV 6 k 24 [(0, .ref (g.2.1 3)), (1, .int v1), (2, .ref (g.2.1 0)), (3, .ref (g.2.1 9)), (4, .ref (g.2.1 2)), (5, .int v5)] [] (lpX4_settle_24 v1 n v5 k cont) := by
  intro n
  induction n with
  | zero => intros; exact zf_none
  | succ n ih =>
    intro v5 k
    rw [lpX4_settle_24]
    refine zf_iload hC dX4_settle_24 5 rfl ?_
    refine zf_aload_n hC dX4_settle_26 rfl 2 rfl ?_
    refine gf_52 hC dX4_settle_27 ?_
    refine zf_icmp_ge hC (tgt := 74) dX4_settle_30 (by decide) (fun h8 => ?_) (fun h8 => ?_)
    · refine zf_lv (LV' := [(0, .ref (g.2.1 3)), (1, .int v1), (2, .ref (g.2.1 0)), (3, .ref (g.2.1 9)), (4, .ref (g.2.1 2)), (5, .int v5)]) [0, 1, 2, 3, 4, 5] rfl ?_
      exact hk v5 k
    · refine zf_aload_n hC dX4_settle_33 rfl 2 rfl ?_
      refine gf_57 hC dX4_settle_34 ?_
      refine zf_iload hC dX4_settle_37 5 rfl ?_
      refine zf_iald hC (j := 1) ia_1 rfl rfl dX4_settle_39 (fun h9 => ?_)
      refine zf_iconst hC (v := 2) dX4_settle_40 rfl ?_
      refine zf_icmp_ne hC (tgt := 68) dX4_settle_41 (by decide) (fun h10 => ?_) (fun h10 => ?_)
      · refine zf_aload_n hC dX4_settle_44 rfl 2 rfl ?_
        refine gf_63 hC dX4_settle_45 ?_
        refine zf_iload hC dX4_settle_48 5 rfl ?_
        refine zf_iald hC (j := 3) ia_3 rfl rfl dX4_settle_50 (fun h11 => ?_)
        refine zf_iload_n hC dX4_settle_51 rfl 1 rfl ?_
        refine zf_icmp_gt hC (tgt := 68) dX4_settle_52 (by decide) (fun h12 => ?_) (fun h12 => ?_)
        · refine zf_iinc hC (q := 5) (v := v5 + 1) (LV' := [(5, .int (v5 + 1)), (0, .ref (g.2.1 3)), (1, .int v1), (2, .ref (g.2.1 0)), (3, .ref (g.2.1 9)), (4, .ref (g.2.1 2))]) dX4_settle_68 rfl rfl (by decide) rfl ?_
          refine zf_goto hC (tgt := 24) dX4_settle_71 (by decide) ?_
          refine zf_lv (LV' := [(0, .ref (g.2.1 3)), (1, .int v1), (2, .ref (g.2.1 0)), (3, .ref (g.2.1 9)), (4, .ref (g.2.1 2)), (5, .int (v5 + 1))]) [1, 2, 3, 4, 5, 0] rfl ?_
          exact ih (v5 + 1) k
        · refine zf_aload_n hC dX4_settle_55 rfl 0 rfl ?_
          refine zf_aload_n hC dX4_settle_56 rfl 2 rfl ?_
          refine gf_60 hC dX4_settle_57 ?_
          refine zf_iload hC dX4_settle_60 5 rfl ?_
          refine zf_iald hC (j := 2) ia_2 rfl rfl dX4_settle_62 (fun h13 => ?_)
          refine zf_iload hC dX4_settle_63 5 rfl ?_
          refine zf_callV hC (c_X4_addStep l g (gA k 2 (ix v5)) v5) mt_X4_addStep wd_715 sp_6 ci_3 ic_3 wd_713 rfl (rm_le hR rfl) rfl rfl (rest := []) rfl (Nat.le_of_ble_eq_true rfl) dX4_settle_65 (fun r14 k15 h16 => ?_)
          refine zf_iinc hC (q := 5) (v := v5 + 1) (LV' := [(5, .int (v5 + 1)), (0, .ref (g.2.1 3)), (1, .int v1), (2, .ref (g.2.1 0)), (3, .ref (g.2.1 9)), (4, .ref (g.2.1 2))]) dX4_settle_68 rfl rfl (by decide) rfl ?_
          refine zf_goto hC (tgt := 24) dX4_settle_71 (by decide) ?_
          refine zf_lv (LV' := [(0, .ref (g.2.1 3)), (1, .int v1), (2, .ref (g.2.1 0)), (3, .ref (g.2.1 9)), (4, .ref (g.2.1 2)), (5, .int (v5 + 1))]) [1, 2, 3, 4, 5, 0] rfl ?_
          exact ih (v5 + 1) k15
      · refine zf_iinc hC (q := 5) (v := v5 + 1) (LV' := [(5, .int (v5 + 1)), (0, .ref (g.2.1 3)), (1, .int v1), (2, .ref (g.2.1 0)), (3, .ref (g.2.1 9)), (4, .ref (g.2.1 2))]) dX4_settle_68 rfl rfl (by decide) rfl ?_
        refine zf_goto hC (tgt := 24) dX4_settle_71 (by decide) ?_
        refine zf_lv (LV' := [(0, .ref (g.2.1 3)), (1, .int v1), (2, .ref (g.2.1 0)), (3, .ref (g.2.1 9)), (4, .ref (g.2.1 2)), (5, .int (v5 + 1))]) [1, 2, 3, 4, 5, 0] rfl ?_
        exact ih (v5 + 1) k
set_option maxRecDepth 20000 in
theorem zlpX4_settle_77 {p : Program} {l : Launch} {e : Env} {R : Room} {s : State} {m : MethodId} {args : Array Value} {below : List Frame} {meth : Method} {c : Code} {g : GT} (hC : HC p s m args meth c cX4_settle 6 RX4 none g) (hR : 3 ≤ R.frames ∧ 66 ≤ R.locals)  (v1 : Int32) {cont : Int32 → ST → Option (Unit × ST)} (hk : ∀ (v5 : Int32) (k : ST), ZF p l e R s m args below meth c g TK voV 6 k 120 [(0, .ref (g.2.1 3)), (1, .int v1), (2, .ref (g.2.1 0)), (3, .ref (g.2.1 9)), (4, .ref (g.2.1 2)), (5, .int v5)] [] (cont v5 k)) : ∀ (n : Nat) (v5 : Int32) (k : ST), ZF p l e R s m args below meth c g TK voV 6 k 77 [(0, .ref (g.2.1 3)), (1, .int v1), (2, .ref (g.2.1 0)), (3, .ref (g.2.1 9)), (4, .ref (g.2.1 2)), (5, .int v5)] [] (lpX4_settle_77 v1 n v5 k cont) := by
  intro n
  induction n with
  | zero => intros; exact zf_none
  | succ n ih =>
    intro v5 k
    rw [lpX4_settle_77]
    refine zf_iload hC dX4_settle_77 5 rfl ?_
    refine zf_aload_n hC dX4_settle_79 rfl 3 rfl ?_
    refine gf_102 hC dX4_settle_80 ?_
    refine zf_icmp_ge hC (tgt := 120) dX4_settle_83 (by decide) (fun h19 => ?_) (fun h19 => ?_)
    · refine zf_lv (LV' := [(0, .ref (g.2.1 3)), (1, .int v1), (2, .ref (g.2.1 0)), (3, .ref (g.2.1 9)), (4, .ref (g.2.1 2)), (5, .int v5)]) [0, 1, 2, 3, 4, 5] rfl ?_
      exact hk v5 k
    · refine zf_aload_n hC dX4_settle_86 rfl 3 rfl ?_
      refine zf_iload hC dX4_settle_87 5 rfl ?_
      refine zf_iload_n hC dX4_settle_89 rfl 1 rfl ?_
      refine zf_callV hC (c_X10_isWrapOn l g v5 v1) mt_X10_isWrapOn wd_718 wd_719 ci_9 ic_9 wd_717 rfl (rm_le hR rfl) rfl rfl (rest := []) rfl (Nat.le_of_ble_eq_true rfl) dX4_settle_90 (fun r20 k21 h22 => ?_)
      refine zf_ifb_eq hC (tgt := 114) dX4_settle_93 (by decide) (fun h23 => ?_) (fun h23 => ?_)
      · refine zf_aload_n hC dX4_settle_96 rfl 0 rfl ?_
        refine zf_aload_n hC dX4_settle_97 rfl 3 rfl ?_
        refine gf_107 hC dX4_settle_98 ?_
        refine zf_iload hC dX4_settle_101 5 rfl ?_
        refine zf_iald hC (j := 54) ia_54 rfl rfl dX4_settle_103 (fun h24 => ?_)
        refine zf_aload_n hC dX4_settle_104 rfl 3 rfl ?_
        refine gf_105 hC dX4_settle_105 ?_
        refine zf_iload hC dX4_settle_108 5 rfl ?_
        refine zf_iald hC (j := 53) ia_53 rfl rfl dX4_settle_110 (fun h25 => ?_)
        refine zf_callV hC (c_X4_addStep l g (gA k21 54 (ix v5)) (gA k21 53 (ix v5))) mt_X4_addStep wd_715 sp_6 ci_3 ic_3 wd_713 rfl (rm_le hR rfl) rfl rfl (rest := []) rfl (Nat.le_of_ble_eq_true rfl) dX4_settle_111 (fun r26 k27 h28 => ?_)
        refine zf_iinc hC (q := 5) (v := v5 + 1) (LV' := [(5, .int (v5 + 1)), (0, .ref (g.2.1 3)), (1, .int v1), (2, .ref (g.2.1 0)), (3, .ref (g.2.1 9)), (4, .ref (g.2.1 2))]) dX4_settle_114 rfl rfl (by decide) rfl ?_
        refine zf_goto hC (tgt := 77) dX4_settle_117 (by decide) ?_
        refine zf_lv (LV' := [(0, .ref (g.2.1 3)), (1, .int v1), (2, .ref (g.2.1 0)), (3, .ref (g.2.1 9)), (4, .ref (g.2.1 2)), (5, .int (v5 + 1))]) [1, 2, 3, 4, 5, 0] rfl ?_
        exact ih (v5 + 1) k27
      · refine zf_iinc hC (q := 5) (v := v5 + 1) (LV' := [(5, .int (v5 + 1)), (0, .ref (g.2.1 3)), (1, .int v1), (2, .ref (g.2.1 0)), (3, .ref (g.2.1 9)), (4, .ref (g.2.1 2))]) dX4_settle_114 rfl rfl (by decide) rfl ?_
        refine zf_goto hC (tgt := 77) dX4_settle_117 (by decide) ?_
        refine zf_lv (LV' := [(0, .ref (g.2.1 3)), (1, .int v1), (2, .ref (g.2.1 0)), (3, .ref (g.2.1 9)), (4, .ref (g.2.1 2)), (5, .int (v5 + 1))]) [1, 2, 3, 4, 5, 0] rfl ?_
        exact ih (v5 + 1) k21
def fX4_settle (k : ST) (a0 : Int32) : Option (Unit × ST) := ob (fX10_heldOn k a0) fun r1 k2 => ob (fX4_settlePartings k2 a0) fun r4 k5 => nm (sI k5 3 8 0) fun k7 => lpX4_settle_24 a0 FU 0 k7 fun y17 k18 => lpX4_settle_77 a0 FU 0 k18 fun y29 k30 => some ((), k30)
set_option maxRecDepth 20000 in
theorem c_X4_settle (l : Launch) (g : GT) (a0 : Int32) : CN l yX4_settle cX4_settle 6 none { frames := 3, cells := 0, slots := 0, locals := 66 } g TK voV [.ref (g.2.1 3), .int a0, .ref (g.2.1 0), .ref (g.2.1 9), .ref (g.2.1 2)] (fun k => fX4_settle k a0) := by
  refine cn_of (by decide) (Nat.le_of_ble_eq_true rfl) ?_
  intro p e s m args below meth c hC k
  have hC : HC p s m args meth c cX4_settle 6 RX4 none g := hC
  have hR : 3 ≤ ({ frames := 3, cells := 0, slots := 0, locals := 66 } : Room).frames ∧ 66 ≤ ({ frames := 3, cells := 0, slots := 0, locals := 66 } : Room).locals := ⟨Nat.le_refl _, Nat.le_refl _⟩
  show ZF p l e _ s m args below meth c g TK voV 6 k 0 [(0, .ref (g.2.1 3)), (1, .int a0), (2, .ref (g.2.1 0)), (3, .ref (g.2.1 9)), (4, .ref (g.2.1 2))] [] (fX4_settle k a0)
  unfold fX4_settle
  refine zf_aload_n hC dX4_settle_0 rfl 3 rfl ?_
  refine zf_iload_n hC dX4_settle_1 rfl 1 rfl ?_
  refine zf_aload_n hC dX4_settle_2 rfl 0 rfl ?_
  refine gf_359 hC dX4_settle_3 ?_
  refine zf_callV hC (c_X10_heldOn l g a0) mt_X10_heldOn wd_705 wd_706 ci_9 ic_9 wd_704 rfl (rm_le hR rfl) rfl rfl (rest := []) rfl (Nat.le_of_ble_eq_true rfl) dX4_settle_6 (fun r1 k2 h3 => ?_)
  refine zf_aload_n hC dX4_settle_9 rfl 0 rfl ?_
  refine zf_iload_n hC dX4_settle_10 rfl 1 rfl ?_
  refine zf_aload hC dX4_settle_11 4 rfl ?_
  refine zf_callV hC (c_X4_settlePartings l g a0) mt_X4_settlePartings wd_710 sp_5 ci_3 ic_3 wd_708 rfl (rm_le hR rfl) rfl rfl (rest := []) rfl (Nat.le_of_ble_eq_true rfl) dX4_settle_13 (fun r4 k5 h6 => ?_)
  refine zf_aload_n hC dX4_settle_16 rfl 0 rfl ?_
  refine zf_iconst hC (v := 0) dX4_settle_17 rfl ?_
  refine pf_368 hC dX4_settle_18 ?_
  refine zf_nmk (fun k7 => ?_)
  refine zf_iconst hC (v := 0) dX4_settle_21 rfl ?_
  refine zf_istore hC (LV' := [(5, .int 0), (0, .ref (g.2.1 3)), (1, .int a0), (2, .ref (g.2.1 0)), (3, .ref (g.2.1 9)), (4, .ref (g.2.1 2))]) dX4_settle_22 (by decide) rfl ?_
  refine zf_lv (LV' := [(0, .ref (g.2.1 3)), (1, .int a0), (2, .ref (g.2.1 0)), (3, .ref (g.2.1 9)), (4, .ref (g.2.1 2)), (5, .int 0)]) [1, 2, 3, 4, 5, 0] rfl ?_
  refine zlpX4_settle_24 hC hR a0 (fun y17 k18 => ?_) FU 0 k7
  refine zf_iconst hC (v := 0) dX4_settle_74 rfl ?_
  refine zf_istore hC (LV' := [(5, .int 0), (0, .ref (g.2.1 3)), (1, .int a0), (2, .ref (g.2.1 0)), (3, .ref (g.2.1 9)), (4, .ref (g.2.1 2))]) dX4_settle_75 (by decide) rfl ?_
  refine zf_lv (LV' := [(0, .ref (g.2.1 3)), (1, .int a0), (2, .ref (g.2.1 0)), (3, .ref (g.2.1 9)), (4, .ref (g.2.1 2)), (5, .int 0)]) [1, 2, 3, 4, 5, 0] rfl ?_
  refine zlpX4_settle_77 hC hR a0 (fun y29 k30 => ?_) FU 0 k18
  exact zf_vret hC rfl dX4_settle_120
/-! LifeKeys.Reach.suffices -/
theorem dX4_suffices_0 : decode cX4_suffices 0 = .ok (.iload_n 2, 1) := by decide +kernel
theorem dX4_suffices_1 : decode cX4_suffices 1 = .ok (.aload_n 0, 1) := by decide +kernel
theorem dX4_suffices_2 : decode cX4_suffices 2 = .ok (.getfield 25, 3) := by decide +kernel
theorem dX4_suffices_5 : decode cX4_suffices 5 = .ok (.iload_n 1, 1) := by decide +kernel
theorem dX4_suffices_6 : decode cX4_suffices 6 = .ok (.iaload, 1) := by decide +kernel
theorem dX4_suffices_7 : decode cX4_suffices 7 = .ok (.iand, 1) := by decide +kernel
theorem dX4_suffices_8 : decode cX4_suffices 8 = .ok (.invokestatic 105, 3) := by decide +kernel
theorem dX4_suffices_11 : decode cX4_suffices 11 = .ok (.aload_n 0, 1) := by decide +kernel
theorem dX4_suffices_12 : decode cX4_suffices 12 = .ok (.getfield 28, 3) := by decide +kernel
theorem dX4_suffices_15 : decode cX4_suffices 15 = .ok (.iload_n 1, 1) := by decide +kernel
theorem dX4_suffices_16 : decode cX4_suffices 16 = .ok (.iaload, 1) := by decide +kernel
theorem dX4_suffices_17 : decode cX4_suffices 17 = .ok (.if_icmp .lt 7, 3) := by decide +kernel
theorem dX4_suffices_20 : decode cX4_suffices 20 = .ok (.iconst 1, 1) := by decide +kernel
theorem dX4_suffices_21 : decode cX4_suffices 21 = .ok (.goto 4, 3) := by decide +kernel
theorem dX4_suffices_24 : decode cX4_suffices 24 = .ok (.iconst 0, 1) := by decide +kernel
theorem dX4_suffices_25 : decode cX4_suffices 25 = .ok (.ireturn, 1) := by decide +kernel
def fX4_suffices (k : ST) (a0 : Int32) (a1 : Int32) : Option (Bool × ST) := ck (inb a0 40) (ob (fJ6_bitCount_0f7a4 k (a1 &&& (gA k 21 (ix a0)))) fun r2 k3 => ck (inb a0 40) (if r2 < (gA k3 22 (ix a0)) then some (false, k3) else some (true, k3)))
set_option maxRecDepth 20000 in
theorem c_X4_suffices (l : Launch) (g : GT) (a0 : Int32) (a1 : Int32) : CN l yX4_suffices cX4_suffices 3 (some .boolean) { frames := 1, cells := 0, slots := 0, locals := 20 } g TK voB [.ref (g.2.1 3), .int a0, .int a1] (fun k => fX4_suffices k a0 a1) := by
  refine cn_of (by decide) (Nat.le_of_ble_eq_true rfl) ?_
  intro p e s m args below meth c hC k
  have hC : HC p s m args meth c cX4_suffices 3 RX4 (some .boolean) g := hC
  have hR : 1 ≤ ({ frames := 1, cells := 0, slots := 0, locals := 20 } : Room).frames ∧ 20 ≤ ({ frames := 1, cells := 0, slots := 0, locals := 20 } : Room).locals := ⟨Nat.le_refl _, Nat.le_refl _⟩
  show ZF p l e _ s m args below meth c g TK voB 3 k 0 [(0, .ref (g.2.1 3)), (1, .int a0), (2, .int a1)] [] (fX4_suffices k a0 a1)
  unfold fX4_suffices
  refine zf_iload_n hC dX4_suffices_0 rfl 2 rfl ?_
  refine zf_aload_n hC dX4_suffices_1 rfl 0 rfl ?_
  refine gf_361 hC dX4_suffices_2 ?_
  refine zf_iload_n hC dX4_suffices_5 rfl 1 rfl ?_
  refine zf_iald hC (j := 21) ia_21 rfl rfl dX4_suffices_6 (fun h1 => ?_)
  refine zf_iand hC dX4_suffices_7 ?_
  refine zf_callS hC (c_J6_bitCount_0f7a4 l g TK (a1 &&& (gA k 21 (ix a0)))) mt_J6_bitCount_0f7a4 wd_577 wd_734 rfl (rm_le hR rfl) rfl rfl (rest := []) rfl (Nat.le_of_ble_eq_true rfl) dX4_suffices_8 (fun r2 k3 h4 => ?_)
  refine zf_aload_n hC dX4_suffices_11 rfl 0 rfl ?_
  refine gf_362 hC dX4_suffices_12 ?_
  refine zf_iload_n hC dX4_suffices_15 rfl 1 rfl ?_
  refine zf_iald hC (j := 22) ia_22 rfl rfl dX4_suffices_16 (fun h5 => ?_)
  refine zf_icmp_lt hC (tgt := 24) dX4_suffices_17 (by decide) (fun h6 => ?_) (fun h6 => ?_)
  · refine zf_iconst hC (v := 0) dX4_suffices_24 rfl ?_
    exact zf_zret hC rfl false rfl dX4_suffices_25
  · refine zf_iconst hC (v := 1) dX4_suffices_20 rfl ?_
    refine zf_goto hC (tgt := 25) dX4_suffices_21 (by decide) ?_
    exact zf_zret hC rfl true rfl dX4_suffices_25
/-! LifeKeys.Reach.atOnce -/
theorem dX4_atOnce_0 : decode cX4_atOnce 0 = .ok (.lconst 0, 1) := by decide +kernel
theorem dX4_atOnce_1 : decode cX4_atOnce 1 = .ok (.lstore_n 2, 1) := by decide +kernel
theorem dX4_atOnce_2 : decode cX4_atOnce 2 = .ok (.iconst 0, 1) := by decide +kernel
theorem dX4_atOnce_3 : decode cX4_atOnce 3 = .ok (.istore 4, 2) := by decide +kernel
theorem dX4_atOnce_5 : decode cX4_atOnce 5 = .ok (.iload 4, 2) := by decide +kernel
theorem dX4_atOnce_7 : decode cX4_atOnce 7 = .ok (.bipush 12, 2) := by decide +kernel
theorem dX4_atOnce_9 : decode cX4_atOnce 9 = .ok (.if_icmp .ge 28, 3) := by decide +kernel
theorem dX4_atOnce_12 : decode cX4_atOnce 12 = .ok (.iload_n 1, 1) := by decide +kernel
theorem dX4_atOnce_13 : decode cX4_atOnce 13 = .ok (.iload 4, 2) := by decide +kernel
theorem dX4_atOnce_15 : decode cX4_atOnce 15 = .ok (.invokestatic 99, 3) := by decide +kernel
theorem dX4_atOnce_18 : decode cX4_atOnce 18 = .ok (.ifCond .eq 13, 3) := by decide +kernel
theorem dX4_atOnce_21 : decode cX4_atOnce 21 = .ok (.lload_n 2, 1) := by decide +kernel
theorem dX4_atOnce_22 : decode cX4_atOnce 22 = .ok (.aload_n 0, 1) := by decide +kernel
theorem dX4_atOnce_23 : decode cX4_atOnce 23 = .ok (.getfield 13, 3) := by decide +kernel
theorem dX4_atOnce_26 : decode cX4_atOnce 26 = .ok (.iload 4, 2) := by decide +kernel
theorem dX4_atOnce_28 : decode cX4_atOnce 28 = .ok (.laload, 1) := by decide +kernel
theorem dX4_atOnce_29 : decode cX4_atOnce 29 = .ok (.lor, 1) := by decide +kernel
theorem dX4_atOnce_30 : decode cX4_atOnce 30 = .ok (.lstore_n 2, 1) := by decide +kernel
theorem dX4_atOnce_31 : decode cX4_atOnce 31 = .ok (.iinc 4 1, 3) := by decide +kernel
theorem dX4_atOnce_34 : decode cX4_atOnce 34 = .ok (.goto (-29), 3) := by decide +kernel
theorem dX4_atOnce_37 : decode cX4_atOnce 37 = .ok (.iconst 0, 1) := by decide +kernel
theorem dX4_atOnce_38 : decode cX4_atOnce 38 = .ok (.istore 4, 2) := by decide +kernel
theorem dX4_atOnce_40 : decode cX4_atOnce 40 = .ok (.iload 4, 2) := by decide +kernel
theorem dX4_atOnce_42 : decode cX4_atOnce 42 = .ok (.aload_n 0, 1) := by decide +kernel
theorem dX4_atOnce_43 : decode cX4_atOnce 43 = .ok (.getfield 81, 3) := by decide +kernel
theorem dX4_atOnce_46 : decode cX4_atOnce 46 = .ok (.if_icmp .ge 41, 3) := by decide +kernel
theorem dX4_atOnce_49 : decode cX4_atOnce 49 = .ok (.aload_n 0, 1) := by decide +kernel
theorem dX4_atOnce_50 : decode cX4_atOnce 50 = .ok (.aload_n 0, 1) := by decide +kernel
theorem dX4_atOnce_51 : decode cX4_atOnce 51 = .ok (.getfield 31, 3) := by decide +kernel
theorem dX4_atOnce_54 : decode cX4_atOnce 54 = .ok (.iload 4, 2) := by decide +kernel
theorem dX4_atOnce_56 : decode cX4_atOnce 56 = .ok (.iaload, 1) := by decide +kernel
theorem dX4_atOnce_57 : decode cX4_atOnce 57 = .ok (.iload_n 1, 1) := by decide +kernel
theorem dX4_atOnce_58 : decode cX4_atOnce 58 = .ok (.invokevirtual 102, 3) := by decide +kernel
theorem dX4_atOnce_61 : decode cX4_atOnce 61 = .ok (.ifCond .eq 20, 3) := by decide +kernel
theorem dX4_atOnce_64 : decode cX4_atOnce 64 = .ok (.lload_n 2, 1) := by decide +kernel
theorem dX4_atOnce_65 : decode cX4_atOnce 65 = .ok (.lconst 1, 1) := by decide +kernel
theorem dX4_atOnce_66 : decode cX4_atOnce 66 = .ok (.aload_n 0, 1) := by decide +kernel
theorem dX4_atOnce_67 : decode cX4_atOnce 67 = .ok (.getfield 21, 3) := by decide +kernel
theorem dX4_atOnce_70 : decode cX4_atOnce 70 = .ok (.aload_n 0, 1) := by decide +kernel
theorem dX4_atOnce_71 : decode cX4_atOnce 71 = .ok (.getfield 31, 3) := by decide +kernel
theorem dX4_atOnce_74 : decode cX4_atOnce 74 = .ok (.iload 4, 2) := by decide +kernel
theorem dX4_atOnce_76 : decode cX4_atOnce 76 = .ok (.iaload, 1) := by decide +kernel
theorem dX4_atOnce_77 : decode cX4_atOnce 77 = .ok (.iaload, 1) := by decide +kernel
theorem dX4_atOnce_78 : decode cX4_atOnce 78 = .ok (.lshl, 1) := by decide +kernel
theorem dX4_atOnce_79 : decode cX4_atOnce 79 = .ok (.lor, 1) := by decide +kernel
theorem dX4_atOnce_80 : decode cX4_atOnce 80 = .ok (.lstore_n 2, 1) := by decide +kernel
theorem dX4_atOnce_81 : decode cX4_atOnce 81 = .ok (.iinc 4 1, 3) := by decide +kernel
theorem dX4_atOnce_84 : decode cX4_atOnce 84 = .ok (.goto (-44), 3) := by decide +kernel
theorem dX4_atOnce_87 : decode cX4_atOnce 87 = .ok (.lload_n 2, 1) := by decide +kernel
theorem dX4_atOnce_88 : decode cX4_atOnce 88 = .ok (.lreturn, 1) := by decide +kernel
def lpX4_atOnce_5 (v1 : Int32) : Nat → Int64 → Int32 → ST → (Int64 → Int32 → ST → Option (Int64 × ST)) → Option (Int64 × ST)
  | 0, _, _, _, _ => none
  | n + 1, v2, v4, k, cont => if 12 ≤ v4 then cont v2 v4 k else ob (fX11_hasBit k v1 v4) fun r2 k3 => if r2 = true then ck (inb v4 12) (lpX4_atOnce_5 v1 n (v2 ||| (gL k3 19 (ix v4))) (v4 + 1) k3 cont) else lpX4_atOnce_5 v1 n v2 (v4 + 1) k3 cont
def lpX4_atOnce_40 (v1 : Int32) : Nat → Int64 → Int32 → ST → (Int64 → Int32 → ST → Option (Int64 × ST)) → Option (Int64 × ST)
  | 0, _, _, _, _ => none
  | n + 1, v2, v4, k, cont => if (gI k 3 5) ≤ v4 then cont v2 v4 k else ck (inb v4 40) (ob (fX4_suffices k (gA k 23 (ix v4)) v1) fun r12 k13 => if r12 = true then ck (inb v4 40) (ck (inb (gA k13 23 (ix v4)) 40) (nm (v2 ||| (j_lshl 1 (gA k13 20 (ix (gA k13 23 (ix v4)))))) fun x18 => lpX4_atOnce_40 v1 n x18 (v4 + 1) k13 cont)) else lpX4_atOnce_40 v1 n v2 (v4 + 1) k13 cont)
set_option maxRecDepth 20000 in
theorem zlpX4_atOnce_5 {p : Program} {l : Launch} {e : Env} {R : Room} {s : State} {m : MethodId} {args : Array Value} {below : List Frame} {meth : Method} {c : Code} {g : GT} (hC : HC p s m args meth c cX4_atOnce 5 RX4 (some .long) g) (hR : 2 ≤ R.frames ∧ 42 ≤ R.locals)  (v1 : Int32) {cont : Int64 → Int32 → ST → Option (Int64 × ST)} (hk : ∀ (v2 : Int64) (v4 : Int32) (k : ST), ZF p l e R s m args below meth c g TK voL 5 k 37 [(0, .ref (g.2.1 3)), (1, .int v1), (2, .long v2), (4, .int v4)] [] (cont v2 v4 k)) : ∀ (n : Nat) (v2 : Int64) (v4 : Int32) (k : ST), ZF p l e R s m args below meth c g TK voL 5 k 5 [(0, .ref (g.2.1 3)), (1, .int v1), (2, .long v2), (4, .int v4)] [] (lpX4_atOnce_5 v1 n v2 v4 k cont) := by
  intro n
  induction n with
  | zero => intros; exact zf_none
  | succ n ih =>
    intro v2 v4 k
    rw [lpX4_atOnce_5]
    refine zf_iload hC dX4_atOnce_5 3 rfl ?_
    refine zf_bipush hC (v := 12) dX4_atOnce_7 rfl ?_
    refine zf_icmp_ge hC (tgt := 37) dX4_atOnce_9 (by decide) (fun h1 => ?_) (fun h1 => ?_)
    · refine zf_lv (LV' := [(0, .ref (g.2.1 3)), (1, .int v1), (2, .long v2), (4, .int v4)]) [0, 1, 2, 3] rfl ?_
      exact hk v2 v4 k
    · refine zf_iload_n hC dX4_atOnce_12 rfl 1 rfl ?_
      refine zf_iload hC dX4_atOnce_13 3 rfl ?_
      refine zf_callSN hC (c_X11_hasBit l g TK v1 v4) mt_X11_hasBit wd_613 wd_729 rfl (rm_le hR rfl) rfl rfl (rest := []) rfl (Nat.le_of_ble_eq_true rfl) dX4_atOnce_15 (fun r2 k3 h4 => ?_)
      refine zf_ifb_eq hC (tgt := 31) dX4_atOnce_18 (by decide) (fun h5 => ?_) (fun h5 => ?_)
      · refine zf_lload_n hC dX4_atOnce_21 rfl 2 rfl ?_
        refine zf_aload_n hC dX4_atOnce_22 rfl 0 rfl ?_
        refine gf_359 hC dX4_atOnce_23 ?_
        refine zf_iload hC dX4_atOnce_26 3 rfl ?_
        refine zf_lald hC (j := 19) ia_19 rfl rfl dX4_atOnce_28 (fun h6 => ?_)
        refine zf_lor hC dX4_atOnce_29 ?_
        refine zf_lstore_n hC (LV' := [(2, .long (v2 ||| (gL k3 19 (ix v4)))), (0, .ref (g.2.1 3)), (1, .int v1), (4, .int v4)]) dX4_atOnce_30 rfl (by decide) rfl ?_
        refine zf_iinc hC (q := 3) (v := v4 + 1) (LV' := [(4, .int (v4 + 1)), (2, .long (v2 ||| (gL k3 19 (ix v4)))), (0, .ref (g.2.1 3)), (1, .int v1)]) dX4_atOnce_31 rfl rfl (by decide) rfl ?_
        refine zf_goto hC (tgt := 5) dX4_atOnce_34 (by decide) ?_
        refine zf_lv (LV' := [(0, .ref (g.2.1 3)), (1, .int v1), (2, .long (v2 ||| (gL k3 19 (ix v4)))), (4, .int (v4 + 1))]) [2, 3, 1, 0] rfl ?_
        exact ih (v2 ||| (gL k3 19 (ix v4))) (v4 + 1) k3
      · refine zf_iinc hC (q := 3) (v := v4 + 1) (LV' := [(4, .int (v4 + 1)), (0, .ref (g.2.1 3)), (1, .int v1), (2, .long v2)]) dX4_atOnce_31 rfl rfl (by decide) rfl ?_
        refine zf_goto hC (tgt := 5) dX4_atOnce_34 (by decide) ?_
        refine zf_lv (LV' := [(0, .ref (g.2.1 3)), (1, .int v1), (2, .long v2), (4, .int (v4 + 1))]) [1, 2, 3, 0] rfl ?_
        exact ih v2 (v4 + 1) k3
set_option maxRecDepth 20000 in
theorem zlpX4_atOnce_40 {p : Program} {l : Launch} {e : Env} {R : Room} {s : State} {m : MethodId} {args : Array Value} {below : List Frame} {meth : Method} {c : Code} {g : GT} (hC : HC p s m args meth c cX4_atOnce 5 RX4 (some .long) g) (hR : 2 ≤ R.frames ∧ 42 ≤ R.locals)  (v1 : Int32) {cont : Int64 → Int32 → ST → Option (Int64 × ST)} (hk : ∀ (v2 : Int64) (v4 : Int32) (k : ST), ZF p l e R s m args below meth c g TK voL 5 k 87 [(0, .ref (g.2.1 3)), (1, .int v1), (2, .long v2), (4, .int v4)] [] (cont v2 v4 k)) : ∀ (n : Nat) (v2 : Int64) (v4 : Int32) (k : ST), ZF p l e R s m args below meth c g TK voL 5 k 40 [(0, .ref (g.2.1 3)), (1, .int v1), (2, .long v2), (4, .int v4)] [] (lpX4_atOnce_40 v1 n v2 v4 k cont) := by
  intro n
  induction n with
  | zero => intros; exact zf_none
  | succ n ih =>
    intro v2 v4 k
    rw [lpX4_atOnce_40]
    refine zf_iload hC dX4_atOnce_40 3 rfl ?_
    refine zf_aload_n hC dX4_atOnce_42 rfl 0 rfl ?_
    refine gf_365 hC dX4_atOnce_43 ?_
    refine zf_icmp_ge hC (tgt := 87) dX4_atOnce_46 (by decide) (fun h10 => ?_) (fun h10 => ?_)
    · refine zf_lv (LV' := [(0, .ref (g.2.1 3)), (1, .int v1), (2, .long v2), (4, .int v4)]) [0, 1, 2, 3] rfl ?_
      exact hk v2 v4 k
    · refine zf_aload_n hC dX4_atOnce_49 rfl 0 rfl ?_
      refine zf_aload_n hC dX4_atOnce_50 rfl 0 rfl ?_
      refine gf_364 hC dX4_atOnce_51 ?_
      refine zf_iload hC dX4_atOnce_54 3 rfl ?_
      refine zf_iald hC (j := 23) ia_23 rfl rfl dX4_atOnce_56 (fun h11 => ?_)
      refine zf_iload_n hC dX4_atOnce_57 rfl 1 rfl ?_
      refine zf_callV hC (c_X4_suffices l g (gA k 23 (ix v4)) v1) mt_X4_suffices wd_732 sp_8 ci_3 ic_3 wd_730 rfl (rm_le hR rfl) rfl rfl (rest := []) rfl (Nat.le_of_ble_eq_true rfl) dX4_atOnce_58 (fun r12 k13 h14 => ?_)
      refine zf_ifb_eq hC (tgt := 81) dX4_atOnce_61 (by decide) (fun h15 => ?_) (fun h15 => ?_)
      · refine zf_lload_n hC dX4_atOnce_64 rfl 2 rfl ?_
        refine zf_lconst hC (v := 1) dX4_atOnce_65 rfl ?_
        refine zf_aload_n hC dX4_atOnce_66 rfl 0 rfl ?_
        refine gf_360 hC dX4_atOnce_67 ?_
        refine zf_aload_n hC dX4_atOnce_70 rfl 0 rfl ?_
        refine gf_364 hC dX4_atOnce_71 ?_
        refine zf_iload hC dX4_atOnce_74 3 rfl ?_
        refine zf_iald hC (j := 23) ia_23 rfl rfl dX4_atOnce_76 (fun h16 => ?_)
        refine zf_iald hC (j := 20) ia_20 rfl rfl dX4_atOnce_77 (fun h17 => ?_)
        refine zf_lshl hC dX4_atOnce_78 ?_
        refine zf_lor hC dX4_atOnce_79 ?_
        refine zf_nml (fun x18 => ?_)
        refine zf_lstore_n hC (LV' := [(2, .long x18), (0, .ref (g.2.1 3)), (1, .int v1), (4, .int v4)]) dX4_atOnce_80 rfl (by decide) rfl ?_
        refine zf_iinc hC (q := 3) (v := v4 + 1) (LV' := [(4, .int (v4 + 1)), (2, .long x18), (0, .ref (g.2.1 3)), (1, .int v1)]) dX4_atOnce_81 rfl rfl (by decide) rfl ?_
        refine zf_goto hC (tgt := 40) dX4_atOnce_84 (by decide) ?_
        refine zf_lv (LV' := [(0, .ref (g.2.1 3)), (1, .int v1), (2, .long x18), (4, .int (v4 + 1))]) [2, 3, 1, 0] rfl ?_
        exact ih x18 (v4 + 1) k13
      · refine zf_iinc hC (q := 3) (v := v4 + 1) (LV' := [(4, .int (v4 + 1)), (0, .ref (g.2.1 3)), (1, .int v1), (2, .long v2)]) dX4_atOnce_81 rfl rfl (by decide) rfl ?_
        refine zf_goto hC (tgt := 40) dX4_atOnce_84 (by decide) ?_
        refine zf_lv (LV' := [(0, .ref (g.2.1 3)), (1, .int v1), (2, .long v2), (4, .int (v4 + 1))]) [1, 2, 3, 0] rfl ?_
        exact ih v2 (v4 + 1) k13
def fX4_atOnce (k : ST) (a0 : Int32) : Option (Int64 × ST) := lpX4_atOnce_5 a0 FU 0 0 k fun y7 y8 k9 => lpX4_atOnce_40 a0 FU y7 0 k9 fun y19 y20 k21 => some (y19, k21)
set_option maxRecDepth 20000 in
theorem c_X4_atOnce (l : Launch) (g : GT) (a0 : Int32) : CN l yX4_atOnce cX4_atOnce 5 (some .long) { frames := 2, cells := 0, slots := 0, locals := 42 } g TK voL [.ref (g.2.1 3), .int a0] (fun k => fX4_atOnce k a0) := by
  refine cn_of (by decide) (Nat.le_of_ble_eq_true rfl) ?_
  intro p e s m args below meth c hC k
  have hC : HC p s m args meth c cX4_atOnce 5 RX4 (some .long) g := hC
  have hR : 2 ≤ ({ frames := 2, cells := 0, slots := 0, locals := 42 } : Room).frames ∧ 42 ≤ ({ frames := 2, cells := 0, slots := 0, locals := 42 } : Room).locals := ⟨Nat.le_refl _, Nat.le_refl _⟩
  show ZF p l e _ s m args below meth c g TK voL 5 k 0 [(0, .ref (g.2.1 3)), (1, .int a0)] [] (fX4_atOnce k a0)
  unfold fX4_atOnce
  refine zf_lconst hC (v := 0) dX4_atOnce_0 rfl ?_
  refine zf_lstore_n hC (LV' := [(2, .long 0), (0, .ref (g.2.1 3)), (1, .int a0)]) dX4_atOnce_1 rfl (by decide) rfl ?_
  refine zf_iconst hC (v := 0) dX4_atOnce_2 rfl ?_
  refine zf_istore hC (LV' := [(4, .int 0), (2, .long 0), (0, .ref (g.2.1 3)), (1, .int a0)]) dX4_atOnce_3 (by decide) rfl ?_
  refine zf_lv (LV' := [(0, .ref (g.2.1 3)), (1, .int a0), (2, .long 0), (4, .int 0)]) [2, 3, 1, 0] rfl ?_
  refine zlpX4_atOnce_5 hC hR a0 (fun y7 y8 k9 => ?_) FU 0 0 k
  refine zf_iconst hC (v := 0) dX4_atOnce_37 rfl ?_
  refine zf_istore hC (LV' := [(4, .int 0), (0, .ref (g.2.1 3)), (1, .int a0), (2, .long y7)]) dX4_atOnce_38 (by decide) rfl ?_
  refine zf_lv (LV' := [(0, .ref (g.2.1 3)), (1, .int a0), (2, .long y7), (4, .int 0)]) [1, 2, 3, 0] rfl ?_
  refine zlpX4_atOnce_40 hC hR a0 (fun y19 y20 k21 => ?_) FU y7 0 k9
  refine zf_lload_n hC dX4_atOnce_87 rfl 2 rfl ?_
  exact zf_lret hC rfl dX4_atOnce_88
/-! LifeKeys.Reach.onward -/
theorem dX4_onward_0 : decode cX4_onward 0 = .ok (.lload_n 1, 1) := by decide +kernel
theorem dX4_onward_1 : decode cX4_onward 1 = .ok (.lstore_n 3, 1) := by decide +kernel
theorem dX4_onward_2 : decode cX4_onward 2 = .ok (.lload_n 1, 1) := by decide +kernel
theorem dX4_onward_3 : decode cX4_onward 3 = .ok (.ldc2_w 111, 3) := by decide +kernel
theorem dX4_onward_6 : decode cX4_onward 6 = .ok (.lxor, 1) := by decide +kernel
theorem dX4_onward_7 : decode cX4_onward 7 = .ok (.lstore 5, 2) := by decide +kernel
theorem dX4_onward_9 : decode cX4_onward 9 = .ok (.iconst 0, 1) := by decide +kernel
theorem dX4_onward_10 : decode cX4_onward 10 = .ok (.istore 7, 2) := by decide +kernel
theorem dX4_onward_12 : decode cX4_onward 12 = .ok (.iload 7, 2) := by decide +kernel
theorem dX4_onward_14 : decode cX4_onward 14 = .ok (.bipush 40, 2) := by decide +kernel
theorem dX4_onward_16 : decode cX4_onward 16 = .ok (.if_icmp .gt 63, 3) := by decide +kernel
theorem dX4_onward_19 : decode cX4_onward 19 = .ok (.lload_n 3, 1) := by decide +kernel
theorem dX4_onward_20 : decode cX4_onward 20 = .ok (.lload 5, 2) := by decide +kernel
theorem dX4_onward_22 : decode cX4_onward 22 = .ok (.lcmp, 1) := by decide +kernel
theorem dX4_onward_23 : decode cX4_onward 23 = .ok (.ifCond .eq 56, 3) := by decide +kernel
theorem dX4_onward_26 : decode cX4_onward 26 = .ok (.lload_n 3, 1) := by decide +kernel
theorem dX4_onward_27 : decode cX4_onward 27 = .ok (.lstore 5, 2) := by decide +kernel
theorem dX4_onward_29 : decode cX4_onward 29 = .ok (.iconst 0, 1) := by decide +kernel
theorem dX4_onward_30 : decode cX4_onward 30 = .ok (.istore 8, 2) := by decide +kernel
theorem dX4_onward_32 : decode cX4_onward 32 = .ok (.iload 8, 2) := by decide +kernel
theorem dX4_onward_34 : decode cX4_onward 34 = .ok (.aload_n 0, 1) := by decide +kernel
theorem dX4_onward_35 : decode cX4_onward 35 = .ok (.getfield 48, 3) := by decide +kernel
theorem dX4_onward_38 : decode cX4_onward 38 = .ok (.if_icmp .ge 35, 3) := by decide +kernel
theorem dX4_onward_41 : decode cX4_onward 41 = .ok (.lload_n 3, 1) := by decide +kernel
theorem dX4_onward_42 : decode cX4_onward 42 = .ok (.aload_n 0, 1) := by decide +kernel
theorem dX4_onward_43 : decode cX4_onward 43 = .ok (.getfield 34, 3) := by decide +kernel
theorem dX4_onward_46 : decode cX4_onward 46 = .ok (.iload 8, 2) := by decide +kernel
theorem dX4_onward_48 : decode cX4_onward 48 = .ok (.iaload, 1) := by decide +kernel
theorem dX4_onward_49 : decode cX4_onward 49 = .ok (.invokestatic 113, 3) := by decide +kernel
theorem dX4_onward_52 : decode cX4_onward 52 = .ok (.ifCond .eq 15, 3) := by decide +kernel
theorem dX4_onward_55 : decode cX4_onward 55 = .ok (.lload_n 3, 1) := by decide +kernel
theorem dX4_onward_56 : decode cX4_onward 56 = .ok (.lconst 1, 1) := by decide +kernel
theorem dX4_onward_57 : decode cX4_onward 57 = .ok (.aload_n 0, 1) := by decide +kernel
theorem dX4_onward_58 : decode cX4_onward 58 = .ok (.getfield 37, 3) := by decide +kernel
theorem dX4_onward_61 : decode cX4_onward 61 = .ok (.iload 8, 2) := by decide +kernel
theorem dX4_onward_63 : decode cX4_onward 63 = .ok (.iaload, 1) := by decide +kernel
theorem dX4_onward_64 : decode cX4_onward 64 = .ok (.lshl, 1) := by decide +kernel
theorem dX4_onward_65 : decode cX4_onward 65 = .ok (.lor, 1) := by decide +kernel
theorem dX4_onward_66 : decode cX4_onward 66 = .ok (.lstore_n 3, 1) := by decide +kernel
theorem dX4_onward_67 : decode cX4_onward 67 = .ok (.iinc 8 1, 3) := by decide +kernel
theorem dX4_onward_70 : decode cX4_onward 70 = .ok (.goto (-38), 3) := by decide +kernel
theorem dX4_onward_73 : decode cX4_onward 73 = .ok (.iinc 7 1, 3) := by decide +kernel
theorem dX4_onward_76 : decode cX4_onward 76 = .ok (.goto (-64), 3) := by decide +kernel
theorem dX4_onward_79 : decode cX4_onward 79 = .ok (.lload_n 3, 1) := by decide +kernel
theorem dX4_onward_80 : decode cX4_onward 80 = .ok (.lreturn, 1) := by decide +kernel
def lpX4_onward_32 (v1 : Int64) (v5 : Int64) (v7 : Int32) : Nat → Int64 → Int32 → ST → (Int64 → Int32 → ST → Option (Int64 × ST)) → Option (Int64 × ST)
  | 0, _, _, _, _ => none
  | n + 1, v3, v8, k, cont => if (gI k 3 8) ≤ v8 then cont v3 v8 k else ck (inb v8 80) (ob (fX11_hasKey k v3 (gA k 24 (ix v8))) fun r5 k6 => if r5 = true then ck (inb v8 80) (nm (v3 ||| (j_lshl 1 (gA k6 25 (ix v8)))) fun x10 => lpX4_onward_32 v1 v5 v7 n x10 (v8 + 1) k6 cont) else lpX4_onward_32 v1 v5 v7 n v3 (v8 + 1) k6 cont)
def lpX4_onward_12 (v1 : Int64) : Nat → Int64 → Int64 → Int32 → ST → (Int64 → Int64 → Int32 → ST → Option (Int64 × ST)) → Option (Int64 × ST)
  | 0, _, _, _, _, _ => none
  | n + 1, v3, v5, v7, k, cont => if 40 < v7 then cont v3 v5 v7 k else if v3 = v5 then cont v3 v5 v7 k else lpX4_onward_32 v1 v3 v7 FU v3 0 k fun y11 y12 k13 => lpX4_onward_12 v1 n y11 v3 (v7 + 1) k13 cont
set_option maxRecDepth 20000 in
theorem zlpX4_onward_32 {p : Program} {l : Launch} {e : Env} {R : Room} {s : State} {m : MethodId} {args : Array Value} {below : List Frame} {meth : Method} {c : Code} {g : GT} (hC : HC p s m args meth c cX4_onward 9 RX4 (some .long) g) (hR : 1 ≤ R.frames ∧ 22 ≤ R.locals)  (v1 : Int64) (v5 : Int64) (v7 : Int32) {cont : Int64 → Int32 → ST → Option (Int64 × ST)} (hk : ∀ (v3 : Int64) (v8 : Int32) (k : ST), ZF p l e R s m args below meth c g TK voL 9 k 73 [(0, .ref (g.2.1 3)), (1, .long v1), (3, .long v3), (5, .long v5), (7, .int v7), (8, .int v8)] [] (cont v3 v8 k)) : ∀ (n : Nat) (v3 : Int64) (v8 : Int32) (k : ST), ZF p l e R s m args below meth c g TK voL 9 k 32 [(0, .ref (g.2.1 3)), (1, .long v1), (3, .long v3), (5, .long v5), (7, .int v7), (8, .int v8)] [] (lpX4_onward_32 v1 v5 v7 n v3 v8 k cont) := by
  intro n
  induction n with
  | zero => intros; exact zf_none
  | succ n ih =>
    intro v3 v8 k
    rw [lpX4_onward_32]
    refine zf_iload hC dX4_onward_32 5 rfl ?_
    refine zf_aload_n hC dX4_onward_34 rfl 0 rfl ?_
    refine gf_368 hC dX4_onward_35 ?_
    refine zf_icmp_ge hC (tgt := 73) dX4_onward_38 (by decide) (fun h3 => ?_) (fun h3 => ?_)
    · refine zf_lv (LV' := [(0, .ref (g.2.1 3)), (1, .long v1), (3, .long v3), (5, .long v5), (7, .int v7), (8, .int v8)]) [0, 1, 2, 3, 4, 5] rfl ?_
      exact hk v3 v8 k
    · refine zf_lload_n hC dX4_onward_41 rfl 2 rfl ?_
      refine zf_aload_n hC dX4_onward_42 rfl 0 rfl ?_
      refine gf_366 hC dX4_onward_43 ?_
      refine zf_iload hC dX4_onward_46 5 rfl ?_
      refine zf_iald hC (j := 24) ia_24 rfl rfl dX4_onward_48 (fun h4 => ?_)
      refine zf_callSN hC (c_X11_hasKey l g TK v3 (gA k 24 (ix v8))) mt_X11_hasKey wd_538 wd_740 rfl (rm_le hR rfl) rfl rfl (rest := []) rfl (Nat.le_of_ble_eq_true rfl) dX4_onward_49 (fun r5 k6 h7 => ?_)
      refine zf_ifb_eq hC (tgt := 67) dX4_onward_52 (by decide) (fun h8 => ?_) (fun h8 => ?_)
      · refine zf_lload_n hC dX4_onward_55 rfl 2 rfl ?_
        refine zf_lconst hC (v := 1) dX4_onward_56 rfl ?_
        refine zf_aload_n hC dX4_onward_57 rfl 0 rfl ?_
        refine gf_367 hC dX4_onward_58 ?_
        refine zf_iload hC dX4_onward_61 5 rfl ?_
        refine zf_iald hC (j := 25) ia_25 rfl rfl dX4_onward_63 (fun h9 => ?_)
        refine zf_lshl hC dX4_onward_64 ?_
        refine zf_lor hC dX4_onward_65 ?_
        refine zf_nml (fun x10 => ?_)
        refine zf_lstore_n hC (LV' := [(3, .long x10), (0, .ref (g.2.1 3)), (1, .long v1), (5, .long v5), (7, .int v7), (8, .int v8)]) dX4_onward_66 rfl (by decide) rfl ?_
        refine zf_iinc hC (q := 5) (v := v8 + 1) (LV' := [(8, .int (v8 + 1)), (3, .long x10), (0, .ref (g.2.1 3)), (1, .long v1), (5, .long v5), (7, .int v7)]) dX4_onward_67 rfl rfl (by decide) rfl ?_
        refine zf_goto hC (tgt := 32) dX4_onward_70 (by decide) ?_
        refine zf_lv (LV' := [(0, .ref (g.2.1 3)), (1, .long v1), (3, .long x10), (5, .long v5), (7, .int v7), (8, .int (v8 + 1))]) [2, 3, 1, 4, 5, 0] rfl ?_
        exact ih x10 (v8 + 1) k6
      · refine zf_iinc hC (q := 5) (v := v8 + 1) (LV' := [(8, .int (v8 + 1)), (0, .ref (g.2.1 3)), (1, .long v1), (3, .long v3), (5, .long v5), (7, .int v7)]) dX4_onward_67 rfl rfl (by decide) rfl ?_
        refine zf_goto hC (tgt := 32) dX4_onward_70 (by decide) ?_
        refine zf_lv (LV' := [(0, .ref (g.2.1 3)), (1, .long v1), (3, .long v3), (5, .long v5), (7, .int v7), (8, .int (v8 + 1))]) [1, 2, 3, 4, 5, 0] rfl ?_
        exact ih v3 (v8 + 1) k6
set_option maxRecDepth 20000 in
theorem zlpX4_onward_12 {p : Program} {l : Launch} {e : Env} {R : Room} {s : State} {m : MethodId} {args : Array Value} {below : List Frame} {meth : Method} {c : Code} {g : GT} (hC : HC p s m args meth c cX4_onward 9 RX4 (some .long) g) (hR : 1 ≤ R.frames ∧ 22 ≤ R.locals)  (v1 : Int64) {cont : Int64 → Int64 → Int32 → ST → Option (Int64 × ST)} (hk : ∀ (v3 : Int64) (v5 : Int64) (v7 : Int32) (k : ST), ZF p l e R s m args below meth c g TK voL 9 k 79 [(0, .ref (g.2.1 3)), (1, .long v1), (3, .long v3), (5, .long v5), (7, .int v7)] [] (cont v3 v5 v7 k)) : ∀ (n : Nat) (v3 : Int64) (v5 : Int64) (v7 : Int32) (k : ST), ZF p l e R s m args below meth c g TK voL 9 k 12 [(0, .ref (g.2.1 3)), (1, .long v1), (3, .long v3), (5, .long v5), (7, .int v7)] [] (lpX4_onward_12 v1 n v3 v5 v7 k cont) := by
  intro n
  induction n with
  | zero => intros; exact zf_none
  | succ n ih =>
    intro v3 v5 v7 k
    rw [lpX4_onward_12]
    refine zf_iload hC dX4_onward_12 4 rfl ?_
    refine zf_bipush hC (v := 40) dX4_onward_14 rfl ?_
    refine zf_icmp_gt hC (tgt := 79) dX4_onward_16 (by decide) (fun h1 => ?_) (fun h1 => ?_)
    · refine zf_lv (LV' := [(0, .ref (g.2.1 3)), (1, .long v1), (3, .long v3), (5, .long v5), (7, .int v7)]) [0, 1, 2, 3, 4] rfl ?_
      exact hk v3 v5 v7 k
    · refine zf_lload_n hC dX4_onward_19 rfl 2 rfl ?_
      refine zf_lload hC dX4_onward_20 3 rfl ?_
      refine zf_lcmp_eq hC (tgt := 79) dX4_onward_22 dX4_onward_23 (by decide) (fun h2 => ?_) (fun h2 => ?_)
      · refine zf_lv (LV' := [(0, .ref (g.2.1 3)), (1, .long v1), (3, .long v3), (5, .long v5), (7, .int v7)]) [0, 1, 2, 3, 4] rfl ?_
        exact hk v3 v5 v7 k
      · refine zf_lload_n hC dX4_onward_26 rfl 2 rfl ?_
        refine zf_lstore hC (LV' := [(5, .long v3), (0, .ref (g.2.1 3)), (1, .long v1), (3, .long v3), (7, .int v7)]) dX4_onward_27 (by decide) rfl ?_
        refine zf_iconst hC (v := 0) dX4_onward_29 rfl ?_
        refine zf_istore hC (LV' := [(8, .int 0), (5, .long v3), (0, .ref (g.2.1 3)), (1, .long v1), (3, .long v3), (7, .int v7)]) dX4_onward_30 (by decide) rfl ?_
        refine zf_lv (LV' := [(0, .ref (g.2.1 3)), (1, .long v1), (3, .long v3), (5, .long v3), (7, .int v7), (8, .int 0)]) [2, 3, 4, 1, 5, 0] rfl ?_
        refine zlpX4_onward_32 hC hR v1 v3 v7 (fun y11 y12 k13 => ?_) FU v3 0 k
        refine zf_iinc hC (q := 4) (v := v7 + 1) (LV' := [(7, .int (v7 + 1)), (0, .ref (g.2.1 3)), (1, .long v1), (3, .long y11), (5, .long v3), (8, .int y12)]) dX4_onward_73 rfl rfl (by decide) rfl ?_
        refine zf_goto hC (tgt := 12) dX4_onward_76 (by decide) ?_
        refine zf_lv (LV' := [(0, .ref (g.2.1 3)), (1, .long v1), (3, .long y11), (5, .long v3), (7, .int (v7 + 1))]) [1, 2, 3, 4, 0] rfl ?_
        exact ih y11 v3 (v7 + 1) k13
def fX4_onward (k : ST) (a0 : Int64) : Option (Int64 × ST) := lpX4_onward_12 a0 FU a0 (a0 ^^^ (-1)) 0 k fun y14 y15 y16 k17 => some (y14, k17)
set_option maxRecDepth 20000 in
theorem c_X4_onward (l : Launch) (g : GT) (a0 : Int64) : CN l yX4_onward cX4_onward 9 (some .long) { frames := 1, cells := 0, slots := 0, locals := 22 } g TK voL [.ref (g.2.1 3), .long a0] (fun k => fX4_onward k a0) := by
  refine cn_of (by decide) (Nat.le_of_ble_eq_true rfl) ?_
  intro p e s m args below meth c hC k
  have hC : HC p s m args meth c cX4_onward 9 RX4 (some .long) g := hC
  have hR : 1 ≤ ({ frames := 1, cells := 0, slots := 0, locals := 22 } : Room).frames ∧ 22 ≤ ({ frames := 1, cells := 0, slots := 0, locals := 22 } : Room).locals := ⟨Nat.le_refl _, Nat.le_refl _⟩
  show ZF p l e _ s m args below meth c g TK voL 9 k 0 [(0, .ref (g.2.1 3)), (1, .long a0)] [] (fX4_onward k a0)
  unfold fX4_onward
  refine zf_lload_n hC dX4_onward_0 rfl 1 rfl ?_
  refine zf_lstore_n hC (LV' := [(3, .long a0), (0, .ref (g.2.1 3)), (1, .long a0)]) dX4_onward_1 rfl (by decide) rfl ?_
  refine zf_lload_n hC dX4_onward_2 rfl 2 rfl ?_
  refine zf_ldc2 hC wd_739 dX4_onward_3 ?_
  refine zf_lxor hC dX4_onward_6 ?_
  refine zf_lstore hC (LV' := [(5, .long (a0 ^^^ (-1))), (3, .long a0), (0, .ref (g.2.1 3)), (1, .long a0)]) dX4_onward_7 (by decide) rfl ?_
  refine zf_iconst hC (v := 0) dX4_onward_9 rfl ?_
  refine zf_istore hC (LV' := [(7, .int 0), (5, .long (a0 ^^^ (-1))), (3, .long a0), (0, .ref (g.2.1 3)), (1, .long a0)]) dX4_onward_10 (by decide) rfl ?_
  refine zf_lv (LV' := [(0, .ref (g.2.1 3)), (1, .long a0), (3, .long a0), (5, .long (a0 ^^^ (-1))), (7, .int 0)]) [3, 4, 2, 1, 0] rfl ?_
  refine zlpX4_onward_12 hC hR a0 (fun y14 y15 y16 k17 => ?_) FU a0 (a0 ^^^ (-1)) 0 k
  refine zf_lload_n hC dX4_onward_79 rfl 2 rfl ?_
  exact zf_lret hC rfl dX4_onward_80
/-! LifeKeys.Reach.gets -/
theorem dX4_gets_0 : decode cX4_gets 0 = .ok (.aload_n 0, 1) := by decide +kernel
theorem dX4_gets_1 : decode cX4_gets 1 = .ok (.aload_n 0, 1) := by decide +kernel
theorem dX4_gets_2 : decode cX4_gets 2 = .ok (.iload_n 1, 1) := by decide +kernel
theorem dX4_gets_3 : decode cX4_gets 3 = .ok (.invokevirtual 91, 3) := by decide +kernel
theorem dX4_gets_6 : decode cX4_gets 6 = .ok (.invokevirtual 95, 3) := by decide +kernel
theorem dX4_gets_9 : decode cX4_gets 9 = .ok (.lreturn, 1) := by decide +kernel
def fX4_gets (k : ST) (a0 : Int32) : Option (Int64 × ST) := ob (fX4_atOnce k a0) fun r1 k2 => ob (fX4_onward k2 r1) fun r4 k5 => some (r4, k5)
set_option maxRecDepth 20000 in
theorem c_X4_gets (l : Launch) (g : GT) (a0 : Int32) : CN l yX4_gets cX4_gets 2 (some .long) { frames := 3, cells := 0, slots := 0, locals := 66 } g TK voL [.ref (g.2.1 3), .int a0] (fun k => fX4_gets k a0) := by
  refine cn_of (by decide) (Nat.le_of_ble_eq_true rfl) ?_
  intro p e s m args below meth c hC k
  have hC : HC p s m args meth c cX4_gets 2 RX4 (some .long) g := hC
  have hR : 3 ≤ ({ frames := 3, cells := 0, slots := 0, locals := 66 } : Room).frames ∧ 66 ≤ ({ frames := 3, cells := 0, slots := 0, locals := 66 } : Room).locals := ⟨Nat.le_refl _, Nat.le_refl _⟩
  show ZF p l e _ s m args below meth c g TK voL 2 k 0 [(0, .ref (g.2.1 3)), (1, .int a0)] [] (fX4_gets k a0)
  unfold fX4_gets
  refine zf_aload_n hC dX4_gets_0 rfl 0 rfl ?_
  refine zf_aload_n hC dX4_gets_1 rfl 0 rfl ?_
  refine zf_iload_n hC dX4_gets_2 rfl 1 rfl ?_
  refine zf_callV hC (c_X4_atOnce l g a0) mt_X4_atOnce wd_727 sp_7 ci_3 ic_3 wd_725 rfl (rm_le hR rfl) rfl rfl (rest := [.ref (g.2.1 3)]) rfl (Nat.le_of_ble_eq_true rfl) dX4_gets_3 (fun r1 k2 h3 => ?_)
  refine zf_callV hC (c_X4_onward l g r1) mt_X4_onward wd_737 sp_9 ci_3 ic_3 wd_735 rfl (rm_le hR rfl) rfl rfl (rest := []) rfl (Nat.le_of_ble_eq_true rfl) dX4_gets_6 (fun r4 k5 h6 => ?_)
  exact zf_lret hC rfl dX4_gets_9
/-! LifeKeys.Reach.sourcesOf -/
theorem dX4_sourcesOf_0 : decode cX4_sourcesOf 0 = .ok (.lconst 1, 1) := by decide +kernel
theorem dX4_sourcesOf_1 : decode cX4_sourcesOf 1 = .ok (.iload_n 1, 1) := by decide +kernel
theorem dX4_sourcesOf_2 : decode cX4_sourcesOf 2 = .ok (.lshl, 1) := by decide +kernel
theorem dX4_sourcesOf_3 : decode cX4_sourcesOf 3 = .ok (.lstore_n 2, 1) := by decide +kernel
theorem dX4_sourcesOf_4 : decode cX4_sourcesOf 4 = .ok (.lconst 0, 1) := by decide +kernel
theorem dX4_sourcesOf_5 : decode cX4_sourcesOf 5 = .ok (.lstore 4, 2) := by decide +kernel
theorem dX4_sourcesOf_7 : decode cX4_sourcesOf 7 = .ok (.iconst 0, 1) := by decide +kernel
theorem dX4_sourcesOf_8 : decode cX4_sourcesOf 8 = .ok (.istore 6, 2) := by decide +kernel
theorem dX4_sourcesOf_10 : decode cX4_sourcesOf 10 = .ok (.iload 6, 2) := by decide +kernel
theorem dX4_sourcesOf_12 : decode cX4_sourcesOf 12 = .ok (.bipush 40, 2) := by decide +kernel
theorem dX4_sourcesOf_14 : decode cX4_sourcesOf 14 = .ok (.if_icmp .gt 63, 3) := by decide +kernel
theorem dX4_sourcesOf_17 : decode cX4_sourcesOf 17 = .ok (.lload_n 2, 1) := by decide +kernel
theorem dX4_sourcesOf_18 : decode cX4_sourcesOf 18 = .ok (.lload 4, 2) := by decide +kernel
theorem dX4_sourcesOf_20 : decode cX4_sourcesOf 20 = .ok (.lcmp, 1) := by decide +kernel
theorem dX4_sourcesOf_21 : decode cX4_sourcesOf 21 = .ok (.ifCond .eq 56, 3) := by decide +kernel
theorem dX4_sourcesOf_24 : decode cX4_sourcesOf 24 = .ok (.lload_n 2, 1) := by decide +kernel
theorem dX4_sourcesOf_25 : decode cX4_sourcesOf 25 = .ok (.lstore 4, 2) := by decide +kernel
theorem dX4_sourcesOf_27 : decode cX4_sourcesOf 27 = .ok (.iconst 0, 1) := by decide +kernel
theorem dX4_sourcesOf_28 : decode cX4_sourcesOf 28 = .ok (.istore 7, 2) := by decide +kernel
theorem dX4_sourcesOf_30 : decode cX4_sourcesOf 30 = .ok (.iload 7, 2) := by decide +kernel
theorem dX4_sourcesOf_32 : decode cX4_sourcesOf 32 = .ok (.aload_n 0, 1) := by decide +kernel
theorem dX4_sourcesOf_33 : decode cX4_sourcesOf 33 = .ok (.getfield 48, 3) := by decide +kernel
theorem dX4_sourcesOf_36 : decode cX4_sourcesOf 36 = .ok (.if_icmp .ge 35, 3) := by decide +kernel
theorem dX4_sourcesOf_39 : decode cX4_sourcesOf 39 = .ok (.lload_n 2, 1) := by decide +kernel
theorem dX4_sourcesOf_40 : decode cX4_sourcesOf 40 = .ok (.aload_n 0, 1) := by decide +kernel
theorem dX4_sourcesOf_41 : decode cX4_sourcesOf 41 = .ok (.getfield 37, 3) := by decide +kernel
theorem dX4_sourcesOf_44 : decode cX4_sourcesOf 44 = .ok (.iload 7, 2) := by decide +kernel
theorem dX4_sourcesOf_46 : decode cX4_sourcesOf 46 = .ok (.iaload, 1) := by decide +kernel
theorem dX4_sourcesOf_47 : decode cX4_sourcesOf 47 = .ok (.invokestatic 113, 3) := by decide +kernel
theorem dX4_sourcesOf_50 : decode cX4_sourcesOf 50 = .ok (.ifCond .eq 15, 3) := by decide +kernel
theorem dX4_sourcesOf_53 : decode cX4_sourcesOf 53 = .ok (.lload_n 2, 1) := by decide +kernel
theorem dX4_sourcesOf_54 : decode cX4_sourcesOf 54 = .ok (.lconst 1, 1) := by decide +kernel
theorem dX4_sourcesOf_55 : decode cX4_sourcesOf 55 = .ok (.aload_n 0, 1) := by decide +kernel
theorem dX4_sourcesOf_56 : decode cX4_sourcesOf 56 = .ok (.getfield 34, 3) := by decide +kernel
theorem dX4_sourcesOf_59 : decode cX4_sourcesOf 59 = .ok (.iload 7, 2) := by decide +kernel
theorem dX4_sourcesOf_61 : decode cX4_sourcesOf 61 = .ok (.iaload, 1) := by decide +kernel
theorem dX4_sourcesOf_62 : decode cX4_sourcesOf 62 = .ok (.lshl, 1) := by decide +kernel
theorem dX4_sourcesOf_63 : decode cX4_sourcesOf 63 = .ok (.lor, 1) := by decide +kernel
theorem dX4_sourcesOf_64 : decode cX4_sourcesOf 64 = .ok (.lstore_n 2, 1) := by decide +kernel
theorem dX4_sourcesOf_65 : decode cX4_sourcesOf 65 = .ok (.iinc 7 1, 3) := by decide +kernel
theorem dX4_sourcesOf_68 : decode cX4_sourcesOf 68 = .ok (.goto (-38), 3) := by decide +kernel
theorem dX4_sourcesOf_71 : decode cX4_sourcesOf 71 = .ok (.iinc 6 1, 3) := by decide +kernel
theorem dX4_sourcesOf_74 : decode cX4_sourcesOf 74 = .ok (.goto (-64), 3) := by decide +kernel
theorem dX4_sourcesOf_77 : decode cX4_sourcesOf 77 = .ok (.lload_n 2, 1) := by decide +kernel
theorem dX4_sourcesOf_78 : decode cX4_sourcesOf 78 = .ok (.lreturn, 1) := by decide +kernel
def lpX4_sourcesOf_30 (v1 : Int32) (v4 : Int64) (v6 : Int32) : Nat → Int64 → Int32 → ST → (Int64 → Int32 → ST → Option (Int64 × ST)) → Option (Int64 × ST)
  | 0, _, _, _, _ => none
  | n + 1, v2, v7, k, cont => if (gI k 3 8) ≤ v7 then cont v2 v7 k else ck (inb v7 80) (ob (fX11_hasKey k v2 (gA k 25 (ix v7))) fun r5 k6 => if r5 = true then ck (inb v7 80) (nm (v2 ||| (j_lshl 1 (gA k6 24 (ix v7)))) fun x10 => lpX4_sourcesOf_30 v1 v4 v6 n x10 (v7 + 1) k6 cont) else lpX4_sourcesOf_30 v1 v4 v6 n v2 (v7 + 1) k6 cont)
def lpX4_sourcesOf_10 (v1 : Int32) : Nat → Int64 → Int64 → Int32 → ST → (Int64 → Int64 → Int32 → ST → Option (Int64 × ST)) → Option (Int64 × ST)
  | 0, _, _, _, _, _ => none
  | n + 1, v2, v4, v6, k, cont => if 40 < v6 then cont v2 v4 v6 k else if v2 = v4 then cont v2 v4 v6 k else lpX4_sourcesOf_30 v1 v2 v6 FU v2 0 k fun y11 y12 k13 => lpX4_sourcesOf_10 v1 n y11 v2 (v6 + 1) k13 cont
set_option maxRecDepth 20000 in
theorem zlpX4_sourcesOf_30 {p : Program} {l : Launch} {e : Env} {R : Room} {s : State} {m : MethodId} {args : Array Value} {below : List Frame} {meth : Method} {c : Code} {g : GT} (hC : HC p s m args meth c cX4_sourcesOf 8 RX4 (some .long) g) (hR : 1 ≤ R.frames ∧ 22 ≤ R.locals)  (v1 : Int32) (v4 : Int64) (v6 : Int32) {cont : Int64 → Int32 → ST → Option (Int64 × ST)} (hk : ∀ (v2 : Int64) (v7 : Int32) (k : ST), ZF p l e R s m args below meth c g TK voL 8 k 71 [(0, .ref (g.2.1 3)), (1, .int v1), (2, .long v2), (4, .long v4), (6, .int v6), (7, .int v7)] [] (cont v2 v7 k)) : ∀ (n : Nat) (v2 : Int64) (v7 : Int32) (k : ST), ZF p l e R s m args below meth c g TK voL 8 k 30 [(0, .ref (g.2.1 3)), (1, .int v1), (2, .long v2), (4, .long v4), (6, .int v6), (7, .int v7)] [] (lpX4_sourcesOf_30 v1 v4 v6 n v2 v7 k cont) := by
  intro n
  induction n with
  | zero => intros; exact zf_none
  | succ n ih =>
    intro v2 v7 k
    rw [lpX4_sourcesOf_30]
    refine zf_iload hC dX4_sourcesOf_30 5 rfl ?_
    refine zf_aload_n hC dX4_sourcesOf_32 rfl 0 rfl ?_
    refine gf_368 hC dX4_sourcesOf_33 ?_
    refine zf_icmp_ge hC (tgt := 71) dX4_sourcesOf_36 (by decide) (fun h3 => ?_) (fun h3 => ?_)
    · refine zf_lv (LV' := [(0, .ref (g.2.1 3)), (1, .int v1), (2, .long v2), (4, .long v4), (6, .int v6), (7, .int v7)]) [0, 1, 2, 3, 4, 5] rfl ?_
      exact hk v2 v7 k
    · refine zf_lload_n hC dX4_sourcesOf_39 rfl 2 rfl ?_
      refine zf_aload_n hC dX4_sourcesOf_40 rfl 0 rfl ?_
      refine gf_367 hC dX4_sourcesOf_41 ?_
      refine zf_iload hC dX4_sourcesOf_44 5 rfl ?_
      refine zf_iald hC (j := 25) ia_25 rfl rfl dX4_sourcesOf_46 (fun h4 => ?_)
      refine zf_callSN hC (c_X11_hasKey l g TK v2 (gA k 25 (ix v7))) mt_X11_hasKey wd_538 wd_740 rfl (rm_le hR rfl) rfl rfl (rest := []) rfl (Nat.le_of_ble_eq_true rfl) dX4_sourcesOf_47 (fun r5 k6 h7 => ?_)
      refine zf_ifb_eq hC (tgt := 65) dX4_sourcesOf_50 (by decide) (fun h8 => ?_) (fun h8 => ?_)
      · refine zf_lload_n hC dX4_sourcesOf_53 rfl 2 rfl ?_
        refine zf_lconst hC (v := 1) dX4_sourcesOf_54 rfl ?_
        refine zf_aload_n hC dX4_sourcesOf_55 rfl 0 rfl ?_
        refine gf_366 hC dX4_sourcesOf_56 ?_
        refine zf_iload hC dX4_sourcesOf_59 5 rfl ?_
        refine zf_iald hC (j := 24) ia_24 rfl rfl dX4_sourcesOf_61 (fun h9 => ?_)
        refine zf_lshl hC dX4_sourcesOf_62 ?_
        refine zf_lor hC dX4_sourcesOf_63 ?_
        refine zf_nml (fun x10 => ?_)
        refine zf_lstore_n hC (LV' := [(2, .long x10), (0, .ref (g.2.1 3)), (1, .int v1), (4, .long v4), (6, .int v6), (7, .int v7)]) dX4_sourcesOf_64 rfl (by decide) rfl ?_
        refine zf_iinc hC (q := 5) (v := v7 + 1) (LV' := [(7, .int (v7 + 1)), (2, .long x10), (0, .ref (g.2.1 3)), (1, .int v1), (4, .long v4), (6, .int v6)]) dX4_sourcesOf_65 rfl rfl (by decide) rfl ?_
        refine zf_goto hC (tgt := 30) dX4_sourcesOf_68 (by decide) ?_
        refine zf_lv (LV' := [(0, .ref (g.2.1 3)), (1, .int v1), (2, .long x10), (4, .long v4), (6, .int v6), (7, .int (v7 + 1))]) [2, 3, 1, 4, 5, 0] rfl ?_
        exact ih x10 (v7 + 1) k6
      · refine zf_iinc hC (q := 5) (v := v7 + 1) (LV' := [(7, .int (v7 + 1)), (0, .ref (g.2.1 3)), (1, .int v1), (2, .long v2), (4, .long v4), (6, .int v6)]) dX4_sourcesOf_65 rfl rfl (by decide) rfl ?_
        refine zf_goto hC (tgt := 30) dX4_sourcesOf_68 (by decide) ?_
        refine zf_lv (LV' := [(0, .ref (g.2.1 3)), (1, .int v1), (2, .long v2), (4, .long v4), (6, .int v6), (7, .int (v7 + 1))]) [1, 2, 3, 4, 5, 0] rfl ?_
        exact ih v2 (v7 + 1) k6
set_option maxRecDepth 20000 in
theorem zlpX4_sourcesOf_10 {p : Program} {l : Launch} {e : Env} {R : Room} {s : State} {m : MethodId} {args : Array Value} {below : List Frame} {meth : Method} {c : Code} {g : GT} (hC : HC p s m args meth c cX4_sourcesOf 8 RX4 (some .long) g) (hR : 1 ≤ R.frames ∧ 22 ≤ R.locals)  (v1 : Int32) {cont : Int64 → Int64 → Int32 → ST → Option (Int64 × ST)} (hk : ∀ (v2 : Int64) (v4 : Int64) (v6 : Int32) (k : ST), ZF p l e R s m args below meth c g TK voL 8 k 77 [(0, .ref (g.2.1 3)), (1, .int v1), (2, .long v2), (4, .long v4), (6, .int v6)] [] (cont v2 v4 v6 k)) : ∀ (n : Nat) (v2 : Int64) (v4 : Int64) (v6 : Int32) (k : ST), ZF p l e R s m args below meth c g TK voL 8 k 10 [(0, .ref (g.2.1 3)), (1, .int v1), (2, .long v2), (4, .long v4), (6, .int v6)] [] (lpX4_sourcesOf_10 v1 n v2 v4 v6 k cont) := by
  intro n
  induction n with
  | zero => intros; exact zf_none
  | succ n ih =>
    intro v2 v4 v6 k
    rw [lpX4_sourcesOf_10]
    refine zf_iload hC dX4_sourcesOf_10 4 rfl ?_
    refine zf_bipush hC (v := 40) dX4_sourcesOf_12 rfl ?_
    refine zf_icmp_gt hC (tgt := 77) dX4_sourcesOf_14 (by decide) (fun h1 => ?_) (fun h1 => ?_)
    · refine zf_lv (LV' := [(0, .ref (g.2.1 3)), (1, .int v1), (2, .long v2), (4, .long v4), (6, .int v6)]) [0, 1, 2, 3, 4] rfl ?_
      exact hk v2 v4 v6 k
    · refine zf_lload_n hC dX4_sourcesOf_17 rfl 2 rfl ?_
      refine zf_lload hC dX4_sourcesOf_18 3 rfl ?_
      refine zf_lcmp_eq hC (tgt := 77) dX4_sourcesOf_20 dX4_sourcesOf_21 (by decide) (fun h2 => ?_) (fun h2 => ?_)
      · refine zf_lv (LV' := [(0, .ref (g.2.1 3)), (1, .int v1), (2, .long v2), (4, .long v4), (6, .int v6)]) [0, 1, 2, 3, 4] rfl ?_
        exact hk v2 v4 v6 k
      · refine zf_lload_n hC dX4_sourcesOf_24 rfl 2 rfl ?_
        refine zf_lstore hC (LV' := [(4, .long v2), (0, .ref (g.2.1 3)), (1, .int v1), (2, .long v2), (6, .int v6)]) dX4_sourcesOf_25 (by decide) rfl ?_
        refine zf_iconst hC (v := 0) dX4_sourcesOf_27 rfl ?_
        refine zf_istore hC (LV' := [(7, .int 0), (4, .long v2), (0, .ref (g.2.1 3)), (1, .int v1), (2, .long v2), (6, .int v6)]) dX4_sourcesOf_28 (by decide) rfl ?_
        refine zf_lv (LV' := [(0, .ref (g.2.1 3)), (1, .int v1), (2, .long v2), (4, .long v2), (6, .int v6), (7, .int 0)]) [2, 3, 4, 1, 5, 0] rfl ?_
        refine zlpX4_sourcesOf_30 hC hR v1 v2 v6 (fun y11 y12 k13 => ?_) FU v2 0 k
        refine zf_iinc hC (q := 4) (v := v6 + 1) (LV' := [(6, .int (v6 + 1)), (0, .ref (g.2.1 3)), (1, .int v1), (2, .long y11), (4, .long v2), (7, .int y12)]) dX4_sourcesOf_71 rfl rfl (by decide) rfl ?_
        refine zf_goto hC (tgt := 10) dX4_sourcesOf_74 (by decide) ?_
        refine zf_lv (LV' := [(0, .ref (g.2.1 3)), (1, .int v1), (2, .long y11), (4, .long v2), (6, .int (v6 + 1))]) [1, 2, 3, 4, 0] rfl ?_
        exact ih y11 v2 (v6 + 1) k13
def fX4_sourcesOf (k : ST) (a0 : Int32) : Option (Int64 × ST) := lpX4_sourcesOf_10 a0 FU (j_lshl 1 a0) 0 0 k fun y14 y15 y16 k17 => some (y14, k17)
set_option maxRecDepth 20000 in
theorem c_X4_sourcesOf (l : Launch) (g : GT) (a0 : Int32) : CN l yX4_sourcesOf cX4_sourcesOf 8 (some .long) { frames := 1, cells := 0, slots := 0, locals := 22 } g TK voL [.ref (g.2.1 3), .int a0] (fun k => fX4_sourcesOf k a0) := by
  refine cn_of (by decide) (Nat.le_of_ble_eq_true rfl) ?_
  intro p e s m args below meth c hC k
  have hC : HC p s m args meth c cX4_sourcesOf 8 RX4 (some .long) g := hC
  have hR : 1 ≤ ({ frames := 1, cells := 0, slots := 0, locals := 22 } : Room).frames ∧ 22 ≤ ({ frames := 1, cells := 0, slots := 0, locals := 22 } : Room).locals := ⟨Nat.le_refl _, Nat.le_refl _⟩
  show ZF p l e _ s m args below meth c g TK voL 8 k 0 [(0, .ref (g.2.1 3)), (1, .int a0)] [] (fX4_sourcesOf k a0)
  unfold fX4_sourcesOf
  refine zf_lconst hC (v := 1) dX4_sourcesOf_0 rfl ?_
  refine zf_iload_n hC dX4_sourcesOf_1 rfl 1 rfl ?_
  refine zf_lshl hC dX4_sourcesOf_2 ?_
  refine zf_lstore_n hC (LV' := [(2, .long (j_lshl 1 a0)), (0, .ref (g.2.1 3)), (1, .int a0)]) dX4_sourcesOf_3 rfl (by decide) rfl ?_
  refine zf_lconst hC (v := 0) dX4_sourcesOf_4 rfl ?_
  refine zf_lstore hC (LV' := [(4, .long 0), (2, .long (j_lshl 1 a0)), (0, .ref (g.2.1 3)), (1, .int a0)]) dX4_sourcesOf_5 (by decide) rfl ?_
  refine zf_iconst hC (v := 0) dX4_sourcesOf_7 rfl ?_
  refine zf_istore hC (LV' := [(6, .int 0), (4, .long 0), (2, .long (j_lshl 1 a0)), (0, .ref (g.2.1 3)), (1, .int a0)]) dX4_sourcesOf_8 (by decide) rfl ?_
  refine zf_lv (LV' := [(0, .ref (g.2.1 3)), (1, .int a0), (2, .long (j_lshl 1 a0)), (4, .long 0), (6, .int 0)]) [3, 4, 2, 1, 0] rfl ?_
  refine zlpX4_sourcesOf_10 hC hR a0 (fun y14 y15 y16 k17 => ?_) FU (j_lshl 1 a0) 0 0 k
  refine zf_lload_n hC dX4_sourcesOf_77 rfl 2 rfl ?_
  exact zf_lret hC rfl dX4_sourcesOf_78
/-! LifeKeys.Reach.holdersOfAny -/
theorem dX4_holdersOfAny_0 : decode cX4_holdersOfAny 0 = .ok (.iconst 0, 1) := by decide +kernel
theorem dX4_holdersOfAny_1 : decode cX4_holdersOfAny 1 = .ok (.istore_n 3, 1) := by decide +kernel
theorem dX4_holdersOfAny_2 : decode cX4_holdersOfAny 2 = .ok (.iconst 0, 1) := by decide +kernel
theorem dX4_holdersOfAny_3 : decode cX4_holdersOfAny 3 = .ok (.istore 4, 2) := by decide +kernel
theorem dX4_holdersOfAny_5 : decode cX4_holdersOfAny 5 = .ok (.iload 4, 2) := by decide +kernel
theorem dX4_holdersOfAny_7 : decode cX4_holdersOfAny 7 = .ok (.bipush 12, 2) := by decide +kernel
theorem dX4_holdersOfAny_9 : decode cX4_holdersOfAny 9 = .ok (.if_icmp .ge 30, 3) := by decide +kernel
theorem dX4_holdersOfAny_12 : decode cX4_holdersOfAny 12 = .ok (.aload_n 0, 1) := by decide +kernel
theorem dX4_holdersOfAny_13 : decode cX4_holdersOfAny 13 = .ok (.getfield 13, 3) := by decide +kernel
theorem dX4_holdersOfAny_16 : decode cX4_holdersOfAny 16 = .ok (.iload 4, 2) := by decide +kernel
theorem dX4_holdersOfAny_18 : decode cX4_holdersOfAny 18 = .ok (.laload, 1) := by decide +kernel
theorem dX4_holdersOfAny_19 : decode cX4_holdersOfAny 19 = .ok (.lload_n 1, 1) := by decide +kernel
theorem dX4_holdersOfAny_20 : decode cX4_holdersOfAny 20 = .ok (.land, 1) := by decide +kernel
theorem dX4_holdersOfAny_21 : decode cX4_holdersOfAny 21 = .ok (.lconst 0, 1) := by decide +kernel
theorem dX4_holdersOfAny_22 : decode cX4_holdersOfAny 22 = .ok (.lcmp, 1) := by decide +kernel
theorem dX4_holdersOfAny_23 : decode cX4_holdersOfAny 23 = .ok (.ifCond .eq 10, 3) := by decide +kernel
theorem dX4_holdersOfAny_26 : decode cX4_holdersOfAny 26 = .ok (.iload_n 3, 1) := by decide +kernel
theorem dX4_holdersOfAny_27 : decode cX4_holdersOfAny 27 = .ok (.iconst 1, 1) := by decide +kernel
theorem dX4_holdersOfAny_28 : decode cX4_holdersOfAny 28 = .ok (.iload 4, 2) := by decide +kernel
theorem dX4_holdersOfAny_30 : decode cX4_holdersOfAny 30 = .ok (.ishl, 1) := by decide +kernel
theorem dX4_holdersOfAny_31 : decode cX4_holdersOfAny 31 = .ok (.ior, 1) := by decide +kernel
theorem dX4_holdersOfAny_32 : decode cX4_holdersOfAny 32 = .ok (.istore_n 3, 1) := by decide +kernel
theorem dX4_holdersOfAny_33 : decode cX4_holdersOfAny 33 = .ok (.iinc 4 1, 3) := by decide +kernel
theorem dX4_holdersOfAny_36 : decode cX4_holdersOfAny 36 = .ok (.goto (-31), 3) := by decide +kernel
theorem dX4_holdersOfAny_39 : decode cX4_holdersOfAny 39 = .ok (.iload_n 3, 1) := by decide +kernel
theorem dX4_holdersOfAny_40 : decode cX4_holdersOfAny 40 = .ok (.ireturn, 1) := by decide +kernel
def lpX4_holdersOfAny_5 (v1 : Int64) : Nat → Int32 → Int32 → ST → (Int32 → Int32 → ST → Option (Int32 × ST)) → Option (Int32 × ST)
  | 0, _, _, _, _ => none
  | n + 1, v3, v4, k, cont => if 12 ≤ v4 then cont v3 v4 k else ck (inb v4 12) (if ((gL k 19 (ix v4)) &&& v1) = 0 then lpX4_holdersOfAny_5 v1 n v3 (v4 + 1) k cont else lpX4_holdersOfAny_5 v1 n (v3 ||| (j_shl 1 v4)) (v4 + 1) k cont)
set_option maxRecDepth 20000 in
theorem zlpX4_holdersOfAny_5 {p : Program} {l : Launch} {e : Env} {R : Room} {s : State} {m : MethodId} {args : Array Value} {below : List Frame} {meth : Method} {c : Code} {g : GT} (hC : HC p s m args meth c cX4_holdersOfAny 5 RX4 (some .int) g) (hR : 0 ≤ R.frames ∧ 0 ≤ R.locals)  (v1 : Int64) {cont : Int32 → Int32 → ST → Option (Int32 × ST)} (hk : ∀ (v3 : Int32) (v4 : Int32) (k : ST), ZF p l e R s m args below meth c g TK voI 5 k 39 [(0, .ref (g.2.1 3)), (1, .long v1), (3, .int v3), (4, .int v4)] [] (cont v3 v4 k)) : ∀ (n : Nat) (v3 : Int32) (v4 : Int32) (k : ST), ZF p l e R s m args below meth c g TK voI 5 k 5 [(0, .ref (g.2.1 3)), (1, .long v1), (3, .int v3), (4, .int v4)] [] (lpX4_holdersOfAny_5 v1 n v3 v4 k cont) := by
  intro n
  induction n with
  | zero => intros; exact zf_none
  | succ n ih =>
    intro v3 v4 k
    rw [lpX4_holdersOfAny_5]
    refine zf_iload hC dX4_holdersOfAny_5 3 rfl ?_
    refine zf_bipush hC (v := 12) dX4_holdersOfAny_7 rfl ?_
    refine zf_icmp_ge hC (tgt := 39) dX4_holdersOfAny_9 (by decide) (fun h1 => ?_) (fun h1 => ?_)
    · refine zf_lv (LV' := [(0, .ref (g.2.1 3)), (1, .long v1), (3, .int v3), (4, .int v4)]) [0, 1, 2, 3] rfl ?_
      exact hk v3 v4 k
    · refine zf_aload_n hC dX4_holdersOfAny_12 rfl 0 rfl ?_
      refine gf_359 hC dX4_holdersOfAny_13 ?_
      refine zf_iload hC dX4_holdersOfAny_16 3 rfl ?_
      refine zf_lald hC (j := 19) ia_19 rfl rfl dX4_holdersOfAny_18 (fun h2 => ?_)
      refine zf_lload_n hC dX4_holdersOfAny_19 rfl 1 rfl ?_
      refine zf_land hC dX4_holdersOfAny_20 ?_
      refine zf_lconst hC (v := 0) dX4_holdersOfAny_21 rfl ?_
      refine zf_lcmp_eq hC (tgt := 33) dX4_holdersOfAny_22 dX4_holdersOfAny_23 (by decide) (fun h3 => ?_) (fun h3 => ?_)
      · refine zf_iinc hC (q := 3) (v := v4 + 1) (LV' := [(4, .int (v4 + 1)), (0, .ref (g.2.1 3)), (1, .long v1), (3, .int v3)]) dX4_holdersOfAny_33 rfl rfl (by decide) rfl ?_
        refine zf_goto hC (tgt := 5) dX4_holdersOfAny_36 (by decide) ?_
        refine zf_lv (LV' := [(0, .ref (g.2.1 3)), (1, .long v1), (3, .int v3), (4, .int (v4 + 1))]) [1, 2, 3, 0] rfl ?_
        exact ih v3 (v4 + 1) k
      · refine zf_iload_n hC dX4_holdersOfAny_26 rfl 2 rfl ?_
        refine zf_iconst hC (v := 1) dX4_holdersOfAny_27 rfl ?_
        refine zf_iload hC dX4_holdersOfAny_28 3 rfl ?_
        refine zf_ishl hC dX4_holdersOfAny_30 ?_
        refine zf_ior hC dX4_holdersOfAny_31 ?_
        refine zf_istore_n hC (LV' := [(3, .int (v3 ||| (j_shl 1 v4))), (0, .ref (g.2.1 3)), (1, .long v1), (4, .int v4)]) dX4_holdersOfAny_32 rfl (by decide) rfl ?_
        refine zf_iinc hC (q := 3) (v := v4 + 1) (LV' := [(4, .int (v4 + 1)), (3, .int (v3 ||| (j_shl 1 v4))), (0, .ref (g.2.1 3)), (1, .long v1)]) dX4_holdersOfAny_33 rfl rfl (by decide) rfl ?_
        refine zf_goto hC (tgt := 5) dX4_holdersOfAny_36 (by decide) ?_
        refine zf_lv (LV' := [(0, .ref (g.2.1 3)), (1, .long v1), (3, .int (v3 ||| (j_shl 1 v4))), (4, .int (v4 + 1))]) [2, 3, 1, 0] rfl ?_
        exact ih (v3 ||| (j_shl 1 v4)) (v4 + 1) k
def fX4_holdersOfAny (k : ST) (a0 : Int64) : Option (Int32 × ST) := lpX4_holdersOfAny_5 a0 FU 0 0 k fun y4 y5 k6 => some (y4, k6)
set_option maxRecDepth 20000 in
theorem c_X4_holdersOfAny (l : Launch) (g : GT) (a0 : Int64) : CN l yX4_holdersOfAny cX4_holdersOfAny 5 (some .int) { frames := 0, cells := 0, slots := 0, locals := 0 } g TK voI [.ref (g.2.1 3), .long a0] (fun k => fX4_holdersOfAny k a0) := by
  refine cn_of (by decide) (Nat.le_of_ble_eq_true rfl) ?_
  intro p e s m args below meth c hC k
  have hC : HC p s m args meth c cX4_holdersOfAny 5 RX4 (some .int) g := hC
  have hR : 0 ≤ ({ frames := 0, cells := 0, slots := 0, locals := 0 } : Room).frames ∧ 0 ≤ ({ frames := 0, cells := 0, slots := 0, locals := 0 } : Room).locals := ⟨Nat.le_refl _, Nat.le_refl _⟩
  show ZF p l e _ s m args below meth c g TK voI 5 k 0 [(0, .ref (g.2.1 3)), (1, .long a0)] [] (fX4_holdersOfAny k a0)
  unfold fX4_holdersOfAny
  refine zf_iconst hC (v := 0) dX4_holdersOfAny_0 rfl ?_
  refine zf_istore_n hC (LV' := [(3, .int 0), (0, .ref (g.2.1 3)), (1, .long a0)]) dX4_holdersOfAny_1 rfl (by decide) rfl ?_
  refine zf_iconst hC (v := 0) dX4_holdersOfAny_2 rfl ?_
  refine zf_istore hC (LV' := [(4, .int 0), (3, .int 0), (0, .ref (g.2.1 3)), (1, .long a0)]) dX4_holdersOfAny_3 (by decide) rfl ?_
  refine zf_lv (LV' := [(0, .ref (g.2.1 3)), (1, .long a0), (3, .int 0), (4, .int 0)]) [2, 3, 1, 0] rfl ?_
  refine zlpX4_holdersOfAny_5 hC hR a0 (fun y4 y5 k6 => ?_) FU 0 0 k
  refine zf_iload_n hC dX4_holdersOfAny_39 rfl 2 rfl ?_
  exact zf_iret hC rfl dX4_holdersOfAny_40
/-! LifeKeys.Reach.keepLive -/
theorem dX4_keepLive_0 : decode cX4_keepLive 0 = .ok (.iconst 0, 1) := by decide +kernel
theorem dX4_keepLive_1 : decode cX4_keepLive 1 = .ok (.istore_n 3, 1) := by decide +kernel
theorem dX4_keepLive_2 : decode cX4_keepLive 2 = .ok (.iconst 0, 1) := by decide +kernel
theorem dX4_keepLive_3 : decode cX4_keepLive 3 = .ok (.istore 4, 2) := by decide +kernel
theorem dX4_keepLive_5 : decode cX4_keepLive 5 = .ok (.iload 4, 2) := by decide +kernel
theorem dX4_keepLive_7 : decode cX4_keepLive 7 = .ok (.aload_n 0, 1) := by decide +kernel
theorem dX4_keepLive_8 : decode cX4_keepLive 8 = .ok (.getfield 81, 3) := by decide +kernel
theorem dX4_keepLive_11 : decode cX4_keepLive 11 = .ok (.if_icmp .ge 44, 3) := by decide +kernel
theorem dX4_keepLive_14 : decode cX4_keepLive 14 = .ok (.lload_n 1, 1) := by decide +kernel
theorem dX4_keepLive_15 : decode cX4_keepLive 15 = .ok (.aload_n 0, 1) := by decide +kernel
theorem dX4_keepLive_16 : decode cX4_keepLive 16 = .ok (.getfield 21, 3) := by decide +kernel
theorem dX4_keepLive_19 : decode cX4_keepLive 19 = .ok (.aload_n 0, 1) := by decide +kernel
theorem dX4_keepLive_20 : decode cX4_keepLive 20 = .ok (.getfield 31, 3) := by decide +kernel
theorem dX4_keepLive_23 : decode cX4_keepLive 23 = .ok (.iload 4, 2) := by decide +kernel
theorem dX4_keepLive_25 : decode cX4_keepLive 25 = .ok (.iaload, 1) := by decide +kernel
theorem dX4_keepLive_26 : decode cX4_keepLive 26 = .ok (.iaload, 1) := by decide +kernel
theorem dX4_keepLive_27 : decode cX4_keepLive 27 = .ok (.invokestatic 113, 3) := by decide +kernel
theorem dX4_keepLive_30 : decode cX4_keepLive 30 = .ok (.ifCond .eq 19, 3) := by decide +kernel
theorem dX4_keepLive_33 : decode cX4_keepLive 33 = .ok (.aload_n 0, 1) := by decide +kernel
theorem dX4_keepLive_34 : decode cX4_keepLive 34 = .ok (.getfield 31, 3) := by decide +kernel
theorem dX4_keepLive_37 : decode cX4_keepLive 37 = .ok (.iload_n 3, 1) := by decide +kernel
theorem dX4_keepLive_38 : decode cX4_keepLive 38 = .ok (.aload_n 0, 1) := by decide +kernel
theorem dX4_keepLive_39 : decode cX4_keepLive 39 = .ok (.getfield 31, 3) := by decide +kernel
theorem dX4_keepLive_42 : decode cX4_keepLive 42 = .ok (.iload 4, 2) := by decide +kernel
theorem dX4_keepLive_44 : decode cX4_keepLive 44 = .ok (.iaload, 1) := by decide +kernel
theorem dX4_keepLive_45 : decode cX4_keepLive 45 = .ok (.iastore, 1) := by decide +kernel
theorem dX4_keepLive_46 : decode cX4_keepLive 46 = .ok (.iinc 3 1, 3) := by decide +kernel
theorem dX4_keepLive_49 : decode cX4_keepLive 49 = .ok (.iinc 4 1, 3) := by decide +kernel
theorem dX4_keepLive_52 : decode cX4_keepLive 52 = .ok (.goto (-47), 3) := by decide +kernel
theorem dX4_keepLive_55 : decode cX4_keepLive 55 = .ok (.aload_n 0, 1) := by decide +kernel
theorem dX4_keepLive_56 : decode cX4_keepLive 56 = .ok (.iload_n 3, 1) := by decide +kernel
theorem dX4_keepLive_57 : decode cX4_keepLive 57 = .ok (.putfield 81, 3) := by decide +kernel
theorem dX4_keepLive_60 : decode cX4_keepLive 60 = .ok (.return_, 1) := by decide +kernel
def lpX4_keepLive_5 (v1 : Int64) : Nat → Int32 → Int32 → ST → (Int32 → Int32 → ST → Option (Unit × ST)) → Option (Unit × ST)
  | 0, _, _, _, _ => none
  | n + 1, v3, v4, k, cont => if (gI k 3 5) ≤ v4 then cont v3 v4 k else ck (inb v4 40) (ck (inb (gA k 23 (ix v4)) 40) (ob (fX11_hasKey k v1 (gA k 20 (ix (gA k 23 (ix v4))))) fun r4 k5 => if r4 = true then ck (inb v4 40) (ck (inb v3 40) (nm (sA k5 23 (ix v3) (gA k5 23 (ix v4))) fun k10 => lpX4_keepLive_5 v1 n (v3 + 1) (v4 + 1) k10 cont)) else lpX4_keepLive_5 v1 n v3 (v4 + 1) k5 cont))
set_option maxRecDepth 20000 in
theorem zlpX4_keepLive_5 {p : Program} {l : Launch} {e : Env} {R : Room} {s : State} {m : MethodId} {args : Array Value} {below : List Frame} {meth : Method} {c : Code} {g : GT} (hC : HC p s m args meth c cX4_keepLive 5 RX4 none g) (hR : 1 ≤ R.frames ∧ 22 ≤ R.locals)  (v1 : Int64) {cont : Int32 → Int32 → ST → Option (Unit × ST)} (hk : ∀ (v3 : Int32) (v4 : Int32) (k : ST), ZF p l e R s m args below meth c g TK voV 5 k 55 [(0, .ref (g.2.1 3)), (1, .long v1), (3, .int v3), (4, .int v4)] [] (cont v3 v4 k)) : ∀ (n : Nat) (v3 : Int32) (v4 : Int32) (k : ST), ZF p l e R s m args below meth c g TK voV 5 k 5 [(0, .ref (g.2.1 3)), (1, .long v1), (3, .int v3), (4, .int v4)] [] (lpX4_keepLive_5 v1 n v3 v4 k cont) := by
  intro n
  induction n with
  | zero => intros; exact zf_none
  | succ n ih =>
    intro v3 v4 k
    rw [lpX4_keepLive_5]
    refine zf_iload hC dX4_keepLive_5 3 rfl ?_
    refine zf_aload_n hC dX4_keepLive_7 rfl 0 rfl ?_
    refine gf_365 hC dX4_keepLive_8 ?_
    refine zf_icmp_ge hC (tgt := 55) dX4_keepLive_11 (by decide) (fun h1 => ?_) (fun h1 => ?_)
    · refine zf_lv (LV' := [(0, .ref (g.2.1 3)), (1, .long v1), (3, .int v3), (4, .int v4)]) [0, 1, 2, 3] rfl ?_
      exact hk v3 v4 k
    · refine zf_lload_n hC dX4_keepLive_14 rfl 1 rfl ?_
      refine zf_aload_n hC dX4_keepLive_15 rfl 0 rfl ?_
      refine gf_360 hC dX4_keepLive_16 ?_
      refine zf_aload_n hC dX4_keepLive_19 rfl 0 rfl ?_
      refine gf_364 hC dX4_keepLive_20 ?_
      refine zf_iload hC dX4_keepLive_23 3 rfl ?_
      refine zf_iald hC (j := 23) ia_23 rfl rfl dX4_keepLive_25 (fun h2 => ?_)
      refine zf_iald hC (j := 20) ia_20 rfl rfl dX4_keepLive_26 (fun h3 => ?_)
      refine zf_callSN hC (c_X11_hasKey l g TK v1 (gA k 20 (ix (gA k 23 (ix v4))))) mt_X11_hasKey wd_538 wd_740 rfl (rm_le hR rfl) rfl rfl (rest := []) rfl (Nat.le_of_ble_eq_true rfl) dX4_keepLive_27 (fun r4 k5 h6 => ?_)
      refine zf_ifb_eq hC (tgt := 49) dX4_keepLive_30 (by decide) (fun h7 => ?_) (fun h7 => ?_)
      · refine zf_aload_n hC dX4_keepLive_33 rfl 0 rfl ?_
        refine gf_364 hC dX4_keepLive_34 ?_
        refine zf_iload_n hC dX4_keepLive_37 rfl 2 rfl ?_
        refine zf_aload_n hC dX4_keepLive_38 rfl 0 rfl ?_
        refine gf_364 hC dX4_keepLive_39 ?_
        refine zf_iload hC dX4_keepLive_42 3 rfl ?_
        refine zf_iald hC (j := 23) ia_23 rfl rfl dX4_keepLive_44 (fun h8 => ?_)
        refine zf_iast hC (j := 23) ia_23 rfl rfl dX4_keepLive_45 (fun h9 => ?_)
        refine zf_nmk (fun k10 => ?_)
        refine zf_iinc hC (q := 2) (v := v3 + 1) (LV' := [(3, .int (v3 + 1)), (0, .ref (g.2.1 3)), (1, .long v1), (4, .int v4)]) dX4_keepLive_46 rfl rfl (by decide) rfl ?_
        refine zf_iinc hC (q := 3) (v := v4 + 1) (LV' := [(4, .int (v4 + 1)), (3, .int (v3 + 1)), (0, .ref (g.2.1 3)), (1, .long v1)]) dX4_keepLive_49 rfl rfl (by decide) rfl ?_
        refine zf_goto hC (tgt := 5) dX4_keepLive_52 (by decide) ?_
        refine zf_lv (LV' := [(0, .ref (g.2.1 3)), (1, .long v1), (3, .int (v3 + 1)), (4, .int (v4 + 1))]) [2, 3, 1, 0] rfl ?_
        exact ih (v3 + 1) (v4 + 1) k10
      · refine zf_iinc hC (q := 3) (v := v4 + 1) (LV' := [(4, .int (v4 + 1)), (0, .ref (g.2.1 3)), (1, .long v1), (3, .int v3)]) dX4_keepLive_49 rfl rfl (by decide) rfl ?_
        refine zf_goto hC (tgt := 5) dX4_keepLive_52 (by decide) ?_
        refine zf_lv (LV' := [(0, .ref (g.2.1 3)), (1, .long v1), (3, .int v3), (4, .int (v4 + 1))]) [1, 2, 3, 0] rfl ?_
        exact ih v3 (v4 + 1) k5
def fX4_keepLive (k : ST) (a0 : Int64) : Option (Unit × ST) := lpX4_keepLive_5 a0 FU 0 0 k fun y11 y12 k13 => nm (sI k13 3 5 y11) fun k14 => some ((), k14)
set_option maxRecDepth 20000 in
theorem c_X4_keepLive (l : Launch) (g : GT) (a0 : Int64) : CN l yX4_keepLive cX4_keepLive 5 none { frames := 1, cells := 0, slots := 0, locals := 22 } g TK voV [.ref (g.2.1 3), .long a0] (fun k => fX4_keepLive k a0) := by
  refine cn_of (by decide) (Nat.le_of_ble_eq_true rfl) ?_
  intro p e s m args below meth c hC k
  have hC : HC p s m args meth c cX4_keepLive 5 RX4 none g := hC
  have hR : 1 ≤ ({ frames := 1, cells := 0, slots := 0, locals := 22 } : Room).frames ∧ 22 ≤ ({ frames := 1, cells := 0, slots := 0, locals := 22 } : Room).locals := ⟨Nat.le_refl _, Nat.le_refl _⟩
  show ZF p l e _ s m args below meth c g TK voV 5 k 0 [(0, .ref (g.2.1 3)), (1, .long a0)] [] (fX4_keepLive k a0)
  unfold fX4_keepLive
  refine zf_iconst hC (v := 0) dX4_keepLive_0 rfl ?_
  refine zf_istore_n hC (LV' := [(3, .int 0), (0, .ref (g.2.1 3)), (1, .long a0)]) dX4_keepLive_1 rfl (by decide) rfl ?_
  refine zf_iconst hC (v := 0) dX4_keepLive_2 rfl ?_
  refine zf_istore hC (LV' := [(4, .int 0), (3, .int 0), (0, .ref (g.2.1 3)), (1, .long a0)]) dX4_keepLive_3 (by decide) rfl ?_
  refine zf_lv (LV' := [(0, .ref (g.2.1 3)), (1, .long a0), (3, .int 0), (4, .int 0)]) [2, 3, 1, 0] rfl ?_
  refine zlpX4_keepLive_5 hC hR a0 (fun y11 y12 k13 => ?_) FU 0 0 k
  refine zf_aload_n hC dX4_keepLive_55 rfl 0 rfl ?_
  refine zf_iload_n hC dX4_keepLive_56 rfl 2 rfl ?_
  refine pf_365 hC dX4_keepLive_57 ?_
  refine zf_nmk (fun k14 => ?_)
  exact zf_vret hC rfl dX4_keepLive_60
/-! LifeKeys.Reach.comesTo -/
theorem dX4_comesTo_0 : decode cX4_comesTo 0 = .ok (.iload_n 1, 1) := by decide +kernel
theorem dX4_comesTo_1 : decode cX4_comesTo 1 = .ok (.iload_n 2, 1) := by decide +kernel
theorem dX4_comesTo_2 : decode cX4_comesTo 2 = .ok (.iand, 1) := by decide +kernel
theorem dX4_comesTo_3 : decode cX4_comesTo 3 = .ok (.ifCond .eq 5, 3) := by decide +kernel
theorem dX4_comesTo_6 : decode cX4_comesTo 6 = .ok (.iconst 1, 1) := by decide +kernel
theorem dX4_comesTo_7 : decode cX4_comesTo 7 = .ok (.ireturn, 1) := by decide +kernel
theorem dX4_comesTo_8 : decode cX4_comesTo 8 = .ok (.iconst 0, 1) := by decide +kernel
theorem dX4_comesTo_9 : decode cX4_comesTo 9 = .ok (.istore_n 3, 1) := by decide +kernel
theorem dX4_comesTo_10 : decode cX4_comesTo 10 = .ok (.iload_n 3, 1) := by decide +kernel
theorem dX4_comesTo_11 : decode cX4_comesTo 11 = .ok (.aload_n 0, 1) := by decide +kernel
theorem dX4_comesTo_12 : decode cX4_comesTo 12 = .ok (.getfield 81, 3) := by decide +kernel
theorem dX4_comesTo_15 : decode cX4_comesTo 15 = .ok (.if_icmp .ge 25, 3) := by decide +kernel
theorem dX4_comesTo_18 : decode cX4_comesTo 18 = .ok (.aload_n 0, 1) := by decide +kernel
theorem dX4_comesTo_19 : decode cX4_comesTo 19 = .ok (.aload_n 0, 1) := by decide +kernel
theorem dX4_comesTo_20 : decode cX4_comesTo 20 = .ok (.getfield 31, 3) := by decide +kernel
theorem dX4_comesTo_23 : decode cX4_comesTo 23 = .ok (.iload_n 3, 1) := by decide +kernel
theorem dX4_comesTo_24 : decode cX4_comesTo 24 = .ok (.iaload, 1) := by decide +kernel
theorem dX4_comesTo_25 : decode cX4_comesTo 25 = .ok (.iload_n 1, 1) := by decide +kernel
theorem dX4_comesTo_26 : decode cX4_comesTo 26 = .ok (.invokevirtual 102, 3) := by decide +kernel
theorem dX4_comesTo_29 : decode cX4_comesTo 29 = .ok (.ifCond .eq 5, 3) := by decide +kernel
theorem dX4_comesTo_32 : decode cX4_comesTo 32 = .ok (.iconst 1, 1) := by decide +kernel
theorem dX4_comesTo_33 : decode cX4_comesTo 33 = .ok (.ireturn, 1) := by decide +kernel
theorem dX4_comesTo_34 : decode cX4_comesTo 34 = .ok (.iinc 3 1, 3) := by decide +kernel
theorem dX4_comesTo_37 : decode cX4_comesTo 37 = .ok (.goto (-27), 3) := by decide +kernel
theorem dX4_comesTo_40 : decode cX4_comesTo 40 = .ok (.iconst 0, 1) := by decide +kernel
theorem dX4_comesTo_41 : decode cX4_comesTo 41 = .ok (.ireturn, 1) := by decide +kernel
def lpX4_comesTo_10 (v1 : Int32) (v2 : Int32) : Nat → Int32 → ST → (Int32 → ST → Option (Bool × ST)) → Option (Bool × ST)
  | 0, _, _, _ => none
  | n + 1, v3, k, cont => if (gI k 3 5) ≤ v3 then cont v3 k else ck (inb v3 40) (ob (fX4_suffices k (gA k 23 (ix v3)) v1) fun r4 k5 => if r4 = true then some (true, k5) else lpX4_comesTo_10 v1 v2 n (v3 + 1) k5 cont)
set_option maxRecDepth 20000 in
theorem zlpX4_comesTo_10 {p : Program} {l : Launch} {e : Env} {R : Room} {s : State} {m : MethodId} {args : Array Value} {below : List Frame} {meth : Method} {c : Code} {g : GT} (hC : HC p s m args meth c cX4_comesTo 4 RX4 (some .boolean) g) (hR : 2 ≤ R.frames ∧ 42 ≤ R.locals)  (v1 : Int32) (v2 : Int32) {cont : Int32 → ST → Option (Bool × ST)} (hk : ∀ (v3 : Int32) (k : ST), ZF p l e R s m args below meth c g TK voB 4 k 40 [(0, .ref (g.2.1 3)), (1, .int v1), (2, .int v2), (3, .int v3)] [] (cont v3 k)) : ∀ (n : Nat) (v3 : Int32) (k : ST), ZF p l e R s m args below meth c g TK voB 4 k 10 [(0, .ref (g.2.1 3)), (1, .int v1), (2, .int v2), (3, .int v3)] [] (lpX4_comesTo_10 v1 v2 n v3 k cont) := by
  intro n
  induction n with
  | zero => intros; exact zf_none
  | succ n ih =>
    intro v3 k
    rw [lpX4_comesTo_10]
    refine zf_iload_n hC dX4_comesTo_10 rfl 3 rfl ?_
    refine zf_aload_n hC dX4_comesTo_11 rfl 0 rfl ?_
    refine gf_365 hC dX4_comesTo_12 ?_
    refine zf_icmp_ge hC (tgt := 40) dX4_comesTo_15 (by decide) (fun h2 => ?_) (fun h2 => ?_)
    · refine zf_lv (LV' := [(0, .ref (g.2.1 3)), (1, .int v1), (2, .int v2), (3, .int v3)]) [0, 1, 2, 3] rfl ?_
      exact hk v3 k
    · refine zf_aload_n hC dX4_comesTo_18 rfl 0 rfl ?_
      refine zf_aload_n hC dX4_comesTo_19 rfl 0 rfl ?_
      refine gf_364 hC dX4_comesTo_20 ?_
      refine zf_iload_n hC dX4_comesTo_23 rfl 3 rfl ?_
      refine zf_iald hC (j := 23) ia_23 rfl rfl dX4_comesTo_24 (fun h3 => ?_)
      refine zf_iload_n hC dX4_comesTo_25 rfl 1 rfl ?_
      refine zf_callV hC (c_X4_suffices l g (gA k 23 (ix v3)) v1) mt_X4_suffices wd_732 sp_8 ci_3 ic_3 wd_730 rfl (rm_le hR rfl) rfl rfl (rest := []) rfl (Nat.le_of_ble_eq_true rfl) dX4_comesTo_26 (fun r4 k5 h6 => ?_)
      refine zf_ifb_eq hC (tgt := 34) dX4_comesTo_29 (by decide) (fun h7 => ?_) (fun h7 => ?_)
      · refine zf_iconst hC (v := 1) dX4_comesTo_32 rfl ?_
        exact zf_zret hC rfl true rfl dX4_comesTo_33
      · refine zf_iinc hC (q := 3) (v := v3 + 1) (LV' := [(3, .int (v3 + 1)), (0, .ref (g.2.1 3)), (1, .int v1), (2, .int v2)]) dX4_comesTo_34 rfl rfl (by decide) rfl ?_
        refine zf_goto hC (tgt := 10) dX4_comesTo_37 (by decide) ?_
        refine zf_lv (LV' := [(0, .ref (g.2.1 3)), (1, .int v1), (2, .int v2), (3, .int (v3 + 1))]) [1, 2, 3, 0] rfl ?_
        exact ih (v3 + 1) k5
def fX4_comesTo (k : ST) (a0 : Int32) (a1 : Int32) : Option (Bool × ST) := if (a0 &&& a1) = 0 then lpX4_comesTo_10 a0 a1 FU 0 k fun y8 k9 => some (false, k9) else some (true, k)
set_option maxRecDepth 20000 in
theorem c_X4_comesTo (l : Launch) (g : GT) (a0 : Int32) (a1 : Int32) : CN l yX4_comesTo cX4_comesTo 4 (some .boolean) { frames := 2, cells := 0, slots := 0, locals := 42 } g TK voB [.ref (g.2.1 3), .int a0, .int a1] (fun k => fX4_comesTo k a0 a1) := by
  refine cn_of (by decide) (Nat.le_of_ble_eq_true rfl) ?_
  intro p e s m args below meth c hC k
  have hC : HC p s m args meth c cX4_comesTo 4 RX4 (some .boolean) g := hC
  have hR : 2 ≤ ({ frames := 2, cells := 0, slots := 0, locals := 42 } : Room).frames ∧ 42 ≤ ({ frames := 2, cells := 0, slots := 0, locals := 42 } : Room).locals := ⟨Nat.le_refl _, Nat.le_refl _⟩
  show ZF p l e _ s m args below meth c g TK voB 4 k 0 [(0, .ref (g.2.1 3)), (1, .int a0), (2, .int a1)] [] (fX4_comesTo k a0 a1)
  unfold fX4_comesTo
  refine zf_iload_n hC dX4_comesTo_0 rfl 1 rfl ?_
  refine zf_iload_n hC dX4_comesTo_1 rfl 2 rfl ?_
  refine zf_iand hC dX4_comesTo_2 ?_
  refine zf_if_eq hC (tgt := 8) dX4_comesTo_3 (by decide) (fun h1 => ?_) (fun h1 => ?_)
  · refine zf_iconst hC (v := 0) dX4_comesTo_8 rfl ?_
    refine zf_istore_n hC (LV' := [(3, .int 0), (0, .ref (g.2.1 3)), (1, .int a0), (2, .int a1)]) dX4_comesTo_9 rfl (by decide) rfl ?_
    refine zf_lv (LV' := [(0, .ref (g.2.1 3)), (1, .int a0), (2, .int a1), (3, .int 0)]) [1, 2, 3, 0] rfl ?_
    refine zlpX4_comesTo_10 hC hR a0 a1 (fun y8 k9 => ?_) FU 0 k
    refine zf_iconst hC (v := 0) dX4_comesTo_40 rfl ?_
    exact zf_zret hC rfl false rfl dX4_comesTo_41
  · refine zf_iconst hC (v := 1) dX4_comesTo_6 rfl ?_
    exact zf_zret hC rfl true rfl dX4_comesTo_7
/-! LifeKeys.Reach.takeLeast -/
theorem dX4_takeLeast_0 : decode cX4_takeLeast 0 = .ok (.iload_n 2, 1) := by decide +kernel
theorem dX4_takeLeast_1 : decode cX4_takeLeast 1 = .ok (.aload_n 0, 1) := by decide +kernel
theorem dX4_takeLeast_2 : decode cX4_takeLeast 2 = .ok (.getfield 128, 3) := by decide +kernel
theorem dX4_takeLeast_5 : decode cX4_takeLeast 5 = .ok (.if_icmp .ge 19, 3) := by decide +kernel
theorem dX4_takeLeast_8 : decode cX4_takeLeast 8 = .ok (.aload_n 0, 1) := by decide +kernel
theorem dX4_takeLeast_9 : decode cX4_takeLeast 9 = .ok (.iload_n 2, 1) := by decide +kernel
theorem dX4_takeLeast_10 : decode cX4_takeLeast 10 = .ok (.putfield 128, 3) := by decide +kernel
theorem dX4_takeLeast_13 : decode cX4_takeLeast 13 = .ok (.aload_n 0, 1) := by decide +kernel
theorem dX4_takeLeast_14 : decode cX4_takeLeast 14 = .ok (.iconst 1, 1) := by decide +kernel
theorem dX4_takeLeast_15 : decode cX4_takeLeast 15 = .ok (.putfield 131, 3) := by decide +kernel
theorem dX4_takeLeast_18 : decode cX4_takeLeast 18 = .ok (.aload_n 0, 1) := by decide +kernel
theorem dX4_takeLeast_19 : decode cX4_takeLeast 19 = .ok (.iload_n 1, 1) := by decide +kernel
theorem dX4_takeLeast_20 : decode cX4_takeLeast 20 = .ok (.putfield 134, 3) := by decide +kernel
theorem dX4_takeLeast_23 : decode cX4_takeLeast 23 = .ok (.return_, 1) := by decide +kernel
theorem dX4_takeLeast_24 : decode cX4_takeLeast 24 = .ok (.aload_n 0, 1) := by decide +kernel
theorem dX4_takeLeast_25 : decode cX4_takeLeast 25 = .ok (.dup, 1) := by decide +kernel
theorem dX4_takeLeast_26 : decode cX4_takeLeast 26 = .ok (.getfield 131, 3) := by decide +kernel
theorem dX4_takeLeast_29 : decode cX4_takeLeast 29 = .ok (.iconst 1, 1) := by decide +kernel
theorem dX4_takeLeast_30 : decode cX4_takeLeast 30 = .ok (.iadd, 1) := by decide +kernel
theorem dX4_takeLeast_31 : decode cX4_takeLeast 31 = .ok (.putfield 131, 3) := by decide +kernel
theorem dX4_takeLeast_34 : decode cX4_takeLeast 34 = .ok (.iload_n 1, 1) := by decide +kernel
theorem dX4_takeLeast_35 : decode cX4_takeLeast 35 = .ok (.aload_n 0, 1) := by decide +kernel
theorem dX4_takeLeast_36 : decode cX4_takeLeast 36 = .ok (.getfield 134, 3) := by decide +kernel
theorem dX4_takeLeast_39 : decode cX4_takeLeast 39 = .ok (.ixor, 1) := by decide +kernel
theorem dX4_takeLeast_40 : decode cX4_takeLeast 40 = .ok (.istore_n 3, 1) := by decide +kernel
theorem dX4_takeLeast_41 : decode cX4_takeLeast 41 = .ok (.iload_n 3, 1) := by decide +kernel
theorem dX4_takeLeast_42 : decode cX4_takeLeast 42 = .ok (.iload_n 3, 1) := by decide +kernel
theorem dX4_takeLeast_43 : decode cX4_takeLeast 43 = .ok (.ineg, 1) := by decide +kernel
theorem dX4_takeLeast_44 : decode cX4_takeLeast 44 = .ok (.iand, 1) := by decide +kernel
theorem dX4_takeLeast_45 : decode cX4_takeLeast 45 = .ok (.istore 4, 2) := by decide +kernel
theorem dX4_takeLeast_47 : decode cX4_takeLeast 47 = .ok (.iload_n 1, 1) := by decide +kernel
theorem dX4_takeLeast_48 : decode cX4_takeLeast 48 = .ok (.iload 4, 2) := by decide +kernel
theorem dX4_takeLeast_50 : decode cX4_takeLeast 50 = .ok (.iand, 1) := by decide +kernel
theorem dX4_takeLeast_51 : decode cX4_takeLeast 51 = .ok (.ifCond .eq 8, 3) := by decide +kernel
theorem dX4_takeLeast_54 : decode cX4_takeLeast 54 = .ok (.aload_n 0, 1) := by decide +kernel
theorem dX4_takeLeast_55 : decode cX4_takeLeast 55 = .ok (.iload_n 1, 1) := by decide +kernel
theorem dX4_takeLeast_56 : decode cX4_takeLeast 56 = .ok (.putfield 134, 3) := by decide +kernel
theorem dX4_takeLeast_59 : decode cX4_takeLeast 59 = .ok (.return_, 1) := by decide +kernel
def fX4_takeLeast (k : ST) (a0 : Int32) (a1 : Int32) : Option (Unit × ST) := if (gI k 3 9) ≤ a1 then nm (sI k 3 10 ((gI k 3 10) + 1)) fun k2 => nm ((a0 ^^^ (gI k2 3 11)) &&& (-(a0 ^^^ (gI k2 3 11)))) fun x3 => if (a0 &&& x3) = 0 then some ((), k2) else nm (sI k2 3 11 a0) fun k5 => some ((), k5) else nm (sI k 3 9 a1) fun k6 => nm (sI k6 3 10 1) fun k7 => nm (sI k7 3 11 a0) fun k8 => some ((), k8)
set_option maxRecDepth 20000 in
theorem c_X4_takeLeast (l : Launch) (g : GT) (a0 : Int32) (a1 : Int32) : CN l yX4_takeLeast cX4_takeLeast 5 none { frames := 0, cells := 0, slots := 0, locals := 0 } g TK voV [.ref (g.2.1 3), .int a0, .int a1] (fun k => fX4_takeLeast k a0 a1) := by
  refine cn_of (by decide) (Nat.le_of_ble_eq_true rfl) ?_
  intro p e s m args below meth c hC k
  have hC : HC p s m args meth c cX4_takeLeast 5 RX4 none g := hC
  have hR : 0 ≤ ({ frames := 0, cells := 0, slots := 0, locals := 0 } : Room).frames ∧ 0 ≤ ({ frames := 0, cells := 0, slots := 0, locals := 0 } : Room).locals := ⟨Nat.le_refl _, Nat.le_refl _⟩
  show ZF p l e _ s m args below meth c g TK voV 5 k 0 [(0, .ref (g.2.1 3)), (1, .int a0), (2, .int a1)] [] (fX4_takeLeast k a0 a1)
  unfold fX4_takeLeast
  refine zf_iload_n hC dX4_takeLeast_0 rfl 2 rfl ?_
  refine zf_aload_n hC dX4_takeLeast_1 rfl 0 rfl ?_
  refine gf_369 hC dX4_takeLeast_2 ?_
  refine zf_icmp_ge hC (tgt := 24) dX4_takeLeast_5 (by decide) (fun h1 => ?_) (fun h1 => ?_)
  · refine zf_aload_n hC dX4_takeLeast_24 rfl 0 rfl ?_
    refine zf_dup hC dX4_takeLeast_25 rfl ?_
    refine gf_371 hC dX4_takeLeast_26 ?_
    refine zf_iconst hC (v := 1) dX4_takeLeast_29 rfl ?_
    refine zf_iadd hC dX4_takeLeast_30 ?_
    refine pf_371 hC dX4_takeLeast_31 ?_
    refine zf_nmk (fun k2 => ?_)
    refine zf_iload_n hC dX4_takeLeast_34 rfl 1 rfl ?_
    refine zf_aload_n hC dX4_takeLeast_35 rfl 0 rfl ?_
    refine gf_373 hC dX4_takeLeast_36 ?_
    refine zf_ixor hC dX4_takeLeast_39 ?_
    refine zf_istore_n hC (LV' := [(3, .int (a0 ^^^ (gI k2 3 11))), (0, .ref (g.2.1 3)), (1, .int a0), (2, .int a1)]) dX4_takeLeast_40 rfl (by decide) rfl ?_
    refine zf_iload_n hC dX4_takeLeast_41 rfl 0 rfl ?_
    refine zf_iload_n hC dX4_takeLeast_42 rfl 0 rfl ?_
    refine zf_ineg hC dX4_takeLeast_43 ?_
    refine zf_iand hC dX4_takeLeast_44 ?_
    refine zf_nmi (fun x3 => ?_)
    refine zf_istore hC (LV' := [(4, .int x3), (3, .int (a0 ^^^ (gI k2 3 11))), (0, .ref (g.2.1 3)), (1, .int a0), (2, .int a1)]) dX4_takeLeast_45 (by decide) rfl ?_
    refine zf_iload_n hC dX4_takeLeast_47 rfl 3 rfl ?_
    refine zf_iload hC dX4_takeLeast_48 0 rfl ?_
    refine zf_iand hC dX4_takeLeast_50 ?_
    refine zf_if_eq hC (tgt := 59) dX4_takeLeast_51 (by decide) (fun h4 => ?_) (fun h4 => ?_)
    · exact zf_vret hC rfl dX4_takeLeast_59
    · refine zf_aload_n hC dX4_takeLeast_54 rfl 2 rfl ?_
      refine zf_iload_n hC dX4_takeLeast_55 rfl 3 rfl ?_
      refine pf_373 hC dX4_takeLeast_56 ?_
      refine zf_nmk (fun k5 => ?_)
      exact zf_vret hC rfl dX4_takeLeast_59
  · refine zf_aload_n hC dX4_takeLeast_8 rfl 0 rfl ?_
    refine zf_iload_n hC dX4_takeLeast_9 rfl 2 rfl ?_
    refine pf_369 hC dX4_takeLeast_10 ?_
    refine zf_nmk (fun k6 => ?_)
    refine zf_aload_n hC dX4_takeLeast_13 rfl 0 rfl ?_
    refine zf_iconst hC (v := 1) dX4_takeLeast_14 rfl ?_
    refine pf_371 hC dX4_takeLeast_15 ?_
    refine zf_nmk (fun k7 => ?_)
    refine zf_aload_n hC dX4_takeLeast_18 rfl 0 rfl ?_
    refine zf_iload_n hC dX4_takeLeast_19 rfl 1 rfl ?_
    refine pf_373 hC dX4_takeLeast_20 ?_
    refine zf_nmk (fun k8 => ?_)
    exact zf_vret hC rfl dX4_takeLeast_23
/-! LifeKeys.Reach.searchLeast -/
theorem dX4_searchLeast_0 : decode cX4_searchLeast 0 = .ok (.aload_n 0, 1) := by decide +kernel
theorem dX4_searchLeast_1 : decode cX4_searchLeast 1 = .ok (.iload_n 1, 1) := by decide +kernel
theorem dX4_searchLeast_2 : decode cX4_searchLeast 2 = .ok (.invokevirtual 117, 3) := by decide +kernel
theorem dX4_searchLeast_5 : decode cX4_searchLeast 5 = .ok (.lstore 4, 2) := by decide +kernel
theorem dX4_searchLeast_7 : decode cX4_searchLeast 7 = .ok (.aload_n 0, 1) := by decide +kernel
theorem dX4_searchLeast_8 : decode cX4_searchLeast 8 = .ok (.lload 4, 2) := by decide +kernel
theorem dX4_searchLeast_10 : decode cX4_searchLeast 10 = .ok (.invokevirtual 120, 3) := by decide +kernel
theorem dX4_searchLeast_13 : decode cX4_searchLeast 13 = .ok (.istore 6, 2) := by decide +kernel
theorem dX4_searchLeast_15 : decode cX4_searchLeast 15 = .ok (.aload_n 0, 1) := by decide +kernel
theorem dX4_searchLeast_16 : decode cX4_searchLeast 16 = .ok (.lload 4, 2) := by decide +kernel
theorem dX4_searchLeast_18 : decode cX4_searchLeast 18 = .ok (.invokevirtual 124, 3) := by decide +kernel
theorem dX4_searchLeast_21 : decode cX4_searchLeast 21 = .ok (.aload_n 0, 1) := by decide +kernel
theorem dX4_searchLeast_22 : decode cX4_searchLeast 22 = .ok (.bipush 13, 2) := by decide +kernel
theorem dX4_searchLeast_24 : decode cX4_searchLeast 24 = .ok (.putfield 128, 3) := by decide +kernel
theorem dX4_searchLeast_27 : decode cX4_searchLeast 27 = .ok (.aload_n 0, 1) := by decide +kernel
theorem dX4_searchLeast_28 : decode cX4_searchLeast 28 = .ok (.iconst 0, 1) := by decide +kernel
theorem dX4_searchLeast_29 : decode cX4_searchLeast 29 = .ok (.putfield 131, 3) := by decide +kernel
theorem dX4_searchLeast_32 : decode cX4_searchLeast 32 = .ok (.aload_n 0, 1) := by decide +kernel
theorem dX4_searchLeast_33 : decode cX4_searchLeast 33 = .ok (.iconst 0, 1) := by decide +kernel
theorem dX4_searchLeast_34 : decode cX4_searchLeast 34 = .ok (.putfield 134, 3) := by decide +kernel
theorem dX4_searchLeast_37 : decode cX4_searchLeast 37 = .ok (.iconst 1, 1) := by decide +kernel
theorem dX4_searchLeast_38 : decode cX4_searchLeast 38 = .ok (.istore 7, 2) := by decide +kernel
theorem dX4_searchLeast_40 : decode cX4_searchLeast 40 = .ok (.iload 7, 2) := by decide +kernel
theorem dX4_searchLeast_42 : decode cX4_searchLeast 42 = .ok (.iload_n 3, 1) := by decide +kernel
theorem dX4_searchLeast_43 : decode cX4_searchLeast 43 = .ok (.if_icmp .gt 58, 3) := by decide +kernel
theorem dX4_searchLeast_46 : decode cX4_searchLeast 46 = .ok (.iload 7, 2) := by decide +kernel
theorem dX4_searchLeast_48 : decode cX4_searchLeast 48 = .ok (.invokestatic 105, 3) := by decide +kernel
theorem dX4_searchLeast_51 : decode cX4_searchLeast 51 = .ok (.istore 8, 2) := by decide +kernel
theorem dX4_searchLeast_53 : decode cX4_searchLeast 53 = .ok (.iload 8, 2) := by decide +kernel
theorem dX4_searchLeast_55 : decode cX4_searchLeast 55 = .ok (.aload_n 0, 1) := by decide +kernel
theorem dX4_searchLeast_56 : decode cX4_searchLeast 56 = .ok (.getfield 128, 3) := by decide +kernel
theorem dX4_searchLeast_59 : decode cX4_searchLeast 59 = .ok (.if_icmp .gt 36, 3) := by decide +kernel
theorem dX4_searchLeast_62 : decode cX4_searchLeast 62 = .ok (.aload_n 0, 1) := by decide +kernel
theorem dX4_searchLeast_63 : decode cX4_searchLeast 63 = .ok (.iload_n 2, 1) := by decide +kernel
theorem dX4_searchLeast_64 : decode cX4_searchLeast 64 = .ok (.ifCond .eq 8, 3) := by decide +kernel
theorem dX4_searchLeast_67 : decode cX4_searchLeast 67 = .ok (.iload 7, 2) := by decide +kernel
theorem dX4_searchLeast_69 : decode cX4_searchLeast 69 = .ok (.goto 9, 3) := by decide +kernel
theorem dX4_searchLeast_72 : decode cX4_searchLeast 72 = .ok (.iload_n 3, 1) := by decide +kernel
theorem dX4_searchLeast_73 : decode cX4_searchLeast 73 = .ok (.iload 7, 2) := by decide +kernel
theorem dX4_searchLeast_75 : decode cX4_searchLeast 75 = .ok (.iconst (-1), 1) := by decide +kernel
theorem dX4_searchLeast_76 : decode cX4_searchLeast 76 = .ok (.ixor, 1) := by decide +kernel
theorem dX4_searchLeast_77 : decode cX4_searchLeast 77 = .ok (.iand, 1) := by decide +kernel
theorem dX4_searchLeast_78 : decode cX4_searchLeast 78 = .ok (.iload 6, 2) := by decide +kernel
theorem dX4_searchLeast_80 : decode cX4_searchLeast 80 = .ok (.invokevirtual 137, 3) := by decide +kernel
theorem dX4_searchLeast_83 : decode cX4_searchLeast 83 = .ok (.iload_n 2, 1) := by decide +kernel
theorem dX4_searchLeast_84 : decode cX4_searchLeast 84 = .ok (.if_icmp .ne 11, 3) := by decide +kernel
theorem dX4_searchLeast_87 : decode cX4_searchLeast 87 = .ok (.aload_n 0, 1) := by decide +kernel
theorem dX4_searchLeast_88 : decode cX4_searchLeast 88 = .ok (.iload 7, 2) := by decide +kernel
theorem dX4_searchLeast_90 : decode cX4_searchLeast 90 = .ok (.iload 8, 2) := by decide +kernel
theorem dX4_searchLeast_92 : decode cX4_searchLeast 92 = .ok (.invokevirtual 140, 3) := by decide +kernel
theorem dX4_searchLeast_95 : decode cX4_searchLeast 95 = .ok (.iinc 7 1, 3) := by decide +kernel
theorem dX4_searchLeast_98 : decode cX4_searchLeast 98 = .ok (.goto (-58), 3) := by decide +kernel
theorem dX4_searchLeast_101 : decode cX4_searchLeast 101 = .ok (.return_, 1) := by decide +kernel
def lpX4_searchLeast_40 (v1 : Int32) (v2 : Bool) (v3 : Int32) (v4 : Int64) (v6 : Int32) : Nat → Int32 → ST → (Int32 → ST → Option (Unit × ST)) → Option (Unit × ST)
  | 0, _, _, _ => none
  | n + 1, v7, k, cont => if v3 < v7 then cont v7 k else ob (fJ6_bitCount_0f7a4 k v7) fun r14 k15 => if (gI k15 3 9) < r14 then lpX4_searchLeast_40 v1 v2 v3 v4 v6 n (v7 + 1) k15 cont else if v2 = true then ob (fX4_comesTo k15 v7 v6) fun r19 k20 => if (b2i r19) = (b2i v2) then ob (fX4_takeLeast k20 v7 r14) fun r23 k24 => lpX4_searchLeast_40 v1 v2 v3 v4 v6 n (v7 + 1) k24 cont else lpX4_searchLeast_40 v1 v2 v3 v4 v6 n (v7 + 1) k20 cont else ob (fX4_comesTo k15 (v3 &&& (v7 ^^^ (-1))) v6) fun r26 k27 => if (b2i r26) = (b2i v2) then ob (fX4_takeLeast k27 v7 r14) fun r30 k31 => lpX4_searchLeast_40 v1 v2 v3 v4 v6 n (v7 + 1) k31 cont else lpX4_searchLeast_40 v1 v2 v3 v4 v6 n (v7 + 1) k27 cont
set_option maxRecDepth 20000 in
theorem zlpX4_searchLeast_40 {p : Program} {l : Launch} {e : Env} {R : Room} {s : State} {m : MethodId} {args : Array Value} {below : List Frame} {meth : Method} {c : Code} {g : GT} (hC : HC p s m args meth c cX4_searchLeast 9 RX4 none g) (hR : 3 ≤ R.frames ∧ 65 ≤ R.locals)  (v1 : Int32) (v2 : Bool) (v3 : Int32) (v4 : Int64) (v6 : Int32) {cont : Int32 → ST → Option (Unit × ST)} (hk : ∀ (v7 : Int32) (k : ST), ZF p l e R s m args below meth c g TK voV 9 k 101 [(0, .ref (g.2.1 3)), (1, .int v1), (2, .int (b2i v2)), (3, .int v3), (4, .long v4), (6, .int v6), (7, .int v7)] [] (cont v7 k)) : ∀ (n : Nat) (v7 : Int32) (k : ST), ZF p l e R s m args below meth c g TK voV 9 k 40 [(0, .ref (g.2.1 3)), (1, .int v1), (2, .int (b2i v2)), (3, .int v3), (4, .long v4), (6, .int v6), (7, .int v7)] [] (lpX4_searchLeast_40 v1 v2 v3 v4 v6 n v7 k cont) := by
  intro n
  induction n with
  | zero => intros; exact zf_none
  | succ n ih =>
    intro v7 k
    rw [lpX4_searchLeast_40]
    refine zf_iload hC dX4_searchLeast_40 6 rfl ?_
    refine zf_iload_n hC dX4_searchLeast_42 rfl 3 rfl ?_
    refine zf_icmp_gt hC (tgt := 101) dX4_searchLeast_43 (by decide) (fun h13 => ?_) (fun h13 => ?_)
    · refine zf_lv (LV' := [(0, .ref (g.2.1 3)), (1, .int v1), (2, .int (b2i v2)), (3, .int v3), (4, .long v4), (6, .int v6), (7, .int v7)]) [0, 1, 2, 3, 4, 5, 6] rfl ?_
      exact hk v7 k
    · refine zf_iload hC dX4_searchLeast_46 6 rfl ?_
      refine zf_callS hC (c_J6_bitCount_0f7a4 l g TK v7) mt_J6_bitCount_0f7a4 wd_577 wd_734 rfl (rm_le hR rfl) rfl rfl (rest := []) rfl (Nat.le_of_ble_eq_true rfl) dX4_searchLeast_48 (fun r14 k15 h16 => ?_)
      refine zf_istore hC (LV' := [(8, .int r14), (0, .ref (g.2.1 3)), (1, .int v1), (2, .int (b2i v2)), (3, .int v3), (4, .long v4), (6, .int v6), (7, .int v7)]) dX4_searchLeast_51 (by decide) rfl ?_
      refine zf_iload hC dX4_searchLeast_53 0 rfl ?_
      refine zf_aload_n hC dX4_searchLeast_55 rfl 1 rfl ?_
      refine gf_369 hC dX4_searchLeast_56 ?_
      refine zf_icmp_gt hC (tgt := 95) dX4_searchLeast_59 (by decide) (fun h17 => ?_) (fun h17 => ?_)
      · refine zf_iinc hC (q := 7) (v := v7 + 1) (LV' := [(7, .int (v7 + 1)), (8, .int r14), (0, .ref (g.2.1 3)), (1, .int v1), (2, .int (b2i v2)), (3, .int v3), (4, .long v4), (6, .int v6)]) dX4_searchLeast_95 rfl rfl (by decide) rfl ?_
        refine zf_goto hC (tgt := 40) dX4_searchLeast_98 (by decide) ?_
        refine zf_lv (LV' := [(0, .ref (g.2.1 3)), (1, .int v1), (2, .int (b2i v2)), (3, .int v3), (4, .long v4), (6, .int v6), (7, .int (v7 + 1))]) [2, 3, 4, 5, 6, 7, 0] rfl ?_
        exact ih (v7 + 1) k15
      · refine zf_aload_n hC dX4_searchLeast_62 rfl 1 rfl ?_
        refine zf_iload_n hC dX4_searchLeast_63 rfl 3 rfl ?_
        refine zf_ifb_eq hC (tgt := 72) dX4_searchLeast_64 (by decide) (fun h18 => ?_) (fun h18 => ?_)
        · refine zf_iload hC dX4_searchLeast_67 7 rfl ?_
          refine zf_goto hC (tgt := 78) dX4_searchLeast_69 (by decide) ?_
          refine zf_iload hC dX4_searchLeast_78 6 rfl ?_
          refine zf_callV hC (c_X4_comesTo l g v7 v6) mt_X4_comesTo wd_1100 sp_40 ci_3 ic_3 wd_1098 rfl (rm_le hR rfl) rfl rfl (rest := []) rfl (Nat.le_of_ble_eq_true rfl) dX4_searchLeast_80 (fun r19 k20 h21 => ?_)
          refine zf_iload_n hC dX4_searchLeast_83 rfl 3 rfl ?_
          refine zf_icmp_ne hC (tgt := 95) dX4_searchLeast_84 (by decide) (fun h22 => ?_) (fun h22 => ?_)
          · refine zf_aload_n hC dX4_searchLeast_87 rfl 1 rfl ?_
            refine zf_iload hC dX4_searchLeast_88 7 rfl ?_
            refine zf_iload hC dX4_searchLeast_90 0 rfl ?_
            refine zf_callV hC (c_X4_takeLeast l g v7 r14) mt_X4_takeLeast wd_1104 sp_41 ci_3 ic_3 wd_1102 rfl (rm_le hR rfl) rfl rfl (rest := []) rfl (Nat.le_of_ble_eq_true rfl) dX4_searchLeast_92 (fun r23 k24 h25 => ?_)
            refine zf_iinc hC (q := 7) (v := v7 + 1) (LV' := [(7, .int (v7 + 1)), (8, .int r14), (0, .ref (g.2.1 3)), (1, .int v1), (2, .int (b2i v2)), (3, .int v3), (4, .long v4), (6, .int v6)]) dX4_searchLeast_95 rfl rfl (by decide) rfl ?_
            refine zf_goto hC (tgt := 40) dX4_searchLeast_98 (by decide) ?_
            refine zf_lv (LV' := [(0, .ref (g.2.1 3)), (1, .int v1), (2, .int (b2i v2)), (3, .int v3), (4, .long v4), (6, .int v6), (7, .int (v7 + 1))]) [2, 3, 4, 5, 6, 7, 0] rfl ?_
            exact ih (v7 + 1) k24
          · refine zf_iinc hC (q := 7) (v := v7 + 1) (LV' := [(7, .int (v7 + 1)), (8, .int r14), (0, .ref (g.2.1 3)), (1, .int v1), (2, .int (b2i v2)), (3, .int v3), (4, .long v4), (6, .int v6)]) dX4_searchLeast_95 rfl rfl (by decide) rfl ?_
            refine zf_goto hC (tgt := 40) dX4_searchLeast_98 (by decide) ?_
            refine zf_lv (LV' := [(0, .ref (g.2.1 3)), (1, .int v1), (2, .int (b2i v2)), (3, .int v3), (4, .long v4), (6, .int v6), (7, .int (v7 + 1))]) [2, 3, 4, 5, 6, 7, 0] rfl ?_
            exact ih (v7 + 1) k20
        · refine zf_iload_n hC dX4_searchLeast_72 rfl 4 rfl ?_
          refine zf_iload hC dX4_searchLeast_73 7 rfl ?_
          refine zf_iconst hC (v := (-1)) dX4_searchLeast_75 rfl ?_
          refine zf_ixor hC dX4_searchLeast_76 ?_
          refine zf_iand hC dX4_searchLeast_77 ?_
          refine zf_iload hC dX4_searchLeast_78 6 rfl ?_
          refine zf_callV hC (c_X4_comesTo l g (v3 &&& (v7 ^^^ (-1))) v6) mt_X4_comesTo wd_1100 sp_40 ci_3 ic_3 wd_1098 rfl (rm_le hR rfl) rfl rfl (rest := []) rfl (Nat.le_of_ble_eq_true rfl) dX4_searchLeast_80 (fun r26 k27 h28 => ?_)
          refine zf_iload_n hC dX4_searchLeast_83 rfl 3 rfl ?_
          refine zf_icmp_ne hC (tgt := 95) dX4_searchLeast_84 (by decide) (fun h29 => ?_) (fun h29 => ?_)
          · refine zf_aload_n hC dX4_searchLeast_87 rfl 1 rfl ?_
            refine zf_iload hC dX4_searchLeast_88 7 rfl ?_
            refine zf_iload hC dX4_searchLeast_90 0 rfl ?_
            refine zf_callV hC (c_X4_takeLeast l g v7 r14) mt_X4_takeLeast wd_1104 sp_41 ci_3 ic_3 wd_1102 rfl (rm_le hR rfl) rfl rfl (rest := []) rfl (Nat.le_of_ble_eq_true rfl) dX4_searchLeast_92 (fun r30 k31 h32 => ?_)
            refine zf_iinc hC (q := 7) (v := v7 + 1) (LV' := [(7, .int (v7 + 1)), (8, .int r14), (0, .ref (g.2.1 3)), (1, .int v1), (2, .int (b2i v2)), (3, .int v3), (4, .long v4), (6, .int v6)]) dX4_searchLeast_95 rfl rfl (by decide) rfl ?_
            refine zf_goto hC (tgt := 40) dX4_searchLeast_98 (by decide) ?_
            refine zf_lv (LV' := [(0, .ref (g.2.1 3)), (1, .int v1), (2, .int (b2i v2)), (3, .int v3), (4, .long v4), (6, .int v6), (7, .int (v7 + 1))]) [2, 3, 4, 5, 6, 7, 0] rfl ?_
            exact ih (v7 + 1) k31
          · refine zf_iinc hC (q := 7) (v := v7 + 1) (LV' := [(7, .int (v7 + 1)), (8, .int r14), (0, .ref (g.2.1 3)), (1, .int v1), (2, .int (b2i v2)), (3, .int v3), (4, .long v4), (6, .int v6)]) dX4_searchLeast_95 rfl rfl (by decide) rfl ?_
            refine zf_goto hC (tgt := 40) dX4_searchLeast_98 (by decide) ?_
            refine zf_lv (LV' := [(0, .ref (g.2.1 3)), (1, .int v1), (2, .int (b2i v2)), (3, .int v3), (4, .long v4), (6, .int v6), (7, .int (v7 + 1))]) [2, 3, 4, 5, 6, 7, 0] rfl ?_
            exact ih (v7 + 1) k27
def fX4_searchLeast (k : ST) (a0 : Int32) (a1 : Bool) (a2 : Int32) : Option (Unit × ST) := ob (fX4_sourcesOf k a0) fun r1 k2 => ob (fX4_holdersOfAny k2 r1) fun r4 k5 => ob (fX4_keepLive k5 r1) fun r7 k8 => nm (sI k8 3 9 13) fun k10 => nm (sI k10 3 10 0) fun k11 => nm (sI k11 3 11 0) fun k12 => lpX4_searchLeast_40 a0 a1 a2 r1 r4 FU 1 k12 fun y33 k34 => some ((), k34)
set_option maxRecDepth 20000 in
theorem c_X4_searchLeast (l : Launch) (g : GT) (a0 : Int32) (a1 : Bool) (a2 : Int32) : CN l yX4_searchLeast cX4_searchLeast 9 none { frames := 3, cells := 0, slots := 0, locals := 65 } g TK voV [.ref (g.2.1 3), .int a0, .int (b2i a1), .int a2] (fun k => fX4_searchLeast k a0 a1 a2) := by
  refine cn_of (by decide) (Nat.le_of_ble_eq_true rfl) ?_
  intro p e s m args below meth c hC k
  have hC : HC p s m args meth c cX4_searchLeast 9 RX4 none g := hC
  have hR : 3 ≤ ({ frames := 3, cells := 0, slots := 0, locals := 65 } : Room).frames ∧ 65 ≤ ({ frames := 3, cells := 0, slots := 0, locals := 65 } : Room).locals := ⟨Nat.le_refl _, Nat.le_refl _⟩
  show ZF p l e _ s m args below meth c g TK voV 9 k 0 [(0, .ref (g.2.1 3)), (1, .int a0), (2, .int (b2i a1)), (3, .int a2)] [] (fX4_searchLeast k a0 a1 a2)
  unfold fX4_searchLeast
  refine zf_aload_n hC dX4_searchLeast_0 rfl 0 rfl ?_
  refine zf_iload_n hC dX4_searchLeast_1 rfl 1 rfl ?_
  refine zf_callV hC (c_X4_sourcesOf l g a0) mt_X4_sourcesOf wd_1088 sp_37 ci_3 ic_3 wd_1086 rfl (rm_le hR rfl) rfl rfl (rest := []) rfl (Nat.le_of_ble_eq_true rfl) dX4_searchLeast_2 (fun r1 k2 h3 => ?_)
  refine zf_lstore hC (LV' := [(4, .long r1), (0, .ref (g.2.1 3)), (1, .int a0), (2, .int (b2i a1)), (3, .int a2)]) dX4_searchLeast_5 (by decide) rfl ?_
  refine zf_aload_n hC dX4_searchLeast_7 rfl 1 rfl ?_
  refine zf_lload hC dX4_searchLeast_8 0 rfl ?_
  refine zf_callV hC (c_X4_holdersOfAny l g r1) mt_X4_holdersOfAny wd_1092 sp_38 ci_3 ic_3 wd_1090 rfl (rm_le hR rfl) rfl rfl (rest := []) rfl (Nat.le_of_ble_eq_true rfl) dX4_searchLeast_10 (fun r4 k5 h6 => ?_)
  refine zf_istore hC (LV' := [(6, .int r4), (4, .long r1), (0, .ref (g.2.1 3)), (1, .int a0), (2, .int (b2i a1)), (3, .int a2)]) dX4_searchLeast_13 (by decide) rfl ?_
  refine zf_aload_n hC dX4_searchLeast_15 rfl 2 rfl ?_
  refine zf_lload hC dX4_searchLeast_16 1 rfl ?_
  refine zf_callV hC (c_X4_keepLive l g r1) mt_X4_keepLive wd_1096 sp_39 ci_3 ic_3 wd_1094 rfl (rm_le hR rfl) rfl rfl (rest := []) rfl (Nat.le_of_ble_eq_true rfl) dX4_searchLeast_18 (fun r7 k8 h9 => ?_)
  refine zf_aload_n hC dX4_searchLeast_21 rfl 2 rfl ?_
  refine zf_bipush hC (v := 13) dX4_searchLeast_22 rfl ?_
  refine pf_369 hC dX4_searchLeast_24 ?_
  refine zf_nmk (fun k10 => ?_)
  refine zf_aload_n hC dX4_searchLeast_27 rfl 2 rfl ?_
  refine zf_iconst hC (v := 0) dX4_searchLeast_28 rfl ?_
  refine pf_371 hC dX4_searchLeast_29 ?_
  refine zf_nmk (fun k11 => ?_)
  refine zf_aload_n hC dX4_searchLeast_32 rfl 2 rfl ?_
  refine zf_iconst hC (v := 0) dX4_searchLeast_33 rfl ?_
  refine pf_373 hC dX4_searchLeast_34 ?_
  refine zf_nmk (fun k12 => ?_)
  refine zf_iconst hC (v := 1) dX4_searchLeast_37 rfl ?_
  refine zf_istore hC (LV' := [(7, .int 1), (6, .int r4), (4, .long r1), (0, .ref (g.2.1 3)), (1, .int a0), (2, .int (b2i a1)), (3, .int a2)]) dX4_searchLeast_38 (by decide) rfl ?_
  refine zf_lv (LV' := [(0, .ref (g.2.1 3)), (1, .int a0), (2, .int (b2i a1)), (3, .int a2), (4, .long r1), (6, .int r4), (7, .int 1)]) [3, 4, 5, 6, 2, 1, 0] rfl ?_
  refine zlpX4_searchLeast_40 hC hR a0 a1 a2 r1 r4 (fun y33 k34 => ?_) FU 1 k12
  exact zf_vret hC rfl dX4_searchLeast_101
/-! LifeKeys.Reach.lowestFree -/
theorem dX4_lowestFree_0 : decode cX4_lowestFree 0 = .ok (.lload_n 1, 1) := by decide +kernel
theorem dX4_lowestFree_1 : decode cX4_lowestFree 1 = .ok (.lstore_n 3, 1) := by decide +kernel
theorem dX4_lowestFree_2 : decode cX4_lowestFree 2 = .ok (.iconst 0, 1) := by decide +kernel
theorem dX4_lowestFree_3 : decode cX4_lowestFree 3 = .ok (.istore 5, 2) := by decide +kernel
theorem dX4_lowestFree_5 : decode cX4_lowestFree 5 = .ok (.iload 5, 2) := by decide +kernel
theorem dX4_lowestFree_7 : decode cX4_lowestFree 7 = .ok (.aload_n 0, 1) := by decide +kernel
theorem dX4_lowestFree_8 : decode cX4_lowestFree 8 = .ok (.getfield 48, 3) := by decide +kernel
theorem dX4_lowestFree_11 : decode cX4_lowestFree 11 = .ok (.if_icmp .ge 39, 3) := by decide +kernel
theorem dX4_lowestFree_14 : decode cX4_lowestFree 14 = .ok (.lload_n 1, 1) := by decide +kernel
theorem dX4_lowestFree_15 : decode cX4_lowestFree 15 = .ok (.aload_n 0, 1) := by decide +kernel
theorem dX4_lowestFree_16 : decode cX4_lowestFree 16 = .ok (.getfield 34, 3) := by decide +kernel
theorem dX4_lowestFree_19 : decode cX4_lowestFree 19 = .ok (.iload 5, 2) := by decide +kernel
theorem dX4_lowestFree_21 : decode cX4_lowestFree 21 = .ok (.iaload, 1) := by decide +kernel
theorem dX4_lowestFree_22 : decode cX4_lowestFree 22 = .ok (.invokestatic 113, 3) := by decide +kernel
theorem dX4_lowestFree_25 : decode cX4_lowestFree 25 = .ok (.ifCond .eq 19, 3) := by decide +kernel
theorem dX4_lowestFree_28 : decode cX4_lowestFree 28 = .ok (.lload_n 3, 1) := by decide +kernel
theorem dX4_lowestFree_29 : decode cX4_lowestFree 29 = .ok (.lconst 1, 1) := by decide +kernel
theorem dX4_lowestFree_30 : decode cX4_lowestFree 30 = .ok (.aload_n 0, 1) := by decide +kernel
theorem dX4_lowestFree_31 : decode cX4_lowestFree 31 = .ok (.getfield 37, 3) := by decide +kernel
theorem dX4_lowestFree_34 : decode cX4_lowestFree 34 = .ok (.iload 5, 2) := by decide +kernel
theorem dX4_lowestFree_36 : decode cX4_lowestFree 36 = .ok (.iaload, 1) := by decide +kernel
theorem dX4_lowestFree_37 : decode cX4_lowestFree 37 = .ok (.lshl, 1) := by decide +kernel
theorem dX4_lowestFree_38 : decode cX4_lowestFree 38 = .ok (.ldc2_w 111, 3) := by decide +kernel
theorem dX4_lowestFree_41 : decode cX4_lowestFree 41 = .ok (.lxor, 1) := by decide +kernel
theorem dX4_lowestFree_42 : decode cX4_lowestFree 42 = .ok (.land, 1) := by decide +kernel
theorem dX4_lowestFree_43 : decode cX4_lowestFree 43 = .ok (.lstore_n 3, 1) := by decide +kernel
theorem dX4_lowestFree_44 : decode cX4_lowestFree 44 = .ok (.iinc 5 1, 3) := by decide +kernel
theorem dX4_lowestFree_47 : decode cX4_lowestFree 47 = .ok (.goto (-42), 3) := by decide +kernel
theorem dX4_lowestFree_50 : decode cX4_lowestFree 50 = .ok (.iconst 0, 1) := by decide +kernel
theorem dX4_lowestFree_51 : decode cX4_lowestFree 51 = .ok (.istore 5, 2) := by decide +kernel
theorem dX4_lowestFree_53 : decode cX4_lowestFree 53 = .ok (.iload 5, 2) := by decide +kernel
theorem dX4_lowestFree_55 : decode cX4_lowestFree 55 = .ok (.bipush 40, 2) := by decide +kernel
theorem dX4_lowestFree_57 : decode cX4_lowestFree 57 = .ok (.if_icmp .ge 21, 3) := by decide +kernel
theorem dX4_lowestFree_60 : decode cX4_lowestFree 60 = .ok (.lload_n 3, 1) := by decide +kernel
theorem dX4_lowestFree_61 : decode cX4_lowestFree 61 = .ok (.iload 5, 2) := by decide +kernel
theorem dX4_lowestFree_63 : decode cX4_lowestFree 63 = .ok (.invokestatic 113, 3) := by decide +kernel
theorem dX4_lowestFree_66 : decode cX4_lowestFree 66 = .ok (.ifCond .eq 6, 3) := by decide +kernel
theorem dX4_lowestFree_69 : decode cX4_lowestFree 69 = .ok (.iload 5, 2) := by decide +kernel
theorem dX4_lowestFree_71 : decode cX4_lowestFree 71 = .ok (.ireturn, 1) := by decide +kernel
theorem dX4_lowestFree_72 : decode cX4_lowestFree 72 = .ok (.iinc 5 1, 3) := by decide +kernel
theorem dX4_lowestFree_75 : decode cX4_lowestFree 75 = .ok (.goto (-22), 3) := by decide +kernel
theorem dX4_lowestFree_78 : decode cX4_lowestFree 78 = .ok (.iconst (-1), 1) := by decide +kernel
theorem dX4_lowestFree_79 : decode cX4_lowestFree 79 = .ok (.ireturn, 1) := by decide +kernel
def lpX4_lowestFree_5 (v1 : Int64) : Nat → Int64 → Int32 → ST → (Int64 → Int32 → ST → Option (Int32 × ST)) → Option (Int32 × ST)
  | 0, _, _, _, _ => none
  | n + 1, v3, v5, k, cont => if (gI k 3 8) ≤ v5 then cont v3 v5 k else ck (inb v5 80) (ob (fX11_hasKey k v1 (gA k 24 (ix v5))) fun r3 k4 => if r3 = true then ck (inb v5 80) (nm (v3 &&& ((j_lshl 1 (gA k4 25 (ix v5))) ^^^ (-1))) fun x8 => lpX4_lowestFree_5 v1 n x8 (v5 + 1) k4 cont) else lpX4_lowestFree_5 v1 n v3 (v5 + 1) k4 cont)
def lpX4_lowestFree_53 (v1 : Int64) (v3 : Int64) : Nat → Int32 → ST → (Int32 → ST → Option (Int32 × ST)) → Option (Int32 × ST)
  | 0, _, _, _ => none
  | n + 1, v5, k, cont => if 40 ≤ v5 then cont v5 k else ob (fX11_hasKey k v3 v5) fun r13 k14 => if r13 = true then some (v5, k14) else lpX4_lowestFree_53 v1 v3 n (v5 + 1) k14 cont
set_option maxRecDepth 20000 in
theorem zlpX4_lowestFree_5 {p : Program} {l : Launch} {e : Env} {R : Room} {s : State} {m : MethodId} {args : Array Value} {below : List Frame} {meth : Method} {c : Code} {g : GT} (hC : HC p s m args meth c cX4_lowestFree 6 RX4 (some .int) g) (hR : 1 ≤ R.frames ∧ 22 ≤ R.locals)  (v1 : Int64) {cont : Int64 → Int32 → ST → Option (Int32 × ST)} (hk : ∀ (v3 : Int64) (v5 : Int32) (k : ST), ZF p l e R s m args below meth c g TK voI 6 k 50 [(0, .ref (g.2.1 3)), (1, .long v1), (3, .long v3), (5, .int v5)] [] (cont v3 v5 k)) : ∀ (n : Nat) (v3 : Int64) (v5 : Int32) (k : ST), ZF p l e R s m args below meth c g TK voI 6 k 5 [(0, .ref (g.2.1 3)), (1, .long v1), (3, .long v3), (5, .int v5)] [] (lpX4_lowestFree_5 v1 n v3 v5 k cont) := by
  intro n
  induction n with
  | zero => intros; exact zf_none
  | succ n ih =>
    intro v3 v5 k
    rw [lpX4_lowestFree_5]
    refine zf_iload hC dX4_lowestFree_5 3 rfl ?_
    refine zf_aload_n hC dX4_lowestFree_7 rfl 0 rfl ?_
    refine gf_368 hC dX4_lowestFree_8 ?_
    refine zf_icmp_ge hC (tgt := 50) dX4_lowestFree_11 (by decide) (fun h1 => ?_) (fun h1 => ?_)
    · refine zf_lv (LV' := [(0, .ref (g.2.1 3)), (1, .long v1), (3, .long v3), (5, .int v5)]) [0, 1, 2, 3] rfl ?_
      exact hk v3 v5 k
    · refine zf_lload_n hC dX4_lowestFree_14 rfl 1 rfl ?_
      refine zf_aload_n hC dX4_lowestFree_15 rfl 0 rfl ?_
      refine gf_366 hC dX4_lowestFree_16 ?_
      refine zf_iload hC dX4_lowestFree_19 3 rfl ?_
      refine zf_iald hC (j := 24) ia_24 rfl rfl dX4_lowestFree_21 (fun h2 => ?_)
      refine zf_callSN hC (c_X11_hasKey l g TK v1 (gA k 24 (ix v5))) mt_X11_hasKey wd_538 wd_740 rfl (rm_le hR rfl) rfl rfl (rest := []) rfl (Nat.le_of_ble_eq_true rfl) dX4_lowestFree_22 (fun r3 k4 h5 => ?_)
      refine zf_ifb_eq hC (tgt := 44) dX4_lowestFree_25 (by decide) (fun h6 => ?_) (fun h6 => ?_)
      · refine zf_lload_n hC dX4_lowestFree_28 rfl 2 rfl ?_
        refine zf_lconst hC (v := 1) dX4_lowestFree_29 rfl ?_
        refine zf_aload_n hC dX4_lowestFree_30 rfl 0 rfl ?_
        refine gf_367 hC dX4_lowestFree_31 ?_
        refine zf_iload hC dX4_lowestFree_34 3 rfl ?_
        refine zf_iald hC (j := 25) ia_25 rfl rfl dX4_lowestFree_36 (fun h7 => ?_)
        refine zf_lshl hC dX4_lowestFree_37 ?_
        refine zf_ldc2 hC wd_739 dX4_lowestFree_38 ?_
        refine zf_lxor hC dX4_lowestFree_41 ?_
        refine zf_land hC dX4_lowestFree_42 ?_
        refine zf_nml (fun x8 => ?_)
        refine zf_lstore_n hC (LV' := [(3, .long x8), (0, .ref (g.2.1 3)), (1, .long v1), (5, .int v5)]) dX4_lowestFree_43 rfl (by decide) rfl ?_
        refine zf_iinc hC (q := 3) (v := v5 + 1) (LV' := [(5, .int (v5 + 1)), (3, .long x8), (0, .ref (g.2.1 3)), (1, .long v1)]) dX4_lowestFree_44 rfl rfl (by decide) rfl ?_
        refine zf_goto hC (tgt := 5) dX4_lowestFree_47 (by decide) ?_
        refine zf_lv (LV' := [(0, .ref (g.2.1 3)), (1, .long v1), (3, .long x8), (5, .int (v5 + 1))]) [2, 3, 1, 0] rfl ?_
        exact ih x8 (v5 + 1) k4
      · refine zf_iinc hC (q := 3) (v := v5 + 1) (LV' := [(5, .int (v5 + 1)), (0, .ref (g.2.1 3)), (1, .long v1), (3, .long v3)]) dX4_lowestFree_44 rfl rfl (by decide) rfl ?_
        refine zf_goto hC (tgt := 5) dX4_lowestFree_47 (by decide) ?_
        refine zf_lv (LV' := [(0, .ref (g.2.1 3)), (1, .long v1), (3, .long v3), (5, .int (v5 + 1))]) [1, 2, 3, 0] rfl ?_
        exact ih v3 (v5 + 1) k4
set_option maxRecDepth 20000 in
theorem zlpX4_lowestFree_53 {p : Program} {l : Launch} {e : Env} {R : Room} {s : State} {m : MethodId} {args : Array Value} {below : List Frame} {meth : Method} {c : Code} {g : GT} (hC : HC p s m args meth c cX4_lowestFree 6 RX4 (some .int) g) (hR : 1 ≤ R.frames ∧ 22 ≤ R.locals)  (v1 : Int64) (v3 : Int64) {cont : Int32 → ST → Option (Int32 × ST)} (hk : ∀ (v5 : Int32) (k : ST), ZF p l e R s m args below meth c g TK voI 6 k 78 [(0, .ref (g.2.1 3)), (1, .long v1), (3, .long v3), (5, .int v5)] [] (cont v5 k)) : ∀ (n : Nat) (v5 : Int32) (k : ST), ZF p l e R s m args below meth c g TK voI 6 k 53 [(0, .ref (g.2.1 3)), (1, .long v1), (3, .long v3), (5, .int v5)] [] (lpX4_lowestFree_53 v1 v3 n v5 k cont) := by
  intro n
  induction n with
  | zero => intros; exact zf_none
  | succ n ih =>
    intro v5 k
    rw [lpX4_lowestFree_53]
    refine zf_iload hC dX4_lowestFree_53 3 rfl ?_
    refine zf_bipush hC (v := 40) dX4_lowestFree_55 rfl ?_
    refine zf_icmp_ge hC (tgt := 78) dX4_lowestFree_57 (by decide) (fun h12 => ?_) (fun h12 => ?_)
    · refine zf_lv (LV' := [(0, .ref (g.2.1 3)), (1, .long v1), (3, .long v3), (5, .int v5)]) [0, 1, 2, 3] rfl ?_
      exact hk v5 k
    · refine zf_lload_n hC dX4_lowestFree_60 rfl 2 rfl ?_
      refine zf_iload hC dX4_lowestFree_61 3 rfl ?_
      refine zf_callSN hC (c_X11_hasKey l g TK v3 v5) mt_X11_hasKey wd_538 wd_740 rfl (rm_le hR rfl) rfl rfl (rest := []) rfl (Nat.le_of_ble_eq_true rfl) dX4_lowestFree_63 (fun r13 k14 h15 => ?_)
      refine zf_ifb_eq hC (tgt := 72) dX4_lowestFree_66 (by decide) (fun h16 => ?_) (fun h16 => ?_)
      · refine zf_iload hC dX4_lowestFree_69 3 rfl ?_
        exact zf_iret hC rfl dX4_lowestFree_71
      · refine zf_iinc hC (q := 3) (v := v5 + 1) (LV' := [(5, .int (v5 + 1)), (0, .ref (g.2.1 3)), (1, .long v1), (3, .long v3)]) dX4_lowestFree_72 rfl rfl (by decide) rfl ?_
        refine zf_goto hC (tgt := 53) dX4_lowestFree_75 (by decide) ?_
        refine zf_lv (LV' := [(0, .ref (g.2.1 3)), (1, .long v1), (3, .long v3), (5, .int (v5 + 1))]) [1, 2, 3, 0] rfl ?_
        exact ih (v5 + 1) k14
def fX4_lowestFree (k : ST) (a0 : Int64) : Option (Int32 × ST) := lpX4_lowestFree_5 a0 FU a0 0 k fun y9 y10 k11 => lpX4_lowestFree_53 a0 y9 FU 0 k11 fun y17 k18 => some ((-1), k18)
set_option maxRecDepth 20000 in
theorem c_X4_lowestFree (l : Launch) (g : GT) (a0 : Int64) : CN l yX4_lowestFree cX4_lowestFree 6 (some .int) { frames := 1, cells := 0, slots := 0, locals := 22 } g TK voI [.ref (g.2.1 3), .long a0] (fun k => fX4_lowestFree k a0) := by
  refine cn_of (by decide) (Nat.le_of_ble_eq_true rfl) ?_
  intro p e s m args below meth c hC k
  have hC : HC p s m args meth c cX4_lowestFree 6 RX4 (some .int) g := hC
  have hR : 1 ≤ ({ frames := 1, cells := 0, slots := 0, locals := 22 } : Room).frames ∧ 22 ≤ ({ frames := 1, cells := 0, slots := 0, locals := 22 } : Room).locals := ⟨Nat.le_refl _, Nat.le_refl _⟩
  show ZF p l e _ s m args below meth c g TK voI 6 k 0 [(0, .ref (g.2.1 3)), (1, .long a0)] [] (fX4_lowestFree k a0)
  unfold fX4_lowestFree
  refine zf_lload_n hC dX4_lowestFree_0 rfl 1 rfl ?_
  refine zf_lstore_n hC (LV' := [(3, .long a0), (0, .ref (g.2.1 3)), (1, .long a0)]) dX4_lowestFree_1 rfl (by decide) rfl ?_
  refine zf_iconst hC (v := 0) dX4_lowestFree_2 rfl ?_
  refine zf_istore hC (LV' := [(5, .int 0), (3, .long a0), (0, .ref (g.2.1 3)), (1, .long a0)]) dX4_lowestFree_3 (by decide) rfl ?_
  refine zf_lv (LV' := [(0, .ref (g.2.1 3)), (1, .long a0), (3, .long a0), (5, .int 0)]) [2, 3, 1, 0] rfl ?_
  refine zlpX4_lowestFree_5 hC hR a0 (fun y9 y10 k11 => ?_) FU a0 0 k
  refine zf_iconst hC (v := 0) dX4_lowestFree_50 rfl ?_
  refine zf_istore hC (LV' := [(5, .int 0), (0, .ref (g.2.1 3)), (1, .long a0), (3, .long y9)]) dX4_lowestFree_51 (by decide) rfl ?_
  refine zf_lv (LV' := [(0, .ref (g.2.1 3)), (1, .long a0), (3, .long y9), (5, .int 0)]) [1, 2, 3, 0] rfl ?_
  refine zlpX4_lowestFree_53 hC hR a0 y9 (fun y17 k18 => ?_) FU 0 k11
  refine zf_iconst hC (v := (-1)) dX4_lowestFree_78 rfl ?_
  exact zf_iret hC rfl dX4_lowestFree_79
