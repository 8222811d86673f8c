theorem may_of {kc d h bc : Nat} {k n : ST} (hBB : gB d h k n) (hK : gKeys kc d k n) (hU : gBurn bc k n) {a : Nat} (ha : a < kc) : ∃ b, fX1_maySign k (nI a) (nI d) = some (b, k) ∧ fX12_maySign n (nI a) = some (b, n) := by
  obtain ⟨b1, b2, b3, b4, b5, b6⟩ := hBB
  obtain ⟨q1, q2, q3, q4, q5, q6, q7, q8, q9⟩ := hK
  obtain ⟨r, r1, r2⟩ := burnt_of hU (nI a) (nI d)
  have g1 : inb (nI a) 40 = true := inb_nI (by omega) (by decide)
  have g2 : ix (nI a) = a := ix_nI (by omega)
  unfold fX1_maySign fX12_maySign fX1_isBurnt
  rw [r1, b3, r2, ob_some, ob_some, g1, ck_true, g2, q8]
  by_cases h1 : r = -1
  · rw [if_pos h1, if_pos h1, ob_some, if_neg (by decide), ck_true]
    by_cases h2 : gA k 4 a = -1
    · rw [if_pos h2, if_pos h2]
      exact ⟨true, rfl, rfl⟩
    · rw [if_neg h2, if_neg h2]
      exact ⟨false, rfl, rfl⟩
  · rw [if_neg h1, if_neg h1, b3]
    by_cases h3 : nI d < r
    · rw [if_pos h3, if_neg (Int32.not_le.mpr h3), ob_some, if_neg (by decide), ck_true]
      by_cases h2 : gA k 4 a = -1
      · rw [if_pos h2, if_pos h2]
        exact ⟨true, rfl, rfl⟩
      · rw [if_neg h2, if_neg h2]
        exact ⟨false, rfl, rfl⟩
    · rw [if_neg h3, if_pos (Int32.not_lt.mp h3), ob_some, if_pos rfl]
      exact ⟨false, rfl, rfl⟩
def addG (k : ST) (ic : Nat) (r s a i d : Int32) : ST := sI (sA (sA (sA (sA (sA k 37 ic r) 38 ic s) 39 ic a) 40 ic i) 41 ic d) 6 0 (nI (ic + 1))
def addH (n : ST) (ic : Nat) (r s a i d : Int32) : ST := sI (sA (sA (sA (sA (sA n 139 ic r) 140 ic s) 141 ic a) 142 ic i) 143 ic d) 11 77 (nI (ic + 1))
theorem add7_of {k : ST} {ic : Nat} (e : gI k 6 0 = nI ic) (hc : ic < 80) (r s a i d : Int32) : fX7_add k r s a i d = some (nI ic, addG k ic r s a i d) := by
  have f1 : (nI ic < 80) = True := eq_true (nI_lt (b := 80) hc (by decide))
  have f4 : inb (nI ic) 80 = true := inb_nI hc (by decide)
  have f5 : ix (nI ic) = ic := ix_nI (by omega)
  unfold fX7_add fX7_isFull addG
  simp only [e, f1, f4, f5, nm_eq, ob_some, ck_true, gI_sI, gI_sA, gA_sI, gA_sA, gL_sI, gL_sA, Nat.reduceEqDiff, eq_self, if_true, if_false, reduceIte, ite_self, Bool.false_eq_true, nI_1, nI_pred]
theorem add7_full {k : ST} (e : gI k 6 0 = nI 80) (r s a i d : Int32) : fX7_add k r s a i d = some (-1, k) := by
  unfold fX7_add fX7_isFull
  rw [e, if_neg (by decide), ob_some, if_pos rfl]
theorem keeps_of {n : ST} {ic d : Nat} (e : gI n 11 77 = nI ic) (e1 : gI n 11 1 = nI d) (hc : ic < 80) (r s a i : Int32) : fX12_keeps n r s a i = some (nI ic, addH n ic r s a i (nI d)) := by
  have f4 : inb (nI ic) 80 = true := inb_nI hc (by decide)
  have f5 : ix (nI ic) = ic := ix_nI (by omega)
  unfold fX12_keeps addH
  simp only [e, e1, f4, f5, nm_eq, ob_some, ck_true, gI_sI, gI_sA, gA_sI, gA_sA, gL_sI, gL_sA, Nat.reduceEqDiff, eq_self, if_true, if_false, reduceIte, ite_self, Bool.false_eq_true, nI_1, nI_pred]
theorem sig_rel {t d h kc bc gc wc pc rc dc tc sc ic lc fc ln bn : Nat} {k n : ST} (r s i : Int32) {a : Nat} (hc : ic < 80) (ha : a < kc) (hBB : gB d h k n) (hK : gKeys kc d k n) (hU : gBurn bc k n) (hG : gTurn t gc h kc d k n) (hW : gWrap wc kc d k n) (hP : gPart pc kc h d k n) (hR : gRule rc k n) (hD : gDeath dc h rc d k n) (hT : gThing tc kc rc d k n) (hS : gSay sc h tc d k n) (hI : gSig ic kc d k n) (hL : gLoan lc kc k n) (hF : gFall fc h k n) (hA : gTape ln k n) (hJ : gBench bn h k n) (hX : gFalse h k n) :
    Rel t (addG k ic r s (nI a) i (nI d)) (addH n ic r s (nI a) i (nI d)) := by
  obtain ⟨i1, i2, i3, i4, i5, i6, i7, i8, i9⟩ := hI
  unfold addG addH
  refine ⟨d, h, kc, bc, gc, wc, pc, rc, dc, tc, sc, ic + 1, lc, fc, ln, bn, hBB, hK, hU, hG, hW, gPart.fr (hP) rfl rfl rfl rfl rfl rfl rfl rfl rfl rfl rfl rfl rfl (fun i => by simp (config := {decide := true}) only [row_sA, gA_sI]), hR, hD, hT, hS, ⟨hc, rfl, rfl, congrArg (fun f => upd f ic r) i4, congrArg (fun f => upd f ic s) i5, congrArg (fun f => upd f ic (nI a)) i6, congrArg (fun f => upd f ic i) i7, congrArg (fun f => upd f ic (nI d)) i8, ?_⟩, hL, hF, hA, hJ, hX⟩
  show ∀ j, j < ic + 1 → (∃ a', a' < kc ∧ upd (gA k 39) ic (nI a) j = nI a') ∧ ∃ e, e ≤ d ∧ upd (gA k 41) ic (nI d) j = nI e
  refine ext1 (fun j hj => ?_) ?_
  · rw [un (by omega), un (by omega)]
    exact i9 j hj
  · rw [us, us]
    exact ⟨⟨a, ha, rfl⟩, d, Nat.le_refl d, rfl⟩
/-- one signature: r and s -/
theorem alone_of {kc tc rc d ic h : Nat} {k : ST} {n : ST} (hBB : gB d h k n) (hK : gKeys kc d k n) (hT : gThing tc kc rc d k n) (hI : gSig ic kc d k n) {a i e : Nat} (ha : a < kc) (hi : i < tc) (he : e < 1019) :
    ∃ r s, fX11_signAlone k (nI a) (nI i) (nI e) = ob (fX7_add k r s (nI a) (nI i) (nI d)) (fun r15 k16 => some (r15, k16)) ∧ fX12_signs n (nI a) (nI i) (nI e) = ob (fX12_keeps n r s (nI a) (nI i)) (fun r15 k16 => some (r15, k16)) := by
  obtain ⟨b1, b2, b3, b4, b5, b6⟩ := hBB
  obtain ⟨q1, q2, q3, q4, q5, q6, q7, q8, q9⟩ := hK
  obtain ⟨t1, t2, t3, t4, t5, t6, t7, t8, t9, t10⟩ := hT
  obtain ⟨⟨s, s0, s1, s2⟩, _⟩ := q9 a ha
  obtain ⟨⟨v, v1, v2⟩, _⟩ := t9 i hi
  have l1 : 4 ^ e % 2039 < 2039 := Nat.mod_lt _ (by decide)
  have l2 : (4 ^ e % 2039 + 7 * v) % 1019 < 1019 := Nat.mod_lt _ (by decide)
  refine ⟨nI (4 ^ e % 2039), nI ((e + (4 ^ e % 2039 + 7 * v) % 1019 * s) % 1019), ?_, ?_⟩
  · unfold fX11_signAlone
    rw [four_K k (by omega), ob_some, inb_nI (show i < 40 by omega) (by decide), ck_true, ix_nI (show i < 2 ^ 31 by omega), v2, chal_of k (by omega) (by omega), ob_some, inb_nI (show a < 40 by omega) (by decide), ck_true, ix_nI (show a < 2 ^ 31 by omega), s2, times_of k (by omega) (by omega), ob_some, sum_of k (by omega) (Nat.lt_trans (Nat.mod_lt _ (by decide)) (by decide)), ob_some, b2, Nat.add_mod_mod]
  · unfold fX12_signs
    generalize hA : 4 ^ e % 2039 = A at *
    generalize hC : (A + 7 * v) % 1019 = C at *
    have l3 : C * s ≤ 1018 * 1018 := Nat.mul_le_mul (by omega) (by omega)
    rw [four_M n (by omega), ob_some, hA, inb_nI (show i < 40 by omega) (by decide), ck_true, ix_nI (show i < 2 ^ 31 by omega), t4, v2, chal_M n (by omega) (by omega), ob_some, hC, inb_nI (show a < 40 by omega) (by decide), ck_true, ix_nI (show a < 2 ^ 31 by omega), q5, s2, pk_mul, show j_rem (nI e + nI (C * s)) 1019 = nI ((e + C * s) % 1019) from rem_add (m := 1019) (by omega) (by omega) (by decide) (by decide)]
theorem pair_sign (t : Nat) (k n : ST) (a0 : Int32) (a1 : Int32) (a2 : Int32) (a3 : Int32) (ht : t < 512) (hr : Rel t k n) : PR (t + 1) (fX11_sign k a0 a1 a2 a3) (fX12_sign n a0 a1 a2 a3) := by
  have hr1 := rel_thr 0 hr
  unfold fX11_sign fX12_sign 
  simp only [nm_eq]
  generalize sI n 11 0 0 = n at hr1 ⊢
  have hr0 := rel_step hr1
  obtain ⟨d, h, kc, bc, gc, wc, pc, rc, dc, tc, sc, ic, lc, fc, ln, bn, hB, hK, hU, hG, hW, hP, hR, hD, hT, hS, hI, hL, hF, hA, hJ, hX⟩ := hr1
  obtain ⟨b1, b2, b3, b4, b5, b6⟩ := id hB
  obtain ⟨q1, q2, q3, q4, q5, q6, q7, q8, q9⟩ := id hK
  obtain ⟨t1, t2, t3, t4, t5, t6, t7, t8, t9, t10⟩ := id hT
  obtain ⟨i1, i2, i3, i4, i5, i6, i7, i8, i9⟩ := id hI
  have hbit : ∀ x, x < h → j_shl 1 (nI x) = nI (2 ^ x) := fun x hx => shl1 x (by omega)
  rw [i3]
  by_cases hc : ic = 80
  · subst hc
    rw [if_pos (show nI 80 = 80 from rfl)]
    rw [sX11_isHolder b5 (by omega), ob_some]
    by_cases h1 : inb a0 h = true
    case neg =>
      rw [if_neg h1]
      exact PR_mk hr0
    rw [if_pos h1]
    rw [sX1_knows q2 (by omega), ob_some]
    by_cases h2 : inb a1 kc = true
    case neg =>
      rw [if_neg h2]
      exact PR_mk hr0
    rw [if_pos h2]
    rw [sX9_knows t2 (by omega), ob_some]
    by_cases h3 : inb a2 tc = true
    case neg =>
      rw [if_neg h3]
      exact PR_mk hr0
    rw [if_pos h3]
    rw [sec_of, ob_some]
    by_cases h4 : in1 a3 1 1018 = true
    case neg =>
      rw [if_neg h4]
      exact PR_mk hr0
    rw [if_pos h4]
    obtain ⟨x, hx, rfl⟩ := inb_of h1 (by omega)
    obtain ⟨a, ha, rfl⟩ := inb_of h2 (by omega)
    obtain ⟨i, hi, rfl⟩ := inb_of h3 (by omega)
    obtain ⟨e, e1, e2, rfl⟩ := in1_of h4 (by decide)
    obtain ⟨mb, m1, m2⟩ := may_of hB hK hU ha
    obtain ⟨k', n', hold, c1, c2, c3, c4, c5⟩ := reach_of (by omega) hB hK hG hW hP (Nat.le_refl d)
    have cM : ∀ S, S < 2 ^ h → fX12_closes n' (nI S) (nI d) (-1) 0 = some (lN (getS k (nI d) kc wc pc (fun i => vN (gA k 15 i)) hold S), n') := fun S hS => closes_M (by rw [c4.i 11 12 (by decide)]; exact b6) (c4.gK hK) (c4.gW hW) (c4.gP hP) b4 (by omega) b1 (fun i => vN_lt _) (fun x hx => (c3.2.2.2 x hx).1) c5 hS (-1) 0 (need_no (c4.gP hP))
    have cK : ∀ S, S < 2 ^ h → fX4_gets k' (nI S) = some (lN (getS k (nI d) kc wc pc (fun i => vN (gA k 15 i)) hold S), k') := fun S hS => gets_K hK hW hP b4 (fun i => vN_lt _) c3 (Nat.lt_of_lt_of_le hS (pow_le12 b4))

    rw [b2, m1, ob_some]
    cases mb
    · exact PR_mk hr0
    unfold fX11_getsNow
    rw [if_pos rfl, b2, c1, ob_some, hbit x hx, cK (2 ^ x) (Nat.pow_lt_pow_right (by decide) hx), ob_some, hasKey_of k' (Nat.lt_trans (get_lt hK hW hP (fun x hx => (c3.2.2.2 x hx).1) _) (by decide)) (by omega), ob_some, ob_some]
    by_cases h6 : (getS k (nI d) kc wc pc (fun i => vN (gA k 15 i)) hold (2 ^ x)).testBit a = true
    case neg =>
      rw [if_neg h6]
      exact PR_mk (c3.1.rel hr0)
    rw [if_pos h6]
    obtain ⟨r, s, y1, y2⟩ := alone_of (k := k') (n := n) (by rw [c3.1.eq]; exact hB) (by rw [c3.1.eq]; exact hK) (by rw [c3.1.eq]; exact hT) (by rw [c3.1.eq]; exact hI) ha hi (show e < 1019 by omega)
    rw [y1, add7_full (by rw [c3.1.i 6 0 (by decide) (by decide)]; exact i2), ob_some, ob_some]
    exact PR_mk (c3.1.rel hr0)
  have hc : ic < 80 := by omega
  rw [if_neg (fun z => by have := (nI_eq (b := 80) (by omega) (by decide)).mp z; omega)]
  rw [sX11_isHolder b5 (by omega), sX12_isHolder b6 (by omega), ob_some, ob_some]
  by_cases h1 : inb a0 h = true
  case neg =>
    rw [if_neg h1, if_neg h1]
    exact PR_mk hr0
  rw [if_pos h1, if_pos h1]
  rw [sX1_knows q2 (by omega), sX12_isKey q3 (by omega), ob_some, ob_some]
  by_cases h2 : inb a1 kc = true
  case neg =>
    rw [if_neg h2, if_neg h2]
    exact PR_mk hr0
  rw [if_pos h2, if_pos h2]
  rw [sX9_knows t2 (by omega), sX12_isThing t3 (by omega), ob_some, ob_some]
  by_cases h3 : inb a2 tc = true
  case neg =>
    rw [if_neg h3, if_neg h3]
    exact PR_mk hr0
  rw [if_pos h3, if_pos h3]
  rw [sec_of, show fX12_isIn n a3 1 1018 = some (in1 a3 1 1018, n) from isIn_nI n a3 1 1018 (by decide) (by decide), ob_some, ob_some]
  by_cases h4 : in1 a3 1 1018 = true
  case neg =>
    rw [if_neg h4, if_neg h4]
    exact PR_mk hr0
  rw [if_pos h4, if_pos h4]
  obtain ⟨x, hx, rfl⟩ := inb_of h1 (by omega)
  obtain ⟨a, ha, rfl⟩ := inb_of h2 (by omega)
  obtain ⟨i, hi, rfl⟩ := inb_of h3 (by omega)
  obtain ⟨e, e1, e2, rfl⟩ := in1_of h4 (by decide)
  obtain ⟨mb, m1, m2⟩ := may_of hB hK hU ha
  obtain ⟨k', n', hold, c1, c2, c3, c4, c5⟩ := reach_of (by omega) hB hK hG hW hP (Nat.le_refl d)
  have cM : ∀ S, S < 2 ^ h → fX12_closes n' (nI S) (nI d) (-1) 0 = some (lN (getS k (nI d) kc wc pc (fun i => vN (gA k 15 i)) hold S), n') := fun S hS => closes_M (by rw [c4.i 11 12 (by decide)]; exact b6) (c4.gK hK) (c4.gW hW) (c4.gP hP) b4 (by omega) b1 (fun i => vN_lt _) (fun x hx => (c3.2.2.2 x hx).1) c5 hS (-1) 0 (need_no (c4.gP hP))
  have cK : ∀ S, S < 2 ^ h → fX4_gets k' (nI S) = some (lN (getS k (nI d) kc wc pc (fun i => vN (gA k 15 i)) hold S), k') := fun S hS => gets_K hK hW hP b4 (fun i => vN_lt _) c3 (Nat.lt_of_lt_of_le hS (pow_le12 b4))
  rw [b2, m1, m2, ob_some, ob_some]
  cases mb
  · exact PR_mk hr0
  have hl := get_lt (q := nI d) (nd := fun i => vN (gA k 15 i)) hK hW hP (fun x hx => (c3.2.2.2 x hx).1) (2 ^ x)
  unfold fX11_getsNow fX12_gets
  rw [if_pos rfl, if_pos rfl, b2, b3, c1, c2, ob_some, ob_some, hbit x hx, cK (2 ^ x) (Nat.pow_lt_pow_right (by decide) hx), cM (2 ^ x) (Nat.pow_lt_pow_right (by decide) hx), ob_some, ob_some, ob_some, hasKey_of k' (Nat.lt_trans hl (by decide)) (by omega), ob_some, ob_some, ifeq (lbit0 hl (show a < 64 by omega))]
  have hrel := c4.rel (c3.1.rel hr0)
  by_cases h6 : (getS k (nI d) kc wc pc (fun i => vN (gA k 15 i)) hold (2 ^ x)).testBit a = true
  case neg =>
    rw [if_neg h6, if_pos h6]
    exact PR_mk hrel
  rw [if_pos h6, if_neg (fun z => z h6)]
  have HB : gB d h k' n' := by rw [c3.1.eq, c4.eq]; exact hB
  have HK : gKeys kc d k' n' := by rw [c3.1.eq, c4.eq]; exact hK
  have HT : gThing tc kc rc d k' n' := by rw [c3.1.eq, c4.eq]; exact hT
  have HI : gSig ic kc d k' n' := by rw [c3.1.eq, c4.eq]; exact hI
  obtain ⟨r, s, y1, y2⟩ := alone_of HB HK HT HI ha hi (show e < 1019 by omega)
  rw [y1, y2, add7_of HI.2.1 hc, keeps_of HI.2.2.1 HB.2.2.1 hc, ob_some, ob_some, ob_some, ob_some]
  refine PR_mk (sig_rel r s (nI i) hc ha HB HK (by rw [c3.1.eq, c4.eq]; exact hU) (by rw [c3.1.eq, c4.eq]; exact hG.mono (Nat.le_succ t) (Nat.le_refl _) (Nat.le_refl _) (Nat.le_refl _)) (by rw [c3.1.eq, c4.eq]; exact hW) (c4.gP (c3.1.gP hP)) (by rw [c3.1.eq, c4.eq]; exact hR) (by rw [c3.1.eq, c4.eq]; exact hD) HT (by rw [c3.1.eq, c4.eq]; exact hS) HI (by rw [c3.1.eq, c4.eq]; exact hL) (by rw [c3.1.eq, c4.eq]; exact hF) (by rw [c3.1.eq, c4.eq]; exact hA) (by rw [c3.1.eq, c4.eq]; exact hJ) (by rw [c3.1.eq, c4.eq]; exact hX))
theorem sA_comm (k : ST) {r r' : Nat} (hr : r ≠ r') (i j : Nat) (v w : Int32) : sA (sA k r i v) r' j w = sA (sA k r' j w) r i v := by
  unfold sA
  refine congrArg (fun z => (k.1, z, k.2.2)) (funext fun a => ?_)
  dsimp only
  by_cases h1 : a = r
  · rw [if_neg (by omega), if_pos h1, if_pos h1, if_neg (by omega)]
  · rw [if_neg h1]
    by_cases h2 : a = r'
    · rw [if_pos h2, if_neg h1]
    · rw [if_neg h2, if_neg h1]
theorem addG_10 (k : ST) (ic : Nat) (r s a i d : Int32) (j : Nat) (v : Int32) : sA (addG k ic r s a i d) 10 j v = addG (sA k 10 j v) ic r s a i d := by
  unfold addG
  rw [show ∀ z : ST, sA (sI z 6 0 (nI (ic + 1))) 10 j v = sI (sA z 10 j v) 6 0 (nI (ic + 1)) from fun z => rfl, sA_comm _ (show 41 ≠ 10 by decide), sA_comm _ (show 40 ≠ 10 by decide), sA_comm _ (show 39 ≠ 10 by decide), sA_comm _ (show 38 ≠ 10 by decide), sA_comm _ (show 37 ≠ 10 by decide)]
def svB (k : ST) (j : Nat) (a1 q : Int32) : Bool := decide (gA k 12 j = 0) && (!decide (gA k 9 j < q) && (decide (0 < gA k 10 j) && (decide (gA k 11 j = -1) || decide (gA k 11 j = a1))))
theorem serves_of {k : ST} {lc j : Nat} (l2 : gI k 1 0 = nI lc) (hl : lc ≤ 40) (hj : j < lc) (a1 q : Int32) : fX2_serves k (nI j) a1 q = some (svB k j a1 q, k) := by
  have g1 : inb (nI j) 40 = true := inb_nI (by omega) (by decide)
  have g2 : ix (nI j) = j := ix_nI (by omega)
  unfold fX2_serves svB
  rw [sX2_knows l2 (by omega), ob_some, if_pos (inb_nI hj (by omega))]
  simp only [g1, g2, ck_true]
  by_cases x1 : gA k 12 j = 0
  · by_cases x2 : gA k 9 j < q
    · simp [x1, x2]
    · by_cases x3 : 0 < gA k 10 j
      · by_cases x4 : gA k 11 j = -1
        · simp [x1, x2, x3, x4]
        · by_cases x5 : gA k 11 j = a1
          · simp only [x1, x2, x3, x4, x5, if_true, if_false, decide_true, decide_false, Bool.not_false, Bool.and_true, Bool.or_true, ite_self]
          · simp only [x1, x2, x3, x4, x5, if_true, if_false, decide_true, decide_false, Bool.not_false, Bool.and_false, Bool.or_false]
      · simp [x1, x2, x3]
  · simp [x1]
theorem serves_M {k n : ST} {lc kc d h j : Nat} (hBB : gB d h k n) (hL : gLoan lc kc k n) (hj : j < lc) (a1 : Int32) (JB R : Option (Int32 × ST)) :
    (ck (inb (nI j) 40) (if (gA n 151 (ix (nI j))) = 0 then ck (inb (nI j) 40) (if (gA n 148 (ix (nI j))) < (gI n 11 1) then R else ck (inb (nI j) 40) (if (gA n 149 (ix (nI j))) = 0 then R else ck (inb (nI j) 40) (if (gA n 150 (ix (nI j))) = (-1) then JB else ck (inb (nI j) 40) (if (gA n 150 (ix (nI j))) = a1 then JB else R)))) else R)) = if svB k j a1 (nI d) = true then JB else R := by
  obtain ⟨l1, l2, l3, l4, l5, l6, l7, l8, l9, l10⟩ := hL
  obtain ⟨⟨a, ha, a1'⟩, ⟨u, u1, u2⟩, ⟨bb, bb1⟩⟩ := l9 j hj
  have g1 : inb (nI j) 40 = true := inb_nI (by omega) (by decide)
  have g2 : ix (nI j) = j := ix_nI (by omega)
  unfold svB
  simp only [g1, g2, ck_true, l5, l6, l7, l8, hBB.2.2.1]
  by_cases x1 : gA k 12 j = 0
  · by_cases x2 : gA k 9 j < nI d
    · simp [x1, x2]
    · by_cases x3 : 0 < gA k 10 j
      · have x3' : ¬ gA k 10 j = 0 := fun z => by rw [z] at x3; exact absurd x3 (by decide)
        by_cases x4 : gA k 11 j = -1
        · simp [x1, x2, x3, x3', x4]
        · by_cases x5 : gA k 11 j = a1
          · simp only [x1, x2, x3, x3', x4, x5, if_true, if_false, decide_true, decide_false, Bool.not_false, Bool.and_true, Bool.or_true, ite_self]
          · simp only [x1, x2, x3, x3', x4, x5, if_true, if_false, decide_true, decide_false, Bool.not_false, Bool.and_false, Bool.or_false, Bool.false_eq_true]
      · have x3' : gA k 10 j = 0 := by
          rw [u2] at x3 ⊢
          rcases Nat.eq_zero_or_pos u with z | z
          · rw [z]
            rfl
          · exact absurd (show (0 : Int32) < nI u from nI_lt (a := 0) z (by omega)) x3
        have x0 : ¬ (0 : Int32) < 0 := by decide
        simp only [x1, x2, x0, x3', if_true, if_false, decide_true, decide_false, Bool.not_false, Bool.and_false, Bool.false_and, Bool.false_eq_true]
  · simp [x1]
theorem pair_use (t : Nat) (k n : ST) (a0 : Int32) (a1 : Int32) (a2 : Int32) (ht : t < 512) (hr : Rel t k n) : PR (t + 1) (fX11_use k a0 a1 a2) (fX12_use n a0 a1 a2) := by
  have hr1 := rel_thr 0 hr
  unfold fX11_use fX12_use 
  simp only [nm_eq]
  generalize sI n 11 0 0 = n at hr1 ⊢
  have hr0 := rel_step hr1
  obtain ⟨d, h, kc, bc, gc, wc, pc, rc, dc, tc, sc, ic, lc, fc, ln, bn, hB, hK, hU, hG, hW, hP, hR, hD, hT, hS, hI, hL, hF, hA, hJ, hX⟩ := hr1
  obtain ⟨b1, b2, b3, b4, b5, b6⟩ := id hB
  obtain ⟨q1, q2, q3, q4, q5, q6, q7, q8, q9⟩ := id hK
  obtain ⟨t1, t2, t3, t4, t5, t6, t7, t8, t9, t10⟩ := id hT
  obtain ⟨i1, i2, i3, i4, i5, i6, i7, i8, i9⟩ := id hI
  obtain ⟨l1, l2, l3, l4, l5, l6, l7, l8, l9, l10⟩ := id hL
  have hin : fX12_isIn n a2 1 1018 = some (in1 a2 1 1018, n) := isIn_nI n a2 1 1018 (by decide) (by decide)
  simp only [i3, l3, isIn_cnt n a0 lc (show lc < 2 ^ 30 by omega), ob_some, sX12_isThing t3 (show tc < 2 ^ 31 by omega), hin]
  by_cases h1 : inb a0 lc = true
  case neg =>
    unfold fX2_serves
    simp only [sX2_knows l2 (show lc < 2 ^ 31 by omega), h1, ob_some, if_false, Bool.false_eq_true, ite_self]
    exact PR_mk hr0
  obtain ⟨j, hj, rfl⟩ := inb_of h1 (by omega)
  rw [serves_M hB hL hj, b2, serves_of l2 l1 hj, ob_some]
  obtain ⟨⟨a, ha, a1'⟩, ⟨u, u1, u2⟩, ⟨bb, bb1⟩⟩ := l9 j hj
  have g1 : inb (nI j) 40 = true := inb_nI (by omega) (by decide)
  have g2 : ix (nI j) = j := ix_nI (by omega)
  by_cases hsv : svB k j a1 (nI d) = true
  case neg =>
    simp only [hsv, ite_self, if_false, Bool.false_eq_true]
    exact PR_mk hr0
  rw [if_pos hsv, sX9_knows t2 (by omega), ob_some]
  by_cases h2 : inb a1 tc = true
  case neg =>
    simp only [h2, ite_self, if_false, Bool.false_eq_true]
    exact PR_mk hr0
  rw [if_pos h2, sec_of, ob_some]
  by_cases h3 : in1 a2 1 1018 = true
  case neg =>
    simp only [h3, ite_self, if_false, Bool.false_eq_true]
    exact PR_mk hr0
  obtain ⟨i, hi, rfl⟩ := inb_of h2 (by omega)
  obtain ⟨e, e1, e2, rfl⟩ := in1_of h3 (by decide)
  obtain ⟨mb, m1, m2⟩ := may_of hB hK hU ha
  rw [if_pos h3, g1, ck_true, g2, a1', b2, m1, ob_some, if_pos h1, if_pos h2, if_pos h3, if_pos hsv]
  unfold jbX12_use_98
  rw [g1, ck_true, g2, l4, a1', m2, ob_some]
  cases mb
  · simp only [if_false, Bool.false_eq_true, ite_self]
    exact PR_mk hr0
  obtain ⟨r, s, y1, y2⟩ := alone_of (k := k) (n := sA n 149 j (nI (u - 1))) hB hK hT hI ha hi (show e < 1019 by omega)
  rw [if_pos rfl, y1]
  by_cases hc : ic = 80
  · subst hc
    rw [add7_full i2, ob_some, ob_some, if_pos rfl, if_pos (show nI 80 = 80 from rfl)]
    exact PR_mk hr0
  have hc : ic < 80 := by omega
  have hu : 1 ≤ u := by
    rcases Nat.eq_zero_or_pos u with z | z
    · exfalso
      unfold svB at hsv
      rw [u2, z] at hsv
      simp at hsv
      exact absurd hsv.2.2.1 (by decide)
    · exact z
  have eu : nI u - 1 = nI (u - 1) := pk_sub (b := 1) hu
  have HL : gLoan lc kc (sA k 10 j (nI (u - 1))) (sA n 149 j (nI (u - 1))) := by
    refine ⟨l1, l2, l3, l4, l5, congrArg (fun f => upd f j (nI (u - 1))) l6, l7, l8, fun m hm => ?_, l10⟩
    obtain ⟨z1, z2, z3⟩ := l9 m hm
    refine ⟨z1, ?_, z3⟩
    show ∃ u', u' ≤ 100 ∧ upd (gA k 10) j (nI (u - 1)) m = nI u'
    by_cases y : m = j
    · subst y
      rw [us]
      exact ⟨u - 1, by omega, rfl⟩
    · rw [un y]
      exact z2
  have HP : gPart pc kc h d (sA k 10 j (nI (u - 1))) (sA n 149 j (nI (u - 1))) := gPart.fr hP rfl rfl rfl rfl rfl rfl rfl rfl rfl rfl rfl rfl rfl (fun i => by simp (config := {decide := true}) only [row_sA])
  rw [add7_of i2 hc, ob_some, ob_some, if_neg (nI_ne_m1 (by omega)), ck_true, ck_true, nm_eq, show gA (addG k ic r s (nI a) (nI i) (nI d)) 10 j = nI u from u2, eu, addG_10, if_neg (fun z => by have := (nI_eq (b := 80) (by omega) (by decide)).mp z; omega), if_pos rfl, ck_true, ck_true, ck_true, l6, u2, eu, show gA (sA n 149 j (nI (u - 1))) 147 j = nI a from by rw [← a1', ← l4]; rfl, y2, keeps_of (n := sA n 149 j (nI (u - 1))) i3 b3 hc, ob_some, ob_some]
  exact PR_mk (sig_rel r s (nI i) hc ha hB hK hU (hG.mono (Nat.le_succ t) (Nat.le_refl _) (Nat.le_refl _) (Nat.le_refl _)) hW HP hR hD hT hS hI HL hF hA hJ hX)
