/-- a parting in force on a day; a wrap on a day -/
def inF (k : ST) (i : Nat) (q : Int32) : Bool := !decide (q < gA k 16 i) && (decide (gA k 17 i = -1) || !decide (gA k 17 i ≤ q))
def onW (k : ST) (i : Nat) (q : Int32) : Bool := !decide (q < gA k 55 i) && (decide (gA k 56 i = -1) || !decide (gA k 56 i ≤ q))
theorem n9999 {q : Nat} (h : q ≤ 2000) : ¬ (9999 : Int32) ≤ nI q := nI_ge (a := q) (b := 9999) (by omega) (by decide)
theorem force_K {pc kc h d : Nat} {k n : ST} (H : gPart pc kc h d k n) {i : Nat} (hi : i < pc) (q : Int32) : fX3_inForce k (nI i) q = some (inF k i q, k) := by
  obtain ⟨a1, a2, a3, a4, a5, a6, a7, a8⟩ := H
  unfold fX3_inForce inF
  have h1 : inb (nI i) pc = true := inb_nI hi (by omega)
  have h2 : inb (nI i) 40 = true := inb_nI (by omega) (by decide)
  rw [sX3_knows a2 (by omega), ob_some, h1, if_pos rfl, h2, ck_true, ck_true, ix_nI (by omega)]
  by_cases e1 : q < gA k 16 i
  · simp [e1]
  · by_cases e2 : gA k 17 i = -1
    · simp [e1, e2]
    · by_cases e3 : gA k 17 i ≤ q
      · simp [e1, e2, e3, ck]
      · simp [e1, e2, e3, ck]
theorem force_M {pc kc h d : Nat} {k n : ST} (H : gPart pc kc h d k n) {i : Nat} (hi : i < pc) {q : Nat} (hq : q ≤ 2000) (hd : d ≤ 2000) : fX12_isForce n (nI i) (nI q) = some (inF k i (nI q), n) := by
  obtain ⟨a1, a2, a3, a4, a5, a6, a7, a8⟩ := H
  unfold fX12_isForce inF
  have h2 : inb (nI i) 40 = true := inb_nI (by omega) (by decide)
  rw [h2, ck_true, ck_true, ix_nI (by omega), a7]
  by_cases e1 : nI q < gA k 16 i
  · simp [e1]
  · rcases (a8 i hi).2.2.2 with ⟨z1, z2⟩ | ⟨e, z0, z1, z2⟩
    · simp [e1, z1, z2, n9999 hq]
    · have : ¬ nI e = -1 := nI_ne_m1 (by omega)
      by_cases e3 : nI e ≤ nI q
      · simp [e1, z1, z2, e3, this]
      · simp [e1, z1, z2, e3, this]
theorem wrap_K {wc kc d : Nat} {k n : ST} (H : gWrap wc kc d k n) {i : Nat} (hi : i < wc) (q : Int32) : fX10_isWrapOn k (nI i) q = some (onW k i q, k) := by
  obtain ⟨a1, -⟩ := H
  unfold fX10_isWrapOn onW
  have h2 : inb (nI i) 40 = true := inb_nI (by omega) (by decide)
  rw [h2, ck_true, ck_true, ix_nI (by omega)]
  by_cases e1 : q < gA k 55 i
  · simp [e1]
  · by_cases e2 : gA k 56 i = -1
    · simp [e1, e2]
    · by_cases e3 : gA k 56 i ≤ q
      · simp [e1, e2, e3, ck]
      · simp [e1, e2, e3, ck]
theorem wrap_M {wc kc d : Nat} {k n : ST} (H : gWrap wc kc d k n) {i : Nat} (hi : i < wc) {q : Nat} (hq : q ≤ 2000) (hd : d ≤ 2000) : fX12_isWrapped n (nI i) (nI q) = some (onW k i (nI q), n) := by
  obtain ⟨a1, a2, a3, a4, a5, a6, a7⟩ := H
  unfold fX12_isWrapped onW
  have h2 : inb (nI i) 40 = true := inb_nI (by omega) (by decide)
  rw [h2, ck_true, ck_true, ix_nI (by omega), a6]
  by_cases e1 : nI q < gA k 55 i
  · simp [e1]
  · rcases (a7 i hi).2.2.2 with ⟨z1, z2⟩ | ⟨e, z0, z1, z2⟩
    · simp [e1, z1, z2, n9999 hq]
    · have : ¬ nI e = -1 := nI_ne_m1 (by omega)
      by_cases e3 : nI e ≤ nI q
      · simp [e1, z1, z2, e3, this]
      · simp [e1, z1, z2, e3, this]
/-- the last place with a property, or -1 -/
def lastP (p : Nat → Bool) : Nat → Int32
  | 0 => -1
  | i + 1 => if p i then nI i else lastP p i
theorem last_K {pc kc h d : Nat} {k n : ST} (H : gPart pc kc h d k n) (a q : Int32) : ∀ (m f : Nat), m ≤ pc → m < f → lpX3_lastInForce_7 a q f (nI m - 1) k (fun _ k9 => some (-1, k9)) = some (lastP (fun i => decide (gA k 13 i = a) && inF k i q) m, k) := by
  obtain ⟨a1, -⟩ := id H
  intro m
  induction m with
  | zero =>
    intro f _ hf
    obtain ⟨f, rfl⟩ : ∃ g, f = g + 1 := ⟨f - 1, by omega⟩
    rw [lpX3_lastInForce_7, if_pos (by decide)]
    rfl
  | succ m ih =>
    intro f hm hf
    obtain ⟨f, rfl⟩ : ∃ g, f = g + 1 := ⟨f - 1, by omega⟩
    rw [nI_pred, lpX3_lastInForce_7, if_neg (nI_pos (by omega)), inb_nI (by omega) (by decide), ck_true, ix_nI (by omega)]
    have e : nI m + (-1) = nI m - 1 := (Int32.sub_eq_add_neg _ _).symm
    rw [e]
    by_cases h1 : gA k 13 m = a
    · rw [if_pos h1, force_K H (by omega) q, ob_some]
      cases h2 : inF k m q
      · rw [if_neg (by decide), ih f (by omega) (by omega)]
        simp [lastP, h1, h2]
      · rw [if_pos rfl]
        simp [lastP, h1, h2]
    · rw [if_neg h1, ih f (by omega) (by omega)]
      simp [lastP, h1]
theorem last_M {pc kc h d : Nat} {k n : ST} (H : gPart pc kc h d k n) (hd : d ≤ 2000) (hn : gI n 11 1 = nI d) (a v : Int32) : ∀ (m i f : Nat), i + m = pc → m < f → ∀ cont, lpX12_told_88 a v f (lastP (fun i => decide (gA k 13 i = a) && inF k i (nI d)) i) (nI i) n cont = cont (lastP (fun i => decide (gA k 13 i = a) && inF k i (nI d)) pc) (nI pc) n := by
  obtain ⟨a1, a2, a3, a4, -⟩ := id H
  intro m
  induction m with
  | zero =>
    intro i f hi hf cont
    obtain ⟨f, rfl⟩ : ∃ g, f = g + 1 := ⟨f - 1, by omega⟩
    have : i = pc := by omega
    subst this
    rw [lpX12_told_88, a3, if_pos (nI_le (Nat.le_refl _) (by omega))]
  | succ m ih =>
    intro i f hi hf cont
    obtain ⟨f, rfl⟩ : ∃ g, f = g + 1 := ⟨f - 1, by omega⟩
    rw [lpX12_told_88, a3, if_neg (nI_ge (by omega) (by omega)), inb_nI (by omega) (by decide), ck_true, ix_nI (by omega), a4, hn, nI_1]
    have ih := ih (i + 1) f (by omega) (by omega) cont
    by_cases h1 : gA k 13 i = a
    · rw [if_pos h1, force_M H (by omega) hd hd, ob_some]
      cases h2 : inF k i (nI d)
      · rw [if_neg (by decide), ← ih]
        simp [lastP, h1, h2]
      · rw [if_pos rfl, ← ih]
        simp [lastP, h1, h2]
    · rw [if_neg h1, ← ih]
      simp [lastP, h1]
theorem pair_told (t : Nat) (k n : ST) (a0 : Int32) (a1 : Int32) (ht : t < 512) (hr : Rel t k n) : PR (t + 1) (fX11_told k a0 a1) (fX12_told n a0 a1) := by
  have hr1 := rel_thr 0 hr
  unfold fX11_told fX12_told 
  simp only [nm_eq]
  generalize sI n 11 0 0 = n at hr1 ⊢
  have hr0 := rel_step hr1
  obtain ⟨d, h, kc, bc, gc, wc, pc, rc, dc, tc, sc, ic, lc, fc, ln, bn, hB, hK, hU, hG, hW, hP, hR, hD, hT, hS, hI, hL, hF, hA, hJ, hX⟩ := hr1
  obtain ⟨b1, b2, b3, b4, b5, b6⟩ := hB
  obtain ⟨q1, q2, q3, q4, q5, q6, q7, q8, q9⟩ := id hK
  obtain ⟨p1, p2, p3, -⟩ := id hP
  simp only [sX1_knows q2 (by omega), sX12_isKey q3 (by omega), ob_some, q4, q6, q8, b2, b3]
  by_cases e1 : inb a0 kc = true
  case neg => 
    simp only [e1, nm_eq, ob_some, ck_true, gI_sI, gI_sA, gA_sI, gA_sA, gL_sI, gL_sA, Nat.reduceEqDiff, eq_self, if_true, if_false, reduceIte, ite_self, Bool.false_eq_true, nI_1, nI_pred]
    exact PR_mk hr0
  have e2 : inb a0 40 = true := inb_mono e1 q1
  simp only [e1, e2, nm_eq, ob_some, ck_true, gI_sI, gI_sA, gA_sI, gA_sA, gL_sI, gL_sA, Nat.reduceEqDiff, eq_self, if_true, if_false, reduceIte, ite_self, Bool.false_eq_true, nI_1, nI_pred]
  by_cases h0 : a1 = 0
  · simp only [h0, nm_eq, ob_some, ck_true, gI_sI, gI_sA, gA_sI, gA_sA, gL_sI, gL_sA, Nat.reduceEqDiff, eq_self, if_true, if_false, reduceIte, ite_self, Bool.false_eq_true, nI_1, nI_pred]
    exact PR_mk hr0
  by_cases h1 : a1 = 1
  · simp only [h0, h1, nm_eq, ob_some, ck_true, gI_sI, gI_sA, gA_sI, gA_sA, gL_sI, gL_sA, Nat.reduceEqDiff, eq_self, if_true, if_false, reduceIte, ite_self, Bool.false_eq_true, nI_1, nI_pred]
    exact PR_mk hr0
  by_cases h2 : a1 = 2
  · obtain ⟨r, r1, r2⟩ := burnt_of hU a0 (nI d)
    simp only [h0, h1, eq_true h2, r1, r2, nm_eq, ob_some, ck_true, gI_sI, gI_sA, gA_sI, gA_sA, gL_sI, gL_sA, Nat.reduceEqDiff, eq_self, if_true, if_false, reduceIte, ite_self, Bool.false_eq_true, nI_1, nI_pred]
    exact PR_mk hr0
  by_cases h3 : a1 = 3
  · simp only [h0, h1, h2, h3, nm_eq, ob_some, ck_true, gI_sI, gI_sA, gA_sI, gA_sA, gL_sI, gL_sA, Nat.reduceEqDiff, eq_self, if_true, if_false, reduceIte, ite_self, Bool.false_eq_true, nI_1, nI_pred]
    exact PR_mk hr0
  by_cases h4 : a1 = 4
  · have ea : fX3_lastInForce k a0 (nI d) = some (lastP (fun i => decide (gA k 13 i = a0) && inF k i (nI d)) pc, k) := by
      unfold fX3_lastInForce
      rw [p2]
      exact last_K hP a0 (nI d) pc FU (Nat.le_refl _) (by rw [FU_s]; omega)
    have eb : lpX12_told_88 a0 a1 FU (-1) 0 n (fun y24 y25 k26 => some (y24, k26)) = some (lastP (fun i => decide (gA k 13 i = a0) && inF k i (nI d)) pc, n) := last_M hP b1 b3 a0 a1 pc 0 FU (by omega) (by rw [FU_s]; omega) _
    simp only [h0, h1, h2, h3, eq_true h4, ea, eb, nm_eq, ob_some, ck_true, gI_sI, gI_sA, gA_sI, gA_sA, gL_sI, gL_sA, Nat.reduceEqDiff, eq_self, if_true, if_false, reduceIte, ite_self, Bool.false_eq_true, nI_1, nI_pred]
    exact PR_mk hr0
  simp only [h0, h1, h2, h3, h4, nm_eq, ob_some, ck_true, gI_sI, gI_sA, gA_sI, gA_sA, gL_sI, gL_sA, Nat.reduceEqDiff, eq_self, if_true, if_false, reduceIte, ite_self, Bool.false_eq_true, nI_1, nI_pred]
  exact PR_mk hr0
theorem pair_cut (t : Nat) (k n : ST) (a0 : Int32) (ht : t < 512) (hr : Rel t k n) : PR (t + 1) (fX11_cut k a0) (fX12_cut n a0) := by
  have hr1 := rel_thr 0 hr
  unfold fX11_cut fX12_cut fX10_cutWrap
  simp only [nm_eq]
  generalize sI n 11 0 0 = n at hr1 ⊢
  have hr0 := rel_step hr1
  obtain ⟨d, h, kc, bc, gc, wc, pc, rc, dc, tc, sc, ic, lc, fc, ln, bn, hB, hK, hU, hG, hW, hP, hR, hD, hT, hS, hI, hL, hF, hA, hJ, hX⟩ := hr1
  obtain ⟨b1, b2, b3, b4, b5, b6⟩ := hB
  obtain ⟨w1, w2, w3, w4, w5, w6, w7⟩ := hW
  simp only [w2, w3, isIn_cnt n a0 wc (by omega), ob_some, b2, b3, if_ix a0 wc (by omega)]
  by_cases e1 : inb a0 wc = true
  case neg => 
    simp only [e1, nm_eq, ob_some, ck_true, gI_sI, gI_sA, gA_sI, gA_sA, gL_sI, gL_sA, Nat.reduceEqDiff, eq_self, if_true, if_false, reduceIte, ite_self, Bool.false_eq_true, nI_1, nI_pred]
    exact PR_mk hr0
  have e2 : inb a0 40 = true := inb_mono e1 w1
  obtain ⟨j, hj, rfl⟩ := inb_of e1 (by omega)
  simp only [e1, e2, nm_eq, ob_some, ck_true, gI_sI, gI_sA, gA_sI, gA_sA, gL_sI, gL_sA, Nat.reduceEqDiff, eq_self, if_true, if_false, reduceIte, ite_self, Bool.false_eq_true, nI_1, nI_pred, ix_nI (show j < 2 ^ 31 by omega)]
  rcases (w7 j hj).2.2.2 with ⟨z1, z2⟩ | ⟨e, z0, z1, z2⟩
  · simp only [z1, z2, nm_eq, ob_some, ck_true, gI_sI, gI_sA, gA_sI, gA_sA, gL_sI, gL_sA, Nat.reduceEqDiff, eq_self, if_true, if_false, reduceIte, ite_self, Bool.false_eq_true, nI_1, nI_pred]
    refine PR_mk ⟨d, h, kc, bc, gc, wc, pc, rc, dc, tc, sc, ic, lc, fc, ln, bn, ⟨b1, b2, b3, b4, b5, b6⟩, hK, hU, hG.mono (Nat.le_succ t) (Nat.le_refl _) (Nat.le_refl _) (Nat.le_refl _), ⟨w1, w2, w3, w4, w5, w6, ?_⟩, gPart.fr (hP) rfl rfl rfl rfl rfl rfl rfl rfl rfl rfl rfl rfl rfl (fun i => by simp (config := {decide := true}) only [row_sA, gA_sI]), hR, hD, hT, hS, hI, hL, hF, hA, hJ, hX⟩
    intro i hi
    obtain ⟨p1, p2, p3, p4⟩ := w7 i hi
    refine ⟨p1, p2, p3, ?_⟩
    show eqE d (upd (gA k 56) j (nI d) i) (upd (gA n 113) j (nI d) i)
    by_cases e : i = j
    · rw [e, us, us]
      exact Or.inr ⟨d, Nat.le_refl _, rfl, rfl⟩
    · rw [un e, un e]
      exact p4
  · have h1 : ¬ nI e = -1 := nI_ne_m1 (by omega)
    have h2 : ¬ nI e = 9999 := fun z => by
      have := (nI_eq (a := e) (b := 9999) (by omega) (by decide)).mp z
      omega
    simp only [z1, z2, h1, h2, nm_eq, ob_some, ck_true, gI_sI, gI_sA, gA_sI, gA_sA, gL_sI, gL_sA, Nat.reduceEqDiff, eq_self, if_true, if_false, reduceIte, ite_self, Bool.false_eq_true, nI_1, nI_pred]
    exact PR_mk hr0
theorem pair_falsely (t : Nat) (k n : ST) (a0 : Int32) (a1 : Bool) (ht : t < 512) (hr : Rel t k n) : PR (t + 1) (fX11_falsely k a0 a1) (fX12_falsely n a0 a1) := by
  have hr1 := rel_thr 0 hr
  unfold fX11_falsely fX12_falsely 
  simp only [nm_eq]
  generalize sI n 11 0 0 = n at hr1 ⊢
  have hr0 := rel_step hr1
  obtain ⟨d, h, kc, bc, gc, wc, pc, rc, dc, tc, sc, ic, lc, fc, ln, bn, hB, hK, hU, hG, hW, hP, hR, hD, hT, hS, hI, hL, hF, hA, hJ, hX⟩ := hr1
  obtain ⟨b1, b2, b3, b4, b5, b6⟩ := hB
  obtain ⟨F, x1, x2, x3⟩ := hX
  have hF4 : F < 4096 := Nat.lt_of_lt_of_le x1 (pow_le12 b4)
  simp only [sX11_isHolder b5 (by omega), sX12_isHolder b6 (by omega), ob_some, x2]
  by_cases e1 : inb a0 h = true
  case neg => 
    simp only [e1, nm_eq, ob_some, ck_true, gI_sI, gI_sA, gA_sI, gA_sA, gL_sI, gL_sA, Nat.reduceEqDiff, eq_self, if_true, if_false, reduceIte, ite_self, Bool.false_eq_true, nI_1, nI_pred]
    exact PR_mk hr0
  have e2 : inb a0 12 = true := inb_mono e1 b4
  obtain ⟨j, hj, rfl⟩ := inb_of e1 (by omega)
  simp only [e1, e2, nm_eq, ob_some, ck_true, gI_sI, gI_sA, gA_sI, gA_sA, gL_sI, gL_sA, Nat.reduceEqDiff, eq_self, if_true, if_false, reduceIte, ite_self, Bool.false_eq_true, nI_1, nI_pred, ix_nI (show j < 2 ^ 31 by omega), hasBit_of k (show j < 31 by omega) (show F < 2 ^ 31 by omega), x3 j (by omega)]
  by_cases h1 : b2i (F.testBit j) = b2i a1
  · simp only [h1, nm_eq, ob_some, ck_true, gI_sI, gI_sA, gA_sI, gA_sA, gL_sI, gL_sA, Nat.reduceEqDiff, eq_self, if_true, if_false, reduceIte, ite_self, Bool.false_eq_true, nI_1, nI_pred]
    exact PR_mk hr0
  · simp only [h1, nm_eq, ob_some, ck_true, gI_sI, gI_sA, gA_sI, gA_sA, gL_sI, gL_sA, Nat.reduceEqDiff, eq_self, if_true, if_false, reduceIte, ite_self, Bool.false_eq_true, nI_1, nI_pred, x2, shl1 j (by omega), fb_xorI]
    refine PR_mk ⟨d, h, kc, bc, gc, wc, pc, rc, dc, tc, sc, ic, lc, fc, ln, bn, ⟨b1, b2, b3, b4, b5, b6⟩, hK, hU, hG.mono (Nat.le_succ t) (Nat.le_refl _) (Nat.le_refl _) (Nat.le_refl _), hW, gPart.fr (hP) rfl rfl rfl rfl rfl rfl rfl rfl rfl rfl rfl rfl rfl (fun i => by simp (config := {decide := true}) only [row_sA, gA_sI]), hR, hD, hT, hS, hI, hL, hF, hA, hJ, ⟨F ^^^ 2 ^ j, ?_, rfl, ?_⟩⟩
    · exact Nat.xor_lt_two_pow x1 (Nat.pow_lt_pow_right (by decide) hj)
    · intro x hx
      show upd (gA n 108) j (b2i a1) x = b2i ((F ^^^ 2 ^ j).testBit x)
      rw [fb_bit_flip]
      by_cases e : x = j
      · rw [e, us, decide_eq_true rfl]
        revert h1
        cases F.testBit j <;> cases a1 <;> simp [b2i]
      · rw [un e, x3 x hx, decide_eq_false e, Bool.xor_false]
theorem pair_left (t : Nat) (k n : ST) (a0 : Int32) (a1 : Int32) (ht : t < 512) (hr : Rel t k n) : PR (t + 1) (fX11_left k a0 a1) (fX12_left n a0 a1) := by
  have hr1 := rel_thr 0 hr
  unfold fX11_left fX12_left 
  simp only [nm_eq]
  generalize sI n 11 0 0 = n at hr1 ⊢
  have hr0 := rel_step hr1
  obtain ⟨d, h, kc, bc, gc, wc, pc, rc, dc, tc, sc, ic, lc, fc, ln, bn, hB, hK, hU, hG, hW, hP, hR, hD, hT, hS, hI, hL, hF, hA, hJ, hX⟩ := hr1
  obtain ⟨b1, b2, b3, b4, b5, b6⟩ := hB
  obtain ⟨p1, p2, p3, p4, p5, p6, p7, p8⟩ := id hP
  simp only [sX3_knows p2 (by omega), sX12_isParting p3 (by omega), set_of b5 b4, are_of b6 b4, ob_some, p5, p6]
  by_cases e1 : inb a0 pc = true
  case neg => 
    simp only [e1, nm_eq, ob_some, ck_true, gI_sI, gI_sA, gA_sI, gA_sA, gL_sI, gL_sA, Nat.reduceEqDiff, eq_self, if_true, if_false, reduceIte, ite_self, Bool.false_eq_true, nI_1, nI_pred]
    exact PR_mk hr0
  by_cases e2 : in1 a1 1 (2 ^ h - 1) = true
  case neg => 
    simp only [e1, e2, nm_eq, ob_some, ck_true, gI_sI, gI_sA, gA_sI, gA_sA, gL_sI, gL_sA, Nat.reduceEqDiff, eq_self, if_true, if_false, reduceIte, ite_self, Bool.false_eq_true, nI_1, nI_pred]
    exact PR_mk hr0
  have e3 : inb a0 40 = true := inb_mono e1 p1
  simp only [e1, e2, e3, nm_eq, ob_some, ck_true, gI_sI, gI_sA, gA_sI, gA_sA, gL_sI, gL_sA, Nat.reduceEqDiff, eq_self, if_true, if_false, reduceIte, ite_self, Bool.false_eq_true, nI_1, nI_pred, bc_eq, max_of, p5, p6]
  exact PR_mk hr0
