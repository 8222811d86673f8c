theorem pair_say (t : Nat) (k n : ST) (a0 : Int32) (a1 : Int32) (a2 : Bool) (ht : t < 512) (hr : Rel t k n) : PR (t + 1) (fX11_say k a0 a1 a2) (fX12_say n a0 a1 a2) := by
  have hr1 := rel_thr 0 hr
  unfold fX11_say fX12_say fX6_add fX12_says
  simp only [nm_eq]
  generalize sI n 11 0 0 = n at hr1 ⊢
  have hr0 := rel_step hr1
  obtain ⟨d, h, kc, bc, gc, wc, pc, rc, dc, tc, sc, ic, lc, fc, ln, bn, hB, hK, hU, hG, hW, hP, hR, hD, hT, hS, hI, hL, hF, hA, hJ, hX⟩ := hr1
  obtain ⟨b1, b2, b3, b4, b5, b6⟩ := hB
  obtain ⟨q1, q2, q3, -⟩ := id hT
  obtain ⟨w1, w2, w3, w4, w5, w6, w7, w8⟩ := hS
  simp only [sX11_isHolder b5 (by omega), sX12_isHolder b6 (by omega), sX9_knows q2 (by omega), sX12_isThing q3 (by omega), ob_some, w2, w3]
  by_cases e1 : inb a0 h = true
  case neg => 
    simp only [e1, nm_eq, ob_some, ck_true, gI_sI, gI_sA, gA_sI, gA_sA, gL_sI, gL_sA, Nat.reduceEqDiff, eq_self, if_true, if_false, reduceIte, ite_self, Bool.false_eq_true, nI_1, nI_pred]
    exact PR_mk hr0
  by_cases e2 : inb a1 tc = true
  case neg => 
    simp only [e1, e2, nm_eq, ob_some, ck_true, gI_sI, gI_sA, gA_sI, gA_sA, gL_sI, gL_sA, Nat.reduceEqDiff, eq_self, if_true, if_false, reduceIte, ite_self, Bool.false_eq_true, nI_1, nI_pred]
    exact PR_mk hr0
  obtain ⟨i, hi, rfl⟩ := inb_of e1 (by omega)
  obtain ⟨j, hj, rfl⟩ := inb_of e2 (by omega)
  by_cases hc : sc = 200
  · have f1 : (nI sc < 200) = False := by rw [hc]; exact eq_false (by decide)
    have f2 : (nI sc = 200) = True := by rw [hc]; exact eq_true rfl
    have f3 : (200 ≤ nI sc) = True := by rw [hc]; exact eq_true (by decide)
    simp only [f1, f2, f3, nm_eq, ob_some, ck_true, gI_sI, gI_sA, gA_sI, gA_sA, gL_sI, gL_sA, Nat.reduceEqDiff, eq_self, if_true, if_false, reduceIte, ite_self, Bool.false_eq_true, nI_1, nI_pred, e1, e2]
    exact PR_mk hr0
  have hc : sc < 200 := by omega
  have f1 : (nI sc < 200) = True := eq_true (nI_lt (b := 200) hc (by decide))
  have f2 : (nI sc = 200) = False := eq_false (fun e => Nat.ne_of_lt hc ((nI_eq (b := 200) (by omega) (by decide)).mp e))
  have f3 : (200 ≤ nI sc) = False := eq_false (nI_ge (b := 200) hc (by decide))
  have f4 : inb (nI sc) 200 = true := inb_nI hc (by decide)
  have f5 : ix (nI sc) = sc := ix_nI (by omega)
  · simp only [e1, e2, f1, f2, f4, f5, nm_eq, ob_some, ck_true, gI_sI, gI_sA, gA_sI, gA_sA, gL_sI, gL_sA, Nat.reduceEqDiff, eq_self, if_true, if_false, reduceIte, ite_self, Bool.false_eq_true, nI_1, nI_pred, b2, b3, b5, b6, w2, w3]
    refine PR_mk ⟨d, h, kc, bc, gc, wc, pc, rc, dc, tc, sc + 1, ic, lc, fc, ln, bn, ⟨b1, b2, b3, b4, b5, b6⟩, hK, hU, hG.mono (Nat.le_succ t) (Nat.le_refl _) (Nat.le_refl _) (Nat.le_refl _), hW, gPart.fr (hP) rfl rfl rfl rfl rfl rfl rfl rfl rfl rfl rfl rfl rfl (fun i => by simp (config := {decide := true}) only [row_sA, gA_sI]), hR, hD, hT, ⟨hc, rfl, rfl, congrArg (fun f => upd f sc (nI i)) w4, congrArg (fun f => upd f sc (b2i a2)) w5, congrArg (fun f => upd f sc (nI d)) w6, ?_, ?_⟩, hI, hL, hF, hA, hJ, hX⟩
    · intro x hx
      rcases Nat.lt_or_ge x sc with q | q
      · have e : x ≠ sc := by omega
        show (∃ y, y < h ∧ upd (gA k 30) sc (nI i) x = nI y) ∧ ((∃ a, a < tc ∧ upd (gA k 31) sc (nI j) x = nI a ∧ upd (gA n 132) sc (nI j) x = nI a ∧ upd (gA n 137) sc (b2i false) x = 0) ∨ (∃ a, a < h ∧ upd (gA k 31) sc (nI j) x = nI (40 + a) ∧ upd (gA n 132) sc (nI j) x = nI a ∧ upd (gA n 137) sc (b2i false) x = 1)) ∧ (∃ b, upd (gA k 32) sc (b2i a2) x = b2i b) ∧ (∃ e, e ≤ d ∧ upd (gA k 33) sc (nI d) x = nI e)
        rw [un e, un e, un e, un e, un e, un e]
        exact w7 x q
      · have e : x = sc := by omega
        subst e
        show (∃ y, y < h ∧ upd (gA k 30) x (nI i) x = nI y) ∧ ((∃ a, a < tc ∧ upd (gA k 31) x (nI j) x = nI a ∧ upd (gA n 132) x (nI j) x = nI a ∧ upd (gA n 137) x (b2i false) x = 0) ∨ (∃ a, a < h ∧ upd (gA k 31) x (nI j) x = nI (40 + a) ∧ upd (gA n 132) x (nI j) x = nI a ∧ upd (gA n 137) x (b2i false) x = 1)) ∧ (∃ b, upd (gA k 32) x (b2i a2) x = b2i b) ∧ (∃ e, e ≤ d ∧ upd (gA k 33) x (nI d) x = nI e)
        rw [us, us, us, us, us, us]
        exact ⟨⟨i, hi, rfl⟩, Or.inl ⟨j, hj, rfl, rfl, rfl⟩, ⟨a2, rfl⟩, ⟨d, Nat.le_refl _, rfl⟩⟩
    · intro x y hxy hy
      show upd (gA k 33) sc (nI d) x ≤ upd (gA k 33) sc (nI d) y
      rcases Nat.lt_or_ge y sc with q | q
      · rw [un (by omega), un (by omega)]
        exact w8 x y hxy q
      · have e : y = sc := by omega
        subst e
        rw [us]
        rcases Nat.lt_or_ge x y with q2 | q2
        · rw [un (by omega)]
          obtain ⟨e, e1, e2⟩ := (w7 x q2).2.2.2
          rw [e2]
          exact nI_le e1 (by omega)
        · have e : x = y := by omega
          rw [e, us]
          exact nI_le (Nat.le_refl _) (by omega)
theorem pair_mourn (t : Nat) (k n : ST) (a0 : Int32) (a1 : Int32) (a2 : Bool) (ht : t < 512) (hr : Rel t k n) : PR (t + 1) (fX11_mourn k a0 a1 a2) (fX12_mourn n a0 a1 a2) := by
  have hr1 := rel_thr 0 hr
  unfold fX11_mourn fX12_mourn fX6_add fX12_says fX6_deathOf
  simp only [nm_eq]
  generalize sI n 11 0 0 = n at hr1 ⊢
  have hr0 := rel_step hr1
  obtain ⟨d, h, kc, bc, gc, wc, pc, rc, dc, tc, sc, ic, lc, fc, ln, bn, hB, hK, hU, hG, hW, hP, hR, hD, hT, hS, hI, hL, hF, hA, hJ, hX⟩ := hr1
  obtain ⟨b1, b2, b3, b4, b5, b6⟩ := hB
  obtain ⟨w1, w2, w3, w4, w5, w6, w7, w8⟩ := hS
  simp only [sX11_isHolder b5 (by omega), sX12_isHolder b6 (by omega), ob_some, w2, w3]
  by_cases e1 : inb a0 h = true
  case neg => 
    simp only [e1, nm_eq, ob_some, ck_true, gI_sI, gI_sA, gA_sI, gA_sA, gL_sI, gL_sA, Nat.reduceEqDiff, eq_self, if_true, if_false, reduceIte, ite_self, Bool.false_eq_true, nI_1, nI_pred]
    exact PR_mk hr0
  by_cases e2 : inb a1 h = true
  case neg => 
    simp only [e1, e2, nm_eq, ob_some, ck_true, gI_sI, gI_sA, gA_sI, gA_sA, gL_sI, gL_sA, Nat.reduceEqDiff, eq_self, if_true, if_false, reduceIte, ite_self, Bool.false_eq_true, nI_1, nI_pred]
    exact PR_mk hr0
  obtain ⟨i, hi, rfl⟩ := inb_of e1 (by omega)
  obtain ⟨j, hj, rfl⟩ := inb_of e2 (by omega)
  by_cases e3 : nI i = nI j
  · simp only [e1, e2, e3, nm_eq, ob_some, ck_true, gI_sI, gI_sA, gA_sI, gA_sA, gL_sI, gL_sA, Nat.reduceEqDiff, eq_self, if_true, if_false, reduceIte, ite_self, Bool.false_eq_true, nI_1, nI_pred]
    exact PR_mk hr0
  by_cases hc : sc = 200
  · have f1 : (nI sc < 200) = False := by rw [hc]; exact eq_false (by decide)
    have f2 : (nI sc = 200) = True := by rw [hc]; exact eq_true rfl
    have f3 : (200 ≤ nI sc) = True := by rw [hc]; exact eq_true (by decide)
    simp only [f1, f2, f3, nm_eq, ob_some, ck_true, gI_sI, gI_sA, gA_sI, gA_sA, gL_sI, gL_sA, Nat.reduceEqDiff, eq_self, if_true, if_false, reduceIte, ite_self, Bool.false_eq_true, nI_1, nI_pred, e1, e2, e3]
    exact PR_mk hr0
  have hc : sc < 200 := by omega
  have f1 : (nI sc < 200) = True := eq_true (nI_lt (b := 200) hc (by decide))
  have f2 : (nI sc = 200) = False := eq_false (fun e => Nat.ne_of_lt hc ((nI_eq (b := 200) (by omega) (by decide)).mp e))
  have f3 : (200 ≤ nI sc) = False := eq_false (nI_ge (b := 200) hc (by decide))
  have f4 : inb (nI sc) 200 = true := inb_nI hc (by decide)
  have f5 : ix (nI sc) = sc := ix_nI (by omega)
  · simp only [e1, e2, e3, f1, f2, f4, f5, nm_eq, ob_some, ck_true, gI_sI, gI_sA, gA_sI, gA_sA, gL_sI, gL_sA, Nat.reduceEqDiff, eq_self, if_true, if_false, reduceIte, ite_self, Bool.false_eq_true, nI_1, nI_pred, b2, b3, b5, b6, w2, w3, show (40 : Int32) + nI j = nI (40 + j) from nI_add 40 j]
    refine PR_mk ⟨d, h, kc, bc, gc, wc, pc, rc, dc, tc, sc + 1, ic, lc, fc, ln, bn, ⟨b1, b2, b3, b4, b5, b6⟩, hK, hU, hG.mono (Nat.le_succ t) (Nat.le_refl _) (Nat.le_refl _) (Nat.le_refl _), hW, gPart.fr (hP) rfl rfl rfl rfl rfl rfl rfl rfl rfl rfl rfl rfl rfl (fun i => by simp (config := {decide := true}) only [row_sA, gA_sI]), hR, hD, hT, ⟨hc, rfl, rfl, congrArg (fun f => upd f sc (nI i)) w4, congrArg (fun f => upd f sc (b2i a2)) w5, congrArg (fun f => upd f sc (nI d)) w6, ?_, ?_⟩, hI, hL, hF, hA, hJ, hX⟩
    · intro x hx
      rcases Nat.lt_or_ge x sc with q | q
      · have e : x ≠ sc := by omega
        show (∃ y, y < h ∧ upd (gA k 30) sc (nI i) x = nI y) ∧ ((∃ a, a < tc ∧ upd (gA k 31) sc (nI (40 + j)) x = nI a ∧ upd (gA n 132) sc (nI j) x = nI a ∧ upd (gA n 137) sc (b2i true) x = 0) ∨ (∃ a, a < h ∧ upd (gA k 31) sc (nI (40 + j)) x = nI (40 + a) ∧ upd (gA n 132) sc (nI j) x = nI a ∧ upd (gA n 137) sc (b2i true) x = 1)) ∧ (∃ b, upd (gA k 32) sc (b2i a2) x = b2i b) ∧ (∃ e, e ≤ d ∧ upd (gA k 33) sc (nI d) x = nI e)
        rw [un e, un e, un e, un e, un e, un e]
        exact w7 x q
      · have e : x = sc := by omega
        subst e
        show (∃ y, y < h ∧ upd (gA k 30) x (nI i) x = nI y) ∧ ((∃ a, a < tc ∧ upd (gA k 31) x (nI (40 + j)) x = nI a ∧ upd (gA n 132) x (nI j) x = nI a ∧ upd (gA n 137) x (b2i true) x = 0) ∨ (∃ a, a < h ∧ upd (gA k 31) x (nI (40 + j)) x = nI (40 + a) ∧ upd (gA n 132) x (nI j) x = nI a ∧ upd (gA n 137) x (b2i true) x = 1)) ∧ (∃ b, upd (gA k 32) x (b2i a2) x = b2i b) ∧ (∃ e, e ≤ d ∧ upd (gA k 33) x (nI d) x = nI e)
        rw [us, us, us, us, us, us]
        exact ⟨⟨i, hi, rfl⟩, Or.inr ⟨j, hj, rfl, rfl, rfl⟩, ⟨a2, rfl⟩, ⟨d, Nat.le_refl _, rfl⟩⟩
    · intro x y hxy hy
      show upd (gA k 33) sc (nI d) x ≤ upd (gA k 33) sc (nI d) y
      rcases Nat.lt_or_ge y sc with q | q
      · rw [un (by omega), un (by omega)]
        exact w8 x y hxy q
      · have e : y = sc := by omega
        subst e
        rw [us]
        rcases Nat.lt_or_ge x y with q2 | q2
        · rw [un (by omega)]
          obtain ⟨e, e1, e2⟩ := (w7 x q2).2.2.2
          rw [e2]
          exact nI_le e1 (by omega)
        · have e : x = y := by omega
          rw [e, us]
          exact nI_le (Nat.le_refl _) (by omega)
theorem pair_seal (t : Nat) (k n : ST) (a0 : Int32) (a1 : Int32) (a2 : Bool) (ht : t < 512) (hr : Rel t k n) : PR (t + 1) (fX11_seal k a0 a1 a2) (fX12_seal n a0 a1 a2) := by
  have hr1 := rel_thr 0 hr
  unfold fX11_seal fX12_seal jbX11_seal_23 jbX12_seal_50 fX9_add
  simp only [nm_eq]
  generalize sI n 11 0 0 = n at hr1 ⊢
  have hr0 := rel_step hr1
  obtain ⟨d, h, kc, bc, gc, wc, pc, rc, dc, tc, sc, ic, lc, fc, ln, bn, hB, hK, hU, hG, hW, hP, hR, hD, hT, hS, hI, hL, hF, hA, hJ, hX⟩ := hr1
  obtain ⟨b1, b2, b3, b4, b5, b6⟩ := hB
  obtain ⟨q1, q2, q3, -⟩ := id hK
  obtain ⟨r1, r2, r3, -⟩ := id hR
  obtain ⟨u1, u2, u3, u4, u5, u6, u7, u8, u9, u10⟩ := hT
  have hin : fX12_isIn n a0 0 1018 = some (in1 a0 0 1018, n) := isIn_nI n a0 0 1018 (by decide) (by decide)
  simp only [num_of, hin, ob_some, u2, u3]
  have hkn : ∀ (x : Bool), (if x = true then (if in1 a0 0 1018 = true then some ((0 : Int32), k) else some (0, k)) else some (0, k)) = some (0, k) := fun x => by cases x <;> simp
  by_cases e1 : in1 a0 0 1018 = true
  case neg => 
    cases e0 : a2
    · simp only [e0, e1, nm_eq, ob_some, ck_true, gI_sI, gI_sA, gA_sI, gA_sA, gL_sI, gL_sA, Nat.reduceEqDiff, eq_self, if_true, if_false, reduceIte, ite_self, Bool.false_eq_true, nI_1, nI_pred, sX1_knows q2 (by omega)]
      exact PR_mk hr0
    · simp only [e0, e1, nm_eq, ob_some, ck_true, gI_sI, gI_sA, gA_sI, gA_sA, gL_sI, gL_sA, Nat.reduceEqDiff, eq_self, if_true, if_false, reduceIte, ite_self, Bool.false_eq_true, nI_1, nI_pred, sX5_knows r2 (by omega)]
      exact PR_mk hr0
  obtain ⟨i, hi1, hi2, rfl⟩ := in1_of e1 (by omega)
  by_cases hc : tc = 40
  · have f1 : (nI tc < 40) = False := by rw [hc]; exact eq_false (by decide)
    have f2 : (nI tc = 40) = True := by rw [hc]; exact eq_true rfl
    cases e0 : a2
    · simp only [e0, e1, f1, f2, u2, u3, nm_eq, ob_some, ck_true, gI_sI, gI_sA, gA_sI, gA_sA, gL_sI, gL_sA, Nat.reduceEqDiff, eq_self, if_true, if_false, reduceIte, ite_self, Bool.false_eq_true, nI_1, nI_pred, sX1_knows q2 (by omega)]
      exact PR_mk hr0
    · simp only [e0, e1, f1, f2, u2, u3, nm_eq, ob_some, ck_true, gI_sI, gI_sA, gA_sI, gA_sA, gL_sI, gL_sA, Nat.reduceEqDiff, eq_self, if_true, if_false, reduceIte, ite_self, Bool.false_eq_true, nI_1, nI_pred, sX5_knows r2 (by omega)]
      exact PR_mk hr0
  have hc : tc < 40 := by omega
  have f1 : (nI tc < 40) = True := eq_true (nI_lt (b := 40) hc (by decide))
  have f2 : (nI tc = 40) = False := eq_false (fun e => Nat.ne_of_lt hc ((nI_eq (b := 40) (by omega) (by decide)).mp e))
  have f4 : inb (nI tc) 40 = true := inb_nI hc (by decide)
  have f5 : ix (nI tc) = tc := ix_nI (by omega)
  simp only [e1, f2, nm_eq, ob_some, ck_true, gI_sI, gI_sA, gA_sI, gA_sA, gL_sI, gL_sA, Nat.reduceEqDiff, eq_self, if_true, if_false, reduceIte, ite_self, Bool.false_eq_true, nI_1, nI_pred]
  cases e0 : a2
  · simp only [e0, nm_eq, ob_some, ck_true, gI_sI, gI_sA, gA_sI, gA_sA, gL_sI, gL_sA, Nat.reduceEqDiff, eq_self, if_true, if_false, reduceIte, ite_self, Bool.false_eq_true, nI_1, nI_pred, sX1_knows q2 (by omega), sX12_isKey q3 (by omega)]
    by_cases e2 : inb a1 kc = true
    case neg => 
      simp only [e2, nm_eq, ob_some, ck_true, gI_sI, gI_sA, gA_sI, gA_sA, gL_sI, gL_sA, Nat.reduceEqDiff, eq_self, if_true, if_false, reduceIte, ite_self, Bool.false_eq_true, nI_1, nI_pred]
      exact PR_mk hr0
    obtain ⟨j, hj, rfl⟩ := inb_of e2 (by omega)
    simp only [e2, e1, f1, f2, f4, f5, nm_eq, ob_some, ck_true, gI_sI, gI_sA, gA_sI, gA_sA, gL_sI, gL_sA, Nat.reduceEqDiff, eq_self, if_true, if_false, reduceIte, ite_self, Bool.false_eq_true, nI_1, nI_pred, b2, b3, b5, b6, u2, u3]
    refine PR_mk ⟨d, h, kc, bc, gc, wc, pc, rc, dc, tc + 1, sc, ic, lc, fc, ln, bn, ⟨b1, b2, b3, b4, b5, b6⟩, hK, hU, hG.mono (Nat.le_succ t) (Nat.le_refl _) (Nat.le_refl _) (Nat.le_refl _), hW, gPart.fr (hP) rfl rfl rfl rfl rfl rfl rfl rfl rfl rfl rfl rfl rfl (fun i => by simp (config := {decide := true}) only [row_sA, gA_sI]), hR, hD, ⟨hc, rfl, rfl, congrArg (fun f => upd f tc (nI i)) u4, congrArg (fun f => upd f tc (nI j)) u5, congrArg (fun f => upd f tc (b2i false)) u6, congrArg (fun f => upd f tc (-1)) u7, u8, ?_, fun x hx => u10 x (by omega)⟩, hS.mono (Nat.le_refl _) (Nat.le_succ _) (Nat.le_refl _), hI, hL, hF, hA, hJ, hX⟩
    show ∀ x, x < tc + 1 → (∃ v, v < 1019 ∧ upd (gA k 44) tc (nI i) x = nI v) ∧ (∃ b, upd (gA k 46) tc (b2i false) x = b2i b ∧ ∃ y, upd (gA k 45) tc (nI j) x = nI y ∧ (b = true → y < rc) ∧ (b = false → y < kc)) ∧ (upd (gA k 47) tc (-1) x = -1 ∨ ∃ e, e ≤ d ∧ upd (gA k 47) tc (-1) x = nI e) ∧ (∃ b, gA k 48 x = b2i b)
    refine ext1 (fun x hx => ?_) ?_
    · have e : x ≠ tc := by omega
      rw [un e, un e, un e, un e]
      exact u9 x hx
    · rw [us, us, us, us]
      exact ⟨⟨i, by omega, rfl⟩, ⟨false, rfl, j, rfl, (fun z => by cases z), (fun _ => hj)⟩, Or.inl rfl, ⟨false, u10 tc (Nat.le_refl _)⟩⟩
  · simp only [e0, nm_eq, ob_some, ck_true, gI_sI, gI_sA, gA_sI, gA_sA, gL_sI, gL_sA, Nat.reduceEqDiff, eq_self, if_true, if_false, reduceIte, ite_self, Bool.false_eq_true, nI_1, nI_pred, sX5_knows r2 (by omega), sX12_isRule r3 (by omega)]
    by_cases e2 : inb a1 rc = true
    case neg => 
      simp only [e2, nm_eq, ob_some, ck_true, gI_sI, gI_sA, gA_sI, gA_sA, gL_sI, gL_sA, Nat.reduceEqDiff, eq_self, if_true, if_false, reduceIte, ite_self, Bool.false_eq_true, nI_1, nI_pred]
      exact PR_mk hr0
    obtain ⟨j, hj, rfl⟩ := inb_of e2 (by omega)
    simp only [e2, e1, f1, f2, f4, f5, nm_eq, ob_some, ck_true, gI_sI, gI_sA, gA_sI, gA_sA, gL_sI, gL_sA, Nat.reduceEqDiff, eq_self, if_true, if_false, reduceIte, ite_self, Bool.false_eq_true, nI_1, nI_pred, b2, b3, b5, b6, u2, u3]
    refine PR_mk ⟨d, h, kc, bc, gc, wc, pc, rc, dc, tc + 1, sc, ic, lc, fc, ln, bn, ⟨b1, b2, b3, b4, b5, b6⟩, hK, hU, hG.mono (Nat.le_succ t) (Nat.le_refl _) (Nat.le_refl _) (Nat.le_refl _), hW, gPart.fr (hP) rfl rfl rfl rfl rfl rfl rfl rfl rfl rfl rfl rfl rfl (fun i => by simp (config := {decide := true}) only [row_sA, gA_sI]), hR, hD, ⟨hc, rfl, rfl, congrArg (fun f => upd f tc (nI i)) u4, congrArg (fun f => upd f tc (nI j)) u5, congrArg (fun f => upd f tc (b2i true)) u6, congrArg (fun f => upd f tc (-1)) u7, u8, ?_, fun x hx => u10 x (by omega)⟩, hS.mono (Nat.le_refl _) (Nat.le_succ _) (Nat.le_refl _), hI, hL, hF, hA, hJ, hX⟩
    show ∀ x, x < tc + 1 → (∃ v, v < 1019 ∧ upd (gA k 44) tc (nI i) x = nI v) ∧ (∃ b, upd (gA k 46) tc (b2i true) x = b2i b ∧ ∃ y, upd (gA k 45) tc (nI j) x = nI y ∧ (b = true → y < rc) ∧ (b = false → y < kc)) ∧ (upd (gA k 47) tc (-1) x = -1 ∨ ∃ e, e ≤ d ∧ upd (gA k 47) tc (-1) x = nI e) ∧ (∃ b, gA k 48 x = b2i b)
    refine ext1 (fun x hx => ?_) ?_
    · have e : x ≠ tc := by omega
      rw [un e, un e, un e, un e]
      exact u9 x hx
    · rw [us, us, us, us]
      exact ⟨⟨i, by omega, rfl⟩, ⟨true, rfl, j, rfl, (fun _ => hj), (fun z => by cases z)⟩, Or.inl rfl, ⟨false, u10 tc (Nat.le_refl _)⟩⟩
theorem pair_lend (t : Nat) (k n : ST) (a0 : Int32) (a1 : Int32) (a2 : Int32) (a3 : Int32) (a4 : Int32) (ht : t < 512) (hr : Rel t k n) : PR (t + 1) (fX11_lend k a0 a1 a2 a3 a4) (fX12_lend n a0 a1 a2 a3 a4) := by
  have hr1 := rel_thr 0 hr
  unfold fX11_lend fX12_lend fX2_add jbX12_lend_72
  simp only [nm_eq]
  generalize sI n 11 0 0 = n at hr1 ⊢
  have hr0 := rel_step hr1
  obtain ⟨d, h, kc, bc, gc, wc, pc, rc, dc, tc, sc, ic, lc, fc, ln, bn, hB, hK, hU, hG, hW, hP, hR, hD, hT, hS, hI, hL, hF, hA, hJ, hX⟩ := hr1
  obtain ⟨b1, b2, b3, b4, b5, b6⟩ := hB
  obtain ⟨q1, q2, q3, -⟩ := id hK
  obtain ⟨u1, u2, u3, -⟩ := id hT
  obtain ⟨w1, w2, w3, w4, w5, w6, w7, w8, w9, w10⟩ := hL
  have hin1 : fX12_isIn n a2 (nI d) 2000 = some (in1 a2 d 2000, n) := isIn_nI n a2 d 2000 (by omega) (by decide)
  have hin2 : fX12_isIn n a3 1 100 = some (in1 a3 1 100, n) := isIn_nI n a3 1 100 (by decide) (by decide)
  have hk1 : ∀ (x y : Option (Int32 × ST)), (if a2 < nI d then x else if a2 ≤ 2000 then y else x) = if in1 a2 d 2000 = true then y else x := fun x y => by
    have e1 : (a2 < nI d) ↔ a2.toInt < d := by rw [Int32.lt_iff_toInt_lt, nI_toInt (by omega)]
    have e2 : (a2 ≤ 2000) ↔ a2.toInt ≤ 2000 := by rw [Int32.le_iff_toInt_le]; exact Iff.rfl
    by_cases z : in1 a2 d 2000 = true
    · rw [if_pos z]
      rw [in1_iff] at z
      rw [if_neg (by rw [e1]; omega), if_pos (by rw [e2]; omega)]
    · rw [if_neg z]
      rw [in1_iff] at z
      by_cases z1 : a2 < nI d
      · rw [if_pos z1]
      · rw [if_neg z1, if_neg]
        rw [e1] at z1
        rw [e2]
        omega
  have hk2 : ∀ (x y : Option (Int32 × ST)), (if a3 < 1 then x else if 100 < a3 then x else y) = if in1 a3 1 100 = true then y else x := fun x y => by
    have e1 : (a3 < 1) ↔ a3.toInt < 1 := by rw [Int32.lt_iff_toInt_lt]; exact Iff.rfl
    have e2 : (100 < a3) ↔ 100 < a3.toInt := by rw [Int32.lt_iff_toInt_lt]; exact Iff.rfl
    by_cases z : in1 a3 1 100 = true
    · rw [if_pos z]
      rw [in1_iff] at z
      rw [if_neg (by rw [e1]; omega), if_neg (by rw [e2]; omega)]
    · rw [if_neg z]
      rw [in1_iff] at z
      by_cases z1 : a3 < 1
      · rw [if_pos z1]
      · rw [if_neg z1, if_pos]
        rw [e1] at z1
        rw [e2]
        omega
  simp only [sX1_knows q2 (by omega), sX12_isKey q3 (by omega), sX11_isHolder b5 (by omega), sX12_isHolder b6 (by omega), sX9_knows u2 (by omega), sX12_isThing u3 (by omega), ob_some, w2, w3, b2, b3, hin1, hin2, hk1, hk2]
  by_cases e1 : inb a0 kc = true
  case neg => 
    simp only [e1, nm_eq, ob_some, ck_true, gI_sI, gI_sA, gA_sI, gA_sA, gL_sI, gL_sA, Nat.reduceEqDiff, eq_self, if_true, if_false, reduceIte, ite_self, Bool.false_eq_true, nI_1, nI_pred]
    exact PR_mk hr0
  by_cases e2 : inb a1 h = true
  case neg => 
    simp only [e1, e2, nm_eq, ob_some, ck_true, gI_sI, gI_sA, gA_sI, gA_sA, gL_sI, gL_sA, Nat.reduceEqDiff, eq_self, if_true, if_false, reduceIte, ite_self, Bool.false_eq_true, nI_1, nI_pred]
    exact PR_mk hr0
  by_cases e3 : in1 a2 d 2000 = true
  case neg => 
    simp only [e1, e2, e3, nm_eq, ob_some, ck_true, gI_sI, gI_sA, gA_sI, gA_sA, gL_sI, gL_sA, Nat.reduceEqDiff, eq_self, if_true, if_false, reduceIte, ite_self, Bool.false_eq_true, nI_1, nI_pred]
    exact PR_mk hr0
  by_cases e4 : in1 a3 1 100 = true
  case neg => 
    simp only [e1, e2, e3, e4, nm_eq, ob_some, ck_true, gI_sI, gI_sA, gA_sI, gA_sA, gL_sI, gL_sA, Nat.reduceEqDiff, eq_self, if_true, if_false, reduceIte, ite_self, Bool.false_eq_true, nI_1, nI_pred]
    exact PR_mk hr0
  obtain ⟨i, hi, rfl⟩ := inb_of e1 (by omega)
  obtain ⟨u, hu1, hu2, rfl⟩ := in1_of e4 (by omega)
  simp only [e1, e2, e3, e4, nm_eq, ob_some, ck_true, gI_sI, gI_sA, gA_sI, gA_sA, gL_sI, gL_sA, Nat.reduceEqDiff, eq_self, if_true, if_false, reduceIte, ite_self, Bool.false_eq_true, nI_1, nI_pred]
  by_cases hc : lc = 40
  · have f1 : (nI lc < 40) = False := by rw [hc]; exact eq_false (by decide)
    have f2 : (nI lc = 40) = True := by rw [hc]; exact eq_true rfl
    have f3 : (40 ≤ nI lc) = True := by rw [hc]; exact eq_true (by decide)
    simp only [f1, f2, f3, nm_eq, ob_some, ck_true, gI_sI, gI_sA, gA_sI, gA_sA, gL_sI, gL_sA, Nat.reduceEqDiff, eq_self, if_true, if_false, reduceIte, ite_self, Bool.false_eq_true, nI_1, nI_pred]
    exact PR_mk hr0
  have hc : lc < 40 := by omega
  have f1 : (nI lc < 40) = True := eq_true (nI_lt (b := 40) hc (by decide))
  have f2 : (nI lc = 40) = False := eq_false (fun e => Nat.ne_of_lt hc ((nI_eq (b := 40) (by omega) (by decide)).mp e))
  have f3 : (40 ≤ nI lc) = False := eq_false (nI_ge (b := 40) hc (by decide))
  have f4 : inb (nI lc) 40 = true := inb_nI hc (by decide)
  have f5 : ix (nI lc) = lc := ix_nI (by omega)
  simp only [f1, f2, f4, f5, nm_eq, ob_some, ck_true, gI_sI, gI_sA, gA_sI, gA_sA, gL_sI, gL_sA, Nat.reduceEqDiff, eq_self, if_true, if_false, reduceIte, ite_self, Bool.false_eq_true, nI_1, nI_pred, w2, w3]
  have good : PR (t + 1) (some (nI lc, sI (sA (sA (sA (sA k 8 lc (nI i)) 9 lc a2) 10 lc (nI u)) 11 lc a4) 1 0 (nI (lc + 1)))) (some (nI lc, sI (sA (sA (sA (sA n 147 lc (nI i)) 148 lc a2) 149 lc (nI u)) 150 lc a4) 11 79 (nI (lc + 1)))) := by
    refine PR_mk ⟨d, h, kc, bc, gc, wc, pc, rc, dc, tc, sc, ic, lc + 1, fc, ln, bn, ⟨b1, b2, b3, b4, b5, b6⟩, hK, hU, hG.mono (Nat.le_succ t) (Nat.le_refl _) (Nat.le_refl _) (Nat.le_refl _), hW, gPart.fr (hP) rfl rfl rfl rfl rfl rfl rfl rfl rfl rfl rfl rfl rfl (fun i => by simp (config := {decide := true}) only [row_sA, gA_sI]), hR, hD, hT, hS, hI, ⟨hc, rfl, rfl, congrArg (fun f => upd f lc (nI i)) w4, congrArg (fun f => upd f lc a2) w5, congrArg (fun f => upd f lc (nI u)) w6, congrArg (fun f => upd f lc a4) w7, w8, ?_, fun x hx => w10 x (by omega)⟩, hF, hA, hJ, hX⟩
    show ∀ x, x < lc + 1 → (∃ a, a < kc ∧ upd (gA k 8) lc (nI i) x = nI a) ∧ (∃ v, v ≤ 100 ∧ upd (gA k 10) lc (nI u) x = nI v) ∧ (∃ b, gA k 12 x = b2i b)
    refine ext1 (fun x hx => ?_) ?_
    · have e : x ≠ lc := by omega
      rw [un e, un e]
      exact w9 x hx
    · rw [us, us]
      exact ⟨⟨i, hi, rfl⟩, ⟨u, hu2, rfl⟩, ⟨false, w10 lc (Nat.le_refl _)⟩⟩
  by_cases e5 : a4 = -1
  · simp only [eq_true e5, nm_eq, ob_some, ck_true, gI_sI, gI_sA, gA_sI, gA_sA, gL_sI, gL_sA, Nat.reduceEqDiff, eq_self, if_true, if_false, reduceIte, ite_self, Bool.false_eq_true, nI_1, nI_pred, w2, w3]
    exact good
  · by_cases e6 : inb a4 tc = true
    · simp only [e5, e6, nm_eq, ob_some, ck_true, gI_sI, gI_sA, gA_sI, gA_sA, gL_sI, gL_sA, Nat.reduceEqDiff, eq_self, if_true, if_false, reduceIte, ite_self, Bool.false_eq_true, nI_1, nI_pred, w2, w3]
      exact good
    · simp only [e5, e6, nm_eq, ob_some, ck_true, gI_sI, gI_sA, gA_sI, gA_sA, gL_sI, gL_sA, Nat.reduceEqDiff, eq_self, if_true, if_false, reduceIte, ite_self, Bool.false_eq_true, nI_1, nI_pred]
      exact PR_mk hr0
theorem lp_lay {n : ST} {bn : Nat} (hb : bn ≤ 12) (hn : gI n 11 31 = nI bn) {hs : Nat → Nat} (hh : ∀ i, i < bn → hs i < 12 ∧ gA n 120 i = nI (hs i)) {x : Nat} (hx : x < 12) (v : Int32) : ∀ (m i f : Nat), i + m = bn → m < f → ∀ cont, (∀ j, j < i → hs j ≠ x) → lpX12_lay_28 (nI x) v f (nI i) n cont = if (∃ j, j < bn ∧ hs j = x) then some (-1, n) else cont (nI bn) n := by
  intro m
  induction m with
  | zero =>
    intro i f hi hf cont hj
    obtain ⟨f, rfl⟩ : ∃ g, f = g + 1 := ⟨f - 1, by omega⟩
    have : i = bn := by omega
    subst this
    rw [lpX12_lay_28, hn, if_pos (nI_le (Nat.le_refl _) (by omega)), if_neg]
    rintro ⟨j, h1, h2⟩
    exact hj j h1 h2
  | succ m ih =>
    intro i f hi hf cont hj
    obtain ⟨f, rfl⟩ : ∃ g, f = g + 1 := ⟨f - 1, by omega⟩
    obtain ⟨h1, h2⟩ := hh i (by omega)
    rw [lpX12_lay_28, hn, if_neg (nI_ge (by omega) (by omega)), inb_nI (by omega) (by decide), ck_true, ix_nI (by omega), h2, nI_1]
    by_cases e : hs i = x
    · rw [if_pos (by rw [e]), if_pos ⟨i, by omega, e⟩]
    · rw [if_neg (fun z => e ((nI_eq (by omega) (by omega)).mp z)), ih (i + 1) f (by omega) (by omega) cont (fun j hj2 => by
        rcases Nat.lt_or_ge j i with q | q
        · exact hj j q
        · have : j = i := by omega
          rw [this]; exact e)]
theorem pair_lay (t : Nat) (k n : ST) (a0 : Int32) (a1 : Int32) (ht : t < 512) (hr : Rel t k n) : PR (t + 1) (fX11_lay k a0 a1) (fX12_lay n a0 a1) := by
  have hr1 := rel_thr 0 hr
  unfold fX11_lay fX12_lay 
  simp only [nm_eq]
  generalize sI n 11 0 0 = n at hr1 ⊢
  have hr0 := rel_step hr1
  obtain ⟨d, h, kc, bc, gc, wc, pc, rc, dc, tc, sc, ic, lc, fc, ln, bn, hB, hK, hU, hG, hW, hP, hR, hD, hT, hS, hI, hL, hF, hA, hJ, hX⟩ := hr1
  obtain ⟨b1, b2, b3, b4, b5, b6⟩ := hB
  obtain ⟨z1, z2, Sb, hs, z3, z4, z5, z6, z7, z8⟩ := hJ
  have hSb : Sb < 4096 := Nat.lt_of_lt_of_le z3 (pow_le12 b4)
  have hin : fX12_isIn n a1 0 1018 = some (in1 a1 0 1018, n) := isIn_nI n a1 0 1018 (by decide) (by decide)
  simp only [sX11_isHolder b5 (by omega), sX12_isHolder b6 (by omega), num_of, hin, ob_some, z4]
  by_cases e1 : inb a0 h = true
  case neg => 
    simp only [e1, nm_eq, ob_some, ck_true, gI_sI, gI_sA, gA_sI, gA_sA, gL_sI, gL_sA, Nat.reduceEqDiff, eq_self, if_true, if_false, reduceIte, ite_self, Bool.false_eq_true, nI_1, nI_pred]
    exact PR_mk hr0
  by_cases e2 : in1 a1 0 1018 = true
  case neg => 
    simp only [e1, e2, nm_eq, ob_some, ck_true, gI_sI, gI_sA, gA_sI, gA_sA, gL_sI, gL_sA, Nat.reduceEqDiff, eq_self, if_true, if_false, reduceIte, ite_self, Bool.false_eq_true, nI_1, nI_pred]
    exact PR_mk hr0
  have e3 : inb a0 12 = true := inb_mono e1 b4
  obtain ⟨x, hx, rfl⟩ := inb_of e1 (by omega)
  obtain ⟨v, hv1, hv2, rfl⟩ := in1_of e2 (by decide)
  have hlp := lp_lay z1 z2 (fun i hi => ⟨by have := (z6 i hi).1; omega, (z6 i hi).2.1⟩) (show x < 12 by omega) (nI v) bn 0 FU (by omega) (by rw [FU_s]; omega)
  have hlp2 := fun cont => hlp cont (fun j hj => by omega)
  simp only [e1, e2, e3, nm_eq, ob_some, ck_true, gI_sI, gI_sA, gA_sI, gA_sA, gL_sI, gL_sA, Nat.reduceEqDiff, eq_self, if_true, if_false, reduceIte, ite_self, Bool.false_eq_true, nI_1, nI_pred, hasBit_of k (show x < 31 by omega) (show Sb < 2 ^ 31 by omega), ix_nI (show x < 2 ^ 31 by omega), show (0 : Int32) = nI 0 from rfl, hlp2, ← z8 x]
  by_cases h1 : Sb.testBit x = true
  · simp only [h1, nm_eq, ob_some, ck_true, gI_sI, gI_sA, gA_sI, gA_sA, gL_sI, gL_sA, Nat.reduceEqDiff, eq_self, if_true, if_false, reduceIte, ite_self, Bool.false_eq_true, nI_1, nI_pred]
    exact PR_mk hr0
  have h1f : Sb.testBit x = false := by simpa using h1
  have hbn : bn < 12 := by
    have h5 := pcn_set h1f (m := 12) (by omega)
    have h6 := pcn_le (Sb ||| 2 ^ x) 12
    omega
  have hS2 : Sb ||| 2 ^ x < 2 ^ h := Nat.or_lt_two_pow z3 (Nat.pow_lt_pow_right (by decide) hx)
  simp only [h1, nm_eq, ob_some, ck_true, gI_sI, gI_sA, gA_sI, gA_sA, gL_sI, gL_sA, Nat.reduceEqDiff, eq_self, if_true, if_false, reduceIte, ite_self, Bool.false_eq_true, nI_1, nI_pred, z2, z4, inb_nI hbn (by decide), ix_nI (show bn < 2 ^ 31 by omega), shl1 x (by omega), fa_or, bc_of _ (show Sb ||| 2 ^ x < 4096 from Nat.lt_of_lt_of_le hS2 (pow_le12 b4)), pcn_set h1f (show x < 12 by omega), z5]
  refine PR_mk ⟨d, h, kc, bc, gc, wc, pc, rc, dc, tc, sc, ic, lc, fc, ln, bn + 1, ⟨b1, b2, b3, b4, b5, b6⟩, hK, hU, hG.mono (Nat.le_succ t) (Nat.le_refl _) (Nat.le_refl _) (Nat.le_refl _), hW, gPart.fr (hP) rfl rfl rfl rfl rfl rfl rfl rfl rfl rfl rfl rfl rfl (fun i => by simp (config := {decide := true}) only [row_sA, gA_sI]), hR, hD, hT, hS, hI, hL, hF, hA, ⟨hbn, rfl, Sb ||| 2 ^ x, fun i => if i = bn then x else hs i, hS2, rfl, ?_, ?_, ?_, ?_⟩, hX⟩
  · rw [pcn_set h1f (show x < 12 by omega), z5]
  · show ∀ i, i < bn + 1 → (if i = bn then x else hs i) < h ∧ upd (gA n 120) bn (nI x) i = nI (if i = bn then x else hs i) ∧ ∃ v', v' < 1019 ∧ upd (gA n 121) bn (nI v) i = nI v' ∧ upd (gA k 57) x (nI v) (if i = bn then x else hs i) = nI v'
    refine ext1 (fun i hi => ?_) ?_
    · have e : i ≠ bn := by omega
      obtain ⟨p1, p2, v', p3, p4, p5⟩ := z6 i hi
      have e5 : hs i ≠ x := fun z => h1 ((z8 x).mpr ⟨i, hi, z⟩)
      rw [if_neg e, un e, un e, un e5]
      exact ⟨p1, p2, v', p3, p4, p5⟩
    · rw [if_pos rfl, us, us, us]
      exact ⟨hx, rfl, v, by omega, rfl, rfl⟩
  · intro i j hi hj hij
    by_cases e : i = bn
    · by_cases e' : j = bn
      · omega
      · simp only [e, e', if_true, if_false] at hij
        exact absurd ((z8 x).mpr ⟨j, by omega, hij.symm⟩) h1
    · by_cases e' : j = bn
      · simp only [e, e', if_true, if_false] at hij
        exact absurd ((z8 x).mpr ⟨i, by omega, hij⟩) h1
      · simp only [e, e', if_false] at hij
        exact z7 i j (by omega) (by omega) hij
  · intro y
    rw [fb_bit_set, Bool.or_eq_true, z8 y, decide_eq_true_iff]
    constructor
    · rintro (⟨i, p1, p2⟩ | p)
      · exact ⟨i, by omega, by show (if i = bn then x else hs i) = y; rw [if_neg (by omega)]; exact p2⟩
      · exact ⟨bn, by omega, by show (if bn = bn then x else hs bn) = y; rw [if_pos rfl]; exact p.symm⟩
    · rintro ⟨i, p1, p2⟩
      have p2 : (if i = bn then x else hs i) = y := p2
      by_cases e : i = bn
      · rw [if_pos e] at p2
        exact Or.inr p2.symm
      · rw [if_neg e] at p2
        exact Or.inl ⟨i, by omega, p2⟩
