theorem us {f : Nat → Int32} {c : Nat} {x : Int32} : upd f c x c = x := pk_us
theorem un {f : Nat → Int32} {c j : Nat} {x : Int32} (h : j ≠ c) : upd f c x j = f j := pk_un h
/-- a property of the first c places, with one place more -/
theorem ext1 {P : Nat → Prop} {c : Nat} (h : ∀ j, j < c → P j) (hc : P c) : ∀ j, j < c + 1 → P j := fun j hj => by
  rcases Nat.lt_or_ge j c with q | q
  · exact h j q
  · have : j = c := by omega
    subst this
    exact hc

theorem pair_days (t : Nat) (k n : ST) (a0 : Int32) (ht : t < 512) (hr : Rel t k n) : PR (t + 1) (fX11_days k a0) (fX12_days n a0) := by
  have hr1 := rel_thr 0 hr
  unfold fX11_days fX12_days fX12_isIn
  simp only [nm_eq]
  generalize sI n 11 0 0 = n at hr1 ⊢
  have hr0 := rel_step hr1
  obtain ⟨d, h, kc, bc, gc, wc, pc, rc, dc, tc, sc, ic, lc, fc, ln, bn, hB, hK, hU, hG, hW, hP, hR, hD, hT, hS, hI, hL, hF, hA, hJ, hX⟩ := hr1
  obtain ⟨b1, b2, b3, b4, b5, b6⟩ := hB
  simp only [b2, b3, b5, b6]
  by_cases h1 : a0 < 0
  · simp only [h1, nm_eq, ob_some, ck_true, gI_sI, gI_sA, gA_sI, gA_sA, gL_sI, gL_sA, Nat.reduceEqDiff, eq_self, if_true, if_false, reduceIte, ite_self, Bool.false_eq_true, nI_1, nI_pred]
    exact PR_mk hr0
  by_cases h2 : 1000 < a0
  · simp only [h1, h2, nm_eq, ob_some, ck_true, gI_sI, gI_sA, gA_sI, gA_sA, gL_sI, gL_sA, Nat.reduceEqDiff, eq_self, if_true, if_false, reduceIte, ite_self, Bool.false_eq_true, nI_1, nI_pred]
    exact PR_mk hr0
  obtain ⟨j, hj, rfl⟩ := nI_of h1
  have hj2 : j ≤ 1000 := by
    rcases Nat.lt_or_ge 1000 j with q | q
    · exact absurd (nI_lt (a := 1000) q hj) h2
    · exact q
  simp only [h1, h2, nm_eq, ob_some, ck_true, gI_sI, gI_sA, gA_sI, gA_sA, gL_sI, gL_sA, Nat.reduceEqDiff, eq_self, if_true, if_false, reduceIte, ite_self, Bool.false_eq_true, nI_1, nI_pred, nI_add, b2, b3, b5, b6]
  by_cases h3 : nI (d + j) ≤ 2000
  · simp only [h3, nm_eq, ob_some, ck_true, gI_sI, gI_sA, gA_sI, gA_sA, gL_sI, gL_sA, Nat.reduceEqDiff, eq_self, if_true, if_false, reduceIte, ite_self, Bool.false_eq_true, nI_1, nI_pred]
    have h4 : d + j ≤ 2000 := by
      rcases Nat.lt_or_ge 2000 (d + j) with q | q
      · exact absurd h3 (nI_ge q (by omega))
      · exact q
    exact PR_mk ⟨d + j, h, kc, bc, gc, wc, pc, rc, dc, tc, sc, ic, lc, fc, ln, bn, ⟨h4, rfl, rfl, b4, b5, b6⟩, hK.mono (Nat.le_add_right _ _), hU, hG.mono (Nat.le_succ t) (Nat.le_refl _) (Nat.le_refl _) (Nat.le_add_right _ _), hW.mono (Nat.le_refl _) (Nat.le_add_right _ _), gPart.fr (hP.mono (Nat.le_refl _) (Nat.le_refl _) (Nat.le_add_right _ _)) rfl rfl rfl rfl rfl rfl rfl rfl rfl rfl rfl rfl rfl (fun i => by simp (config := {decide := true}) only [row_sA, gA_sI]), hR, hD.mono (Nat.le_refl _) (Nat.le_refl _) (Nat.le_add_right _ _), hT.mono (Nat.le_refl _) (Nat.le_refl _) (Nat.le_add_right _ _), hS.mono (Nat.le_refl _) (Nat.le_refl _) (Nat.le_add_right _ _), hI.mono (Nat.le_refl _) (Nat.le_add_right _ _), hL, hF, hA, hJ, hX⟩
  · simp only [h3, nm_eq, ob_some, ck_true, gI_sI, gI_sA, gA_sI, gA_sA, gL_sI, gL_sA, Nat.reduceEqDiff, eq_self, if_true, if_false, reduceIte, ite_self, Bool.false_eq_true, nI_1, nI_pred]
    exact PR_mk hr0
theorem pair_holder (t : Nat) (k n : ST)  (ht : t < 512) (hr : Rel t k n) : PR (t + 1) (fX11_holder k) (fX12_holder n) := by
  have hr1 := rel_thr 0 hr
  unfold fX11_holder fX12_holder 
  simp only [nm_eq]
  generalize sI n 11 0 0 = n at hr1 ⊢
  have hr0 := rel_step hr1
  obtain ⟨d, h, kc, bc, gc, wc, pc, rc, dc, tc, sc, ic, lc, fc, ln, bn, hB, hK, hU, hG, hW, hP, hR, hD, hT, hS, hI, hL, hF, hA, hJ, hX⟩ := hr1
  obtain ⟨b1, b2, b3, b4, b5, b6⟩ := hB
  simp only [b2, b3, b5, b6]
  by_cases hc : h = 12
  · have f1 : (nI h < 12) = False := by rw [hc]; exact eq_false (by decide)
    have f2 : (nI h = 12) = True := by rw [hc]; exact eq_true rfl
    have f3 : (12 ≤ nI h) = True := by rw [hc]; exact eq_true (by decide)
    simp only [f1, f2, f3, nm_eq, ob_some, ck_true, gI_sI, gI_sA, gA_sI, gA_sA, gL_sI, gL_sA, Nat.reduceEqDiff, eq_self, if_true, if_false, reduceIte, ite_self, Bool.false_eq_true, nI_1, nI_pred]
    exact PR_mk hr0
  have hc : h < 12 := by omega
  have f1 : (nI h < 12) = True := eq_true (nI_lt (b := 12) hc (by decide))
  have f2 : (nI h = 12) = False := eq_false (fun e => Nat.ne_of_lt hc ((nI_eq (b := 12) (by omega) (by decide)).mp e))
  have f3 : (12 ≤ nI h) = False := eq_false (nI_ge (b := 12) hc (by decide))
  have f4 : inb (nI h) 12 = true := inb_nI hc (by decide)
  have f5 : ix (nI h) = h := ix_nI (by omega)
  simp only [f1, f2, f3, nm_eq, ob_some, ck_true, gI_sI, gI_sA, gA_sI, gA_sA, gL_sI, gL_sA, Nat.reduceEqDiff, eq_self, if_true, if_false, reduceIte, ite_self, Bool.false_eq_true, nI_1, nI_pred, b2, b3, b5, b6]
  exact PR_mk ⟨d, h + 1, kc, bc, gc, wc, pc, rc, dc, tc, sc, ic, lc, fc, ln, bn, ⟨b1, b2, b3, hc, rfl, rfl⟩, hK, hU, hG.mono (Nat.le_succ t) (Nat.le_succ _) (Nat.le_refl _) (Nat.le_refl _), hW, gPart.fr (hP.mono (Nat.le_refl _) (Nat.le_succ _) (Nat.le_refl _)) rfl rfl rfl rfl rfl rfl rfl rfl rfl rfl rfl rfl rfl (fun i => by simp (config := {decide := true}) only [row_sA, gA_sI]), hR, hD.mono (Nat.le_succ _) (Nat.le_refl _) (Nat.le_refl _), hT, hS.mono (Nat.le_succ _) (Nat.le_refl _) (Nat.le_refl _), hI, hL, hF.mono (Nat.le_succ _), hA, hJ.mono (Nat.le_succ _), hX.mono (Nat.le_succ _)⟩
theorem pair_key (t : Nat) (k n : ST) (a0 : Int32) (a1 : Bool) (ht : t < 512) (hr : Rel t k n) : PR (t + 1) (fX11_key k a0 a1) (fX12_key n a0 a1) := by
  have hr1 := rel_thr 0 hr
  unfold fX11_key fX12_key fX1_add fX12_add
  simp only [nm_eq]
  generalize sI n 11 0 0 = n at hr1 ⊢
  have hr0 := rel_step hr1
  obtain ⟨d, h, kc, bc, gc, wc, pc, rc, dc, tc, sc, ic, lc, fc, ln, bn, hB, hK, hU, hG, hW, hP, hR, hD, hT, hS, hI, hL, hF, hA, hJ, hX⟩ := hr1
  obtain ⟨b1, b2, b3, b4, b5, b6⟩ := hB
  obtain ⟨q1, q2, q3, q4, q5, q6, q7, q8, q9⟩ := hK
  have hin : fX12_isIn n a0 1 1018 = some (in1 a0 1 1018, n) := isIn_nI n a0 1 1018 (by decide) (by decide)
  simp only [sec_of, hin, ob_some, b2, b3, b5, b6, q2, q3]
  by_cases e1 : in1 a0 1 1018 = true
  case neg => 
    simp only [e1, nm_eq, ob_some, ck_true, gI_sI, gI_sA, gA_sI, gA_sA, gL_sI, gL_sA, Nat.reduceEqDiff, eq_self, if_true, if_false, reduceIte, ite_self, Bool.false_eq_true, nI_1, nI_pred]
    exact PR_mk hr0
  obtain ⟨s, hs1, hs2, rfl⟩ := in1_of e1 (by decide)
  simp only [e1, nm_eq, ob_some, ck_true, gI_sI, gI_sA, gA_sI, gA_sA, gL_sI, gL_sA, Nat.reduceEqDiff, eq_self, if_true, if_false, reduceIte, ite_self, Bool.false_eq_true, nI_1, nI_pred]
  by_cases hc : kc = 40
  · have f1 : (nI kc < 40) = False := by rw [hc]; exact eq_false (by decide)
    have f2 : (nI kc = 40) = True := by rw [hc]; exact eq_true rfl
    have f3 : (40 ≤ nI kc) = True := by rw [hc]; exact eq_true (by decide)
    simp only [f1, f2, f3, nm_eq, ob_some, ck_true, gI_sI, gI_sA, gA_sI, gA_sA, gL_sI, gL_sA, Nat.reduceEqDiff, eq_self, if_true, if_false, reduceIte, ite_self, Bool.false_eq_true, nI_1, nI_pred]
    exact PR_mk hr0
  have hc : kc < 40 := by omega
  have f1 : (nI kc < 40) = True := eq_true (nI_lt (b := 40) hc (by decide))
  have f2 : (nI kc = 40) = False := eq_false (fun e => Nat.ne_of_lt hc ((nI_eq (b := 40) (by omega) (by decide)).mp e))
  have f3 : (40 ≤ nI kc) = False := eq_false (nI_ge (b := 40) hc (by decide))
  have f4 : inb (nI kc) 40 = true := inb_nI hc (by decide)
  have f5 : ix (nI kc) = kc := ix_nI (by omega)
  have hk : ∀ (q : Nat), q ≤ 1 → ∀ j, j < kc + 1 → (∃ s', 1 ≤ s' ∧ s' < 1019 ∧ upd (gA k 0) kc (nI s) j = nI s') ∧ (∃ q', q' ≤ 2 ∧ upd (gA k 1) kc (nI q) j = nI q') ∧ (upd (gA k 1) kc (nI q) j = 2 → ∃ r, r < j ∧ upd (gA k 2) kc (-1) j = nI r) ∧ (∃ e, e ≤ d ∧ upd (gA k 3) kc (nI d) j = nI e) := by
    intro q hq
    refine ext1 (fun j hj => ?_) ?_
    · have e : j ≠ kc := by omega
      rw [un e, un e, un e, un e]
      exact q9 j hj
    · rw [us, us, us, us]
      refine ⟨⟨s, hs1, by omega, rfl⟩, ⟨q, by omega, rfl⟩, fun z => ?_, ⟨d, Nat.le_refl _, rfl⟩⟩
      have := (nI_eq (a := q) (b := 2) (by omega) (by decide)).mp z
      omega
  cases a1
  · simp only [f1, f3, f4, f5, nm_eq, ob_some, ck_true, gI_sI, gI_sA, gA_sI, gA_sA, gL_sI, gL_sA, Nat.reduceEqDiff, eq_self, if_true, if_false, reduceIte, ite_self, Bool.false_eq_true, nI_1, nI_pred, b2, b3, b5, b6, q2, q3]
    exact PR_mk ⟨d, h, kc + 1, bc, gc, wc, pc, rc, dc, tc, sc, ic, lc, fc, ln, bn, ⟨b1, b2, b3, b4, b5, b6⟩, ⟨hc, rfl, rfl, congrArg (fun f => upd f kc 0) q4, congrArg (fun f => upd f kc (nI s)) q5, congrArg (fun f => upd f kc (-1)) q6, congrArg (fun f => upd f kc (nI d)) q7, congrArg (fun f => upd f kc (-1)) q8, hk 0 (by omega)⟩, hU, hG.mono (Nat.le_succ t) (Nat.le_refl _) (Nat.le_succ _) (Nat.le_refl _), hW.mono (Nat.le_succ _) (Nat.le_refl _), gPart.fr (hP.mono (Nat.le_succ _) (Nat.le_refl _) (Nat.le_refl _)) rfl rfl rfl rfl rfl rfl rfl rfl rfl rfl rfl rfl rfl (fun i => by simp (config := {decide := true}) only [row_sA, gA_sI]), hR, hD, hT.mono (Nat.le_succ _) (Nat.le_refl _) (Nat.le_refl _), hS, hI.mono (Nat.le_succ _) (Nat.le_refl _), hL.mono (Nat.le_succ _), hF, hA, hJ, hX⟩
  · simp only [f1, f3, f4, f5, nm_eq, ob_some, ck_true, gI_sI, gI_sA, gA_sI, gA_sA, gL_sI, gL_sA, Nat.reduceEqDiff, eq_self, if_true, if_false, reduceIte, ite_self, Bool.false_eq_true, nI_1, nI_pred, b2, b3, b5, b6, q2, q3]
    exact PR_mk ⟨d, h, kc + 1, bc, gc, wc, pc, rc, dc, tc, sc, ic, lc, fc, ln, bn, ⟨b1, b2, b3, b4, b5, b6⟩, ⟨hc, rfl, rfl, congrArg (fun f => upd f kc 1) q4, congrArg (fun f => upd f kc (nI s)) q5, congrArg (fun f => upd f kc (-1)) q6, congrArg (fun f => upd f kc (nI d)) q7, congrArg (fun f => upd f kc (-1)) q8, hk 1 (by omega)⟩, hU, hG.mono (Nat.le_succ t) (Nat.le_refl _) (Nat.le_succ _) (Nat.le_refl _), hW.mono (Nat.le_succ _) (Nat.le_refl _), gPart.fr (hP.mono (Nat.le_succ _) (Nat.le_refl _) (Nat.le_refl _)) rfl rfl rfl rfl rfl rfl rfl rfl rfl rfl rfl rfl rfl (fun i => by simp (config := {decide := true}) only [row_sA, gA_sI]), hR, hD, hT.mono (Nat.le_succ _) (Nat.le_refl _) (Nat.le_refl _), hS, hI.mono (Nat.le_succ _) (Nat.le_refl _), hL.mono (Nat.le_succ _), hF, hA, hJ, hX⟩
theorem pair_end (t : Nat) (k n : ST) (a0 : Int32) (ht : t < 512) (hr : Rel t k n) : PR (t + 1) (fX11_end k a0) (fX12_end n a0) := by
  have hr1 := rel_thr 0 hr
  unfold fX11_end fX12_end 
  simp only [nm_eq]
  generalize sI n 11 0 0 = n at hr1 ⊢
  have hr0 := rel_step hr1
  obtain ⟨d, h, kc, bc, gc, wc, pc, rc, dc, tc, sc, ic, lc, fc, ln, bn, hB, hK, hU, hG, hW, hP, hR, hD, hT, hS, hI, hL, hF, hA, hJ, hX⟩ := hr1
  obtain ⟨b1, b2, b3, b4, b5, b6⟩ := hB
  obtain ⟨q1, q2, q3, q4⟩ := hA
  simp only [q2, q3]
  by_cases h1 : a0 < 0
  · simp only [h1, nm_eq, ob_some, ck_true, gI_sI, gI_sA, gA_sI, gA_sA, gL_sI, gL_sA, Nat.reduceEqDiff, eq_self, if_true, if_false, reduceIte, ite_self, Bool.false_eq_true, nI_1, nI_pred]
    exact PR_mk hr0
  by_cases h2 : a0 ≤ nI ln
  · obtain ⟨j, hj, rfl⟩ := nI_of h1
    have hj2 : j ≤ ln := by
      rcases Nat.lt_or_ge ln j with q | q
      · exact absurd h2 (nI_ge q hj)
      · exact q
    simp only [h1, h2, nm_eq, ob_some, ck_true, gI_sI, gI_sA, gA_sI, gA_sA, gL_sI, gL_sA, Nat.reduceEqDiff, eq_self, if_true, if_false, reduceIte, ite_self, Bool.false_eq_true, nI_1, nI_pred]
    exact PR_mk ⟨d, h, kc, bc, gc, wc, pc, rc, dc, tc, sc, ic, lc, fc, j, bn, ⟨b1, b2, b3, b4, b5, b6⟩, hK, hU, hG.mono (Nat.le_succ t) (Nat.le_refl _) (Nat.le_refl _) (Nat.le_refl _), hW, gPart.fr (hP) rfl rfl rfl rfl rfl rfl rfl rfl rfl rfl rfl rfl rfl (fun i => by simp (config := {decide := true}) only [row_sA, gA_sI]), hR, hD, hT, hS, hI, hL, hF, ⟨by omega, rfl, rfl, fun i hi => q4 i (by omega)⟩, hJ, hX⟩
  · simp only [h1, h2, nm_eq, ob_some, ck_true, gI_sI, gI_sA, gA_sI, gA_sA, gL_sI, gL_sA, Nat.reduceEqDiff, eq_self, if_true, if_false, reduceIte, ite_self, Bool.false_eq_true, nI_1, nI_pred]
    exact PR_mk hr0
theorem pair_old (t : Nat) (k n : ST) (a0 : Int32) (ht : t < 512) (hr : Rel t k n) : PR (t + 1) (fX11_old k a0) (fX12_old n a0) := by
  have hr1 := rel_thr 0 hr
  unfold fX11_old fX12_old 
  simp only [nm_eq]
  generalize sI n 11 0 0 = n at hr1 ⊢
  have hr0 := rel_step hr1
  obtain ⟨d, h, kc, bc, gc, wc, pc, rc, dc, tc, sc, ic, lc, fc, ln, bn, hB, hK, hU, hG, hW, hP, hR, hD, hT, hS, hI, hL, hF, hA, hJ, hX⟩ := hr1
  obtain ⟨b1, b2, b3, b4, b5, b6⟩ := hB
  obtain ⟨q1, q2, q3, q4, q5, q6, q7, q8, q9⟩ := hK
  simp only [sX1_knows q2 (by omega), sX12_isKey q3 (by omega), ob_some]
  by_cases e1 : inb a0 kc = true
  case neg => 
    simp only [e1, nm_eq, ob_some, ck_true, gI_sI, gI_sA, gA_sI, gA_sA, gL_sI, gL_sA, Nat.reduceEqDiff, eq_self, if_true, if_false, reduceIte, ite_self, Bool.false_eq_true, nI_1, nI_pred]
    exact PR_mk hr0
  have e2 : inb a0 40 = true := inb_mono e1 q1
  obtain ⟨j, hj, rfl⟩ := inb_of e1 (by omega)
  simp only [e1, e2, nm_eq, ob_some, ck_true, gI_sI, gI_sA, gA_sI, gA_sA, gL_sI, gL_sA, Nat.reduceEqDiff, eq_self, if_true, if_false, reduceIte, ite_self, Bool.false_eq_true, nI_1, nI_pred, ix_nI (show j < 2 ^ 31 by omega), q8, b2, b3, b5, b6]
  by_cases h1 : gA k 4 j = -1
  · simp only [h1, nm_eq, ob_some, ck_true, gI_sI, gI_sA, gA_sI, gA_sA, gL_sI, gL_sA, Nat.reduceEqDiff, eq_self, if_true, if_false, reduceIte, ite_self, Bool.false_eq_true, nI_1, nI_pred]
    exact PR_mk ⟨d, h, kc, bc, gc, wc, pc, rc, dc, tc, sc, ic, lc, fc, ln, bn, ⟨b1, b2, b3, b4, b5, b6⟩, ⟨q1, q2, q3, q4, q5, q6, q7, congrArg (fun f => upd f j (nI d)) q8, q9⟩, hU, hG.mono (Nat.le_succ t) (Nat.le_refl _) (Nat.le_refl _) (Nat.le_refl _), hW, gPart.fr (hP) rfl rfl rfl rfl rfl rfl rfl rfl rfl rfl rfl rfl rfl (fun i => by simp (config := {decide := true}) only [row_sA, gA_sI]), hR, hD, hT, hS, hI, hL, hF, hA, hJ, hX⟩
  · simp only [h1, nm_eq, ob_some, ck_true, gI_sI, gI_sA, gA_sI, gA_sA, gL_sI, gL_sA, Nat.reduceEqDiff, eq_self, if_true, if_false, reduceIte, ite_self, Bool.false_eq_true, nI_1, nI_pred]
    exact PR_mk hr0
theorem pair_wrap (t : Nat) (k n : ST) (a0 : Int32) (a1 : Int32) (ht : t < 512) (hr : Rel t k n) : PR (t + 1) (fX11_wrap k a0 a1) (fX12_wrap n a0 a1) := by
  have hr1 := rel_thr 0 hr
  unfold fX11_wrap fX12_wrap fX10_addWrap
  simp only [nm_eq]
  generalize sI n 11 0 0 = n at hr1 ⊢
  have hr0 := rel_step hr1
  obtain ⟨d, h, kc, bc, gc, wc, pc, rc, dc, tc, sc, ic, lc, fc, ln, bn, hB, hK, hU, hG, hW, hP, hR, hD, hT, hS, hI, hL, hF, hA, hJ, hX⟩ := hr1
  obtain ⟨b1, b2, b3, b4, b5, b6⟩ := hB
  obtain ⟨q1, q2, q3, -⟩ := id hK
  obtain ⟨w1, w2, w3, w4, w5, w6, w7⟩ := hW
  simp only [sX1_knows q2 (by omega), sX12_isKey q3 (by omega), ob_some, w2, w3]
  by_cases e1 : inb a0 kc = true
  case neg => 
    simp only [e1, nm_eq, ob_some, ck_true, gI_sI, gI_sA, gA_sI, gA_sA, gL_sI, gL_sA, Nat.reduceEqDiff, eq_self, if_true, if_false, reduceIte, ite_self, Bool.false_eq_true, nI_1, nI_pred]
    exact PR_mk hr0
  by_cases e2 : inb a1 kc = true
  case neg => 
    simp only [e1, e2, nm_eq, ob_some, ck_true, gI_sI, gI_sA, gA_sI, gA_sA, gL_sI, gL_sA, Nat.reduceEqDiff, eq_self, if_true, if_false, reduceIte, ite_self, Bool.false_eq_true, nI_1, nI_pred]
    exact PR_mk hr0
  obtain ⟨i, hi, rfl⟩ := inb_of e1 (by omega)
  obtain ⟨j, hj, rfl⟩ := inb_of e2 (by omega)
  by_cases e3 : nI i = nI j
  · simp only [e1, e2, e3, nm_eq, ob_some, ck_true, gI_sI, gI_sA, gA_sI, gA_sA, gL_sI, gL_sA, Nat.reduceEqDiff, eq_self, if_true, if_false, reduceIte, ite_self, Bool.false_eq_true, nI_1, nI_pred]
    exact PR_mk hr0
  by_cases hc : wc = 40
  · have f1 : (nI wc < 40) = False := by rw [hc]; exact eq_false (by decide)
    have f2 : (nI wc = 40) = True := by rw [hc]; exact eq_true rfl
    have f3 : (40 ≤ nI wc) = True := by rw [hc]; exact eq_true (by decide)
    simp only [f1, f2, f3, nm_eq, ob_some, ck_true, gI_sI, gI_sA, gA_sI, gA_sA, gL_sI, gL_sA, Nat.reduceEqDiff, eq_self, if_true, if_false, reduceIte, ite_self, Bool.false_eq_true, nI_1, nI_pred, e1, e2, e3]
    exact PR_mk hr0
  have hc : wc < 40 := by omega
  have f1 : (nI wc < 40) = True := eq_true (nI_lt (b := 40) hc (by decide))
  have f2 : (nI wc = 40) = False := eq_false (fun e => Nat.ne_of_lt hc ((nI_eq (b := 40) (by omega) (by decide)).mp e))
  have f3 : (40 ≤ nI wc) = False := eq_false (nI_ge (b := 40) hc (by decide))
  have f4 : inb (nI wc) 40 = true := inb_nI hc (by decide)
  have f5 : ix (nI wc) = wc := ix_nI (by omega)
  simp only [e1, e2, e3, f1, f2, f4, f5, nm_eq, ob_some, ck_true, gI_sI, gI_sA, gA_sI, gA_sA, gL_sI, gL_sA, Nat.reduceEqDiff, eq_self, if_true, if_false, reduceIte, ite_self, Bool.false_eq_true, nI_1, nI_pred, b2, b3, b5, b6, w2, w3]
  refine PR_mk ⟨d, h, kc, bc, gc, wc + 1, pc, rc, dc, tc, sc, ic, lc, fc, ln, bn, ⟨b1, b2, b3, b4, b5, b6⟩, hK, hU, hG.mono (Nat.le_succ t) (Nat.le_refl _) (Nat.le_refl _) (Nat.le_refl _), ⟨hc, rfl, rfl, congrArg (fun f => upd f wc (nI i)) w4, congrArg (fun f => upd f wc (nI j)) w5, congrArg (fun f => upd f wc (nI d)) w6, ?_⟩, gPart.fr (hP) rfl rfl rfl rfl rfl rfl rfl rfl rfl rfl rfl rfl rfl (fun i => by simp (config := {decide := true}) only [row_sA, gA_sI]), hR, hD, hT, hS, hI, hL, hF, hA, hJ, hX⟩
  show ∀ x, x < wc + 1 → (∃ a, a < kc ∧ upd (gA k 53) wc (nI i) x = nI a) ∧ (∃ a, a < kc ∧ upd (gA k 54) wc (nI j) x = nI a) ∧ (∃ e, e ≤ d ∧ upd (gA k 55) wc (nI d) x = nI e) ∧ eqE d (upd (gA k 56) wc (-1) x) (upd (gA n 113) wc 9999 x)
  refine ext1 (fun x hx => ?_) ?_
  · have e : x ≠ wc := by omega
    rw [un e, un e, un e, un e, un e]
    exact w7 x hx
  · rw [us, us, us, us, us]
    exact ⟨⟨i, hi, rfl⟩, ⟨j, hj, rfl⟩, ⟨d, Nat.le_refl _, rfl⟩, Or.inl ⟨rfl, rfl⟩⟩
theorem pair_fall (t : Nat) (k n : ST) (a0 : Int32) (ht : t < 512) (hr : Rel t k n) : PR (t + 1) (fX11_fall k a0) (fX12_fall n a0) := by
  have hr1 := rel_thr 0 hr
  unfold fX11_fall fX12_fall 
  simp only [nm_eq]
  generalize sI n 11 0 0 = n at hr1 ⊢
  have hr0 := rel_step hr1
  obtain ⟨d, h, kc, bc, gc, wc, pc, rc, dc, tc, sc, ic, lc, fc, ln, bn, hB, hK, hU, hG, hW, hP, hR, hD, hT, hS, hI, hL, hF, hA, hJ, hX⟩ := hr1
  obtain ⟨b1, b2, b3, b4, b5, b6⟩ := hB
  obtain ⟨w1, w2, w3, w4, w5⟩ := hF
  simp only [set_of b5 b4, are_of b6 b4, ob_some, w2, w3]
  have hp := pow_le12 b4
  have hp0 : 0 < 2 ^ h := Nat.two_pow_pos h
  by_cases e1 : in1 a0 1 (2 ^ h - 1) = true
  case neg => 
    simp only [e1, nm_eq, ob_some, ck_true, gI_sI, gI_sA, gA_sI, gA_sA, gL_sI, gL_sA, Nat.reduceEqDiff, eq_self, if_true, if_false, reduceIte, ite_self, Bool.false_eq_true, nI_1, nI_pred]
    exact PR_mk hr0
  obtain ⟨i, hi1, hi2, rfl⟩ := in1_of e1 (by omega)
  by_cases hc : fc = 20
  · have f1 : (nI fc < 20) = False := by rw [hc]; exact eq_false (by decide)
    have f2 : (nI fc = 20) = True := by rw [hc]; exact eq_true rfl
    have f3 : (20 ≤ nI fc) = True := by rw [hc]; exact eq_true (by decide)
    simp only [f1, f2, f3, nm_eq, ob_some, ck_true, gI_sI, gI_sA, gA_sI, gA_sA, gL_sI, gL_sA, Nat.reduceEqDiff, eq_self, if_true, if_false, reduceIte, ite_self, Bool.false_eq_true, nI_1, nI_pred, e1]
    exact PR_mk hr0
  have hc : fc < 20 := by omega
  have f1 : (nI fc < 20) = True := eq_true (nI_lt (b := 20) hc (by decide))
  have f2 : (nI fc = 20) = False := eq_false (fun e => Nat.ne_of_lt hc ((nI_eq (b := 20) (by omega) (by decide)).mp e))
  have f3 : (20 ≤ nI fc) = False := eq_false (nI_ge (b := 20) hc (by decide))
  have f4 : inb (nI fc) 20 = true := inb_nI hc (by decide)
  have f5 : ix (nI fc) = fc := ix_nI (by omega)
  simp only [e1, f1, f2, f4, f5, nm_eq, ob_some, ck_true, gI_sI, gI_sA, gA_sI, gA_sA, gL_sI, gL_sA, Nat.reduceEqDiff, eq_self, if_true, if_false, reduceIte, ite_self, Bool.false_eq_true, nI_1, nI_pred, b2, b3, b5, b6, w2, w3]
  refine PR_mk ⟨d, h, kc, bc, gc, wc, pc, rc, dc, tc, sc, ic, lc, fc + 1, ln, bn, ⟨b1, b2, b3, b4, b5, b6⟩, hK, hU, hG.mono (Nat.le_succ t) (Nat.le_refl _) (Nat.le_refl _) (Nat.le_refl _), hW, gPart.fr (hP) rfl rfl rfl rfl rfl rfl rfl rfl rfl rfl rfl rfl rfl (fun i => by simp (config := {decide := true}) only [row_sA, gA_sI]), hR, hD, hT, hS, hI, hL, ⟨hc, rfl, rfl, congrArg (fun f => upd f fc (nI i)) w4, ?_⟩, hA, hJ, hX⟩
  show ∀ x, x < fc + 1 → ∃ S, 1 ≤ S ∧ S < 2 ^ h ∧ upd (gA k 58) fc (nI i) x = nI S
  refine ext1 (fun x hx => ?_) ?_
  · rw [un (by omega)]
    exact w5 x hx
  · rw [us]
    exact ⟨i, hi1, by omega, rfl⟩
theorem pair_burn (t : Nat) (k n : ST) (a0 : Int32) (a1 : Int32) (ht : t < 512) (hr : Rel t k n) : PR (t + 1) (fX11_burn k a0 a1) (fX12_burn n a0 a1) := by
  have hr1 := rel_thr 0 hr
  unfold fX11_burn fX12_burn fX1_addBurn
  simp only [nm_eq]
  generalize sI n 11 0 0 = n at hr1 ⊢
  have hr0 := rel_step hr1
  obtain ⟨d, h, kc, bc, gc, wc, pc, rc, dc, tc, sc, ic, lc, fc, ln, bn, hB, hK, hU, hG, hW, hP, hR, hD, hT, hS, hI, hL, hF, hA, hJ, hX⟩ := hr1
  obtain ⟨b1, b2, b3, b4, b5, b6⟩ := hB
  obtain ⟨q1, q2, q3, -⟩ := id hK
  obtain ⟨w1, w2, w3, w4, w5, w6, w7⟩ := hU
  simp only [sX1_knows q2 (by omega), sX12_isKey q3 (by omega), day_of, dayM_of, ob_some, w2, w3]
  by_cases e1 : inb a0 kc = true
  case neg => 
    simp only [e1, nm_eq, ob_some, ck_true, gI_sI, gI_sA, gA_sI, gA_sA, gL_sI, gL_sA, Nat.reduceEqDiff, eq_self, if_true, if_false, reduceIte, ite_self, Bool.false_eq_true, nI_1, nI_pred]
    exact PR_mk hr0
  by_cases e2 : in1 a1 0 2000 = true
  case neg => 
    simp only [e1, e2, nm_eq, ob_some, ck_true, gI_sI, gI_sA, gA_sI, gA_sA, gL_sI, gL_sA, Nat.reduceEqDiff, eq_self, if_true, if_false, reduceIte, ite_self, Bool.false_eq_true, nI_1, nI_pred]
    exact PR_mk hr0
  obtain ⟨i, hi1, hi2, rfl⟩ := in1_of e2 (by omega)
  by_cases hc : bc = 60
  · have f1 : (nI bc < 60) = False := by rw [hc]; exact eq_false (by decide)
    have f2 : (nI bc = 60) = True := by rw [hc]; exact eq_true rfl
    have f3 : (60 ≤ nI bc) = True := by rw [hc]; exact eq_true (by decide)
    simp only [f1, f2, f3, nm_eq, ob_some, ck_true, gI_sI, gI_sA, gA_sI, gA_sA, gL_sI, gL_sA, Nat.reduceEqDiff, eq_self, if_true, if_false, reduceIte, ite_self, Bool.false_eq_true, nI_1, nI_pred, e1, e2]
    exact PR_mk hr0
  have hc : bc < 60 := by omega
  have f1 : (nI bc < 60) = True := eq_true (nI_lt (b := 60) hc (by decide))
  have f2 : (nI bc = 60) = False := eq_false (fun e => Nat.ne_of_lt hc ((nI_eq (b := 60) (by omega) (by decide)).mp e))
  have f3 : (60 ≤ nI bc) = False := eq_false (nI_ge (b := 60) hc (by decide))
  have f4 : inb (nI bc) 60 = true := inb_nI hc (by decide)
  have f5 : ix (nI bc) = bc := ix_nI (by omega)
  simp only [e1, e2, f1, f2, f4, f5, nm_eq, ob_some, ck_true, gI_sI, gI_sA, gA_sI, gA_sA, gL_sI, gL_sA, Nat.reduceEqDiff, eq_self, if_true, if_false, reduceIte, ite_self, Bool.false_eq_true, nI_1, nI_pred, b2, b3, b5, b6, w2, w3]
  refine PR_mk ⟨d, h, kc, bc + 1, gc, wc, pc, rc, dc, tc, sc, ic, lc, fc, ln, bn, ⟨b1, b2, b3, b4, b5, b6⟩, hK, ⟨hc, rfl, rfl, congrArg (fun f => upd f bc a0) w4, congrArg (fun f => upd f bc (nI i)) w5, congrArg (fun f => upd f bc (nI d)) w6, ?_⟩, hG.mono (Nat.le_succ t) (Nat.le_refl _) (Nat.le_refl _) (Nat.le_refl _), hW, gPart.fr (hP) rfl rfl rfl rfl rfl rfl rfl rfl rfl rfl rfl rfl rfl (fun i => by simp (config := {decide := true}) only [row_sA, gA_sI]), hR, hD, hT, hS, hI, hL, hF, hA, hJ, hX⟩
  show ∀ x, x < bc + 1 → ∃ f, f ≤ 2000 ∧ upd (gA k 6) bc (nI i) x = nI f
  refine ext1 (fun x hx => ?_) ?_
  · rw [un (by omega)]
    exact w7 x hx
  · rw [us]
    exact ⟨i, hi2, rfl⟩
theorem pair_death (t : Nat) (k n : ST) (a0 : Int32) (a1 : Int32) (ht : t < 512) (hr : Rel t k n) : PR (t + 1) (fX11_death k a0 a1) (fX12_death n a0 a1) := by
  have hr1 := rel_thr 0 hr
  unfold fX11_death fX12_death fX6_addRuleOfDeath
  simp only [nm_eq]
  generalize sI n 11 0 0 = n at hr1 ⊢
  have hr0 := rel_step hr1
  obtain ⟨d, h, kc, bc, gc, wc, pc, rc, dc, tc, sc, ic, lc, fc, ln, bn, hB, hK, hU, hG, hW, hP, hR, hD, hT, hS, hI, hL, hF, hA, hJ, hX⟩ := hr1
  obtain ⟨b1, b2, b3, b4, b5, b6⟩ := hB
  obtain ⟨q1, q2, q3, -⟩ := id hR
  obtain ⟨w1, w2, w3, w4, w5, w6, w7⟩ := hD
  simp only [sX11_isHolder b5 (by omega), sX12_isHolder b6 (by omega), sX5_knows q2 (by omega), sX12_isRule q3 (by omega), ob_some, w2, w3]
  by_cases e1 : inb a0 h = true
  case neg => 
    simp only [e1, nm_eq, ob_some, ck_true, gI_sI, gI_sA, gA_sI, gA_sA, gL_sI, gL_sA, Nat.reduceEqDiff, eq_self, if_true, if_false, reduceIte, ite_self, Bool.false_eq_true, nI_1, nI_pred]
    exact PR_mk hr0
  by_cases e2 : inb a1 rc = true
  case neg => 
    simp only [e1, e2, nm_eq, ob_some, ck_true, gI_sI, gI_sA, gA_sI, gA_sA, gL_sI, gL_sA, Nat.reduceEqDiff, eq_self, if_true, if_false, reduceIte, ite_self, Bool.false_eq_true, nI_1, nI_pred]
    exact PR_mk hr0
  obtain ⟨i, hi, rfl⟩ := inb_of e1 (by omega)
  obtain ⟨j, hj, rfl⟩ := inb_of e2 (by omega)
  by_cases hc : dc = 40
  · have f1 : (nI dc < 40) = False := by rw [hc]; exact eq_false (by decide)
    have f2 : (nI dc = 40) = True := by rw [hc]; exact eq_true rfl
    have f3 : (40 ≤ nI dc) = True := by rw [hc]; exact eq_true (by decide)
    simp only [f1, f2, f3, nm_eq, ob_some, ck_true, gI_sI, gI_sA, gA_sI, gA_sA, gL_sI, gL_sA, Nat.reduceEqDiff, eq_self, if_true, if_false, reduceIte, ite_self, Bool.false_eq_true, nI_1, nI_pred, e1, e2]
    exact PR_mk hr0
  have hc : dc < 40 := by omega
  have f1 : (nI dc < 40) = True := eq_true (nI_lt (b := 40) hc (by decide))
  have f2 : (nI dc = 40) = False := eq_false (fun e => Nat.ne_of_lt hc ((nI_eq (b := 40) (by omega) (by decide)).mp e))
  have f3 : (40 ≤ nI dc) = False := eq_false (nI_ge (b := 40) hc (by decide))
  have f4 : inb (nI dc) 40 = true := inb_nI hc (by decide)
  have f5 : ix (nI dc) = dc := ix_nI (by omega)
  simp only [e1, e2, f1, f2, f4, f5, nm_eq, ob_some, ck_true, gI_sI, gI_sA, gA_sI, gA_sA, gL_sI, gL_sA, Nat.reduceEqDiff, eq_self, if_true, if_false, reduceIte, ite_self, Bool.false_eq_true, nI_1, nI_pred, b2, b3, b5, b6, w2, w3]
  refine PR_mk ⟨d, h, kc, bc, gc, wc, pc, rc, dc + 1, tc, sc, ic, lc, fc, ln, bn, ⟨b1, b2, b3, b4, b5, b6⟩, hK, hU, hG.mono (Nat.le_succ t) (Nat.le_refl _) (Nat.le_refl _) (Nat.le_refl _), hW, gPart.fr (hP) rfl rfl rfl rfl rfl rfl rfl rfl rfl rfl rfl rfl rfl (fun i => by simp (config := {decide := true}) only [row_sA, gA_sI]), hR, ⟨hc, rfl, rfl, congrArg (fun f => upd f dc (nI i)) w4, congrArg (fun f => upd f dc (nI j)) w5, congrArg (fun f => upd f dc (nI d)) w6, ?_⟩, hT, hS, hI, hL, hF, hA, hJ, hX⟩
  show ∀ x, x < dc + 1 → (∃ y, y < h ∧ upd (gA k 34) dc (nI i) x = nI y) ∧ (∃ r, r < rc ∧ upd (gA k 35) dc (nI j) x = nI r) ∧ (∃ e, e ≤ d ∧ upd (gA k 36) dc (nI d) x = nI e)
  refine ext1 (fun x hx => ?_) ?_
  · have e : x ≠ dc := by omega
    rw [un e, un e, un e]
    exact w7 x hx
  · rw [us, us, us]
    exact ⟨⟨i, hi, rfl⟩, ⟨j, hj, rfl⟩, ⟨d, Nat.le_refl _, rfl⟩⟩
theorem pair_ask (t : Nat) (k n : ST) (a0 : Int32) (ht : t < 512) (hr : Rel t k n) : PR (t + 1) (fX11_ask k a0) (fX12_ask n a0) := by
  have hr1 := rel_thr 0 hr
  unfold fX11_ask fX12_ask 
  simp only [nm_eq]
  generalize sI n 11 0 0 = n at hr1 ⊢
  have hr0 := rel_step hr1
  obtain ⟨d, h, kc, bc, gc, wc, pc, rc, dc, tc, sc, ic, lc, fc, ln, bn, hB, hK, hU, hG, hW, hP, hR, hD, hT, hS, hI, hL, hF, hA, hJ, hX⟩ := hr1
  obtain ⟨b1, b2, b3, b4, b5, b6⟩ := hB
  obtain ⟨q1, q2, q3, q4, q5, q6, q7, q8, q9, q10⟩ := hT
  simp only [sX9_knows q2 (by omega), sX12_isThing q3 (by omega), ob_some]
  by_cases e1 : inb a0 tc = true
  case neg => 
    simp only [e1, nm_eq, ob_some, ck_true, gI_sI, gI_sA, gA_sI, gA_sA, gL_sI, gL_sA, Nat.reduceEqDiff, eq_self, if_true, if_false, reduceIte, ite_self, Bool.false_eq_true, nI_1, nI_pred]
    exact PR_mk hr0
  have e2 : inb a0 40 = true := inb_mono e1 q1
  obtain ⟨j, hj, rfl⟩ := inb_of e1 (by omega)
  simp only [e1, e2, nm_eq, ob_some, ck_true, gI_sI, gI_sA, gA_sI, gA_sA, gL_sI, gL_sA, Nat.reduceEqDiff, eq_self, if_true, if_false, reduceIte, ite_self, Bool.false_eq_true, nI_1, nI_pred, ix_nI (show j < 2 ^ 31 by omega), q7, b2, b3, b5, b6]
  by_cases h1 : gA k 47 j = -1
  · simp only [h1, nm_eq, ob_some, ck_true, gI_sI, gI_sA, gA_sI, gA_sA, gL_sI, gL_sA, Nat.reduceEqDiff, eq_self, if_true, if_false, reduceIte, ite_self, Bool.false_eq_true, nI_1, nI_pred]
    refine PR_mk ⟨d, h, kc, bc, gc, wc, pc, rc, dc, tc, sc, ic, lc, fc, ln, bn, ⟨b1, b2, b3, b4, b5, b6⟩, hK, hU, hG.mono (Nat.le_succ t) (Nat.le_refl _) (Nat.le_refl _) (Nat.le_refl _), hW, gPart.fr (hP) rfl rfl rfl rfl rfl rfl rfl rfl rfl rfl rfl rfl rfl (fun i => by simp (config := {decide := true}) only [row_sA, gA_sI]), hR, hD, ⟨q1, q2, q3, q4, q5, q6, congrArg (fun f => upd f j (nI d)) q7, q8, ?_, q10⟩, hS, hI, hL, hF, hA, hJ, hX⟩
    intro i hi
    obtain ⟨p1, p2, p3, p4⟩ := q9 i hi
    refine ⟨p1, p2, ?_, p4⟩
    show upd (gA k 47) j (nI d) i = -1 ∨ ∃ e, e ≤ d ∧ upd (gA k 47) j (nI d) i = nI e
    by_cases e : i = j
    · rw [e, us]
      exact Or.inr ⟨d, Nat.le_refl _, rfl⟩
    · rw [un e]
      exact p3
  · simp only [h1, nm_eq, ob_some, ck_true, gI_sI, gI_sA, gA_sI, gA_sA, gL_sI, gL_sA, Nat.reduceEqDiff, eq_self, if_true, if_false, reduceIte, ite_self, Bool.false_eq_true, nI_1, nI_pred]
    exact PR_mk hr0
theorem pair_back (t : Nat) (k n : ST) (a0 : Int32) (ht : t < 512) (hr : Rel t k n) : PR (t + 1) (fX11_back k a0) (fX12_back n a0) := by
  have hr1 := rel_thr 0 hr
  unfold fX11_back fX12_back 
  simp only [nm_eq]
  generalize sI n 11 0 0 = n at hr1 ⊢
  have hr0 := rel_step hr1
  obtain ⟨d, h, kc, bc, gc, wc, pc, rc, dc, tc, sc, ic, lc, fc, ln, bn, hB, hK, hU, hG, hW, hP, hR, hD, hT, hS, hI, hL, hF, hA, hJ, hX⟩ := hr1
  obtain ⟨b1, b2, b3, b4, b5, b6⟩ := hB
  obtain ⟨q1, q2, q3, q4, q5, q6, q7, q8, q9, q10⟩ := hL
  simp only [sX2_knows q2 (by omega), q3, isIn_cnt n a0 lc (by omega), ob_some]
  by_cases e1 : inb a0 lc = true
  case neg => 
    simp only [e1, nm_eq, ob_some, ck_true, gI_sI, gI_sA, gA_sI, gA_sA, gL_sI, gL_sA, Nat.reduceEqDiff, eq_self, if_true, if_false, reduceIte, ite_self, Bool.false_eq_true, nI_1, nI_pred]
    exact PR_mk hr0
  have e2 : inb a0 40 = true := inb_mono e1 q1
  obtain ⟨j, hj, rfl⟩ := inb_of e1 (by omega)
  simp only [e1, e2, nm_eq, ob_some, ck_true, gI_sI, gI_sA, gA_sI, gA_sA, gL_sI, gL_sA, Nat.reduceEqDiff, eq_self, if_true, if_false, reduceIte, ite_self, Bool.false_eq_true, nI_1, nI_pred, ix_nI (show j < 2 ^ 31 by omega), q8, b2, b3, b5, b6]
  by_cases h1 : gA k 12 j = 0
  · simp only [h1, nm_eq, ob_some, ck_true, gI_sI, gI_sA, gA_sI, gA_sA, gL_sI, gL_sA, Nat.reduceEqDiff, eq_self, if_true, if_false, reduceIte, ite_self, Bool.false_eq_true, nI_1, nI_pred]
    refine PR_mk ⟨d, h, kc, bc, gc, wc, pc, rc, dc, tc, sc, ic, lc, fc, ln, bn, ⟨b1, b2, b3, b4, b5, b6⟩, hK, hU, hG.mono (Nat.le_succ t) (Nat.le_refl _) (Nat.le_refl _) (Nat.le_refl _), hW, gPart.fr (hP) rfl rfl rfl rfl rfl rfl rfl rfl rfl rfl rfl rfl rfl (fun i => by simp (config := {decide := true}) only [row_sA, gA_sI]), hR, hD, hT, hS, hI, ⟨q1, q2, q3, q4, q5, q6, q7, congrArg (fun f => upd f j 1) q8, ?_, ?_⟩, hF, hA, hJ, hX⟩
    · intro i hi
      obtain ⟨p1, p2, p3⟩ := q9 i hi
      refine ⟨p1, p2, ?_⟩
      show ∃ b, upd (gA k 12) j 1 i = b2i b
      by_cases e : i = j
      · rw [e, us]
        exact ⟨true, rfl⟩
      · rw [un e]
        exact p3
    · intro i hi
      show upd (gA k 12) j 1 i = 0
      rw [un (by omega)]
      exact q10 i hi
  · simp only [h1, nm_eq, ob_some, ck_true, gI_sI, gI_sA, gA_sI, gA_sA, gL_sI, gL_sA, Nat.reduceEqDiff, eq_self, if_true, if_false, reduceIte, ite_self, Bool.false_eq_true, nI_1, nI_pred]
    exact PR_mk hr0
theorem pair_signed (t : Nat) (k n : ST) (a0 : Int32) (a1 : Int32) (ht : t < 512) (hr : Rel t k n) : PR (t + 1) (fX11_signed k a0 a1) (fX12_signed n a0 a1) := by
  have hr1 := rel_thr 0 hr
  unfold fX11_signed fX12_signed 
  simp only [nm_eq]
  generalize sI n 11 0 0 = n at hr1 ⊢
  have hr0 := rel_step hr1
  obtain ⟨d, h, kc, bc, gc, wc, pc, rc, dc, tc, sc, ic, lc, fc, ln, bn, hB, hK, hU, hG, hW, hP, hR, hD, hT, hS, hI, hL, hF, hA, hJ, hX⟩ := hr1
  obtain ⟨b1, b2, b3, b4, b5, b6⟩ := hB
  obtain ⟨q1, q2, q3, q4, q5, q6, q7, q8, q9⟩ := id hI
  simp only [sX7_knows q2 (by omega), q3, isIn_cnt n a0 ic (by omega), ob_some, q4, q5, q6, q7, q8]
  by_cases e1 : inb a0 ic = true
  case neg => 
    simp only [e1, nm_eq, ob_some, ck_true, gI_sI, gI_sA, gA_sI, gA_sA, gL_sI, gL_sA, Nat.reduceEqDiff, eq_self, if_true, if_false, reduceIte, ite_self, Bool.false_eq_true, nI_1, nI_pred]
    exact PR_mk hr0
  have e2 : inb a0 80 = true := inb_mono e1 q1
  simp only [e1, e2, nm_eq, ob_some, ck_true, gI_sI, gI_sA, gA_sI, gA_sA, gL_sI, gL_sA, Nat.reduceEqDiff, eq_self, if_true, if_false, reduceIte, ite_self, Bool.false_eq_true, nI_1, nI_pred]
  by_cases h0 : a1 = 0
  · simp only [h0, nm_eq, ob_some, ck_true, gI_sI, gI_sA, gA_sI, gA_sA, gL_sI, gL_sA, Nat.reduceEqDiff, eq_self, if_true, if_false, reduceIte, ite_self, Bool.false_eq_true, nI_1, nI_pred]
    exact PR_mk hr0
  by_cases h1 : a1 = 1
  · simp only [h0, h1, nm_eq, ob_some, ck_true, gI_sI, gI_sA, gA_sI, gA_sA, gL_sI, gL_sA, Nat.reduceEqDiff, eq_self, if_true, if_false, reduceIte, ite_self, Bool.false_eq_true, nI_1, nI_pred]
    exact PR_mk hr0
  by_cases h2 : a1 = 2
  · simp only [h0, h1, h2, nm_eq, ob_some, ck_true, gI_sI, gI_sA, gA_sI, gA_sA, gL_sI, gL_sA, Nat.reduceEqDiff, eq_self, if_true, if_false, reduceIte, ite_self, Bool.false_eq_true, nI_1, nI_pred]
    exact PR_mk hr0
  by_cases h3 : a1 = 3
  · simp only [h0, h1, h2, h3, nm_eq, ob_some, ck_true, gI_sI, gI_sA, gA_sI, gA_sA, gL_sI, gL_sA, Nat.reduceEqDiff, eq_self, if_true, if_false, reduceIte, ite_self, Bool.false_eq_true, nI_1, nI_pred]
    exact PR_mk hr0
  by_cases h4 : a1 = 4
  · simp only [h0, h1, h2, h3, h4, nm_eq, ob_some, ck_true, gI_sI, gI_sA, gA_sI, gA_sA, gL_sI, gL_sA, Nat.reduceEqDiff, eq_self, if_true, if_false, reduceIte, ite_self, Bool.false_eq_true, nI_1, nI_pred]
    exact PR_mk hr0
  simp only [h0, h1, h2, h3, h4, nm_eq, ob_some, ck_true, gI_sI, gI_sA, gA_sI, gA_sA, gL_sI, gL_sA, Nat.reduceEqDiff, eq_self, if_true, if_false, reduceIte, ite_self, Bool.false_eq_true, nI_1, nI_pred]
  exact PR_mk hr0
