theorem eqE.mono {d d' : Nat} {a b : Int32} (h : eqE d a b) (hd : d ≤ d') : eqE d' a b := by
  rcases h with h | ⟨e, h1, h2⟩
  · exact Or.inl h
  · exact Or.inr ⟨e, by omega, h2⟩
theorem gKeys.mono {kc d d' : Nat} {k n : ST} (h : gKeys kc d k n) (hd : d ≤ d') : gKeys kc d' k n := by
  obtain ⟨a1, a2, a3, a4, a5, a6, a7, a8, a9⟩ := h
  refine ⟨a1, a2, a3, a4, a5, a6, a7, a8, fun j hj => ?_⟩
  obtain ⟨b1, b2, b3, e, b4, b5⟩ := a9 j hj
  exact ⟨b1, b2, b3, e, by omega, b5⟩
theorem gTurn.mono {t t' gc h h' kc kc' d d' : Nat} {k n : ST} (H : gTurn t gc h kc d k n) (ht : t ≤ t') (hh : h ≤ h') (hk : kc ≤ kc') (hd : d ≤ d') : gTurn t' gc h' kc' d' k n := by
  obtain ⟨a1, a2, a3, a4, a5, a6, a7, a8, a9⟩ := H
  refine ⟨by omega, a2, a3, a4, a5, a6, fun i hi => ?_, a8, a9⟩
  obtain ⟨⟨x, b1, b2⟩, ⟨y, b3, b4⟩, ⟨e, b5, b6⟩, b7⟩ := a7 i hi
  exact ⟨⟨x, by omega, b2⟩, ⟨y, by omega, b4⟩, ⟨e, by omega, b6⟩, b7⟩
theorem gWrap.mono {wc kc kc' d d' : Nat} {k n : ST} (H : gWrap wc kc d k n) (hk : kc ≤ kc') (hd : d ≤ d') : gWrap wc kc' d' k n := by
  obtain ⟨a1, a2, a3, a4, a5, a6, a7⟩ := H
  refine ⟨a1, a2, a3, a4, a5, a6, fun i hi => ?_⟩
  obtain ⟨⟨x, b1, b2⟩, ⟨y, b3, b4⟩, ⟨e, b5, b6⟩, b7⟩ := a7 i hi
  exact ⟨⟨x, by omega, b2⟩, ⟨y, by omega, b4⟩, ⟨e, by omega, b6⟩, b7.mono hd⟩
theorem gPart.mono {pc kc kc' h h' d d' : Nat} {k n : ST} (H : gPart pc kc h d k n) (hk : kc ≤ kc') (hh : h ≤ h') (hd : d ≤ d') : gPart pc kc' h' d' k n := by
  obtain ⟨a1, a2, a3, a4, a5, a6, a7, a8⟩ := H
  refine ⟨a1, a2, a3, a4, a5, a6, a7, fun i hi => ?_⟩
  obtain ⟨⟨x, b1, b2⟩, ⟨S, w, b3, b4, b5⟩, ⟨e, b6, b7⟩, b8⟩ := a8 i hi
  exact ⟨⟨x, by omega, b2⟩, ⟨S, w, b3, Nat.lt_of_lt_of_le b4 (Nat.pow_le_pow_right (by decide) hh), b5⟩, ⟨e, by omega, b7⟩, b8.mono hd⟩
theorem row_sA (k : ST) (j x : Nat) (v : Int32) (i : Nat) (hj : j < 59) : gA (sA k j x v) (59 + i) = gA k (59 + i) := by rw [gA_sA, if_neg (by omega)]
theorem gPart.fr {pc kc h d : Nat} {k n k' n' : ST} (H : gPart pc kc h d k n) (e1 : gI k' 2 0 = gI k 2 0) (e2 : gI n' 11 30 = gI n 11 30) (e3 : gA k' 13 = gA k 13) (e4 : gA k' 14 = gA k 14) (e5 : gA k' 15 = gA k 15) (e6 : gA k' 16 = gA k 16) (e7 : gA k' 17 = gA k 17) (f3 : gA n' 114 = gA n 114) (f4 : gA n' 115 = gA n 115) (f5 : gA n' 116 = gA n 116) (f6 : gA n' 117 = gA n 117) (f7 : gA n' 118 = gA n 118) (f8 : gA n' 119 = gA n 119) (e8 : ∀ i, gA k' (59 + i) = gA k (59 + i)) : gPart pc kc h d k' n' := by
  unfold gPart at *
  rw [e1, e2, e3, e4, e5, e6, e7, f3, f4, f5, f6, f7, f8]
  obtain ⟨a1, a2, a3, a4, a5, a6, a7, a8⟩ := H
  refine ⟨a1, a2, a3, a4, a5, a6, a7, fun i hi => ?_⟩
  rw [e8]
  exact a8 i hi
theorem gDeath.mono {dc h h' rc rc' d d' : Nat} {k n : ST} (H : gDeath dc h rc d k n) (hh : h ≤ h') (hr : rc ≤ rc') (hd : d ≤ d') : gDeath dc h' rc' d' k n := by
  obtain ⟨a1, a2, a3, a4, a5, a6, a7⟩ := H
  refine ⟨a1, a2, a3, a4, a5, a6, fun i hi => ?_⟩
  obtain ⟨⟨x, b1, b2⟩, ⟨y, b3, b4⟩, ⟨e, b5, b6⟩⟩ := a7 i hi
  exact ⟨⟨x, by omega, b2⟩, ⟨y, by omega, b4⟩, ⟨e, by omega, b6⟩⟩
theorem gThing.mono {tc kc kc' rc rc' d d' : Nat} {k n : ST} (H : gThing tc kc rc d k n) (hk : kc ≤ kc') (hr : rc ≤ rc') (hd : d ≤ d') : gThing tc kc' rc' d' k n := by
  obtain ⟨a1, a2, a3, a4, a5, a6, a7, a8, a9, a10⟩ := H
  refine ⟨a1, a2, a3, a4, a5, a6, a7, a8, fun i hi => ?_, a10⟩
  obtain ⟨b1, ⟨b, b2, x, b3, b4, b5⟩, b6, b7⟩ := a9 i hi
  refine ⟨b1, ⟨b, b2, x, b3, fun q => Nat.lt_of_lt_of_le (b4 q) hr, fun q => Nat.lt_of_lt_of_le (b5 q) hk⟩, ?_, b7⟩
  rcases b6 with q | ⟨e, q1, q2⟩
  · exact Or.inl q
  · exact Or.inr ⟨e, by omega, q2⟩
theorem gSay.mono {sc h h' tc tc' d d' : Nat} {k n : ST} (H : gSay sc h tc d k n) (hh : h ≤ h') (ht : tc ≤ tc') (hd : d ≤ d') : gSay sc h' tc' d' k n := by
  obtain ⟨a1, a2, a3, a4, a5, a6, a7, a8⟩ := H
  refine ⟨a1, a2, a3, a4, a5, a6, fun i hi => ?_, a8⟩
  obtain ⟨⟨x, b1, b2⟩, b3, b4, ⟨e, b5, b6⟩⟩ := a7 i hi
  refine ⟨⟨x, by omega, b2⟩, ?_, b4, ⟨e, by omega, b6⟩⟩
  rcases b3 with ⟨a, q1, q2⟩ | ⟨a, q1, q2⟩
  · exact Or.inl ⟨a, by omega, q2⟩
  · exact Or.inr ⟨a, by omega, q2⟩
theorem gSig.mono {ic kc kc' d d' : Nat} {k n : ST} (H : gSig ic kc d k n) (hk : kc ≤ kc') (hd : d ≤ d') : gSig ic kc' d' k n := by
  obtain ⟨a1, a2, a3, a4, a5, a6, a7, a8, a9⟩ := H
  refine ⟨a1, a2, a3, a4, a5, a6, a7, a8, fun i hi => ?_⟩
  obtain ⟨⟨x, b1, b2⟩, ⟨e, b5, b6⟩⟩ := a9 i hi
  exact ⟨⟨x, by omega, b2⟩, ⟨e, by omega, b6⟩⟩
theorem gLoan.mono {lc kc kc' : Nat} {k n : ST} (H : gLoan lc kc k n) (hk : kc ≤ kc') : gLoan lc kc' k n := by
  obtain ⟨a1, a2, a3, a4, a5, a6, a7, a8, a9, a10⟩ := H
  refine ⟨a1, a2, a3, a4, a5, a6, a7, a8, fun i hi => ?_, a10⟩
  obtain ⟨⟨x, b1, b2⟩, b3⟩ := a9 i hi
  exact ⟨⟨x, by omega, b2⟩, b3⟩
theorem gFall.mono {fc h h' : Nat} {k n : ST} (H : gFall fc h k n) (hh : h ≤ h') : gFall fc h' k n := by
  obtain ⟨a1, a2, a3, a4, a5⟩ := H
  refine ⟨a1, a2, a3, a4, fun i hi => ?_⟩
  obtain ⟨S, b1, b2, b3⟩ := a5 i hi
  exact ⟨S, b1, Nat.lt_of_lt_of_le b2 (Nat.pow_le_pow_right (by decide) hh), b3⟩
theorem gBench.mono {bn h h' : Nat} {k n : ST} (H : gBench bn h k n) (hh : h ≤ h') : gBench bn h' k n := by
  obtain ⟨a1, a2, S, hs, a3, a4, a0, a5, a6⟩ := H
  refine ⟨a1, a2, S, hs, Nat.lt_of_lt_of_le a3 (Nat.pow_le_pow_right (by decide) hh), a4, a0, fun i hi => ?_, a6⟩
  obtain ⟨b1, b2⟩ := a5 i hi
  exact ⟨by omega, b2⟩
theorem gFalse.mono {h h' : Nat} {k n : ST} (H : gFalse h k n) (hh : h ≤ h') : gFalse h' k n := by
  obtain ⟨F, a1, a2, a3⟩ := H
  exact ⟨F, Nat.lt_of_lt_of_le a1 (Nat.pow_le_pow_right (by decide) hh), a2, a3⟩
theorem rel_step {t : Nat} {k n : ST} (H : Rel t k n) : Rel (t + 1) k n := by
  obtain ⟨d, h, kc, bc, gc, wc, pc, rc, dc, tc, sc, ic, lc, fc, ln, bn, hB, hK, hU, hG, hW, hP, hR, hD, hT, hS, hI, hL, hF, hA, hJ, hX⟩ := H
  exact ⟨d, h, kc, bc, gc, wc, pc, rc, dc, tc, sc, ic, lc, fc, ln, bn, hB, hK, hU, hG.mono (Nat.le_succ t) (Nat.le_refl _) (Nat.le_refl _) (Nat.le_refl _), hW, hP, hR, hD, hT, hS, hI, hL, hF, hA, hJ, hX⟩
theorem rel_thr {t : Nat} {k n : ST} (v : Int32) (H : Rel t k n) : Rel t k (sI n 11 0 v) := by
  obtain ⟨d, h, kc, bc, gc, wc, pc, rc, dc, tc, sc, ic, lc, fc, ln, bn, hB, hK, hU, hG, hW, hP, hR, hD, hT, hS, hI, hL, hF, hA, hJ, hX⟩ := H
  exact ⟨d, h, kc, bc, gc, wc, pc, rc, dc, tc, sc, ic, lc, fc, ln, bn, hB, hK, hU, hG, hW, hP, hR, hD, hT, hS, hI, hL, hF, hA, hJ, hX⟩
