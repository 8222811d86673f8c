theorem by8 : ∀ c : Fin 256, ((nI c.val).toInt8.toInt32).toInt8.toInt32 = (nI c.val).toInt8.toInt32 := by decide +kernel
/-- the tape, read for its FAULT, here and there -/
theorem faultBoth {k n : ST} {h tc d sc ln : Nat} (hS : gSay sc h tc d k n) (hA : gTape ln k n) : ∃ (z y : ST) (v : Bool), isS k z ∧ isM n y ∧ gI y 11 16 = nI ln ∧
    fX12_goThrough (sI n 11 62 1) 121 0 (gI (sI n 11 62 1) 11 16) = some (v, y) ∧ ∃ tx : Nat → Nat, (∀ i, i < ln → 1 ≤ tx i ∧ tx i < 256 ∧ gA k 43 i = nI (tx i) ∧ gA n 109 i = (nI (tx i)).toInt8.toInt32) ∧
    match mRule tx ln with
    | .inl p => p ≤ 160 ∧ fX5_faultOf k (gI k 7 1) = some (nI p, z) ∧ gI y 11 56 = nI p
    | .inr ws => ws.length ≤ ln ∧ fX5_faultOf k (gI k 7 1) = some (-1, z) ∧ gI y 11 56 = -1 ∧ gI z 4 4 = nI ws.length ∧ ∀ i, i < ws.length → gA z 28 i = nI (ws.getD i 0) := by
  obtain ⟨l1, l2, l3, l4⟩ := hA
  have htx : ∀ i, i < ln → 1 ≤ vN (gA k 43 i) ∧ vN (gA k 43 i) < 256 ∧ gA k 43 i = nI (vN (gA k 43 i)) ∧ gA n 109 i = (nI (vN (gA k 43 i))).toInt8.toInt32 := fun i hi => by
    obtain ⟨c, c1, c2, c3, c4⟩ := l4 i hi
    rw [c3, vN_nI (by omega)]
    exact ⟨c1, c2, rfl, c4⟩
  have hm : isM n (sI n 11 62 1) := (isM.rf n).sI _ rfl
  have tK : txK k (fun i => vN (gA k 43 i)) ln := ⟨l1, fun i hi => ⟨(htx i hi).1, (htx i hi).2.1, (htx i hi).2.2.1⟩⟩
  have tM : txM (sI n 11 62 1) 121 0 (fun i => vN (gA k 43 i)) ln := ⟨l1, by decide, by
    show 0 + ln ≤ 160
    omega, by decide, fun i hi => ⟨(htx i hi).1, (htx i hi).2.1, by
    show gA n 109 (0 + i) = _
    rw [Nat.zero_add]
    exact (htx i hi).2.2.2⟩⟩
  have hl := lawsF (y := sI n 11 62 1) hS.1 hS.2.2.1 (show ¬ gI (sI n 11 62 1) 11 62 = 0 from (by decide : ¬ (1 : Int32) = 0))
  obtain ⟨y, v, e1, e2, e3⟩ := goM tM hl
  obtain ⟨z, f1, f2⟩ := faultK tK
  have hy := e2.isM hm
  have y16 : gI y 11 16 = nI ln := by
    rw [hy.i 11 16 (fun _ => rfl)]
    exact l3
  refine ⟨z, y, v, f1, hy, y16, ?_, fun i => vN (gA k 43 i), htx, ?_⟩
  · rw [show gI (sI n 11 62 1) 11 16 = nI ln from l3]
    exact e1
  · rw [l2]
    cases hr : mRule (fun i => vN (gA k 43 i)) ln with
    | inl p =>
      rw [hr] at e3 f2
      exact ⟨f2.1, f2.2, e3.2⟩
    | inr ws =>
      rw [hr] at e3 f2
      exact ⟨f2.1, f2.2.1, e3.1, f2.2.2.1, f2.2.2.2⟩
theorem pair_fault (t : Nat) (k n : ST)  (ht : t < 512) (hr : Rel t k n) : PR (t + 1) (fX11_fault k) (fX12_fault n) := by
  have hr1 := rel_thr 0 hr
  unfold fX11_fault fX12_fault
  simp only [nm_eq]
  generalize sI n 11 0 0 = n at hr1 ⊢
  have hr0 := rel_step hr1
  obtain ⟨d, h, kc, bc, gc, wc, pc, rc, dc, tc, sc, ic, lc, fc, ln, bn, hB, hK, hU, hG, hW, hP, hR, hD, hT, hS, hI, hL, hF, hA, hJ, hX⟩ := hr1
  obtain ⟨b1, b2, b3, b4, b5, b6⟩ := id hB
  obtain ⟨z, y, v, s1, s2, s3, s4, tx, s5, s6⟩ := faultBoth hS hA
  have hfin := s2.rel (s1.rel hr0)
  rw [s4, ob_some]
  cases hm : mRule tx ln with
  | inl p =>
    rw [hm] at s6
    rw [s6.2.1, ob_some, s6.2.2]
    exact PR_mk hfin
  | inr ws =>
    rw [hm] at s6
    rw [s6.2.1, ob_some, s6.2.2.1]
    exact PR_mk hfin
theorem sA_sFF (σ : ST) (j i : Nat) (G : Nat → Int32) (v : Int32) : sA (sF σ j G) j i v = sF σ j (upd G i v) := by
  refine Prod.ext rfl (Prod.ext ?_ rfl)
  funext a
  show (if a = j then upd (if a = j then G else σ.2.1 a) i v else if a = j then G else σ.2.1 a) = if a = j then upd G i v else σ.2.1 a
  by_cases c : a = j
  · rw [if_pos c, if_pos c, if_pos c]
  · rw [if_neg c, if_neg c, if_neg c]
theorem sF_self (σ : ST) (j : Nat) : sF σ j (gA σ j) = σ := by
  refine Prod.ext rfl (Prod.ext ?_ rfl)
  funext a
  show (if a = j then σ.2.1 j else σ.2.1 a) = σ.2.1 a
  by_cases c : a = j
  · rw [if_pos c, c]
  · rw [if_neg c]
/-- the model lays the text by -/
theorem copyM {y : ST} {ln rc : Nat} (hl : ln ≤ 160) (hrc : rc < 20) (h16 : gI y 11 16 = nI ln) (h48 : gI y 11 48 = nI rc) (tx : Nat → Nat) (htx : ∀ i, i < ln → tx i < 256 ∧ gA y 109 i = (nI (tx i)).toInt8.toInt32) (cont : Int32 → ST → Option (Int32 × ST)) : ∃ G : Nat → Int32, lpX12_rule_21 FU 0 y cont = cont (nI ln) (sF y 123 G) ∧ (∀ j, j < 160 * rc → G j = gA y 123 j) ∧ ∀ i, i < ln → G (160 * rc + i) = (nI (tx i)).toInt8.toInt32 := by
  have lp : ∀ (r g i : Nat) (G : Nat → Int32), i + r = ln → r + 1 ≤ g → (∀ j, j < 160 * rc → G j = gA y 123 j) → (∀ j, j < i → G (160 * rc + j) = (nI (tx j)).toInt8.toInt32) → ∃ G' : Nat → Int32, lpX12_rule_21 g (nI i) (sF y 123 G) cont = cont (nI ln) (sF y 123 G') ∧ (∀ j, j < 160 * rc → G' j = gA y 123 j) ∧ ∀ i, i < ln → G' (160 * rc + i) = (nI (tx i)).toInt8.toInt32 := by
    intro r
    induction r with
    | zero =>
      intro g i G hi hg h1 h2
      obtain ⟨g, rfl⟩ : ∃ z, g = z + 1 := ⟨g - 1, by omega⟩
      have : i = ln := by omega
      subst this
      refine ⟨G, ?_, h1, h2⟩
      rw [lpX12_rule_21, gI_sF, h16, if_pos (nI_le (Nat.le_refl _) (by omega))]
    | succ r ih =>
      intro g i G hi hg h1 h2
      obtain ⟨g, rfl⟩ : ∃ z, g = z + 1 := ⟨g - 1, by omega⟩
      obtain ⟨t1, t2⟩ := htx i (by omega)
      have e : (160 : Int32) * nI rc + nI i = nI (160 * rc + i) := by
        rw [show (160 : Int32) * nI rc = nI (160 * rc) from pk_mul 160 rc, nI_add]
      have ev : Int8.toInt32 (Int32.toInt8 (gA (sF y 123 G) 109 i)) = (nI (tx i)).toInt8.toInt32 := by
        rw [show gA (sF y 123 G) 109 = gA y 109 from rfl, t2]
        exact by8 ⟨tx i, t1⟩
      rw [lpX12_rule_21, gI_sF, gI_sF, h16, h48, if_neg (nI_ge (by omega) (by omega)), e, inb_nI (show i < 160 by omega) (by decide), inb_nI (show 160 * rc + i < 3200 by omega) (by decide), ck_true, ck_true, nm_eq, ix_nI (show i < 2 ^ 31 by omega), ix_nI (show 160 * rc + i < 2 ^ 31 by omega), ev, sA_sFF, nI_1]
      refine ih g (i + 1) _ (by omega) (by omega) (fun j hj => ?_) (fun j hj => ?_)
      · rw [un (show j ≠ 160 * rc + i by omega)]
        exact h1 j hj
      · by_cases c : j = i
        · rw [c, us]
        · rw [un (show 160 * rc + j ≠ 160 * rc + i by omega)]
          exact h2 j (by omega)
  have := lp ln (4999 + 1) 0 (gA y 123) (by omega) (by omega) (fun _ _ => rfl) (fun j hj => absurd hj (Nat.not_lt_zero j))
  rw [sF_self] at this
  exact this
theorem pair_rule (t : Nat) (k n : ST)  (ht : t < 512) (hr : Rel t k n) : PR (t + 1) (fX11_rule k) (fX12_rule n) := by
  have hr1 := rel_thr 0 hr
  unfold fX11_rule fX12_rule fX12_fault
  simp only [nm_eq]
  generalize sI n 11 0 0 = n at hr1 ⊢
  have hr0 := rel_step hr1
  obtain ⟨d, h, kc, bc, gc, wc, pc, rc, dc, tc, sc, ic, lc, fc, ln, bn, hB, hK, hU, hG, hW, hP, hR, hD, hT, hS, hI, hL, hF, hA, hJ, hX⟩ := hr1
  obtain ⟨b1, b2, b3, b4, b5, b6⟩ := id hB
  obtain ⟨z, y, v, s1, s2, s3, s4, tx, s5, s6⟩ := faultBoth hS hA
  have hfin := s2.rel (s1.rel hr0)
  rw [s4, ob_some, ob_some]
  cases hm : mRule tx ln with
  | inl p =>
    rw [hm] at s6
    rw [s6.2.1, ob_some, s6.2.2, if_neg (nI_ne_m1 (by omega)), if_neg (nI_ne_m1 (by omega))]
    exact PR_mk hfin
  | inr ws =>
  rw [hm] at s6
  obtain ⟨w1, w2, w3, w4, w5⟩ := s6
  rw [w2, ob_some, w3, if_pos rfl, if_pos rfl]
  have hG0 : gTurn (t + 1) gc h kc d k n := hG.mono (Nat.le_succ t) (Nat.le_refl _) (Nat.le_refl _) (Nat.le_refl _)
  have hB2 : gB d h z y := by
    rw [s1.eq, s2.eq]
    exact hB
  have hK2 : gKeys kc d z y := by
    rw [s1.eq, s2.eq]
    exact hK
  have hU2 : gBurn bc z y := by
    rw [s1.eq, s2.eq]
    exact hU
  have hG2 : gTurn (t + 1) gc h kc d z y := by
    rw [s1.eq, s2.eq]
    exact hG0
  have hW2 : gWrap wc kc d z y := by
    rw [s1.eq, s2.eq]
    exact hW
  have hR2 : gRule rc z y := by
    rw [s1.eq, s2.eq]
    exact hR
  have hD2 : gDeath dc h rc d z y := by
    rw [s1.eq, s2.eq]
    exact hD
  have hT2 : gThing tc kc rc d z y := by
    rw [s1.eq, s2.eq]
    exact hT
  have hS2 : gSay sc h tc d z y := by
    rw [s1.eq, s2.eq]
    exact hS
  have hI2 : gSig ic kc d z y := by
    rw [s1.eq, s2.eq]
    exact hI
  have hL2 : gLoan lc kc z y := by
    rw [s1.eq, s2.eq]
    exact hL
  have hF2 : gFall fc h z y := by
    rw [s1.eq, s2.eq]
    exact hF
  have hA2 : gTape ln z y := by
    rw [s1.eq, s2.eq]
    exact hA
  have hJ2 : gBench bn h z y := by
    rw [s1.eq, s2.eq]
    exact hJ
  have hX2 : gFalse h z y := by
    rw [s1.eq, s2.eq]
    exact hX
  have hP2 : gPart pc kc h d z y := s2.gP (s1.gP hP)
  obtain ⟨r1, r2, r3, r4⟩ := hR2
  obtain ⟨l1, l2, l3, l4⟩ := hA2
  unfold fX5_keepDraft
  rw [r2, r3]
  by_cases hc : rc = 20
  · subst hc
    rw [if_neg (show ¬ nI 20 < 20 by decide), ob_some, if_pos rfl, if_pos (show nI 20 = 20 from rfl)]
    exact PR_mk hfin
  have hc : rc < 20 := by omega
  obtain ⟨G, G1, G2, G3⟩ := copyM l1 hc l3 r3 tx (fun i hi => ⟨(s5 i hi).2.1, by
    rw [s2.a 109 (by decide) (by decide)]
    exact (s5 i hi).2.2.2⟩) (fun y10 k11 => ck (inb (gI k11 11 48) 20) (nm (sA k11 124 (ix (gI k11 11 48)) (gI k11 11 16)) fun k13 => nm (sI k13 11 48 ((gI k13 11 48) + 1)) fun k14 => nm (sI k14 11 16 0) fun k15 => some ((gI k15 11 48) - 1, k15)))
  have em : nI rc * 160 = nI (160 * rc) := by
    rw [show nI rc * 160 = nI (rc * 160) from pk_mul rc 160, Nat.mul_comm]
  have hcp : cpOk 0 (nI (160 * rc)) (nI ws.length) 160 3200 = true := by
    unfold cpOk
    rw [nI_toInt (show 160 * rc < 2 ^ 31 by omega), nI_toInt (show ws.length < 2 ^ 31 by omega), Int32.toInt_zero]
    exact decide_eq_true (by omega)
  simp only [nm_eq] at G1
  rw [if_pos (show nI rc < 20 from nI_lt (b := 20) hc (by decide)), if_neg (show ¬ nI rc = 20 from fun q => by have := (nI_eq (b := 20) (by omega) (by decide)).mp q; omega), em, w4, hcp, ck_true]
  simp only [nm_eq]
  rw [G1]
  simp only [gI_sF]
  rw [r2, r3, l3, w4, inb_nI hc (by decide), ck_true, ck_true, ix_nI (show rc < 2 ^ 31 by omega), ix_nI (show 160 * rc < 2 ^ 31 by omega), ix_nI (show ws.length < 2 ^ 31 by omega), show ix 0 = 0 from rfl]
  simp only [gI_sA, gI_sF, gI_sI, r2, r3, nI_1, Nat.reduceEqDiff, reduceIte, if_true]
  rw [show nI (rc + 1) - 1 = nI rc from pk_sub (b := 1) (by omega), ob_some, if_neg (nI_ne_m1 (by omega))]
  refine PR_mk ⟨d, h, kc, bc, gc, wc, pc, rc + 1, dc, tc, sc, ic, lc, fc, 0, bn, hB2, hK2, hU2, hG2, hW2, gPart.fr hP2 rfl rfl rfl rfl rfl rfl rfl rfl rfl rfl rfl rfl rfl (fun i => ?_), ⟨hc, rfl, rfl, ?_⟩, hD2.mono (Nat.le_refl _) (Nat.le_succ _) (Nat.le_refl _), hT2.mono (Nat.le_refl _) (Nat.le_succ _) (Nat.le_refl _), hS2, hI2, hL2, hF2, ⟨by omega, rfl, rfl, fun i hi => absurd hi (Nat.not_lt_zero i)⟩, hJ2, hX2⟩
  · show gA (sA (sF z 26 _) 27 rc _) (59 + i) = gA z (59 + i)
    rw [gA_sA, if_neg (by omega), gA_sF, if_neg (by omega)]
  show ∀ r, r < rc + 1 → ∃ (tx : Nat → Nat) (L : Nat) (ws' : List Nat), L ≤ 160 ∧ (∀ i, i < L → 1 ≤ tx i ∧ tx i < 256) ∧ mRule tx L = .inr ws' ∧ ws'.length ≤ 160 ∧ upd (gA z 27) rc (nI ws.length) r = nI ws'.length ∧ (∀ i, i < ws'.length → va_cpy (gA z 28) (gA z 26) 0 (160 * rc) ws.length (160 * r + i) = nI (ws'.getD i 0) ∧ ws'.getD i 0 < 50000000) ∧ upd (gA y 124) rc (nI ln) r = nI L ∧ ∀ i, i < L → G (160 * r + i) = (nI (tx i)).toInt8.toInt32
  refine ext1 (fun r hr => ?_) ?_
  · obtain ⟨tx', L', ws', v1, v2, v3, v4, v5, v6, v7, v8⟩ := r4 r hr
    refine ⟨tx', L', ws', v1, v2, v3, v4, by rw [un (by omega)]; exact v5, fun i hi => ?_, by rw [un (by omega)]; exact v7, fun i hi => ?_⟩
    · unfold va_cpy
      rw [if_neg (by omega)]
      exact v6 i hi
    · rw [G2 _ (by omega)]
      exact v8 i hi
  · refine ⟨tx, ln, ws, l1, fun i hi => ⟨(s5 i hi).1, (s5 i hi).2.1⟩, hm, by omega, us, fun i hi => ⟨?_, ?_⟩, us, G3⟩
    · unfold va_cpy
      rw [if_pos (by omega), show 0 + (160 * rc + i - 160 * rc) = i by omega]
      exact w5 i hi
    · refine (mRule_ok hm _ ?_).1
      rw [List.getD_eq_getElem?_getD, List.getElem?_eq_getElem hi]
      exact List.getElem_mem hi
