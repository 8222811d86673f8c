theorem lp_wraps {k n : ST} {c : Nat} (hk : gI k 9 5 = nI c) (hn : gI n 11 29 = nI c) (hc : c ≤ 40) {d : Nat} (hd : d ≤ 2000) (he : ∀ i, i < c → eqE d (gA k 56 i) (gA n 113 i)) (v : Int32) : ∀ (q i f : Nat) (a : Int32), i + q = c → q < f → ∃ r, (∀ cont, lpX10_uncutWraps_4 f a (nI i) k cont = cont r (nI c) k) ∧ (∀ cont, lpX12_count_102 v f a (nI i) n cont = cont r (nI c) n) := by
  intro q
  induction q with
  | zero =>
    intro i f a hi hf
    obtain ⟨f, rfl⟩ : ∃ g, f = g + 1 := ⟨f - 1, by omega⟩
    have hi : i = c := by omega
    subst hi
    refine ⟨a, fun cont => ?_, fun cont => ?_⟩
    · rw [lpX10_uncutWraps_4, hk, if_pos (nI_le (Nat.le_refl i) (by omega))]
    · rw [lpX12_count_102, hn, if_pos (nI_le (Nat.le_refl i) (by omega))]
  | succ q ih =>
    intro i f a hi hf
    obtain ⟨f, rfl⟩ : ∃ g, f = g + 1 := ⟨f - 1, by omega⟩
    have h1 : ¬ nI c ≤ nI i := nI_ge (by omega) (by omega)
    have h2 : inb (nI i) 40 = true := inb_nI (by omega) (by decide)
    have h3 : ix (nI i) = i := ix_nI (by omega)
    by_cases h4 : gA k 56 i = -1
    · have h5 : gA n 113 i = 9999 := by
        rcases he i (by omega) with z | ⟨e, z1, z2, z3⟩
        · exact z.2
        · rw [z2] at h4
          exact absurd h4 (nI_ne_m1 (by omega))
      obtain ⟨r, r1, r2⟩ := ih (i + 1) f (a + 1) (by omega) (by omega)
      refine ⟨r, fun cont => ?_, fun cont => ?_⟩
      · rw [lpX10_uncutWraps_4, hk, if_neg h1, h2, ck_true, h3, if_pos h4, nI_1]; exact r1 cont
      · rw [lpX12_count_102, hn, if_neg h1, h2, ck_true, h3, if_pos h5, nI_1]; exact r2 cont
    · have h5 : ¬ gA n 113 i = 9999 := by
        rcases he i (by omega) with z | ⟨e, z1, z2, z3⟩
        · exact absurd z.1 h4
        · rw [z3]
          intro z
          have := (nI_eq (a := e) (b := 9999) (by omega) (by decide)).mp z
          omega
      obtain ⟨r, r1, r2⟩ := ih (i + 1) f a (by omega) (by omega)
      refine ⟨r, fun cont => ?_, fun cont => ?_⟩
      · rw [lpX10_uncutWraps_4, hk, if_neg h1, h2, ck_true, h3, if_neg h4, nI_1]; exact r1 cont
      · rw [lpX12_count_102, hn, if_neg h1, h2, ck_true, h3, if_neg h5, nI_1, show a + 0 = a from Int32.add_zero a]; exact r2 cont
theorem lp_back {k n : ST} {c : Nat} (hk : gI k 1 0 = nI c) (hn : gI n 11 79 = nI c) (hc : c ≤ 40) (he : gA n 151 = gA k 12) (v : Int32) : ∀ (q i f : Nat) (a : Int32), i + q = c → q < f → ∃ r, (∀ cont, lpX2_notBack_4 f a (nI i) k cont = cont r (nI c) k) ∧ (∀ cont, lpX12_count_160 v f a (nI i) n cont = cont r (nI c) n) := by
  intro q
  induction q with
  | zero =>
    intro i f a hi hf
    obtain ⟨f, rfl⟩ : ∃ g, f = g + 1 := ⟨f - 1, by omega⟩
    have hi : i = c := by omega
    subst hi
    refine ⟨a, fun cont => ?_, fun cont => ?_⟩
    · rw [lpX2_notBack_4, hk, if_pos (nI_le (Nat.le_refl i) (by omega))]
    · rw [lpX12_count_160, hn, if_pos (nI_le (Nat.le_refl i) (by omega))]
  | succ q ih =>
    intro i f a hi hf
    obtain ⟨f, rfl⟩ : ∃ g, f = g + 1 := ⟨f - 1, by omega⟩
    have h1 : ¬ nI c ≤ nI i := nI_ge (by omega) (by omega)
    have h2 : inb (nI i) 40 = true := inb_nI (by omega) (by decide)
    have h3 : ix (nI i) = i := ix_nI (by omega)
    by_cases h4 : gA k 12 i = 0
    · obtain ⟨r, r1, r2⟩ := ih (i + 1) f (a + 1) (by omega) (by omega)
      refine ⟨r, fun cont => ?_, fun cont => ?_⟩
      · rw [lpX2_notBack_4, hk, if_neg h1, h2, ck_true, h3, if_pos h4, nI_1]; exact r1 cont
      · rw [lpX12_count_160, hn, he, if_neg h1, h2, ck_true, h3, if_pos h4, nI_1]; exact r2 cont
    · obtain ⟨r, r1, r2⟩ := ih (i + 1) f a (by omega) (by omega)
      refine ⟨r, fun cont => ?_, fun cont => ?_⟩
      · rw [lpX2_notBack_4, hk, if_neg h1, h2, ck_true, h3, if_neg h4, nI_1]; exact r1 cont
      · rw [lpX12_count_160, hn, he, if_neg h1, h2, ck_true, h3, if_neg h4, nI_1, show a + 0 = a from Int32.add_zero a]; exact r2 cont
theorem lp_open {k n : ST} {c : Nat} (hk : gI k 8 0 = nI c) (hn : gI n 11 50 = nI c) (hc : c ≤ 40) (he : gA n 135 = gA k 48) (v : Int32) : ∀ (q i f : Nat) (a : Int32), i + q = c → q < f → ∃ r, (∀ cont, lpX9_openedOnes_4 f a (nI i) k cont = cont r (nI c) k) ∧ (∀ cont, lpX12_count_210 v f a (nI i) n cont = cont r (nI c) n) := by
  intro q
  induction q with
  | zero =>
    intro i f a hi hf
    obtain ⟨f, rfl⟩ : ∃ g, f = g + 1 := ⟨f - 1, by omega⟩
    have hi : i = c := by omega
    subst hi
    refine ⟨a, fun cont => ?_, fun cont => ?_⟩
    · rw [lpX9_openedOnes_4, hk, if_pos (nI_le (Nat.le_refl i) (by omega))]
    · rw [lpX12_count_210, hn, if_pos (nI_le (Nat.le_refl i) (by omega))]
  | succ q ih =>
    intro i f a hi hf
    obtain ⟨f, rfl⟩ : ∃ g, f = g + 1 := ⟨f - 1, by omega⟩
    have h1 : ¬ nI c ≤ nI i := nI_ge (by omega) (by omega)
    have h2 : inb (nI i) 40 = true := inb_nI (by omega) (by decide)
    have h3 : ix (nI i) = i := ix_nI (by omega)
    by_cases h4 : gA k 48 i = 0
    · obtain ⟨r, r1, r2⟩ := ih (i + 1) f a (by omega) (by omega)
      refine ⟨r, fun cont => ?_, fun cont => ?_⟩
      · rw [lpX9_openedOnes_4, hk, if_neg h1, h2, ck_true, h3, if_pos h4, nI_1]; exact r1 cont
      · rw [lpX12_count_210, hn, he, if_neg h1, h2, ck_true, h3, if_pos h4, nI_1, show a + 0 = a from Int32.add_zero a]; exact r2 cont
    · obtain ⟨r, r1, r2⟩ := ih (i + 1) f (a + 1) (by omega) (by omega)
      refine ⟨r, fun cont => ?_, fun cont => ?_⟩
      · rw [lpX9_openedOnes_4, hk, if_neg h1, h2, ck_true, h3, if_neg h4, nI_1]; exact r1 cont
      · rw [lpX12_count_210, hn, he, if_neg h1, h2, ck_true, h3, if_neg h4, nI_1]; exact r2 cont
theorem lp_burnt {k n : ST} {c : Nat} (hk : gI k 0 6 = nI c) (hn : gI n 11 78 = nI c) (hc : c ≤ 60) (e1 : gA n 144 = gA k 5) (e2 : gA n 145 = gA k 6) (e3 : gA n 146 = gA k 7) (v u : Int32) : ∀ (q i f : Nat) (a : Int32), i + q = c → q < f → ∃ r, (∀ cont, lpX1_burntFrom_5 v u f a (nI i) k cont = cont r (nI c) k) ∧ (∀ cont, lpX12_burntFrom_5 v u f a (nI i) n cont = cont r (nI c) n) := by
  intro q
  induction q with
  | zero =>
    intro i f a hi hf
    obtain ⟨f, rfl⟩ : ∃ g, f = g + 1 := ⟨f - 1, by omega⟩
    have hi : i = c := by omega
    subst hi
    refine ⟨a, fun cont => ?_, fun cont => ?_⟩
    · rw [lpX1_burntFrom_5, hk, if_pos (nI_le (Nat.le_refl i) (by omega))]
    · rw [lpX12_burntFrom_5, hn, if_pos (nI_le (Nat.le_refl i) (by omega))]
  | succ q ih =>
    intro i f a hi hf
    obtain ⟨f, rfl⟩ : ∃ g, f = g + 1 := ⟨f - 1, by omega⟩
    have h1 : ¬ nI c ≤ nI i := nI_ge (by omega) (by omega)
    have h2 : inb (nI i) 60 = true := inb_nI (by omega) (by decide)
    have h3 : ix (nI i) = i := ix_nI (by omega)
    have go : ∀ a', ∃ r, (∀ cont, lpX1_burntFrom_5 v u f a' (nI (i + 1)) k cont = cont r (nI c) k) ∧ (∀ cont, lpX12_burntFrom_5 v u f a' (nI (i + 1)) n cont = cont r (nI c) n) := fun a' => ih (i + 1) f a' (by omega) (by omega)
    simp only [lpX1_burntFrom_5, lpX12_burntFrom_5, hk, hn, e1, e2, e3, h1, h2, h3, ck_true, if_false, nI_1]
    by_cases h4 : gA k 5 i = v
    · by_cases h5 : u < gA k 7 i
      · simp only [h4, h5, if_true]; exact go a
      · by_cases h6 : a = -1
        · simp only [h4, h5, h6, if_true, if_false]; exact go _
        · by_cases h7 : a ≤ gA k 6 i
          · simp only [h4, h5, h6, h7, if_true, if_false]; exact go a
          · simp only [h4, h5, h6, h7, if_true, if_false]; exact go _
    · simp only [h4, if_false]; exact go a
theorem burnt_of {k n : ST} {bc : Nat} (h : gBurn bc k n) (a q : Int32) : ∃ r, fX1_burntFrom k a q = some (r, k) ∧ fX12_burntFrom n a q = some (r, n) := by
  obtain ⟨w1, w2, w3, w4, w5, w6, w7⟩ := h
  obtain ⟨r, r1, r2⟩ := lp_burnt w2 w3 w1 w4 w5 w6 a q bc 0 FU (-1) (by omega) (by rw [FU_s]; omega)
  exact ⟨r, r1 _, r2 _⟩
theorem pair_count (t : Nat) (k n : ST) (a0 : Int32) (ht : t < 512) (hr : Rel t k n) : PR (t + 1) (fX11_count k a0) (fX12_count n a0) := by
  have hr1 := rel_thr 0 hr
  unfold fX11_count fX12_count fX11_countFurther fX10_uncutWraps fX2_notBack fX9_openedOnes
  simp only [nm_eq]
  generalize sI n 11 0 0 = n at hr1 ⊢
  have hr0 := rel_step hr1
  obtain ⟨d, h, kc, bc, gc, wc, pc, rc, dc, tc, sc, ic, lc, fc, ln, bn, hB, hK, hU, hG, hW, hP, hR, hD, hT, hS, hI, hL, hF, hA, hJ, hX⟩ := hr1
  obtain ⟨b1, b2, b3, b4, b5, b6⟩ := hB
  obtain ⟨q1, q2, q3, -⟩ := id hK
  obtain ⟨w1, w2, w3, w4, w5, w6, w7⟩ := id hW
  obtain ⟨p1, p2, p3, -⟩ := id hP
  obtain ⟨r1, r2, r3, -⟩ := id hR
  obtain ⟨u1, u2, u3, u4, u5, u6, u7, u8, -⟩ := id hT
  obtain ⟨s1, s2, s3, -⟩ := id hS
  obtain ⟨i1, i2, i3, -⟩ := id hI
  obtain ⟨l1, l2, l3, l4, l5, l6, l7, l8, -⟩ := id hL
  obtain ⟨x1, x2, x3, -⟩ := id hF
  obtain ⟨y1, y2, y3, -⟩ := id hA
  obtain ⟨z1, z2, Sb, hs, z3, z4, z5, -⟩ := id hJ
  have hSb : Sb < 4096 := Nat.lt_of_lt_of_le z3 (pow_le12 b4)
  obtain ⟨c4, c4a, c4b⟩ := lp_wraps w2 w3 w1 b1 (fun i hi => (w7 i hi).2.2.2) a0 wc 0 FU 0 (by omega) (by rw [FU_s]; omega)
  obtain ⟨c9, c9a, c9b⟩ := lp_back l2 l3 l1 l8 a0 lc 0 FU 0 (by omega) (by rw [FU_s]; omega)
  obtain ⟨c13, c13a, c13b⟩ := lp_open u2 u3 u1 u8 a0 tc 0 FU 0 (by omega) (by rw [FU_s]; omega)
  simp only [b2, b3, b5, b6, q2, q3, p2, p3, r2, r3, u2, u3, s2, s3, i2, i3, x2, x3, y2, y3, z2, z4, bc_of k hSb, z5, ob_some]
  by_cases h0 : a0 = 0
  · simp only [eq_true h0, nm_eq, ob_some, ck_true, gI_sI, gI_sA, gA_sI, gA_sA, gL_sI, gL_sA, Nat.reduceEqDiff, eq_self, if_true, if_false, reduceIte, ite_self, Bool.false_eq_true, nI_1, nI_pred]
    exact PR_mk hr0
  by_cases h1 : a0 = 1
  · simp only [eq_true h1, h0, nm_eq, ob_some, ck_true, gI_sI, gI_sA, gA_sI, gA_sA, gL_sI, gL_sA, Nat.reduceEqDiff, eq_self, if_true, if_false, reduceIte, ite_self, Bool.false_eq_true, nI_1, nI_pred]
    exact PR_mk hr0
  by_cases h2 : a0 = 2
  · simp only [eq_true h2, h0, h1, nm_eq, ob_some, ck_true, gI_sI, gI_sA, gA_sI, gA_sA, gL_sI, gL_sA, Nat.reduceEqDiff, eq_self, if_true, if_false, reduceIte, ite_self, Bool.false_eq_true, nI_1, nI_pred]
    exact PR_mk hr0
  by_cases h3 : a0 = 3
  · simp only [eq_true h3, h0, h1, h2, nm_eq, ob_some, ck_true, gI_sI, gI_sA, gA_sI, gA_sA, gL_sI, gL_sA, Nat.reduceEqDiff, eq_self, if_true, if_false, reduceIte, ite_self, Bool.false_eq_true, nI_1, nI_pred]
    exact PR_mk hr0
  by_cases h4 : a0 = 4
  · have ea : lpX10_uncutWraps_4 FU 0 0 k (fun y4 y5 k6 => some (y4, k6)) = some (c4, k) := c4a _
    have eb : lpX12_count_102 a0 FU 0 0 n (fun y4 y5 k6 => some (y4, k6)) = some (c4, n) := c4b _
    simp only [eq_true h4, h0, h1, h2, h3, ea, eb, nm_eq, ob_some, ck_true, gI_sI, gI_sA, gA_sI, gA_sA, gL_sI, gL_sA, Nat.reduceEqDiff, eq_self, if_true, if_false, reduceIte, ite_self, Bool.false_eq_true, nI_1, nI_pred]
    exact PR_mk hr0
  by_cases h5 : a0 = 5
  · simp only [eq_true h5, h0, h1, h2, h3, h4, nm_eq, ob_some, ck_true, gI_sI, gI_sA, gA_sI, gA_sA, gL_sI, gL_sA, Nat.reduceEqDiff, eq_self, if_true, if_false, reduceIte, ite_self, Bool.false_eq_true, nI_1, nI_pred]
    exact PR_mk hr0
  by_cases h6 : a0 = 6
  · simp only [eq_true h6, h0, h1, h2, h3, h4, h5, nm_eq, ob_some, ck_true, gI_sI, gI_sA, gA_sI, gA_sA, gL_sI, gL_sA, Nat.reduceEqDiff, eq_self, if_true, if_false, reduceIte, ite_self, Bool.false_eq_true, nI_1, nI_pred]
    exact PR_mk hr0
  by_cases h7 : a0 = 7
  · simp only [eq_true h7, h0, h1, h2, h3, h4, h5, h6, nm_eq, ob_some, ck_true, gI_sI, gI_sA, gA_sI, gA_sA, gL_sI, gL_sA, Nat.reduceEqDiff, eq_self, if_true, if_false, reduceIte, ite_self, Bool.false_eq_true, nI_1, nI_pred]
    exact PR_mk hr0
  by_cases h8 : a0 = 8
  · simp only [eq_true h8, h0, h1, h2, h3, h4, h5, h6, h7, nm_eq, ob_some, ck_true, gI_sI, gI_sA, gA_sI, gA_sA, gL_sI, gL_sA, Nat.reduceEqDiff, eq_self, if_true, if_false, reduceIte, ite_self, Bool.false_eq_true, nI_1, nI_pred]
    exact PR_mk hr0
  by_cases h9 : a0 = 9
  · have ea : lpX2_notBack_4 FU 0 0 k (fun y4 y5 k6 => some (y4, k6)) = some (c9, k) := c9a _
    have eb : lpX12_count_160 a0 FU 0 0 n (fun y4 y5 k6 => some (y4, k6)) = some (c9, n) := c9b _
    simp only [eq_true h9, h0, h1, h2, h3, h4, h5, h6, h7, h8, ea, eb, nm_eq, ob_some, ck_true, gI_sI, gI_sA, gA_sI, gA_sA, gL_sI, gL_sA, Nat.reduceEqDiff, eq_self, if_true, if_false, reduceIte, ite_self, Bool.false_eq_true, nI_1, nI_pred]
    exact PR_mk hr0
  by_cases h10 : a0 = 10
  · simp only [eq_true h10, h0, h1, h2, h3, h4, h5, h6, h7, h8, h9, nm_eq, ob_some, ck_true, gI_sI, gI_sA, gA_sI, gA_sA, gL_sI, gL_sA, Nat.reduceEqDiff, eq_self, if_true, if_false, reduceIte, ite_self, Bool.false_eq_true, nI_1, nI_pred]
    exact PR_mk hr0
  by_cases h11 : a0 = 11
  · simp only [eq_true h11, h0, h1, h2, h3, h4, h5, h6, h7, h8, h9, h10, nm_eq, ob_some, ck_true, gI_sI, gI_sA, gA_sI, gA_sA, gL_sI, gL_sA, Nat.reduceEqDiff, eq_self, if_true, if_false, reduceIte, ite_self, Bool.false_eq_true, nI_1, nI_pred]
    exact PR_mk hr0
  by_cases h12 : a0 = 12
  · simp only [eq_true h12, h0, h1, h2, h3, h4, h5, h6, h7, h8, h9, h10, h11, nm_eq, ob_some, ck_true, gI_sI, gI_sA, gA_sI, gA_sA, gL_sI, gL_sA, Nat.reduceEqDiff, eq_self, if_true, if_false, reduceIte, ite_self, Bool.false_eq_true, nI_1, nI_pred]
    exact PR_mk hr0
  by_cases h13 : a0 = 13
  · have ea : lpX9_openedOnes_4 FU 0 0 k (fun y4 y5 k6 => some (y4, k6)) = some (c13, k) := c13a _
    have eb : lpX12_count_210 a0 FU 0 0 n (fun y4 y5 k6 => some (y4, k6)) = some (c13, n) := c13b _
    simp only [eq_true h13, h0, h1, h2, h3, h4, h5, h6, h7, h8, h9, h10, h11, h12, ea, eb, nm_eq, ob_some, ck_true, gI_sI, gI_sA, gA_sI, gA_sA, gL_sI, gL_sA, Nat.reduceEqDiff, eq_self, if_true, if_false, reduceIte, ite_self, Bool.false_eq_true, nI_1, nI_pred]
    exact PR_mk hr0
  simp only [h0, h1, h2, h3, h4, h5, h6, h7, h8, h9, h10, h11, h12, h13, nm_eq, ob_some, ck_true, gI_sI, gI_sA, gA_sI, gA_sA, gL_sI, gL_sA, Nat.reduceEqDiff, eq_self, if_true, if_false, reduceIte, ite_self, Bool.false_eq_true, nI_1, nI_pred]
  exact PR_mk hr0
theorem pair_stands (t : Nat) (k n : ST) (a0 : Int32) (a1 : Int32) (ht : t < 512) (hr : Rel t k n) : PR (t + 1) (fX11_stands k a0 a1) (fX12_stands n a0 a1) := by
  have hr1 := rel_thr 0 hr
  unfold fX11_stands fX12_stands fX1_isBurnt
  simp only [nm_eq]
  generalize sI n 11 0 0 = n at hr1 ⊢
  have hr0 := rel_step hr1
  obtain ⟨d, h, kc, bc, gc, wc, pc, rc, dc, tc, sc, ic, lc, fc, ln, bn, hB, hK, hU, hG, hW, hP, hR, hD, hT, hS, hI, hL, hF, hA, hJ, hX⟩ := hr1
  obtain ⟨b1, b2, b3, b4, b5, b6⟩ := hB
  obtain ⟨i1, i2, i3, i4, i5, i6, i7, i8, i9⟩ := id hI
  simp only [sX7_knows i2 (by omega), i3, isIn_cnt n a0 ic (by omega), past_of b2 (by omega), known_of b3 (by omega), ob_some, i6, i8]
  by_cases e1 : inb a0 ic = true
  case neg => 
    simp only [e1, nm_eq, ob_some, ck_true, gI_sI, gI_sA, gA_sI, gA_sA, gL_sI, gL_sA, Nat.reduceEqDiff, eq_self, if_true, if_false, reduceIte, ite_self, Bool.false_eq_true, nI_1, nI_pred]
    exact PR_mk hr0
  by_cases e2 : in1 a1 0 d = true
  case neg => 
    simp only [e1, e2, nm_eq, ob_some, ck_true, gI_sI, gI_sA, gA_sI, gA_sA, gL_sI, gL_sA, Nat.reduceEqDiff, eq_self, if_true, if_false, reduceIte, ite_self, Bool.false_eq_true, nI_1, nI_pred]
    exact PR_mk hr0
  have e3 : inb a0 80 = true := inb_mono e1 i1
  simp only [e1, e2, e3, nm_eq, ob_some, ck_true, gI_sI, gI_sA, gA_sI, gA_sA, gL_sI, gL_sA, Nat.reduceEqDiff, eq_self, if_true, if_false, reduceIte, ite_self, Bool.false_eq_true, nI_1, nI_pred]
  by_cases e4 : gA k 41 (ix a0) ≤ a1
  case neg => 
    simp only [e4, nm_eq, ob_some, ck_true, gI_sI, gI_sA, gA_sI, gA_sA, gL_sI, gL_sA, Nat.reduceEqDiff, eq_self, if_true, if_false, reduceIte, ite_self, Bool.false_eq_true, nI_1, nI_pred]
    exact PR_mk hr0
  obtain ⟨r, r1, r2⟩ := burnt_of hU (gA k 39 (ix a0)) a1
  obtain ⟨r', r3, r4⟩ := burnt_of hU (gA k 39 (ix a0)) (gA k 41 (ix a0))
  simp only [e4, r1, r2, r3, r4, nm_eq, ob_some, ck_true, gI_sI, gI_sA, gA_sI, gA_sA, gL_sI, gL_sA, Nat.reduceEqDiff, eq_self, if_true, if_false, reduceIte, ite_self, Bool.false_eq_true, nI_1, nI_pred, i6]
  by_cases h1 : r = -1
  · simp only [h1, nm_eq, ob_some, ck_true, gI_sI, gI_sA, gA_sI, gA_sA, gL_sI, gL_sA, Nat.reduceEqDiff, eq_self, if_true, if_false, reduceIte, ite_self, Bool.false_eq_true, nI_1, nI_pred]
    exact PR_mk hr0
  have key : ∀ x y : Int32, (x ≤ y) = ¬ (y < x) := fun x y => propext (Int32.not_lt (a := y) (b := x)).symm
  by_cases h2 : gA k 41 (ix a0) < r
  · simp only [h1, h2, key, not_true_eq_false, nm_eq, ob_some, ck_true, gI_sI, gI_sA, gA_sI, gA_sA, gL_sI, gL_sA, Nat.reduceEqDiff, eq_self, if_true, if_false, reduceIte, ite_self, Bool.false_eq_true, nI_1, nI_pred]
    exact PR_mk hr0
  by_cases h3 : r' = -1
  · simp only [h1, h2, h3, key, not_false_eq_true, r3, r4, i6, nm_eq, ob_some, ck_true, gI_sI, gI_sA, gA_sI, gA_sA, gL_sI, gL_sA, Nat.reduceEqDiff, eq_self, if_true, if_false, reduceIte, ite_self, Bool.false_eq_true, nI_1, nI_pred]
    exact PR_mk hr0
  by_cases h4 : gA k 41 (ix a0) < r'
  · simp only [h1, h2, h3, h4, key, not_false_eq_true, r3, r4, i6, nm_eq, ob_some, ck_true, gI_sI, gI_sA, gA_sI, gA_sA, gL_sI, gL_sA, Nat.reduceEqDiff, eq_self, if_true, if_false, reduceIte, ite_self, Bool.false_eq_true, nI_1, nI_pred]
    exact PR_mk hr0
  simp only [h1, h2, h3, h4, key, not_false_eq_true, r3, r4, i6, nm_eq, ob_some, ck_true, gI_sI, gI_sA, gA_sI, gA_sA, gL_sI, gL_sA, Nat.reduceEqDiff, eq_self, if_true, if_false, reduceIte, ite_self, Bool.false_eq_true, nI_1, nI_pred]
  exact PR_mk hr0
