theorem ix12 (i j : Nat) : (12 * nI i) + nI j = nI (12 * i + j) := by
  rw [show (12 : Int32) * nI i = nI (12 * i) from pk_mul 12 i, nI_add]
theorem among_of {pc kc h d : Nat} {k n : ST} (hP : gPart pc kc h d k n) (hh : h ≤ 12) (b6 : gI n 11 12 = nI h) (a0 a1 : Int32) :
    ∃ r, fX3_isAmong k a0 a1 = some (r, k) ∧ fX12_isAmong n a0 a1 = some (r, n) ∧ (r = true → ∃ i x, i < pc ∧ x < h ∧ a0 = nI i ∧ a1 = nI x) := by
  obtain ⟨p1, p2, p3, p4, p5, p6, p7, p8⟩ := hP
  unfold fX3_isAmong fX12_isAmong
  rw [sX3_knows p2 (by omega), sX12_isParting p3 (by omega), ob_some, ob_some]
  by_cases h1 : inb a0 pc = true
  case neg =>
    rw [if_neg h1, if_neg h1]
    exact ⟨false, rfl, rfl, fun z => by cases z⟩
  rw [if_pos h1, if_pos h1, sX12_isHolder b6 (by omega), ob_some]
  obtain ⟨i, hi, rfl⟩ := inb_of h1 (by omega)
  obtain ⟨_, ⟨S, w, s1, s2, s3, _⟩, _⟩ := p8 i hi
  have hS : S < 2 ^ 31 := Nat.lt_of_lt_of_le s2 (Nat.pow_le_pow_right (by decide) (by omega))
  have e40 : inb (nI i) 40 = true := inb_nI (by omega) (by decide)
  have eix : ix (nI i) = i := ix_nI (by omega)
  simp only [e40, ck_true, eix, p5, s3]
  by_cases h2 : inb a1 h = true
  · obtain ⟨x, hx, rfl⟩ := inb_of h2 (by omega)
    rw [if_neg (nI_pos (by omega)), if_neg (n12 (by omega)), hasBit_of k (by omega) hS, ob_some, if_pos h2, ifeq (bitM_1 (show x < 31 by omega) hS)]
    refine ⟨S.testBit x, ?_, ?_, fun _ => ⟨i, x, hi, hx, rfl, rfl⟩⟩
    · cases S.testBit x <;> rfl
    · cases S.testBit x <;> rfl
  · rw [if_neg h2]
    refine ⟨false, ?_, rfl, fun z => by cases z⟩
    have := if_ix a1 12 (by decide) (some (false, k)) (ob (fX11_hasBit k (nI S) a1) fun r8 k9 => if r8 = true then some (true, k9) else some (false, k9))
    refine this.trans ?_
    by_cases h3 : inb a1 12 = true
    · obtain ⟨x, hx, rfl⟩ := inb_of h3 (by omega)
      have hxh : h ≤ x := by
        rcases Nat.lt_or_ge x h with q | q
        · exact absurd (inb_nI q (by omega)) h2
        · exact q
      have hb : S.testBit x = false := Nat.testBit_lt_two_pow (Nat.lt_of_lt_of_le s2 (Nat.pow_le_pow_right (by decide) hxh))
      rw [if_pos h3, hasBit_of k (by omega) hS, ob_some, hb]
      rfl
    · rw [if_neg h3]
theorem pair_checks (t : Nat) (k n : ST) (a0 : Int32) (a1 : Int32) (ht : t < 512) (hr : Rel t k n) : PR (t + 1) (fX11_checks k a0 a1) (fX12_checks n a0 a1) := by
  have hr1 := rel_thr 0 hr
  unfold fX11_checks fX12_checks 
  simp only [nm_eq]
  generalize sI n 11 0 0 = n at hr1 ⊢
  have hr0 := rel_step hr1
  obtain ⟨d, h, kc, bc, gc, wc, pc, rc, dc, tc, sc, ic, lc, fc, ln, bn, hB, hK, hU, hG, hW, hP, hR, hD, hT, hS, hI, hL, hF, hA, hJ, hX⟩ := hr1
  obtain ⟨b1, b2, b3, b4, b5, b6⟩ := hB
  obtain ⟨p1, p2, p3, p4, p5, p6, p7, p8⟩ := hP
  rw [sX3_knows p2 (by omega), sX12_isParting p3 (by omega), ob_some, ob_some]
  by_cases h1 : inb a0 pc = true
  case neg =>
    rw [if_neg h1, if_neg h1]
    exact PR_mk hr0
  rw [if_pos h1, if_pos h1]
  obtain ⟨i, hi, rfl⟩ := inb_of h1 (by omega)
  obtain ⟨_, ⟨S, w, s1, s2, s3, w1, w2, w3, w4⟩, _⟩ := p8 i hi
  have w5 : w ≤ 12 := Nat.le_trans w2 (pcn_le S 12)
  have e40 : inb (nI i) 40 = true := inb_nI (by omega) (by decide)
  have eix : ix (nI i) = i := ix_nI (by omega)
  simp only [e40, ck_true, eix, p6, w3]
  rw [isIn_cnt n a1 w (by omega), ob_some]
  by_cases h2 : inb a1 w = true
  · obtain ⟨j, hj, rfl⟩ := inb_of h2 (by omega)
    obtain ⟨v, v1, v2, v3⟩ := w4 j hj
    have e5 : inb (nI (12 * i + j)) 480 = true := inb_nI (by omega) (by decide)
    have e6 : ix (nI (12 * i + j)) = 12 * i + j := ix_nI (by omega)
    have e7 : inb (nI j) 12 = true := inb_nI (by omega) (by decide)
    have e8 : ix (nI j) = j := ix_nI (by omega)
    rw [if_neg (nI_pos (by omega)), if_pos (nI_lt hj (by omega)), if_pos h2, ix12, e5, ck_true, e6, v3, four_M n (by omega), ob_some]
    unfold fX3_checkOf
    rw [e40, ck_true, e7, ck_true, eix, e8, v2, four_K k (by omega), ob_some, ob_some]
    exact PR_mk hr0
  · rw [if_neg h2]
    by_cases h3 : a1 < 0
    · rw [if_pos h3]
      exact PR_mk hr0
    · rw [if_neg h3, if_neg]
      · exact PR_mk hr0
      · intro q
        obtain ⟨j, hj, rfl⟩ := nI_of h3
        exact h2 (inb_nI ((nI_ltI hj (by omega)).mp q) (by omega))
theorem piece_lp {k n : ST} {i x w : Nat} (hi : i < 40) (hx : x < 12) (hw : w ≤ 12) (H : ∀ j, j < w → ∃ v, v < 1019 ∧ gA k (59 + i) j = nI v ∧ gA n 119 (12 * i + j) = nI v) :
    ∀ (r g v : Nat), r ≤ w → r ≤ g → v < 1019 → ∃ u, u < 1019 ∧ lpX3_partOf_12 (nI i) (nI x) (g + 1) (nI v) (nI r - 1) k (fun y11 y12 k13 => some (y11, k13)) = some (nI u, k) ∧ lpX12_pieceOf_12 (nI i) (nI x) (g + 1) (nI v) (nI r - 1) n (fun y11 y12 k13 => some (y11, k13)) = some (nI u, n) := by
  intro r
  induction r with
  | zero =>
    intro g v _ _ hv
    refine ⟨v, hv, ?_, ?_⟩
    · rw [lpX3_partOf_12, if_pos (by decide)]
    · rw [lpX12_pieceOf_12, if_pos (by decide)]
  | succ r ih =>
    intro g v hr hg hv
    obtain ⟨g, rfl⟩ : ∃ z, g = z + 1 := ⟨g - 1, by omega⟩
    obtain ⟨c, c1, c2, c3⟩ := H r (by omega)
    obtain ⟨u, u1, u2, u3⟩ := ih g ((v * (x + 1) + c) % 1019) (by omega) (by omega) (Nat.mod_lt _ (by decide))
    have e0 : nI (r + 1) - 1 = nI r := pk_sub (b := 1) (by omega)
    have e40 : inb (nI i) 40 = true := inb_nI (by omega) (by decide)
    have eix : ix (nI i) = i := ix_nI (by omega)
    have e5 : inb (nI (12 * i + r)) 480 = true := inb_nI (by omega) (by decide)
    have e6 : ix (nI (12 * i + r)) = 12 * i + r := ix_nI (by omega)
    have e7 : inb (nI r) 12 = true := inb_nI (by omega) (by decide)
    have e8 : ix (nI r) = r := ix_nI (by omega)
    have hp : v * (x + 1) ≤ 1018 * 12 := Nat.mul_le_mul (by omega) (by omega)
    refine ⟨u, u1, ?_, ?_⟩
    · rw [lpX3_partOf_12, e0, if_neg (nI_pos (by omega)), nI_1, times_of k (by omega) (by omega), ob_some, e40, ck_true, e7, ck_true, eix, e8, c2, sum_of k (Nat.lt_trans (Nat.mod_lt _ (by decide)) (by decide)) (by omega), ob_some, ← Int32.sub_eq_add_neg, Nat.mod_add_mod]
      exact u2
    · rw [lpX12_pieceOf_12, e0, if_neg (nI_pos (by omega)), nI_1, ix12, e5, ck_true, nm_eq, e6, c3, pk_mul, show j_rem (nI (v * (x + 1)) + nI c) 1019 = nI ((v * (x + 1) + c) % 1019) from rem_add (m := 1019) (by omega) (by omega) (by decide) (by decide), ← Int32.sub_eq_add_neg]
      exact u3
theorem pair_piece (t : Nat) (k n : ST) (a0 : Int32) (a1 : Int32) (ht : t < 512) (hr : Rel t k n) : PR (t + 1) (fX11_piece k a0 a1) (fX12_piece n a0 a1) := by
  have hr1 := rel_thr 0 hr
  unfold fX11_piece fX12_piece 
  simp only [nm_eq]
  generalize sI n 11 0 0 = n at hr1 ⊢
  have hr0 := rel_step hr1
  obtain ⟨d, h, kc, bc, gc, wc, pc, rc, dc, tc, sc, ic, lc, fc, ln, bn, hB, hK, hU, hG, hW, hP, hR, hD, hT, hS, hI, hL, hF, hA, hJ, hX⟩ := hr1
  obtain ⟨b1, b2, b3, b4, b5, b6⟩ := hB
  obtain ⟨r, r1, r2, r3⟩ := among_of hP b4 b6 a0 a1
  obtain ⟨p1, p2, p3, p4, p5, p6, p7, p8⟩ := hP
  rw [r1, r2, ob_some, ob_some]
  cases r
  · exact PR_mk hr0
  obtain ⟨i, x, hi, hx, rfl, rfl⟩ := r3 rfl
  obtain ⟨_, ⟨S, w, s1, s2, s3, w1, w2, w3, w4⟩, _⟩ := p8 i hi
  have w5 : w ≤ 12 := Nat.le_trans w2 (pcn_le S 12)
  have e40 : inb (nI i) 40 = true := inb_nI (by omega) (by decide)
  have eix : ix (nI i) = i := ix_nI (by omega)
  rw [if_pos rfl, if_pos rfl]
  unfold fX3_partOf fX12_pieceOf
  rw [e40, ck_true, ck_true, eix, p6, w3, FU_g]
  obtain ⟨u, u1, u2, u3⟩ := piece_lp (k := k) (n := n) (i := i) (x := x) (by omega) (by omega) w5 w4 w 4999 0 (by omega) (by omega) (by decide)
  rw [show (0 : Int32) = nI 0 from rfl, u2, u3, ob_some, ob_some]
  exact PR_mk hr0
theorem fits_lp {k n : ST} {i x w : Nat} (a : Int32) (hi : i < 40) (hx : x < 12) (hw : w ≤ 12) (w3 : gA k 15 i = nI w) (w3' : gA n 116 i = nI w) (H : ∀ j, j < w → ∃ v, v < 1019 ∧ gA k (59 + i) j = nI v ∧ gA n 119 (12 * i + j) = nI v) :
    ∀ (r g j v : Nat), j + r = w → r ≤ g → v < 2039 → ∃ u, u < 2039 ∧ lpX3_checkedPart_8 (nI i) (nI x) (g + 1) (nI v) (nI ((x + 1) ^ j % 1019)) (nI j) k (fun y15 y16 y17 k18 => some (y15, k18)) = some (nI u, k) ∧ ∀ cont, lpX12_fits_33 (nI i) (nI x) a (g + 1) (nI v) (nI j) n cont = cont (nI u) (nI w) n := by
  intro r
  have e40 : inb (nI i) 40 = true := inb_nI (by omega) (by decide)
  have eix : ix (nI i) = i := ix_nI (by omega)
  induction r with
  | zero =>
    intro g j v hj _ hv
    have : j = w := by omega
    subst this
    refine ⟨v, hv, ?_, fun cont => ?_⟩
    · rw [lpX3_checkedPart_8, e40, ck_true, eix, w3, if_pos (nI_le (by omega) (by omega))]
    · rw [lpX12_fits_33, e40, ck_true, eix, w3', if_pos (nI_le (by omega) (by omega))]
  | succ r ih =>
    intro g j v hj hg hv
    obtain ⟨g, rfl⟩ : ∃ z, g = z + 1 := ⟨g - 1, by omega⟩
    obtain ⟨c, c1, c2, c3⟩ := H j (by omega)
    have e5 : inb (nI (12 * i + j)) 480 = true := inb_nI (by omega) (by decide)
    have e6 : ix (nI (12 * i + j)) = 12 * i + j := ix_nI (by omega)
    have e7 : inb (nI j) 12 = true := inb_nI (by omega) (by decide)
    have e8 : ix (nI j) = j := ix_nI (by omega)
    have l1 : 4 ^ c % 2039 < 2039 := Nat.mod_lt _ (by decide)
    have l2 : (x + 1) ^ j % 1019 < 1019 := Nat.mod_lt _ (by decide)
    have l3 : (4 ^ c % 2039) ^ ((x + 1) ^ j % 1019) % 2039 < 2039 := Nat.mod_lt _ (by decide)
    obtain ⟨u, u1, u2, u3⟩ := ih g (j + 1) (v * ((4 ^ c % 2039) ^ ((x + 1) ^ j % 1019) % 2039) % 2039) (by omega) (by omega) (Nat.mod_lt _ (by decide))
    generalize hA : 4 ^ c % 2039 = A at *
    generalize hB : (x + 1) ^ j % 1019 = B at *
    generalize hC : A ^ B % 2039 = C at *
    refine ⟨u, u1, ?_, fun cont => ?_⟩
    · rw [lpX3_checkedPart_8, e40, ck_true, eix, w3, if_neg (nI_ge (by omega) (by omega))]
      unfold fX3_checkOf
      rw [e40, ck_true, e7, ck_true, eix, e8, c2, four_K k (by omega), ob_some, ob_some, hA, raise_of k (by omega) (by omega), ob_some, hC, product_of k (by omega) (by omega), ob_some, nI_1, times_of k (by omega) (by omega), ob_some, nI_1, ← hB, Nat.mod_mul_mod, ← Nat.pow_succ]
      exact u2
    · rw [lpX12_fits_33, e40, ck_true, eix, w3', if_neg (nI_ge (by omega) (by omega)), ix12, e5, ck_true, e6, c3, four_M n (by omega), ob_some, hA, nI_1, show fX12_power n (nI (x + 1)) (nI j) 1019 = some (nI ((x + 1) ^ j % 1019), n) from power_of n (m := 1019) (by omega) (by omega) (by decide) (by decide), ob_some, hB, show fX12_power n (nI A) (nI B) 2039 = some (nI (A ^ B % 2039), n) from power_of n (m := 2039) (by omega) (by omega) (by decide) (by decide), ob_some, hC, nI_1, show j_rem (nI v * nI C) 2039 = nI (v * C % 2039) from rem_mul (m := 2039) (by omega) (by omega) (by decide) (by decide)]
      exact u3 cont
theorem pair_fits (t : Nat) (k n : ST) (a0 : Int32) (a1 : Int32) (a2 : Int32) (ht : t < 512) (hr : Rel t k n) : PR (t + 1) (fX11_fits k a0 a1 a2) (fX12_fits n a0 a1 a2) := by
  have hr1 := rel_thr 0 hr
  unfold fX11_fits fX12_fits 
  simp only [nm_eq]
  generalize sI n 11 0 0 = n at hr1 ⊢
  have hr0 := rel_step hr1
  obtain ⟨d, h, kc, bc, gc, wc, pc, rc, dc, tc, sc, ic, lc, fc, ln, bn, hB, hK, hU, hG, hW, hP, hR, hD, hT, hS, hI, hL, hF, hA, hJ, hX⟩ := hr1
  obtain ⟨b1, b2, b3, b4, b5, b6⟩ := hB
  obtain ⟨r, r1, r2, r3⟩ := among_of hP b4 b6 a0 a1
  obtain ⟨p1, p2, p3, p4, p5, p6, p7, p8⟩ := hP
  rw [r1, r2, ob_some, ob_some]
  cases r
  · exact PR_mk hr0
  obtain ⟨i, x, hi, hx, rfl, rfl⟩ := r3 rfl
  obtain ⟨_, ⟨S, w, s1, s2, s3, w1, w2, w3, w4⟩, _⟩ := p8 i hi
  have w5 : w ≤ 12 := Nat.le_trans w2 (pcn_le S 12)
  rw [if_pos rfl, if_pos rfl, num_of, show fX12_isIn n a2 0 1018 = some (in1 a2 0 1018, n) from isIn_nI n a2 0 1018 (by decide) (by decide), ob_some, ob_some]
  by_cases h2 : in1 a2 0 1018 = true
  case neg =>
    rw [if_neg h2, if_neg h2]
    exact PR_mk hr0
  rw [if_pos h2, if_pos h2]
  obtain ⟨e, _, he, rfl⟩ := in1_of h2 (by decide)
  obtain ⟨u, u1, u2, u3⟩ := fits_lp (k := k) (n := n) (i := i) (x := x) (nI e) (by omega) (by omega) w5 w3 (by rw [p6, w3]) w4 w 4999 0 1 (by omega) (by omega) (by decide)
  unfold fX3_checkedPart
  rw [four_K k (by omega), ob_some, FU_g]
  rw [show lpX3_checkedPart_8 (nI i) (nI x) (4999 + 1) 1 1 0 k (fun y15 y16 y17 k18 => some (y15, k18)) = some (nI u, k) from u2, ob_some]
  rw [show ∀ cont, lpX12_fits_33 (nI i) (nI x) (nI e) (4999 + 1) 1 0 n cont = cont (nI u) (nI w) n from u3, four_M n (by omega), ob_some]
  by_cases h4 : nI (4 ^ e % 2039) = nI u
  · rw [if_pos h4, if_pos h4]
    exact PR_mk hr0
  · rw [if_neg h4, if_neg h4]
    exact PR_mk hr0
theorem pair_taken (t : Nat) (k n : ST) (a0 : Int32) (a1 : Int32) (a2 : Int32) (a3 : Int32) (ht : t < 512) (hr : Rel t k n) : PR (t + 1) (fX11_taken k a0 a1 a2 a3) (fX12_taken n a0 a1 a2 a3) := by
  have hr1 := rel_thr 0 hr
  unfold fX11_taken fX12_taken 
  simp only [nm_eq]
  generalize sI n 11 0 0 = n at hr1 ⊢
  have hr0 := rel_step hr1
  obtain ⟨d, h, kc, bc, gc, wc, pc, rc, dc, tc, sc, ic, lc, fc, ln, bn, hB, hK, hU, hG, hW, hP, hR, hD, hT, hS, hI, hL, hF, hA, hJ, hX⟩ := hr1
  obtain ⟨b1, b2, b3, b4, b5, b6⟩ := hB
  obtain ⟨k1, k2, k3, k4, k5, k6, k7, k8, k9⟩ := hK
  obtain ⟨t1, t2, t3, t4, t5, t6, t7, t8, t9, t10⟩ := hT
  rw [sX9_knows t2 (by omega), sX12_isThing t3 (by omega), ob_some, ob_some]
  by_cases h1 : inb a0 tc = true
  case neg =>
    rw [if_neg h1, if_neg h1]
    exact PR_mk hr0
  rw [if_pos h1, if_pos h1, sX1_knows k2 (by omega), sX12_isKey k3 (by omega), ob_some, ob_some]
  by_cases h2 : inb a1 kc = true
  case neg =>
    rw [if_neg h2, if_neg h2]
    exact PR_mk hr0
  rw [if_pos h2, if_pos h2, pow_of, show fX12_isIn n a2 1 2038 = some (in1 a2 1 2038, n) from isIn_nI n a2 1 2038 (by decide) (by decide), ob_some, ob_some]
  by_cases h3 : in1 a2 1 2038 = true
  case neg =>
    rw [if_neg h3, if_neg h3]
    exact PR_mk hr0
  rw [if_pos h3, if_pos h3, num_of, show fX12_isIn n a3 0 1018 = some (in1 a3 0 1018, n) from isIn_nI n a3 0 1018 (by decide) (by decide), ob_some, ob_some]
  by_cases h4 : in1 a3 0 1018 = true
  case neg =>
    rw [if_neg h4, if_neg h4]
    exact PR_mk hr0
  rw [if_pos h4, if_pos h4]
  obtain ⟨i, hi, rfl⟩ := inb_of h1 (by omega)
  obtain ⟨j, hj, rfl⟩ := inb_of h2 (by omega)
  obtain ⟨p, _, hp, rfl⟩ := in1_of h3 (by decide)
  obtain ⟨q, _, hq, rfl⟩ := in1_of h4 (by decide)
  obtain ⟨⟨v, v1, v2⟩, _⟩ := t9 i hi
  obtain ⟨⟨s, s0, s1, s2⟩, _⟩ := k9 j hj
  have e1 : inb (nI i) 40 = true := inb_nI (by omega) (by decide)
  have e2 : ix (nI i) = i := ix_nI (by omega)
  have e3 : inb (nI j) 40 = true := inb_nI (by omega) (by decide)
  have e4 : ix (nI j) = j := ix_nI (by omega)
  unfold fX1_publicOf
  simp only [e1, e3, ck_true, e2, e4]
  have l1 : 4 ^ s % 2039 < 2039 := Nat.mod_lt _ (by decide)
  have l2 : (p + 7 * v) % 1019 < 1019 := Nat.mod_lt _ (by decide)
  have l3 : (4 ^ s % 2039) ^ ((p + 7 * v) % 1019) % 2039 < 2039 := Nat.mod_lt _ (by decide)
  rw [v2, chal_of k (by omega) (by omega), ob_some, four_K k (by omega), ob_some, s2, four_K k (by omega), ob_some, ob_some]
  rw [four_M n (by omega), ob_some, k5, s2, four_M n (by omega), ob_some, t4, v2, chal_M n (by omega) (by omega), ob_some]
  generalize 4 ^ s % 2039 = A at *
  generalize (p + 7 * v) % 1019 = B at *
  rw [raise_of k (by omega) (by omega), ob_some, show fX12_power n (nI A) (nI B) 2039 = some (nI (A ^ B % 2039), n) from power_of n (m := 2039) (by omega) (by omega) (by decide) (by decide), ob_some]
  generalize A ^ B % 2039 = C at *
  rw [product_of k (by omega) (by omega), ob_some, show j_rem (nI p * nI C) 2039 = nI (p * C % 2039) from rem_mul (m := 2039) (by omega) (by omega) (by decide) (by decide)]
  by_cases h5 : nI (4 ^ q % 2039) = nI (p * C % 2039)
  · rw [if_pos h5, if_pos h5]
    exact PR_mk hr0
  · rw [if_neg h5, if_neg h5]
    exact PR_mk hr0
