/-- byte i of a word -/
def bt (a : Int32) (i : Nat) : Nat := a.toBitVec.toNat / 2 ^ (8 * i) % 256
theorem bt_lt (a : Int32) (i : Nat) : bt a i < 256 := Nat.mod_lt _ (by decide)
theorem bt_K (a : Int32) {i : Nat} (hi : i < 4) : (j_ushr a (nI (8 * i))) &&& 255 = nI (bt a i) := by
  have e : (((nI (8 * i)).toUInt32 &&& Int32.toUInt32 31).toBitVec % 32).toNat = 8 * i := by
    have : ∀ i : Fin 4, (((nI (8 * i.val)).toUInt32 &&& Int32.toUInt32 31).toBitVec % 32).toNat = 8 * i.val := by decide
    exact this ⟨i, hi⟩
  rw [pk_and _ (m := 255) 8 (by decide)]
  unfold j_ushr
  rw [pk_ushr _ _ _ e]
  rfl
theorem bt_M (a : Int32) {i : Nat} (hi : i < 4) : (j_shr a (nI (8 * i))) &&& 255 = nI (bt a i) := by
  have e : ((nI (8 * i) &&& 31).toBitVec.smod 32).toNat = 8 * i := by
    have : ∀ i : Fin 4, ((nI (8 * i.val) &&& 31).toBitVec.smod 32).toNat = 8 * i.val := by decide
    exact this ⟨i, hi⟩
  rw [pk_and _ (m := 255) 8 (by decide)]
  refine congrArg nI ?_
  have e1 : (j_shr a (nI (8 * i))).toInt = a.toInt / 2 ^ (8 * i) := by
    unfold j_shr
    rw [pk_shr _ _ _ e, Int.shiftRight_eq_div_pow]
    rfl
  have e2 : ∀ x : Int32, (x.toBitVec.toNat : Int) % 256 = x.toInt % 256 := fun x => by
    have := BitVec.toInt_eq_toNat_cond x.toBitVec
    show _ = x.toBitVec.toInt % 256
    rw [this]
    split <;> omega
  have e3 : ((j_shr a (nI (8 * i))).toBitVec.toNat : Int) % 256 = (bt a i : Int) := by
    rw [e2, e1]
    have e4 : a.toInt = a.toBitVec.toNat ∨ a.toInt = (a.toBitVec.toNat : Int) - 2 ^ 32 := by
      have := BitVec.toInt_eq_toNat_cond a.toBitVec
      show a.toBitVec.toInt = _ ∨ a.toBitVec.toInt = _
      rw [this]
      split
      · exact Or.inl rfl
      · exact Or.inr rfl
    unfold bt
    have h4 : i = 0 ∨ i = 1 ∨ i = 2 ∨ i = 3 := by omega
    generalize a.toBitVec.toNat = N at *
    rcases h4 with rfl | rfl | rfl | rfl <;> rcases e4 with q | q <;> rw [q] <;> simp only [Nat.reduceMul, Nat.reducePow] <;> omega
  omega
theorem bt_8 (a : Int32) {i : Nat} (hi : i < 4) : Int8.toInt32 (Int32.toInt8 (Int8.toInt32 (Int32.toInt8 (j_shr a (nI (8 * i)))))) = (nI (bt a i)).toInt8.toInt32 := by
  have e : ∀ z : Int32, z.toInt8.toInt32.toInt8.toInt32 = z.toInt8.toInt32 := fun z => by simp
  rw [e, ← bt_M a hi, fa_byte_low]
/-- how many of the first r bytes are no 0 -/
def cnR (a : Int32) : Nat → Nat
  | 0 => 0
  | r + 1 => cnR a r + (if bt a r = 0 then 0 else 1)
theorem cnR_le (a : Int32) : ∀ r, cnR a r ≤ r
  | 0 => Nat.le_refl 0
  | r + 1 => by
    have := cnR_le a r
    unfold cnR
    split <;> omega
theorem m8 (r : Nat) : nI (8 * (r + 1)) - 8 = nI (8 * r) := by
  have : nI (8 * (r + 1)) - nI 8 = nI (8 * (r + 1) - 8) := pk_sub (by omega)
  rw [show 8 * (r + 1) - 8 = 8 * r by omega] at this
  exact this
theorem a8 (r : Nat) : nI (8 * r) + (-8) = nI (8 * r) - 8 := (Int32.sub_eq_add_neg _ _).symm
theorem bz {c : Nat} (h : c < 256) : (nI c = 0) = (c = 0) := propext (nI_eq (b := 0) (by omega) (by decide))
theorem bytes_K (a : Int32) (k : ST) (cont : Int32 → Int32 → ST → Option (Int32 × ST)) : ∀ (r g v : Nat), r ≤ 4 → r ≤ g → lpX8_bytesIn_5 a (g + 1) (nI v) (nI (8 * r) - 8) k cont = cont (nI (v + cnR a r)) (-8) k := by
  intro r
  induction r with
  | zero =>
    intro g v _ _
    rw [lpX8_bytesIn_5, if_pos (by decide)]
    rfl
  | succ r ih =>
    intro g v hr hg
    obtain ⟨g, rfl⟩ : ∃ z, g = z + 1 := ⟨g - 1, by omega⟩
    rw [lpX8_bytesIn_5, m8, if_neg (nI_pos (by omega)), bt_K a (by omega), ifeq (bz (bt_lt a r)), a8, nI_1]
    unfold cnR
    by_cases h : bt a r = 0
    · rw [if_pos h, if_pos h]
      exact ih g v (by omega) (by omega)
    · rw [if_neg h, if_neg h, ih g (v + 1) (by omega) (by omega)]
      congr 2
      omega
theorem bytes_M (a : Int32) (k : ST) (cont : Int32 → Int32 → ST → Option (Int32 × ST)) : ∀ (r g v : Nat), r ≤ 4 → r ≤ g → lpX12_bytesIn_5 a (g + 1) (nI v) (nI (8 * r) - 8) k cont = cont (nI (v + cnR a r)) (-8) k := by
  intro r
  induction r with
  | zero =>
    intro g v _ _
    rw [lpX12_bytesIn_5, if_pos (by decide)]
    rfl
  | succ r ih =>
    intro g v hr hg
    obtain ⟨g, rfl⟩ : ∃ z, g = z + 1 := ⟨g - 1, by omega⟩
    rw [lpX12_bytesIn_5, m8, if_neg (nI_pos (by omega)), bt_M a (by omega), ifeq (bz (bt_lt a r)), a8, nI_1, Int32.add_zero]
    unfold cnR
    by_cases h : bt a r = 0
    · rw [if_pos h, if_pos h]
      exact ih g v (by omega) (by omega)
    · rw [if_neg h, if_neg h, ih g (v + 1) (by omega) (by omega)]
      congr 2
      omega
theorem bytesIn_K (k : ST) (a : Int32) : fX8_bytesIn k a = some (nI (cnR a 4), k) := by
  unfold fX8_bytesIn
  rw [FU_g]
  have h := bytes_K a k (fun y3 y4 k5 => some (y3, k5)) 4 4999 0 (by decide) (by decide)
  rw [Nat.zero_add] at h
  exact h
theorem bytesIn_M (k : ST) (a : Int32) : fX12_bytesIn k a = some (nI (cnR a 4), k) := by
  unfold fX12_bytesIn
  rw [FU_g]
  have h := bytes_M a k (fun y3 y4 k5 => some (y3, k5)) 4 4999 0 (by decide) (by decide)
  rw [Nat.zero_add] at h
  exact h
theorem rel_byte {t : Nat} {k n : ST} {ln c : Nat} (hr : Rel t k n) (e : gI k 7 1 = nI ln) (hl : ln < 160) (c1 : 1 ≤ c) (c2 : c < 256) :
    gI n 11 16 = nI ln ∧ Rel t (sI (sA k 43 ln (nI c)) 7 1 (nI (ln + 1))) (sI (sA n 109 ln (nI c).toInt8.toInt32) 11 16 (nI (ln + 1))) := by
  obtain ⟨d, h, kc, bc, gc, wc, pc, rc, dc, tc, sc, ic, lc, fc, ln', bn, hB, hK, hU, hG, hW, hP, hR, hD, hT, hS, hI, hL, hF, hA, hJ, hX⟩ := hr
  obtain ⟨a1, a2, a3, a4⟩ := hA
  have : ln' = ln := by
    rw [a2] at e
    exact (nI_eq (by omega) (by omega)).mp e
  subst this
  refine ⟨a3, ⟨d, h, kc, bc, gc, wc, pc, rc, dc, tc, sc, ic, lc, fc, ln' + 1, bn, hB, hK, hU, hG, hW, gPart.fr (hP) rfl rfl rfl rfl rfl rfl rfl rfl rfl rfl rfl rfl rfl (fun i => by simp (config := {decide := true}) only [row_sA, gA_sI]), hR, hD, hT, hS, hI, hL, hF, ⟨hl, rfl, rfl, ?_⟩, hJ, hX⟩⟩
  show ∀ i, i < ln' + 1 → ∃ c', 1 ≤ c' ∧ c' < 256 ∧ upd (gA k 43) ln' (nI c) i = nI c' ∧ upd (gA n 109) ln' (nI c).toInt8.toInt32 i = (nI c').toInt8.toInt32
  refine ext1 (fun i hi => ?_) ?_
  · rw [un (by omega), un (by omega)]
    exact a4 i hi
  · rw [us, us]
    exact ⟨c, c1, c2, rfl, rfl⟩
theorem app_lp (t : Nat) (a : Int32) (cK cM : Int32 → ST → Option (Unit × ST)) : ∀ (r g ln : Nat) (k n : ST), r ≤ 4 → r ≤ g → Rel t k n → gI k 7 1 = nI ln → ln + cnR a r ≤ 160 →
    ∃ k' n', lpX8_append_3 a (g + 1) (nI (8 * r) - 8) k cK = cK (-8) k' ∧ lpX12_put_3 a (g + 1) (nI (8 * r) - 8) n cM = cM (-8) n' ∧ Rel t k' n' ∧ gI k' 7 1 = nI (ln + cnR a r) := by
  intro r
  induction r with
  | zero =>
    intro g ln k n _ _ hr e _
    refine ⟨k, n, ?_, ?_, hr, e⟩
    · rw [lpX8_append_3, if_pos (by decide)]
      rfl
    · rw [lpX12_put_3, if_pos (by decide)]
      rfl
  | succ r ih =>
    intro g ln k n h4 hg hr e hl
    obtain ⟨g, rfl⟩ : ∃ z, g = z + 1 := ⟨g - 1, by omega⟩
    rw [lpX8_append_3, lpX12_put_3, m8, if_neg (nI_pos (by omega)), if_neg (nI_pos (by omega)), bt_K a (by omega), bt_M a (by omega), ifeq (bz (bt_lt a r)), ifeq (bz (bt_lt a r)), a8]
    unfold cnR at hl ⊢
    by_cases h : bt a r = 0
    · rw [if_pos h, if_pos h, if_pos h]
      rw [if_pos h] at hl
      exact ih g ln k n (by omega) (by omega) hr e hl
    · rw [if_neg h, if_neg h, if_neg h]
      rw [if_neg h] at hl
      have hlt : ln < 160 := by omega
      obtain ⟨e2, hr2⟩ := rel_byte hr e hlt (show 1 ≤ bt a r by omega) (bt_lt a r)
      rw [e, e2, if_neg (show ¬ (160 : Int32) ≤ nI ln from nI_ge (b := 160) hlt (by decide)), inb_nI hlt (by decide), ck_true, ck_true, nm_eq, nm_eq, nm_eq, nm_eq, ix_nI (by omega), bt_8 a (by omega), gI_sA, gI_sA, e, e2, nI_1]
      obtain ⟨k', n', q1, q2, q3, q4⟩ := ih g (ln + 1) _ _ (by omega) (by omega) hr2 rfl (by omega)
      refine ⟨k', n', q1, q2, q3, ?_⟩
      rw [q4]
      congr 1
      omega
theorem app_of {t : Nat} {k n : ST} {ln : Nat} (a : Int32) (hr : Rel t k n) (e : gI k 7 1 = nI ln) (h : ln + cnR a 4 ≤ 160) : ∃ k' n', fX8_append k a = some ((), k') ∧ fX12_put n a = some ((), n') ∧ Rel t k' n' ∧ gI k' 7 1 = nI (ln + cnR a 4) := by
  unfold fX8_append fX12_put
  rw [FU_g]
  exact app_lp t a (fun y7 k8 => some ((), k8)) (fun y7 k8 => some ((), k8)) 4 4999 ln k n (by decide) (by decide) hr e h
theorem pair_feed (t : Nat) (k n : ST) (a0 : Int32) (a1 : Int32) (a2 : Int32) (a3 : Int32) (a4 : Int32) (ht : t < 512) (hr : Rel t k n) : PR (t + 1) (fX11_feed k a0 a1 a2 a3 a4) (fX12_feed n a0 a1 a2 a3 a4) := by
  have hr1 := rel_thr 0 hr
  unfold fX11_feed fX12_feed 
  simp only [nm_eq]
  generalize sI n 11 0 0 = n at hr1 ⊢
  have hr0 := rel_step hr1
  have hr2 := hr0
  obtain ⟨d, h, kc, bc, gc, wc, pc, rc, dc, tc, sc, ic, lc, fc, ln, bn, hB, hK, hU, hG, hW, hP, hR, hD, hT, hS, hI, hL, hF, hA, hJ, hX⟩ := hr1
  obtain ⟨b1, b2, b3, b4, b5, b6⟩ := hB
  obtain ⟨l1, l2, l3, l4⟩ := hA
  have c0 := cnR_le a0 4
  have c1 := cnR_le a1 4
  have c2 := cnR_le a2 4
  have c3 := cnR_le a3 4
  have c4 := cnR_le a4 4
  simp only [bytesIn_K, bytesIn_M, ob_some, l2, l3, nI_add]
  by_cases h1 : nI (ln + (cnR a0 4 + cnR a1 4 + cnR a2 4 + cnR a3 4 + cnR a4 4)) ≤ 160
  · have h2 : ln + (cnR a0 4 + cnR a1 4 + cnR a2 4 + cnR a3 4 + cnR a4 4) ≤ 160 := (nI_leI (b := 160) (by omega) (by decide)).mp h1
    rw [if_pos h1, if_pos (show nI (ln + cnR a0 4 + cnR a1 4 + cnR a2 4 + cnR a3 4 + cnR a4 4) ≤ 160 from nI_le (b := 160) (by omega) (by decide))]
    obtain ⟨k1, n1, p1, q1, r1, s1⟩ := app_of a0 hr2 l2 (by omega)
    obtain ⟨k2, n2, p2, q2, r2, s2⟩ := app_of a1 r1 s1 (by omega)
    obtain ⟨k3, n3, p3, q3, r3, s3⟩ := app_of a2 r2 s2 (by omega)
    obtain ⟨k4, n4, p4, q4, r4, s4⟩ := app_of a3 r3 s3 (by omega)
    obtain ⟨k5, n5, p5, q5, r5, s5⟩ := app_of a4 r4 s4 (by omega)
    simp only [p1, p2, p3, p4, p5, q1, q2, q3, q4, q5, ob_some]
    have e : gI n5 11 16 = gI k5 7 1 := by
      obtain ⟨d, h, kc, bc, gc, wc, pc, rc, dc, tc, sc, ic, lc, fc, ln', bn, hB, hK, hU, hG, hW, hP, hR, hD, hT, hS, hI, hL, hF, hA, hJ, hX⟩ := r5
      rw [hA.2.1, hA.2.2.1]
    rw [e]
    exact PR_mk r5
  · rw [if_neg h1, if_neg]
    · exact PR_mk hr0
    · intro q
      apply h1
      rw [show ln + (cnR a0 4 + cnR a1 4 + cnR a2 4 + cnR a3 4 + cnR a4 4) = ln + cnR a0 4 + cnR a1 4 + cnR a2 4 + cnR a3 4 + cnR a4 4 by omega]
      exact q
