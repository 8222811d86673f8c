/-- a draw's value -/
def dv (s : Int64) : Int32 := Int64.toInt32 (j_lrem (j_lushr s 33) 1019)
theorem lrem_of {a m : Nat} (ha : a < 2 ^ 62) (h0 : 0 < m) (hm : m < 2 ^ 31) : j_lrem (lN a) (lN m) = lN (a % m) := by
  unfold j_lrem
  have e1 : lN a / lN m = lN (a / m) := by
    apply Int64.toInt_inj.mp
    have e : a / m ≤ a := Nat.div_le_self a m
    rw [lg_ldiv_nonneg (by rw [pf_lI (by omega)]; omega) (by rw [pf_lI (by omega)]; omega), pf_lI (by omega), pf_lI (by omega), pf_lI (by omega)]
    exact (Int.natCast_ediv _ _).symm
  have hm2 := Nat.div_add_mod' a m
  rw [e1, show lN (a / m) * lN m = lN (a / m * m) from (Int64.ofNat_mul _ _).symm]
  have e2 : lN a = lN (a % m) + lN (a / m * m) := by
    rw [show lN (a % m) + lN (a / m * m) = lN (a % m + a / m * m) from (Int64.ofNat_add _ _).symm]
    congr 1
    omega
  rw [e2, Int64.add_sub_cancel]
theorem dv_of (s : Int64) (m : Nat) (h0 : 0 < m) (hm : m < 4096) : ∃ v, v < m ∧ Int64.toInt32 (j_lrem (j_lushr s 33) (lN m)) = nI v := by
  obtain ⟨a, ha, rfl⟩ := wb_of s
  have e : j_lushr (lN a) 33 = lN (a / 2 ^ 33) := wb_shr (k := 33) ha (by decide)
  rw [e, lrem_of (by omega) h0 (by omega), lN_i]
  exact ⟨_, Nat.mod_lt _ h0, rfl⟩
theorem dv_lt (s : Int64) : ∃ v, v < 1019 ∧ dv s = nI v := dv_of s 1019 (by decide) (by decide)
/-- the seeds -/
def sd (s : Int64) : Nat → Int64
  | 0 => s
  | j + 1 => (sd s j * 6364136223846793005) + 1442695040888963407
/-- the state with other rows from 59 on -/
def hiK (k : ST) (g : Nat → Nat → Int32) : ST := (k.1, fun a => if a < 59 then k.2.1 a else g a, k.2.2)
theorem hi_sA (k : ST) (i x : Nat) (v : Int32) : sA k (59 + i) x v = hiK k (gA (sA k (59 + i) x v)) := by
  unfold hiK sA gA
  refine congrArg (fun z => (k.1, z, k.2.2)) (funext fun a => ?_)
  by_cases h : a < 59
  · rw [if_pos h, if_neg (by omega)]
  · rw [if_neg h]
theorem hi_hi (k : ST) (f g : Nat → Nat → Int32) : hiK (hiK k f) g = hiK k g := by
  unfold hiK
  refine congrArg (fun z => (k.1, z, k.2.2)) (funext fun a => ?_)
  by_cases h : a < 59
  · simp only [if_pos h]
  · simp only [if_neg h]
theorem hi_row (k : ST) (g : Nat → Nat → Int32) (i : Nat) : gA (hiK k g) (59 + i) = g (59 + i) := by
  unfold hiK gA
  exact if_neg (by omega)
theorem sA_sF (k : ST) (r x : Nat) (v : Int32) : sA k r x v = sF k r (upd (gA k r) x v) := by
  unfold sA sF gA
  refine congrArg (fun z => (k.1, z, k.2.2)) (funext fun a => ?_)
  by_cases h : a = r
  · rw [if_pos h, if_pos h, h]
  · rw [if_neg h, if_neg h]
theorem sF_sF (k : ST) (r : Nat) (f g : Nat → Int32) : sF (sF k r f) r g = sF k r g := by
  unfold sF
  refine congrArg (fun z => (k.1, z, k.2.2)) (funext fun a => ?_)
  by_cases h : a = r
  · simp only [if_pos h]
  · simp only [if_neg h]
theorem draw_K (s0 : Int64) (i w : Nat) (hi : i < 40) (hw : w ≤ 12) (b : Int32) : ∀ (r g m : Nat) (k : ST), m + 1 + r = w → r ≤ g → gA k 15 i = nI w →
    ∃ f : Nat → Nat → Int32, lpX3_drawCurve_15 (nI i) b s0 (g + 1) (sd s0 m) (nI (m + 1)) k (fun y15 y16 k17 => some ((), k17)) = some ((), hiK k f) ∧ (∀ a, a ≠ 59 + i → f a = gA k a) ∧ (∀ j, j < m + 1 → f (59 + i) j = gA k (59 + i) j) ∧ ∀ j, m + 1 ≤ j → j < w → f (59 + i) j = dv (sd s0 j) := by
  intro r
  have e40 : inb (nI i) 40 = true := inb_nI (by omega) (by decide)
  have eix : ix (nI i) = i := ix_nI (by omega)
  induction r with
  | zero =>
    intro g m k hm _ hk
    refine ⟨gA k, ?_, fun _ _ => rfl, fun _ _ => rfl, fun j h1 h2 => by omega⟩
    rw [lpX3_drawCurve_15, e40, ck_true, eix, hk, if_pos (nI_le (by omega) (by omega))]
    refine congrArg (fun z => some ((), z)) ?_
    unfold hiK gA
    refine congrArg (fun z => (k.1, z, k.2.2)) (funext fun a => ?_)
    split <;> rfl
  | succ r ih =>
    intro g m k hm hg hk
    obtain ⟨g, rfl⟩ : ∃ z, g = z + 1 := ⟨g - 1, by omega⟩
    have e7 : inb (nI (m + 1)) 12 = true := inb_nI (by omega) (by decide)
    have e8 : ix (nI (m + 1)) = m + 1 := ix_nI (by omega)
    obtain ⟨f, f1, f2, f3, f4⟩ := ih g (m + 1) (sA k (59 + i) (m + 1) (dv (sd s0 (m + 1)))) (by omega) (by omega) (by rw [gA_sA, if_neg (by omega)]; exact hk)
    refine ⟨f, ?_, fun a ha => ?_, fun j hj => ?_, fun j h1 h2 => ?_⟩
    · rw [lpX3_drawCurve_15, e40, ck_true, eix, hk, if_neg (nI_ge (by omega) (by omega))]
      unfold fX0_nextSeed fX0_coefficient
      rw [ob_some, ck_true, ob_some, e7, ck_true, nm_eq, e8, nI_1]
      refine Eq.trans f1 ?_
      rw [hi_sA, hi_hi]
    · rw [f2 a ha, gA_sA, if_neg ha]
    · rw [f3 j (by omega), gA_sA, if_pos rfl, un (by omega)]
    · rcases Nat.lt_or_ge (m + 1) j with q | q
      · exact f4 j (by omega) h2
      · have : j = m + 1 := by omega
        subst this
        rw [f3 _ (by omega), gA_sA, if_pos rfl, us]
theorem draw_M (s0 : Int64) (i w : Nat) (hi : i < 40) (hw : w ≤ 12) (a b : Int32) (cont : Int64 → Int32 → ST → Option (Int32 × ST)) : ∀ (r g m : Nat) (n : ST), m + 1 + r = w → r ≤ g →
    ∃ f : Nat → Int32, lpX12_parted_78 a b (nI w) s0 (nI i) (g + 1) (sd s0 m) (nI (m + 1)) n cont = cont (sd s0 (w - 1)) (nI w) (sF n 119 f) ∧ (∀ j, j < 12 * i + m + 1 → f j = gA n 119 j) ∧ ∀ j, m + 1 ≤ j → j < w → f (12 * i + j) = dv (sd s0 j) := by
  intro r
  induction r with
  | zero =>
    intro g m n hm _
    refine ⟨gA n 119, ?_, fun _ _ => rfl, fun j h1 h2 => by omega⟩
    rw [lpX12_parted_78, if_pos (nI_le (by omega) (by omega))]
    have e : sF n 119 (gA n 119) = n := by
      unfold sF gA
      refine congrArg (fun z => (n.1, z, n.2.2)) (funext fun a => ?_)
      by_cases h : a = 119
      · rw [if_pos h, h]
      · rw [if_neg h]
    rw [e, show w - 1 = m by omega, show m + 1 = w by omega]
  | succ r ih =>
    intro g m n hm hg
    obtain ⟨g, rfl⟩ : ∃ z, g = z + 1 := ⟨g - 1, by omega⟩
    have e7 : inb (nI (12 * i + (m + 1))) 480 = true := inb_nI (by omega) (by decide)
    have e8 : ix (nI (12 * i + (m + 1))) = 12 * i + (m + 1) := ix_nI (by omega)
    obtain ⟨f, f1, f3, f4⟩ := ih g (m + 1) (sA n 119 (12 * i + (m + 1)) (dv (sd s0 (m + 1)))) (by omega) (by omega)
    refine ⟨f, ?_, fun j hj => ?_, fun j h1 h2 => ?_⟩
    · rw [lpX12_parted_78, if_neg (nI_ge (by omega) (by omega))]
      unfold fX12_next fX12_drawn
      rw [ob_some, ck_of (by decide), ob_some, ix12, e7, ck_true, nm_eq, e8, nI_1]
      refine Eq.trans f1 ?_
      rw [sA_sF, sF_sF]
    · rw [f3 j (by omega), gA_sA, if_pos rfl, un (by omega)]
    · rcases Nat.lt_or_ge (m + 1) j with q | q
      · exact f4 j (by omega) h2
      · have : j = m + 1 := by omega
        subst this
        rw [f3 _ (by omega), gA_sA, if_pos rfl, us]
/-- behind Partings.add -/
def addP (k : ST) (pc : Nat) (a S w d : Int32) : ST := sI (sA (sA (sA (sA (sA k 13 pc a) 14 pc S) 15 pc w) 16 pc d) 17 pc (-1)) 2 0 (nI (pc + 1))
theorem add_of {k : ST} {pc : Nat} (p2 : gI k 2 0 = nI pc) (hc : pc < 40) (a S w d : Int32) : fX3_add k a S w d = some (nI pc, addP k pc a S w d) := by
  have f1 : (nI pc < 40) = True := eq_true (nI_lt (b := 40) hc (by decide))
  have f4 : inb (nI pc) 40 = true := inb_nI hc (by decide)
  have f5 : ix (nI pc) = pc := ix_nI (by omega)
  unfold fX3_add
  simp only [p2, f1, f4, f5, nm_eq, ob_some, ck_true, gI_sI, gI_sA, gA_sI, gA_sA, gL_sI, gL_sA, Nat.reduceEqDiff, eq_self, if_true, if_false, reduceIte, ite_self, Bool.false_eq_true, nI_1, nI_pred]
  rfl
theorem add_full {k : ST} (p2 : gI k 2 0 = nI 40) (a S w d : Int32) : fX3_add k a S w d = some (-1, k) := by
  unfold fX3_add
  rw [p2, if_neg (by decide)]
theorem upd_comm {f : Nat → Int32} {i j : Nat} (h : i ≠ j) (x y : Int32) : upd (upd f i x) j y = upd (upd f j y) i x := by
  funext a
  by_cases h1 : a = j
  · subst h1
    rw [us, un (by omega), us]
  · rw [un h1]
    by_cases h2 : a = i
    · subst h2
      rw [us, us]
    · rw [un h2, un h2, un h1]
theorem addP_17 (k : ST) (pc i : Nat) (a S w d x : Int32) (h : pc ≠ i) : sA (addP k pc a S w d) 17 i x = addP (sA k 17 i x) pc a S w d := by
  unfold addP sA sI
  refine congrArg (fun z => (_, z, k.2.2)) (funext fun b => ?_)
  by_cases e : b = 17
  · subst e
    exact upd_comm h _ _
  · simp only [e, if_false]
theorem part_end {t d h kc bc gc wc pc rc dc tc sc ic lc fc ln bn : Nat} {k n : ST} (s0 : Int64) {a S w s : Nat} (hc : pc < 40) (ha : a < kc) (S1 : 1 ≤ S) (S2 : S < 2 ^ h) (w1 : 1 ≤ w) (w2 : w ≤ pcn S 12) (hs : s < 1019) (es : gA k 0 a = nI s)
    (hB : gB d h k n) (hK : gKeys kc d k n) (hU : gBurn bc k n) (hG : gTurn (t + 1) gc h kc d k n) (hW : gWrap wc kc d k n) (hP : gPart pc kc h d k n) (hR : gRule rc k n) (hD : gDeath dc h rc d k n) (hT : gThing tc kc rc d k n) (hS : gSay sc h tc d k n) (hI : gSig ic kc d k n) (hL : gLoan lc kc k n) (hF : gFall fc h k n) (hA : gTape ln k n) (hJ : gBench bn h k n) (hX : gFalse h k n) :
    ∃ k' n', fX3_drawCurve (addP k pc (nI a) (nI S) (nI w) (nI d)) (nI pc) (nI s) s0 = some ((), k') ∧ fX12_parted n (nI a) (nI S) (nI w) s0 = some (nI pc, n') ∧ Rel (t + 1) k' n' := by
  obtain ⟨p1, p2, p3, p4, p5, p6, p7, p8⟩ := hP
  obtain ⟨b1, b2, b3, b4, b5, b6⟩ := id hB
  obtain ⟨k1, k2, k3, k4, k5, k6, k7, k8, k9⟩ := id hK
  have w5 : w ≤ 12 := Nat.le_trans w2 (pcn_le S 12)
  have f4 : inb (nI pc) 40 = true := inb_nI hc (by decide)
  have f5 : ix (nI pc) = pc := ix_nI (by omega)
  have f7 : inb (nI a) 40 = true := inb_nI (by omega) (by decide)
  have f8 : ix (nI a) = a := ix_nI (by omega)
  have f9 : (12 : Int32) * nI pc = nI (12 * pc) := pk_mul 12 pc
  have f10 : inb (nI (12 * pc)) 480 = true := inb_nI (by omega) (by decide)
  have f11 : ix (nI (12 * pc)) = 12 * pc := ix_nI (by omega)
  have f12 : j_rem (nI s) 1019 = nI s := by
    rw [show j_rem (nI s) 1019 = nI (s % 1019) from rem_of (m := 1019) (by omega) (by decide) (by decide), Nat.mod_eq_of_lt hs]
  have g1 : inb 0 12 = true := by decide
  have g2 : ix 0 = 0 := by decide
  have hM := draw_M s0 pc w hc w5 (nI a) (nI S) (fun y23 y24 k25 => some (nI pc, sI k25 11 30 (gI k25 11 30 + 1))) (w - 1) 4999 0 (sA (sA (sA (sA (sA (sA n 114 pc (nI a)) 115 pc (nI S)) 116 pc (nI w)) 117 pc (nI d)) 118 pc 9999) 119 (12 * pc) (nI s)) (by omega) (by omega)
  obtain ⟨fm, m1, m2, m3⟩ := hM
  obtain ⟨fk, q1, q2, q3, q4⟩ := draw_K s0 pc w hc w5 (nI s) (w - 1) 4999 0 (sA (addP k pc (nI a) (nI S) (nI w) (nI d)) (59 + pc) 0 (nI s)) (by omega) (by omega) (by rw [gA_sA, if_neg (by omega)]; exact us)
  have q1' : fX3_drawCurve (addP k pc (nI a) (nI S) (nI w) (nI d)) (nI pc) (nI s) s0 = some ((), hiK (addP k pc (nI a) (nI S) (nI w) (nI d)) fk) := by
    unfold fX3_drawCurve
    rw [f4, ck_true, g1, ck_true, nm_eq, f5, g2, FU_g]
    refine Eq.trans q1 ?_
    rw [hi_sA, hi_hi]
  have m1' : fX12_parted n (nI a) (nI S) (nI w) s0 = some (nI pc, sI (sF (sA (sA (sA (sA (sA (sA n 114 pc (nI a)) 115 pc (nI S)) 116 pc (nI w)) 117 pc (nI d)) 118 pc 9999) 119 (12 * pc) (nI s)) 119 fm) 11 30 (gI n 11 30 + 1)) := by
    unfold fX12_parted
    simp only [p3, f4, f5, f7, f8, f9, f10, f11, nm_eq, ck_true, gI_sA, gA_sA, b3, k5, es, f12, Nat.reduceEqDiff, if_false]
    refine Eq.trans m1 ?_
    simp only [gI_sF, gI_sA, p3]
  refine ⟨_, _, q1', m1', d, h, kc, bc, gc, wc, pc + 1, rc, dc, tc, sc, ic, lc, fc, ln, bn, hB, hK, hU, hG, hW, ?_, hR, hD, hT, hS, hI, hL, hF, hA, hJ, hX⟩
  have e59 : ∀ i, i < pc → ∀ j, fk (59 + i) j = gA k (59 + i) j := fun i hi j => by
    rw [q2 (59 + i) (by omega), gA_sA, if_neg (by omega)]
    unfold addP
    rw [gA_sI, gA_sA, if_neg (by omega), gA_sA, if_neg (by omega), gA_sA, if_neg (by omega), gA_sA, if_neg (by omega), gA_sA, if_neg (by omega)]
  refine ⟨by omega, rfl, (by show gI n 11 30 + 1 = nI (pc + 1); rw [p3, nI_1]), (by show upd (gA n 114) pc (nI a) = upd (gA k 13) pc (nI a); rw [p4]), (by show upd (gA n 115) pc (nI S) = upd (gA k 14) pc (nI S); rw [p5]), (by show upd (gA n 116) pc (nI w) = upd (gA k 15) pc (nI w); rw [p6]), (by show upd (gA n 117) pc (nI d) = upd (gA k 16) pc (nI d); rw [p7]), ?_⟩
  show ∀ i, i < pc + 1 → (∃ a', a' < kc ∧ upd (gA k 13) pc (nI a) i = nI a') ∧ (∃ S' w', 1 ≤ S' ∧ S' < 2 ^ h ∧ upd (gA k 14) pc (nI S) i = nI S' ∧ 1 ≤ w' ∧ w' ≤ pcn S' 12 ∧ upd (gA k 15) pc (nI w) i = nI w' ∧ ∀ j, j < w' → ∃ v, v < 1019 ∧ gA (hiK (addP k pc (nI a) (nI S) (nI w) (nI d)) fk) (59 + i) j = nI v ∧ fm (12 * i + j) = nI v) ∧ (∃ e, e ≤ d ∧ upd (gA k 16) pc (nI d) i = nI e) ∧ eqE d (upd (gA k 17) pc (-1) i) (upd (gA n 118) pc 9999 i)
  intro i hi
  rcases Nat.lt_or_ge i pc with q | q
  · obtain ⟨c1, ⟨S', w', c2, c3, c4, c5, c6, c7, c8⟩, c9, c10⟩ := p8 i q
    have e : i ≠ pc := by omega
    have hw' : w' ≤ 12 := Nat.le_trans c6 (pcn_le S' 12)
    rw [un e, un e, un e, un e, un e, un e]
    refine ⟨c1, ⟨S', w', c2, c3, c4, c5, c6, c7, fun j hj => ?_⟩, c9, c10⟩
    obtain ⟨v, v1, v2, v3⟩ := c8 j hj
    refine ⟨v, v1, ?_, ?_⟩
    · rw [hi_row, e59 i q j]
      exact v2
    · rw [m2 (12 * i + j) (by omega)]
      show upd (gA n 119) (12 * pc) (nI s) (12 * i + j) = nI v
      rw [un (by omega)]
      exact v3
  · have e : i = pc := by omega
    subst e
    rw [us, us, us, us, us, us]
    refine ⟨⟨a, ha, rfl⟩, ⟨S, w, S1, S2, rfl, w1, w2, rfl, fun j hj => ?_⟩, ⟨d, Nat.le_refl d, rfl⟩, Or.inl ⟨rfl, rfl⟩⟩
    rw [hi_row]
    rcases Nat.eq_zero_or_pos j with z | z
    · subst z
      refine ⟨s, hs, ?_, ?_⟩
      · rw [q3 0 (by omega), gA_sA, if_pos rfl, us]
      · rw [m2 (12 * i + 0) (by omega)]
        exact us
    · obtain ⟨v, v1, v2⟩ := dv_lt (sd s0 j)
      exact ⟨v, v1, by rw [q4 j (by omega) hj, v2], by rw [m3 j (by omega) hj, v2]⟩
theorem pair_part (t : Nat) (k n : ST) (a0 : Int32) (a1 : Int32) (a2 : Int32) (a3 : Int64) (ht : t < 512) (hr : Rel t k n) : PR (t + 1) (fX11_part k a0 a1 a2 a3) (fX12_part n a0 a1 a2 a3) := by
  have hr1 := rel_thr 0 hr
  unfold fX11_part fX12_part 
  simp only [nm_eq]
  generalize sI n 11 0 0 = n at hr1 ⊢
  have hr0 := rel_step hr1
  obtain ⟨d, h, kc, bc, gc, wc, pc, rc, dc, tc, sc, ic, lc, fc, ln, bn, hB, hK, hU, hG, hW, hP, hR, hD, hT, hS, hI, hL, hF, hA, hJ, hX⟩ := hr1
  obtain ⟨b1, b2, b3, b4, b5, b6⟩ := id hB
  obtain ⟨k1, k2, k3, k4, k5, k6, k7, k8, k9⟩ := id hK
  obtain ⟨p1, p2, p3, p4, p5, p6, p7, p8⟩ := id hP
  rw [sX1_knows k2 (by omega), p3, ob_some]
  by_cases hc : pc = 40
  · subst hc
    rw [if_pos (show (40 : Int32) ≤ nI 40 by decide)]
    by_cases h1 : inb a0 kc = true
    case neg =>
      rw [if_neg h1]
      exact PR_mk hr0
    rw [if_pos h1, set_of b5 b4, ob_some]
    by_cases h2 : in1 a1 1 (2 ^ h - 1) = true
    case neg =>
      rw [if_neg h2]
      exact PR_mk hr0
    rw [if_pos h2]
    by_cases h3 : a2 < 1
    · rw [if_pos h3]
      exact PR_mk hr0
    rw [if_neg h3, bc_eq, ob_some]
    by_cases h4 : a2 ≤ bcJ (bcC (bcB (bcA a1)))
    case neg =>
      rw [if_neg h4]
      exact PR_mk hr0
    rw [if_pos h4, add_full p2, ob_some, if_pos rfl]
    exact PR_mk hr0
  have hc : pc < 40 := by omega
  rw [if_neg (show ¬ (40 : Int32) ≤ nI pc from nI_ge (b := 40) hc (by decide)), sX12_isKey k3 (by omega), ob_some]
  by_cases h1 : inb a0 kc = true
  case neg =>
    rw [if_neg h1, if_neg h1]
    exact PR_mk hr0
  rw [if_pos h1, if_pos h1, set_of b5 b4, are_of b6 b4, ob_some, ob_some]
  by_cases h2 : in1 a1 1 (2 ^ h - 1) = true
  case neg =>
    rw [if_neg h2, if_neg h2]
    exact PR_mk hr0
  rw [if_pos h2, if_pos h2]
  obtain ⟨a, ha, rfl⟩ := inb_of h1 (by omega)
  have hp := pow_le12 b4
  obtain ⟨S, S1, S2, rfl⟩ := in1_of h2 (by omega)
  have hpos : 0 < 2 ^ h := Nat.two_pow_pos h
  rw [bc_of k (show S < 4096 by omega), bc_of n (show S < 4096 by omega), ob_some, ob_some]
  have hpc := pcn_le S 12
  rw [show fX12_isIn n a2 1 (nI (pcn S 12)) = some (in1 a2 1 (pcn S 12), n) from isIn_nI n a2 1 (pcn S 12) (by decide) (by omega), ob_some]
  by_cases h3 : in1 a2 1 (pcn S 12) = true
  · obtain ⟨w, w1, w2, rfl⟩ := in1_of h3 (by omega)
    rw [if_neg (show ¬ nI w < 1 from nI_nlt (b := 1) w1 (by omega)), if_pos (nI_le w2 (by omega)), if_pos h3, add_of p2 hc, ob_some, if_neg (nI_ne_m1 (by omega))]
    obtain ⟨⟨s, s0, s1, s2⟩, _⟩ := k9 a ha
    obtain ⟨k', n', e1, e2, e3⟩ := part_end a3 hc ha S1 (by omega) w1 w2 s1 s2 hB hK hU (hG.mono (Nat.le_succ t) (Nat.le_refl _) (Nat.le_refl _) (Nat.le_refl _)) hW hP hR hD hT hS hI hL hF hA hJ hX
    have f7 : inb (nI a) 40 = true := inb_nI (by omega) (by decide)
    have f8 : ix (nI a) = a := ix_nI (by omega)
    rw [f7, ck_true, f8, b2, show gA (addP k pc (nI a) (nI S) (nI w) (nI d)) 0 a = nI s from s2, e1, e2, ob_some, ob_some]
    exact PR_mk e3
  · rw [if_neg h3]
    by_cases h4 : a2 < 1
    · rw [if_pos h4]
      exact PR_mk hr0
    · rw [if_neg h4, if_neg]
      · exact PR_mk hr0
      · intro q
        apply h3
        rw [in1_iff]
        have z1 := Int32.le_iff_toInt_le.mp q
        have z2 := Int32.le_iff_toInt_le.mp (Int32.not_lt.mp h4)
        rw [nI_toInt (by omega)] at z1
        have z3 : (1 : Int32).toInt = 1 := by decide
        omega
theorem pair_again (t : Nat) (k n : ST) (a0 : Int32) (a1 : Int64) (ht : t < 512) (hr : Rel t k n) : PR (t + 1) (fX11_again k a0 a1) (fX12_again n a0 a1) := by
  have hr1 := rel_thr 0 hr
  unfold fX11_again fX12_again 
  simp only [nm_eq]
  generalize sI n 11 0 0 = n at hr1 ⊢
  have hr0 := rel_step hr1
  obtain ⟨d, h, kc, bc, gc, wc, pc, rc, dc, tc, sc, ic, lc, fc, ln, bn, hB, hK, hU, hG, hW, hP, hR, hD, hT, hS, hI, hL, hF, hA, hJ, hX⟩ := hr1
  obtain ⟨b1, b2, b3, b4, b5, b6⟩ := id hB
  obtain ⟨k1, k2, k3, k4, k5, k6, k7, k8, k9⟩ := id hK
  obtain ⟨p1, p2, p3, p4, p5, p6, p7, p8⟩ := id hP
  unfold fX3_inForce
  rw [sX3_knows p2 (by omega), p3, ob_some]
  by_cases h1 : inb a0 pc = true
  case neg =>
    rw [if_neg h1, ob_some, if_neg (by decide)]
    by_cases hc : nI pc = 40
    · rw [if_pos hc]
      exact PR_mk hr0
    · rw [if_neg hc, sX12_isParting p3 (by omega), ob_some, if_neg h1]
      exact PR_mk hr0
  rw [if_pos h1]
  obtain ⟨i, hi, rfl⟩ := inb_of h1 (by omega)
  obtain ⟨⟨a, ha, c1⟩, ⟨S, w, c2, c3, c4, c5, c6, c7, c8⟩, ⟨e, he, c9⟩, c10⟩ := p8 i hi
  have f1 : inb (nI i) 40 = true := inb_nI (by omega) (by decide)
  have f2 : ix (nI i) = i := ix_nI (by omega)
  simp only [f1, f2, ck_true, b2, c9, nI_nlt he (show d < 2 ^ 31 by omega), if_false]
  rcases c10 with ⟨x1, x2⟩ | ⟨e', x0, x1, x2⟩
  case inr =>
    rw [x1, if_neg (nI_ne_m1 (by omega)), if_pos (nI_le x0 (by omega)), ob_some, if_neg (by decide)]
    by_cases hc : nI pc = 40
    · rw [if_pos hc]
      exact PR_mk hr0
    · rw [if_neg hc, sX12_isParting p3 (by omega), ob_some, if_pos h1, x2, if_neg (fun z => by have := (nI_eq (b := 9999) (by omega) (by decide)).mp z; omega)]
      exact PR_mk hr0
  rw [x1, if_pos rfl, ob_some, if_pos rfl]
  by_cases hc : pc = 40
  · subst hc
    rw [if_pos (show nI 40 = 40 from rfl), add_full p2, ob_some, if_pos rfl]
    exact PR_mk hr0
  have hc : pc < 40 := by omega
  rw [if_neg (fun z => by have := (nI_eq (b := 40) (by omega) (by decide)).mp z; omega), sX12_isParting p3 (by omega), ob_some, if_pos h1, x2, if_pos rfl, add_of p2 hc, ob_some, if_neg (nI_ne_m1 (by omega)), b2]
  have f3 : gI (addP k pc (gA k 13 i) (gA k 14 i) (gA k 15 i) (nI d)) 10 0 = nI d := b2
  have f4 : inb (nI a) 40 = true := inb_nI (by omega) (by decide)
  have f5 : ix (nI a) = a := ix_nI (by omega)
  obtain ⟨⟨s, s0, s1, s2⟩, _⟩ := k9 a ha
  rw [f3, b3, addP_17 _ _ _ _ _ _ _ _ (by omega), c1, c4, c7, f4, ck_true, f5]
  have hP2 : gPart pc kc h d (sA k 17 i (nI d)) (sA n 118 i (nI d)) := by
    refine ⟨p1, p2, p3, p4, p5, p6, p7, ?_⟩
    intro j hj
    obtain ⟨y1, ⟨S', w', y2, y3, y4, y5, y6, y7, y8⟩, y9, y10⟩ := p8 j hj
    refine ⟨y1, ⟨S', w', y2, y3, y4, y5, y6, y7, fun q hq => ?_⟩, y9, ?_⟩
    · rw [row_sA _ _ _ _ _ (by decide)]
      exact y8 q hq
    · show eqE d (upd (gA k 17) i (nI d) j) (upd (gA n 118) i (nI d) j)
      by_cases z : j = i
      · subst z
        rw [us, us]
        exact Or.inr ⟨d, Nat.le_refl d, rfl, rfl⟩
      · rw [un z, un z]
        exact y10
  obtain ⟨k', n', e1, e2, e3⟩ := part_end (k := sA k 17 i (nI d)) (n := sA n 118 i (nI d)) a1 hc ha c2 c3 c5 c6 s1 s2 hB hK hU (hG.mono (Nat.le_succ t) (Nat.le_refl _) (Nat.le_refl _) (Nat.le_refl _)) hW hP2 hR hD hT hS hI hL hF hA hJ hX
  have q1 : gA (sA n 118 i (nI d)) 114 i = nI a := by rw [← c1, ← p4]; rfl
  have q2 : gA (sA n 118 i (nI d)) 115 i = nI S := by rw [← c4, ← p5]; rfl
  have q3 : gA (sA n 118 i (nI d)) 116 i = nI w := by rw [← c7, ← p6]; rfl
  rw [q1, q2, q3, show gA (addP (sA k 17 i (nI d)) pc (nI a) (nI S) (nI w) (nI d)) 0 a = nI s from s2, e1, e2, ob_some, ob_some]
  exact PR_mk e3
