/-- sums over the bits of a set, and over a list of places -/
def sumS (F : Nat → Nat) (S : Nat) : Nat → Nat
  | 0 => 0
  | m + 1 => sumS F S m + (if S.testBit m then F m else 0)
def sumH (F : Nat → Nat) (hs : Nat → Nat) : Nat → Nat
  | 0 => 0
  | b + 1 => sumH F hs b + F (hs b)
def setH (hs : Nat → Nat) : Nat → Nat
  | 0 => 0
  | b + 1 => setH hs b ||| 2 ^ hs b
theorem sumS_zero (F : Nat → Nat) : ∀ m, sumS F 0 m = 0
  | 0 => rfl
  | m + 1 => by
    unfold sumS
    rw [sumS_zero F m, Nat.zero_testBit]
    rfl
theorem sumS_cong {F : Nat → Nat} {S T : Nat} : ∀ {m : Nat}, (∀ i, i < m → S.testBit i = T.testBit i) → sumS F S m = sumS F T m
  | 0, _ => rfl
  | m + 1, h => by
    unfold sumS
    rw [sumS_cong (fun i hi => h i (by omega)), h m (by omega)]
theorem sumS_set {F : Nat → Nat} {S x : Nat} (hx : S.testBit x = false) : ∀ {m : Nat}, x < m → sumS F (S ||| 2 ^ x) m = sumS F S m + F x
  | 0, h => absurd h (Nat.not_lt_zero x)
  | m + 1, h => by
    unfold sumS
    rw [fb_bit_set]
    rcases Nat.lt_or_ge x m with q | q
    · rw [sumS_set hx q]
      have : decide (m = x) = false := decide_eq_false (by omega)
      rw [this, Bool.or_false]
      omega
    · have e : x = m := by omega
      subst e
      have e2 : sumS F (S ||| 2 ^ x) x = sumS F S x := sumS_cong (fun i hi => by rw [fb_bit_set, decide_eq_false (by omega : ¬ i = x), Bool.or_false])
      rw [e2, hx]
      simp
theorem setH_bit (hs : Nat → Nat) (x : Nat) : ∀ b, (setH hs b).testBit x = true ↔ ∃ i, i < b ∧ hs i = x
  | 0 => by
    unfold setH
    rw [Nat.zero_testBit]
    exact ⟨(fun z => by cases z), fun ⟨i, hi, _⟩ => absurd hi (Nat.not_lt_zero i)⟩
  | b + 1 => by
    unfold setH
    rw [fb_bit_set, Bool.or_eq_true, setH_bit hs x b, decide_eq_true_iff]
    constructor
    · rintro (⟨i, hi, e⟩ | e)
      · exact ⟨i, by omega, e⟩
      · exact ⟨b, by omega, e.symm⟩
    · rintro ⟨i, hi, e⟩
      rcases Nat.lt_or_ge i b with q | q
      · exact Or.inl ⟨i, q, e⟩
      · have : i = b := by omega
        subst this
        exact Or.inr e.symm
theorem setH_lt (hs : Nat → Nat) (m : Nat) : ∀ b, (∀ i, i < b → hs i < m) → setH hs b < 2 ^ m
  | 0, _ => Nat.two_pow_pos m
  | b + 1, h => Nat.or_lt_two_pow (setH_lt hs m b (fun i hi => h i (by omega))) (Nat.pow_lt_pow_right (by decide) (h b (by omega)))
theorem sum_same (F : Nat → Nat) (hs : Nat → Nat) : ∀ b, (∀ i, i < b → hs i < 12) → (∀ i j, i < b → j < b → hs i = hs j → i = j) → sumS F (setH hs b) 12 = sumH F hs b
  | 0, _, _ => sumS_zero F 12
  | b + 1, h1, h2 => by
    unfold setH sumH
    have hf : (setH hs b).testBit (hs b) = false := by
      rcases hq : (setH hs b).testBit (hs b) with _ | _
      · rfl
      · obtain ⟨i, hi, e⟩ := (setH_bit hs (hs b) b).mp hq
        have := h2 i b (by omega) (by omega) e
        omega
    rw [sumS_set hf (h1 b (by omega)), sum_same F hs b (fun i hi => h1 i (by omega)) (fun i j hi hj => h2 i j (by omega) (by omega))]
/-- the number of a cell -/
def vN (a : Int32) : Nat := a.toInt.toNat
theorem vN_nI {v : Nat} (h : v < 2 ^ 31) : vN (nI v) = v := by
  unfold vN
  rw [nI_toInt h]
  rfl
theorem join_K {k : ST} {S : Nat} (hS : S < 4096) (e : gI k 10 3 = nI S) (H : ∀ x, x < 12 → S.testBit x = true → ∃ v, v < 1019 ∧ gA k 57 x = nI v) (cont : Int32 → Int32 → ST → Option (Int32 × ST)) :
    ∀ (r g x : Nat), x + r = 12 → r ≤ g → lpX11_join_13 (g + 1) (nI (sumS (fun x => vN (gA k 57 x) * wt S x) S x % 1019)) (nI x) k cont = cont (nI (sumS (fun x => vN (gA k 57 x) * wt S x) S 12 % 1019)) (nI 12) k := by
  intro r
  induction r with
  | zero =>
    intro g x hx _
    have : x = 12 := by omega
    subst this
    rw [lpX11_join_13, if_pos (show (12 : Int32) ≤ nI 12 by decide)]
  | succ r ih =>
    intro g x hx hg
    obtain ⟨g, rfl⟩ : ∃ z, g = z + 1 := ⟨g - 1, by omega⟩
    have hi := ih g (x + 1) (by omega) (by omega)
    rw [lpX11_join_13, if_neg (n12 (by omega)), e, hasBit_of k (by omega) (by omega), ob_some, nI_1]
    by_cases hb : S.testBit x = true
    · obtain ⟨v, v1, v2⟩ := H x (by omega) hb
      have l1 := wt_lt S x
      have l2 : sumS (fun x => vN (gA k 57 x) * wt S x) S x % 1019 < 1019 := Nat.mod_lt _ (by decide)
      have l3 : v * wt S x % 1019 < 1019 := Nat.mod_lt _ (by decide)
      rw [if_pos hb, inb_nI (show x < 12 by omega) (by decide), ck_true, ix_nI (by omega), e, weight_K k (by omega) (by omega), ob_some, v2, times_of k (by omega) (by omega), ob_some, sum_of k (by omega) (by omega), ob_some, Nat.mod_add_mod, Nat.add_mod_mod]
      have e1 : sumS (fun x => vN (gA k 57 x) * wt S x) S (x + 1) = sumS (fun x => vN (gA k 57 x) * wt S x) S x + v * wt S x := by
        show sumS _ S x + (if S.testBit x = true then vN (gA k 57 x) * wt S x else 0) = _
        rw [if_pos hb, v2, vN_nI (by omega)]
      rw [e1] at hi
      exact hi
    · rw [if_neg hb]
      have e1 : sumS (fun x => vN (gA k 57 x) * wt S x) S (x + 1) = sumS (fun x => vN (gA k 57 x) * wt S x) S x := by
        show sumS _ S x + (if S.testBit x = true then vN (gA k 57 x) * wt S x else 0) = _
        rw [if_neg hb, Nat.add_zero]
      rw [e1] at hi
      exact hi
theorem join_M1 {n : ST} {bn : Nat} {hs : Nat → Nat} (hb : bn ≤ 12) (e : gI n 11 31 = nI bn) (H : ∀ i, i < bn → hs i < 12 ∧ gA n 120 i = nI (hs i)) (cont : Int32 → Int32 → ST → Option (Int32 × ST)) :
    ∀ (r g i : Nat), i + r = bn → r ≤ g → lpX12_join_18 (g + 1) (nI (setH hs i)) (nI i) n cont = cont (nI (setH hs bn)) (nI bn) n := by
  intro r
  induction r with
  | zero =>
    intro g i hi _
    have : i = bn := by omega
    subst this
    rw [lpX12_join_18, e, if_pos (nI_le (by omega) (by omega))]
  | succ r ih =>
    intro g i hi hg
    obtain ⟨g, rfl⟩ : ∃ z, g = z + 1 := ⟨g - 1, by omega⟩
    obtain ⟨h1, h2⟩ := H i (by omega)
    rw [lpX12_join_18, e, if_neg (nI_ge (by omega) (by omega)), inb_nI (show i < 12 by omega) (by decide), ck_true, nm_eq, ix_nI (by omega), h2, shl1 _ (by omega), fa_or, nI_1]
    exact ih g (i + 1) (by omega) (by omega)
theorem join_M2 {n : ST} {bn S : Nat} {hs vs : Nat → Nat} (hb : bn ≤ 12) (hS : S < 4096) (e : gI n 11 31 = nI bn) (H : ∀ i, i < bn → hs i < 12 ∧ gA n 120 i = nI (hs i) ∧ vs (hs i) < 1019 ∧ gA n 121 i = nI (vs (hs i))) (cont : Int32 → Int32 → ST → Option (Int32 × ST)) :
    ∀ (r g i : Nat), i + r = bn → r ≤ g → lpX12_join_47 (nI S) (g + 1) (nI (sumH (fun x => vs x * wt S x) hs i % 1019)) (nI i) n cont = cont (nI (sumH (fun x => vs x * wt S x) hs bn % 1019)) (nI bn) n := by
  intro r
  induction r with
  | zero =>
    intro g i hi _
    have : i = bn := by omega
    subst this
    rw [lpX12_join_47, e, if_pos (nI_le (by omega) (by omega))]
  | succ r ih =>
    intro g i hi hg
    obtain ⟨g, rfl⟩ : ∃ z, g = z + 1 := ⟨g - 1, by omega⟩
    obtain ⟨h1, h2, h3, h4⟩ := H i (by omega)
    have l1 := wt_lt S (hs i)
    have l2 : sumH (fun x => vs x * wt S x) hs i % 1019 < 1019 := Nat.mod_lt _ (by decide)
    have l3 : vs (hs i) * wt S (hs i) ≤ 1018 * 1018 := Nat.mul_le_mul (by omega) (by omega)
    rw [lpX12_join_47, e, if_neg (nI_ge (by omega) (by omega)), inb_nI (show i < 12 by omega) (by decide), ck_true, ck_true, ix_nI (by omega), h2, weight_M n (by omega) h1, ob_some, nm_eq, h4, pk_mul, show j_rem (nI (sumH (fun x => vs x * wt S x) hs i % 1019) + nI (vs (hs i) * wt S (hs i))) 1019 = nI ((sumH (fun x => vs x * wt S x) hs i % 1019 + vs (hs i) * wt S (hs i)) % 1019) from rem_add (m := 1019) (by omega) (by omega) (by decide) (by decide), nI_1, Nat.mod_add_mod]
    exact ih g (i + 1) (by omega) (by omega)
theorem pair_join (t : Nat) (k n : ST)  (ht : t < 512) (hr : Rel t k n) : PR (t + 1) (fX11_join k) (fX12_join n) := by
  have hr1 := rel_thr 0 hr
  unfold fX11_join fX12_join 
  simp only [nm_eq]
  generalize sI n 11 0 0 = n at hr1 ⊢
  have hr0 := rel_step hr1
  obtain ⟨d, h, kc, bc, gc, wc, pc, rc, dc, tc, sc, ic, lc, fc, ln, bn, hB, hK, hU, hG, hW, hP, hR, hD, hT, hS, hI, hL, hF, hA, hJ, hX⟩ := hr1
  obtain ⟨b1, b2, b3, b4, b5, b6⟩ := hB
  obtain ⟨z1, z2, S, hs, z3, z4, z5, z6, z7, z8⟩ := hJ
  have hSs : S < 4096 := Nat.lt_of_lt_of_le z3 (pow_le12 b4)
  rw [z4, z2]
  by_cases h0 : bn = 0
  · have : S = 0 := by
      rcases Nat.eq_zero_or_pos S with q | q
      · exact q
      · have := pcn_pos (S := S) (m := 12) hSs q
        omega
    subst this
    subst h0
    rw [if_pos (show nI 0 = 0 from rfl), if_pos (show nI 0 = 0 from rfl)]
    exact PR_mk hr0
  have hSs0 : S ≠ 0 := fun q => by
    rw [q] at z5
    exact h0 z5.symm
  rw [if_neg (nI_ne0 (by omega) (by omega)), if_neg (nI_ne0 (by omega) (by omega)), FU_g]
  have e1 : setH hs bn = S := Nat.eq_of_testBit_eq fun x => by
    rw [Bool.eq_iff_iff, setH_bit, z8]
  have hk := fun cont => join_K (k := k) hSs z4 (fun x hx hb => by
    obtain ⟨i, hi, e⟩ := (z8 x).mp hb
    obtain ⟨c1, c2, v, c3, c4, c5⟩ := z6 i hi
    exact ⟨v, c3, by rw [← e]; exact c5⟩) cont 12 4999 0 (by decide) (by decide)
  have hm1 := fun cont => join_M1 (n := n) (hs := hs) z1 z2 (fun i hi => ⟨by have := (z6 i hi).1; omega, (z6 i hi).2.1⟩) cont bn 4999 0 (by omega) (by omega)
  have hm2 := fun cont => join_M2 (n := n) (hs := hs) (vs := fun x => vN (gA k 57 x)) z1 hSs z2 (fun i hi => by
    obtain ⟨c1, c2, v, c3, c4, c5⟩ := z6 i hi
    refine ⟨by omega, c2, ?_, ?_⟩
    · show vN (gA k 57 (hs i)) < 1019
      rw [c5, vN_nI (by omega)]
      exact c3
    · show gA n 121 i = nI (vN (gA k 57 (hs i)))
      rw [c5, vN_nI (by omega)]
      exact c4) cont bn 4999 0 (by omega) (by omega)
  rw [e1] at hm1
  have es : sumS (fun x => vN (gA k 57 x) * wt S x) S 12 = sumH (fun x => vN (gA k 57 x) * wt S x) hs bn := by
    rw [← sum_same _ hs bn (fun i hi => by have := (z6 i hi).1; omega) z7, e1]
  rw [show ∀ cont, lpX11_join_13 (4999 + 1) 0 0 k cont = cont (nI (sumS (fun x => vN (gA k 57 x) * wt S x) S 12 % 1019)) (nI 12) k from hk]
  rw [show ∀ cont, lpX12_join_18 (4999 + 1) 0 0 n cont = cont (nI S) (nI bn) n from hm1]
  rw [show ∀ cont, lpX12_join_47 (nI S) (4999 + 1) 0 0 n cont = cont (nI (sumH (fun x => vN (gA k 57 x) * wt S x) hs bn % 1019)) (nI bn) n from hm2, es]
  exact PR_mk ⟨d, h, kc, bc, gc, wc, pc, rc, dc, tc, sc, ic, lc, fc, ln, 0, ⟨b1, b2, b3, b4, b5, b6⟩, hK, hU, hG.mono (Nat.le_succ t) (Nat.le_refl _) (Nat.le_refl _) (Nat.le_refl _), hW, gPart.fr (hP) rfl rfl rfl rfl rfl rfl rfl rfl rfl rfl rfl rfl rfl (fun i => by simp (config := {decide := true}) only [row_sA, gA_sI]), hR, hD, hT, hS, hI, hL, hF, hA, ⟨by omega, rfl, 0, hs, Nat.two_pow_pos h, rfl, by decide, fun i hi => absurd hi (Nat.not_lt_zero i), fun i j hi => absurd hi (Nat.not_lt_zero i), fun x => ⟨(fun z => by rw [Nat.zero_testBit] at z; cases z), fun ⟨i, hi, _⟩ => absurd hi (Nat.not_lt_zero i)⟩⟩, hX⟩
theorem name_lp {k n : ST} {ln : Nat} (a : Int32) (hl : ln ≤ 160) (e1 : gI k 7 1 = nI ln) (e2 : gI n 11 16 = nI ln) (H : ∀ i, i < ln → ∃ c, 1 ≤ c ∧ c < 256 ∧ gA k 43 i = nI c ∧ gA n 109 i = (nI c).toInt8.toInt32) :
    ∀ (r g i v : Nat), i + r = ln → r ≤ g → v < 1019 → ∃ u, u < 1019 ∧ (∀ cont, lpX8_nameNumber_4 (g + 1) (nI v) (nI i) k cont = cont (nI u) (nI ln) k) ∧ ∀ cont, lpX12_make_51 a (g + 1) (nI v) (nI i) n cont = cont (nI u) (nI ln) n := by
  intro r
  induction r with
  | zero =>
    intro g i v hi _ hv
    have : i = ln := by omega
    subst this
    exact ⟨v, hv, fun cont => by rw [lpX8_nameNumber_4, e1, if_pos (nI_le (by omega) (by omega))], fun cont => by rw [lpX12_make_51, e2, if_pos (nI_le (by omega) (by omega))]⟩
  | succ r ih =>
    intro g i v hi hg hv
    obtain ⟨g, rfl⟩ : ∃ z, g = z + 1 := ⟨g - 1, by omega⟩
    obtain ⟨c, c0, c1, c2, c3⟩ := H i (by omega)
    obtain ⟨u, u1, u2, u3⟩ := ih g (i + 1) ((131 * v + c) % 1019) (by omega) (by omega) (Nat.mod_lt _ (by decide))
    have e3 : j_rem (131 * nI v + nI c) 1019 = nI ((131 * v + c) % 1019) := by
      rw [show (131 : Int32) * nI v = nI (131 * v) from pk_mul 131 v]
      exact rem_add (m := 1019) (by omega) (by omega) (by decide) (by decide)
    refine ⟨u, u1, fun cont => ?_, fun cont => ?_⟩
    · rw [lpX8_nameNumber_4, e1, if_neg (nI_ge (by omega) (by omega)), inb_nI (show i < 160 by omega) (by decide), ck_true, nm_eq, ix_nI (by omega), c2, e3, nI_1]
      exact u2 cont
    · rw [lpX12_make_51, e2, if_neg (nI_ge (by omega) (by omega)), inb_nI (show i < 160 by omega) (by decide), ck_true, nm_eq, ix_nI (by omega), c3, sc_k8 c c1, e3, nI_1]
      exact u3 cont
theorem pair_make (t : Nat) (k n : ST) (a0 : Int32) (ht : t < 512) (hr : Rel t k n) : PR (t + 1) (fX11_make k a0) (fX12_make n a0) := by
  have hr1 := rel_thr 0 hr
  unfold fX11_make fX12_make 
  simp only [nm_eq]
  generalize sI n 11 0 0 = n at hr1 ⊢
  have hr0 := rel_step hr1
  obtain ⟨d, h, kc, bc, gc, wc, pc, rc, dc, tc, sc, ic, lc, fc, ln, bn, hB, hK, hU, hG, hW, hP, hR, hD, hT, hS, hI, hL, hF, hA, hJ, hX⟩ := hr1
  obtain ⟨b1, b2, b3, b4, b5, b6⟩ := hB
  obtain ⟨q1, q2, q3, q4, q5, q6, q7, q8, q9⟩ := hK
  obtain ⟨l1, l2, l3, l4⟩ := hA
  rw [sX1_knows q2 (by omega), ob_some, q3]
  by_cases h1 : inb a0 kc = true
  case neg =>
    rw [if_neg h1]
    by_cases hc : nI kc = 40
    · rw [if_pos hc]
      exact PR_mk hr0
    · rw [if_neg hc, sX12_isKey q3 (by omega), ob_some, if_neg h1]
      exact PR_mk hr0
  obtain ⟨a, ha, rfl⟩ := inb_of h1 (by omega)
  have g1 : inb (nI a) 40 = true := inb_nI (by omega) (by decide)
  have g2 : ix (nI a) = a := ix_nI (by omega)
  rw [if_pos h1, g1, ck_true, g2]
  by_cases h2 : gA k 1 a = 1
  case neg =>
    rw [if_neg h2]
    by_cases hc : nI kc = 40
    · rw [if_pos hc]
      exact PR_mk hr0
    · rw [if_neg hc, sX12_isKey q3 (by omega), ob_some, if_pos h1, ck_true, q4, if_neg h2]
      exact PR_mk hr0
  rw [if_pos h2]
  have hn : fX8_isName k = some (in1 (nI ln) 1 40, k) := by
    have z := isIn_nI k (nI ln) 1 40 (by decide) (by decide)
    unfold fX12_isIn at z
    unfold fX8_isName
    rw [← z, l2]
    rfl
  have hn2 : fX12_isIn n (gI n 11 16) 1 40 = some (in1 (nI ln) 1 40, n) := by
    rw [l3]
    exact isIn_nI n (nI ln) 1 40 (by decide) (by decide)
  rw [hn, ob_some]
  by_cases h3 : in1 (nI ln) 1 40 = true
  case neg =>
    rw [if_neg h3]
    by_cases hc : nI kc = 40
    · rw [if_pos hc]
      exact PR_mk hr0
    · rw [if_neg hc, sX12_isKey q3 (by omega), ob_some, if_pos h1, ck_true, q4, if_pos h2, hn2, ob_some, if_neg h3]
      exact PR_mk hr0
  obtain ⟨⟨s, s0, s1, s2⟩, _⟩ := q9 a ha
  obtain ⟨u, u1, u2, u3⟩ := name_lp (k := k) (n := n) (nI a) l1 l2 l3 l4 ln 4999 0 0 (by omega) (by omega) (by decide)
  have e3 : j_rem (37 * nI s + nI u) 1018 = nI ((37 * s + u) % 1018) := by
    rw [show (37 : Int32) * nI s = nI (37 * s) from pk_mul 37 s]
    exact rem_add (m := 1018) (by omega) (by omega) (by decide) (by decide)
  have e4 : (37 * s + u) % 1018 < 1018 := Nat.mod_lt _ (by decide)
  unfold fX8_nameNumber fX1_madeSecret
  rw [if_pos h3, ck_true, FU_g, show ∀ cont, lpX8_nameNumber_4 (4999 + 1) 0 0 k cont = cont (nI u) (nI ln) k from u2, ob_some, ob_some, s2, e3, nI_1]
  unfold fX1_add
  rw [q2]
  by_cases hc : kc = 40
  · have f1 : (nI kc < 40) = False := by rw [hc]; exact eq_false (by decide)
    have f2 : (nI kc = 40) = True := by rw [hc]; exact eq_true rfl
    have f3 : (40 ≤ nI kc) = True := by rw [hc]; exact eq_true (by decide)
    simp only [f1, f2, f3, q3, nm_eq, ob_some, ck_true, gI_sI, gI_sA, gA_sI, gA_sA, gL_sI, gL_sA, Nat.reduceEqDiff, eq_self, if_true, if_false, reduceIte, ite_self, Bool.false_eq_true, nI_1, nI_pred]
    exact PR_mk hr0
  have hc : kc < 40 := by omega
  have f1 : (nI kc < 40) = True := eq_true (nI_lt (b := 40) hc (by decide))
  have f2 : (nI kc = 40) = False := eq_false (fun e => Nat.ne_of_lt hc ((nI_eq (b := 40) (by omega) (by decide)).mp e))
  have f3 : (40 ≤ nI kc) = False := eq_false (nI_ge (b := 40) hc (by decide))
  have f4 : inb (nI kc) 40 = true := inb_nI hc (by decide)
  have f5 : ix (nI kc) = kc := ix_nI (by omega)
  rw [if_neg (show ¬ nI kc = 40 from fun z => by rw [f2] at z; exact z), sX12_isKey q3 (by omega), ob_some, if_pos h1, ck_true, q4, if_pos h2, hn2, ob_some, if_pos h3]
  rw [show ∀ cont, lpX12_make_51 (nI a) (4999 + 1) 0 0 n cont = cont (nI u) (nI ln) n from u3]
  unfold fX12_add
  have f6 : (nI kc = -1) = False := eq_false (nI_ne_m1 (by omega))
  simp only [f1, f3, f4, f5, f6, nm_eq, ob_some, ck_true, gI_sI, gI_sA, gA_sI, gA_sA, gL_sI, gL_sA, Nat.reduceEqDiff, eq_self, if_true, if_false, reduceIte, ite_self, Bool.false_eq_true, nI_1, nI_pred, b2, b3, b5, b6, q2, q3, g1, g2, q5, s2, e3]
  refine PR_mk ⟨d, h, kc + 1, bc, gc, wc, pc, rc, dc, tc, sc, ic, lc, fc, 0, bn, ⟨b1, b2, b3, b4, b5, b6⟩, ⟨hc, rfl, rfl, congrArg (fun f => upd f kc 2) q4, congrArg (fun f => upd f kc (nI ((37 * s + u) % 1018 + 1))) q5, congrArg (fun f => upd f kc (nI a)) q6, congrArg (fun f => upd f kc (nI d)) q7, congrArg (fun f => upd f kc (-1)) q8, ?_⟩, hU, hG.mono (Nat.le_succ t) (Nat.le_refl _) (Nat.le_succ _) (Nat.le_refl _), hW.mono (Nat.le_succ _) (Nat.le_refl _), gPart.fr (hP.mono (Nat.le_succ _) (Nat.le_refl _) (Nat.le_refl _)) rfl rfl rfl rfl rfl rfl rfl rfl rfl rfl rfl rfl rfl (fun i => by simp (config := {decide := true}) only [row_sA, gA_sI]), hR, hD, hT.mono (Nat.le_succ _) (Nat.le_refl _) (Nat.le_refl _), hS, hI.mono (Nat.le_succ _) (Nat.le_refl _), hL.mono (Nat.le_succ _), hF, ⟨by omega, rfl, rfl, fun i hi => absurd hi (Nat.not_lt_zero i)⟩, hJ, hX⟩
  show ∀ j, j < kc + 1 → (∃ s', 1 ≤ s' ∧ s' < 1019 ∧ upd (gA k 0) kc (nI ((37 * s + u) % 1018 + 1)) j = nI s') ∧ (∃ q', q' ≤ 2 ∧ upd (gA k 1) kc 2 j = nI q') ∧ (upd (gA k 1) kc 2 j = 2 → ∃ r, r < j ∧ upd (gA k 2) kc (nI a) j = nI r) ∧ (∃ e, e ≤ d ∧ upd (gA k 3) kc (nI d) j = nI e)
  refine ext1 (fun j hj => ?_) ?_
  · have e : j ≠ kc := by omega
    rw [un e, un e, un e, un e]
    exact q9 j hj
  · rw [us, us, us, us]
    exact ⟨⟨_, by omega, by omega, rfl⟩, ⟨2, by omega, rfl⟩, fun _ => ⟨a, ha, rfl⟩, ⟨d, Nat.le_refl _, rfl⟩⟩
theorem usL {f : Nat → Int64} {c : Nat} {x : Int64} : vp_updL f c x c = x := if_pos rfl
theorem unL {f : Nat → Int64} {c j : Nat} {x : Int64} (h : j ≠ c) : vp_updL f c x j = f j := if_neg h
theorem hB_cong {f g f' g' : Nat → Int32} (x y : Int32) : ∀ i, (∀ j, j < i → f j = f' j ∧ g j = g' j) → hB f g x y i = hB f' g' x y i
  | 0, _ => rfl
  | i + 1, h => by
    unfold hB
    rw [hB_cong x y i (fun j hj => h j (by omega)), (h i (by omega)).1, (h i (by omega)).2]
theorem hB_s (f g : Nat → Int32) (x y : Int32) (i : Nat) : hB f g x y (i + 1) = if f i = x ∧ g i = y then !(hB f g x y i) else hB f g x y i := rfl
/-- sorted days: those not after q lie before the others -/
theorem cut_at (F : Nat → Int32) (q : Int32) : ∀ c, (∀ i j, i ≤ j → j < c → F i ≤ F j) → ∃ p, p ≤ c ∧ (∀ i, i < p → F i ≤ q) ∧ ∀ i, p ≤ i → i < c → q < F i
  | 0, _ => ⟨0, Nat.le_refl 0, fun i hi => absurd hi (Nat.not_lt_zero i), fun i _ hi => absurd hi (Nat.not_lt_zero i)⟩
  | c + 1, h => by
    obtain ⟨p, p1, p2, p3⟩ := cut_at F q c (fun i j a b => h i j a (by omega))
    by_cases e : F c ≤ q
    · refine ⟨c + 1, Nat.le_refl _, fun i hi => ?_, fun i h1 h2 => by omega⟩
      exact Int32.le_trans (h i c (by omega) (by omega)) e
    · refine ⟨p, by omega, p2, fun i h1 h2 => ?_⟩
      rcases Nat.lt_or_ge i c with z | z
      · exact p3 i h1 z
      · have : i = c := by omega
        subst this
        exact Int32.not_le.mp e
theorem b2i_01 (b : Bool) : b2i b = 0 ∨ b2i b = 1 := by cases b <;> simp [b2i]
theorem has_lp {n : ST} {gc p : Nat} {f g : Nat → Int32} (hc : gc ≤ 512) (e : gI n 11 14 = nI gc) (e1 : gA n 104 = f) (e2 : gA n 105 = g) (q x y : Int32) (hp : p ≤ gc)
    (H1 : ∀ i, i < p → gA n 106 i ≤ q) (H2 : ∀ i, p ≤ i → i < gc → q < gA n 106 i) (H : ∀ i, i < gc → gA n 107 i = b2i (!(hB f g (f i) (g i) i))) (cont : Int32 → Int32 → ST → Option (Bool × ST)) :
    ∀ (r fu i : Nat), i + r = gc → r ≤ fu → lpX12_has_6 x y q (fu + 1) (b2i (hB f g x y (if i < p then i else p))) (nI i) n cont = cont (b2i (hB f g x y p)) (nI gc) n := by
  intro r
  induction r with
  | zero =>
    intro fu i hi _
    have : i = gc := by omega
    subst this
    rw [lpX12_has_6, e, if_pos (nI_le (by omega) (by omega)), if_neg (by omega)]
  | succ r ih =>
    intro fu i hi hf
    obtain ⟨fu, rfl⟩ : ∃ z, fu = z + 1 := ⟨fu - 1, by omega⟩
    have hi2 := ih fu (i + 1) (by omega) (by omega)
    rw [lpX12_has_6, e, if_neg (nI_ge (by omega) (by omega)), inb_nI (show i < 600 by omega) (by decide), ck_true, ck_true, ck_true, ck_true, ix_nI (by omega), e1, e2, nI_1]
    rcases Nat.lt_or_ge i p with z | z
    · rw [if_pos z]
      have z3 : ¬ q < gA n 106 i := Int32.not_lt.mpr (H1 i z)
      rw [if_neg z3, H i (by omega)]
      have e5 : (if i + 1 < p then i + 1 else p) = i + 1 := by
        by_cases z4 : i + 1 < p
        · rw [if_pos z4]
        · rw [if_neg z4]
          omega
      rw [e5] at hi2
      by_cases h1 : f i = x
      · by_cases h2 : g i = y
        · rw [if_pos h1, if_pos h2, h1, h2]
          rw [hB_s] at hi2
          rw [if_pos ⟨h1, h2⟩] at hi2
          exact hi2
        · rw [if_pos h1, if_neg h2]
          rw [hB_s] at hi2
          rw [if_neg (fun w => h2 w.2)] at hi2
          exact hi2
      · rw [if_neg h1]
        rw [hB_s] at hi2
        rw [if_neg (fun w => h1 w.1)] at hi2
        exact hi2
    · rw [if_neg (show ¬ i + 1 < p by omega)] at hi2
      rw [if_neg (show ¬ i < p by omega), if_pos (H2 i z (by omega)), ite_self, ite_self]
      exact hi2
theorem has_of {n : ST} {gc p : Nat} {f g : Nat → Int32} (hc : gc ≤ 512) (e : gI n 11 14 = nI gc) (e1 : gA n 104 = f) (e2 : gA n 105 = g) (q x y : Int32) (hp : p ≤ gc)
    (H1 : ∀ i, i < p → gA n 106 i ≤ q) (H2 : ∀ i, p ≤ i → i < gc → q < gA n 106 i) (H : ∀ i, i < gc → gA n 107 i = b2i (!(hB f g (f i) (g i) i))) : fX12_has n x y q = some (hB f g x y p, n) := by
  unfold fX12_has
  rw [FU_g]
  have h := has_lp hc e e1 e2 q x y hp H1 H2 H (fun y9 y10 k11 => if y9 = 0 then some (false, k11) else if y9 = 1 then some (true, k11) else none) gc 4999 0 (by omega) (by omega)
  have e5 : hB f g x y (if 0 < p then 0 else p) = false := by
    by_cases z : 0 < p
    · rw [if_pos z]
      rfl
    · rw [if_neg z, show p = 0 by omega]
      rfl
  rw [e5] at h
  refine Eq.trans h ?_
  cases hB f g x y p <;> rfl
theorem hasKey_of (k : ST) {b y : Nat} (hb : b < 2 ^ 64) (hy : y < 64) : fX11_hasKey k (lN b) (nI y) = some (b.testBit y, k) := by
  unfold fX11_hasKey
  have e : (j_lushr (lN b) (nI y)) &&& 1 = lN (b / 2 ^ y % 2) := wb_bit hb hy
  rw [e, Nat.testBit_eq_decide_div_mod_eq]
  have : b / 2 ^ y % 2 = 0 ∨ b / 2 ^ y % 2 = 1 := by omega
  rcases this with h | h <;> rw [h] <;> rfl
theorem lshl1 {y : Nat} (hy : y < 64) : j_lshl 1 (nI y) = lN (2 ^ y) := by
  have := wb_shl 1 hy
  rw [Nat.one_mul] at this
  exact this
theorem turn_end {t d h kc bc gc wc pc rc dc tc sc ic lc fc ln bn : Nat} {k n : ST} (ht : t < 512) {x y : Nat} (hx : x < h) (hy : y < kc)
    (hBB : gB d h k n) (hK : gKeys kc d k n) (hU : gBurn bc k n) (hG : gTurn t gc h kc d k n) (hW : gWrap wc kc d k n) (hP : gPart pc kc h d k n) (hR : gRule rc k n) (hD : gDeath dc h rc d k n) (hT : gThing tc kc rc d k n) (hS : gSay sc h tc d k n) (hI : gSig ic kc d k n) (hL : gLoan lc kc k n) (hF : gFall fc h k n) (hA : gTape ln k n) (hJ : gBench bn h k n) (hX : gFalse h k n) :
    ∃ k', fX10_turn k (nI x) (nI y) (nI d) = some (true, k') ∧ Rel (t + 1) k' (sI (sA (sA (sA (sA n 104 gc (nI x)) 105 gc (nI y)) 106 gc (nI d)) 107 gc (b2i (!(hB (gA k 50) (gA k 51) (nI x) (nI y) gc)))) 11 14 (nI (gc + 1))) := by
  obtain ⟨g1, g2, g3, g4, g5, g6, g7, g8, g9⟩ := hG
  have hh : h ≤ 12 := hBB.2.2.2.1
  have hkc : kc ≤ 40 := hK.1
  obtain ⟨b, c1, c2, c3⟩ := g9 x (by omega)
  have f1 : (nI gc < 512) = True := eq_true (nI_lt (b := 512) (by omega) (by decide))
  have f4 : inb (nI gc) 512 = true := inb_nI (by omega) (by decide)
  have f5 : ix (nI gc) = gc := ix_nI (by omega)
  have f6 : inb (nI x) 12 = true := inb_nI (by omega) (by decide)
  have f7 : ix (nI x) = x := ix_nI (by omega)
  have f8 : lN b ^^^ j_lshl 1 (nI y) = lN (b ^^^ 2 ^ y) := by rw [lshl1 (by omega), fb_xorL]
  refine ⟨sI (sA (sA (sA (sL k 49 x (lN (b ^^^ 2 ^ y))) 50 gc (nI x)) 51 gc (nI y)) 52 gc (nI d)) 9 1 (nI (gc + 1)), ?_, ?_⟩
  · unfold fX10_turn
    simp only [g2, f1, f4, f5, f6, f7, f8, c2, gI_sL, nm_eq, ob_some, ck_true, gI_sI, gI_sA, gA_sI, gA_sA, gL_sI, gL_sA, Nat.reduceEqDiff, eq_self, if_true, if_false, reduceIte, ite_self, Bool.false_eq_true, nI_1, nI_pred]
  refine ⟨d, h, kc, bc, gc + 1, wc, pc, rc, dc, tc, sc, ic, lc, fc, ln, bn, hBB, hK, hU, ?_, hW, gPart.fr (hP) rfl rfl rfl rfl rfl rfl rfl rfl rfl rfl rfl rfl rfl (fun i => by simp (config := {decide := true}) only [row_sA, gA_sI, gA_sL]), hR, hD, hT, hS, hI, hL, hF, hA, hJ, hX⟩
  refine ⟨by omega, rfl, rfl, congrArg (fun f => upd f gc (nI x)) g4, congrArg (fun f => upd f gc (nI y)) g5, congrArg (fun f => upd f gc (nI d)) g6, ?_, ?_, ?_⟩
  · show ∀ i, i < gc + 1 → (∃ x', x' < h ∧ upd (gA k 50) gc (nI x) i = nI x') ∧ (∃ y', y' < kc ∧ upd (gA k 51) gc (nI y) i = nI y') ∧ (∃ e, e ≤ d ∧ upd (gA k 52) gc (nI d) i = nI e) ∧ upd (gA n 107) gc (b2i (!(hB (gA k 50) (gA k 51) (nI x) (nI y) gc))) i = b2i (!(hB (upd (gA k 50) gc (nI x)) (upd (gA k 51) gc (nI y)) (upd (gA k 50) gc (nI x) i) (upd (gA k 51) gc (nI y) i) i))
    have hc : ∀ i, i ≤ gc → ∀ a b, hB (upd (gA k 50) gc (nI x)) (upd (gA k 51) gc (nI y)) a b i = hB (gA k 50) (gA k 51) a b i := fun i hi a b => hB_cong a b i (fun j hj => ⟨un (by omega), un (by omega)⟩)
    refine ext1 (fun i hi => ?_) ?_
    · have e : i ≠ gc := by omega
      rw [hc i (by omega), un e, un e, un e, un e]
      exact g7 i hi
    · rw [hc gc (Nat.le_refl _), us, us, us, us]
      exact ⟨⟨x, hx, rfl⟩, ⟨y, hy, rfl⟩, ⟨d, Nat.le_refl _, rfl⟩, rfl⟩
  · show ∀ i j, i ≤ j → j < gc + 1 → upd (gA k 52) gc (nI d) i ≤ upd (gA k 52) gc (nI d) j
    intro i j hij hj
    have hd : d ≤ 2000 := hBB.1
    rcases Nat.lt_or_ge j gc with q | q
    · rw [un (by omega), un (by omega)]
      exact g8 i j hij q
    · have : j = gc := by omega
      subst this
      rw [us]
      rcases Nat.lt_or_ge i j with z | z
      · rw [un (by omega)]
        obtain ⟨_, _, ⟨e, e1, e2⟩, _⟩ := g7 i z
        rw [e2]
        exact nI_le e1 (by omega)
      · rw [show i = j by omega, us]
        exact Int32.le_refl _
  · show ∀ x', x' < 12 → ∃ b', b' < 2 ^ 40 ∧ vp_updL (gL k 49) x (lN (b ^^^ 2 ^ y)) x' = lN b' ∧ ∀ y', y' < 40 → b'.testBit y' = hB (upd (gA k 50) gc (nI x)) (upd (gA k 51) gc (nI y)) (nI x') (nI y') (gc + 1)
    intro x' hx'
    have hc : ∀ a b, hB (upd (gA k 50) gc (nI x)) (upd (gA k 51) gc (nI y)) a b (gc + 1) = if nI x = a ∧ nI y = b then !(hB (gA k 50) (gA k 51) a b gc) else hB (gA k 50) (gA k 51) a b gc := fun a b => by
      show (if upd (gA k 50) gc (nI x) gc = a ∧ upd (gA k 51) gc (nI y) gc = b then !(hB (upd (gA k 50) gc (nI x)) (upd (gA k 51) gc (nI y)) a b gc) else hB (upd (gA k 50) gc (nI x)) (upd (gA k 51) gc (nI y)) a b gc) = _
      rw [us, us, hB_cong a b gc (fun j hj => ⟨un (by omega), un (by omega)⟩)]
    by_cases e : x' = x
    · subst e
      refine ⟨b ^^^ 2 ^ y, Nat.xor_lt_two_pow c1 (Nat.pow_lt_pow_right (by decide) (by omega)), usL, fun y' hy' => ?_⟩
      rw [hc, fb_bit_flip, c3 y' hy']
      by_cases e2 : y' = y
      · subst e2
        rw [if_pos ⟨rfl, rfl⟩]
        simp
      · rw [if_neg (fun z => e2 ((nI_eq (by omega) (by omega)).mp z.2).symm), decide_eq_false e2, Bool.xor_false]
    · obtain ⟨b', d1, d2, d3⟩ := g9 x' hx'
      refine ⟨b', d1, by rw [unL e]; exact d2, fun y' hy' => ?_⟩
      rw [hc, if_neg (fun z => e ((nI_eq (by omega) (by omega)).mp z.1).symm)]
      exact d3 y' hy'
theorem pair_give (t : Nat) (k n : ST) (a0 : Int32) (a1 : Int32) (ht : t < 512) (hr : Rel t k n) : PR (t + 1) (fX11_give k a0 a1) (fX12_give n a0 a1) := by
  have hr1 := rel_thr 0 hr
  unfold fX11_give fX12_give fX12_hands
  simp only [nm_eq]
  generalize sI n 11 0 0 = n at hr1 ⊢
  have hr0 := rel_step hr1
  obtain ⟨d, h, kc, bc, gc, wc, pc, rc, dc, tc, sc, ic, lc, fc, ln, bn, hBB, hK, hU, hG, hW, hP, hR, hD, hT, hS, hI, hL, hF, hA, hJ, hX⟩ := hr1
  obtain ⟨b1, b2, b3, b4, b5, b6⟩ := id hBB
  obtain ⟨q1, q2, q3, q4, q5, q6, q7, q8, q9⟩ := id hK
  obtain ⟨g1, g2, g3, g4, g5, g6, g7, g8, g9⟩ := id hG
  rw [sX11_isHolder b5 (by omega), sX12_isHolder b6 (by omega), ob_some, ob_some]
  by_cases h1 : inb a0 h = true
  case neg =>
    rw [if_neg h1, if_neg h1]
    exact PR_mk hr0
  rw [if_pos h1, if_pos h1, sX1_knows q2 (by omega), sX12_isKey q3 (by omega), ob_some, ob_some]
  by_cases h2 : inb a1 kc = true
  case neg =>
    rw [if_neg h2, if_neg h2]
    exact PR_mk hr0
  rw [if_pos h2, if_pos h2]
  obtain ⟨x, hx, rfl⟩ := inb_of h1 (by omega)
  obtain ⟨y, hy, rfl⟩ := inb_of h2 (by omega)
  obtain ⟨b, c1, c2, c3⟩ := g9 x (by omega)
  have hh : fX12_has n (nI x) (nI y) (gI n 11 1) = some (hB (gA k 50) (gA k 51) (nI x) (nI y) gc, n) := by
    rw [b3]
    refine has_of (show gc ≤ 512 by omega) g3 g4 g5 (nI d) (nI x) (nI y) (Nat.le_refl gc) (fun i hi => ?_) (fun i hi hj => by omega) (fun i hi => (g7 i hi).2.2.2)
    obtain ⟨_, _, ⟨e, e1, e2⟩, _⟩ := g7 i hi
    rw [g6, e2]
    exact nI_le e1 (by omega)
  have hn : fX10_hasNow k (nI x) (nI y) = some (hB (gA k 50) (gA k 51) (nI x) (nI y) gc, k) := by
    unfold fX10_hasNow
    rw [inb_nI (show x < 12 by omega) (by decide), ck_true, ix_nI (by omega), c2, hasKey_of k (by omega) (by omega), ob_some, c3 y (by omega)]
  obtain ⟨k', e1, e2⟩ := turn_end ht hx hy hBB hK hU hG hW hP hR hD hT hS hI hL hF hA hJ hX
  rw [hh, hn, ob_some, ob_some, b2]
  cases hv : hB (gA k 50) (gA k 51) (nI x) (nI y) gc
  · rw [hv] at e2
    have f4 : inb (nI gc) 600 = true := inb_nI (by omega) (by decide)
    have f5 : ix (nI gc) = gc := ix_nI (by omega)
    rw [if_neg (by decide), if_neg (by decide), e1, ob_some]
    simp only [g3, b3, f4, f5, nm_eq, ob_some, ck_true, gI_sI, gI_sA, gA_sI, gA_sA, gL_sI, gL_sA, Nat.reduceEqDiff, eq_self, if_true, if_false, reduceIte, ite_self, Bool.false_eq_true, nI_1, nI_pred]
    exact PR_mk e2
  · exact PR_mk hr0
theorem pair_take (t : Nat) (k n : ST) (a0 : Int32) (a1 : Int32) (ht : t < 512) (hr : Rel t k n) : PR (t + 1) (fX11_take k a0 a1) (fX12_take n a0 a1) := by
  have hr1 := rel_thr 0 hr
  unfold fX11_take fX12_take fX12_hands
  simp only [nm_eq]
  generalize sI n 11 0 0 = n at hr1 ⊢
  have hr0 := rel_step hr1
  obtain ⟨d, h, kc, bc, gc, wc, pc, rc, dc, tc, sc, ic, lc, fc, ln, bn, hBB, hK, hU, hG, hW, hP, hR, hD, hT, hS, hI, hL, hF, hA, hJ, hX⟩ := hr1
  obtain ⟨b1, b2, b3, b4, b5, b6⟩ := id hBB
  obtain ⟨q1, q2, q3, q4, q5, q6, q7, q8, q9⟩ := id hK
  obtain ⟨g1, g2, g3, g4, g5, g6, g7, g8, g9⟩ := id hG
  rw [sX11_isHolder b5 (by omega), sX12_isHolder b6 (by omega), ob_some, ob_some]
  by_cases h1 : inb a0 h = true
  case neg =>
    rw [if_neg h1, if_neg h1]
    exact PR_mk hr0
  rw [if_pos h1, if_pos h1, sX1_knows q2 (by omega), sX12_isKey q3 (by omega), ob_some, ob_some]
  by_cases h2 : inb a1 kc = true
  case neg =>
    rw [if_neg h2, if_neg h2]
    exact PR_mk hr0
  rw [if_pos h2, if_pos h2]
  obtain ⟨x, hx, rfl⟩ := inb_of h1 (by omega)
  obtain ⟨y, hy, rfl⟩ := inb_of h2 (by omega)
  obtain ⟨b, c1, c2, c3⟩ := g9 x (by omega)
  have hh : fX12_has n (nI x) (nI y) (gI n 11 1) = some (hB (gA k 50) (gA k 51) (nI x) (nI y) gc, n) := by
    rw [b3]
    refine has_of (show gc ≤ 512 by omega) g3 g4 g5 (nI d) (nI x) (nI y) (Nat.le_refl gc) (fun i hi => ?_) (fun i hi hj => by omega) (fun i hi => (g7 i hi).2.2.2)
    obtain ⟨_, _, ⟨e, e1, e2⟩, _⟩ := g7 i hi
    rw [g6, e2]
    exact nI_le e1 (by omega)
  have hn : fX10_hasNow k (nI x) (nI y) = some (hB (gA k 50) (gA k 51) (nI x) (nI y) gc, k) := by
    unfold fX10_hasNow
    rw [inb_nI (show x < 12 by omega) (by decide), ck_true, ix_nI (by omega), c2, hasKey_of k (by omega) (by omega), ob_some, c3 y (by omega)]
  obtain ⟨k', e1, e2⟩ := turn_end ht hx hy hBB hK hU hG hW hP hR hD hT hS hI hL hF hA hJ hX
  rw [hh, hn, ob_some, ob_some, b2]
  cases hv : hB (gA k 50) (gA k 51) (nI x) (nI y) gc
  · exact PR_mk hr0
  · rw [hv] at e2
    have f4 : inb (nI gc) 600 = true := inb_nI (by omega) (by decide)
    have f5 : ix (nI gc) = gc := ix_nI (by omega)
    rw [if_pos (by decide), if_neg (by decide), e1, ob_some]
    simp only [g3, b3, f4, f5, nm_eq, ob_some, ck_true, gI_sI, gI_sA, gA_sI, gA_sA, gL_sI, gL_sA, Nat.reduceEqDiff, eq_self, if_true, if_false, reduceIte, ite_self, Bool.false_eq_true, nI_1, nI_pred]
    exact PR_mk e2
