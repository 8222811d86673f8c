/-! SEVERAL -/
theorem four_1019 : 4 ^ 1019 % 2039 = 1 := by decide +kernel
theorem four_per (a : Nat) : 4 ^ (a % 1019) % 2039 = 4 ^ a % 2039 := by
  have h := Nat.div_add_mod a 1019
  conv => rhs; rw [← h, Nat.pow_add, Nat.pow_mul, Nat.mul_mod, Nat.pow_mod, four_1019, Nat.one_pow, show 1 % 2039 = 1 from rfl, Nat.one_mul, Nat.mod_mod]
theorem four_tab : ∀ e : Fin 1019, 4 ^ e.val % 2039 = 1 → e.val = 0 := by decide +kernel
theorem four_can {a e : Nat} (h : 4 ^ (a + e) % 2039 = 4 ^ a % 2039) : 4 ^ e % 2039 = 1 := by
  have h1 : 4 ^ (a + e) * 4 ^ (1018 * a) % 2039 = 4 ^ a * 4 ^ (1018 * a) % 2039 := by rw [Nat.mul_mod, h, ← Nat.mul_mod]
  rw [← Nat.pow_add, ← Nat.pow_add, show a + e + 1018 * a = 1019 * a + e by omega, show a + 1018 * a = 1019 * a by omega] at h1
  rw [← four_per (1019 * a + e), ← four_per (1019 * a), Nat.mul_add_mod, Nat.mul_mod_right, four_per] at h1
  exact h1
theorem iv_tab : ∀ a : Fin 1019, a.val ≠ 0 → a.val * a.val ^ 1017 % 1019 = 1 := by decide +kernel
theorem mul_ne0 {a b : Nat} (ha : a < 1019) (hb : b < 1019) (h1 : a ≠ 0) (h2 : b ≠ 0) : a * b % 1019 ≠ 0 := fun h => by
  have e : a * b * a ^ 1017 % 1019 = b := by
    rw [show a * b * a ^ 1017 = b * (a * a ^ 1017) by rw [Nat.mul_comm a b, Nat.mul_assoc], Nat.mul_mod, iv_tab ⟨a, ha⟩ h1, Nat.mul_one, Nat.mod_mod, Nat.mod_eq_of_lt hb]
  rw [Nat.mul_mod, h, Nat.zero_mul, Nat.zero_mod] at e
  exact h2 e.symm
theorem iv_ne0 {a : Nat} (ha : a < 1019) (h1 : a ≠ 0) : a ^ 1017 % 1019 ≠ 0 := fun h => by
  have := iv_tab ⟨a, ha⟩ h1
  rw [Nat.mul_mod] at this
  dsimp only at this
  rw [h, Nat.mul_zero, Nat.zero_mod] at this
  cases this
theorem wtF_ne0 (S : Nat) {j : Nat} (hj : j < 12) : ∀ v, v ≤ 12 → wtF S j v 1 ≠ 0
  | 0, _ => show (1 : Nat) ≠ 0 by decide
  | v + 1, hv => by
    have ih := wtF_ne0 S hj v (by omega)
    have hl := wtF_lt S j v
    show (if v = j then wtF S j v 1 else if S.testBit v then wtF S j v 1 * (v + 1) % 1019 * ((v + 1019 - j) % 1019) ^ 1017 % 1019 else wtF S j v 1) ≠ 0
    by_cases e : v = j
    · rw [if_pos e]
      exact ih
    · rw [if_neg e]
      by_cases b : S.testBit v = true
      · rw [if_pos b, ← Nat.mul_mod_mod]
        have h1 : wtF S j v 1 * (v + 1) % 1019 ≠ 0 := mul_ne0 hl (by omega) ih (by omega)
        have h2 : ((v + 1019 - j) % 1019) ^ 1017 % 1019 ≠ 0 := iv_ne0 (Nat.mod_lt _ (by decide)) (by omega)
        exact mul_ne0 (Nat.mod_lt _ (by decide)) (Nat.mod_lt _ (by decide)) h1 h2
      · rw [if_neg b]
        exact ih
theorem wt_ne0 (S : Nat) {j : Nat} (hj : j < 12) : wt S j ≠ 0 := wtF_ne0 S hj 12 (Nat.le_refl 12)
/-- the seeds and starts -/
def nxS (s : Int64) : Int64 := (s * 6364136223846793005) + 1442695040888963407
def sq (S : Nat) (s : Int64) : Nat → Int64
  | 0 => s
  | x + 1 => if S.testBit x = true then nxS (sq S s x) else sq S s x
def dr (s : Int64) : Int32 := Int64.toInt32 (j_lrem (j_lushr s 33) 1018)
def stN (S : Nat) (s : Int64) (x : Nat) : Nat := vN (dr (nxS (sq S s x))) + 1
theorem dr_of (s : Int64) : ∃ v, v < 1018 ∧ dr s = nI v := dv_of s 1018 (by decide) (by decide)
theorem stN_of (S : Nat) (s : Int64) (x : Nat) : stN S s x < 1019 ∧ dr (nxS (sq S s x)) + 1 = nI (stN S s x) := by
  obtain ⟨v, v1, v2⟩ := dr_of (nxS (sq S s x))
  unfold stN
  rw [v2, vN_nI (by omega), nI_1]
  exact ⟨by omega, rfl⟩
def prS (S : Nat) (s : Int64) : Nat → Nat
  | 0 => 1
  | x + 1 => if S.testBit x = true then prS S s x * (4 ^ stN S s x % 2039) % 2039 else prS S s x
theorem prS_lt (S : Nat) (s : Int64) : ∀ x, prS S s x < 2039
  | 0 => show 1 < 2039 by decide
  | x + 1 => by
    have := prS_lt S s x
    unfold prS
    split
    · exact Nat.mod_lt _ (by decide)
    · exact this
theorem prS_skip {S h : Nat} {s : Int64} (hS : S < 2 ^ h) : ∀ r, prS S s (h + r) = prS S s h
  | 0 => rfl
  | r + 1 => by
    rw [show h + (r + 1) = (h + r) + 1 by omega]
    show (if S.testBit (h + r) = true then _ else prS S s (h + r)) = _
    rw [if_neg (by rw [Nat.testBit_lt_two_pow (Nat.lt_of_lt_of_le hS (Nat.pow_le_pow_right (by decide) (by omega)))]; decide), prS_skip hS r]
theorem starts_K {k : ST} {S : Nat} (hS : S < 4096) (s : Int64) : ∀ (r g x : Nat) (z : ST), x + r = 12 → r ≤ g → isS k z → (∀ y, y < x → S.testBit y = true → gA z 42 y = nI (stN S s y)) →
    ∃ z', lpX7_drawStarts_9 (nI S) s (g + 1) (nI (prS S s x)) (sq S s x) (nI x) z (fun y21 y22 y23 k24 => some (y21, k24)) = some (nI (prS S s 12), z') ∧ isS k z' ∧ ∀ y, y < 12 → S.testBit y = true → gA z' 42 y = nI (stN S s y) := by
  intro r
  induction r with
  | zero =>
    intro g x z hx _ hz hy
    have : x = 12 := by omega
    subst this
    exact ⟨z, by rw [lpX7_drawStarts_9, if_pos (show (12 : Int32) ≤ nI 12 by decide)], hz, hy⟩
  | succ r ih =>
    intro g x z hx hg hz hy
    obtain ⟨g, rfl⟩ : ∃ z, g = z + 1 := ⟨g - 1, by omega⟩
    have l1 := prS_lt S s x
    obtain ⟨l2, l3⟩ := stN_of S s x
    have l4 : 4 ^ stN S s x % 2039 < 2039 := Nat.mod_lt _ (by decide)
    rw [lpX7_drawStarts_9, if_neg (n12 (by omega)), hasBit_of z (by omega) (by omega), ob_some, nI_1]
    by_cases b : S.testBit x = true
    · rw [if_pos b]
      unfold fX0_nextSeed fX0_start
      rw [ob_some, ob_some, inb_nI (show x < 12 by omega) (by decide), ck_true, nm_eq, ck_true, ix_nI (by omega), show Int64.toInt32 (j_lrem (j_lushr ((sq S s x * 6364136223846793005) + 1442695040888963407) 33) 1018) + 1 = nI (stN S s x) from l3, gA_sA, if_pos rfl, us, four_K _ (by omega), ob_some, product_of _ (by omega) (by omega), ob_some]
      obtain ⟨z', e1, e2, e3⟩ := ih g (x + 1) (sA z 42 x (nI (stN S s x))) (by omega) (by omega) (hz.sA x _ (r := 42) rfl) (fun y hy1 hy2 => by
        rw [gA_sA, if_pos rfl]
        by_cases e : y = x
        · rw [e, us]
        · rw [un e]
          exact hy y (by omega) hy2)
      refine ⟨z', ?_, e2, e3⟩
      rw [show prS S s (x + 1) = prS S s x * (4 ^ stN S s x % 2039) % 2039 from if_pos b, show sq S s (x + 1) = nxS (sq S s x) from if_pos b] at e1
      exact e1
    · rw [if_neg b]
      obtain ⟨z', e1, e2, e3⟩ := ih g (x + 1) z (by omega) (by omega) hz (fun y hy1 hy2 => by
        by_cases e : y = x
        · rw [e] at hy2
          exact absurd hy2 b
        · exact hy y (by omega) hy2)
      refine ⟨z', ?_, e2, e3⟩
      rw [show prS S s (x + 1) = prS S s x from if_neg b, show sq S s (x + 1) = sq S s x from if_neg b] at e1
      exact e1
theorem starts_M {h : Nat} {n : ST} {S : Nat} (b6 : gI n 11 12 = nI h) (hh : h ≤ 12) (hS : S < 2 ^ h) (s : Int64) (v1 v3 v9 : Int32) (cont : Int64 → Int32 → Int32 → ST → Option (Int32 × ST)) : ∀ (r g x : Nat), x + r = h → r ≤ g →
    lpX12_several_105 v1 (nI S) v3 s v9 (g + 1) (sq S s x) (nI (prS S s x)) (nI x) n cont = cont (sq S s h) (nI (prS S s 12)) (nI h) n := by
  have hS2 : S < 4096 := Nat.lt_of_lt_of_le hS (pow_le12 hh)
  intro r
  induction r with
  | zero =>
    intro g x hx _
    have : x = h := by omega
    subst this
    have := prS_skip (s := s) hS (12 - x)
    rw [show x + (12 - x) = 12 by omega] at this
    rw [lpX12_several_105, b6, if_pos (nI_le (by omega) (by omega)), this]
  | succ r ih =>
    intro g x hx hg
    obtain ⟨g, rfl⟩ : ∃ z, g = z + 1 := ⟨g - 1, by omega⟩
    have hi := ih g (x + 1) (by omega) (by omega)
    have l1 := prS_lt S s x
    obtain ⟨l2, l3⟩ := stN_of S s x
    have l4 : 4 ^ stN S s x % 2039 < 2039 := Nat.mod_lt _ (by decide)
    rw [lpX12_several_105, b6, if_neg (nI_ge (by omega) (by omega)), ifeq (bitM_0 (show x < 31 by omega) (show S < 2 ^ 31 by omega)), nI_1]
    by_cases b : S.testBit x = true
    · rw [if_neg (fun w => w b)]
      unfold fX12_next fX12_drawn
      rw [ob_some, ck_of (by decide), ob_some, show Int64.toInt32 (j_lrem (j_lushr ((sq S s x * 6364136223846793005) + 1442695040888963407) 33) (Int32.toInt64 1018)) + 1 = nI (stN S s x) from l3, four_M n (by omega), ob_some, show j_rem (nI (prS S s x) * nI (4 ^ stN S s x % 2039)) 2039 = nI (prS S s x * (4 ^ stN S s x % 2039) % 2039) from rem_mul (m := 2039) (by omega) (by omega) (by decide) (by decide)]
      rw [show prS S s (x + 1) = prS S s x * (4 ^ stN S s x % 2039) % 2039 from if_pos b, show sq S s (x + 1) = nxS (sq S s x) from if_pos b] at hi
      exact hi
    · rw [if_pos b]
      rw [show prS S s (x + 1) = prS S s x from if_neg b, show sq S s (x + 1) = sq S s x from if_neg b] at hi
      exact hi
theorem part_of {pc kc h d i x : Nat} {k n : ST} (hP : gPart pc kc h d k n) (hi : i < pc) (hx : x < 12) : ∃ u, u < 1019 ∧ fX3_partOf k (nI i) (nI x) = some (nI u, k) ∧ fX12_pieceOf n (nI i) (nI x) = some (nI u, n) := by
  obtain ⟨p1, p2, p3, p4, p5, p6, p7, p8⟩ := hP
  obtain ⟨_, ⟨S, w, s1, s2, s3, w1, w2, w3, w4⟩, _⟩ := p8 i hi
  have w5 : w ≤ 12 := Nat.le_trans w2 (pcn_le S 12)
  have e40 : inb (nI i) 40 = true := inb_nI (by omega) (by decide)
  have eix : ix (nI i) = i := ix_nI (by omega)
  unfold fX3_partOf fX12_pieceOf
  rw [e40, ck_true, ck_true, eix, p6, w3, FU_g]
  exact piece_lp (k := k) (n := n) (i := i) (x := x) (by omega) hx w5 w4 w 4999 0 (by omega) (by omega) (by decide)
theorem least_ex {P : Nat → Prop} : ∀ m, (∃ y, y < m ∧ P y) → ∃ y, y < m ∧ P y ∧ ∀ x, x < y → ¬ P x
  | 0, ⟨y, hy, _⟩ => absurd hy (Nat.not_lt_zero y)
  | m + 1, ⟨y, hy, hp⟩ => by
    by_cases e : ∃ y, y < m ∧ P y
    · obtain ⟨y, a, b, c⟩ := least_ex m e
      exact ⟨y, by omega, b, c⟩
    · exact ⟨y, hy, hp, fun x hx w => e ⟨x, by omega, w⟩⟩
/-- whether the holder's number shows as wrong -/
theorem agree_iff {st e pt : Nat} (he : e < 1019) (f : Bool) : (4 ^ ((st + e * ((pt + (if f then 1 else 0)) % 1019)) % 1019) % 2039 = 4 ^ st % 2039 * ((4 ^ pt % 2039) ^ e % 2039) % 2039) ↔ ¬ (f = true ∧ e ≠ 0) := by
  have h1 : 4 ^ st % 2039 * ((4 ^ pt % 2039) ^ e % 2039) % 2039 = 4 ^ (st + e * pt) % 2039 := by
    rw [← Nat.pow_mod, ← Nat.mul_mod, ← Nat.pow_mul, ← Nat.pow_add, Nat.mul_comm e pt]
  have h2 : (st + e * ((pt + (if f then 1 else 0)) % 1019)) % 1019 = (st + e * pt + e * (if f then 1 else 0)) % 1019 := by
    rw [Nat.add_mod, Nat.mul_mod_mod, ← Nat.add_mod, Nat.mul_add, Nat.add_assoc]
  rw [h1, h2, four_per]
  cases f
  · simp
  · simp only [if_true, Nat.mul_one, true_and]
    constructor
    · intro h z
      exact z (four_tab ⟨e, he⟩ (four_can h))
    · intro h
      have : e = 0 := Classical.byContradiction h
      rw [this, Nat.add_zero]
/-- the class takes one place -/
theorem tog_step {pc kc h d : Nat} {z n : ST} {S C F p x st pt : Nat} (hP : gPart pc kc h d z n) (hS : S < 4096) (hC : C < 1019) (hF : F < 4096) (hx : x < 12) (hst : st < 1019) (hpt : pt < 1019) (e42 : gA z 42 x = nI st) (eF : gI z 10 2 = nI F) (ept : fX3_partOf z (nI p) (nI x) = some (nI pt, z)) (X Y : Int32 → ST → Option (Int32 × ST)) :
    (ob (fX0_weight z (nI x) (nI S)) fun r13 k14 => ob (fX0_times k14 (nI C) r13) fun r16 k17 => ob (fX11_givenBy k17 (nI p) (nI x) r16) fun r19 k20 => ob (fX11_agrees k20 (nI p) (nI x) r16 r19) fun r22 k23 => if r22 = true then X r19 k23 else Y r19 k23) = if F.testBit x = true ∧ C ≠ 0 then Y (nI ((st + C * wt S x % 1019 * ((pt + (if F.testBit x then 1 else 0)) % 1019)) % 1019)) z else X (nI ((st + C * wt S x % 1019 * ((pt + (if F.testBit x then 1 else 0)) % 1019)) % 1019)) z := by
  have l1 := wt_lt S x
  have l2 : C * wt S x % 1019 < 1019 := Nat.mod_lt _ (by decide)
  have ne : C * wt S x % 1019 ≠ 0 ↔ C ≠ 0 := by
    constructor
    · intro h1 h2
      rw [h2, Nat.zero_mul] at h1
      exact h1 rfl
    · exact fun h1 => mul_ne0 hC l1 h1 (wt_ne0 S hx)
  rw [weight_K z (by omega) hx, ob_some, times_of z (by omega) (by omega), ob_some]
  generalize C * wt S x % 1019 = e at l2 ne ⊢
  have gi : fX11_givenBy z (nI p) (nI x) (nI e) = some (nI ((st + e * ((pt + (if F.testBit x then 1 else 0)) % 1019)) % 1019), z) := by
    unfold fX11_givenBy
    rw [ept, ob_some, eF, hasBit_of z (by omega) (by omega), ob_some, inb_nI (show x < 12 by omega) (by decide), ck_true]
    cases hb : F.testBit x
    · rw [if_neg (by decide), times_of z (by omega) (by omega), ob_some, ix_nI (by omega), e42, sum_of z (by omega) (Nat.lt_trans (Nat.mod_lt _ (by decide)) (by decide)), ob_some, Nat.add_mod_mod]
      simp only [Bool.false_eq_true, if_false, Nat.add_zero, Nat.mod_eq_of_lt hpt]
    · rw [if_pos rfl, show fX0_sum z (nI pt) 1 = some (nI ((pt + 1) % 1019), z) from sum_of z (b := 1) (by omega) (by decide), ob_some, ck_true, times_of z (by omega) (Nat.lt_trans (Nat.mod_lt _ (by decide)) (by decide)), ob_some, ix_nI (by omega), e42, sum_of z (by omega) (Nat.lt_trans (Nat.mod_lt _ (by decide)) (by decide)), ob_some, Nat.add_mod_mod]
      simp only [if_true]
  rw [gi, ob_some]
  have ai := agree_iff (st := st) (e := e) (pt := pt) l2 (F.testBit x)
  have lg : (st + e * ((pt + (if F.testBit x then 1 else 0)) % 1019)) % 1019 < 1019 := Nat.mod_lt _ (by decide)
  generalize (st + e * ((pt + (if F.testBit x then 1 else 0)) % 1019)) % 1019 = gvn at ai lg ⊢
  have ag : fX11_agrees z (nI p) (nI x) (nI e) (nI gvn) = some (decide (4 ^ gvn % 2039 = 4 ^ st % 2039 * ((4 ^ pt % 2039) ^ e % 2039) % 2039), z) := by
    have m1 : 4 ^ pt % 2039 < 2039 := Nat.mod_lt _ (by decide)
    have m2 : 4 ^ st % 2039 < 2039 := Nat.mod_lt _ (by decide)
    have m3 : (4 ^ pt % 2039) ^ e % 2039 < 2039 := Nat.mod_lt _ (by decide)
    have m4 : 4 ^ gvn % 2039 < 2039 := Nat.mod_lt _ (by decide)
    have m5 : 4 ^ st % 2039 * ((4 ^ pt % 2039) ^ e % 2039) % 2039 < 2039 := Nat.mod_lt _ (by decide)
    unfold fX11_agrees
    rw [ept, ob_some, four_K z (by omega), ob_some, inb_nI (show x < 12 by omega) (by decide), ck_true, ix_nI (by omega), e42, four_K z (by omega), ob_some]
    generalize 4 ^ pt % 2039 = A at *
    generalize 4 ^ st % 2039 = B at *
    rw [raise_of z (by omega) (by omega), ob_some]
    generalize A ^ e % 2039 = D at *
    rw [product_of z (by omega) (by omega), ob_some, four_K z (by omega), ob_some]
    by_cases y : 4 ^ gvn % 2039 = B * D % 2039
    · rw [if_pos (by rw [y]), decide_eq_true y]
    · rw [if_neg (fun q => y ((nI_eq (by omega) (by omega)).mp q)), decide_eq_false y]
  rw [ag, ob_some]
  by_cases y : F.testBit x = true ∧ C ≠ 0
  · rw [if_pos y, decide_eq_false (fun q => ai.mp q ⟨y.1, ne.mpr y.2⟩), if_neg (by decide)]
  · rw [if_neg y, decide_eq_true (ai.mpr (fun q => y ⟨q.1, ne.mp q.2⟩)), if_pos rfl]
/-- the sum -/
def smS (S C : Nat) (st pt : Nat → Nat) : Nat → Nat
  | 0 => 0
  | x + 1 => if S.testBit x = true then (smS S C st pt x + (st x + C * wt S x % 1019 * pt x)) % 1019 else smS S C st pt x
theorem smS_lt (S C : Nat) (st pt : Nat → Nat) : ∀ x, smS S C st pt x < 1019
  | 0 => show 0 < 1019 by decide
  | x + 1 => by
    have := smS_lt S C st pt x
    unfold smS
    split
    · exact Nat.mod_lt _ (by decide)
    · exact this
theorem smS_skip {S C h : Nat} {st pt : Nat → Nat} (hS : S < 2 ^ h) : ∀ r, smS S C st pt (h + r) = smS S C st pt h
  | 0 => rfl
  | r + 1 => by
    rw [show h + (r + 1) = (h + r) + 1 by omega]
    show (if S.testBit (h + r) = true then _ else smS S C st pt (h + r)) = _
    rw [if_neg (by rw [Nat.testBit_lt_two_pow (Nat.lt_of_lt_of_le hS (Nat.pow_le_pow_right (by decide) (by omega)))]; decide), smS_skip hS r]
theorem tog_go {pc kc h d : Nat} {z n : ST} {S C F p x : Nat} {st pt : Nat → Nat} (hP : gPart pc kc h d z n) (hS : S < 4096) (hC : C < 1019) (hF : F < 4096) (hx : x < 12) (hst : ∀ y, st y < 1019) (hpt : pt x < 1019) (e42 : S.testBit x = true → gA z 42 x = nI (st x)) (eF : gI z 10 2 = nI F) (ept : fX3_partOf z (nI p) (nI x) = some (nI (pt x), z)) (v3 v6 : Int32) (v4 : Int64) (g : Nat) (cont : Int32 → Int32 → ST → Option (Int32 × ST)) :
    lpX11_signTogether_34 (nI p) (nI S) v3 v4 v6 (nI C) (g + 1) (nI (smS S C st pt x)) (nI x) z cont = if S.testBit x = true ∧ F.testBit x = true ∧ C ≠ 0 then some ((-2) - nI x, z) else lpX11_signTogether_34 (nI p) (nI S) v3 v4 v6 (nI C) g (nI (smS S C st pt (x + 1))) (nI (x + 1)) z cont := by
  have l0 := smS_lt S C st pt x
  rw [lpX11_signTogether_34, if_neg (n12 hx), hasBit_of z (by omega) (by omega), ob_some, nI_1]
  by_cases b : S.testBit x = true
  · rw [if_pos b, tog_step hP hS hC hF hx (hst x) hpt (e42 b) eF ept (fun r19 k23 => ob (fX0_sum k23 (nI (smS S C st pt x)) r19) fun r26 k27 => lpX11_signTogether_34 (nI p) (nI S) v3 v4 v6 (nI C) g r26 (nI (x + 1)) k27 cont) (fun r19 k23 => some ((-2) - nI x, k23))]
    by_cases y : F.testBit x = true ∧ C ≠ 0
    · rw [if_pos y, if_pos ⟨b, y⟩]
    · rw [if_neg y, if_neg (show ¬ (S.testBit x = true ∧ F.testBit x = true ∧ C ≠ 0) from fun q => y q.2)]
      have e : smS S C st pt (x + 1) = (smS S C st pt x + (st x + C * wt S x % 1019 * ((pt x + (if F.testBit x then 1 else 0)) % 1019)) % 1019) % 1019 := by
        show (if S.testBit x = true then (smS S C st pt x + (st x + C * wt S x % 1019 * pt x)) % 1019 else smS S C st pt x) = _
        rw [if_pos b, Nat.add_mod_mod]
        cases hf : F.testBit x
        · simp only [Bool.false_eq_true, if_false, Nat.add_zero, Nat.mod_eq_of_lt hpt]
        · have : C = 0 := Classical.byContradiction fun q => y ⟨hf, q⟩
          rw [this, Nat.zero_mul, Nat.zero_mod, Nat.zero_mul, Nat.zero_mul]
      rw [sum_of z (by omega) (Nat.lt_trans (Nat.mod_lt _ (by decide)) (by decide)), ob_some, ← e]
  · rw [if_neg b, if_neg (fun q => b q.1), show smS S C st pt (x + 1) = smS S C st pt x from if_neg b]
theorem m230 {h : Nat} {n : ST} {S C p : Nat} {pt : Nat → Nat} {s : Int64} (b6 : gI n 11 12 = nI h) (hh : h ≤ 12) (hS : S < 2 ^ h) (hC : C < 1019) (hpt : ∀ x, x < 12 → pt x < 1019 ∧ fX12_pieceOf n (nI p) (nI x) = some (nI (pt x), n)) (v3 v8 : Int32) (cont : Int64 → Int32 → Int32 → ST → Option (Int32 × ST)) : ∀ (r g x : Nat), x + r = h → r ≤ g →
    lpX12_several_230 (nI p) (nI S) v3 s v8 (nI C) (g + 1) (sq S s x) (nI (smS S C (stN S s) pt x)) (nI x) n cont = cont (sq S s h) (nI (smS S C (stN S s) pt 12)) (nI h) n := by
  have hS2 : S < 4096 := Nat.lt_of_lt_of_le hS (pow_le12 hh)
  intro r
  induction r with
  | zero =>
    intro g x hx _
    have : x = h := by omega
    subst this
    have := smS_skip (C := C) (st := stN S s) (pt := pt) hS (12 - x)
    rw [show x + (12 - x) = 12 by omega] at this
    rw [lpX12_several_230, b6, if_pos (nI_le (by omega) (by omega)), this]
  | succ r ih =>
    intro g x hx hg
    obtain ⟨g, rfl⟩ : ∃ z, g = z + 1 := ⟨g - 1, by omega⟩
    have hi := ih g (x + 1) (by omega) (by omega)
    have l0 := smS_lt S C (stN S s) pt x
    obtain ⟨l2, l3⟩ := stN_of S s x
    obtain ⟨l4, l5⟩ := hpt x (by omega)
    have l6 := wt_lt S x
    have l7 : C * wt S x % 1019 < 1019 := Nat.mod_lt _ (by decide)
    have l8 : C * wt S x % 1019 * pt x ≤ 1018 * 1018 := Nat.mul_le_mul (by omega) (by omega)
    rw [lpX12_several_230, b6, if_neg (nI_ge (by omega) (by omega)), ifeq (bitM_0 (show x < 31 by omega) (show S < 2 ^ 31 by omega)), nI_1]
    by_cases b : S.testBit x = true
    · rw [if_neg (fun w => w b)]
      unfold fX12_next fX12_drawn
      rw [ob_some, ck_of (by decide), ob_some, weight_M n (by omega) (by omega), ob_some, l5, ob_some, nm_eq, Int32.add_assoc (nI (smS S C (stN S s) pt x)), show Int64.toInt32 (j_lrem (j_lushr ((sq S s x * 6364136223846793005) + 1442695040888963407) 33) (Int32.toInt64 1018)) + 1 = nI (stN S s x) from l3, show j_rem (nI C * nI (wt S x)) 1019 = nI (C * wt S x % 1019) from rem_mul (m := 1019) (by omega) (by omega) (by decide) (by decide), pk_mul, nI_add, show j_rem (nI (smS S C (stN S s) pt x + stN S s x) + nI (C * wt S x % 1019 * pt x)) 1019 = nI ((smS S C (stN S s) pt x + stN S s x + C * wt S x % 1019 * pt x) % 1019) from rem_add (m := 1019) (by omega) (by omega) (by decide) (by decide), Nat.add_assoc]
      rw [show smS S C (stN S s) pt (x + 1) = (smS S C (stN S s) pt x + (stN S s x + C * wt S x % 1019 * pt x)) % 1019 from if_pos b, show sq S s (x + 1) = nxS (sq S s x) from if_pos b] at hi
      exact hi
    · rw [if_pos b]
      rw [show smS S C (stN S s) pt (x + 1) = smS S C (stN S s) pt x from if_neg b, show sq S s (x + 1) = sq S s x from if_neg b] at hi
      exact hi
theorem sev_loops {pc kc h d : Nat} {z n : ST} {S C F p : Nat} {pt : Nat → Nat} {s : Int64} (hP : gPart pc kc h d z n) (b6 : gI n 11 12 = nI h) (hh : h ≤ 12) (hS : S < 2 ^ h) (hC : C < 1019) (hF : F < 2 ^ h) (eF : gI z 10 2 = nI F) (eX : ∀ x, x < 12 → gA n 108 x = b2i (F.testBit x)) (hpt : ∀ x, x < 12 → pt x < 1019 ∧ fX3_partOf z (nI p) (nI x) = some (nI (pt x), z)) (e42 : ∀ x, x < 12 → S.testBit x = true → gA z 42 x = nI (stN S s x)) (v3 v6 v9 : Int32) (v4 v4' : Int64) (cK : Int32 → Int32 → ST → Option (Int32 × ST)) (cM : Int32 → ST → Option (Int32 × ST)) :
    (∃ y, y < 12 ∧ lpX11_signTogether_34 (nI p) (nI S) v3 v4 v6 (nI C) (4999 + 1) 0 0 z cK = some ((-2) - nI y, z) ∧ lpX12_several_177 (nI p) (nI S) v3 v4 v4' v6 v9 (nI C) (4999 + 1) 0 n cM = some ((-2) - nI y, n)) ∨
    (lpX11_signTogether_34 (nI p) (nI S) v3 v4 v6 (nI C) (4999 + 1) 0 0 z cK = cK (nI (smS S C (stN S s) pt 12)) (nI 12) z ∧ ∃ v, lpX12_several_177 (nI p) (nI S) v3 v4 v4' v6 v9 (nI C) (4999 + 1) 0 n cM = cM v n) := by
  have hp12 := pow_le12 hh
  have go := fun x hx g => tog_go (F := F) (p := p) (x := x) (st := stN S s) (pt := pt) hP (show S < 4096 by omega) hC (show F < 4096 by omega) hx (fun y => (stN_of S s y).1) (hpt x hx).1 (e42 x hx) eF (hpt x hx).2 v3 v6 v4 g cK
  by_cases hbad : ∃ y, y < 12 ∧ (S.testBit y = true ∧ F.testBit y = true ∧ C ≠ 0)
  · obtain ⟨y, y1, y2, y3⟩ := least_ex 12 hbad
    refine Or.inl ⟨y, y1, ?_, ?_⟩
    · have L : ∀ (r g x : Nat), x + r = y → r ≤ g → lpX11_signTogether_34 (nI p) (nI S) v3 v4 v6 (nI C) (g + 1) (nI (smS S C (stN S s) pt x)) (nI x) z cK = some ((-2) - nI y, z) := by
        intro r
        induction r with
        | zero =>
          intro g x hx _
          have : x = y := by omega
          subst this
          rw [go x y1 g, if_pos y2]
        | succ r ih =>
          intro g x hx hg
          obtain ⟨g, rfl⟩ : ∃ z, g = z + 1 := ⟨g - 1, by omega⟩
          rw [go x (by omega) (g + 1), if_neg (y3 x (by omega))]
          exact ih g (x + 1) (by omega) (by omega)
      exact L y 4999 0 (by omega) (by omega)
    · have hyh : y < h := by
        rcases Nat.lt_or_ge y h with e | e
        · exact e
        · have := y2.1
          rw [Nat.testBit_lt_two_pow (Nat.lt_of_lt_of_le hS (Nat.pow_le_pow_right (by decide) e))] at this
          cases this
      have hC0 : ¬ nI C = 0 := fun q => y2.2.2 ((nI_eq (b := 0) (by omega) (by decide)).mp q)
      have L : ∀ (r g x : Nat), x + r = y → r ≤ g → lpX12_several_177 (nI p) (nI S) v3 v4 v4' v6 v9 (nI C) (g + 1) (nI x) n cM = some ((-2) - nI y, n) := by
        intro r
        induction r with
        | zero =>
          intro g x hx _
          have : x = y := by omega
          subst this
          rw [lpX12_several_177, b6, if_neg (nI_ge hyh (by omega)), if_neg hC0, ifeq (bitM_1 (show x < 31 by omega) (show S < 2 ^ 31 by omega)), if_pos y2.1, inb_nI (show x < 12 by omega) (by decide), ck_true, ix_nI (by omega), eX x y1, y2.2.1, if_neg (by decide)]
        | succ r ih =>
          intro g x hx hg
          obtain ⟨g, rfl⟩ : ∃ z, g = z + 1 := ⟨g - 1, by omega⟩
          have hi := ih g (x + 1) (by omega) (by omega)
          rw [lpX12_several_177, b6, if_neg (nI_ge (by omega) (by omega)), if_neg hC0, ifeq (bitM_1 (show x < 31 by omega) (show S < 2 ^ 31 by omega)), inb_nI (show x < 12 by omega) (by decide), ck_true, ix_nI (by omega), eX x (by omega), nI_1]
          by_cases b : S.testBit x = true
          · rw [if_pos b]
            cases hf : F.testBit x
            · rw [if_pos (by decide)]
              exact hi
            · exact absurd ⟨b, hf, y2.2.2⟩ (y3 x (by omega))
          · rw [if_neg b]
            exact hi
      exact L y 4999 0 (by omega) (by omega)
  · have nb : ∀ x, x < 12 → ¬ (S.testBit x = true ∧ F.testBit x = true ∧ C ≠ 0) := fun x hx q => hbad ⟨x, hx, q⟩
    refine Or.inr ⟨?_, ?_⟩
    · have L : ∀ (r g x : Nat), x + r = 12 → r ≤ g → lpX11_signTogether_34 (nI p) (nI S) v3 v4 v6 (nI C) (g + 1) (nI (smS S C (stN S s) pt x)) (nI x) z cK = cK (nI (smS S C (stN S s) pt 12)) (nI 12) z := by
        intro r
        induction r with
        | zero =>
          intro g x hx _
          have : x = 12 := by omega
          subst this
          rw [lpX11_signTogether_34, if_pos (show (12 : Int32) ≤ nI 12 by decide)]
        | succ r ih =>
          intro g x hx hg
          obtain ⟨g, rfl⟩ : ∃ z, g = z + 1 := ⟨g - 1, by omega⟩
          rw [go x (by omega) (g + 1), if_neg (nb x (by omega))]
          exact ih g (x + 1) (by omega) (by omega)
      exact L 12 4999 0 (by omega) (by omega)
    · have L : ∀ (r g x : Nat), x + r = h → r ≤ g → ∃ v, lpX12_several_177 (nI p) (nI S) v3 v4 v4' v6 v9 (nI C) (g + 1) (nI x) n cM = cM v n := by
        intro r
        induction r with
        | zero =>
          intro g x hx _
          have : x = h := by omega
          subst this
          exact ⟨nI x, by rw [lpX12_several_177, b6, if_pos (nI_le (by omega) (by omega))]⟩
        | succ r ih =>
          intro g x hx hg
          obtain ⟨g, rfl⟩ : ∃ z, g = z + 1 := ⟨g - 1, by omega⟩
          obtain ⟨v, hi⟩ := ih g (x + 1) (by omega) (by omega)
          rw [lpX12_several_177, b6, if_neg (nI_ge (by omega) (by omega)), ifeq (bitM_1 (show x < 31 by omega) (show S < 2 ^ 31 by omega)), inb_nI (show x < 12 by omega) (by decide), ck_true, ix_nI (by omega), eX x (by omega), nI_1]
          by_cases c0 : nI C = 0
          · rw [if_pos c0]
            exact ⟨nI x, rfl⟩
          · rw [if_neg c0]
            by_cases b : S.testBit x = true
            · rw [if_pos b]
              cases hf : F.testBit x
              · rw [if_pos (by decide)]
                exact ⟨v, hi⟩
              · exact absurd ⟨b, hf, fun q => c0 (by rw [q]; rfl)⟩ (nb x (by omega))
            · rw [if_neg b]
              exact ⟨v, hi⟩
      exact L h 4999 0 (by omega) (by omega)
theorem pair_several (t : Nat) (k n : ST) (a0 : Int32) (a1 : Int32) (a2 : Int32) (a3 : Int64) (ht : t < 512) (hr : Rel t k n) : PR (t + 1) (fX11_several k a0 a1 a2 a3) (fX12_several n a0 a1 a2 a3) := by
  have hr1 := rel_thr 0 hr
  unfold fX11_several fX12_several 
  simp only [nm_eq]
  generalize sI n 11 0 0 = n at hr1 ⊢
  have hr0 := rel_step hr1
  obtain ⟨d, h, kc, bc, gc, wc, pc, rc, dc, tc, sc, ic, lc, fc, ln, bn, hB, hK, hU, hG, hW, hP, hR, hD, hT, hS, hI, hL, hF, hA, hJ, hX⟩ := hr1
  obtain ⟨b1, b2, b3, b4, b5, b6⟩ := id hB
  obtain ⟨q1, q2, q3, q4, q5, q6, q7, q8, q9⟩ := id hK
  obtain ⟨t1, t2, t3, t4, t5, t6, t7, t8, t9, t10⟩ := id hT
  obtain ⟨i1, i2, i3, i4, i5, i6, i7, i8, i9⟩ := id hI
  obtain ⟨p1, p2, p3, p4, p5, p6, p7, p8⟩ := id hP
  have hp12 := pow_le12 b4
  have hpos : 0 < 2 ^ h := Nat.two_pow_pos h
  have hMp : fX12_isParting n a0 = some (inb a0 pc, n) := sX12_isParting p3 (by omega) a0
  have hMs : fX12_areHolders n a1 1 = some (in1 a1 1 (2 ^ h - 1), n) := are_of b6 b4 a1
  have hMt : fX12_isThing n a2 = some (inb a2 tc, n) := sX12_isThing t3 (by omega) a2
  by_cases h1 : inb a0 pc = true
  case neg =>
    have e : fX3_inForce k a0 (gI k 10 0) = some (false, k) := by
      unfold fX3_inForce
      rw [sX3_knows p2 (by omega), ob_some, if_neg h1]
    rw [e, ob_some, if_neg (by decide)]
    simp only [h1, hMp, ob_some, if_false, Bool.false_eq_true, ite_self]
    exact PR_mk hr0
  obtain ⟨p, hp, rfl⟩ := inb_of h1 (by omega)
  have hMf : fX12_isForce n (nI p) (nI d) = some (inF k p (nI d), n) := force_M hP hp b1 b1
  have g1 : inb (nI p) 40 = true := inb_nI (by omega) (by decide)
  have g2 : ix (nI p) = p := ix_nI (by omega)
  obtain ⟨⟨a, a1', a2'⟩, ⟨TS, w, s1, s2, s3, w1, w2, w3, _⟩, _⟩ := p8 p hp
  rw [b2, force_K hP hp, ob_some]
  by_cases h2 : inF k p (nI d) = true
  case neg =>
    simp only [h1, h2, hMp, hMf, ob_some, if_true, if_false, Bool.false_eq_true, ite_self, b3]
    exact PR_mk hr0
  rw [if_pos h2, sX9_knows t2 (by omega), ob_some]
  by_cases h3 : inb a2 tc = true
  case neg =>
    simp only [h1, h2, h3, hMp, hMf, hMs, hMt, bc_eq, g1, g2, ck_true, ob_some, if_true, if_false, Bool.false_eq_true, ite_self, b3]
    exact PR_mk hr0
  rw [if_pos h3, set_of b5 b4, ob_some]
  by_cases h4 : in1 a1 1 (2 ^ h - 1) = true
  case neg =>
    simp only [h1, h2, h3, h4, hMp, hMf, hMs, hMt, bc_eq, g1, g2, ck_true, ob_some, if_true, if_false, Bool.false_eq_true, ite_self, b3]
    exact PR_mk hr0
  obtain ⟨S, S1, S2, rfl⟩ := in1_of h4 (by omega)
  obtain ⟨i, hi, rfl⟩ := inb_of h3 (by omega)
  have hSz : S < 4096 := by omega
  rw [if_pos h4, g1, ck_true, g2, s3]
  by_cases h5 : (nI S &&& (nI TS ^^^ (-1))) = 0
  case neg =>
    unfold jbX11_several_57
    rw [if_neg h5, if_neg (show ¬ (1 : Int32) = 0 by decide)]
    simp only [h1, h2, h3, h4, h5, p5, s3, hMp, hMf, hMs, hMt, bc_eq, g1, g2, ck_true, ob_some, if_true, if_false, Bool.false_eq_true, ite_self, b3]
    exact PR_mk hr0
  have hbK := bc_of k hSz
  have hbM := bc_of n hSz
  have hpl := pcn_le S 12
  have hpl2 := pcn_le TS 12
  unfold jbX11_several_57
  rw [if_pos h5, if_pos rfl, hbK, ob_some, g1, ck_true, g2, w3]
  by_cases h6 : nI w ≤ nI (pcn S 12)
  case neg =>
    have h6' : nI (pcn S 12) < nI w := Int32.not_le.mp h6
    rw [if_neg h6]
    simp only [h1, h2, h3, h4, h5, h6', p5, p6, s3, w3, hMp, hMf, hMs, hMt, hbM, g1, g2, ck_true, ob_some, if_true, if_false, Bool.false_eq_true, ite_self, b3]
    exact PR_mk hr0
  have h6' : ¬ nI (pcn S 12) < nI w := Int32.not_lt.mpr h6
  obtain ⟨mb, m1, m2⟩ := may_of hB hK hU a1'
  rw [if_pos h6, ck_true, a2', b2, m1, ob_some]
  cases mb
  · simp only [h1, h2, h3, h4, h5, h6', p4, p5, p6, s3, w3, a2', m2, hMp, hMf, hMs, hMt, hbM, g1, g2, ck_true, ob_some, if_true, if_false, Bool.false_eq_true, ite_self, b3]
    exact PR_mk hr0
  unfold fX7_isFull
  rw [if_pos rfl, i2]
  by_cases hc : ic = 80
  · subst hc
    rw [if_neg (show ¬ nI 80 < 80 by decide), ob_some, if_pos rfl, i3, if_pos (show nI 80 = 80 from rfl)]
    exact PR_mk hr0
  have hc : ic < 80 := by omega
  rw [if_pos (show nI ic < 80 from nI_lt (b := 80) hc (by decide)), ob_some, if_neg (show ¬ false = true by decide), i3, if_neg (fun z => by have := (nI_eq (b := 80) (by omega) (by decide)).mp z; omega)]
  rw [hMp, ob_some, if_pos h1, b3, hMf, ob_some, if_pos h2, hMs, ob_some, if_pos h4, ck_true, p5, s3, if_pos h5, hbM, ob_some, ck_true, p6, w3, if_neg h6', hMt, ob_some, if_pos h3, ck_true, p4, a2', m2, ob_some, if_pos rfl]
  obtain ⟨z, y1, y2, y3⟩ := starts_K (k := k) hSz a3 12 4999 0 k (by decide) (by decide) (isS.rf k) (fun y hy => absurd hy (Nat.not_lt_zero y))
  obtain ⟨F, F1, F2, F3⟩ := id hX
  obtain ⟨⟨v, v1, v2⟩, _⟩ := t9 i hi
  have l1 := prS_lt S a3 12
  have hC : (prS S a3 12 + 7 * v) % 1019 < 1019 := Nat.mod_lt _ (by decide)
  have hPz := y2.gP hP
  have ⟨pt, hpt⟩ := Classical.axiomOfChoice (r := fun (x : Nat) (u : Nat) => x < 12 → u < 1019 ∧ fX3_partOf z (nI p) (nI x) = some (nI u, z) ∧ fX12_pieceOf n (nI p) (nI x) = some (nI u, n)) (fun x => by
    by_cases hx : x < 12
    · obtain ⟨u, hu⟩ := part_of hPz hp hx
      exact ⟨u, fun _ => hu⟩
    · exact ⟨0, fun q => absurd q hx⟩)
  have f1 : inb (nI i) 40 = true := inb_nI (by omega) (by decide)
  have f2 : ix (nI i) = i := ix_nI (by omega)
  unfold fX11_signTogether fX7_drawStarts
  rw [FU_g, show lpX7_drawStarts_9 (nI S) a3 (4999 + 1) 1 a3 0 k (fun y21 y22 y23 k24 => some (y21, k24)) = some (nI (prS S a3 12), z) from y1, ob_some, f1, ck_true, f2, y2.a 44 rfl, v2, chal_of z (by omega) (by omega), ob_some]
  rw [show ∀ cont, lpX12_several_105 (nI p) (nI S) (nI i) a3 0 (4999 + 1) a3 1 0 n cont = cont (sq S a3 h) (nI (prS S a3 12)) (nI h) n from fun cont => starts_M b6 b4 (show S < 2 ^ h by omega) a3 (nI p) (nI i) 0 cont h 4999 0 (by omega) (by omega), ck_true, t4, v2, chal_M n (by omega) (by omega), ob_some]
  generalize (prS S a3 12 + 7 * v) % 1019 = C at hC ⊢
  rcases sev_loops (z := z) (n := n) (F := F) (p := p) (pt := pt) (s := a3) hPz b6 b4 (show S < 2 ^ h by omega) hC F1 (by rw [y2.i 10 2 (by decide) (by decide)]; exact F2) F3 (fun x hx => ⟨(hpt x hx).1, (hpt x hx).2.1⟩) y3 (nI i) (nI (prS S a3 12)) 0 a3 (sq S a3 h) (fun y29 y30 k31 => ck (inb (nI p) 40) (ob (fX7_add k31 (nI (prS S a3 12)) y29 (gA k31 13 (ix (nI p))) (nI i) (gI k31 10 0)) fun r33 k34 => some (r33, k34))) (fun y55 k56 => jbX12_several_223 (nI p) (nI S) (nI i) a3 (sq S a3 h) (nI (prS S a3 12)) 0 (nI C) y55 k56) with ⟨y, e1, e2, e3⟩ | ⟨e1, vv, e2⟩
  · rw [e2, e3, ob_some]
    exact PR_mk (y2.rel hr0)
  · rw [e1, e2, g1, ck_true, g2, y2.a 13 rfl, a2', y2.i 10 0 (by decide) (by decide), b2, add7_of (by rw [y2.i 6 0 (by decide) (by decide)]; exact i2) hc, ob_some, ob_some]
    unfold jbX12_several_223
    rw [FU_g, show ∀ cont, lpX12_several_230 (nI p) (nI S) (nI i) a3 (nI (prS S a3 12)) (nI C) (4999 + 1) a3 0 0 n cont = cont (sq S a3 h) (nI (smS S C (stN S a3) pt 12)) (nI h) n from fun cont => m230 b6 b4 (show S < 2 ^ h by omega) hC (fun x hx => ⟨(hpt x hx).1, (hpt x hx).2.2⟩) (nI i) (nI (prS S a3 12)) cont h 4999 0 (by omega) (by omega), g1, ck_true, g2, p4, a2', keeps_of i3 b3 hc, ob_some]
    exact PR_mk (sig_rel _ _ (nI i) hc a1' (by rw [y2.eq]; exact hB) (by rw [y2.eq]; exact hK) (by rw [y2.eq]; exact hU) (by rw [y2.eq]; exact hG.mono (Nat.le_succ t) (Nat.le_refl _) (Nat.le_refl _) (Nat.le_refl _)) (by rw [y2.eq]; exact hW) hPz (by rw [y2.eq]; exact hR) (by rw [y2.eq]; exact hD) (by rw [y2.eq]; exact hT) (by rw [y2.eq]; exact hS) (by rw [y2.eq]; exact hI) (by rw [y2.eq]; exact hL) (by rw [y2.eq]; exact hF) (by rw [y2.eq]; exact hA) (by rw [y2.eq]; exact hJ) (by rw [y2.eq]; exact hX))
