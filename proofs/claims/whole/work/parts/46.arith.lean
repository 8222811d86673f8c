theorem rem_of {a m : Nat} (ha : a < 2 ^ 31) (h0 : 0 < m) (hm : m < 2 ^ 31) : j_rem (nI a) (nI m) = nI (a % m) := pk_rem ha h0 hm
theorem rem_mul {a b m : Nat} (ha : a < 4096) (hb : b < 4096) (h0 : 0 < m) (hm : m < 4096) : j_rem (nI a * nI b) (nI m) = nI (a * b % m) := by
  have h : a * b ≤ 4095 * 4095 := Nat.mul_le_mul (by omega) (by omega)
  rw [pk_mul, rem_of (by omega) h0 (by omega)]
theorem rem_add {a b m : Nat} (ha : a < 2 ^ 30) (hb : b < 2 ^ 30) (h0 : 0 < m) (hm : m < 4096) : j_rem (nI a + nI b) (nI m) = nI ((a + b) % m) := by
  rw [nI_add, rem_of (by omega) h0 (by omega)]
theorem product_of (k : ST) {a b : Nat} (ha : a < 4096) (hb : b < 4096) : fX0_product k (nI a) (nI b) = some (nI (a * b % 2039), k) :=
  congrArg (fun z => some (z, k)) (rem_mul (m := 2039) ha hb (by decide) (by decide))
theorem times_of (k : ST) {a b : Nat} (ha : a < 4096) (hb : b < 4096) : fX0_times k (nI a) (nI b) = some (nI (a * b % 1019), k) :=
  congrArg (fun z => some (z, k)) (rem_mul (m := 1019) ha hb (by decide) (by decide))
theorem sum_of (k : ST) {a b : Nat} (ha : a < 4096) (hb : b < 4096) : fX0_sum k (nI a) (nI b) = some (nI ((a + b) % 1019), k) :=
  congrArg (fun z => some (z, k)) (rem_add (m := 1019) (by omega) (by omega) (by decide) (by decide))
theorem shr1 {e : Nat} (he : e < 2 ^ 31) : j_shr (nI e) 1 = nI (e / 2) := pk_shrN he _ 1 (by decide)
theorem and1 {e : Nat} (he : e < 2 ^ 31) : (nI e &&& 1) = nI (e % 2) := pk_andN (by omega) 1 rfl
theorem ifeq {α : Type} {p q : Prop} [Decidable p] [Decidable q] (h : p = q) {x y : α} : (if p then x else y) = if q then x else y := by
  subst h
  congr
theorem nge0 {e : Nat} (h : 0 < e) (he : e < 2 ^ 31) : ¬ nI e ≤ 0 := by
  have : ¬ nI e ≤ nI 0 := nI_ge h he
  exact this
/-- squaring: b ^ e and the half -/
theorem sq_even {b e m : Nat} (h : e % 2 = 0) : (b * b % m) ^ (e / 2) % m = b ^ e % m := by
  rw [← Nat.pow_mod, ← Nat.pow_two, ← Nat.pow_mul]
  congr 2
  omega
theorem sq_odd {b e m : Nat} (h : e % 2 = 1) : b * (b * b % m) ^ (e / 2) % m = b ^ e % m := by
  have e1 : b ^ e = b * b ^ (2 * (e / 2)) := by
    rw [← Nat.pow_succ']
    congr 1
    omega
  rw [e1, Nat.mul_mod, ← Nat.pow_mod, ← Nat.pow_two, ← Nat.pow_mul, ← Nat.mul_mod]

theorem raise_lp (v0 v1 : Int32) (k : ST) (cont : Int32 → Int32 → Int32 → ST → Option (Int32 × ST)) (R : Int32) (hc : ∀ b e, cont R b e k = some (R, k)) :
    ∀ (f g a b e : Nat), f ≤ g → e < 2 ^ f → f ≤ 30 → a < 2039 → b < 4096 → R = nI (a * b ^ e % 2039) → lpX0_raise_7 v0 v1 (g + 1) (nI a) (nI b) (nI e) k cont = some (R, k) := by
  intro f
  induction f with
  | zero =>
    intro g a b e hg he _ ha hb hR
    have : e = 0 := by omega
    subst this
    rw [lpX0_raise_7, if_pos (show nI 0 ≤ 0 by decide)]
    rw [Nat.pow_zero, Nat.mul_one, Nat.mod_eq_of_lt ha] at hR
    rw [← hR]
    exact hc _ _
  | succ f ih =>
    intro g a b e hg he hf ha hb hR
    obtain ⟨g, rfl⟩ : ∃ z, g = z + 1 := ⟨g - 1, by omega⟩
    have hp : 2 ^ (f + 1) ≤ 2 ^ 30 := Nat.pow_le_pow_right (by decide) hf
    rw [lpX0_raise_7]
    rcases Nat.eq_zero_or_pos e with h0 | h0
    · subst h0
      rw [if_pos (show nI 0 ≤ 0 by decide)]
      rw [Nat.pow_zero, Nat.mul_one, Nat.mod_eq_of_lt ha] at hR
      rw [← hR]
      exact hc _ _
    · rw [if_neg (nge0 h0 (by omega)), and1 (by omega), product_of k hb hb, product_of k (show a < 4096 by omega) hb, shr1 (by omega)]
      simp only [ob_some, product_of k hb hb]
      rw [Nat.pow_succ] at he
      have hm : ∀ x, x % 2039 < 2039 := fun x => Nat.mod_lt x (by decide)
      have hm' : ∀ x, x % 2039 < 4096 := fun x => Nat.lt_trans (hm x) (by decide)
      have hev : e % 2 = 0 ∨ e % 2 = 1 := by omega
      rcases hev with h | h
      · rw [h, if_pos (show nI 0 = 0 from rfl)]
        refine ih g a (b * b % 2039) (e / 2) (by omega) (by omega) (by omega) ha (hm' _) ?_
        rw [hR, Nat.mul_mod a ((b * b % 2039) ^ _), sq_even h, ← Nat.mul_mod]
      · rw [h, if_neg (show ¬ nI 1 = 0 by decide)]
        refine ih g (a * b % 2039) (b * b % 2039) (e / 2) (by omega) (by omega) (by omega) (hm _) (hm' _) ?_
        rw [hR, Nat.mod_mul_mod, Nat.mul_assoc, Nat.mul_mod a (b * _), sq_odd h, ← Nat.mul_mod]

theorem inv_lp (v0 : Int32) (k : ST) (cont : Int32 → Int32 → Int32 → ST → Option (Int32 × ST)) (R : Int32) (hc : ∀ b e, cont R b e k = some (R, k)) :
    ∀ (f g a b e : Nat), f ≤ g → e < 2 ^ f → f ≤ 30 → a < 1019 → b < 4096 → R = nI (a * b ^ e % 1019) → lpX0_inverse_8 v0 (g + 1) (nI a) (nI b) (nI e) k cont = some (R, k) := by
  intro f
  induction f with
  | zero =>
    intro g a b e hg he _ ha hb hR
    have : e = 0 := by omega
    subst this
    rw [lpX0_inverse_8, if_pos (show nI 0 ≤ 0 by decide)]
    rw [Nat.pow_zero, Nat.mul_one, Nat.mod_eq_of_lt ha] at hR
    rw [← hR]
    exact hc _ _
  | succ f ih =>
    intro g a b e hg he hf ha hb hR
    obtain ⟨g, rfl⟩ : ∃ z, g = z + 1 := ⟨g - 1, by omega⟩
    have hp : 2 ^ (f + 1) ≤ 2 ^ 30 := Nat.pow_le_pow_right (by decide) hf
    rw [lpX0_inverse_8]
    rcases Nat.eq_zero_or_pos e with h0 | h0
    · subst h0
      rw [if_pos (show nI 0 ≤ 0 by decide)]
      rw [Nat.pow_zero, Nat.mul_one, Nat.mod_eq_of_lt ha] at hR
      rw [← hR]
      exact hc _ _
    · rw [if_neg (nge0 h0 (by omega)), and1 (by omega), times_of k hb hb, times_of k (show a < 4096 by omega) hb, shr1 (by omega)]
      simp only [ob_some, times_of k hb hb]
      rw [Nat.pow_succ] at he
      have hm : ∀ x, x % 1019 < 1019 := fun x => Nat.mod_lt x (by decide)
      have hm' : ∀ x, x % 1019 < 4096 := fun x => Nat.lt_trans (hm x) (by decide)
      have hev : e % 2 = 0 ∨ e % 2 = 1 := by omega
      rcases hev with h | h
      · rw [h, if_pos (show nI 0 = 0 from rfl)]
        refine ih g a (b * b % 1019) (e / 2) (by omega) (by omega) (by omega) ha (hm' _) ?_
        rw [hR, Nat.mul_mod a ((b * b % 1019) ^ _), sq_even h, ← Nat.mul_mod]
      · rw [h, if_neg (show ¬ nI 1 = 0 by decide)]
        refine ih g (a * b % 1019) (b * b % 1019) (e / 2) (by omega) (by omega) (by omega) (hm _) (hm' _) ?_
        rw [hR, Nat.mod_mul_mod, Nat.mul_assoc, Nat.mul_mod a (b * _), sq_odd h, ← Nat.mul_mod]

theorem FU_g : FU = 4999 + 1 := rfl
theorem raise_of (k : ST) {b e : Nat} (hb : b < 4096) (he : e < 4096) : fX0_raise k (nI b) (nI e) = some (nI (b ^ e % 2039), k) := by
  unfold fX0_raise
  rw [FU_g]
  exact raise_lp (nI b) (nI e) k _ (nI (b ^ e % 2039)) (fun _ _ => rfl) 12 4999 1 b e (by decide) he (by decide) (by decide) hb (by rw [Nat.one_mul])
theorem inverse_of (k : ST) {b : Nat} (hb : b < 4096) : fX0_inverse k (nI b) = some (nI (b ^ 1017 % 1019), k) := by
  unfold fX0_inverse
  rw [FU_g]
  exact inv_lp (nI b) k _ (nI (b ^ 1017 % 1019)) (fun _ _ => rfl) 12 4999 1 b 1017 (by decide) (by decide) (by decide) (by decide) hb (by rw [Nat.one_mul])
theorem four_K (k : ST) {e : Nat} (he : e < 4096) : fX0_powerOf4 k (nI e) = some (nI (4 ^ e % 2039), k) := by
  unfold fX0_powerOf4
  rw [show fX0_raise k 4 (nI e) = some (nI (4 ^ e % 2039), k) from raise_of k (b := 4) (by decide) he]
  rfl
theorem power_lp (k : ST) {b e m : Nat} (hb : b < 4096) (he : e < 4096) (h0 : 0 < m) (hm : m < 4096) :
    ∀ (r g i : Nat), i + r = e → r ≤ g → lpX12_power_5 (nI b) (nI e) (nI m) (g + 1) (nI (b ^ i % m)) (nI i) k (fun y3 y4 k5 => some (y3, k5)) = some (nI (b ^ e % m), k) := by
  intro r
  induction r with
  | zero =>
    intro g i hi _
    rw [lpX12_power_5, if_pos (nI_le (by omega) (by omega)), show i = e by omega]
  | succ r ih =>
    intro g i hi hg
    obtain ⟨g, rfl⟩ : ∃ z, g = z + 1 := ⟨g - 1, by omega⟩
    have hz : ¬ nI m = 0 := nI_ne0 h0 (by omega)
    have hlt : b ^ i % m < m := Nat.mod_lt _ h0
    rw [lpX12_power_5, if_neg (nI_ge (by omega) (by omega)), ck_of (by simp [hz]), rem_mul (by omega) hb h0 hm, nI_1, Nat.mod_mul_mod, ← Nat.pow_succ]
    exact ih g (i + 1) (by omega) (by omega)
theorem power_of (k : ST) {b e m : Nat} (hb : b < 4096) (he : e < 4096) (h1 : 1 < m) (hm : m < 4096) : fX12_power k (nI b) (nI e) (nI m) = some (nI (b ^ e % m), k) := by
  unfold fX12_power
  rw [FU_g]
  have h := power_lp k hb he (show 0 < m by omega) hm e 4999 0 (by omega) (by omega)
  rw [Nat.pow_zero, Nat.mod_eq_of_lt h1] at h
  exact h
theorem four_M (k : ST) {e : Nat} (he : e < 4096) : fX12_four k (nI e) = some (nI (4 ^ e % 2039), k) := by
  unfold fX12_four
  rw [show fX12_power k 4 (nI e) 2039 = some (nI (4 ^ e % 2039), k) from power_of k (b := 4) (m := 2039) (by decide) he (by decide) (by decide)]
  rfl
theorem inverse_M (k : ST) {b : Nat} (hb : b < 4096) : fX12_inverse k (nI b) = some (nI (b ^ 1017 % 1019), k) := by
  unfold fX12_inverse
  rw [show fX12_power k (nI b) 1017 1019 = some (nI (b ^ 1017 % 1019), k) from power_of k (e := 1017) (m := 1019) hb (by decide) (by decide) (by decide)]
  rfl
theorem chal_of (k : ST) {a b : Nat} (ha : a < 4096) (hb : b < 4096) : fX0_challenge k (nI a) (nI b) = some (nI ((a + 7 * b) % 1019), k) := by
  unfold fX0_challenge
  rw [show (7 : Int32) * nI b = nI (7 * b) from pk_mul 7 b, show j_rem (nI a + nI (7 * b)) 1019 = nI ((a + 7 * b) % 1019) from rem_add (m := 1019) (by omega) (by omega) (by decide) (by decide)]
theorem chal_M (k : ST) {a b : Nat} (ha : a < 4096) (hb : b < 4096) : fX12_challenge k (nI a) (nI b) = some (nI ((a + 7 * b) % 1019), k) := chal_of k ha hb
theorem n12 {v : Nat} (h : v < 12) : ¬ (12 : Int32) ≤ nI v := by
  have : ¬ nI 12 ≤ nI v := nI_ge h (by decide)
  exact this
/-- the place of v less the place of j, as a remainder -/
def fmI (a : Int32) : Int32 := if 0 ≤ (a ^^^ 1019) then j_rem a 1019 else if (j_rem a 1019) = 0 then j_rem a 1019 else (j_rem a 1019) + 1019
theorem fm_eq (k : ST) (a : Int32) : fJ9_floorMod_7cf53 k a 1019 = some (fmI a, k) := by
  unfold fJ9_floorMod_7cf53 fmI
  rw [ck_of (by decide)]
  split
  · rfl
  · split <;> rfl
theorem fm_tab : ∀ v j : Fin 12, fmI (nI v.val - nI j.val) = nI ((v.val + 1019 - j.val) % 1019) := by decide +kernel
theorem fm_of (k : ST) {v j : Nat} (hv : v < 12) (hj : j < 12) : fJ9_floorMod_7cf53 k (nI v - nI j) 1019 = some (nI ((v + 1019 - j) % 1019), k) := by
  rw [fm_eq, fm_tab ⟨v, hv⟩ ⟨j, hj⟩]
/-- the weight of place j among the places S, as the model takes it, from place v on -/
def wtF (S j : Nat) : Nat → Nat → Nat
  | 0, w => w
  | v + 1, w => let u := wtF S j v w; if v = j then u else if S.testBit v then u * (v + 1) % 1019 * ((v + 1019 - j) % 1019) ^ 1017 % 1019 else u
def wt (S j : Nat) : Nat := wtF S j 12 1
theorem wtF_lt (S j : Nat) : ∀ v, wtF S j v 1 < 1019
  | 0 => show 1 < 1019 by decide
  | v + 1 => by
    have := wtF_lt S j v
    simp only [wtF]
    split
    · exact this
    · split
      · exact Nat.mod_lt _ (by decide)
      · exact this
theorem wt_lt (S j : Nat) : wt S j < 1019 := wtF_lt S j 12
theorem wM_lp (k : ST) {S j : Nat} (hS : S < 2 ^ 31) (hj : j < 12) (cont : Int32 → Int32 → ST → Option (Int32 × ST)) :
    ∀ (r g v : Nat), v + r = 12 → r ≤ g → lpX12_weight_4 (nI j) (nI S) (g + 1) (nI (wtF S j v 1)) (nI v) k cont = cont (nI (wt S j)) (nI 12) k := by
  intro r
  induction r with
  | zero =>
    intro g v hv _
    have : v = 12 := by omega
    subst this
    rw [lpX12_weight_4, if_pos (show (12 : Int32) ≤ nI 12 by decide)]
    rfl
  | succ r ih =>
    intro g v hv hg
    obtain ⟨g, rfl⟩ : ∃ z, g = z + 1 := ⟨g - 1, by omega⟩
    have hi := ih g (v + 1) (by omega) (by omega)
    have hw := wtF_lt S j v
    rw [lpX12_weight_4, if_neg (n12 (show v < 12 by omega)), nI_1]
    by_cases h : v = j
    · rw [if_pos (by rw [h])]
      simp only [wtF, h, if_true] at hi
      rw [h]
      exact hi
    · rw [if_neg (fun q => h ((nI_eq (by omega) (by omega)).mp q)), ifeq (bitM_1 (show v < 31 by omega) hS)]
      simp only [wtF, h, if_false] at hi
      by_cases hb : S.testBit v = true
      · rw [if_pos hb, fm_of k (by omega) hj, ob_some, inverse_M k (Nat.lt_trans (Nat.mod_lt _ (by decide)) (by decide)), ob_some, nm_eq]
        have e1 : j_rem (nI (wtF S j v 1) * nI (v + 1)) 1019 = nI (wtF S j v 1 * (v + 1) % 1019) := rem_mul (m := 1019) (by omega) (by omega) (by decide) (by decide)
        have l1 : wtF S j v 1 * (v + 1) % 1019 < 1019 := Nat.mod_lt _ (by decide)
        have l2 : ((v + 1019 - j) % 1019) ^ 1017 % 1019 < 1019 := Nat.mod_lt _ (by decide)
        have e2 : j_rem (nI (wtF S j v 1 * (v + 1) % 1019) * nI (((v + 1019 - j) % 1019) ^ 1017 % 1019)) 1019 = nI (wtF S j v 1 * (v + 1) % 1019 * (((v + 1019 - j) % 1019) ^ 1017 % 1019) % 1019) := rem_mul (m := 1019) (by omega) (by omega) (by decide) (by decide)
        rw [e1, e2, Nat.mul_mod_mod]
        rw [if_pos hb] at hi
        exact hi
      · rw [if_neg hb]
        rw [if_neg hb] at hi
        exact hi
theorem weight_M (k : ST) {S j : Nat} (hS : S < 2 ^ 31) (hj : j < 12) : fX12_weight k (nI j) (nI S) = some (nI (wt S j), k) := by
  unfold fX12_weight
  rw [FU_g]
  exact wM_lp k hS hj _ 12 4999 0 (by decide) (by decide)
/-- above and below, as the class takes them -/
def wA (S j : Nat) : Nat → Nat
  | 0 => 1
  | v + 1 => if v = j then wA S j v else if S.testBit v then wA S j v * (v + 1) % 1019 else wA S j v
def wB (S j : Nat) : Nat → Nat
  | 0 => 1
  | v + 1 => if v = j then wB S j v else if S.testBit v then wB S j v * ((v + 1019 - j) % 1019) % 1019 else wB S j v
theorem wA_lt (S j : Nat) : ∀ v, wA S j v < 1019
  | 0 => show 1 < 1019 by decide
  | v + 1 => by
    have := wA_lt S j v
    unfold wA
    split
    · exact this
    · split
      · exact Nat.mod_lt _ (by decide)
      · exact this
theorem wB_lt (S j : Nat) : ∀ v, wB S j v < 1019
  | 0 => show 1 < 1019 by decide
  | v + 1 => by
    have := wB_lt S j v
    unfold wB
    split
    · exact this
    · split
      · exact Nat.mod_lt _ (by decide)
      · exact this
theorem w_same (S j : Nat) : ∀ v, wtF S j v 1 = wA S j v * (wB S j v) ^ 1017 % 1019
  | 0 => by simp only [wtF, wA, wB, Nat.one_pow]
  | v + 1 => by
    have h := w_same S j v
    simp only [wtF, wA, wB]
    by_cases q : v = j
    · rw [if_pos q, if_pos q, if_pos q]
      exact h
    · rw [if_neg q, if_neg q, if_neg q]
      by_cases z : S.testBit v = true
      · rw [if_pos z, if_pos z, if_pos z, h]
        rw [Nat.mul_mod (wA S j v * (v + 1) % 1019), Nat.mod_mod, ← Nat.pow_mod, Nat.mul_pow, ← Nat.mul_mod, Nat.mod_mul_mod, Nat.mul_assoc (wA S j v * wB S j v ^ 1017 % 1019), Nat.mod_mul_mod]
        congr 1
        rw [Nat.mul_assoc, Nat.mul_assoc]
        congr 1
        rw [← Nat.mul_assoc, ← Nat.mul_assoc, Nat.mul_comm (v + 1)]
      · rw [if_neg z, if_neg z, if_neg z]
        exact h
theorem wK_lp (k : ST) {S j : Nat} (hS : S < 2 ^ 31) (hj : j < 12) (cont : Int32 → Int32 → Int32 → ST → Option (Int32 × ST)) :
    ∀ (r g v : Nat), v + r = 12 → r ≤ g → lpX0_weight_7 (nI j) (nI S) (g + 1) (nI (wA S j v)) (nI (wB S j v)) (nI v) k cont = cont (nI (wA S j 12)) (nI (wB S j 12)) (nI 12) k := by
  intro r
  induction r with
  | zero =>
    intro g v hv _
    have : v = 12 := by omega
    subst this
    rw [lpX0_weight_7, if_pos (show (12 : Int32) ≤ nI 12 by decide)]
  | succ r ih =>
    intro g v hv hg
    obtain ⟨g, rfl⟩ : ∃ z, g = z + 1 := ⟨g - 1, by omega⟩
    have hi := ih g (v + 1) (by omega) (by omega)
    have hw := wA_lt S j v
    have hw2 := wB_lt S j v
    rw [lpX0_weight_7, if_neg (n12 (show v < 12 by omega)), nI_1]
    by_cases h : v = j
    · rw [if_pos (by rw [h])]
      simp only [wA, wB, h, if_true] at hi
      rw [h]
      exact hi
    · rw [if_neg (fun q => h ((nI_eq (by omega) (by omega)).mp q)), hasBit_of k (by omega) hS, ob_some]
      simp only [wA, wB, h, if_false] at hi
      by_cases hb : S.testBit v = true
      · rw [if_pos hb, times_of k (by omega) (by omega), ob_some, fm_of k (by omega) hj, ob_some, times_of k (by omega) (Nat.lt_trans (Nat.mod_lt _ (by decide)) (by decide)), ob_some]
        simp only [hb, if_true] at hi
        exact hi
      · rw [if_neg hb]
        simp only [hb, if_false] at hi
        exact hi
theorem weight_K (k : ST) {S j : Nat} (hS : S < 2 ^ 31) (hj : j < 12) : fX0_weight k (nI j) (nI S) = some (nI (wt S j), k) := by
  unfold fX0_weight
  rw [FU_g]
  have h := wK_lp k hS hj (fun y16 y17 y18 k19 => ob (fX0_inverse k19 y17) fun r20 k21 => ob (fX0_times k21 y16 r20) fun r23 k24 => some (r23, k24)) 12 4999 0 (by decide) (by decide)
  refine h.trans ?_
  have l1 := wA_lt S j 12
  have l2 := wB_lt S j 12
  rw [inverse_of k (by omega), ob_some, times_of k (by omega) (Nat.lt_trans (Nat.mod_lt _ (by decide)) (by decide)), ob_some, Nat.mul_mod_mod, ← w_same]
  rfl
