theorem bitM_of {S i : Nat} (hi : i < 31) (hS : S < 2 ^ 31) : ((j_shr (nI S) (nI i)) &&& 1) = nI (if S.testBit i then 1 else 0) := by
  have e : ((nI i &&& 31).toBitVec.smod 32).toNat = i := by
    have : ∀ i : Fin 31, ((nI i.val &&& 31).toBitVec.smod 32).toNat = i.val := by decide
    exact this ⟨i, hi⟩
  have e1 : j_shr (nI S) (nI i) = nI (S / 2 ^ i) := pk_shrN hS _ i e
  rw [e1, show (1 : Int32) = nI (2 ^ 1 - 1) from rfl, fa_mask, Nat.testBit_eq_decide_div_mod_eq]
  have : S / 2 ^ i % 2 = 0 ∨ S / 2 ^ i % 2 = 1 := by omega
  rcases this with h | h <;> simp [h]
theorem bitM_1 {S i : Nat} (hi : i < 31) (hS : S < 2 ^ 31) : (((j_shr (nI S) (nI i)) &&& 1) = 1) = (S.testBit i = true) := by
  rw [bitM_of hi hS]
  cases S.testBit i <;> simp [nI]
theorem bitM_0 {S i : Nat} (hi : i < 31) (hS : S < 2 ^ 31) : (((j_shr (nI S) (nI i)) &&& 1) = 0) = (¬ S.testBit i = true) := by
  rw [bitM_of hi hS]
  cases S.testBit i <;> simp [nI]
/-- the JDK's count of bits -/
def bcI (a0 : Int32) : Int32 :=
  (((((((a0 - ((j_ushr a0 1) &&& 1431655765)) &&& 858993459) + ((j_ushr (a0 - ((j_ushr a0 1) &&& 1431655765)) 2) &&& 858993459)) + (j_ushr (((a0 - ((j_ushr a0 1) &&& 1431655765)) &&& 858993459) + ((j_ushr (a0 - ((j_ushr a0 1) &&& 1431655765)) 2) &&& 858993459)) 4)) &&& 252645135)) + 0)
def bcJ (x3 : Int32) : Int32 := ((x3 + (j_ushr x3 8)) + (j_ushr (x3 + (j_ushr x3 8)) 16)) &&& 63
def bcA (a0 : Int32) : Int32 := a0 - ((j_ushr a0 1) &&& 1431655765)
def bcB (x1 : Int32) : Int32 := (x1 &&& 858993459) + ((j_ushr x1 2) &&& 858993459)
def bcC (x2 : Int32) : Int32 := (x2 + (j_ushr x2 4)) &&& 252645135
theorem bc_eq (k : ST) (a : Int32) : fJ6_bitCount_0f7a4 k a = some (bcJ (bcC (bcB (bcA a))), k) := rfl
theorem bc_tab2 : ∀ a b : Fin 64, bcJ (bcC (bcB (bcA (nI (64 * a.val + b.val))))) = nI (pcn (64 * a.val + b.val) 12) := by decide +kernel
theorem bc_tab (S : Nat) (h : S < 4096) : bcJ (bcC (bcB (bcA (nI S)))) = nI (pcn S 12) := by
  have := bc_tab2 ⟨S / 64, by omega⟩ ⟨S % 64, by omega⟩
  rw [show 64 * (S / 64) + S % 64 = S by omega] at this
  exact this
theorem bc_of (k : ST) {S : Nat} (h : S < 4096) : fJ6_bitCount_0f7a4 k (nI S) = some (nI (pcn S 12), k) := by
  rw [bc_eq, bc_tab S h]
theorem pcn_le (S : Nat) : ∀ m, pcn S m ≤ m
  | 0 => Nat.le_refl 0
  | m + 1 => by
    have := pcn_le S m
    unfold pcn
    split <;> omega
theorem pcn_cong {S T : Nat} : ∀ {m : Nat}, (∀ i, i < m → S.testBit i = T.testBit i) → pcn S m = pcn T m
  | 0, _ => rfl
  | m + 1, h => by
    unfold pcn
    rw [pcn_cong (fun i hi => h i (by omega)), h m (by omega)]
theorem pcn_set {S x : Nat} (hx : S.testBit x = false) : ∀ {m : Nat}, x < m → pcn (S ||| 2 ^ x) m = pcn S m + 1
  | 0, h => absurd h (Nat.not_lt_zero x)
  | m + 1, h => by
    unfold pcn
    rw [fb_bit_set]
    rcases Nat.lt_or_ge x m with q | q
    · rw [pcn_set hx q]
      have : decide (m = x) = false := decide_eq_false (by omega)
      rw [this, Bool.or_false]
      omega
    · have e : x = m := by omega
      subst e
      have e2 : pcn (S ||| 2 ^ x) x = pcn S x := pcn_cong (fun i hi => by rw [fb_bit_set, decide_eq_false (by omega : ¬ i = x), Bool.or_false])
      rw [e2, hx]
      simp
theorem pcn_pos {S m : Nat} (h : S < 2 ^ m) (h1 : 1 ≤ S) : 1 ≤ pcn S m := by
  rcases Nat.eq_zero_or_pos (pcn S m) with q | q
  · have hz : ∀ m' i, i < m' → pcn S m' = 0 → S.testBit i = false := by
      intro m'
      induction m' with
      | zero => intro i hi; omega
      | succ m' ih =>
        intro i hi h0
        unfold pcn at h0
        rcases Nat.lt_or_ge i m' with z | z
        · exact ih i z (by omega)
        · have : i = m' := by omega
          subst this
          cases hb : S.testBit i
          · rfl
          · rw [hb] at h0
            simp at h0
    have : S = 0 := by
      apply Nat.eq_of_testBit_eq
      intro i
      rw [Nat.zero_testBit]
      rcases Nat.lt_or_ge i m with z | z
      · exact hz m i z q
      · exact Nat.testBit_lt_two_pow (Nat.lt_of_lt_of_le h (Nat.pow_le_pow_right (by decide) z))
    omega
  · exact q
/-- a loop's own first row -/
theorem FU_s : FU = 4999 + 1 := rfl
theorem nle_i {i c : Nat} (h : i < c) (hc : c < 2 ^ 31) : (nI c ≤ nI i) = False := eq_false (nI_ge h hc)
theorem le_i {i c : Nat} (h : c ≤ i) (hc : i < 2 ^ 31) : (nI c ≤ nI i) = True := eq_true (nI_le h hc)
theorem max_of (k : ST) (a b : Int32) : fJ9_max_7cf53 k a b = some (if a < b then b else a, k) := by
  unfold fJ9_max_7cf53
  split <;> rfl
theorem min_of (k : ST) (a b : Int32) : fJ9_min_7cf53 k a b = some (if b < a then b else a, k) := by
  unfold fJ9_min_7cf53
  split <;> rfl

