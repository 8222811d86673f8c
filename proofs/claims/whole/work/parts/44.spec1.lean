theorem kn_of (k : ST) (a : Int32) (c : Nat) (hc : c < 2 ^ 31) : (if a < 0 then some (false, k) else if nI c ≤ a then some (false, k) else some (true, k)) = some (inb a c, k) := by
  rw [if_ix a c hc]
  cases inb a c <;> rfl
def in1 (a : Int32) (lo hi : Nat) : Bool := decide ((lo : Int) ≤ a.toInt ∧ a.toInt ≤ hi)
theorem in1_iff {a : Int32} {lo hi : Nat} : in1 a lo hi = true ↔ (lo : Int) ≤ a.toInt ∧ a.toInt ≤ hi := by
  unfold in1
  exact decide_eq_true_iff
theorem in1_of {a : Int32} {lo hi : Nat} (h : in1 a lo hi = true) (hh : hi < 2 ^ 31) : ∃ j : Nat, lo ≤ j ∧ j ≤ hi ∧ a = nI j := by
  rw [in1_iff] at h
  obtain ⟨j, hj, rfl⟩ := nI_of_int (a := a) (n := hi) (by omega) h.2 hh
  rw [nI_toInt (by omega)] at h
  exact ⟨j, by omega, hj, rfl⟩
theorem in1_inb {a : Int32} {c : Nat} : in1 a 0 c = inb a (c + 1) := by
  unfold in1 inb
  refine decide_eq_decide.mpr ⟨fun h => ⟨by omega, by omega⟩, fun h => ⟨by omega, by omega⟩⟩
theorem isIn_of (n : ST) (a lo hi : Int32) : fX12_isIn n a lo hi = some (decide (lo ≤ a ∧ a ≤ hi), n) := by
  unfold fX12_isIn
  by_cases h1 : a < lo
  · have h2 : ¬ lo ≤ a := fun q => by
      have := Int32.lt_iff_toInt_lt.mp h1
      have := Int32.le_iff_toInt_le.mp q
      omega
    simp only [h1, h2, if_true, false_and, decide_false]
  · have h2 : lo ≤ a := Int32.not_lt.mp h1
    by_cases h3 : hi < a
    · have h4 : ¬ a ≤ hi := fun q => by
        have := Int32.lt_iff_toInt_lt.mp h3
        have := Int32.le_iff_toInt_le.mp q
        omega
      simp only [h1, h2, h3, h4, if_true, if_false, and_false, decide_false]
    · have h4 : a ≤ hi := Int32.not_lt.mp h3
      simp only [h1, h2, h3, h4, if_false, and_self, decide_true]
theorem isIn_nI (n : ST) (a : Int32) (lo hi : Nat) (h1 : lo < 2 ^ 31) (h2 : hi < 2 ^ 31) : fX12_isIn n a (nI lo) (nI hi) = some (in1 a lo hi, n) := by
  rw [isIn_of]
  refine congrArg (fun b => some (b, n)) (decide_eq_decide.mpr ?_)
  rw [Int32.le_iff_toInt_le, Int32.le_iff_toInt_le, nI_toInt h1, nI_toInt h2]
theorem isIn_cnt (n : ST) (a : Int32) (c : Nat) (hc : c < 2 ^ 30) : fX12_isIn n a 0 (nI c - 1) = some (inb a c, n) := by
  rw [isIn_of]
  refine congrArg (fun b => some (b, n)) (decide_eq_decide.mpr ?_)
  have e : (nI c - 1).toInt = (c : Int) - 1 := pk_sub_toInt (a := c) (b := 1) hc (by decide)
  rw [Int32.le_iff_toInt_le, Int32.le_iff_toInt_le, e, Int32.toInt_zero]
  omega
theorem sec_of (k : ST) (a : Int32) : fX0_isSecret k a = some (in1 a 1 1018, k) := by
  have h := isIn_nI k a 1 1018 (by decide) (by decide)
  unfold fX12_isIn at h
  unfold fX0_isSecret
  rw [← h]
  have e : ((1019 : Int32) ≤ a) = ((1018 : Int32) < a) := by
    rw [Int32.le_iff_toInt_le, Int32.lt_iff_toInt_lt]
    exact propext ⟨fun q => by have : (1019 : Int32).toInt = 1019 := by decide
                               have : (1018 : Int32).toInt = 1018 := by decide
                               omega, fun q => by have : (1019 : Int32).toInt = 1019 := by decide
                                                  have : (1018 : Int32).toInt = 1018 := by decide
                                                  omega⟩
  simp only [e]
  rfl
theorem num_of (k : ST) (a : Int32) : fX0_isNumber k a = some (in1 a 0 1018, k) := by
  rw [in1_inb]
  exact kn_of k a 1019 (by decide)
theorem pow_of (k : ST) (a : Int32) : fX0_isPower k a = some (in1 a 1 2038, k) := by
  have h := isIn_nI k a 1 2038 (by decide) (by decide)
  unfold fX12_isIn at h
  unfold fX0_isPower
  rw [← h]
  have e : ((2039 : Int32) ≤ a) = ((2038 : Int32) < a) := by
    rw [Int32.le_iff_toInt_le, Int32.lt_iff_toInt_lt]
    exact propext ⟨fun q => by have : (2039 : Int32).toInt = 2039 := by decide
                               have : (2038 : Int32).toInt = 2038 := by decide
                               omega, fun q => by have : (2039 : Int32).toInt = 2039 := by decide
                                                  have : (2038 : Int32).toInt = 2038 := by decide
                                                  omega⟩
  simp only [e]
  rfl

theorem sX1_knows {k : ST} {c : Nat} (e : gI k 0 0 = nI c) (hc : c < 2 ^ 31) (a : Int32) : fX1_knows k a = some (inb a c, k) := by
  unfold fX1_knows
  rw [e]
  exact kn_of k a c hc
theorem sX2_knows {k : ST} {c : Nat} (e : gI k 1 0 = nI c) (hc : c < 2 ^ 31) (a : Int32) : fX2_knows k a = some (inb a c, k) := by
  unfold fX2_knows
  rw [e]
  exact kn_of k a c hc
theorem sX3_knows {k : ST} {c : Nat} (e : gI k 2 0 = nI c) (hc : c < 2 ^ 31) (a : Int32) : fX3_knows k a = some (inb a c, k) := by
  unfold fX3_knows
  rw [e]
  exact kn_of k a c hc
theorem sX5_knows {k : ST} {c : Nat} (e : gI k 4 0 = nI c) (hc : c < 2 ^ 31) (a : Int32) : fX5_knows k a = some (inb a c, k) := by
  unfold fX5_knows
  rw [e]
  exact kn_of k a c hc
theorem sX7_knows {k : ST} {c : Nat} (e : gI k 6 0 = nI c) (hc : c < 2 ^ 31) (a : Int32) : fX7_knows k a = some (inb a c, k) := by
  unfold fX7_knows
  rw [e]
  exact kn_of k a c hc
theorem sX9_knows {k : ST} {c : Nat} (e : gI k 8 0 = nI c) (hc : c < 2 ^ 31) (a : Int32) : fX9_knows k a = some (inb a c, k) := by
  unfold fX9_knows
  rw [e]
  exact kn_of k a c hc
theorem sX11_isHolder {k : ST} {c : Nat} (e : gI k 10 1 = nI c) (hc : c < 2 ^ 31) (a : Int32) : fX11_isHolder k a = some (inb a c, k) := by
  unfold fX11_isHolder
  rw [e]
  exact kn_of k a c hc
theorem sX11_isFall {k : ST} {c : Nat} (e : gI k 10 5 = nI c) (hc : c < 2 ^ 31) (a : Int32) : fX11_isFall k a = some (inb a c, k) := by
  unfold fX11_isFall
  rw [e]
  exact kn_of k a c hc
theorem sX12_isHolder {k : ST} {c : Nat} (e : gI k 11 12 = nI c) (hc : c < 2 ^ 31) (a : Int32) : fX12_isHolder k a = some (inb a c, k) := by
  unfold fX12_isHolder
  rw [e]
  exact kn_of k a c hc
theorem sX12_isKey {k : ST} {c : Nat} (e : gI k 11 13 = nI c) (hc : c < 2 ^ 31) (a : Int32) : fX12_isKey k a = some (inb a c, k) := by
  unfold fX12_isKey
  rw [e]
  exact kn_of k a c hc
theorem sX12_isParting {k : ST} {c : Nat} (e : gI k 11 30 = nI c) (hc : c < 2 ^ 31) (a : Int32) : fX12_isParting k a = some (inb a c, k) := by
  unfold fX12_isParting
  rw [e]
  exact kn_of k a c hc
theorem sX12_isRule {k : ST} {c : Nat} (e : gI k 11 48 = nI c) (hc : c < 2 ^ 31) (a : Int32) : fX12_isRule k a = some (inb a c, k) := by
  unfold fX12_isRule
  rw [e]
  exact kn_of k a c hc
theorem sX12_isThing {k : ST} {c : Nat} (e : gI k 11 50 = nI c) (hc : c < 2 ^ 31) (a : Int32) : fX12_isThing k a = some (inb a c, k) := by
  unfold fX12_isThing
  rw [e]
  exact kn_of k a c hc
theorem sX12_isFall {k : ST} {c : Nat} (e : gI k 11 82 = nI c) (hc : c < 2 ^ 31) (a : Int32) : fX12_isFall k a = some (inb a c, k) := by
  unfold fX12_isFall
  rw [e]
  exact kn_of k a c hc
theorem day_of (k : ST) (a : Int32) : fX11_isDay k a = some (in1 a 0 2000, k) := by
  have h := isIn_nI k a 0 2000 (by decide) (by decide)
  unfold fX12_isIn at h
  unfold fX11_isDay
  rw [← h]
  rfl
theorem dayM_of (k : ST) (a : Int32) : fX12_isDay k a = some (in1 a 0 2000, k) := by
  unfold fX12_isDay
  rw [show fX12_isIn k a 0 2000 = some (in1 a 0 2000, k) from isIn_nI k a 0 2000 (by decide) (by decide)]
  rfl
theorem past_of {k : ST} {d : Nat} (e : gI k 10 0 = nI d) (hd : d < 2 ^ 31) (a : Int32) : fX11_isPast k a = some (in1 a 0 d, k) := by
  have h := isIn_nI k a 0 d (by decide) hd
  unfold fX12_isIn at h
  unfold fX11_isPast
  rw [← h, e]
  rfl
theorem known_of {k : ST} {d : Nat} (e : gI k 11 1 = nI d) (hd : d < 2 ^ 31) (a : Int32) : fX12_isKnown k a = some (in1 a 0 d, k) := by
  unfold fX12_isKnown
  rw [e, show fX12_isIn k a 0 (nI d) = some (in1 a 0 d, k) from isIn_nI k a 0 d (by decide) hd]
  rfl
theorem shl1 : ∀ h, h < 31 → j_shl 1 (nI h) = nI (2 ^ h) := by
  have : ∀ h : Fin 31, j_shl 1 (nI h.val) = nI (2 ^ h.val) := by decide
  exact fun h hh => this ⟨h, hh⟩
theorem pow_le12 {h : Nat} (hh : h ≤ 12) : 2 ^ h ≤ 4096 := Nat.pow_le_pow_right (by decide) hh
theorem set_of {k : ST} {h : Nat} (e : gI k 10 1 = nI h) (hh : h ≤ 12) (a : Int32) : fX11_isSet k a = some (in1 a 1 (2 ^ h - 1), k) := by
  have hp : 0 < 2 ^ h := Nat.two_pow_pos h
  have hq := pow_le12 hh
  have q := isIn_nI k a 1 (2 ^ h - 1) (by decide) (by omega)
  unfold fX12_isIn at q
  unfold fX11_isSet fX11_allHolders
  rw [← q, e, ob_some, shl1 h (by omega), show nI (2 ^ h) - 1 = nI (2 ^ h - 1) from pk_sub (b := 1) hp]
  rfl
theorem are_of {k : ST} {h : Nat} (e : gI k 11 12 = nI h) (hh : h ≤ 12) (a : Int32) : fX12_areHolders k a 1 = some (in1 a 1 (2 ^ h - 1), k) := by
  have hp : 0 < 2 ^ h := Nat.two_pow_pos h
  have hq := pow_le12 hh
  have q := isIn_nI k a 1 (2 ^ h - 1) (by decide) (by omega)
  unfold fX12_isIn at q
  unfold fX12_areHolders
  rw [← q, e, shl1 h (by omega)]
  have e2 : (nI (2 ^ h) ≤ a) = (nI (2 ^ h - 1) < a) := by
    rw [Int32.le_iff_toInt_le, Int32.lt_iff_toInt_lt, nI_toInt (by omega), nI_toInt (by omega)]
    exact propext ⟨fun q => by omega, fun q => by omega⟩
  simp only [e2]
  rfl
theorem bit_of : ∀ S i, i < 31 → S < 2 ^ 31 → (((j_ushr (nI S) (nI i)) &&& 1) = 0 ↔ S.testBit i = false) := by
  intro S i hi hS
  have e : ((nI i).toUInt32 &&& Int32.toUInt32 31).toBitVec % 32 = BitVec.ofNat 32 i := by
    have : ∀ i : Fin 31, ((nI i.val).toUInt32 &&& Int32.toUInt32 31).toBitVec % 32 = BitVec.ofNat 32 i.val := by decide
    exact this ⟨i, hi⟩
  have e1 : j_ushr (nI S) (nI i) = nI (S / 2 ^ i) := pk_ushrN (by omega) (nI i) i (by rw [e]; simp; omega)
  rw [e1, show (1 : Int32) = nI (2 ^ 1 - 1) from rfl]
  have e2 : nI (S / 2 ^ i) &&& nI (2 ^ 1 - 1) = nI (S / 2 ^ i % 2 ^ 1) := pk_andN (Nat.lt_of_le_of_lt (Nat.div_le_self _ _) (by omega)) 1 rfl
  rw [e2, show (0 : Int32) = nI 0 from rfl, nI_eq (by omega) (by decide), Nat.testBit_eq_decide_div_mod_eq]
  simp
theorem hasBit_of (k : ST) {S i : Nat} (hi : i < 31) (hS : S < 2 ^ 31) : fX11_hasBit k (nI S) (nI i) = some (S.testBit i, k) := by
  unfold fX11_hasBit
  by_cases h : ((j_ushr (nI S) (nI i)) &&& 1) = 0
  · rw [if_pos h, (bit_of S i hi hS).mp h]
  · rw [if_neg h]
    have : ¬ S.testBit i = false := fun q => h ((bit_of S i hi hS).mpr q)
    simp at this
    rw [this]

