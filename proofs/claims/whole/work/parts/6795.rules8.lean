theorem digM {y0 y : ST} {ref fa : Int32} {bs L dp a : Nat} {tx : Nat → Nat} (ht : txM y0 ref bs tx L) (h : rdM y0 ref bs L fa y a dp) : fX12_isDigit y = some (mDg (mHr tx L a), y) := by
  have hL := ht.1
  have ha : a ≤ L := h.2.2.2.2.2.2.2
  unfold fX12_isDigit mHr
  by_cases c : a < L
  · obtain ⟨w1, w2, w3⟩ := h.byte ht c
    have hc := (ht.2.2.2.2 a c).2.1
    rw [w1, w2, w3, ck_true, ck_true, ck_true, ck_true, h.2.2.2.1, h.2.2.2.2.1, if_neg (nI_ge c (by omega)), if_pos c, ← bDg ⟨tx a, hc⟩]
    by_cases q1 : (nI (tx a)).toInt8.toInt32 < 48
    · rw [if_pos q1, decide_eq_true q1]
      rfl
    · rw [if_neg q1, decide_eq_false q1]
      by_cases q2 : 57 < (nI (tx a)).toInt8.toInt32
      · rw [if_pos q2, decide_eq_true q2]
        rfl
      · rw [if_neg q2, decide_eq_false q2]
        rfl
  · rw [h.2.2.2.1, h.2.2.2.2.1, if_pos (nI_le (by omega) (by omega)), if_neg c]
    rfl
theorem numStepM {y0 y : ST} {ref : Int32} {bs L dp a v j : Nat} {tx : Nat → Nat} (ht : txM y0 ref bs tx L) (h : rdM y0 ref bs L (-1) y a dp) (hj : j < 3) (m v2 : Int32) (g : Nat) (cont : Int32 → Int32 → ST → Option (Int32 × ST)) :
    lpX12_number_22 m v2 (g + 1) (nI v) (nI j) y cont = if mDg (mHr tx L a) = true then lpX12_number_22 m v2 g (nI (10 * v + mHr tx L a - 48)) (nI (j + 1)) (sI y 11 55 (nI (a + 1))) cont else cont (nI v) (nI j) y := by
  rw [lpX12_number_22, digM ht h, ob_some]
  by_cases c : mDg (mHr tx L a) = true
  · have i0 := mDg_in c
    obtain ⟨w1, w2, w3⟩ := h.byte ht i0.1
    have hc := (ht.2.2.2.2 a i0.1).2.1
    have e : mHr tx L a = tx a := if_pos i0.1
    have c2 : mDg (tx a) = true := by
      rw [← e]
      exact c
    have bn : (nI (tx a)).toInt8.toInt32 = nI (tx a) := bNum ⟨tx a, hc⟩ c2
    rw [if_pos c, if_pos c, h.2.2.2.2.2.1, if_pos rfl, if_neg (fun q => by have := (nI_eq (b := 3) (by omega) (by decide)).mp q; omega), w1, w2, w3, ck_true, ck_true, nm_eq, nm_eq, h.2.2.2.2.1, nI_1, nI_1, bn, show (10 : Int32) * nI v = nI (10 * v) from pk_mul 10 v, nI_add, show nI (10 * v + tx a) - 48 = nI (10 * v + tx a - 48) from pk_sub (b := 48) (by rw [e] at i0; omega), e]
  · rw [if_neg c, if_neg c]
theorem numEndM {y0 y : ST} {ref : Int32} {bs L dp a v most : Nat} (h : rdM y0 ref bs L (-1) y a dp) (ha : 1 ≤ a) (hL : L ≤ 160) (hv : v < 1000) (hm : most < 1000) (v2 v4 : Int32) :
    (most < v → ∃ y' b, jbX12_number_89 (nI most) v2 (nI v) v4 y = some (nI v, y') ∧ rdM y0 ref bs L (nI (a - 1)) y' b dp) ∧ (v ≤ most → jbX12_number_89 (nI most) v2 (nI v) v4 y = some (nI v, y)) := by
  have haL : a ≤ L := h.2.2.2.2.2.2.2
  unfold jbX12_number_89
  rw [h.2.2.2.2.2.1, if_pos rfl, h.2.2.2.2.1, show nI a - 1 = nI (a - 1) from pk_sub (b := 1) ha, nm_eq]
  refine ⟨fun q => ?_, fun q => ?_⟩
  · obtain ⟨y', e1, e2⟩ := stopM (h.at (b := a - 1) (by omega))
    rw [if_neg (nI_ge q (by omega)), e1, ob_some]
    exact ⟨y', _, rfl, e2⟩
  · rw [if_pos (nI_le q (by omega))]
