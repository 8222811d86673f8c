theorem numM {y0 y : ST} {ref : Int32} {bs L dp a most : Nat} {tx : Nat → Nat} (ht : txM y0 ref bs tx L) (hm : most < 1000) (h : rdM y0 ref bs L (-1) y a dp) :
    match mNum tx L most (mSk tx L L a) with
    | .inl p => ∃ (y' : ST) (v : Int32) (b : Nat), fX12_number y (nI most) = some (v, y') ∧ rdM y0 ref bs L (nI p) y' b dp
    | .inr (v, b) => ∃ y', fX12_number y (nI most) = some (nI v, y') ∧ rdM y0 ref bs L (-1) y' b dp := by
  obtain ⟨z0, e1, e2⟩ := lookM ht h
  have hL := ht.1
  have hsk := mSk_le tx L L a h.2.2.2.2.2.2.2
  unfold fX12_number
  rw [e1, ob_some, digM ht e2, ob_some]
  generalize (if mSk tx L L a < L then nI (tx (mSk tx L L a)) else -1) = lk
  generalize mSk tx L L a = b at e2 hsk ⊢
  unfold mNum
  by_cases d0 : mDg (mHr tx L b) = true
  · rw [if_pos d0, if_pos d0]
    unfold jbX12_number_17
    rw [FU_g]
    have n0 := numStepM (v := 0) (j := 0) ht e2 (by decide) (nI most) lk 4999 (fun y20 y21 k22 => jbX12_number_89 (nI most) lk y20 y21 k22)
    rw [show lpX12_number_22 (nI most) lk (4999 + 1) 0 0 z0 (fun y20 y21 k22 => jbX12_number_89 (nI most) lk y20 y21 k22) = _ from n0, if_pos d0]
    have i0 := mDg_in d0
    have r1 := e2.at (b := b + 1) (by omega)
    rw [numStepM (j := 0 + 1) (g := 4998) ht r1 (by decide)]
    by_cases d1 : mDg (mHr tx L (b + 1)) = true
    · rw [if_pos d1, if_pos d1]
      have i1 := mDg_in d1
      have r2 := r1.at (b := b + 1 + 1) (by omega)
      rw [numStepM (j := 0 + 1 + 1) (g := 4997) ht r2 (by decide)]
      by_cases d2 : mDg (mHr tx L (b + 2)) = true
      · rw [if_pos d2, if_pos d2]
        have i2 := mDg_in d2
        have r3 := r2.at (b := b + 1 + 1 + 1) (by omega)
        have ev : 10 * (10 * (10 * 0 + mHr tx L b - 48) + mHr tx L (b + 1) - 48) + mHr tx L (b + 1 + 1) - 48 = 100 * (mHr tx L b - 48) + 10 * (mHr tx L (b + 1) - 48) + (mHr tx L (b + 2) - 48) := by
          have : b + 1 + 1 = b + 2 := rfl
          rw [this]
          omega
        rw [ev, lpX12_number_22, digM ht r3, ob_some, r3.2.2.2.2.2.1, if_pos (show (-1 : Int32) = -1 from rfl), if_pos (show nI (0 + 1 + 1 + 1) = 3 from rfl)]
        have ne := numEndM (v := 100 * (mHr tx L b - 48) + 10 * (mHr tx L (b + 1) - 48) + (mHr tx L (b + 2) - 48)) (most := most) r3 (by omega) hL (by omega) hm lk (nI (0 + 1 + 1 + 1))
        by_cases d3 : mDg (mHr tx L (b + 3)) = true
        · obtain ⟨y', s1, s2⟩ := stopM r3
          rw [if_pos d3, if_pos d3, s1, ob_some]
          exact ⟨y', _, _, rfl, s2⟩
        · rw [if_neg d3, if_neg d3]
          by_cases mv : most < 100 * (mHr tx L b - 48) + 10 * (mHr tx L (b + 1) - 48) + (mHr tx L (b + 2) - 48)
          · rw [if_pos mv]
            obtain ⟨y', b', w1, w2⟩ := ne.1 mv
            exact ⟨y', _, b', w1, w2⟩
          · rw [if_neg mv]
            exact ⟨_, ne.2 (by omega), r3⟩
      · rw [if_neg d2, if_neg d2]
        have ev : 10 * (10 * 0 + mHr tx L b - 48) + mHr tx L (b + 1) - 48 = 10 * (mHr tx L b - 48) + (mHr tx L (b + 1) - 48) := by omega
        rw [ev]
        have ne := numEndM (v := 10 * (mHr tx L b - 48) + (mHr tx L (b + 1) - 48)) (most := most) r2 (by omega) hL (by omega) hm lk (nI (0 + 1 + 1))
        by_cases mv : most < 10 * (mHr tx L b - 48) + (mHr tx L (b + 1) - 48)
        · rw [if_pos mv]
          obtain ⟨y', b', w1, w2⟩ := ne.1 mv
          exact ⟨y', _, b', w1, w2⟩
        · rw [if_neg mv]
          exact ⟨_, ne.2 (by omega), r2⟩
    · rw [if_neg d1, if_neg d1]
      have ev : 10 * 0 + mHr tx L b - 48 = mHr tx L b - 48 := by omega
      rw [ev]
      have ne := numEndM (v := mHr tx L b - 48) (most := most) r1 (by omega) hL (by omega) hm lk (nI (0 + 1))
      by_cases mv : most < mHr tx L b - 48
      · rw [if_pos mv]
        obtain ⟨y', b', w1, w2⟩ := ne.1 mv
        exact ⟨y', _, b', w1, w2⟩
      · rw [if_neg mv]
        exact ⟨_, ne.2 (by omega), r1⟩
  · obtain ⟨y', s1, s2⟩ := stopM e2
    rw [if_neg d0, if_neg d0, s1, ob_some]
    unfold jbX12_number_17 jbX12_number_89
    rw [FU_g, lpX12_number_22, digM ht s2, ob_some, if_neg d0, s2.2.2.2.2.2.1, if_neg (nI_ne_m1 (by omega))]
    exact ⟨y', _, _, rfl, s2⟩
