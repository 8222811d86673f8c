theorem digK (z : ST) {c : Nat} (hc : c < 256) : fX5_isDigit z (nI c) = some (mDg c, z) := by
  unfold fX5_isDigit mDg
  by_cases h1 : c < 48
  · rw [if_pos (show nI c < 48 from nI_lt (b := 48) h1 (by decide)), decide_eq_false (by omega)]
  · rw [if_neg (show ¬ nI c < 48 from nI_nlt (b := 48) (by omega) (by omega))]
    by_cases h2 : 57 < c
    · rw [if_pos (show (57 : Int32) < nI c from nI_lt (a := 57) h2 (by omega)), decide_eq_false (by omega)]
    · rw [if_neg (show ¬ (57 : Int32) < nI c from nI_nlt (a := 57) (by omega) (by decide)), decide_eq_true (by omega)]
theorem mDg_in {tx : Nat → Nat} {L a : Nat} (h : mDg (mHr tx L a) = true) : a < L ∧ 48 ≤ mHr tx L a ∧ mHr tx L a ≤ 57 := by
  unfold mDg at h
  have h2 := of_decide_eq_true h
  exact ⟨mHr_in (fun q => by rw [q] at h2; omega), h2⟩
theorem numStep {k0 z : ST} {tx : Nat → Nat} {L a v j : Nat} {ws : List Nat} (ht : txK k0 tx L) (h : rdK k0 tx L (-1) z a ws) (hj : j < 3) (m : Int32) (g : Nat) (cont : Int32 → Int32 → ST → Option (Int32 × ST)) :
    lpX5_number_8 m (g + 1) (nI v) (nI j) z cont = if mDg (mHr tx L a) = true then lpX5_number_8 m g (nI (10 * v + mHr tx L a - 48)) (nI (j + 1)) (sI z 4 6 (nI (a + 1))) cont else cont (nI v) (nI j) z := by
  have hl := mHr_lt ht a
  rw [lpX5_number_8, if_neg (show ¬ (3 : Int32) ≤ nI j from nI_ge (b := 3) hj (by decide)), hereK ht h, ob_some, digK z hl, ob_some, hereK ht h, ob_some, nm_eq, h.2.2.1, nI_1, nI_1, show (10 : Int32) * nI v = nI (10 * v) from pk_mul 10 v, nI_add]
  by_cases c : mDg (mHr tx L a) = true
  · have := mDg_in c
    rw [if_pos c, if_pos c, show nI (10 * v + mHr tx L a) - 48 = nI (10 * v + mHr tx L a - 48) from pk_sub (b := 48) (by omega)]
  · rw [if_neg c, if_neg c]
/-- the end of a number: j digits were read, v is its value -/
theorem numEnd {k0 z : ST} {tx : Nat → Nat} {L a v j most : Nat} {ws : List Nat} (ht : txK k0 tx L) (h : rdK k0 tx L (-1) z a ws) (hj : 1 ≤ j) (hj2 : j ≤ 3) (ha : 1 ≤ a) (hv : v < 1000) (hm : most < 1000) (hn : j < 3 → mDg (mHr tx L a) = false) :
    (mDg (mHr tx L a) = true → ∃ z', jbX5_number_52 (nI most) (nI v) (nI j) z = some (nI v, z') ∧ rdK k0 tx L (nI a) z' a ws) ∧ (mDg (mHr tx L a) = false → most < v → ∃ z', jbX5_number_52 (nI most) (nI v) (nI j) z = some (nI v, z') ∧ rdK k0 tx L (nI (a - 1)) z' a ws) ∧ (mDg (mHr tx L a) = false → v ≤ most → jbX5_number_52 (nI most) (nI v) (nI j) z = some (nI v, z)) := by
  have hl := mHr_lt ht a
  have haL : a ≤ L := h.2.2.2.2.2.2.2
  have hL := ht.1
  unfold jbX5_number_52
  rw [if_neg (nI_ne0 (by omega) (by omega)), hereK ht h, ob_some, digK z hl, ob_some, h.2.2.1, show nI a - 1 = nI (a - 1) from pk_sub (b := 1) ha]
  refine ⟨fun q => ?_, fun q r => ?_, fun q r => ?_⟩
  · obtain ⟨z', e1, e2⟩ := stopK (p := a) h
    rw [if_pos q, e1, ob_some]
    exact ⟨z', rfl, e2⟩
  · obtain ⟨z', e1, e2⟩ := stopK (p := a - 1) h
    rw [if_neg (by rw [q]; decide), if_neg (nI_ge r (by omega)), e1, ob_some]
    exact ⟨z', rfl, e2⟩
  · rw [if_neg (by rw [q]; decide), if_pos (nI_le r (by omega))]
theorem numK {k0 z : ST} {tx : Nat → Nat} {L a most : Nat} {ws : List Nat} (ht : txK k0 tx L) (hm : most < 1000) (h : rdK k0 tx L (-1) z a ws) :
    match mNum tx L most (mSk tx L L a) with
    | .inl p => ∃ (z' : ST) (v : Int32) (b : Nat), fX5_number z (nI most) = some (v, z') ∧ rdK k0 tx L (nI p) z' b ws
    | .inr (v, b) => ∃ z', fX5_number z (nI most) = some (nI v, z') ∧ rdK k0 tx L (-1) z' b ws := by
  obtain ⟨z0, e1, e2⟩ := skipK ht h
  have hL := ht.1
  unfold fX5_number
  rw [e1, ob_some, FU_g]
  generalize mSk tx L L a = b at e2 ⊢
  have n0 := numStep (v := 0) (j := 0) ht e2 (by decide) (nI most) 4999 (fun y16 y17 k18 => jbX5_number_52 (nI most) y16 y17 k18)
  rw [show lpX5_number_8 (nI most) (4999 + 1) 0 0 z0 (fun y16 y17 k18 => jbX5_number_52 (nI most) y16 y17 k18) = _ from n0]
  unfold mNum
  by_cases d0 : mDg (mHr tx L b) = true
  · rw [if_pos d0, if_pos d0]
    have i0 := mDg_in d0
    have r1 := e2.at (b := b + 1) (by omega)
    rw [numStep (j := 0 + 1) (g := 4998) ht r1 (by decide)]
    by_cases d1 : mDg (mHr tx L (b + 1)) = true
    · rw [if_pos d1, if_pos d1]
      have i1 := mDg_in d1
      have r2 := r1.at (b := b + 1 + 1) (by omega)
      rw [numStep (j := 0 + 1 + 1) (g := 4997) ht r2 (by decide)]
      by_cases d2 : mDg (mHr tx L (b + 2)) = true
      · rw [if_pos d2, if_pos d2]
        have i2 := mDg_in d2
        have r3 := r2.at (b := b + 1 + 1 + 1) (by omega)
        have ev : 10 * (10 * (10 * 0 + mHr tx L b - 48) + mHr tx L (b + 1) - 48) + mHr tx L (b + 1 + 1) - 48 = 100 * (mHr tx L b - 48) + 10 * (mHr tx L (b + 1) - 48) + (mHr tx L (b + 2) - 48) := by
          have : b + 1 + 1 = b + 2 := rfl
          rw [this]
          omega
        rw [ev, lpX5_number_8, if_pos (show (3 : Int32) ≤ nI (0 + 1 + 1 + 1) by decide)]
        have ne := numEnd (v := 100 * (mHr tx L b - 48) + 10 * (mHr tx L (b + 1) - 48) + (mHr tx L (b + 2) - 48)) (j := 3) (most := most) ht r3 (by decide) (by decide) (by omega) (by omega) hm (fun q => by omega)
        by_cases d3 : mDg (mHr tx L (b + 3)) = true
        · rw [if_pos d3]
          obtain ⟨z', w1, w2⟩ := ne.1 d3
          exact ⟨z', _, _, w1, w2⟩
        · rw [if_neg d3]
          have d3' : mDg (mHr tx L (b + 3)) = false := by simpa using d3
          by_cases mv : most < 100 * (mHr tx L b - 48) + 10 * (mHr tx L (b + 1) - 48) + (mHr tx L (b + 2) - 48)
          · rw [if_pos mv]
            obtain ⟨z', w1, w2⟩ := ne.2.1 d3' mv
            exact ⟨z', _, _, w1, w2⟩
          · rw [if_neg mv]
            exact ⟨_, ne.2.2 d3' (by omega), r3⟩
      · rw [if_neg d2, if_neg d2]
        have d2' : mDg (mHr tx L (b + 2)) = false := by simpa using d2
        have ev : 10 * (10 * 0 + mHr tx L b - 48) + mHr tx L (b + 1) - 48 = 10 * (mHr tx L b - 48) + (mHr tx L (b + 1) - 48) := by omega
        rw [ev]
        have ne := numEnd (v := 10 * (mHr tx L b - 48) + (mHr tx L (b + 1) - 48)) (j := 2) (most := most) ht r2 (by decide) (by decide) (by omega) (by omega) hm (fun _ => d2')
        by_cases mv : most < 10 * (mHr tx L b - 48) + (mHr tx L (b + 1) - 48)
        · rw [if_pos mv]
          obtain ⟨z', w1, w2⟩ := ne.2.1 d2' mv
          exact ⟨z', _, _, w1, w2⟩
        · rw [if_neg mv]
          exact ⟨_, ne.2.2 d2' (by omega), r2⟩
    · rw [if_neg d1, if_neg d1]
      have d1' : mDg (mHr tx L (b + 1)) = false := by simpa using d1
      have ev : 10 * 0 + mHr tx L b - 48 = mHr tx L b - 48 := by omega
      rw [ev]
      have ne := numEnd (v := mHr tx L b - 48) (j := 1) (most := most) ht r1 (by decide) (by decide) (by omega) (by omega) hm (fun _ => d1')
      by_cases mv : most < mHr tx L b - 48
      · rw [if_pos mv]
        obtain ⟨z', w1, w2⟩ := ne.2.1 d1' mv
        exact ⟨z', _, _, w1, w2⟩
      · rw [if_neg mv]
        exact ⟨_, ne.2.2 d1' (by omega), r1⟩
  · rw [if_neg d0, if_neg d0]
    unfold jbX5_number_52
    obtain ⟨z', w1, w2⟩ := stopK (p := b) e2
    rw [if_pos (show nI 0 = 0 from rfl), e2.2.2.1, w1, ob_some]
    exact ⟨z', _, _, rfl, w2⟩
