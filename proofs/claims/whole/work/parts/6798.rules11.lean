theorem takesM {y0 y : ST} {ref : Int32} {bs L dp b c : Nat} {tx : Nat → Nat} (ht : txM y0 ref bs tx L) (h1 : 1 ≤ c) (h2 : c < 256) (h : rdM y0 ref bs L (-1) y b dp) : (mHr tx L (mSk tx L L b) = c → ∃ y', fX12_takes y (nI c) = some (true, y') ∧ rdM y0 ref bs L (-1) y' (mSk tx L L b + 1) dp) ∧ (mHr tx L (mSk tx L L b) ≠ c → ∃ y', fX12_takes y (nI c) = some (false, y') ∧ rdM y0 ref bs L (nI (mSk tx L L b)) y' (mSk tx L L b) dp) := by
  obtain ⟨y1, e1, e2⟩ := lookM ht h
  unfold fX12_takes
  rw [h.2.2.2.2.2.1, if_pos rfl, e1, ob_some, ifeq (lk_eq ht (mSk tx L L b) h1 h2)]
  refine ⟨fun q => ?_, fun q => ?_⟩
  · have hin := mHr_in (tx := tx) (L := L) (a := mSk tx L L b) (by omega)
    rw [if_pos q, nm_eq, e2.2.2.2.2.1, nI_1]
    exact ⟨_, rfl, e2.at (by omega)⟩
  · obtain ⟨y2, s1, s2⟩ := stopM e2
    rw [if_neg q, s1, ob_some]
    exact ⟨y2, rfl, s2⟩
theorem takesMF {y0 y : ST} {ref : Int32} {bs L dp b p : Nat} (hp : p ≤ 160) (v : Int32) (h : rdM y0 ref bs L (nI p) y b dp) : fX12_takes y v = some (false, y) := by
  unfold fX12_takes
  rw [h.2.2.2.2.2.1, if_neg (nI_ne_m1 (by omega)), stopMF (by omega) h, ob_some]
theorem goesM {y0 y : ST} {ref : Int32} {bs L dp a : Nat} (h : rdM y0 ref bs L (-1) y a dp) (ha : a < L) (hd : dp ≤ 8) : (dp < 8 → ∃ y', fX12_goesIn y = some (true, y') ∧ rdM y0 ref bs L (-1) y' (a + 1) (dp + 1)) ∧ (8 ≤ dp → ∃ y', fX12_goesIn y = some (false, y') ∧ rdM y0 ref bs L (nI a) y' a dp) := by
  unfold fX12_goesIn
  rw [h.2.2.2.2.2.2.1]
  refine ⟨fun q => ?_, fun q => ?_⟩
  · rw [if_neg (fun z => by have := (nI_eq (b := 8) (by omega) (by decide)).mp z; omega), nm_eq, nm_eq, nI_1, show gI (sI y 11 57 (nI (dp + 1))) 11 55 = nI a from h.2.2.2.2.1, nI_1]
    exact ⟨_, rfl, (h.deep (dq := dp + 1)).at (by omega)⟩
  · have : dp = 8 := by omega
    subst this
    obtain ⟨y2, s1, s2⟩ := stopM h
    rw [if_pos (show nI 8 = 8 from rfl), s1, ob_some]
    exact ⟨y2, rfl, s2⟩
