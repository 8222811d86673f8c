theorem mNum_inl {tx : Nat → Nat} {L most a p : Nat} (ha : a ≤ L) (h : mNum tx L most a = .inl p) : p ≤ L := by
  unfold mNum at h
  by_cases d0 : mDg (mHr tx L a) = true
  · have i0 := mDg_in d0
    rw [if_pos d0] at h
    by_cases d1 : mDg (mHr tx L (a + 1)) = true
    · have i1 := mDg_in d1
      rw [if_pos d1] at h
      by_cases d2 : mDg (mHr tx L (a + 2)) = true
      · have i2 := mDg_in d2
        rw [if_pos d2] at h
        by_cases d3 : mDg (mHr tx L (a + 3)) = true
        · rw [if_pos d3] at h
          injection h with h
          omega
        · rw [if_neg d3] at h
          split at h
          · injection h with h
            omega
          · cases h
      · rw [if_neg d2] at h
        split at h
        · injection h with h
          omega
        · cases h
    · rw [if_neg d1] at h
      split at h
      · injection h with h
        omega
      · cases h
  · rw [if_neg d0] at h
    injection h with h
    omega
theorem mNum_inr {tx : Nat → Nat} {L most a v b : Nat} (h : mNum tx L most a = .inr (v, b)) : a < b ∧ b ≤ L ∧ v ≤ most ∧ mDg (mHr tx L a) = true := by
  unfold mNum at h
  by_cases d0 : mDg (mHr tx L a) = true
  · have i0 := mDg_in d0
    rw [if_pos d0] at h
    by_cases d1 : mDg (mHr tx L (a + 1)) = true
    · have i1 := mDg_in d1
      rw [if_pos d1] at h
      by_cases d2 : mDg (mHr tx L (a + 2)) = true
      · have i2 := mDg_in d2
        rw [if_pos d2] at h
        by_cases d3 : mDg (mHr tx L (a + 3)) = true
        · rw [if_pos d3] at h
          cases h
        · rw [if_neg d3] at h
          split at h
          · cases h
          · injection h with h
            injection h with h1 h2
            exact ⟨by omega, by omega, by omega, d0⟩
      · rw [if_neg d2] at h
        split at h
        · cases h
        · injection h with h
          injection h with h1 h2
          exact ⟨by omega, by omega, by omega, d0⟩
    · rw [if_neg d1] at h
      split at h
      · cases h
      · injection h with h
        injection h with h1 h2
        exact ⟨by omega, by omega, by omega, d0⟩
  · rw [if_neg d0] at h
    cases h
theorem entersK {k0 z : ST} {tx : Nat → Nat} {L a dp : Nat} {ws : List Nat} (h : rdK k0 tx L (-1) z a ws) (ha : a < L) (hd : dp ≤ 8) : (dp < 8 → ∃ z', fX5_enters z (nI dp) = some (true, z') ∧ rdK k0 tx L (-1) z' (a + 1) ws) ∧ (8 ≤ dp → ∃ z', fX5_enters z (nI dp) = some (false, z') ∧ rdK k0 tx L (nI a) z' a ws) := by
  unfold fX5_enters
  refine ⟨fun q => ?_, fun q => ?_⟩
  · rw [if_pos (show nI dp < 8 from nI_lt (b := 8) q (by decide)), nm_eq, h.2.2.1, nI_1]
    exact ⟨_, rfl, h.at (by omega)⟩
  · obtain ⟨z', e1, e2⟩ := stopK (p := a) h
    rw [if_neg (show ¬ nI dp < 8 from nI_nlt (b := 8) q (by omega)), h.2.2.1, e1, ob_some]
    exact ⟨z', rfl, e2⟩
/-- a fact: h, n, d or w and a number -/
theorem factK {k0 z : ST} {tx : Nat → Nat} {L b c most : Nat} {ws : List Nat} (ht : txK k0 tx L) (h : rdK k0 tx L (-1) z b ws) (hb : b < L) (hw : ws.length ≤ b) (hm : most < 1000) (hc : c < 256) (s : Int32) (hs : (if s = 0 then (999 : Int32) else 11) = nI most) :
    outK k0 tx L b ws (mb (mNum tx L most (mSk tx L L (b + 1))) fun r => .inr (r.2, [c + 256 * r.1])) (jbX5_fact_34 (nI c) s z) := by
  have hL := ht.1
  have r1 := h.at (b := b + 1) (by omega)
  have nk := numK ht hm r1
  have hsk := mSk_le tx L L (b + 1) (by omega)
  have key : jbX5_fact_34 (nI c) s z = ob (fX5_number (sI z 4 6 (nI (b + 1))) (nI most)) fun r6 k7 => ob (fX5_write k7 (nI c) r6) fun r9 k10 => some ((), k10) := by
    unfold jbX5_fact_34
    rw [nm_eq, h.2.2.1, nI_1]
    by_cases q : s = 0
    · rw [if_pos q] at hs ⊢
      rw [← hs]
    · rw [if_neg q] at hs ⊢
      rw [← hs]
  rw [key]
  cases hn : mNum tx L most (mSk tx L L (b + 1)) with
  | inl p =>
    rw [hn] at nk
    obtain ⟨z', v, b', e1, e2⟩ := nk
    have hp := mNum_inl hsk.1 hn
    rw [e1, ob_some, writeF (by omega) (nI c) v e2, ob_some]
    exact ⟨by omega, z', b', ws, rfl, e2⟩
  | inr r =>
    obtain ⟨v, b'⟩ := r
    rw [hn] at nk
    obtain ⟨z', e1, e2⟩ := nk
    have hi := mNum_inr hn
    obtain ⟨z2, w1, w2⟩ := writeK (c := c) (v := v) e2 (by omega)
    rw [e1, ob_some, w1, ob_some]
    exact ⟨by omega, hi.2.1, by rw [List.length_singleton]; omega, z2, rfl, w2⟩
theorem comF {k0 : ST} {tx : Nat → Nat} {L p : Nat} (ht : txK k0 tx L) (hp : p ≤ 160) (u : ST → Int32 → Option (Unit × ST)) (v1 v2 : Int32) (g : Nat) (v3 v4 : Int32) {z : ST} {b : Nat} {ws : List Nat} (h : rdK k0 tx L (nI p) z b ws) : ∃ (z' : ST) (b' : Nat), lpX5_atLeast_52 u v1 v2 (g + 1) v3 v4 z (fun y26 y27 k28 => jbX5_atLeast_85 u v1 v2 y26 y27 k28) = some ((), z') ∧ rdK k0 tx L (nI p) z' b' ws := by
  have en : ∀ (z : ST) (b : Nat) (v3 v4 : Int32), rdK k0 tx L (nI p) z b ws → ∃ (z' : ST) (b' : Nat), jbX5_atLeast_85 u v1 v2 v3 v4 z = some ((), z') ∧ rdK k0 tx L (nI p) z' b' ws := fun z b v3 v4 h => by
    obtain ⟨z', b', e1, e2⟩ := passF ht (show p < 2 ^ 31 by omega) (v := 125) (by decide) h
    unfold jbX5_atLeast_85
    rw [e1, ob_some, if_neg (by decide), stopF (by omega) _ e2, ob_some, writeF (by omega) _ _ e2, ob_some]
    exact ⟨z', b', rfl, e2⟩
  rw [lpX5_atLeast_52]
  by_cases c : 160 ≤ v4
  · rw [if_pos c]
    exact en z b v3 v4 h
  · obtain ⟨z', b', e1, e2⟩ := passF ht (show p < 2 ^ 31 by omega) (v := 44) (by decide) h
    rw [if_neg c, e1, ob_some, if_neg (by decide)]
    exact en z' b' v3 v4 e2
