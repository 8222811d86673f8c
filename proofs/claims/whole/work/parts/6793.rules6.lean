theorem faultK {k : ST} {tx : Nat → Nat} {L : Nat} (ht : txK k tx L) : ∃ z', isS k z' ∧ match mRule tx L with
    | .inl p => p ≤ 160 ∧ fX5_faultOf k (nI L) = some (nI p, z')
    | .inr ws => ws.length ≤ L ∧ fX5_faultOf k (nI L) = some (-1, z') ∧ gI z' 4 4 = nI ws.length ∧ ∀ i, i < ws.length → gA z' 28 i = nI (ws.getD i 0) := by
  have hL := ht.1
  have r0 : rdK k tx L (-1) (sI (sI (sI (sI (sI k 4 5 55) 4 6 0) 4 7 (nI L)) 4 8 (-1)) 4 4 0) 0 [] := ⟨((((((isS.rf k).s4 _ (by decide)).s4 _ (by decide)).s4 _ (by decide)).s4 _ (by decide)).s4 _ (by decide)), rfl, rfl, rfl, rfl, rfl, fun i hi => absurd hi (Nat.not_lt_zero i), Nat.zero_le L⟩
  have hu := unitsK (k0 := k) ht 10 0 (by decide) (by decide)
  have hany := anyK (u := fX5_unit 10) (v1 := nI 0) ht hu _ 0 [] r0 (Nat.le_refl 0)
  have hmin : fJ9_min_7cf53 (sI (sI k 4 5 55) 4 6 0) (nI L) 160 = some (nI L, sI (sI k 4 5 55) 4 6 0) := by
    rw [min_of, if_neg (show ¬ (160 : Int32) < nI L from nI_nlt (a := 160) hL (by decide))]
  unfold fX5_faultOf mRule
  rw [nm_eq, nm_eq, hmin, ob_some, nm_eq, nm_eq, nm_eq]
  unfold fX5_any
  cases hm : mAny tx L (mUnit tx L 10 0) 0 with
  | inl p =>
    rw [hm] at hany
    obtain ⟨p1, z2, b2, ws2, q1, q2⟩ := hany
    have q1' : FX5_any (fX5_unit 10) (sI (sI (sI (sI (sI k 4 5 55) 4 6 0) 4 7 (nI L)) 4 8 (-1)) 4 4 0) 0 = some ((), z2) := q1
    refine ⟨z2, q2.1, p1, ?_⟩
    rw [q1', ob_some, stopF (by omega) _ q2, ob_some, q2.2.2.2.2.1, ite_self]
  | inr r =>
    obtain ⟨b2, w2⟩ := r
    rw [hm] at hany
    obtain ⟨p1, p2, p3, z2, q1, q2⟩ := hany
    have q1' : FX5_any (fX5_unit 10) (sI (sI (sI (sI (sI k 4 5 55) 4 6 0) 4 7 (nI L)) 4 8 (-1)) 4 4 0) 0 = some ((), z2) := q1
    rw [show (mb (Sum.inr (b2, w2) : Nat ⊕ (Nat × List Nat)) fun r => if r.1 < L then (.inl r.1 : Nat ⊕ List Nat) else .inr r.2) = if b2 < L then .inl b2 else .inr w2 from rfl]
    rw [q1', ob_some, q2.2.2.1, q2.2.2.2.1]
    by_cases c : b2 < L
    · obtain ⟨z3, s1, s2⟩ := stopK (p := b2) q2
      rw [if_pos c, if_neg (nI_ge c (by omega)), s1, ob_some]
      exact ⟨z3, s2.1, by omega, by rw [s2.2.2.2.2.1]⟩
    · rw [if_neg c, if_pos (nI_le (by omega) (by omega))]
      refine ⟨z2, q2.1, by omega, by rw [q2.2.2.2.2.1], q2.2.2.2.2.2.1, q2.2.2.2.2.2.2.1⟩
