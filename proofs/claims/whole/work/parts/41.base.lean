theorem ob_some {α β γ : Type} (a : α) (b : β) (f : α → β → Option γ) : ob (some (a, b)) f = f a b := rfl
theorem nm_eq {α β : Type} (e : α) (f : α → β) : nm e f = f e := rfl
theorem ck_true {α : Type} (o : Option α) : ck true o = o := rfl
theorem ck_of {α : Type} {b : Bool} (h : b = true) (o : Option α) : ck b o = o := by rw [h]; rfl
theorem ix_nI {c : Nat} (h : c < 2 ^ 31) : ix (nI c) = c := nI_clamp h
theorem inb_nI {c N : Nat} (h : c < N) (hN : N < 2 ^ 31) : inb (nI c) N = true := by
  unfold inb
  rw [nI_toInt (by omega)]
  exact decide_eq_true ⟨by omega, by omega⟩
theorem inb_of {a : Int32} {c : Nat} (h : inb a c = true) (hc : c < 2 ^ 31) : ∃ j : Nat, j < c ∧ a = nI j := vp_in_of (inb_in h) hc
theorem inb_iff {a : Int32} {c : Nat} : inb a c = true ↔ 0 ≤ a.toInt ∧ a.toInt < c := by
  unfold inb
  exact decide_eq_true_iff
theorem inb_mono {a : Int32} {c d : Nat} (h : inb a c = true) (hcd : c ≤ d) : inb a d = true := by
  rw [inb_iff] at h ⊢
  omega
theorem toInt_m1 : (-1 : Int32).toInt = -1 := by decide
theorem nI_ne_m1 {c : Nat} (h : c < 2 ^ 31) : ¬ nI c = -1 := by
  intro e
  have := congrArg Int32.toInt e
  rw [nI_toInt h, toInt_m1] at this
  omega
/-- 0 ≤ a < c, as both classes ask it -/
theorem if_ix {α : Type} (a : Int32) (c : Nat) (hc : c < 2 ^ 31) (x y : α) : (if a < 0 then x else if nI c ≤ a then x else y) = if inb a c = true then y else x := by
  by_cases h : inb a c = true
  · obtain ⟨j, hj, rfl⟩ := inb_of h hc
    rw [if_neg (nI_pos (by omega)), if_neg (nI_ge hj (by omega)), if_pos h]
  · rw [if_neg h]
    by_cases h1 : a < 0
    · rw [if_pos h1]
    · rw [if_neg h1, if_pos]
      obtain ⟨j, hj, rfl⟩ := nI_of h1
      refine nI_le ?_ hj
      rcases Nat.lt_or_ge j c with q | q
      · exact absurd (inb_nI q hc) h
      · exact q
theorem nI_of_int {a : Int32} {n : Nat} (h1 : 0 ≤ a.toInt) (h2 : a.toInt ≤ n) (hn : n < 2 ^ 31) : ∃ j : Nat, j ≤ n ∧ a = nI j := by
  have h : inb a (n + 1) = true := inb_iff.mpr ⟨h1, by omega⟩
  have hv := inb_in h
  by_cases hb : n + 1 < 2 ^ 31
  · obtain ⟨j, hj, e⟩ := inb_of h hb
    exact ⟨j, by omega, e⟩
  · obtain ⟨j, hj, e⟩ := nI_of (x := a) (fun q => by
      have := Int32.lt_iff_toInt_lt.mp q
      rw [Int32.toInt_zero] at this
      omega)
    exact ⟨j, by omega, e⟩
