def Rel (t : Nat) (k n : ST) : Prop := t < 600 ∧ gI k 10 0 = gI n 11 1
