/-! THE LEAST SETS -/
def zI (k k2 z : ST) : Prop := isS k z ∧ (∀ a, gA z a = gA k2 a) ∧ (∀ a, gL z a = gL k2 a) ∧ gI z 3 5 = gI k2 3 5
theorem zI.s {k k2 z : ST} (h : zI k k2 z) {f : Nat} (v : Int32) (hf : f ≠ 5) : zI k k2 (sI z 3 f v) := ⟨h.1.s3 f v, h.2.1, h.2.2.1, by rw [gI_sI, if_pos rfl, if_neg (fun q => hf q.symm)]; exact h.2.2.2⟩
def yI (n n2 y : ST) : Prop := isM n y ∧ ∀ a, gL y a = gL n2 a
theorem yI.s {n n2 y : ST} (h : yI n n2 y) {f : Nat} (v : Int32) (hf : mSlot f = true) : yI n n2 (sI y 11 f v) := ⟨h.1.sI v hf, h.2⟩
/-- the least so far, here and there -/
def lsJ (S : Nat) (z y : ST) : Prop := (gI z 3 9 = 13 ∧ gI z 3 10 = 0 ∧ gI y 11 83 = -1) ∨ ∃ b u, b < 4096 ∧ 1 ≤ u ∧ u ≤ S ∧ gI z 3 9 = nI (pcn b 12) ∧ gI z 3 10 = nI u ∧ gI z 3 11 = nI b ∧ gI y 11 83 = nI b ∧ gI y 11 84 = nI u
theorem lsJ.mono {S S' : Nat} {z y : ST} (h : lsJ S z y) (hs : S ≤ S') : lsJ S' z y := by
  rcases h with h | ⟨b, u, h1, h2, h3, h4⟩
  · exact Or.inl h
  · exact Or.inr ⟨b, u, h1, h2, by omega, h4⟩
theorem least_lp {h : Nat} {k k2 n n2 : ST} (hh : h ≤ 12) (b6 : gI n 11 12 = nI h) (v1 hs a2 : Int32) (v2 : Bool) (v4 : Int64) (T : Nat → Bool)
    (HK : ∀ z, zI k k2 z → ∀ S, 1 ≤ S → S < 2 ^ h → ∃ r : Bool, (v2 = true → fX4_comesTo z (nI S) hs = some (r, z)) ∧ (v2 = false → fX4_comesTo z (nI (2 ^ h - 1) &&& (nI S ^^^ (-1))) hs = some (r, z)) ∧ (b2i r = b2i v2 ↔ T S = true))
    (HM : ∀ y, yI n n2 y → ∀ S, 1 ≤ S → S < 2 ^ h → fX12_harms y (nI S) v1 a2 = some (T S, y)) (cM : Int32 → ST → Option (Bool × ST)) :
    ∀ (r fu S : Nat) (z y : ST), S + r = 2 ^ h → r ≤ fu → 1 ≤ S → zI k k2 z → yI n n2 y → lsJ S z y →
    ∃ z' y', lpX4_searchLeast_40 v1 v2 (nI (2 ^ h - 1)) v4 hs (fu + 1) (nI S) z (fun y33 k34 => some ((), k34)) = some ((), z') ∧ lpX12_finds_44 v1 a2 (fu + 1) (nI S) y cM = cM (nI (2 ^ h)) y' ∧ zI k k2 z' ∧ yI n n2 y' ∧ lsJ (2 ^ h) z' y' := by
  have hp12 := pow_le12 hh
  have hpos : 0 < 2 ^ h := Nat.two_pow_pos h
  intro r
  induction r with
  | zero =>
    intro fu S z y hS _ h1 hz hy hj
    have : S = 2 ^ h := by omega
    subst this
    refine ⟨z, y, ?_, ?_, hz, hy, hj⟩
    · rw [lpX4_searchLeast_40, if_pos (nI_lt (by omega) (by omega))]
    · rw [lpX12_finds_44, hy.1.i 11 12 (by decide), b6, shl1 h (by omega), if_pos (nI_le (Nat.le_refl _) (by omega))]
  | succ r ih =>
    intro fu S z y hS hf h1 hz hy hj
    obtain ⟨fu, rfl⟩ : ∃ z, fu = z + 1 := ⟨fu - 1, by omega⟩
    have hS2 : S < 4096 := by omega
    have hc := pcn_le S 12
    obtain ⟨q, q1, q2, q3⟩ := HK z hz S h1 (by omega)
    have hM := HM y hy S h1 (by omega)
    -- what the class does when the set counts, and when not
    have kY : T S = true → (if v2 = true then ob (fX4_comesTo z (nI S) hs) fun r19 k20 => if (b2i r19) = (b2i v2) then ob (fX4_takeLeast k20 (nI S) (nI (pcn S 12))) fun r23 k24 => lpX4_searchLeast_40 v1 v2 (nI (2 ^ h - 1)) v4 hs (fu + 1) (nI S + 1) k24 (fun y33 k34 => some ((), k34)) else lpX4_searchLeast_40 v1 v2 (nI (2 ^ h - 1)) v4 hs (fu + 1) (nI S + 1) k20 (fun y33 k34 => some ((), k34)) else ob (fX4_comesTo z (nI (2 ^ h - 1) &&& (nI S ^^^ (-1))) hs) fun r26 k27 => if (b2i r26) = (b2i v2) then ob (fX4_takeLeast k27 (nI S) (nI (pcn S 12))) fun r30 k31 => lpX4_searchLeast_40 v1 v2 (nI (2 ^ h - 1)) v4 hs (fu + 1) (nI S + 1) k31 (fun y33 k34 => some ((), k34)) else lpX4_searchLeast_40 v1 v2 (nI (2 ^ h - 1)) v4 hs (fu + 1) (nI S + 1) k27 (fun y33 k34 => some ((), k34))) = (ob (fX4_takeLeast z (nI S) (nI (pcn S 12))) fun r23 k24 => lpX4_searchLeast_40 v1 v2 (nI (2 ^ h - 1)) v4 hs (fu + 1) (nI (S + 1)) k24 (fun y33 k34 => some ((), k34))) := by
      intro hT
      have e := q3.mpr hT
      rw [nI_1]
      cases v2
      · rw [if_neg (by decide), q2 rfl, ob_some, if_pos e]
      · rw [if_pos rfl, q1 rfl, ob_some, if_pos e]
    have kN : T S = false → (if v2 = true then ob (fX4_comesTo z (nI S) hs) fun r19 k20 => if (b2i r19) = (b2i v2) then ob (fX4_takeLeast k20 (nI S) (nI (pcn S 12))) fun r23 k24 => lpX4_searchLeast_40 v1 v2 (nI (2 ^ h - 1)) v4 hs (fu + 1) (nI S + 1) k24 (fun y33 k34 => some ((), k34)) else lpX4_searchLeast_40 v1 v2 (nI (2 ^ h - 1)) v4 hs (fu + 1) (nI S + 1) k20 (fun y33 k34 => some ((), k34)) else ob (fX4_comesTo z (nI (2 ^ h - 1) &&& (nI S ^^^ (-1))) hs) fun r26 k27 => if (b2i r26) = (b2i v2) then ob (fX4_takeLeast k27 (nI S) (nI (pcn S 12))) fun r30 k31 => lpX4_searchLeast_40 v1 v2 (nI (2 ^ h - 1)) v4 hs (fu + 1) (nI S + 1) k31 (fun y33 k34 => some ((), k34)) else lpX4_searchLeast_40 v1 v2 (nI (2 ^ h - 1)) v4 hs (fu + 1) (nI S + 1) k27 (fun y33 k34 => some ((), k34))) = lpX4_searchLeast_40 v1 v2 (nI (2 ^ h - 1)) v4 hs (fu + 1) (nI (S + 1)) z (fun y33 k34 => some ((), k34)) := by
      intro hT
      have e : ¬ b2i q = b2i v2 := fun w => by rw [q3.mp w] at hT; cases hT
      rw [nI_1]
      cases v2
      · rw [if_neg (by decide), q2 rfl, ob_some, if_neg e]
      · rw [if_pos rfl, q1 rfl, ob_some, if_neg e]
    rw [lpX4_searchLeast_40, if_neg (nI_nlt (by omega) (by omega)), bc_of z hS2, ob_some]
    rw [lpX12_finds_44, hy.1.i 11 12 (by decide), b6, shl1 h (by omega), if_neg (nI_ge (by omega) (by omega))]
    have nxt : ∀ z2 y2, zI k k2 z2 → yI n n2 y2 → lsJ (S + 1) z2 y2 → ∃ z' y', lpX4_searchLeast_40 v1 v2 (nI (2 ^ h - 1)) v4 hs (fu + 1) (nI (S + 1)) z2 (fun y33 k34 => some ((), k34)) = some ((), z') ∧ lpX12_finds_44 v1 a2 (fu + 1) (nI (S + 1)) y2 cM = cM (nI (2 ^ h)) y' ∧ zI k k2 z' ∧ yI n n2 y' ∧ lsJ (2 ^ h) z' y' := fun z2 y2 a b c => ih fu (S + 1) z2 y2 (by omega) (by omega) (by omega) a b c
    rcases hj with ⟨j1, j2, j3⟩ | ⟨b, u, j1, j2, j3, j4, j5, j6, j7, j8⟩
    · rw [j1, if_neg (show ¬ (13 : Int32) < nI (pcn S 12) from nI_nlt (a := 13) (b := pcn S 12) (by omega) (by decide)), j3, if_pos rfl]
      unfold jbX12_finds_78
      rw [if_neg (show ¬ (0 : Int32) < -1 by decide), hM, ob_some]
      cases hT : T S
      · rw [kN hT, if_neg (show ¬ false = true by decide)]
        rw [nI_1]
        exact nxt z y hz hy (Or.inl ⟨j1, j2, j3⟩)
      · rw [kY hT]
        unfold fX4_takeLeast
        rw [j1, if_neg (show ¬ (13 : Int32) ≤ nI (pcn S 12) from nI_ge (b := 13) (a := pcn S 12) (by omega) (by decide)), nm_eq, nm_eq, nm_eq, ob_some, if_pos (show true = true from rfl), if_neg (show ¬ (0 : Int32) ≤ -1 by decide)]
        unfold jbX12_finds_114
        rw [nm_eq, if_neg (show ¬ (0 : Int32) ≤ -1 by decide)]
        unfold jbX12_finds_140
        rw [if_pos (show (-1 : Int32) < 0 by decide), nm_eq]
        rw [nI_1]
        exact nxt _ _ (((hz.s _ (by decide)).s _ (by decide)).s _ (by decide)) ((hy.s _ (by decide)).s _ (by decide)) (Or.inr ⟨S, 1, hS2, by omega, by omega, rfl, rfl, rfl, rfl, rfl⟩)
    · have hb := pcn_le b 12
      rw [j4, j7, if_neg (nI_ne_m1 (by omega)), bc_of y hS2, ob_some, j7, bc_of y j1, ob_some]
      have e0 : (0 < nI (pcn S 12) - nI (pcn b 12)) = (pcn b 12 < pcn S 12) := propext (by
        rw [Int32.lt_iff_toInt_lt, pk_sub_toInt (by omega) (by omega), Int32.toInt_zero]
        omega)
      have e1 : (0 ≤ nI (pcn S 12) - nI (pcn b 12)) = (pcn b 12 ≤ pcn S 12) := propext (by
        rw [Int32.le_iff_toInt_le, pk_sub_toInt (by omega) (by omega), Int32.toInt_zero]
        omega)
      have e2 : (nI (pcn S 12) - nI (pcn b 12) < 0) = (pcn S 12 < pcn b 12) := propext (by
        rw [Int32.lt_iff_toInt_lt, pk_sub_toInt (by omega) (by omega), Int32.toInt_zero]
        omega)
      unfold jbX12_finds_78
      rw [ifeq e0, hM, ob_some, ifeq (show (nI (pcn b 12) < nI (pcn S 12)) = (pcn b 12 < pcn S 12) from propext (nI_ltI (by omega) (by omega)))]
      by_cases x0 : pcn b 12 < pcn S 12
      · rw [if_pos x0, if_pos x0]
        simp only [nI_1]
        exact nxt z y hz hy (Or.inr ⟨b, u, j1, j2, by omega, j4, j5, j6, j7, j8⟩)
      · rw [if_neg x0, if_neg x0]
        cases hT : T S
        · rw [kN hT, if_neg (show ¬ false = true by decide)]
          simp only [nI_1]
          exact nxt z y hz hy (Or.inr ⟨b, u, j1, j2, by omega, j4, j5, j6, j7, j8⟩)
        · rw [kY hT]
          unfold fX4_takeLeast
          rw [j4, if_pos (show true = true from rfl), ifeq e1, ifeq (show (nI (pcn b 12) ≤ nI (pcn S 12)) = (pcn b 12 ≤ pcn S 12) from propext (nI_leI (by omega) (by omega)))]
          unfold jbX12_finds_114
          by_cases x1 : pcn b 12 ≤ pcn S 12
          · rw [if_pos x1, if_pos x1, j5, j8, nI_1]
            simp only [nm_eq]
            rw [ifeq e1, if_pos x1]
            unfold jbX12_finds_140
            rw [ifeq e2, if_neg (show ¬ pcn S 12 < pcn b 12 by omega)]
            rw [show gI (sI z 3 10 (nI (u + 1))) 3 11 = nI b from j6, show gI (sI y 11 84 (nI (u + 1))) 11 83 = nI b from j7]
            by_cases x2 : (nI S &&& ((nI S ^^^ nI b) &&& (-(nI S ^^^ nI b)))) = 0
            · rw [if_pos x2, if_pos x2, ob_some]
              simp only [nI_1]
              exact nxt _ _ (hz.s _ (by decide)) (hy.s _ (by decide)) (Or.inr ⟨b, u + 1, j1, by omega, by omega, j4, rfl, j6, j7, rfl⟩)
            · rw [if_neg x2, if_neg x2, nm_eq, ob_some]
              simp only [nI_1]
              have ep : pcn S 12 = pcn b 12 := by omega
              exact nxt _ _ ((hz.s _ (by decide)).s _ (by decide)) ((hy.s _ (by decide)).s _ (by decide)) (Or.inr ⟨S, u + 1, hS2, by omega, by omega, by rw [ep]; exact j4, rfl, rfl, rfl, rfl⟩)
          · rw [if_neg x1, if_neg x1]
            simp only [nm_eq]
            rw [ifeq e1, if_neg x1, ob_some]
            unfold jbX12_finds_140
            rw [ifeq e2, if_pos (show pcn S 12 < pcn b 12 by omega), nm_eq]
            simp only [nI_1]
            exact nxt _ _ (((hz.s _ (by decide)).s _ (by decide)).s _ (by decide)) ((hy.s _ (by decide)).s _ (by decide)) (Or.inr ⟨S, 1, hS2, by omega, by omega, rfl, rfl, rfl, rfl, rfl⟩)
/-- both searches, from the relation -/
theorem find_of {t d h kc gc wc pc : Nat} {k n : ST} (ht : t < 513) (hBB : gB d h k n) (hK : gKeys kc d k n) (hG : gTurn t gc h kc d k n) (hW : gWrap wc kc d k n) (hP : gPart pc kc h d k n) (a0 a1 : Int32) :
    (fX11_searchLeast k a0 a1 = some (false, k) ∧ fX12_finds n a0 a1 = some (false, sI n 11 0 0)) ∨ ∃ z y fb, fX11_searchLeast k a0 a1 = some (fb, z) ∧ fX12_finds n a0 a1 = some (fb, y) ∧ isS k z ∧ isM n y ∧ (fb = true → ∃ b u, b < 4096 ∧ gI z 3 9 = nI (pcn b 12) ∧ gI z 3 10 = nI u ∧ gI z 3 11 = nI b ∧ gI y 11 83 = nI b ∧ gI y 11 84 = nI u) := by
  obtain ⟨b1, b2, b3, b4, b5, b6⟩ := id hBB
  obtain ⟨q1, q2, q3, q4, q5, q6, q7, q8, q9⟩ := id hK
  have hp12 := pow_le12 b4
  have hpos : 0 < 2 ^ h := Nat.two_pow_pos h
  unfold fX11_searchLeast fX12_finds
  rw [sX1_knows q2 (by omega), ob_some, nm_eq, sX12_isKey (k := sI n 11 0 0) (c := kc) (by exact q3) (by omega), ob_some]
  by_cases h1 : inb a0 kc = true
  case neg =>
    rw [if_neg h1, if_neg h1]
    exact Or.inl ⟨rfl, rfl⟩
  rw [if_pos h1, if_pos h1, show fX12_isIn (sI n 11 0 0) a1 0 1 = some (in1 a1 0 1, sI n 11 0 0) from isIn_nI _ a1 0 1 (by decide) (by decide), ob_some]
  by_cases h2 : in1 a1 0 1 = true
  case neg =>
    rw [if_neg h2]
    refine Or.inl ⟨?_, rfl⟩
    by_cases h3 : a1 < 0
    · rw [if_pos h3]
    · rw [if_neg h3, if_neg]
      intro q
      obtain ⟨z, hz, rfl⟩ := nI_of h3
      have : z ≤ 1 := (nI_leI (b := 1) hz (by decide)).mp q
      exact h2 (in1_iff.mpr ⟨by rw [nI_toInt hz]; omega, by rw [nI_toInt hz]; omega⟩)
  refine Or.inr ?_
  obtain ⟨a, ha, rfl⟩ := inb_of h1 (by omega)
  obtain ⟨v, _, v2, rfl⟩ := in1_of h2 (by decide)
  have m0 : isM n (sI n 11 0 0) := (isM.rf n).sI 0 (by decide)
  obtain ⟨k', n', hold, c1, c2, c3, c4, c5⟩ := reach_of (n := sI n 11 0 0) ht hBB hK hG hW hP (Nat.le_refl d)
  have c4' : isM n n' := m0.tr c4
  obtain ⟨r1, ⟨c, st1, st2⟩, ⟨cl, lv1, lv2⟩, r4⟩ := id c3
  obtain ⟨s1, s2⟩ := src_of st2 st1 (show a < 40 by omega)
  obtain ⟨k2, c', lv', e1, e2, e3, e4, e5, e6⟩ := keep_of hP q1 lv1 lv2 s2 r1
  have hhl := hAny_lt hold (srcO (psG k (nI d) kc wc) a)
  have cG : ∀ S, S < 2 ^ h → ∀ z, zI k k2 z → fX4_comesTo z (nI S) (nI (fN (hAny hold (srcO (psG k (nI d) kc wc) a)) 12 0)) = some ((getS k (nI d) kc wc pc (fun i => vN (gA k 15 i)) hold S).testBit a, z) := fun S hS z hz => by
    obtain ⟨b, w1, w2⟩ := comes_of (k'' := z) (lv' := lv') (c' := c') hP b4 (nd := fun i => vN (gA k 15 i)) (fun i => vN_lt _) e3 (by rw [hz.2.2.2]; exact e4) (fun i hi => by rw [hz.2.1 23, hz.2.1 21, hz.2.1 22]; exact e5 i hi) (S := S) (hs := fN (hAny hold (srcO (psG k (nI d) kc wc) a)) 12 0) (by omega) (by omega)
    rw [w1]
    have := w2.trans (comes_get (nd := fun i => vN (gA k 15 i)) (hold := hold) st2 (show a < 40 by omega) (once_lt hP q1 (fun x hx => (r4 x hx).1) S) e6 (by omega))
    rw [Bool.eq_iff_iff.mpr this]
  have cM : ∀ y, yI n n' y → ∀ S, S < 2 ^ h → fX12_closes y (nI S) (nI d) (-1) 0 = some (lN (getS k (nI d) kc wc pc (fun i => vN (gA k 15 i)) hold S), y) := fun y hy S hS => closes_M (by rw [hy.1.i 11 12 (by decide)]; exact b6) (hy.1.gK hK) (hy.1.gW hW) (hy.1.gP hP) b4 (by omega) b1 (fun i => vN_lt _) (fun x hx => (r4 x hx).1) (fun x hx => by rw [hy.2 122]; exact c5 x hx) hS (-1) 0 (need_no (hy.1.gP hP))
  have hall : ∀ z, isS k z → fX11_allHolders z = some (nI (2 ^ h - 1), z) := fun z hz => by
    unfold fX11_allHolders
    rw [hz.i 10 1 (by decide) (by decide), b5, shl1 h (by omega), show nI (2 ^ h) - 1 = nI (2 ^ h - 1) from pk_sub (b := 1) hpos]
  have z0 : zI k k2 (sI (sI (sI k2 3 9 13) 3 10 0) 3 11 0) := (((show zI k k2 k2 from ⟨e2, fun _ => rfl, fun _ => rfl, rfl⟩).s 13 (by decide)).s 0 (by decide)).s 0 (by decide)
  have y0 : yI n n' (sI (sI n' 11 83 (-1)) 11 84 0) := ((show yI n n' n' from ⟨c4', fun _ => rfl⟩).s (-1) (by decide)).s 0 (by decide)
  have hlt : ∀ S, getS k (nI d) kc wc pc (fun i => vN (gA k 15 i)) hold S < 2 ^ 40 := fun S => get_lt hK hW hP (fun x hx => (r4 x hx).1) S
  have fin : ∀ (v2 : Bool) (T : Nat → Bool), (∀ z, zI k k2 z → ∀ S, 1 ≤ S → S < 2 ^ h → ∃ r : Bool, (v2 = true → fX4_comesTo z (nI S) (nI (fN (hAny hold (srcO (psG k (nI d) kc wc) a)) 12 0)) = some (r, z)) ∧ (v2 = false → fX4_comesTo z (nI (2 ^ h - 1) &&& (nI S ^^^ (-1))) (nI (fN (hAny hold (srcO (psG k (nI d) kc wc) a)) 12 0)) = some (r, z)) ∧ (b2i r = b2i v2 ↔ T S = true)) →
      (∀ y, yI n n' y → ∀ S, 1 ≤ S → S < 2 ^ h → fX12_harms y (nI S) (nI a) (nI v) = some (T S, y)) →
      ∃ z y fb, (ob (fX4_searchLeast k' (nI a) v2 (nI (2 ^ h - 1))) fun r14 k15 => if (gI k15 3 10) ≤ 0 then some (false, k15) else some (true, k15)) = some (fb, z) ∧ (lpX12_finds_44 (nI a) (nI v) FU 1 (sI (sI n' 11 83 (-1)) 11 84 0) fun y35 k36 => if (gI k36 11 83) = (-1) then some (false, k36) else some (true, k36)) = some (fb, y) ∧ isS k z ∧ isM n y ∧ (fb = true → ∃ b u, b < 4096 ∧ gI z 3 9 = nI (pcn b 12) ∧ gI z 3 10 = nI u ∧ gI z 3 11 = nI b ∧ gI y 11 83 = nI b ∧ gI y 11 84 = nI u) := fun v2 T g1 g2 => by
    obtain ⟨z', y', w1, w2, w3, w4, w5⟩ := least_lp b4 b6 (nI a) (nI (fN (hAny hold (srcO (psG k (nI d) kc wc) a)) 12 0)) (nI v) v2 (lN (srcO (psG k (nI d) kc wc) a)) T g1 g2 (fun y35 k36 => if (gI k36 11 83) = (-1) then some (false, k36) else some (true, k36)) (2 ^ h - 1) 4999 1 _ _ (by omega) (by omega) (Nat.le_refl 1) z0 y0 (Or.inl ⟨rfl, rfl, rfl⟩)
    unfold fX4_searchLeast
    rw [s1, ob_some, hany_of r4 s2, ob_some, e1, ob_some, nm_eq, nm_eq, nm_eq, FU_g]
    rw [show lpX4_searchLeast_40 (nI a) v2 (nI (2 ^ h - 1)) (lN (srcO (psG k (nI d) kc wc) a)) (nI (fN (hAny hold (srcO (psG k (nI d) kc wc) a)) 12 0)) (4999 + 1) 1 (sI (sI (sI k2 3 9 13) 3 10 0) 3 11 0) (fun y33 k34 => some ((), k34)) = some ((), z') from w1, ob_some]
    refine ⟨z', y', if gI z' 3 10 ≤ 0 then false else true, ?_, ?_, w3.1, w4.1, ?_⟩
    · split <;> rfl
    · refine Eq.trans w2 ?_
      rcases w5 with ⟨x1, x2, x3⟩ | ⟨b, u, x1, x2, x3, x4, x5, x6, x7, x8⟩
      · rw [x2, x3, if_pos rfl, if_pos (by decide)]
      · rw [x5, x7, if_neg (nI_ne_m1 (by omega)), if_neg (nge0 (by omega) (by omega))]
    · intro hfb
      rcases w5 with ⟨x1, x2, x3⟩ | ⟨b, u, x1, x2, x3, x4, x5, x6, x7, x8⟩
      · rw [x2, if_pos (by decide)] at hfb
        cases hfb
      · exact ⟨b, u, x1, x4, x5, x6, x7, x8⟩
  rw [if_neg (nI_pos (by omega)), if_pos (show nI v ≤ 1 from nI_le (b := 1) v2 (by decide)), if_pos h2, b2, c1, ob_some, show gI (sI n 11 0 0) 11 1 = nI d from b3, c2, ob_some, nm_eq, nm_eq]
  have hv : v = 0 ∨ v = 1 := by omega
  rcases hv with rfl | rfl
  · rw [if_neg (show ¬ nI 0 = 1 by decide), hall k' r1, ob_some]
    refine fin false (fun S => !((getS k (nI d) kc wc pc (fun i => vN (gA k 15 i)) hold ((2 ^ h - 1) &&& (S ^^^ 4294967295))).testBit a)) (fun z hz S hS1 hS2 => ⟨(getS k (nI d) kc wc pc (fun i => vN (gA k 15 i)) hold ((2 ^ h - 1) &&& (S ^^^ 4294967295))).testBit a, (fun w => by cases w), fun _ => ?_, ?_⟩) (fun y hy S hS1 hS2 => ?_)
    · have ho := (oth_of (S := S) b4).1
      rw [shl1 h (by omega), show nI (2 ^ h) - 1 = nI (2 ^ h - 1) from pk_sub (b := 1) hpos] at ho
      rw [ho]
      exact cG _ (oth_of (S := S) b4).2 z hz
    · cases (getS k (nI d) kc wc pc (fun i => vN (gA k 15 i)) hold ((2 ^ h - 1) &&& (S ^^^ 4294967295))).testBit a <;> simp [b2i]
    · unfold fX12_harms fX12_others
      rw [if_neg (by decide), hy.1.i 11 12 (by decide), b6, (oth_of (S := S) b4).1, ob_some, hy.1.i 11 1 (by decide), b3, cM y hy _ (oth_of (S := S) b4).2, ob_some, ifeq (lbit0 (hlt _) (show a < 64 by omega))]
      cases (getS k (nI d) kc wc pc (fun i => vN (gA k 15 i)) hold ((2 ^ h - 1) &&& (S ^^^ 4294967295))).testBit a <;> rfl
  · rw [if_pos (show nI 1 = 1 from rfl), hall k' r1, ob_some]
    refine fin true (fun S => (getS k (nI d) kc wc pc (fun i => vN (gA k 15 i)) hold S).testBit a) (fun z hz S hS1 hS2 => ⟨(getS k (nI d) kc wc pc (fun i => vN (gA k 15 i)) hold S).testBit a, fun _ => cG S hS2 z hz, (fun w => by cases w), ?_⟩) (fun y hy S hS1 hS2 => ?_)
    · cases (getS k (nI d) kc wc pc (fun i => vN (gA k 15 i)) hold S).testBit a <;> simp [b2i]
    · unfold fX12_harms
      rw [if_pos (show nI 1 = 1 from rfl), hy.1.i 11 1 (by decide), b3, cM y hy S hS2, ob_some, ifeq (lbit (hlt _) (show a < 64 by omega))]
      cases (getS k (nI d) kc wc pc (fun i => vN (gA k 15 i)) hold S).testBit a <;> rfl
theorem pair_least (t : Nat) (k n : ST) (a0 : Int32) (a1 : Int32) (ht : t < 512) (hr : Rel t k n) : PR (t + 1) (fX11_least k a0 a1) (fX12_least n a0 a1) := by
  have hr0 := rel_step hr
  obtain ⟨d, h, kc, bc, gc, wc, pc, rc, dc, tc, sc, ic, lc, fc, ln, bn, hB, hK, hU, hG, hW, hP, hR, hD, hT, hS, hI, hL, hF, hA, hJ, hX⟩ := hr
  unfold fX11_least fX12_least
  rcases find_of (by omega) hB hK hG hW hP a0 a1 with ⟨e1, e2⟩ | ⟨z, y, fb, e1, e2, e3, e4, e5⟩
  · rw [e1, e2, ob_some, ob_some]
    exact PR_mk (rel_thr 0 hr0)
  · rw [e1, e2, ob_some, ob_some]
    have hrel := e4.rel (e3.rel hr0)
    cases fb
    · exact PR_mk hrel
    obtain ⟨b, u, f0, f1, f2, f3, f4, f5⟩ := e5 rfl
    rw [if_pos rfl, if_pos rfl]
    rw [f1, f4, bc_of y f0, ob_some]
    exact PR_mk hrel
theorem pair_ways (t : Nat) (k n : ST) (a0 : Int32) (a1 : Int32) (ht : t < 512) (hr : Rel t k n) : PR (t + 1) (fX11_ways k a0 a1) (fX12_ways n a0 a1) := by
  have hr0 := rel_step hr
  obtain ⟨d, h, kc, bc, gc, wc, pc, rc, dc, tc, sc, ic, lc, fc, ln, bn, hB, hK, hU, hG, hW, hP, hR, hD, hT, hS, hI, hL, hF, hA, hJ, hX⟩ := hr
  unfold fX11_ways fX12_ways
  rcases find_of (by omega) hB hK hG hW hP a0 a1 with ⟨e1, e2⟩ | ⟨z, y, fb, e1, e2, e3, e4, e5⟩
  · rw [e1, e2, ob_some, ob_some]
    exact PR_mk (rel_thr 0 hr0)
  · rw [e1, e2, ob_some, ob_some]
    have hrel := e4.rel (e3.rel hr0)
    cases fb
    · exact PR_mk hrel
    obtain ⟨b, u, f0, f1, f2, f3, f4, f5⟩ := e5 rfl
    rw [if_pos rfl, if_pos rfl]
    rw [f2, f5]
    exact PR_mk hrel
theorem pair_first (t : Nat) (k n : ST) (a0 : Int32) (a1 : Int32) (ht : t < 512) (hr : Rel t k n) : PR (t + 1) (fX11_first k a0 a1) (fX12_first n a0 a1) := by
  have hr0 := rel_step hr
  obtain ⟨d, h, kc, bc, gc, wc, pc, rc, dc, tc, sc, ic, lc, fc, ln, bn, hB, hK, hU, hG, hW, hP, hR, hD, hT, hS, hI, hL, hF, hA, hJ, hX⟩ := hr
  unfold fX11_first fX12_first
  rcases find_of (by omega) hB hK hG hW hP a0 a1 with ⟨e1, e2⟩ | ⟨z, y, fb, e1, e2, e3, e4, e5⟩
  · rw [e1, e2, ob_some, ob_some]
    exact PR_mk (rel_thr 0 hr0)
  · rw [e1, e2, ob_some, ob_some]
    have hrel := e4.rel (e3.rel hr0)
    cases fb
    · exact PR_mk hrel
    obtain ⟨b, u, f0, f1, f2, f3, f4, f5⟩ := e5 rfl
    rw [if_pos rfl, if_pos rfl]
    rw [f3, f4]
    exact PR_mk hrel
