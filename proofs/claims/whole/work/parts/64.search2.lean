theorem live_ex {k k' : ST} {q : Int32} {nd : Nat → Nat} {pc c : Nat} (lv : Nat → Nat) (h : ∀ (F : Nat → Nat → Nat) v, fN (fun i => F (lv i)) c v = fN (fun i u => if inF k i q = true then F i u else u) pc v) (Q : Nat → Prop) : (∃ i, i < c ∧ Q (lv i)) ↔ ∃ i, i < pc ∧ inF k i q = true ∧ Q i := by
  have e : ∀ (P : Nat → Prop) (f : Nat → Nat → Nat), (∀ i u, P i → f i u = 1) → (∀ i u, ¬ P i → f i u = u) → ∀ m, fN f m 0 = 1 ↔ ∃ i, i < m ∧ P i := fun P f h1 h2 m => by
    induction m with
    | zero => exact ⟨(fun z => by cases z), fun ⟨i, hi, _⟩ => absurd hi (Nat.not_lt_zero i)⟩
    | succ m ih =>
      rw [fN_s]
      by_cases z : P m
      · rw [h1 m _ z]
        exact ⟨fun _ => ⟨m, by omega, z⟩, fun _ => rfl⟩
      · rw [h2 m _ z, ih]
        constructor
        · rintro ⟨i, a, b⟩
          exact ⟨i, by omega, b⟩
        · rintro ⟨i, a, b⟩
          refine ⟨i, ?_, b⟩
          rcases Nat.lt_or_ge i m with y | y
          · exact y
          · have : i = m := by omega
            subst this
            exact absurd b z
  have h2 := h (fun i u => @ite Nat (Q i) (Classical.propDecidable _) 1 u) 0
  rw [← e (fun i => Q (lv i)) (fun i u => @ite Nat (Q (lv i)) (Classical.propDecidable _) 1 u) (fun i u z => @if_pos _ (Classical.propDecidable _) z _ _ _) (fun i u z => @if_neg _ (Classical.propDecidable _) z _ _ _) c, h2]
  exact e (fun i => inF k i q = true ∧ Q i) (fun i u => if inF k i q = true then @ite Nat (Q i) (Classical.propDecidable _) 1 u else u) (fun i u z => by rw [if_pos z.1]; exact @if_pos _ (Classical.propDecidable _) z.2 _ _ _) (fun i u z => by
    by_cases y : inF k i q = true
    · rw [if_pos y]
      exact @if_neg _ (Classical.propDecidable _) (fun w => z ⟨y, w⟩) _ _ _
    · rw [if_neg y]) pc
/-- behind keepLive: some live parting is such a one -/
theorem keep_of {pc kc h d c : Nat} {k n k' : ST} {q : Int32} {nd : Nat → Nat} (hP : gPart pc kc h d k n) (hkc : kc ≤ 40) (hc : c ≤ pc) (L : lvI k q nd pc c k') {src : Nat} (hs : src < 2 ^ 40) (hS : isS k k') :
    ∃ (k'' : ST) (c' : Nat) (lv' : Nat → Nat), fX4_keepLive k' (lN src) = some ((), k'') ∧ isS k k'' ∧ c' ≤ pc ∧ gI k'' 3 5 = nI c' ∧ (∀ i, i < c' → lv' i < pc ∧ gA k'' 23 i = nI (lv' i) ∧ gA k'' 21 (lv' i) = gA k 14 (lv' i) ∧ gA k'' 22 (lv' i) = nI (nd (lv' i))) ∧ ∀ Q : Nat → Prop, (∃ i, i < c' ∧ Q (lv' i)) ↔ ∃ i, i < pc ∧ inF k i q = true ∧ src.testBit (vN (gA k 13 i)) = true ∧ Q i := by
  obtain ⟨p1, p2, p3, p4, p5, p6, p7, p8⟩ := hP
  obtain ⟨l1, lv, l2, l3⟩ := L
  have key : ∀ (r g i c' : Nat) (lv' : Nat → Nat) (z : ST), i + r = c → r ≤ g → c' ≤ i → isS k z → gI z 3 5 = nI c → (∀ a, a ≠ 23 → gA z a = gA k' a) → (∀ j, i ≤ j → j < c → gA z 23 j = nI (lv j)) → (∀ j, j < c' → lv' j < pc ∧ gA z 23 j = nI (lv' j) ∧ gA k' 21 (lv' j) = gA k 14 (lv' j) ∧ gA k' 22 (lv' j) = nI (nd (lv' j))) → (∀ Q : Nat → Prop, (∃ j, j < c' ∧ Q (lv' j)) ↔ ∃ j, j < i ∧ src.testBit (vN (gA k 13 (lv j))) = true ∧ Q (lv j)) →
      ∃ (z' : ST) (c'' : Nat) (lv'' : Nat → Nat), lpX4_keepLive_5 (lN src) (g + 1) (nI c') (nI i) z (fun y11 y12 k13 => nm (sI k13 3 5 y11) fun k14 => some ((), k14)) = some ((), sI z' 3 5 (nI c'')) ∧ isS k z' ∧ c'' ≤ c ∧ (∀ a, a ≠ 23 → gA z' a = gA k' a) ∧ (∀ j, j < c'' → lv'' j < pc ∧ gA z' 23 j = nI (lv'' j) ∧ gA k' 21 (lv'' j) = gA k 14 (lv'' j) ∧ gA k' 22 (lv'' j) = nI (nd (lv'' j))) ∧ (∀ Q : Nat → Prop, (∃ j, j < c'' ∧ Q (lv'' j)) ↔ ∃ j, j < c ∧ src.testBit (vN (gA k 13 (lv j))) = true ∧ Q (lv j)) := by
    intro r
    induction r with
    | zero =>
      intro g i c' lv' z hi _ hci hz h5 ha hj hl hq
      have : i = c := by omega
      subst this
      refine ⟨z, c', lv', ?_, hz, hci, ha, hl, hq⟩
      rw [lpX4_keepLive_5, h5, if_pos (nI_le (by omega) (by omega)), nm_eq]
    | succ r ih =>
      intro g i c' lv' z hi hg hci hz h5 ha hj hl hq
      obtain ⟨g, rfl⟩ : ∃ z, g = z + 1 := ⟨g - 1, by omega⟩
      obtain ⟨m1, m2, m3, m4, m5⟩ := l2 i (by omega)
      obtain ⟨⟨a, a1, a2⟩, _⟩ := p8 (lv i) m1
      have e13 : vN (gA k 13 (lv i)) = a := by rw [a2, vN_nI (by omega)]
      rw [lpX4_keepLive_5, h5, if_neg (nI_ge (by omega) (by omega)), inb_nI (show i < 40 by omega) (by decide), ck_true, ix_nI (by omega), hj i (by omega) (by omega), inb_nI (show lv i < 40 by omega) (by decide), ck_true, ix_nI (show lv i < 2 ^ 31 by omega), ha 20 (by decide), m3, a2, hasKey_of z (by omega) (by omega), ob_some, nI_1]
      by_cases y : src.testBit a = true
      · rw [if_pos y, ck_true, hj i (by omega) (by omega), inb_nI (show c' < 40 by omega) (by decide), ck_true, nm_eq, ix_nI (show c' < 2 ^ 31 by omega), nI_1]
        refine ih g (i + 1) (c' + 1) (fun j => if j = c' then lv i else lv' j) (sA z 23 c' (nI (lv i))) (by omega) (by omega) (by omega) (hz.sA c' _ (r := 23) rfl) h5 (fun a b => by rw [gA_sA, if_neg b]; exact ha a b) (fun j h1 h2 => ?_) ?_ (fun Q => ?_)
        · rw [gA_sA, if_pos rfl, un (by omega)]
          exact hj j (by omega) h2
        · show ∀ j, j < c' + 1 → (if j = c' then lv i else lv' j) < pc ∧ upd (gA z 23) c' (nI (lv i)) j = nI (if j = c' then lv i else lv' j) ∧ gA k' 21 (if j = c' then lv i else lv' j) = gA k 14 (if j = c' then lv i else lv' j) ∧ gA k' 22 (if j = c' then lv i else lv' j) = nI (nd (if j = c' then lv i else lv' j))
          refine ext1 (fun j hj' => ?_) ?_
          · rw [if_neg (by omega), un (by omega)]
            exact hl j hj'
          · rw [if_pos rfl, us]
            exact ⟨m1, rfl, m4, m5⟩
        · constructor
          · rintro ⟨j, b1, b2⟩
            by_cases e : j = c'
            · subst e
              simp only [if_true] at b2
              exact ⟨i, by omega, by rw [e13]; exact y, b2⟩
            · simp only [e, if_false] at b2
              obtain ⟨j', d1, d2, d3⟩ := (hq Q).mp ⟨j, by omega, b2⟩
              exact ⟨j', by omega, d2, d3⟩
          · rintro ⟨j, b1, b2, b3⟩
            rcases Nat.lt_or_ge j i with e | e
            · obtain ⟨j', d1, d2⟩ := (hq Q).mpr ⟨j, e, b2, b3⟩
              refine ⟨j', by omega, ?_⟩
              simp only [show ¬ j' = c' by omega, if_false]
              exact d2
            · have : j = i := by omega
              subst this
              refine ⟨c', by omega, ?_⟩
              simp only [if_true]
              exact b3
      · rw [if_neg y, nI_1]
        refine ih g (i + 1) c' lv' z (by omega) (by omega) (by omega) hz h5 ha (fun j h1 h2 => hj j (by omega) h2) hl (fun Q => ?_)
        rw [hq Q]
        constructor
        · rintro ⟨j, b1, b2⟩
          exact ⟨j, by omega, b2⟩
        · rintro ⟨j, b1, b2, b3⟩
          refine ⟨j, ?_, b2, b3⟩
          rcases Nat.lt_or_ge j i with e | e
          · exact e
          · have : j = i := by omega
            subst this
            rw [e13] at b2
            exact absurd b2 y
  obtain ⟨z', c'', lv'', r1, r2, r3, r4, r5, r6⟩ := key c 4999 0 0 (fun _ => 0) k' (by omega) (by omega) (Nat.le_refl 0) hS l1 (fun _ _ => rfl) (fun j _ hj => (l2 j hj).2.1) (fun j hj => absurd hj (Nat.not_lt_zero j)) (fun Q => ⟨fun ⟨j, hj, _⟩ => absurd hj (Nat.not_lt_zero j), fun ⟨j, hj, _⟩ => absurd hj (Nat.not_lt_zero j)⟩)
  refine ⟨sI z' 3 5 (nI c''), c'', lv'', ?_, r2.s3 5 _, by omega, rfl, fun i hi => ?_, fun Q => ?_⟩
  · unfold fX4_keepLive
    rw [FU_g]
    exact r1
  · obtain ⟨s1, s2, s3, s4⟩ := r5 i hi
    refine ⟨s1, s2, ?_, ?_⟩
    · rw [gA_sI, r4 21 (by decide)]
      exact s3
    · rw [gA_sI, r4 22 (by decide)]
      exact s4
  · rw [r6 Q, live_ex (k' := k) (nd := nd) lv l3 (fun i => src.testBit (vN (gA k 13 i)) = true ∧ Q i)]
/-- COMES TO: whether a set reaches the key, as the class asks it -/
theorem comes_of {pc kc h d c' : Nat} {k n k'' : ST} {nd : Nat → Nat} {lv' : Nat → Nat} (hP : gPart pc kc h d k n) (hh : h ≤ 12) (hnd : ∀ i, nd i < 2 ^ 31) (hc : c' ≤ pc) (l1 : gI k'' 3 5 = nI c') (l2 : ∀ i, i < c' → lv' i < pc ∧ gA k'' 23 i = nI (lv' i) ∧ gA k'' 21 (lv' i) = gA k 14 (lv' i) ∧ gA k'' 22 (lv' i) = nI (nd (lv' i))) {S hs : Nat} (hS : S < 4096) (hs2 : hs < 4096) :
    ∃ b, fX4_comesTo k'' (nI S) (nI hs) = some (b, k'') ∧ (b = true ↔ S &&& hs ≠ 0 ∨ ∃ i, i < c' ∧ nd (lv' i) ≤ pcn (S &&& vN (gA k 14 (lv' i))) 12) := by
  obtain ⟨p1, p2, p3, p4, p5, p6, p7, p8⟩ := hP
  have hlt : S &&& hs < 4096 := Nat.lt_of_le_of_lt Nat.and_le_left hS
  unfold fX4_comesTo
  rw [fa_and, ifeq (show (nI (S &&& hs) = 0) = (S &&& hs = 0) from propext (nI_eq (b := 0) (by omega) (by decide))), FU_g]
  by_cases z : S &&& hs = 0
  · rw [if_pos z]
    have key : ∀ (r g i : Nat), i + r = c' → r ≤ g → (∀ j, j < i → ¬ nd (lv' j) ≤ pcn (S &&& vN (gA k 14 (lv' j))) 12) → ∃ b, lpX4_comesTo_10 (nI S) (nI hs) (g + 1) (nI i) k'' (fun y8 k9 => some (false, k9)) = some (b, k'') ∧ (b = true ↔ ∃ i, i < c' ∧ nd (lv' i) ≤ pcn (S &&& vN (gA k 14 (lv' i))) 12) := by
      intro r
      induction r with
      | zero =>
        intro g i hi _ hn
        have : i = c' := by omega
        subst this
        refine ⟨false, by rw [lpX4_comesTo_10, l1, if_pos (nI_le (by omega) (by omega))], (fun z => by cases z), fun ⟨j, a, b⟩ => absurd b (hn j a)⟩
      | succ r ih =>
        intro g i hi hg hn
        obtain ⟨g, rfl⟩ : ∃ z, g = z + 1 := ⟨g - 1, by omega⟩
        obtain ⟨m1, m2, m4, m5⟩ := l2 i (by omega)
        obtain ⟨⟨a, a1, a2⟩, ⟨T, w, s1, s2, s3, _⟩, _⟩ := p8 (lv' i) m1
        have hT : T < 4096 := Nat.lt_of_lt_of_le s2 (pow_le12 hh)
        have e14 : vN (gA k 14 (lv' i)) = T := by rw [s3, vN_nI (by omega)]
        rw [lpX4_comesTo_10, l1, if_neg (nI_ge (by omega) (by omega)), inb_nI (show i < 40 by omega) (by decide), ck_true, ix_nI (by omega), m2, suff_of (k := k) (a := a) (show lv' i < 40 by omega) hS hT (hnd (lv' i)) (by rw [m4]; exact s3) m5, ob_some, nI_1]
        by_cases y : nd (lv' i) ≤ pcn (S &&& T) 12
        · rw [decide_eq_true y, if_pos rfl]
          exact ⟨true, rfl, fun _ => ⟨i, by omega, by rw [e14]; exact y⟩, fun _ => rfl⟩
        · rw [decide_eq_false y, if_neg (by decide)]
          exact ih g (i + 1) (by omega) (by omega) (fun j hj => by
            rcases Nat.lt_or_ge j i with e | e
            · exact hn j e
            · have : j = i := by omega
              subst this
              rw [e14]
              exact y)
    obtain ⟨b, b1, b2⟩ := key c' 4999 0 (by omega) (by omega) (fun j hj => absurd hj (Nat.not_lt_zero j))
    refine ⟨b, b1, ?_⟩
    rw [b2]
    exact ⟨fun h => Or.inr h, fun h => by
      rcases h with h | h
      · exact absurd z h
      · exact h⟩
  · rw [if_neg z]
    exact ⟨true, rfl, fun _ => Or.inl z, fun _ => rfl⟩
/-- .. and it is what the closing finds -/
theorem comes_get {pc kc wc c' : Nat} {k : ST} {q : Int32} {nd hold : Nat → Nat} {lv' : Nat → Nat} {a S c : Nat} {k' : ST} (h : stI c k' (psG k q kc wc)) (ha : a < 40) (ho : oncE k q pc nd hold S < 2 ^ 40)
    (hQ : ∀ Q : Nat → Prop, (∃ i, i < c' ∧ Q (lv' i)) ↔ ∃ i, i < pc ∧ inF k i q = true ∧ (srcO (psG k q kc wc) a).testBit (vN (gA k 13 i)) = true ∧ Q i) (hSl : S < 4096) :
    (S &&& fN (hAny hold (srcO (psG k q kc wc) a)) 12 0 ≠ 0 ∨ ∃ i, i < c' ∧ nd (lv' i) ≤ pcn (S &&& vN (gA k 14 (lv' i))) 12) ↔ (getS k q kc wc pc nd hold S).testBit a = true := by
  unfold getS
  rw [src_dual h ha ho]
  rw [hQ (fun i => nd i ≤ pcn (S &&& vN (gA k 14 i)) 12)]
  constructor
  · rintro (h1 | ⟨i, i1, i2, i3, i4⟩)
    · have := Classical.byContradiction (fun w => h1 (and0.mpr w))
      obtain ⟨x, x1, x2⟩ := this
      obtain ⟨x3, x4⟩ := (hAny_bit hold _ x 12).mp x2
      obtain ⟨y, y1, y2⟩ := Classical.byContradiction (fun w => x4 (and0.mpr w))
      exact ⟨y, (pF_bit k q nd S y _ pc).mpr (Or.inl ((hF_bit hold S y 12).mpr ⟨x, x3, x1, y1⟩)), y2⟩
    · exact ⟨vN (gA k 13 i), (pF_bit k q nd S _ _ pc).mpr (Or.inr ⟨i, i1, i2, i4, rfl⟩), i3⟩
  · rintro ⟨y, y1, y2⟩
    rcases (pF_bit k q nd S y _ pc).mp y1 with h1 | ⟨i, i1, i2, i3, i4⟩
    · obtain ⟨x, x1, x2, x3⟩ := (hF_bit hold S y 12).mp h1
      refine Or.inl (fun w => and0.mp w ⟨x, x2, (hAny_bit hold _ x 12).mpr ⟨x1, fun w2 => and0.mp w2 ⟨y, x3, y2⟩⟩⟩)
    · exact Or.inr ⟨i, i1, i2, by rw [i4]; exact y2, i3⟩
