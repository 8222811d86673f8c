theorem fN_inv {α : Type} {P : α → Prop} {f : Nat → α → α} {v : α} : ∀ {c : Nat}, (∀ i, i < c → ∀ u, P u → P (f i u)) → P v → P (fN f c v)
  | 0, _, h => h
  | c + 1, h, hv => h c (by omega) _ (fN_inv (fun i hi => h i (by omega)) hv)
theorem fN_skip {α : Type} {f : Nat → α → α} {v : α} {h : Nat} : ∀ {m : Nat}, h ≤ m → (∀ i, h ≤ i → i < m → ∀ u, f i u = u) → fN f m v = fN f h v
  | 0, h0, _ => by rw [show h = 0 by omega]
  | m + 1, h0, h1 => by
    rcases Nat.lt_or_ge m h with q | q
    · rw [show h = m + 1 by omega]
    · rw [fN_s, h1 m q (by omega), fN_skip q (fun i a b => h1 i a (by omega))]
theorem isS.gW {k k' n : ST} (hs : isS k k') {wc kc d : Nat} (H : gWrap wc kc d k n) : gWrap wc kc d k' n := by
  rw [hs.eq]
  exact H
theorem isS.gP {k k' n : ST} (hs : isS k k') {pc kc h d : Nat} (H : gPart pc kc h d k n) : gPart pc kc h d k' n := by
  rw [hs.eq]
  exact gPart.fr H rfl rfl rfl rfl rfl rfl rfl rfl rfl rfl rfl rfl rfl (fun i => by
    show (if sRow (59 + i) = true then k'.2.1 (59 + i) else k.2.1 (59 + i)) = k.2.1 (59 + i)
    rw [sRow_59]
    rfl)
theorem isS.wE {k k' : ST} (hs : isS k k') (i : Nat) (q : Int32) : onW k' i q = onW k i q := by
  unfold onW
  rw [hs.a 55 rfl, hs.a 56 rfl]
theorem isS.fE {k k' : ST} (hs : isS k k') (i : Nat) (q : Int32) : inF k' i q = inF k i q := by
  unfold inF
  rw [hs.a 16 rfl, hs.a 17 rfl]
/-! the steps from key to key -/
def kF (k : ST) (q : Int32) (F : Nat → Nat → Nat → Nat) (j u : Nat) : Nat := if gA k 1 j = 2 ∧ ¬ q < gA k 3 j then F (vN (gA k 2 j)) j u else u
def wF (k : ST) (q : Int32) (F : Nat → Nat → Nat → Nat) (i u : Nat) : Nat := if onW k i q = true then F (vN (gA k 54 i)) (vN (gA k 53 i)) u else u
theorem kF_y {k : ST} {q : Int32} {F : Nat → Nat → Nat → Nat} {j u : Nat} (h : gA k 1 j = 2 ∧ ¬ q < gA k 3 j) : kF k q F j u = F (vN (gA k 2 j)) j u := if_pos h
theorem kF_n {k : ST} {q : Int32} {F : Nat → Nat → Nat → Nat} {j u : Nat} (h : ¬ (gA k 1 j = 2 ∧ ¬ q < gA k 3 j)) : kF k q F j u = u := if_neg h
theorem wF_y {k : ST} {q : Int32} {F : Nat → Nat → Nat → Nat} {i u : Nat} (h : onW k i q = true) : wF k q F i u = F (vN (gA k 54 i)) (vN (gA k 53 i)) u := if_pos h
theorem wF_n {k : ST} {q : Int32} {F : Nat → Nat → Nat → Nat} {i u : Nat} (h : ¬ onW k i q = true) : wF k q F i u = u := if_neg h
def psG (k : ST) (q : Int32) (kc wc : Nat) (F : Nat → Nat → Nat → Nat) (v : Nat) : Nat := fN (wF k q F) wc (fN (kF k q F) kc v)
def stI (c : Nat) (k' : ST) (G : (Nat → Nat → Nat → Nat) → Nat → Nat) : Prop := gI k' 3 8 = nI c ∧ (∀ i, i < c → (∃ a, a < 40 ∧ gA k' 24 i = nI a) ∧ ∃ b, b < 40 ∧ gA k' 25 i = nI b) ∧ ∀ F v, fN (fun i => F (vN (gA k' 24 i)) (vN (gA k' 25 i))) c v = G F v
theorem step_of {c a b : Nat} {k' : ST} {G : (Nat → Nat → Nat → Nat) → Nat → Nat} (h : stI c k' G) (hc : c < 80) (ha : a < 40) (hb : b < 40) :
    fX4_addStep k' (nI a) (nI b) = some ((), sI (sA (sA k' 24 c (nI a)) 25 c (nI b)) 3 8 (nI (c + 1))) ∧ stI (c + 1) (sI (sA (sA k' 24 c (nI a)) 25 c (nI b)) 3 8 (nI (c + 1))) (fun F v => F a b (G F v)) := by
  obtain ⟨h1, h2, h3⟩ := h
  have f3 : (80 ≤ nI c) = False := eq_false (nI_ge (b := 80) hc (by decide))
  have f4 : inb (nI c) 80 = true := inb_nI hc (by decide)
  have f5 : ix (nI c) = c := ix_nI (by omega)
  refine ⟨?_, rfl, ?_, fun F v => ?_⟩
  · unfold fX4_addStep
    simp only [h1, f3, f4, f5, nm_eq, ob_some, ck_true, gI_sI, gI_sA, gA_sI, gA_sA, gL_sI, gL_sA, Nat.reduceEqDiff, eq_self, if_true, if_false, reduceIte, ite_self, Bool.false_eq_true, nI_1, nI_pred]
  · show ∀ i, i < c + 1 → (∃ a', a' < 40 ∧ upd (gA k' 24) c (nI a) i = nI a') ∧ ∃ b', b' < 40 ∧ upd (gA k' 25) c (nI b) i = nI b'
    refine ext1 (fun i hi => ?_) ?_
    · rw [un (by omega), un (by omega)]
      exact h2 i hi
    · rw [us, us]
      exact ⟨⟨a, ha, rfl⟩, b, hb, rfl⟩
  · show fN (fun i => F (vN (upd (gA k' 24) c (nI a) i)) (vN (upd (gA k' 25) c (nI b) i))) (c + 1) v = F a b (G F v)
    rw [fN_s, us, us, vN_nI (by omega), vN_nI (by omega), ← h3 F v]
    refine congrArg (F a b) (fN_cong v (fun i hi u => ?_))
    rw [un (by omega), un (by omega)]
def fr8 (k' k'' : ST) : Prop := (∀ a, a ≠ 24 → a ≠ 25 → gA k'' a = gA k' a) ∧ (∀ a, gL k'' a = gL k' a) ∧ gI k'' 3 5 = gI k' 3 5
theorem fr8.rf (k : ST) : fr8 k k := ⟨fun _ _ _ => rfl, fun _ => rfl, rfl⟩
theorem fr8.tr {k k' k'' : ST} (h : fr8 k k') (h' : fr8 k' k'') : fr8 k k'' := ⟨fun a b c => (h'.1 a b c).trans (h.1 a b c), fun a => (h'.2.1 a).trans (h.2.1 a), h'.2.2.trans h.2.2⟩
theorem fr8_st (k : ST) (c : Nat) (a b x : Int32) : fr8 k (sI (sA (sA k 24 c a) 25 c b) 3 8 x) := ⟨fun r h1 h2 => by rw [gA_sI, gA_sA, if_neg h2, gA_sA, if_neg h1], fun _ => rfl, rfl⟩
theorem set24 {kc d : Nat} {k n : ST} (H : gKeys kc d k n) (q : Int32) (cont : Int32 → ST → Option (Unit × ST)) :
    ∀ (r g m : Nat) (k' : ST), m + r = kc → r ≤ g → isS k k' → (∃ c, c ≤ m ∧ stI c k' (fun F v => fN (kF k q F) m v)) →
    ∃ k'', lpX4_settle_24 q (g + 1) (nI m) k' cont = cont (nI kc) k'' ∧ isS k k'' ∧ fr8 k' k'' ∧ ∃ c, c ≤ kc ∧ stI c k'' (fun F v => fN (kF k q F) kc v) := by
  obtain ⟨q1, q2, q3, q4, q5, q6, q7, q8, q9⟩ := H
  intro r
  induction r with
  | zero =>
    intro g m k' hm _ hs hc
    have : m = kc := by omega
    subst this
    exact ⟨k', by rw [lpX4_settle_24, hs.i 0 0 (by decide) (by decide), q2, if_pos (nI_le (by omega) (by omega))], hs, fr8.rf k', hc⟩
  | succ r ih =>
    intro g m k' hm hg hs hc
    obtain ⟨g, rfl⟩ : ∃ z, g = z + 1 := ⟨g - 1, by omega⟩
    obtain ⟨c, c1, c2⟩ := hc
    obtain ⟨_, _, r1, _⟩ := q9 m (by omega)
    rw [lpX4_settle_24, hs.i 0 0 (by decide) (by decide), q2, if_neg (nI_ge (by omega) (by omega)), inb_nI (show m < 40 by omega) (by decide), ck_true, ck_true, ck_true, ix_nI (by omega), hs.a 1 rfl, hs.a 3 rfl, hs.a 2 rfl, nI_1]
    have no : ¬ (gA k 1 m = 2 ∧ ¬ q < gA k 3 m) → ∃ c, c ≤ m + 1 ∧ stI c k' (fun F v => fN (kF k q F) (m + 1) v) := fun z => ⟨c, by omega, c2.1, c2.2.1, fun F v => by
      rw [c2.2.2 F v]
      dsimp only
      rw [fN_s]
      rw [kF_n z]⟩
    by_cases h1 : gA k 1 m = 2
    · rw [if_pos h1]
      by_cases h2 : q < gA k 3 m
      · rw [if_pos h2]
        exact ih g (m + 1) k' (by omega) (by omega) hs (no (fun z => z.2 h2))
      · rw [if_neg h2]
        obtain ⟨a, a1, a2⟩ := r1 h1
        obtain ⟨s1, s2⟩ := step_of (a := a) (b := m) c2 (by omega) (by omega) (by omega)
        rw [a2, s1, ob_some]
        obtain ⟨k'', e1, e2, e3, e4⟩ := ih g (m + 1) _ (by omega) (by omega) (((hs.sA c (nI a) (r := 24) rfl).sA c (nI m) (r := 25) rfl).s3 8 (nI (c + 1))) ⟨c + 1, by omega, s2.1, s2.2.1, fun F v => by
          rw [s2.2.2 F v]
          dsimp only
          rw [fN_s]
          rw [kF_y ⟨h1, h2⟩, a2, vN_nI (by omega)]⟩
        exact ⟨k'', e1, e2, (fr8_st k' c _ _ _).tr e3, e4⟩
    · rw [if_neg h1]
      exact ih g (m + 1) k' (by omega) (by omega) hs (no (fun z => h1 z.1))
theorem set77 {wc kc d : Nat} {k n : ST} (H : gWrap wc kc d k n) (hkc : kc ≤ 40) (q : Int32) (cont : Int32 → ST → Option (Unit × ST)) :
    ∀ (r g m : Nat) (k' : ST), m + r = wc → r ≤ g → isS k k' → (∃ c, c ≤ kc + m ∧ stI c k' (fun F v => fN (wF k q F) m (fN (kF k q F) kc v))) →
    ∃ k'', lpX4_settle_77 q (g + 1) (nI m) k' cont = cont (nI wc) k'' ∧ isS k k'' ∧ fr8 k' k'' ∧ ∃ c, c ≤ 80 ∧ stI c k'' (psG k q kc wc) := by
  obtain ⟨q1, q2, q3, q4, q5, q6, q7⟩ := id H
  intro r
  induction r with
  | zero =>
    intro g m k' hm _ hs hc
    have : m = wc := by omega
    subst this
    obtain ⟨c, c1, c2⟩ := hc
    exact ⟨k', by rw [lpX4_settle_77, hs.i 9 5 (by decide) (by decide), q2, if_pos (nI_le (by omega) (by omega))], hs, fr8.rf k', c, by omega, c2⟩
  | succ r ih =>
    intro g m k' hm hg hs hc
    obtain ⟨g, rfl⟩ : ∃ z, g = z + 1 := ⟨g - 1, by omega⟩
    obtain ⟨c, c1, c2⟩ := hc
    obtain ⟨⟨a, a1, a2⟩, ⟨b, b1, b2⟩, _⟩ := q7 m (by omega)
    have hw : fX10_isWrapOn k' (nI m) q = some (onW k m q, k') := by
      rw [wrap_K (hs.gW H) (show m < wc by omega) q, hs.wE m q]
    rw [lpX4_settle_77, hs.i 9 5 (by decide) (by decide), q2, if_neg (nI_ge (by omega) (by omega)), hw, ob_some, inb_nI (show m < 40 by omega) (by decide), ck_true, ck_true, ix_nI (by omega), hs.a 53 rfl, hs.a 54 rfl, a2, b2, nI_1]
    by_cases h1 : onW k m q = true
    · rw [if_pos h1]
      obtain ⟨s1, s2⟩ := step_of (a := b) (b := a) c2 (by omega) (by omega) (by omega)
      rw [s1, ob_some]
      obtain ⟨k'', e1, e2, e3, e4⟩ := ih g (m + 1) _ (by omega) (by omega) (((hs.sA c (nI b) (r := 24) rfl).sA c (nI a) (r := 25) rfl).s3 8 (nI (c + 1))) ⟨c + 1, by omega, s2.1, s2.2.1, fun F v => by
        rw [s2.2.2 F v]
        dsimp only
        rw [fN_s]
        rw [wF_y h1, a2, b2, vN_nI (by omega), vN_nI (by omega)]⟩
      exact ⟨k'', e1, e2, (fr8_st k' c _ _ _).tr e3, e4⟩
    · rw [if_neg h1]
      exact ih g (m + 1) k' (by omega) (by omega) hs ⟨c, by omega, c2.1, c2.2.1, fun F v => by
        rw [c2.2.2 F v]
        dsimp only
        rw [fN_s]
        rw [wF_n h1]⟩
/-! the partings in force -/
def lvI (k : ST) (q : Int32) (nd : Nat → Nat) (m c : Nat) (k' : ST) : Prop := gI k' 3 5 = nI c ∧ ∃ lv : Nat → Nat, (∀ i, i < c → lv i < m ∧ gA k' 23 i = nI (lv i) ∧ gA k' 20 (lv i) = gA k 13 (lv i) ∧ gA k' 21 (lv i) = gA k 14 (lv i) ∧ gA k' 22 (lv i) = nI (nd (lv i))) ∧ ∀ (F : Nat → Nat → Nat) v, fN (fun i => F (lv i)) c v = fN (fun i u => if inF k i q = true then F i u else u) m v
theorem setP {pc kc h d : Nat} {k n : ST} (H : gPart pc kc h d k n) (q : Int32) (cont : Int32 → ST → Option (Unit × ST)) :
    ∀ (r g m : Nat) (k' : ST), m + r = pc → r ≤ g → isS k k' → (∃ c, c ≤ m ∧ lvI k q (fun i => vN (gA k 15 i)) m c k') →
    ∃ k'', lpX4_settlePartings_7 q (g + 1) (nI m) k' cont = cont (nI pc) k'' ∧ isS k k'' ∧ (∀ a, gL k'' a = gL k' a) ∧ ∃ c, c ≤ pc ∧ lvI k q (fun i => vN (gA k 15 i)) pc c k'' := by
  obtain ⟨q1, q2, q3, q4, q5, q6, q7, q8⟩ := id H
  intro r
  induction r with
  | zero =>
    intro g m k' hm _ hs hc
    have : m = pc := by omega
    subst this
    exact ⟨k', by rw [lpX4_settlePartings_7, hs.i 2 0 (by decide) (by decide), q2, if_pos (nI_le (by omega) (by omega))], hs, fun _ => rfl, hc⟩
  | succ r ih =>
    intro g m k' hm hg hs hc
    obtain ⟨g, rfl⟩ : ∃ z, g = z + 1 := ⟨g - 1, by omega⟩
    obtain ⟨c, c1, c2, lv, c3, c4⟩ := hc
    obtain ⟨⟨a, a1, a2⟩, ⟨S, w, s1, s2, s3, s4, s5, s6, _⟩, _⟩ := q8 m (by omega)
    have hw5 := pcn_le S 12
    have hf : fX3_inForce k' (nI m) q = some (inF k m q, k') := by
      rw [force_K (hs.gP H) (show m < pc by omega) q, hs.fE m q]
    have f1 : inb (nI m) 40 = true := inb_nI (by omega) (by decide)
    have f2 : ix (nI m) = m := ix_nI (by omega)
    have f3 : inb (nI c) 40 = true := inb_nI (by omega) (by decide)
    have f4 : ix (nI c) = c := ix_nI (by omega)
    rw [lpX4_settlePartings_7, hs.i 2 0 (by decide) (by decide), q2, if_neg (nI_ge (by omega) (by omega)), hf, ob_some]
    by_cases h1 : inF k m q = true
    · simp only [h1, f1, f2, f3, f4, c2, hs.a 13 rfl, hs.a 14 rfl, hs.a 15 rfl, nm_eq, ob_some, ck_true, gI_sI, gI_sA, gA_sI, gA_sA, gL_sI, gL_sA, Nat.reduceEqDiff, eq_self, if_true, if_false, reduceIte, ite_self, Bool.false_eq_true, nI_1, nI_pred]
      obtain ⟨k'', e1, e2, e3, e4⟩ := ih g (m + 1) (sI (sA (sA (sA (sA k' 20 m (gA k 13 m)) 21 m (gA k 14 m)) 22 m (gA k 15 m)) 23 c (nI m)) 3 5 (nI (c + 1))) (by omega) (by omega) (((((hs.sA m (gA k 13 m) (r := 20) rfl).sA m (gA k 14 m) (r := 21) rfl).sA m (gA k 15 m) (r := 22) rfl).sA c (nI m) (r := 23) rfl).s3 5 (nI (c + 1))) ⟨c + 1, by omega, rfl, fun i => if i = c then m else lv i, by
          show ∀ i, i < c + 1 → (if i = c then m else lv i) < m + 1 ∧ upd (gA k' 23) c (nI m) i = nI (if i = c then m else lv i) ∧ upd (gA k' 20) m (gA k 13 m) (if i = c then m else lv i) = gA k 13 (if i = c then m else lv i) ∧ upd (gA k' 21) m (gA k 14 m) (if i = c then m else lv i) = gA k 14 (if i = c then m else lv i) ∧ upd (gA k' 22) m (gA k 15 m) (if i = c then m else lv i) = nI (vN (gA k 15 (if i = c then m else lv i)))
          refine ext1 (fun i hi => ?_) ?_
          · obtain ⟨l1, l2, l3, l4, l5⟩ := c3 i hi
            rw [if_neg (by omega), un (by omega), un (by omega), un (by omega), un (by omega)]
            exact ⟨by omega, l2, l3, l4, l5⟩
          · rw [if_pos rfl, us, us, us, us]
            exact ⟨by omega, rfl, rfl, rfl, by rw [s6, vN_nI (by omega)]⟩, fun F v => by
          show F (if c = c then m else lv c) (fN (fun i => F (if i = c then m else lv i)) c v) = (if inF k m q = true then F m (fN (fun i u => if inF k i q = true then F i u else u) m v) else fN (fun i u => if inF k i q = true then F i u else u) m v)
          rw [if_pos rfl, if_pos h1, ← c4 F v]
          refine congrArg (F m) (fN_cong v (fun i hi u => ?_))
          rw [if_neg (by omega)]⟩
      exact ⟨k'', e1, e2, e3, e4⟩
    · rw [if_neg h1, nI_1]
      exact ih g (m + 1) k' (by omega) (by omega) hs ⟨c, by omega, c2, lv, fun i hi => by
        obtain ⟨l1, l⟩ := c3 i hi
        exact ⟨by omega, l⟩, fun F v => by rw [fN_s, if_neg h1, c4 F v]⟩
/-- what Reach knows behind settle -/
def rcK (k : ST) (q : Int32) (kc wc pc : Nat) (nd hold : Nat → Nat) (k' : ST) : Prop := isS k k' ∧ (∃ c, c ≤ 80 ∧ stI c k' (psG k q kc wc)) ∧ (∃ c, c ≤ pc ∧ lvI k q nd pc c k') ∧ ∀ x, x < 12 → hold x < 2 ^ 40 ∧ gL k' 19 x = lN (hold x)
theorem settle_of {t d h kc gc wc pc p : Nat} {k n : ST} {q : Int32} (ht : t < 513) (hh : h ≤ 12) (hK : gKeys kc d k n) (hG : gTurn t gc h kc d k n) (hW : gWrap wc kc d k n) (hP : gPart pc kc h d k n) (hp : p ≤ gc) (H1 : ∀ i, i < p → gA k 52 i ≤ q) (H2 : ∀ i, p ≤ i → i < gc → q < gA k 52 i) :
    ∃ k' hold, fX11_settleReach k q = some ((), k') ∧ rcK k q kc wc pc (fun i => vN (gA k 15 i)) hold k' ∧ ∀ x, x < 12 → ∀ y, y < 40 → (hold x).testBit y = hB (gA k 50) (gA k 51) (nI x) (nI y) p := by
  have hkc : kc ≤ 40 := hK.1
  have hwc : wc ≤ 40 := hW.1
  have hpc : pc ≤ 40 := hP.1
  obtain ⟨k1, a1, a2, a3⟩ := heldOn_of ht hG hh hkc hp H1 H2
  have ⟨hold, hh2⟩ := Classical.axiomOfChoice (r := fun (x : Nat) (b : Nat) => x < 12 → b < 2 ^ 40 ∧ gL k1 19 x = lN b ∧ ∀ y, y < 40 → b.testBit y = hB (gA k 50) (gA k 51) (nI x) (nI y) p) (fun x => by
    by_cases hx : x < 12
    · obtain ⟨b, hb⟩ := a3 x hx
      exact ⟨b, fun _ => hb⟩
    · exact ⟨0, fun z => absurd z hx⟩)
  obtain ⟨k2, b1, b2, b3, b4⟩ := setP hP q (fun y19 k20 => some ((), k20)) pc 4999 0 (sI k1 3 5 0) (by omega) (by omega) (a2.s3 5 0) ⟨0, Nat.le_refl 0, rfl, fun _ => 0, fun i hi => absurd hi (Nat.not_lt_zero i), fun _ _ => rfl⟩
  obtain ⟨k3, c1, c2, c3, c4⟩ := set24 hK q (fun y17 k18 => lpX4_settle_77 q FU 0 k18 fun y29 k30 => some ((), k30)) kc 4999 0 (sI k2 3 8 0) (by omega) (by omega) (b2.s3 8 0) ⟨0, Nat.le_refl 0, rfl, fun i hi => absurd hi (Nat.not_lt_zero i), fun _ _ => rfl⟩
  obtain ⟨c, c5, c6⟩ := c4
  obtain ⟨k4, d1, d2, d3, d4⟩ := set77 hW hkc q (fun y29 k30 => some ((), k30)) wc 4999 0 k3 (by omega) (by omega) c2 ⟨c, by omega, c6⟩
  refine ⟨k4, hold, ?_, ⟨d2, d4, ?_, fun x hx => ⟨(hh2 x hx).1, ?_⟩⟩, fun x hx => (hh2 x hx).2.2⟩
  · unfold fX11_settleReach fX4_settle fX4_settlePartings
    rw [a1, ob_some, nm_eq]
    rw [show lpX4_settlePartings_7 q FU 0 (sI k1 3 5 0) (fun y19 k20 => some ((), k20)) = some ((), k2) from b1, ob_some, nm_eq]
    rw [show lpX4_settle_24 q FU 0 (sI k2 3 8 0) (fun y17 k18 => lpX4_settle_77 q FU 0 k18 fun y29 k30 => some ((), k30)) = lpX4_settle_77 q FU 0 k3 (fun y29 k30 => some ((), k30)) from c1]
    rw [show lpX4_settle_77 q FU 0 k3 (fun y29 k30 => some ((), k30)) = some ((), k4) from d1]
    rfl
  · obtain ⟨c', e1, e2, lv, e3, e4⟩ := b4
    have fr := c3.tr d3
    refine ⟨c', e1, ?_, lv, fun i hi => ?_, e4⟩
    · rw [fr.2.2]
      exact e2
    · rw [fr.1 23 (by decide) (by decide), fr.1 20 (by decide) (by decide), fr.1 21 (by decide) (by decide), fr.1 22 (by decide) (by decide)]
      exact e3 i hi
  · rw [(c3.tr d3).2.1 19]
    show gL k2 19 x = _
    rw [b3 19]
    exact (hh2 x hx).2.1
