/-! SCRATCH: what a call may leave behind in the class and the model, and no later call reads -/
def sRow (a : Nat) : Bool := decide (19 ≤ a ∧ a ≤ 25) || decide (a = 28) || decide (a = 29) || decide (a = 42)
def scK (k s : ST) : ST := (fun c => if c = 3 then s.1 3 else if c = 4 then (fun f => if f = 0 then k.1 4 0 else s.1 4 f) else k.1 c, fun a => if sRow a = true then s.2.1 a else k.2.1 a, fun a => if a = 19 then s.2.2 19 else k.2.2 a)
def isS (k k' : ST) : Prop := (∀ c f, c ≠ 3 → (c = 4 → f = 0) → gI k' c f = gI k c f) ∧ (∀ a, sRow a = false → gA k' a = gA k a) ∧ ∀ a, a ≠ 19 → gL k' a = gL k a
theorem isS.i {k k' : ST} (h : isS k k') : ∀ c f, c ≠ 3 → (c = 4 → f = 0) → gI k' c f = gI k c f := h.1
theorem isS.a {k k' : ST} (h : isS k k') : ∀ a, sRow a = false → gA k' a = gA k a := h.2.1
theorem isS.l {k k' : ST} (h : isS k k') : ∀ a, a ≠ 19 → gL k' a = gL k a := h.2.2
theorem isS.eq {k k' : ST} (h : isS k k') : k' = scK k k' := by
  have e1 : k'.1 = (scK k k').1 := by
    funext c f
    show k'.1 c f = (if c = 3 then k'.1 3 else if c = 4 then (fun f => if f = 0 then k.1 4 0 else k'.1 4 f) else k.1 c) f
    by_cases h3 : c = 3
    · rw [if_pos h3, h3]
    · rw [if_neg h3]
      by_cases h4 : c = 4
      · rw [if_pos h4, h4]
        show k'.1 4 f = if f = 0 then k.1 4 0 else k'.1 4 f
        by_cases h0 : f = 0
        · rw [if_pos h0, h0]
          exact h.i 4 0 (by decide) (fun _ => rfl)
        · rw [if_neg h0]
      · rw [if_neg h4]
        exact h.i c f h3 (fun z => absurd z h4)
  have e2 : k'.2.1 = (scK k k').2.1 := by
    funext a
    show k'.2.1 a = if sRow a = true then k'.2.1 a else k.2.1 a
    by_cases hs : sRow a = true
    · rw [if_pos hs]
    · rw [if_neg hs]
      exact h.a a (by simpa using hs)
  have e3 : k'.2.2 = (scK k k').2.2 := by
    funext a
    show k'.2.2 a = if a = 19 then k'.2.2 19 else k.2.2 a
    by_cases hs : a = 19
    · rw [if_pos hs, hs]
    · rw [if_neg hs]
      exact h.l a hs
  exact Prod.ext e1 (Prod.ext e2 e3)
theorem sRow_59 (i : Nat) : sRow (59 + i) = false := by
  unfold sRow
  simp
  omega
theorem isS.rel {t : Nat} {k k' n : ST} (hs : isS k k') (hr : Rel t k n) : Rel t k' n := by
  rw [hs.eq]
  obtain ⟨d, h, kc, bc, gc, wc, pc, rc, dc, tc, sc, ic, lc, fc, ln, bn, hB, hK, hU, hG, hW, hP, hR, hD, hT, hS, hI, hL, hF, hA, hJ, hX⟩ := hr
  exact ⟨d, h, kc, bc, gc, wc, pc, rc, dc, tc, sc, ic, lc, fc, ln, bn, hB, hK, hU, hG, hW, gPart.fr hP rfl rfl rfl rfl rfl rfl rfl rfl rfl rfl rfl rfl rfl (fun i => by
    show (if sRow (59 + i) = true then k'.2.1 (59 + i) else k.2.1 (59 + i)) = k.2.1 (59 + i)
    rw [sRow_59]
    rfl), hR, hD, hT, hS, hI, hL, hF, hA, hJ, hX⟩
theorem isS.rf (k : ST) : isS k k := ⟨fun _ _ _ _ => rfl, fun _ _ => rfl, fun _ _ => rfl⟩
theorem isS.tr {k k' k'' : ST} (h : isS k k') (h' : isS k' k'') : isS k k'' := ⟨fun c f a b => (h'.i c f a b).trans (h.i c f a b), fun a b => (h'.a a b).trans (h.a a b), fun a b => (h'.l a b).trans (h.l a b)⟩
theorem isS.s3 {k k' : ST} (h : isS k k') (f : Nat) (v : Int32) : isS k (sI k' 3 f v) := ⟨fun c g a b => by rw [gI_sI, if_neg a]; exact h.i c g a b, h.a, h.l⟩
theorem isS.s4 {k k' : ST} (h : isS k k') {f : Nat} (v : Int32) (hf : f ≠ 0) : isS k (sI k' 4 f v) := ⟨fun c g a b => by
  rw [gI_sI]
  by_cases e : c = 4
  · rw [if_pos e, if_neg (fun z => hf (by rw [← z]; exact b e))]
    exact h.i c g a b
  · rw [if_neg e]
    exact h.i c g a b, h.a, h.l⟩
theorem isS.sA {k k' : ST} (h : isS k k') {r : Nat} (i : Nat) (v : Int32) (hr : sRow r = true) : isS k (sA k' r i v) := ⟨h.i, fun a b => by
  rw [gA_sA, if_neg (fun z => by rw [z, hr] at b; cases b)]
  exact h.a a b, h.l⟩
theorem isS.sL {k k' : ST} (h : isS k k') (i : Nat) (v : Int64) : isS k (sL k' 19 i v) := ⟨h.i, h.a, fun a b => by
  rw [gL_sL, if_neg b]
  exact h.l a b⟩
/-- the model's -/
def mSlot (f : Nat) : Bool := decide (f = 0) || decide (52 ≤ f ∧ f ≤ 62) || decide (f = 83) || decide (f = 84)
def scM (k s : ST) : ST := (fun c => if c = 11 then (fun f => if mSlot f = true then s.1 11 f else k.1 11 f) else k.1 c, fun a => if a = 138 ∨ a = 153 then s.2.1 a else k.2.1 a, fun a => if a = 122 then s.2.2 122 else k.2.2 a)
def isM (k k' : ST) : Prop := (∀ c f, (c = 11 → mSlot f = false) → gI k' c f = gI k c f) ∧ (∀ a, a ≠ 138 → a ≠ 153 → gA k' a = gA k a) ∧ ∀ a, a ≠ 122 → gL k' a = gL k a
theorem isM.i {k k' : ST} (h : isM k k') : ∀ c f, (c = 11 → mSlot f = false) → gI k' c f = gI k c f := h.1
theorem isM.a {k k' : ST} (h : isM k k') : ∀ a, a ≠ 138 → a ≠ 153 → gA k' a = gA k a := h.2.1
theorem isM.l {k k' : ST} (h : isM k k') : ∀ a, a ≠ 122 → gL k' a = gL k a := h.2.2
theorem isM.eq {k k' : ST} (h : isM k k') : k' = scM k k' := by
  have e1 : k'.1 = (scM k k').1 := by
    funext c f
    show k'.1 c f = (if c = 11 then (fun f => if mSlot f = true then k'.1 11 f else k.1 11 f) else k.1 c) f
    by_cases h4 : c = 11
    · rw [if_pos h4, h4]
      show k'.1 11 f = if mSlot f = true then k'.1 11 f else k.1 11 f
      by_cases h0 : mSlot f = true
      · rw [if_pos h0]
      · rw [if_neg h0]
        exact h.i 11 f (fun _ => by simpa using h0)
    · rw [if_neg h4]
      exact h.i c f (fun z => absurd z h4)
  have e2 : k'.2.1 = (scM k k').2.1 := by
    funext a
    show k'.2.1 a = if a = 138 ∨ a = 153 then k'.2.1 a else k.2.1 a
    by_cases hs : a = 138 ∨ a = 153
    · rw [if_pos hs]
    · rw [if_neg hs]
      exact h.a a (fun z => hs (Or.inl z)) (fun z => hs (Or.inr z))
  have e3 : k'.2.2 = (scM k k').2.2 := by
    funext a
    show k'.2.2 a = if a = 122 then k'.2.2 122 else k.2.2 a
    by_cases hs : a = 122
    · rw [if_pos hs, hs]
    · rw [if_neg hs]
      exact h.l a hs
  exact Prod.ext e1 (Prod.ext e2 e3)
theorem isM.rel {t : Nat} {k n n' : ST} (hs : isM n n') (hr : Rel t k n) : Rel t k n' := by
  rw [hs.eq]
  obtain ⟨d, h, kc, bc, gc, wc, pc, rc, dc, tc, sc, ic, lc, fc, ln, bn, hB, hK, hU, hG, hW, hP, hR, hD, hT, hS, hI, hL, hF, hA, hJ, hX⟩ := hr
  exact ⟨d, h, kc, bc, gc, wc, pc, rc, dc, tc, sc, ic, lc, fc, ln, bn, hB, hK, hU, hG, hW, hP, hR, hD, hT, hS, hI, hL, hF, hA, hJ, hX⟩
theorem isM.rf (k : ST) : isM k k := ⟨fun _ _ _ => rfl, fun _ _ _ => rfl, fun _ _ => rfl⟩
theorem isM.tr {k k' k'' : ST} (h : isM k k') (h' : isM k' k'') : isM k k'' := ⟨fun c f a => (h'.i c f a).trans (h.i c f a), fun a b c => (h'.a a b c).trans (h.a a b c), fun a b => (h'.l a b).trans (h.l a b)⟩
theorem isM.sI {k k' : ST} (h : isM k k') {f : Nat} (v : Int32) (hf : mSlot f = true) : isM k (sI k' 11 f v) := ⟨fun c g a => by
  rw [gI_sI]
  by_cases e : c = 11
  · rw [if_pos e, if_neg (fun z => by rw [z, hf] at a; cases a e)]
    exact h.i c g a
  · rw [if_neg e]
    exact h.i c g a, h.a, h.l⟩
theorem isM.sA {k k' : ST} (h : isM k k') {r : Nat} (i : Nat) (v : Int32) (hr : r = 138 ∨ r = 153) : isM k (sA k' r i v) := ⟨h.i, fun a b c => by
  rw [gA_sA, if_neg (fun z => by rcases hr with q | q <;> omega)]
  exact h.a a b c, h.l⟩
theorem isM.sL {k k' : ST} (h : isM k k') (i : Nat) (v : Int64) : isM k (sL k' 122 i v) := ⟨h.i, h.a, fun a b => by
  rw [gL_sL, if_neg b]
  exact h.l a b⟩
/-- f over the places below c -/
def fN {α : Type} (f : Nat → α → α) : Nat → α → α
  | 0, v => v
  | c + 1, v => f c (fN f c v)
theorem fN_s {α : Type} (f : Nat → α → α) (c : Nat) (v : α) : fN f (c + 1) v = f c (fN f c v) := rfl
theorem fN_cong {α : Type} {f g : Nat → α → α} (v : α) : ∀ {c : Nat}, (∀ i, i < c → ∀ u, f i u = g i u) → fN f c v = fN g c v
  | 0, _ => rfl
  | c + 1, h => by
    rw [fN_s, fN_s, fN_cong v (fun i hi => h i (by omega)), h c (by omega)]
def stp (a b v : Nat) : Nat := if v.testBit a then v ||| 2 ^ b else v
theorem stp_lt {a b v m : Nat} (hb : b < m) (hv : v < 2 ^ m) : stp a b v < 2 ^ m := by
  unfold stp
  split
  · exact Nat.or_lt_two_pow hv (Nat.pow_lt_pow_right (by decide) hb)
  · exact hv
theorem hB_false {f g : Nat → Int32} {x y : Int32} : ∀ {i : Nat}, (∀ j, j < i → ¬ (f j = x ∧ g j = y)) → hB f g x y i = false
  | 0, _ => rfl
  | i + 1, h => by
    rw [hB_s, if_neg (h i (by omega)), hB_false (fun j hj => h j (by omega))]
/-- HELD: the class lays by the turns, the model asks each -/
theorem held0 (a : Int32) (k : ST) (cont : Int32 → ST → Option (Unit × ST)) : ∀ (r g x : Nat) (k' : ST), x + r = 12 → r ≤ g → isS k k' → (∀ z, z < x → gL k' 19 z = 0) → ∃ k'', lpX10_heldOn_2 a (g + 1) (nI x) k' cont = cont (nI 12) k'' ∧ isS k k'' ∧ ∀ z, z < 12 → gL k'' 19 z = 0 := by
  intro r
  induction r with
  | zero =>
    intro g x k' hx _ hs hz
    have : x = 12 := by omega
    subst this
    exact ⟨k', by rw [lpX10_heldOn_2, if_pos (show (12 : Int32) ≤ nI 12 by decide)], hs, hz⟩
  | succ r ih =>
    intro g x k' hx hg hs hz
    obtain ⟨g, rfl⟩ : ∃ z, g = z + 1 := ⟨g - 1, by omega⟩
    rw [lpX10_heldOn_2, if_neg (n12 (by omega)), if_neg (n12 (by omega)), inb_nI (show x < 12 by omega) (by decide), ck_true, nm_eq, ix_nI (by omega), nI_1]
    refine ih g (x + 1) _ (by omega) (by omega) (hs.sL x 0) (fun z hz' => ?_)
    rw [gL_sL, if_pos rfl]
    by_cases e : z = x
    · rw [e, usL]
    · rw [unL e]
      exact hz z (by omega)
theorem held1 {t gc h kc d p : Nat} {k n : ST} {q : Int32} (ht : t < 513) (H : gTurn t gc h kc d k n) (hh : h ≤ 12) (hkc : kc ≤ 40) (hp : p ≤ gc) (H1 : ∀ i, i < p → gA k 52 i ≤ q) (H2 : ∀ i, p ≤ i → i < gc → q < gA k 52 i) (cont : Int32 → ST → Option (Unit × ST)) :
    ∀ (r g i : Nat) (k' : ST), i + r = p → r ≤ g → isS k k' → (∀ x, x < 12 → ∃ b, b < 2 ^ 40 ∧ gL k' 19 x = lN b ∧ ∀ y, y < 40 → b.testBit y = hB (gA k 50) (gA k 51) (nI x) (nI y) i) →
    ∃ k'', lpX10_heldOn_26 q (g + 1) (nI i) k' cont = cont (nI p) k'' ∧ isS k k'' ∧ ∀ x, x < 12 → ∃ b, b < 2 ^ 40 ∧ gL k'' 19 x = lN b ∧ ∀ y, y < 40 → b.testBit y = hB (gA k 50) (gA k 51) (nI x) (nI y) p := by
  obtain ⟨g1, g2, g3, g4, g5, g6, g7, g8, g9⟩ := H
  intro r
  induction r with
  | zero =>
    intro g i k' hi _ hs hb
    have : i = p := by omega
    subst this
    refine ⟨k', ?_, hs, hb⟩
    rw [lpX10_heldOn_26, hs.i 9 1 (by decide) (by decide), g2]
    rcases Nat.lt_or_ge i gc with z | z
    · rw [if_neg (nI_ge z (by omega)), inb_nI (show i < 512 by omega) (by decide), ck_true, ix_nI (by omega), hs.a 52 rfl, if_pos (H2 i (Nat.le_refl _) z)]
    · rw [if_pos (nI_le z (by omega))]
  | succ r ih =>
    intro g i k' hi hg hs hb
    obtain ⟨g, rfl⟩ : ∃ z, g = z + 1 := ⟨g - 1, by omega⟩
    obtain ⟨⟨x, x1, x2⟩, ⟨y, y1, y2⟩, _, _⟩ := g7 i (by omega)
    obtain ⟨b, c1, c2, c3⟩ := hb x (by omega)
    rw [lpX10_heldOn_26, hs.i 9 1 (by decide) (by decide), g2, if_neg (nI_ge (by omega) (by omega)), inb_nI (show i < 512 by omega) (by decide), ck_true, ck_true, ck_true, ck_true, ix_nI (by omega), hs.a 52 rfl, hs.a 50 rfl, hs.a 51 rfl, if_neg (Int32.not_lt.mpr (H1 i (by omega))), x2, y2, if_neg (n12 (by omega)), inb_nI (show x < 12 by omega) (by decide), ck_true, ck_true, nm_eq, ix_nI (by omega), c2, lshl1 (by omega), fb_xorL, nI_1]
    refine ih g (i + 1) _ (by omega) (by omega) (hs.sL x _) (fun x' hx' => ?_)
    rw [gL_sL, if_pos rfl]
    by_cases e : x' = x
    · subst e
      refine ⟨b ^^^ 2 ^ y, Nat.xor_lt_two_pow c1 (Nat.pow_lt_pow_right (by decide) (by omega)), usL, fun y' hy' => ?_⟩
      rw [hB_s, fb_bit_flip, c3 y' hy', x2, y2]
      by_cases e2 : y' = y
      · subst e2
        rw [if_pos ⟨rfl, rfl⟩]
        simp
      · rw [if_neg (fun z => e2 ((nI_eq (by omega) (by omega)).mp z.2).symm), decide_eq_false e2, Bool.xor_false]
    · obtain ⟨b', d1, d2, d3⟩ := hb x' hx'
      refine ⟨b', d1, by rw [unL e]; exact d2, fun y' hy' => ?_⟩
      rw [hB_s, x2, if_neg (fun z => e ((nI_eq (by omega) (by omega)).mp z.1).symm)]
      exact d3 y' hy'
theorem heldOn_of {t gc h kc d p : Nat} {k n : ST} {q : Int32} (ht : t < 513) (H : gTurn t gc h kc d k n) (hh : h ≤ 12) (hkc : kc ≤ 40) (hp : p ≤ gc) (H1 : ∀ i, i < p → gA k 52 i ≤ q) (H2 : ∀ i, p ≤ i → i < gc → q < gA k 52 i) :
    ∃ k', fX10_heldOn k q = some ((), k') ∧ isS k k' ∧ ∀ x, x < 12 → ∃ b, b < 2 ^ 40 ∧ gL k' 19 x = lN b ∧ ∀ y, y < 40 → b.testBit y = hB (gA k 50) (gA k 51) (nI x) (nI y) p := by
  unfold fX10_heldOn
  rw [FU_g]
  obtain ⟨k1, a1, a2, a3⟩ := held0 q k (fun y5 k6 => lpX10_heldOn_26 q (4999 + 1) 0 k6 fun y17 k18 => some ((), k18)) 12 4999 0 k (by decide) (by decide) (isS.rf k) (fun z hz => absurd hz (Nat.not_lt_zero z))
  have hgc : gc ≤ t := H.1
  obtain ⟨k2, b1, b2, b3⟩ := held1 ht H hh hkc hp H1 H2 (fun y17 k18 => some ((), k18)) p 4999 0 k1 (by omega) (by omega) a2 (fun x hx => ⟨0, by decide, a3 x hx, fun y _ => Nat.zero_testBit y⟩)
  exact ⟨k2, a1.trans b1, b2, b3⟩
/-- .. the model's -/
theorem lay19 {t gc h kc d p : Nat} {k n : ST} {q : Int32} (ht : t < 513) (H : gTurn t gc h kc d k n) (e13 : gI n 11 13 = nI kc) (hh : h ≤ 12) (hkc : kc ≤ 40) (hp : p ≤ gc) (H1 : ∀ i, i < p → gA k 52 i ≤ q) (H2 : ∀ i, p ≤ i → i < gc → q < gA k 52 i) {x : Nat} (hx : x < h) (cont : Int32 → ST → Option (Unit × ST)) :
    ∀ (r g y : Nat) (n' : ST), y + r = kc → r ≤ g → isM n n' → (∃ b, b < 2 ^ 40 ∧ gL n' 122 x = lN b ∧ ∀ y', y' < 40 → b.testBit y' = (decide (y' < y) && hB (gA k 50) (gA k 51) (nI x) (nI y') p)) →
    ∃ n'', lpX12_layHas_19 q (nI x) (g + 1) (nI y) n' cont = cont (nI kc) n'' ∧ isM n n'' ∧ (∀ z, z ≠ x → gL n'' 122 z = gL n' 122 z) ∧ ∃ b, b < 2 ^ 40 ∧ gL n'' 122 x = lN b ∧ ∀ y', y' < 40 → b.testBit y' = hB (gA k 50) (gA k 51) (nI x) (nI y') p := by
  obtain ⟨g1, g2, g3, g4, g5, g6, g7, g8, g9⟩ := H
  intro r
  induction r with
  | zero =>
    intro g y n' hy _ hs hb
    have : y = kc := by omega
    subst this
    obtain ⟨b, c1, c2, c3⟩ := hb
    refine ⟨n', ?_, hs, fun _ _ => rfl, b, c1, c2, fun y' hy' => ?_⟩
    · rw [lpX12_layHas_19, hs.i 11 13 (by decide), e13, if_pos (nI_le (by omega) (by omega))]
    · rw [c3 y' hy']
      by_cases z : y' < y
      · rw [decide_eq_true z, Bool.true_and]
      · rw [decide_eq_false z, Bool.false_and]
        symm
        refine hB_false (fun j hj w => ?_)
        obtain ⟨_, ⟨y2, y3, y4⟩, _⟩ := g7 j (by omega)
        rw [y4] at w
        have := (nI_eq (by omega) (by omega)).mp w.2
        omega
  | succ r ih =>
    intro g y n' hy hg hs hb
    obtain ⟨g, rfl⟩ : ∃ z, g = z + 1 := ⟨g - 1, by omega⟩
    obtain ⟨b, c1, c2, c3⟩ := hb
    have hh2 : fX12_has n' (nI x) (nI y) q = some (hB (gA k 50) (gA k 51) (nI x) (nI y) p, n') :=
      has_of (gc := gc) (by omega) (by rw [hs.i 11 14 (by decide)]; exact g3) (by rw [hs.a 104 (by decide) (by decide)]; exact g4) (by rw [hs.a 105 (by decide) (by decide)]; exact g5) q (nI x) (nI y) hp
        (fun i hi => by rw [hs.a 106 (by decide) (by decide), g6]; exact H1 i hi) (fun i a b => by rw [hs.a 106 (by decide) (by decide), g6]; exact H2 i a b) (fun i hi => by rw [hs.a 107 (by decide) (by decide)]; exact (g7 i hi).2.2.2)
    rw [lpX12_layHas_19, hs.i 11 13 (by decide), e13, if_neg (nI_ge (by omega) (by omega)), hh2, ob_some, nI_1]
    cases hv : hB (gA k 50) (gA k 51) (nI x) (nI y) p
    · rw [if_neg (by decide)]
      refine ih g (y + 1) n' (by omega) (by omega) hs ⟨b, c1, c2, fun y' hy' => ?_⟩
      rw [c3 y' hy']
      by_cases z : y' = y
      · subst z
        rw [hv, Bool.and_false, Bool.and_false]
      · rw [decide_eq_decide.mpr (show y' < y ↔ y' < y + 1 from ⟨fun _ => by omega, fun _ => by omega⟩)]
    · rw [if_pos rfl, inb_nI (show x < 12 by omega) (by decide), ck_true, ck_true, nm_eq, ix_nI (by omega), c2, lshl1 (by omega), fb_orL]
      obtain ⟨n'', q1, q2, q3, q4⟩ := ih g (y + 1) (sL n' 122 x (lN (b ||| 2 ^ y))) (by omega) (by omega) (hs.sL x _) ⟨b ||| 2 ^ y, Nat.or_lt_two_pow c1 (Nat.pow_lt_pow_right (by decide) (by omega)), by rw [gL_sL, if_pos rfl, usL], fun y' hy' => by
        rw [fb_bit_set, c3 y' hy']
        by_cases z : y' = y
        · subst z
          rw [hv, decide_eq_true rfl, decide_eq_true (show y' < y' + 1 by omega)]
          simp
        · rw [decide_eq_decide.mpr (show y' < y ↔ y' < y + 1 from ⟨fun _ => by omega, fun _ => by omega⟩), decide_eq_false z, Bool.or_false]⟩
      refine ⟨n'', q1, q2, fun z hz => ?_, q4⟩
      rw [q3 z hz, gL_sL, if_pos rfl, unL hz]
theorem layHas_of {t gc h kc d p : Nat} {k n : ST} {q : Int32} (ht : t < 513) (H : gTurn t gc h kc d k n) (e12 : gI n 11 12 = nI h) (e13 : gI n 11 13 = nI kc) (hh : h ≤ 12) (hkc : kc ≤ 40) (hp : p ≤ gc) (H1 : ∀ i, i < p → gA k 52 i ≤ q) (H2 : ∀ i, p ≤ i → i < gc → q < gA k 52 i) :
    ∃ n', fX12_layHas n q = some ((), n') ∧ isM n n' ∧ ∀ x, x < h → ∃ b, b < 2 ^ 40 ∧ gL n' 122 x = lN b ∧ ∀ y, y < 40 → b.testBit y = hB (gA k 50) (gA k 51) (nI x) (nI y) p := by
  unfold fX12_layHas
  rw [FU_g]
  have key : ∀ (r g x : Nat) (n' : ST), x + r = h → r ≤ g → isM n n' → (∀ x', x' < x → ∃ b, b < 2 ^ 40 ∧ gL n' 122 x' = lN b ∧ ∀ y, y < 40 → b.testBit y = hB (gA k 50) (gA k 51) (nI x') (nI y) p) →
      ∃ n'', lpX12_layHas_2 q (g + 1) (nI x) n' (fun y14 k15 => some ((), k15)) = some ((), n'') ∧ isM n n'' ∧ ∀ x', x' < h → ∃ b, b < 2 ^ 40 ∧ gL n'' 122 x' = lN b ∧ ∀ y, y < 40 → b.testBit y = hB (gA k 50) (gA k 51) (nI x') (nI y) p := by
    intro r
    induction r with
    | zero =>
      intro g x n' hx _ hs hb
      have : x = h := by omega
      subst this
      exact ⟨n', by rw [lpX12_layHas_2, hs.i 11 12 (by decide), e12, if_pos (nI_le (by omega) (by omega))], hs, hb⟩
    | succ r ih =>
      intro g x n' hx hg hs hb
      obtain ⟨g, rfl⟩ : ∃ z, g = z + 1 := ⟨g - 1, by omega⟩
      rw [lpX12_layHas_2, hs.i 11 12 (by decide), e12, if_neg (nI_ge (by omega) (by omega)), inb_nI (show x < 12 by omega) (by decide), ck_true, nm_eq, ix_nI (by omega), FU_g]
      obtain ⟨n'', q1, q2, q3, q4⟩ := lay19 ht H e13 hh hkc hp H1 H2 (show x < h by omega) (fun y12 k13 => lpX12_layHas_2 q (g + 1) (nI x + 1) k13 fun y14 k15 => some ((), k15)) kc 4999 0 (sL n' 122 x 0) (by omega) (by omega) (hs.sL x 0) ⟨0, by decide, by rw [gL_sL, if_pos rfl, usL]; rfl, fun y' _ => by rw [Nat.zero_testBit, decide_eq_false (Nat.not_lt_zero y'), Bool.false_and]⟩
      obtain ⟨n3, r1, r2, r3⟩ := ih g (x + 1) n'' (by omega) (by omega) q2 (fun x' hx' => by
        by_cases e : x' = x
        · subst e
          exact q4
        · rw [q3 x' e, gL_sL, if_pos rfl, unL e]
          exact hb x' (by omega))
      refine ⟨n3, ?_, r2, r3⟩
      refine Eq.trans q1 ?_
      show lpX12_layHas_2 q (g + 1) (nI x + 1) n'' (fun y14 k15 => some ((), k15)) = _
      rw [nI_1]
      exact r1
  exact key h 4999 0 n (by omega) (by omega) (isM.rf n) (fun x hx => absurd hx (Nat.not_lt_zero x))
