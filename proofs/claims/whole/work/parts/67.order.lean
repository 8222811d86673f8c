/-! ORDER -/
def ones : Nat := 18446744073709551615
theorem ones_bit {x : Nat} (hx : x < 64) : ones.testBit x = true := by
  have : ones = 2 ^ 64 - 1 := by decide
  rw [this, Nat.testBit_two_pow_sub_one]
  exact decide_eq_true hx
theorem m1_ones : (-1 : Int64) = lN ones := by decide
def wtg (B t : Nat) : Nat := B &&& (t ^^^ ones)
theorem wtg_bit (B t : Nat) {x : Nat} (hx : x < 64) : (wtg B t).testBit x = (B.testBit x && !(t.testBit x)) := by
  unfold wtg
  rw [Nat.testBit_and, Nat.testBit_xor, ones_bit hx, Bool.xor_true]
theorem wtg_le (B t : Nat) : wtg B t ≤ B := Nat.and_le_left
theorem wtg_L (B t : Nat) : lN B &&& (lN t ^^^ (-1)) = lN (wtg B t) := by
  rw [m1_ones, fb_xorL, fb_andL]
  rfl
theorem big_bit {B x : Nat} (hB : B < 2 ^ 40) (hx : 40 ≤ x) : B.testBit x = false := Nat.testBit_lt_two_pow (Nat.lt_of_lt_of_le hB (Nat.pow_le_pow_right (by decide) hx))
theorem wtg_step {B t c : Nat} (hB : B < 2 ^ 40) (hc : c < 40) : wtg (wtg B t) (2 ^ c) = wtg B (t ||| 2 ^ c) := by
  refine Nat.eq_of_testBit_eq fun x => ?_
  rcases Nat.lt_or_ge x 64 with hx | hx
  · rw [wtg_bit _ _ hx, wtg_bit _ _ hx, wtg_bit _ _ hx, fb_bit_set, Nat.testBit_two_pow]
    by_cases e : x = c
    · rw [decide_eq_true e, decide_eq_true e.symm]
      simp
    · rw [decide_eq_false e, decide_eq_false (fun z => e z.symm)]
      simp
  · rw [big_bit (Nat.lt_of_le_of_lt (Nat.le_trans (wtg_le _ _) (wtg_le _ _)) hB) (by omega), big_bit (Nat.lt_of_le_of_lt (wtg_le _ _) hB) (by omega)]
def isLow (P : Nat → Prop) (m : Nat) (R : Int32) : Prop := (R = -1 ∧ ∀ x, x < m → ¬ P x) ∨ ∃ x, x < m ∧ P x ∧ R = nI x ∧ ∀ y, y < x → ¬ P y
theorem isLow_uniq {P : Nat → Prop} {m m' : Nat} {R R' : Int32} (h : isLow P m R) (h' : isLow P m' R') (hm : ∀ x, P x → x < m ∧ x < m') : R = R' := by
  rcases h with ⟨h1, h2⟩ | ⟨x, x1, x2, x3, x4⟩
  · rcases h' with ⟨g1, g2⟩ | ⟨y, y1, y2, y3, y4⟩
    · rw [h1, g1]
    · exact absurd y2 (h2 y (hm y y2).1)
  · rcases h' with ⟨g1, g2⟩ | ⟨y, y1, y2, y3, y4⟩
    · exact absurd x2 (g2 x (hm x x2).2)
    · rw [x3, y3]
      congr 1
      rcases Nat.lt_trichotomy x y with e | e | e
      · exact absurd x2 (y4 x e)
      · exact e
      · exact absurd y2 (x4 y e)
/-- what bars a key: one that waits too and leads to it -/
def brd (k : ST) (q : Int32) (wc W x : Nat) : Prop := (gA k 1 x = 2 ∧ ¬ q < gA k 3 x ∧ W.testBit (vN (gA k 2 x)) = true) ∨ ∃ i, i < wc ∧ onW k i q = true ∧ W.testBit (vN (gA k 54 i)) = true ∧ vN (gA k 53 i) = x
def lfF (W a b u : Nat) : Nat := if W.testBit a = true then wtg u (2 ^ b) else u
theorem lf_clr {u b x : Nat} (hx : x < 64) : (wtg u (2 ^ b)).testBit x = true ↔ u.testBit x = true ∧ x ≠ b := by
  rw [wtg_bit _ _ hx, Nat.testBit_two_pow, Bool.and_eq_true]
  constructor
  · rintro ⟨h1, h2⟩
    refine ⟨h1, fun e => ?_⟩
    rw [e, decide_eq_true rfl] at h2
    cases h2
  · rintro ⟨h1, h2⟩
    exact ⟨h1, by rw [decide_eq_false (fun e => h2 e.symm)]; rfl⟩
theorem free_k (k : ST) (q : Int32) (W x : Nat) (hx : x < 64) : ∀ m, (fN (kF k q (lfF W)) m W).testBit x = true ↔ W.testBit x = true ∧ ¬ (x < m ∧ gA k 1 x = 2 ∧ ¬ q < gA k 3 x ∧ W.testBit (vN (gA k 2 x)) = true)
  | 0 => ⟨fun h => ⟨h, fun z => absurd z.1 (Nat.not_lt_zero x)⟩, fun h => h.1⟩
  | m + 1 => by
    rw [fN_s]
    have ih := free_k k q W x hx m
    generalize fN (kF k q (lfF W)) m W = u at ih ⊢
    by_cases c : gA k 1 m = 2 ∧ ¬ q < gA k 3 m
    · rw [kF_y c]
      unfold lfF
      by_cases b : W.testBit (vN (gA k 2 m)) = true
      · rw [if_pos b, lf_clr hx, ih]
        constructor
        · rintro ⟨⟨h1, h2⟩, h3⟩
          refine ⟨h1, fun ⟨z1, z2⟩ => h2 ⟨by omega, z2⟩⟩
        · rintro ⟨h1, h2⟩
          refine ⟨⟨h1, fun ⟨z1, z2⟩ => h2 ⟨by omega, z2⟩⟩, fun e => ?_⟩
          subst e
          exact h2 ⟨by omega, c.1, c.2, b⟩
      · rw [if_neg b, ih]
        constructor
        · rintro ⟨h1, h2⟩
          refine ⟨h1, fun ⟨z1, z2⟩ => ?_⟩
          rcases Nat.lt_or_ge x m with e | e
          · exact h2 ⟨e, z2⟩
          · have : x = m := by omega
            subst this
            exact b z2.2.2
        · rintro ⟨h1, h2⟩
          exact ⟨h1, fun ⟨z1, z2⟩ => h2 ⟨by omega, z2⟩⟩
    · rw [kF_n c, ih]
      constructor
      · rintro ⟨h1, h2⟩
        refine ⟨h1, fun ⟨z1, z2⟩ => ?_⟩
        rcases Nat.lt_or_ge x m with e | e
        · exact h2 ⟨e, z2⟩
        · have : x = m := by omega
          subst this
          exact c ⟨z2.1, z2.2.1⟩
      · rintro ⟨h1, h2⟩
        exact ⟨h1, fun ⟨z1, z2⟩ => h2 ⟨by omega, z2⟩⟩
theorem free_w (k : ST) (q : Int32) (W v x : Nat) (hx : x < 64) : ∀ m, (fN (wF k q (lfF W)) m v).testBit x = true ↔ v.testBit x = true ∧ ¬ ∃ i, i < m ∧ onW k i q = true ∧ W.testBit (vN (gA k 54 i)) = true ∧ vN (gA k 53 i) = x
  | 0 => ⟨fun h => ⟨h, fun ⟨i, hi, _⟩ => absurd hi (Nat.not_lt_zero i)⟩, fun h => h.1⟩
  | m + 1 => by
    rw [fN_s]
    have ih := free_w k q W v x hx m
    generalize fN (wF k q (lfF W)) m v = u at ih ⊢
    have up : (∃ i, i < m ∧ onW k i q = true ∧ W.testBit (vN (gA k 54 i)) = true ∧ vN (gA k 53 i) = x) → ∃ i, i < m + 1 ∧ onW k i q = true ∧ W.testBit (vN (gA k 54 i)) = true ∧ vN (gA k 53 i) = x := fun ⟨i, a, b⟩ => ⟨i, by omega, b⟩
    have dn : ¬ (onW k m q = true ∧ W.testBit (vN (gA k 54 m)) = true ∧ vN (gA k 53 m) = x) → (∃ i, i < m + 1 ∧ onW k i q = true ∧ W.testBit (vN (gA k 54 i)) = true ∧ vN (gA k 53 i) = x) → ∃ i, i < m ∧ onW k i q = true ∧ W.testBit (vN (gA k 54 i)) = true ∧ vN (gA k 53 i) = x := fun z ⟨i, a, b⟩ => by
      rcases Nat.lt_or_ge i m with e | e
      · exact ⟨i, e, b⟩
      · have : i = m := by omega
        subst this
        exact absurd b z
    by_cases c : onW k m q = true
    · rw [wF_y c]
      unfold lfF
      by_cases b : W.testBit (vN (gA k 54 m)) = true
      · rw [if_pos b, lf_clr hx, ih]
        constructor
        · rintro ⟨⟨h1, h2⟩, h3⟩
          exact ⟨h1, fun z => h2 (dn (fun w => h3 w.2.2.symm) z)⟩
        · rintro ⟨h1, h2⟩
          exact ⟨⟨h1, fun z => h2 (up z)⟩, fun e => h2 ⟨m, by omega, c, b, e.symm⟩⟩
      · rw [if_neg b, ih]
        exact ⟨fun h => ⟨h.1, fun z => h.2 (dn (fun w => b w.2.1) z)⟩, fun h => ⟨h.1, fun z => h.2 (up z)⟩⟩
    · rw [wF_n c, ih]
      exact ⟨fun h => ⟨h.1, fun z => h.2 (dn (fun w => c w.1) z)⟩, fun h => ⟨h.1, fun z => h.2 (up z)⟩⟩
theorem low_of {c kc wc : Nat} {k k' : ST} {q : Int32} (h : stI c k' (psG k q kc wc)) (hc : c ≤ 80) {W : Nat} (hW : W < 2 ^ kc) (hkc : kc ≤ 40) : ∃ R, fX4_lowestFree k' (lN W) = some (R, k') ∧ isLow (fun x => W.testBit x = true ∧ ¬ brd k q wc W x) 40 R := by
  have hW40 : W < 2 ^ 40 := Nat.lt_of_lt_of_le hW (Nat.pow_le_pow_right (by decide) hkc)
  obtain ⟨h1, h2, h3⟩ := id h
  have hfree : ∀ x, x < 40 → ((psG k q kc wc (lfF W) W).testBit x = true ↔ W.testBit x = true ∧ ¬ brd k q wc W x) := fun x hx => by
    unfold psG
    rw [free_w k q W _ x (by omega), free_k k q W x (by omega)]
    unfold brd
    constructor
    · rintro ⟨⟨a1, a2⟩, a3⟩
      refine ⟨a1, fun z => ?_⟩
      rcases z with z | z
      · refine a2 ⟨?_, z⟩
        rcases Nat.lt_or_ge x kc with e | e
        · exact e
        · rw [Nat.testBit_lt_two_pow (Nat.lt_of_lt_of_le hW (Nat.pow_le_pow_right (by decide) e))] at a1
          cases a1
      · exact a3 z
    · rintro ⟨a1, a2⟩
      exact ⟨⟨a1, fun z => a2 (Or.inl z.2)⟩, fun z => a2 (Or.inr z)⟩
  have hlt : ∀ i, i ≤ c → fN (fun i => lfF W (vN (gA k' 24 i)) (vN (gA k' 25 i))) i W < 2 ^ 40 := fun i hi => fN_inv (P := fun u => u < 2 ^ 40) (fun j hj u hu => by
    unfold lfF
    split
    · exact Nat.lt_of_le_of_lt (wtg_le _ _) hu
    · exact hu) hW40
  have l5 : ∀ (r g i : Nat) (cont : Int64 → Int32 → ST → Option (Int32 × ST)), i + r = c → r ≤ g → lpX4_lowestFree_5 (lN W) (g + 1) (lN (fN (fun i => lfF W (vN (gA k' 24 i)) (vN (gA k' 25 i))) i W)) (nI i) k' cont = cont (lN (psG k q kc wc (lfF W) W)) (nI c) k' := by
    intro r
    induction r with
    | zero =>
      intro g i cont hi _
      have : i = c := by omega
      subst this
      rw [lpX4_lowestFree_5, h1, if_pos (nI_le (by omega) (by omega)), h3 (lfF W) W]
    | succ r ih =>
      intro g i cont hi hg
      obtain ⟨g, rfl⟩ : ∃ z, g = z + 1 := ⟨g - 1, by omega⟩
      obtain ⟨⟨x, x1, x2⟩, y, y1, y2⟩ := h2 i (by omega)
      have hi2 := ih g (i + 1) cont (by omega) (by omega)
      rw [fN_s, x2, y2, vN_nI (by omega), vN_nI (by omega)] at hi2
      generalize fN (fun i => lfF W (vN (gA k' 24 i)) (vN (gA k' 25 i))) i W = u at hi2 ⊢
      rw [lpX4_lowestFree_5, h1, if_neg (nI_ge (by omega) (by omega)), inb_nI (show i < 80 by omega) (by decide), ck_true, ix_nI (by omega), x2, hasKey_of k' (by omega) (by omega), ob_some, ck_true, y2, nm_eq, lshl1 (by omega), wtg_L, nI_1]
      unfold lfF at hi2
      by_cases z : W.testBit x = true
      · rw [if_pos z]
        rw [if_pos z] at hi2
        exact hi2
      · rw [if_neg z]
        rw [if_neg z] at hi2
        exact hi2
  have hfl : psG k q kc wc (lfF W) W < 2 ^ 40 := by
    rw [← h3 (lfF W) W]
    exact hlt c (Nat.le_refl c)
  have l53 : ∀ (r g x : Nat), x + r = 40 → r ≤ g → (∀ y, y < x → ¬ (W.testBit y = true ∧ ¬ brd k q wc W y)) → ∃ R, lpX4_lowestFree_53 (lN W) (lN (psG k q kc wc (lfF W) W)) (g + 1) (nI x) k' (fun y17 k18 => some (-1, k18)) = some (R, k') ∧ isLow (fun x => W.testBit x = true ∧ ¬ brd k q wc W x) 40 R := by
    intro r
    induction r with
    | zero =>
      intro g x hx _ hn
      have : x = 40 := by omega
      subst this
      exact ⟨-1, by rw [lpX4_lowestFree_53, if_pos (show (40 : Int32) ≤ nI 40 by decide)], Or.inl ⟨rfl, hn⟩⟩
    | succ r ih =>
      intro g x hx hg hn
      obtain ⟨g, rfl⟩ : ∃ z, g = z + 1 := ⟨g - 1, by omega⟩
      rw [lpX4_lowestFree_53, if_neg (show ¬ (40 : Int32) ≤ nI x from nI_ge (b := 40) (by omega) (by decide)), hasKey_of k' (by omega) (by omega), ob_some, nI_1]
      by_cases z : (psG k q kc wc (lfF W) W).testBit x = true
      · rw [if_pos z]
        exact ⟨nI x, rfl, Or.inr ⟨x, by omega, (hfree x (by omega)).mp z, rfl, hn⟩⟩
      · rw [if_neg z]
        exact ih g (x + 1) (by omega) (by omega) (fun y hy => by
          rcases Nat.lt_or_ge y x with e | e
          · exact hn y e
          · have : y = x := by omega
            subst this
            exact fun w => z ((hfree y (by omega)).mpr w))
  obtain ⟨R, r1, r2⟩ := l53 40 4999 0 (by omega) (by omega) (fun y hy => absurd hy (Nat.not_lt_zero y))
  refine ⟨R, ?_, r2⟩
  unfold fX4_lowestFree
  rw [FU_g]
  exact Eq.trans (l5 c 4999 0 _ (by omega) (by omega)) r1
/-- .. the model's -/
theorem bar_of {kc d wc h : Nat} {k n n' : ST} (hBB : gB d h k n) (hK : gKeys kc d k n) (hW : gWrap wc kc d k n) (hM : isM n n') {B t x : Nat} (hB : B < 2 ^ 40) (hx : x < kc) : ∃ b, fX12_isBarred n' (nI x) (lN B) (lN t) = some (b, n') ∧ (b = true ↔ brd k (nI d) wc (wtg B t) x) := by
  obtain ⟨b1, b2, b3, b4, b5, b6⟩ := hBB
  obtain ⟨q1, q2, q3, q4, q5, q6, q7, q8, q9⟩ := hK
  have hWM := hM.gW hW
  obtain ⟨w1, w2, w3, w4, w5, w6, w7⟩ := id hWM
  have hlt : wtg B t < 2 ^ 40 := Nat.lt_of_le_of_lt (wtg_le B t) hB
  have g1 : inb (nI x) 40 = true := inb_nI (by omega) (by decide)
  have g2 : ix (nI x) = x := ix_nI (by omega)
  obtain ⟨_, _, r1, ⟨e, e1, e2⟩⟩ := q9 x hx
  have nod : ¬ nI d < gA k 3 x := by
    rw [e2]
    exact nI_nlt e1 (by omega)
  have L : ∀ (r g i : Nat), i + r = wc → r ≤ g → (∀ j, j < i → ¬ (onW k j (nI d) = true ∧ (wtg B t).testBit (vN (gA k 54 j)) = true ∧ vN (gA k 53 j) = x)) → ∃ b, lpX12_isBarred_41 (nI x) (lN B) (lN t) (lN (wtg B t)) (g + 1) (nI i) n' (fun y14 k15 => some (false, k15)) = some (b, n') ∧ (b = true ↔ ∃ i, i < wc ∧ onW k i (nI d) = true ∧ (wtg B t).testBit (vN (gA k 54 i)) = true ∧ vN (gA k 53 i) = x) := by
    intro r
    induction r with
    | zero =>
      intro g i hi _ hn
      have : i = wc := by omega
      subst this
      exact ⟨false, by rw [lpX12_isBarred_41, w3, if_pos (nI_le (by omega) (by omega))], (fun z => by cases z), fun ⟨j, a, b⟩ => absurd b (hn j a)⟩
    | succ r ih =>
      intro g i hi hg hn
      obtain ⟨g, rfl⟩ : ∃ z, g = z + 1 := ⟨g - 1, by omega⟩
      obtain ⟨⟨a, a1, a2⟩, ⟨b, b1', b2'⟩, _⟩ := w7 i (by omega)
      have go : ¬ (onW k i (nI d) = true ∧ (wtg B t).testBit (vN (gA k 54 i)) = true ∧ vN (gA k 53 i) = x) → ∃ b, lpX12_isBarred_41 (nI x) (lN B) (lN t) (lN (wtg B t)) (g + 1) (nI (i + 1)) n' (fun y14 k15 => some (false, k15)) = some (b, n') ∧ (b = true ↔ ∃ i, i < wc ∧ onW k i (nI d) = true ∧ (wtg B t).testBit (vN (gA k 54 i)) = true ∧ vN (gA k 53 i) = x) := fun z => ih g (i + 1) (by omega) (by omega) (fun j hj => by
        rcases Nat.lt_or_ge j i with e | e
        · exact hn j e
        · have : j = i := by omega
          subst this
          exact z)
      have e53 : vN (gA k 53 i) = a := by rw [a2, vN_nI (by omega)]
      have e54 : vN (gA k 54 i) = b := by rw [b2', vN_nI (by omega)]
      rw [e53, e54] at go
      rw [lpX12_isBarred_41, w3, if_neg (nI_ge (by omega) (by omega)), inb_nI (show i < 40 by omega) (by decide), ck_true, ix_nI (by omega), w4, a2, hM.i 11 1 (by decide), b3, wrap_M hWM (show i < wc by omega) b1 b1, ob_some, ck_true, w5, b2', ifeq (lbit hlt (show b < 64 by omega)), nI_1]
      by_cases y1 : a = x
      · rw [if_pos (by rw [y1])]
        by_cases y2 : onW k i (nI d) = true
        · rw [if_pos y2]
          by_cases y3 : (wtg B t).testBit b = true
          · rw [if_pos y3]
            exact ⟨true, rfl, fun _ => ⟨i, by omega, y2, by rw [e54]; exact y3, by rw [e53]; exact y1⟩, fun _ => rfl⟩
          · rw [if_neg y3]
            exact go (fun w => y3 w.2.1)
        · rw [if_neg y2]
          exact go (fun w => y2 w.1)
      · rw [if_neg (fun z => y1 ((nI_eq (by omega) (by omega)).mp z))]
        exact go (fun w => y1 w.2.2)
  obtain ⟨b, l1, l2⟩ := L wc 4999 0 (by omega) (by omega) (fun j hj => absurd hj (Nat.not_lt_zero j))
  unfold fX12_isBarred
  rw [g1, ck_true, g2, hM.a 99 (by decide) (by decide), q4, wtg_L, FU_g]
  have l1' : lpX12_isBarred_41 (nI x) (lN B) (lN t) (lN (wtg B t)) (4999 + 1) 0 n' (fun y14 k15 => some (false, k15)) = some (b, n') := l1
  by_cases h1 : gA k 1 x = 2
  · rw [if_pos h1, ck_true, hM.a 101 (by decide) (by decide), q6]
    obtain ⟨a, a1, a2⟩ := r1 h1
    rw [a2, ifeq (lbit hlt (show a < 64 by omega))]
    by_cases h2 : (wtg B t).testBit a = true
    · rw [if_pos h2]
      exact ⟨true, rfl, fun _ => Or.inl ⟨h1, nod, by rw [a2, vN_nI (by omega)]; exact h2⟩, fun _ => rfl⟩
    · rw [if_neg h2, l1']
      refine ⟨b, rfl, ?_⟩
      rw [l2]
      exact ⟨fun z => Or.inr z, fun z => by
        rcases z with z | z
        · rw [a2, vN_nI (by omega)] at z
          exact absurd z.2.2 h2
        · exact z⟩
  · rw [if_neg h1, l1']
    refine ⟨b, rfl, ?_⟩
    rw [l2]
    exact ⟨fun z => Or.inr z, fun z => by
      rcases z with z | z
      · exact absurd z.1 h1
      · exact z⟩
theorem next_of {kc d wc h : Nat} {k n n' : ST} (hBB : gB d h k n) (hK : gKeys kc d k n) (hW : gWrap wc kc d k n) (hM : isM n n') {B t : Nat} (hB : B < 2 ^ 40) (htt : t < 2 ^ 40) (v1 v2 v7 : Int32) (cont : Int32 → Int32 → ST → Option (Int32 × ST)) :
    ∃ R, isLow (fun x => (wtg B t).testBit x = true ∧ ¬ brd k (nI d) wc (wtg B t) x) kc R ∧ lpX12_order_58 v1 v2 (lN B) (lN t) v7 (4999 + 1) (-1) (nI kc - 1) n' cont = cont R (-1) n' := by
  have hkc := hK.1
  have L : ∀ (r g : Nat) (v : Int32), r ≤ kc → r ≤ g → ((v = -1 ∧ ∀ x, r ≤ x → x < kc → ¬ ((wtg B t).testBit x = true ∧ ¬ brd k (nI d) wc (wtg B t) x)) ∨ ∃ x, r ≤ x ∧ x < kc ∧ ((wtg B t).testBit x = true ∧ ¬ brd k (nI d) wc (wtg B t) x) ∧ v = nI x ∧ ∀ y, r ≤ y → y < x → ¬ ((wtg B t).testBit y = true ∧ ¬ brd k (nI d) wc (wtg B t) y)) →
      ∃ R, isLow (fun x => (wtg B t).testBit x = true ∧ ¬ brd k (nI d) wc (wtg B t) x) kc R ∧ lpX12_order_58 v1 v2 (lN B) (lN t) v7 (g + 1) v (nI r - 1) n' cont = cont R (-1) n' := by
    intro r
    induction r with
    | zero =>
      intro g v _ _ hv
      refine ⟨v, ?_, by rw [lpX12_order_58, if_pos (by decide)]; rfl⟩
      rcases hv with ⟨a, b⟩ | ⟨x, a, b, c, e, f⟩
      · exact Or.inl ⟨a, fun x hx => b x (Nat.zero_le x) hx⟩
      · exact Or.inr ⟨x, b, c, e, fun y hy => f y (Nat.zero_le y) hy⟩
    | succ r ih =>
      intro g v hr hg hv
      obtain ⟨g, rfl⟩ : ∃ z, g = z + 1 := ⟨g - 1, by omega⟩
      obtain ⟨b, b1, b2⟩ := bar_of hBB hK hW hM (t := t) hB (show r < kc by omega)
      have e0 : nI (r + 1) - 1 = nI r := pk_sub (b := 1) (by omega)
      have no : ¬ ((wtg B t).testBit r = true ∧ ¬ brd k (nI d) wc (wtg B t) r) → ∃ R, isLow (fun x => (wtg B t).testBit x = true ∧ ¬ brd k (nI d) wc (wtg B t) x) kc R ∧ lpX12_order_58 v1 v2 (lN B) (lN t) v7 (g + 1) v (nI r - 1) n' cont = cont R (-1) n' := fun z => ih g v (by omega) (by omega) (by
        rcases hv with ⟨a, c⟩ | ⟨x, a, c, e, f, i⟩
        · refine Or.inl ⟨a, fun x x1 x2 => ?_⟩
          rcases Nat.lt_or_ge r x with y | y
          · exact c x (by omega) x2
          · rw [show x = r by omega]
            exact z
        · refine Or.inr ⟨x, by omega, c, e, f, fun y y1 y2 => ?_⟩
          rcases Nat.lt_or_ge r y with w | w
          · exact i y (by omega) y2
          · rw [show y = r by omega]
            exact z)
      have wb := wtg_bit B t (show r < 64 by omega)
      rw [lpX12_order_58, e0, if_neg (nI_pos (by omega)), ifeq (lbit hB (show r < 64 by omega)), ifeq (lbit0 htt (show r < 64 by omega)), b1, ob_some, ← Int32.sub_eq_add_neg]
      by_cases x1 : B.testBit r = true
      · rw [if_pos x1]
        by_cases x2 : t.testBit r = true
        · rw [if_neg (fun w => w x2)]
          exact no (fun z => by rw [wb, x2] at z; simp at z)
        · rw [if_pos x2]
          have wb2 : (wtg B t).testBit r = true := by
            rw [wb, x1]
            simp at x2
            rw [x2]
            rfl
          cases b
          · rw [if_neg (by decide)]
            have nb : ¬ brd k (nI d) wc (wtg B t) r := fun z => by
              have := b2.mpr z
              cases this
            refine ih g (nI r) (by omega) (by omega) (Or.inr ⟨r, Nat.le_refl r, by omega, ⟨wb2, nb⟩, rfl, fun y y1 y2 => by omega⟩)
          · rw [if_pos rfl]
            exact no (fun z => z.2 (b2.mp rfl))
      · rw [if_neg x1]
        exact no (fun z => by
          rw [wb] at z
          simp at x1
          rw [x1] at z
          simp at z)
  exact L kc 4999 (-1) (Nat.le_refl kc) (by omega) (Or.inl ⟨rfl, fun x a b => by omega⟩)
theorem hold_kc {t gc h kc d p : Nat} {k n : ST} {hold : Nat → Nat} (H : gTurn t gc h kc d k n) (ht : t < 513) (hkc : kc ≤ 40) (hp : p ≤ gc) (h40 : ∀ x, x < 12 → hold x < 2 ^ 40) (hb : ∀ x, x < 12 → ∀ y, y < 40 → (hold x).testBit y = hB (gA k 50) (gA k 51) (nI x) (nI y) p) : ∀ x, x < 12 → hold x < 2 ^ kc := fun x hx => by
  refine Nat.lt_pow_two_of_testBit _ (fun y hy => ?_)
  rcases Nat.lt_or_ge y 40 with e | e
  · rw [hb x hx y e]
    refine hB_false (fun j hj w => ?_)
    obtain ⟨_, ⟨y2, y3, y4⟩, _⟩ := H.2.2.2.2.2.2.1 j (by omega)
    rw [y4] at w
    have := (nI_eq (by omega) (by omega)).mp w.2
    omega
  · exact big_bit (h40 x hx) e
theorem reach_of2 {t d h kc gc wc pc q : Nat} {k n : ST} (ht : t < 513) (hBB : gB d h k n) (hK : gKeys kc d k n) (hG : gTurn t gc h kc d k n) (hW : gWrap wc kc d k n) (hP : gPart pc kc h d k n) (hq : q ≤ d) :
    ∃ k' n' hold, fX11_settleReach k (nI q) = some ((), k') ∧ fX12_layHas n (nI q) = some ((), n') ∧ rcK k (nI q) kc wc pc (fun i => vN (gA k 15 i)) hold k' ∧ isM n n' ∧ (∀ x, x < h → gL n' 122 x = lN (hold x)) ∧ ∀ x, x < 12 → hold x < 2 ^ kc := by
  obtain ⟨b1, b2, b3, b4, b5, b6⟩ := hBB
  obtain ⟨g1, g2, g3, g4, g5, g6, g7, g8, g9⟩ := id hG
  obtain ⟨p, p1, p2, p3⟩ := cut_at (gA k 52) (nI q) gc g8
  obtain ⟨k', hold, a1, a2, a3⟩ := settle_of ht b4 hK hG hW hP p1 p2 p3
  obtain ⟨n', c1, c2, c3⟩ := layHas_of ht hG b6 hK.2.2.1 b4 hK.1 p1 p2 p3
  refine ⟨k', n', hold, a1, c1, a2, c2, fun x hx => ?_, hold_kc hG ht hK.1 p1 (fun x hx => (a2.2.2.2 x hx).1) a3⟩
  obtain ⟨b, d1, d2, d3⟩ := c3 x hx
  rw [d2]
  refine congrArg lN (Nat.eq_of_testBit_eq fun y => ?_)
  obtain ⟨_, _, _, a4⟩ := a2
  have hl := (a4 x (by omega)).1
  rcases Nat.lt_or_ge y 40 with z | z
  · rw [d3 y z, a3 x (by omega) y z]
  · rw [big_bit d1 z, big_bit hl z]
theorem get_kc {pc kc h d wc : Nat} {k n : ST} {q : Int32} {nd hold : Nat → Nat} (hK : gKeys kc d k n) (hW : gWrap wc kc d k n) (hP : gPart pc kc h d k n) (H : ∀ x, x < 12 → hold x < 2 ^ kc) (S : Nat) : getS k q kc wc pc nd hold S < 2 ^ kc := by
  obtain ⟨q1, q2, q3, q4, q5, q6, q7, q8, q9⟩ := hK
  obtain ⟨w1, w2, w3, w4, w5, w6, w7⟩ := hW
  obtain ⟨p1, p2, p3, p4, p5, p6, p7, p8⟩ := hP
  have h1 : oncE k q pc nd hold S < 2 ^ kc := by
    unfold oncE
    refine fN_inv (P := fun u => u < 2 ^ kc) (fun i hi u hu => ?_) (fN_inv (P := fun u => u < 2 ^ kc) (fun i hi u hu => ?_) (Nat.two_pow_pos kc))
    · split
      · unfold pF
        split
        · obtain ⟨⟨a, a1, a2⟩, _⟩ := p8 i hi
          rw [a2, vN_nI (by omega)]
          exact Nat.or_lt_two_pow hu (Nat.pow_lt_pow_right (by decide) a1)
        · exact hu
      · exact hu
    · unfold hF
      split
      · exact Nat.or_lt_two_pow hu (H i hi)
      · exact hu
  have h2 : ∀ v, v < 2 ^ kc → psG k q kc wc stp v < 2 ^ kc := fun v hv => by
    unfold psG
    refine fN_inv (P := fun u => u < 2 ^ kc) (fun i hi u hu => ?_) (fN_inv (P := fun u => u < 2 ^ kc) (fun i hi u hu => ?_) hv)
    · unfold wF
      split
      · obtain ⟨⟨a, a1, a2⟩, _⟩ := w7 i hi
        refine stp_lt ?_ hu
        rw [a2, vN_nI (by omega)]
        exact a1
      · exact hu
    · unfold kF
      split
      · exact stp_lt hi hu
      · exact hu
  have h3 : ∀ r v, v < 2 ^ kc → itN (psG k q kc wc stp) r v < 2 ^ kc := fun r => by
    induction r with
    | zero => exact fun v hv => hv
    | succ r ih => exact fun v hv => ih _ (h2 v hv)
  exact h3 41 _ h1
theorem pair_order (t : Nat) (k n : ST) (a0 : Int32) (a1 : Int32) (ht : t < 512) (hr : Rel t k n) : PR (t + 1) (fX11_order k a0 a1) (fX12_order n a0 a1) := by
  have hr1 := rel_thr 0 hr
  unfold fX11_order fX12_order 
  simp only [nm_eq]
  generalize sI n 11 0 0 = n at hr1 ⊢
  have hr0 := rel_step hr1
  obtain ⟨d, h, kc, bc, gc, wc, pc, rc, dc, tc, sc, ic, lc, fc, ln, bn, hB, hK, hU, hG, hW, hP, hR, hD, hT, hS, hI, hL, hF, hA, hJ, hX⟩ := hr1
  obtain ⟨b1, b2, b3, b4, b5, b6⟩ := id hB
  obtain ⟨f1, f2, f3, f4, f5⟩ := hF
  have hkc := hK.1
  rw [sX11_isFall f2 (by omega), sX12_isFall f3 (by omega), ob_some, ob_some]
  by_cases h1 : inb a0 fc = true
  case neg =>
    rw [if_neg h1, if_neg h1]
    exact PR_mk hr0
  rw [if_pos h1, if_pos h1]
  obtain ⟨i, hi, rfl⟩ := inb_of h1 (by omega)
  obtain ⟨S, S1, S2, S3⟩ := f5 i hi
  obtain ⟨k', n', hold, c1, c2, c3, c4, c5, c6⟩ := reach_of2 (by omega) hB hK hG hW hP (Nat.le_refl d)
  have cM : ∀ S, S < 2 ^ h → fX12_closes n' (nI S) (nI d) (-1) 0 = some (lN (getS k (nI d) kc wc pc (fun i => vN (gA k 15 i)) hold S), n') := fun S hS => closes_M (by rw [c4.i 11 12 (by decide)]; exact b6) (c4.gK hK) (c4.gW hW) (c4.gP hP) b4 (by omega) b1 (fun i => vN_lt _) (fun x hx => (c3.2.2.2 x hx).1) c5 hS (-1) 0 (need_no (c4.gP hP))
  have cK : ∀ S, S < 2 ^ h → fX4_gets k' (nI S) = some (lN (getS k (nI d) kc wc pc (fun i => vN (gA k 15 i)) hold S), k') := fun S hS => gets_K hK hW hP b4 (fun i => vN_lt _) c3 (Nat.lt_of_lt_of_le hS (pow_le12 b4))
  have g1 : inb (nI i) 20 = true := inb_nI (by omega) (by decide)
  have g2 : ix (nI i) = i := ix_nI (by omega)
  by_cases h2 : a1 < 0
  · rw [if_pos h2, if_neg (Int32.not_le.mpr h2)]
    exact PR_mk hr0
  rw [if_neg h2, if_pos (Int32.not_lt.mp h2)]
  obtain ⟨A, hA, rfl⟩ := nI_of h2
  unfold fX12_gets
  rw [g1, ck_true, g2, f4, S3, b3, c2, ob_some, cM S S2, ob_some, ob_some, FU_g]
  have hBk := get_kc (q := nI d) (nd := fun i => vN (gA k 15 i)) hK hW hP c6 S
  have cKS := cK S S2
  generalize getS k (nI d) kc wc pc (fun i => vN (gA k 15 i)) hold S = B at hBk cKS ⊢
  have hB40 : B < 2 ^ 40 := Nat.lt_of_lt_of_le hBk (Nat.pow_le_pow_right (by decide) hkc)
  obtain ⟨_, ⟨cst, st1, st2⟩, _, _⟩ := id c3
  have hlow : ∀ t, ∃ R, fX4_lowestFree k' (lN (wtg B t)) = some (R, k') ∧ isLow (fun x => (wtg B t).testBit x = true ∧ ¬ brd k (nI d) wc (wtg B t) x) 40 R := fun t => low_of st2 st1 (Nat.lt_of_le_of_lt (wtg_le B t) hBk) hkc
  have hP40 : ∀ t x, ((wtg B t).testBit x = true ∧ ¬ brd k (nI d) wc (wtg B t) x) → x < 40 ∧ x < kc := fun t x hx => by
    have : x < kc := by
      rcases Nat.lt_or_ge x kc with e | e
      · exact e
      · have := hx.1
        rw [Nat.testBit_lt_two_pow (Nat.lt_of_lt_of_le (Nat.lt_of_le_of_lt (wtg_le B t) hBk) (Nat.pow_le_pow_right (by decide) e))] at this
        cases this
    exact ⟨by omega, this⟩
  have e13 : gI n' 11 13 = nI kc := by rw [c4.i 11 13 (by decide)]; exact hK.2.2.1
  have step : ∀ (g j t : Nat) (R : Int32), t < 2 ^ 40 → j < 40 → isLow (fun x => (wtg B t).testBit x = true ∧ ¬ brd k (nI d) wc (wtg B t) x) 40 R → lpX12_order_40 (nI i) (nI A) (lN B) (g + 1) (lN t) (nI j) n' (fun y24 y25 k26 => some (-1, k26)) = if R = -1 then some (R, n') else if nI j = nI A then some (R, n') else lpX12_order_40 (nI i) (nI A) (lN B) g (lN t ||| (j_lshl 1 R)) (nI (j + 1)) n' (fun y24 y25 k26 => some (-1, k26)) := fun g j t R htt hj hR => by
    rw [lpX12_order_40, if_neg (show ¬ (40 : Int32) ≤ nI j from nI_ge (b := 40) hj (by decide)), e13, FU_g]
    obtain ⟨R', r1, r2⟩ := next_of hB hK hW c4 (t := t) hB40 htt (nI i) (nI A) (nI j) (fun y19 y20 k21 => if y19 = (-1) then some (y19, k21) else if nI j = nI A then some (y19, k21) else lpX12_order_40 (nI i) (nI A) (lN B) g (lN t ||| (j_lshl 1 y19)) (nI j + 1) k21 (fun y24 y25 k26 => some (-1, k26)))
    rw [r2, isLow_uniq r1 hR (fun x hx => ⟨(hP40 t x hx).2, (hP40 t x hx).1⟩), nI_1]
  rcases Nat.lt_or_ge A 40 with hA40 | hA40
  · rw [if_pos (show nI A < 40 from nI_lt (b := 40) hA40 (by decide)), b2, c1, ob_some, ck_true, c3.1.a 58 rfl, S3, cKS, ob_some]
    have main : ∀ (r g j t : Nat) (R : Int32), j + r = A → r + 1 ≤ g → t < 2 ^ 40 → isLow (fun x => (wtg B t).testBit x = true ∧ ¬ brd k (nI d) wc (wtg B t) x) 40 R →
        ∃ Q, lpX11_order_55 (nI i) (nI A) (g + 1) (lN (wtg B t)) R (nI j) k' (fun y23 y24 y25 k26 => some (y24, k26)) = some (Q, k') ∧ lpX12_order_40 (nI i) (nI A) (lN B) (g + 1) (lN t) (nI j) n' (fun y24 y25 k26 => some (-1, k26)) = some (Q, n') := by
      intro r
      induction r with
      | zero =>
        intro g j t R hj hg htt hR
        have : j = A := by omega
        subst this
        refine ⟨R, ?_, ?_⟩
        · rw [lpX11_order_55, if_pos (nI_le (Nat.le_refl j) hA)]
        · rw [step g j t R htt hA40 hR, if_pos rfl, ite_self]
      | succ r ih =>
        intro g j t R hj hg htt hR
        obtain ⟨g, rfl⟩ : ∃ z, g = z + 1 := ⟨g - 1, by omega⟩
        rw [lpX11_order_55, if_neg (nI_ge (by omega) hA), step (g + 1) j t R htt (by omega) hR]
        by_cases e : R = -1
        · rw [if_pos e, if_pos e]
          exact ⟨R, rfl, rfl⟩
        · rw [if_neg e, if_neg e, if_neg (fun z => by have := (nI_eq (by omega) hA).mp z; omega)]
          rcases hR with ⟨x1, _⟩ | ⟨x, x1, x2, x3, x4⟩
          · exact absurd x1 e
          · subst x3
            obtain ⟨R2, y1, y2⟩ := hlow (t ||| 2 ^ x)
            rw [nm_eq, lshl1 (by omega), wtg_L, wtg_step hB40 x1, y1, ob_some, fb_orL, nI_1]
            exact ih g (j + 1) (t ||| 2 ^ x) R2 (by omega) (by omega) (Nat.or_lt_two_pow htt (Nat.pow_lt_pow_right (by decide) x1)) y2
    have w0 : wtg B 0 = B := Nat.eq_of_testBit_eq fun x => by
      rcases Nat.lt_or_ge x 64 with e | e
      · rw [wtg_bit B 0 e, Nat.zero_testBit, Bool.not_false, Bool.and_true]
      · rw [big_bit (Nat.lt_of_le_of_lt (wtg_le _ _) hB40) (by omega), big_bit hB40 (by omega)]
    obtain ⟨R, y1, y2⟩ := hlow 0
    obtain ⟨Q, z1, z2⟩ := main A 4999 0 0 R (by omega) (by omega) (by decide) y2
    rw [w0] at y1 z1
    rw [y1, ob_some]
    rw [show lpX11_order_55 (nI i) (nI A) (4999 + 1) (lN B) R 0 k' (fun y23 y24 y25 k26 => some (y24, k26)) = some (Q, k') from z1]
    rw [show lpX12_order_40 (nI i) (nI A) (lN B) (4999 + 1) 0 0 n' (fun y24 y25 k26 => some (-1, k26)) = some (Q, n') from z2]
    exact PR_mk (c4.rel (c3.1.rel hr0))
  · rw [if_neg (show ¬ nI A < 40 from nI_nlt (b := 40) hA40 hA)]
    have main : ∀ (r g j t : Nat), j + r = 40 → r ≤ g → t < 2 ^ 40 → lpX12_order_40 (nI i) (nI A) (lN B) (g + 1) (lN t) (nI j) n' (fun y24 y25 k26 => some (-1, k26)) = some (-1, n') := by
      intro r
      induction r with
      | zero =>
        intro g j t hj _ _
        have : j = 40 := by omega
        subst this
        rw [lpX12_order_40, if_pos (show (40 : Int32) ≤ nI 40 by decide)]
      | succ r ih =>
        intro g j t hj hg htt
        obtain ⟨g, rfl⟩ : ∃ z, g = z + 1 := ⟨g - 1, by omega⟩
        obtain ⟨R, y1, y2⟩ := hlow t
        rw [step (g + 1) j t R htt (by omega) y2]
        by_cases e : R = -1
        · rw [if_pos e, e]
        · rw [if_neg e, if_neg (fun z => by have := (nI_eq (by omega) hA).mp z; omega)]
          rcases y2 with ⟨x1, _⟩ | ⟨x, x1, x2, x3, x4⟩
          · exact absurd x1 e
          · subst x3
            rw [lshl1 (by omega), fb_orL]
            exact ih g (j + 1) (t ||| 2 ^ x) (by omega) (by omega) (Nat.or_lt_two_pow htt (Nat.pow_lt_pow_right (by decide) x1))
    rw [show lpX12_order_40 (nI i) (nI A) (lN B) (4999 + 1) 0 0 n' (fun y24 y25 k26 => some (-1, k26)) = some (-1, n') from main 40 4999 0 0 (by omega) (by omega) (by decide)]
    exact PR_mk (c4.rel hr0)
