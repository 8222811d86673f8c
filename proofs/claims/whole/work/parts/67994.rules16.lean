/-! SAYINGS: what holders said of a thing or a death up to a day -/
/-- bits of those whose last word was yes; 12 higher: no -/
def vcS (yb ab ys dy : Nat → Int32) (o u : Int32) : Nat → Nat
  | 0 => 0
  | i + 1 => if ab i = o ∧ dy i ≤ u then (vcS yb ab ys dy o u i &&& ((2 ^ vN (yb i) ||| 2 ^ (vN (yb i) + 12)) ^^^ (2 ^ 32 - 1))) ||| (if ys i = 0 then 2 ^ (vN (yb i) + 12) else 2 ^ vN (yb i)) else vcS yb ab ys dy o u i
theorem vcS_lt {yb ab ys dy : Nat → Int32} {o u : Int32} : ∀ i, (∀ j, j < i → vN (yb j) < 12) → vcS yb ab ys dy o u i < 2 ^ 24
  | 0, _ => by show 0 < 2 ^ 24; decide
  | i + 1, h => by
    have ih := vcS_lt (ab := ab) (ys := ys) (dy := dy) (o := o) (u := u) i (fun j hj => h j (by omega))
    have hb := h i (by omega)
    unfold vcS
    split
    · refine Nat.or_lt_two_pow (Nat.lt_of_le_of_lt Nat.and_le_left ih) ?_
      split
      · exact Nat.pow_lt_pow_right (by decide) (by omega)
      · exact Nat.pow_lt_pow_right (by decide) (by omega)
    · exact ih
theorem vc_bit (V b x : Nat) (y : Bool) (hx : x < 32) : ((V &&& ((2 ^ b ||| 2 ^ (b + 12)) ^^^ (2 ^ 32 - 1))) ||| (if y then 2 ^ b else 2 ^ (b + 12))).testBit x = if x = b then y else if x = b + 12 then !y else V.testBit x := by
  rw [Nat.testBit_or, Nat.testBit_and, Nat.testBit_xor, Nat.testBit_or, Nat.testBit_two_pow_sub_one, decide_eq_true hx, Nat.testBit_two_pow, Nat.testBit_two_pow]
  have e : (if y = true then 2 ^ b else 2 ^ (b + 12)).testBit x = if y = true then decide (b = x) else decide (b + 12 = x) := by
    cases y
    · exact Nat.testBit_two_pow
    · exact Nat.testBit_two_pow
  rw [e]
  by_cases h1 : x = b
  · subst h1
    rw [if_pos rfl, decide_eq_true rfl, decide_eq_false (show ¬ x + 12 = x by omega)]
    cases y <;> cases V.testBit x <;> rfl
  · rw [if_neg h1, decide_eq_false (fun z => h1 z.symm)]
    by_cases h2 : x = b + 12
    · rw [if_pos h2, decide_eq_true h2.symm]
      cases y <;> cases V.testBit x <;> rfl
    · rw [if_neg h2, decide_eq_false (fun z => h2 z.symm)]
      cases y <;> cases V.testBit x <;> rfl
theorem vcS_stop {yb ab ys dy : Nat → Int32} {o u : Int32} {i : Nat} : ∀ r, (∀ j, i ≤ j → j < i + r → u < dy j) → vcS yb ab ys dy o u (i + r) = vcS yb ab ys dy o u i
  | 0, _ => rfl
  | r + 1, h => by
    have ih := vcS_stop (yb := yb) (ab := ab) (ys := ys) (dy := dy) (o := o) (u := u) (i := i) r (fun j h1 h2 => h j h1 (by omega))
    have hstep : vcS yb ab ys dy o u (i + r + 1) = if ab (i + r) = o ∧ dy (i + r) ≤ u then (vcS yb ab ys dy o u (i + r) &&& ((2 ^ vN (yb (i + r)) ||| 2 ^ (vN (yb (i + r)) + 12)) ^^^ (2 ^ 32 - 1))) ||| (if ys (i + r) = 0 then 2 ^ (vN (yb (i + r)) + 12) else 2 ^ vN (yb (i + r))) else vcS yb ab ys dy o u (i + r) := rfl
    show vcS yb ab ys dy o u (i + r + 1) = vcS yb ab ys dy o u i
    rw [hstep, if_neg (fun z => by
      have h1 := Int32.lt_iff_toInt_lt.mp (h (i + r) (by omega) (by omega))
      have h2 := Int32.le_iff_toInt_le.mp z.2
      omega), ih]
theorem shl12 : ∀ b : Fin 12, j_shl (nI (2 ^ b.val)) 12 = nI (2 ^ (b.val + 12)) := by decide +kernel
theorem xorM (m : Nat) : nI m ^^^ (-1) = nI (m ^^^ (2 ^ 32 - 1)) := fb_xorI m (2 ^ 32 - 1)
theorem le_not {a b : Int32} : ¬ a < b ↔ b ≤ a := by
  rw [Int32.lt_iff_toInt_lt, Int32.le_iff_toInt_le]
  omega
theorem voicesK {k n : ST} {sc h tc d : Nat} (hh : h ≤ 12) (hS : gSay sc h tc d k n) (o u : Int32) : fX6_voices k o u = some (nI (vcS (gA k 30) (gA k 31) (gA k 32) (gA k 33) o u sc), k) := by
  obtain ⟨s1, s2, s3, s4, s5, s6, s7, s8⟩ := hS
  unfold fX6_voices
  rw [FU_g]
  have lp : ∀ (r g i : Nat), i + r = sc → r + 1 ≤ g → lpX6_voices_5 o u g (nI (vcS (gA k 30) (gA k 31) (gA k 32) (gA k 33) o u i)) (nI i) k (fun y12 y13 k14 => some (y12, k14)) = some (nI (vcS (gA k 30) (gA k 31) (gA k 32) (gA k 33) o u sc), k) := by
    intro r
    induction r with
    | zero =>
      intro g i hi hg
      obtain ⟨g, rfl⟩ : ∃ z, g = z + 1 := ⟨g - 1, by omega⟩
      have : i = sc := by omega
      subst this
      rw [lpX6_voices_5, s2, if_pos (nI_le (Nat.le_refl _) (by omega))]
    | succ r ih =>
      intro g i hi hg
      obtain ⟨g, rfl⟩ : ∃ z, g = z + 1 := ⟨g - 1, by omega⟩
      obtain ⟨⟨b, b1, b2⟩, _, ⟨y, y1⟩, _⟩ := s7 i (by omega)
      rw [lpX6_voices_5, s2, if_neg (nI_ge (by omega) (by omega)), inb_nI (show i < 200 by omega) (by decide), ck_true, ck_true, ck_true, ix_nI (by omega)]
      by_cases c1 : u < gA k 33 i
      · rw [if_pos c1]
        have hst := vcS_stop (yb := gA k 30) (ab := gA k 31) (ys := gA k 32) (dy := gA k 33) (o := o) (u := u) (i := i) (r + 1) (fun j h1 h2 => by
          have q1 := Int32.lt_iff_toInt_lt.mp c1
          have q2 := Int32.le_iff_toInt_le.mp (s8 i j h1 (by omega))
          exact Int32.lt_iff_toInt_lt.mpr (by omega))
        rw [hi] at hst
        rw [hst]
      · rw [if_neg c1]
        have hstep : vcS (gA k 30) (gA k 31) (gA k 32) (gA k 33) o u (i + 1) = if gA k 31 i = o ∧ gA k 33 i ≤ u then (vcS (gA k 30) (gA k 31) (gA k 32) (gA k 33) o u i &&& ((2 ^ vN (gA k 30 i) ||| 2 ^ (vN (gA k 30 i) + 12)) ^^^ (2 ^ 32 - 1))) ||| (if gA k 32 i = 0 then 2 ^ (vN (gA k 30 i) + 12) else 2 ^ vN (gA k 30 i)) else vcS (gA k 30) (gA k 31) (gA k 32) (gA k 33) o u i := rfl
        have go := ih g (i + 1) (by omega) (by omega)
        by_cases c2 : gA k 31 i = o
        · rw [if_pos ⟨c2, le_not.mp c1⟩, b2, vN_nI (by omega)] at hstep
          rw [if_pos c2, nm_eq, ck_true, nm_eq, nm_eq, b2, shl1 b (by omega), shl12 ⟨b, by omega⟩, fa_or, xorM, fa_and, fa_or, fa_or, nI_1]
          by_cases c3 : gA k 32 i = 0
          · rw [if_pos c3] at hstep ⊢
            rw [hstep] at go
            exact go
          · rw [if_neg c3] at hstep ⊢
            rw [hstep] at go
            exact go
        · rw [if_neg (fun z => c2 z.1)] at hstep
          rw [if_neg c2, nI_1, ← hstep]
          exact go
  exact lp sc (4999 + 1) 0 (by omega) (by omega)
/-- what the model finds that a holder said last -/
def lsM (yb dt ab ys dy : Nat → Int32) (D O T S x : Int32) : Nat → Int32
  | 0 => -1
  | i + 1 => if yb i = x ∧ dt i = D ∧ ab i = O ∧ ¬ T < dy i ∧ ¬ S < dy i then (if ys i = 0 then 0 else 1) else lsM yb dt ab ys dy D O T S x i
theorem saysM {y : ST} {sc : Nat} (h1 : sc ≤ 200) (h2 : gI y 11 51 = nI sc) (v : Int32) : fX12_saysLast y v = some (lsM (gA y 131) (gA y 137) (gA y 132) (gA y 136) (gA y 133) (gI y 11 62) (gI y 11 58) (gI y 11 59) (gI y 11 60) v sc, y) := by
  unfold fX12_saysLast
  rw [FU_g]
  have lp : ∀ (r g i : Nat), i + r = sc → r + 1 ≤ g → lpX12_saysLast_4 v g (lsM (gA y 131) (gA y 137) (gA y 132) (gA y 136) (gA y 133) (gI y 11 62) (gI y 11 58) (gI y 11 59) (gI y 11 60) v i) (nI i) y (fun y14 y15 k16 => some (y14, k16)) = some (lsM (gA y 131) (gA y 137) (gA y 132) (gA y 136) (gA y 133) (gI y 11 62) (gI y 11 58) (gI y 11 59) (gI y 11 60) v sc, y) := by
    intro r
    induction r with
    | zero =>
      intro g i hi hg
      obtain ⟨g, rfl⟩ : ∃ z, g = z + 1 := ⟨g - 1, by omega⟩
      have : i = sc := by omega
      subst this
      rw [lpX12_saysLast_4, h2, if_pos (nI_le (Nat.le_refl _) (by omega))]
    | succ r ih =>
      intro g i hi hg
      obtain ⟨g, rfl⟩ : ∃ z, g = z + 1 := ⟨g - 1, by omega⟩
      have go := ih g (i + 1) (by omega) (by omega)
      have hstep : lsM (gA y 131) (gA y 137) (gA y 132) (gA y 136) (gA y 133) (gI y 11 62) (gI y 11 58) (gI y 11 59) (gI y 11 60) v (i + 1) = if gA y 131 i = v ∧ gA y 137 i = gI y 11 62 ∧ gA y 132 i = gI y 11 58 ∧ ¬ gI y 11 59 < gA y 133 i ∧ ¬ gI y 11 60 < gA y 133 i then (if gA y 136 i = 0 then 0 else 1) else lsM (gA y 131) (gA y 137) (gA y 132) (gA y 136) (gA y 133) (gI y 11 62) (gI y 11 58) (gI y 11 59) (gI y 11 60) v i := rfl
      rw [lpX12_saysLast_4, h2, if_neg (nI_ge (by omega) (by omega)), inb_nI (show i < 200 by omega) (by decide), ck_true, ck_true, ck_true, ck_true, ck_true, ck_true, ix_nI (by omega), nI_1]
      by_cases c1 : gA y 131 i = v
      · rw [if_pos c1]
        by_cases c2 : gA y 137 i = gI y 11 62
        · rw [if_pos c2]
          by_cases c3 : gA y 132 i = gI y 11 58
          · rw [if_pos c3]
            by_cases c4 : gI y 11 59 < gA y 133 i
            · rw [if_neg (fun z => z.2.2.2.1 c4)] at hstep
              rw [hstep] at go
              rw [if_pos c4]
              exact go
            · rw [if_neg c4]
              by_cases c5 : gI y 11 60 < gA y 133 i
              · rw [if_neg (fun z => z.2.2.2.2 c5)] at hstep
                rw [hstep] at go
                rw [if_pos c5]
                exact go
              · rw [if_pos ⟨c1, c2, c3, c4, c5⟩] at hstep
                rw [hstep] at go
                rw [if_neg c5]
                by_cases c6 : gA y 136 i = 0
                · rw [if_pos c6] at go ⊢
                  exact go
                · rw [if_neg c6] at go ⊢
                  exact go
          · rw [if_neg (fun z => c3 z.2.2.1)] at hstep
            rw [hstep] at go
            rw [if_neg c3]
            exact go
        · rw [if_neg (fun z => c2 z.2.1)] at hstep
          rw [hstep] at go
          rw [if_neg c2]
          exact go
      · rw [if_neg (fun z => c1 z.1)] at hstep
        rw [hstep] at go
        rw [if_neg c1]
        exact go
  exact lp sc (4999 + 1) 0 (by omega) (by omega)
/-- class and model know the same of what was said. o: what it is about here; D, O: there -/
theorem said {k n : ST} {sc h tc d : Nat} (hh : h ≤ 12) (hS : gSay sc h tc d k n) {o u D O T S : Int32} (ho : ∀ i, i < sc → (gA k 31 i = o ↔ gA n 137 i = D ∧ gA n 132 i = O)) (hu : ∀ e : Int32, e ≤ u ↔ ¬ T < e ∧ ¬ S < e) {x : Nat} (hx : x < 12) :
    ∀ i, i ≤ sc → (lsM (gA n 131) (gA n 137) (gA n 132) (gA n 136) (gA n 133) D O T S (nI x) i = 1 ↔ (vcS (gA k 30) (gA k 31) (gA k 32) (gA k 33) o u i).testBit x = true) ∧ (lsM (gA n 131) (gA n 137) (gA n 132) (gA n 136) (gA n 133) D O T S (nI x) i = 0 ↔ (vcS (gA k 30) (gA k 31) (gA k 32) (gA k 33) o u i).testBit (x + 12) = true) := by
  obtain ⟨s1, s2, s3, s4, s5, s6, s7, s8⟩ := hS
  rw [s4, s5, s6]
  intro i
  induction i with
  | zero =>
    intro _
    show ((-1 : Int32) = 1 ↔ (0 : Nat).testBit x = true) ∧ ((-1 : Int32) = 0 ↔ (0 : Nat).testBit (x + 12) = true)
    rw [Nat.zero_testBit, Nat.zero_testBit]
    exact ⟨by decide, by decide⟩
  | succ i ih =>
    intro hi
    have ih := ih (by omega)
    obtain ⟨⟨b, b1, b2⟩, _, ⟨y, y1⟩, _⟩ := s7 i (by omega)
    have ho := ho i (by omega)
    have hu := hu (gA k 33 i)
    unfold lsM vcS
    by_cases c : gA k 31 i = o ∧ gA k 33 i ≤ u
    · have c1 := ho.mp c.1
      have c2 := hu.mp c.2
      rw [if_pos c, b2, vN_nI (by omega), y1]
      have ey : (if b2i y = 0 then 2 ^ (b + 12) else 2 ^ b) = if y = true then 2 ^ b else 2 ^ (b + 12) := by cases y <;> rfl
      rw [ey, vc_bit _ b x y (by omega), vc_bit _ b (x + 12) y (by omega)]
      by_cases cx : b = x
      · subst cx
        rw [if_pos ⟨rfl, c1.1, c1.2, c2.1, c2.2⟩, if_pos (show b = b from rfl), if_neg (show ¬ b + 12 = b by omega), if_pos (show b + 12 = b + 12 from rfl)]
        cases y <;> decide
      · rw [if_neg (fun z => cx ((nI_eq (by omega) (by omega)).mp z.1)), if_neg (fun z => cx z.symm), if_neg (show ¬ x = b + 12 by omega), if_neg (show ¬ x + 12 = b by omega), if_neg (show ¬ x + 12 = b + 12 by omega)]
        exact ih
    · rw [if_neg c, if_neg (fun z => c ⟨ho.mpr ⟨z.2.1, z.2.2.1⟩, hu.mpr z.2.2.2⟩)]
      exact ih
/-! the first yes, of a death -/
def fyS (ab ys dy : Nat → Int32) (o u : Int32) : Nat → Nat → Int32
  | 0, _ => -1
  | r + 1, i => if ab i = o ∧ dy i ≤ u ∧ ¬ ys i = 0 then dy i else fyS ab ys dy o u r (i + 1)
theorem fyS_stop {ab ys dy : Nat → Int32} {o u : Int32} : ∀ r i, (∀ j, i ≤ j → j < i + r → u < dy j) → fyS ab ys dy o u r i = -1
  | 0, _, _ => rfl
  | r + 1, i, h => by
    unfold fyS
    rw [if_neg (fun z => by
      have h1 := Int32.lt_iff_toInt_lt.mp (h i (by omega) (by omega))
      have h2 := Int32.le_iff_toInt_le.mp z.2.1
      omega)]
    exact fyS_stop r (i + 1) (fun j h1 h2 => h j (by omega) (by omega))
theorem firstK {k n : ST} {sc h tc d : Nat} (hS : gSay sc h tc d k n) (o u : Int32) : fX6_firstYes k o u = some (fyS (gA k 31) (gA k 32) (gA k 33) o u sc 0, k) := by
  obtain ⟨s1, s2, s3, s4, s5, s6, s7, s8⟩ := hS
  unfold fX6_firstYes
  rw [FU_g]
  have lp : ∀ (r g i : Nat), i + r = sc → r + 1 ≤ g → lpX6_firstYes_2 o u g (nI i) k (fun y9 k10 => some ((-1), k10)) = some (fyS (gA k 31) (gA k 32) (gA k 33) o u r i, k) := by
    intro r
    induction r with
    | zero =>
      intro g i hi hg
      obtain ⟨g, rfl⟩ : ∃ z, g = z + 1 := ⟨g - 1, by omega⟩
      rw [lpX6_firstYes_2, s2, if_pos (nI_le (by omega) (by omega))]
      rfl
    | succ r ih =>
      intro g i hi hg
      obtain ⟨g, rfl⟩ : ∃ z, g = z + 1 := ⟨g - 1, by omega⟩
      rw [lpX6_firstYes_2, s2, if_neg (nI_ge (by omega) (by omega)), inb_nI (show i < 200 by omega) (by decide), ck_true, ck_true, ck_true, ck_true, ix_nI (by omega), nI_1]
      by_cases c1 : u < gA k 33 i
      · rw [if_pos c1, fyS_stop (r + 1) i (fun j h1 h2 => by
          have q1 := Int32.lt_iff_toInt_lt.mp c1
          have q2 := Int32.le_iff_toInt_le.mp (s8 i j h1 (by omega))
          exact Int32.lt_iff_toInt_lt.mpr (by omega))]
      · have hstep : fyS (gA k 31) (gA k 32) (gA k 33) o u (r + 1) i = if gA k 31 i = o ∧ gA k 33 i ≤ u ∧ ¬ gA k 32 i = 0 then gA k 33 i else fyS (gA k 31) (gA k 32) (gA k 33) o u r (i + 1) := rfl
        rw [if_neg c1, ih g (i + 1) (by omega) (by omega), hstep]
        by_cases c2 : gA k 31 i = o
        · rw [if_pos c2]
          by_cases c3 : gA k 32 i = 0
          · rw [if_pos c3, if_neg (fun z => z.2.2 c3)]
          · rw [if_neg c3, if_pos ⟨c2, le_not.mp c1, c3⟩]
        · rw [if_neg c2, if_neg (fun z => c2 z.1)]
  exact lp sc (4999 + 1) 0 (by omega) (by omega)
theorem fyS_day {k n : ST} {sc h tc d : Nat} (hS : gSay sc h tc d k n) (o u : Int32) : ∀ r i, i + r ≤ sc → fyS (gA k 31) (gA k 32) (gA k 33) o u r i = -1 ∨ ∃ e, e ≤ d ∧ nI e ≤ u ∧ fyS (gA k 31) (gA k 32) (gA k 33) o u r i = nI e
  | 0, _, _ => Or.inl rfl
  | r + 1, i, hi => by
    unfold fyS
    by_cases c : gA k 31 i = o ∧ gA k 33 i ≤ u ∧ ¬ gA k 32 i = 0
    · rw [if_pos c]
      obtain ⟨_, _, _, ⟨e, e1, e2⟩⟩ := hS.2.2.2.2.2.2.1 i (by omega)
      exact Or.inr ⟨e, e1, by rw [← e2]; exact c.2.1, e2⟩
    · rw [if_neg c]
      exact fyS_day hS o u r (i + 1) (by omega)
/-! the rule of a death -/
def rod (dh dr dt : Nat → Int32) (x q : Int32) : Nat → Int32
  | 0 => -1
  | i + 1 => if dh i = x ∧ dt i ≤ q then dr i else rod dh dr dt x q i
theorem rodK {k n : ST} {dc h rc d : Nat} (hD : gDeath dc h rc d k n) (x q : Int32) : fX6_ruleOfDeath k x q = some (rod (gA k 34) (gA k 35) (gA k 36) x q dc, k) := by
  obtain ⟨s1, s2, s3, s4, s5, s6, s7⟩ := hD
  unfold fX6_ruleOfDeath
  rw [FU_g, s2]
  have lp : ∀ (i g : Nat), i ≤ dc → i + 1 ≤ g → lpX6_ruleOfDeath_7 x q g (nI i - 1) k (fun y7 k8 => some ((-1), k8)) = some (rod (gA k 34) (gA k 35) (gA k 36) x q i, k) := by
    intro i
    induction i with
    | zero =>
      intro g hi hg
      obtain ⟨g, rfl⟩ : ∃ z, g = z + 1 := ⟨g - 1, by omega⟩
      rw [lpX6_ruleOfDeath_7, if_pos (show nI 0 - 1 < 0 by decide)]
      rfl
    | succ i ih =>
      intro g hi hg
      obtain ⟨g, rfl⟩ : ∃ z, g = z + 1 := ⟨g - 1, by omega⟩
      have e : nI i + (-1) = nI i - 1 := (Int32.sub_eq_add_neg _ _).symm
      rw [show nI (i + 1) - 1 = nI i from pk_sub (b := 1) (by omega), lpX6_ruleOfDeath_7, if_neg (nI_pos (by omega)), inb_nI (show i < 40 by omega) (by decide), ck_true, ck_true, ck_true, ix_nI (by omega), e, ih g (by omega) (by omega), show rod (gA k 34) (gA k 35) (gA k 36) x q (i + 1) = if gA k 34 i = x ∧ gA k 36 i ≤ q then gA k 35 i else rod (gA k 34) (gA k 35) (gA k 36) x q i from rfl]
      by_cases c1 : gA k 34 i = x
      · rw [if_pos c1]
        by_cases c2 : q < gA k 36 i
        · rw [if_pos c2, if_neg (fun z => le_not.mpr z.2 c2)]
        · rw [if_neg c2, if_pos ⟨c1, le_not.mp c2⟩]
      · rw [if_neg c1, if_neg (fun z => c1 z.1)]
  exact lp dc (4999 + 1) (Nat.le_refl _) (by omega)
theorem rod_in {k n : ST} {dc h rc d : Nat} (hD : gDeath dc h rc d k n) (x q : Int32) : ∀ i, i ≤ dc → rod (gA k 34) (gA k 35) (gA k 36) x q i = -1 ∨ ∃ r y, r < rc ∧ y < h ∧ x = nI y ∧ rod (gA k 34) (gA k 35) (gA k 36) x q i = nI r
  | 0, _ => Or.inl rfl
  | i + 1, hi => by
    unfold rod
    by_cases c : gA k 34 i = x ∧ gA k 36 i ≤ q
    · rw [if_pos c]
      obtain ⟨⟨y, y1, y2⟩, ⟨r, r1, r2⟩, _⟩ := hD.2.2.2.2.2.2 i (by omega)
      exact Or.inr ⟨r, y, r1, y1, by rw [← c.1]; exact y2, r2⟩
    · rw [if_neg c]
      exact rod_in hD x q i (by omega)
theorem rodM {k n : ST} {dc h rc d : Nat} (hD : gDeath dc h rc d k n) (v1 q x : Int32) (cont : Int32 → Int32 → ST → Option (Unit × ST)) : lpX12_findDead_29 v1 q x FU (-1) 0 n cont = cont (rod (gA k 34) (gA k 35) (gA k 36) x q dc) (nI dc) n := by
  obtain ⟨s1, s2, s3, s4, s5, s6, s7⟩ := hD
  rw [FU_g]
  have lp : ∀ (r g i : Nat), i + r = dc → r + 1 ≤ g → lpX12_findDead_29 v1 q x g (rod (gA k 34) (gA k 35) (gA k 36) x q i) (nI i) n cont = cont (rod (gA k 34) (gA k 35) (gA k 36) x q dc) (nI dc) n := by
    intro r
    induction r with
    | zero =>
      intro g i hi hg
      obtain ⟨g, rfl⟩ : ∃ z, g = z + 1 := ⟨g - 1, by omega⟩
      have : i = dc := by omega
      subst this
      rw [lpX12_findDead_29, s3, if_pos (nI_le (Nat.le_refl _) (by omega))]
    | succ r ih =>
      intro g i hi hg
      obtain ⟨g, rfl⟩ : ∃ z, g = z + 1 := ⟨g - 1, by omega⟩
      have go := ih g (i + 1) (by omega) (by omega)
      rw [lpX12_findDead_29, s3, if_neg (nI_ge (by omega) (by omega)), inb_nI (show i < 40 by omega) (by decide), ck_true, ck_true, ck_true, ix_nI (by omega), nI_1, s4, s5, s6]
      have hstep : rod (gA k 34) (gA k 35) (gA k 36) x q (i + 1) = if gA k 34 i = x ∧ gA k 36 i ≤ q then gA k 35 i else rod (gA k 34) (gA k 35) (gA k 36) x q i := rfl
      rw [hstep] at go
      by_cases c1 : gA k 34 i = x
      · rw [if_pos c1]
        by_cases c2 : q < gA k 36 i
        · rw [if_neg (fun z => le_not.mpr z.2 c2)] at go
          rw [if_pos c2]
          exact go
        · rw [if_pos ⟨c1, le_not.mp c2⟩] at go
          rw [if_neg c2]
          exact go
      · rw [if_neg (fun z => c1 z.1)] at go
        rw [if_neg c1]
        exact go
  exact lp dc (4999 + 1) 0 (by omega) (by omega)
theorem firstM {k n : ST} {sc h tc d : Nat} (hS : gSay sc h tc d k n) {o u v1 v2 v3 v4 : Int32} (ho : ∀ i, i < sc → (gA k 31 i = o ↔ ¬ gA n 137 i = 0 ∧ gA n 132 i = v3)) (hu : ∀ e : Int32, e ≤ u ↔ ¬ v1 < e ∧ ¬ v2 < e) {y : ST} (hm : isM n y) (h61 : gI y 11 61 = -1) (cont : Int32 → ST → Option (Unit × ST)) :
    lpX12_findDead_93 v1 v2 v3 v4 FU (gI y 11 51 - 1) y cont = cont (-1) (sI y 11 61 (fyS (gA k 31) (gA k 32) (gA k 33) o u sc 0)) := by
  obtain ⟨s1, s2, s3, s4, s5, s6, s7, s8⟩ := hS
  have sid : ∀ z : ST, sI z 11 61 (gI z 11 61) = z := fun z => by
    refine Prod.ext ?_ rfl
    funext c f
    show gI (sI z 11 61 (gI z 11 61)) c f = gI z c f
    rw [gI_sI]
    by_cases c1 : c = 11
    · rw [if_pos c1]
      by_cases c2 : f = 61
      · rw [if_pos c2, c1, c2]
      · rw [if_neg c2]
    · rw [if_neg c1]
  have s51 : gI y 11 51 = nI sc := by
    rw [hm.i 11 51 (fun _ => rfl)]
    exact s3
  have lp : ∀ (i g : Nat) (v : Int32), i ≤ sc → i + 1 ≤ g → v = fyS (gA k 31) (gA k 32) (gA k 33) o u (sc - i) i → lpX12_findDead_93 v1 v2 v3 v4 g (nI i - 1) (sI y 11 61 v) cont = cont (-1) (sI y 11 61 (fyS (gA k 31) (gA k 32) (gA k 33) o u sc 0)) := by
    intro i
    induction i with
    | zero =>
      intro g v hi hg hv
      obtain ⟨g, rfl⟩ : ∃ z, g = z + 1 := ⟨g - 1, by omega⟩
      rw [lpX12_findDead_93, if_pos (show nI 0 - 1 < 0 by decide), show nI 0 - 1 = (-1 : Int32) by decide, hv, Nat.sub_zero]
    | succ i ih =>
      intro g v hi hg hv
      obtain ⟨g, rfl⟩ : ∃ z, g = z + 1 := ⟨g - 1, by omega⟩
      have e : nI i + (-1) = nI i - 1 := (Int32.sub_eq_add_neg _ _).symm
      have hsc : sc - i = (sc - (i + 1)) + 1 := by omega
      have r1 : gA (sI y 11 61 v) 137 = gA n 137 := hm.a 137 (by decide) (by decide)
      have r2 : gA (sI y 11 61 v) 132 = gA n 132 := hm.a 132 (by decide) (by decide)
      have r3 : gA (sI y 11 61 v) 136 = gA k 32 := (hm.a 136 (by decide) (by decide)).trans s5
      have r4 : gA (sI y 11 61 v) 133 = gA k 33 := (hm.a 133 (by decide) (by decide)).trans s6
      have ho := ho i (by omega)
      have hu := hu (gA k 33 i)
      have go : ∀ w, w = fyS (gA k 31) (gA k 32) (gA k 33) o u (sc - i) i → lpX12_findDead_93 v1 v2 v3 v4 g (nI i - 1) (sI y 11 61 w) cont = cont (-1) (sI y 11 61 (fyS (gA k 31) (gA k 32) (gA k 33) o u sc 0)) := fun w hw => ih g w (by omega) (by omega) hw
      have hstep : fyS (gA k 31) (gA k 32) (gA k 33) o u (sc - (i + 1) + 1) i = if gA k 31 i = o ∧ gA k 33 i ≤ u ∧ ¬ gA k 32 i = 0 then gA k 33 i else fyS (gA k 31) (gA k 32) (gA k 33) o u (sc - (i + 1)) (i + 1) := rfl
      rw [hsc, hstep, ← hv] at go
      have ss : ∀ w, sI (sI y 11 61 v) 11 61 w = sI y 11 61 w := fun w => by
        refine Prod.ext ?_ rfl
        funext c f
        show gI (sI (sI y 11 61 v) 11 61 w) c f = gI (sI y 11 61 w) c f
        rw [gI_sI, gI_sI, gI_sI]
        by_cases c1 : c = 11
        · rw [if_pos c1, if_pos c1, if_pos c1]
          by_cases c2 : f = 61
          · rw [if_pos c2, if_pos c2]
          · rw [if_neg c2, if_neg c2, if_neg c2]
        · rw [if_neg c1, if_neg c1, if_neg c1]
      rw [show nI (i + 1) - 1 = nI i from pk_sub (b := 1) (by omega), lpX12_findDead_93, if_neg (nI_pos (by omega)), inb_nI (show i < 200 by omega) (by decide), ck_true, ck_true, ck_true, ck_true, ck_true, ck_true, nm_eq, ix_nI (by omega), e, r1, r2, r3, r4, ss]
      by_cases c1 : gA n 137 i = 0
      · rw [if_pos c1]
        exact go v (by rw [if_neg (fun z => (ho.mp z.1).1 c1)])
      rw [if_neg c1]
      by_cases c2 : gA n 132 i = v3
      · rw [if_pos c2]
        by_cases c3 : gA k 32 i = 0
        · rw [if_pos c3]
          exact go v (by rw [if_neg (fun z => z.2.2 c3)])
        rw [if_neg c3]
        by_cases c4 : v1 < gA k 33 i
        · rw [if_pos c4]
          exact go v (by rw [if_neg (fun z => (hu.mp z.2.1).1 c4)])
        rw [if_neg c4]
        by_cases c5 : v2 < gA k 33 i
        · rw [if_pos c5]
          exact go v (by rw [if_neg (fun z => (hu.mp z.2.1).2 c5)])
        rw [if_neg c5]
        exact go (gA k 33 i) (by rw [if_pos ⟨ho.mpr ⟨c1, c2⟩, hu.mpr ⟨c4, c5⟩, c3⟩])
      · rw [if_neg c2]
        exact go v (by rw [if_neg (fun z => c2 (ho.mp z.1).2)])
  have := lp sc (4999 + 1) (gI y 11 61) (Nat.le_refl _) (by omega) (by rw [h61, Nat.sub_self]; rfl)
  rw [sid] at this
  rw [FU_g, s51]
  exact this
