/-! THE RELATION: k is LifeKeys' state, n the model's; t calls were made -/
def gB (d h : Nat) (k n : ST) : Prop := d ≤ 2000 ∧ gI k 10 0 = nI d ∧ gI n 11 1 = nI d ∧ h ≤ 12 ∧ gI k 10 1 = nI h ∧ gI n 11 12 = nI h
def gKeys (kc d : Nat) (k n : ST) : Prop := kc ≤ 40 ∧ gI k 0 0 = nI kc ∧ gI n 11 13 = nI kc ∧ gA n 99 = gA k 1 ∧ gA n 100 = gA k 0 ∧ gA n 101 = gA k 2 ∧ gA n 102 = gA k 3 ∧ gA n 103 = gA k 4 ∧
  ∀ j, j < kc → (∃ s, 1 ≤ s ∧ s < 1019 ∧ gA k 0 j = nI s) ∧ (∃ q, q ≤ 2 ∧ gA k 1 j = nI q) ∧ (gA k 1 j = 2 → ∃ r, r < j ∧ gA k 2 j = nI r) ∧ (∃ e, e ≤ d ∧ gA k 3 j = nI e)
def gBurn (bc : Nat) (k n : ST) : Prop := bc ≤ 60 ∧ gI k 0 6 = nI bc ∧ gI n 11 78 = nI bc ∧ gA n 144 = gA k 5 ∧ gA n 145 = gA k 6 ∧ gA n 146 = gA k 7 ∧ ∀ j, j < bc → ∃ f, f ≤ 2000 ∧ gA k 6 j = nI f
/-- whether holder x has key y behind i turns -/
def hB (f g : Nat → Int32) (x y : Int32) : Nat → Bool
  | 0 => false
  | i + 1 => if f i = x ∧ g i = y then !(hB f g x y i) else hB f g x y i
def gTurn (t gc h kc d : Nat) (k n : ST) : Prop := gc ≤ t ∧ gI k 9 1 = nI gc ∧ gI n 11 14 = nI gc ∧ gA n 104 = gA k 50 ∧ gA n 105 = gA k 51 ∧ gA n 106 = gA k 52 ∧
  (∀ i, i < gc → (∃ x, x < h ∧ gA k 50 i = nI x) ∧ (∃ y, y < kc ∧ gA k 51 i = nI y) ∧ (∃ e, e ≤ d ∧ gA k 52 i = nI e) ∧ gA n 107 i = b2i (!(hB (gA k 50) (gA k 51) (gA k 50 i) (gA k 51 i) i))) ∧
  (∀ i j, i ≤ j → j < gc → gA k 52 i ≤ gA k 52 j) ∧
  (∀ x, x < 12 → ∃ b, b < 2 ^ 40 ∧ gL k 49 x = lN b ∧ ∀ y, y < 40 → b.testBit y = hB (gA k 50) (gA k 51) (nI x) (nI y) gc)
/-- a day of an end: -1 here, 9999 there, or the same day -/
def eqE (d : Nat) (a b : Int32) : Prop := (a = -1 ∧ b = 9999) ∨ ∃ e, e ≤ d ∧ a = nI e ∧ b = nI e
def gWrap (wc kc d : Nat) (k n : ST) : Prop := wc ≤ 40 ∧ gI k 9 5 = nI wc ∧ gI n 11 29 = nI wc ∧ gA n 110 = gA k 53 ∧ gA n 111 = gA k 54 ∧ gA n 112 = gA k 55 ∧
  ∀ i, i < wc → (∃ a, a < kc ∧ gA k 53 i = nI a) ∧ (∃ a, a < kc ∧ gA k 54 i = nI a) ∧ (∃ e, e ≤ d ∧ gA k 55 i = nI e) ∧ eqE d (gA k 56 i) (gA n 113 i)
/-- how many of the first m bits are set -/
def pcn (S : Nat) : Nat → Nat
  | 0 => 0
  | m + 1 => pcn S m + (if S.testBit m then 1 else 0)
def gPart (pc kc h d : Nat) (k n : ST) : Prop := pc ≤ 40 ∧ gI k 2 0 = nI pc ∧ gI n 11 30 = nI pc ∧ gA n 114 = gA k 13 ∧ gA n 115 = gA k 14 ∧ gA n 116 = gA k 15 ∧ gA n 117 = gA k 16 ∧
  ∀ i, i < pc → (∃ a, a < kc ∧ gA k 13 i = nI a) ∧ (∃ S w, 1 ≤ S ∧ S < 2 ^ h ∧ gA k 14 i = nI S ∧ 1 ≤ w ∧ w ≤ pcn S 12 ∧ gA k 15 i = nI w ∧ ∀ j, j < w → ∃ v, v < 1019 ∧ gA k (59 + i) j = nI v ∧ gA n 119 (12 * i + j) = nI v) ∧ (∃ e, e ≤ d ∧ gA k 16 i = nI e) ∧ eqE d (gA k 17 i) (gA n 118 i)
def gDeath (dc h rc d : Nat) (k n : ST) : Prop := dc ≤ 40 ∧ gI k 5 5 = nI dc ∧ gI n 11 49 = nI dc ∧ gA n 125 = gA k 34 ∧ gA n 126 = gA k 35 ∧ gA n 127 = gA k 36 ∧
  ∀ i, i < dc → (∃ x, x < h ∧ gA k 34 i = nI x) ∧ (∃ r, r < rc ∧ gA k 35 i = nI r) ∧ (∃ e, e ≤ d ∧ gA k 36 i = nI e)
def gThing (tc kc rc d : Nat) (k n : ST) : Prop := tc ≤ 40 ∧ gI k 8 0 = nI tc ∧ gI n 11 50 = nI tc ∧ gA n 128 = gA k 44 ∧ gA n 129 = gA k 45 ∧ gA n 134 = gA k 46 ∧ gA n 130 = gA k 47 ∧ gA n 135 = gA k 48 ∧
  (∀ i, i < tc → (∃ v, v < 1019 ∧ gA k 44 i = nI v) ∧ (∃ b, gA k 46 i = b2i b ∧ ∃ x, gA k 45 i = nI x ∧ (b = true → x < rc) ∧ (b = false → x < kc)) ∧ (gA k 47 i = -1 ∨ ∃ e, e ≤ d ∧ gA k 47 i = nI e) ∧ (∃ b, gA k 48 i = b2i b)) ∧ ∀ i, tc ≤ i → gA k 48 i = 0
def gSay (sc h tc d : Nat) (k n : ST) : Prop := sc ≤ 200 ∧ gI k 5 0 = nI sc ∧ gI n 11 51 = nI sc ∧ gA n 131 = gA k 30 ∧ gA n 136 = gA k 32 ∧ gA n 133 = gA k 33 ∧
  (∀ i, i < sc → (∃ x, x < h ∧ gA k 30 i = nI x) ∧ ((∃ a, a < tc ∧ gA k 31 i = nI a ∧ gA n 132 i = nI a ∧ gA n 137 i = 0) ∨ (∃ a, a < h ∧ gA k 31 i = nI (40 + a) ∧ gA n 132 i = nI a ∧ gA n 137 i = 1)) ∧ (∃ b, gA k 32 i = b2i b) ∧ (∃ e, e ≤ d ∧ gA k 33 i = nI e)) ∧
  ∀ i j, i ≤ j → j < sc → gA k 33 i ≤ gA k 33 j
def gSig (ic kc d : Nat) (k n : ST) : Prop := ic ≤ 80 ∧ gI k 6 0 = nI ic ∧ gI n 11 77 = nI ic ∧ gA n 139 = gA k 37 ∧ gA n 140 = gA k 38 ∧ gA n 141 = gA k 39 ∧ gA n 142 = gA k 40 ∧ gA n 143 = gA k 41 ∧
  ∀ i, i < ic → (∃ a, a < kc ∧ gA k 39 i = nI a) ∧ (∃ e, e ≤ d ∧ gA k 41 i = nI e)
def gLoan (lc kc : Nat) (k n : ST) : Prop := lc ≤ 40 ∧ gI k 1 0 = nI lc ∧ gI n 11 79 = nI lc ∧ gA n 147 = gA k 8 ∧ gA n 148 = gA k 9 ∧ gA n 149 = gA k 10 ∧ gA n 150 = gA k 11 ∧ gA n 151 = gA k 12 ∧
  (∀ i, i < lc → (∃ a, a < kc ∧ gA k 8 i = nI a) ∧ (∃ u, u ≤ 100 ∧ gA k 10 i = nI u) ∧ (∃ b, gA k 12 i = b2i b)) ∧ ∀ i, lc ≤ i → gA k 12 i = 0
def gFall (fc h : Nat) (k n : ST) : Prop := fc ≤ 20 ∧ gI k 10 5 = nI fc ∧ gI n 11 82 = nI fc ∧ gA n 152 = gA k 58 ∧ ∀ i, i < fc → ∃ S, 1 ≤ S ∧ S < 2 ^ h ∧ gA k 58 i = nI S
def gTape (ln : Nat) (k n : ST) : Prop := ln ≤ 160 ∧ gI k 7 1 = nI ln ∧ gI n 11 16 = nI ln ∧ ∀ i, i < ln → ∃ c, 1 ≤ c ∧ c < 256 ∧ gA k 43 i = nI c ∧ gA n 109 i = (nI c).toInt8.toInt32
def gBench (bn h : Nat) (k n : ST) : Prop := bn ≤ 12 ∧ gI n 11 31 = nI bn ∧ ∃ (S : Nat) (hs : Nat → Nat), S < 2 ^ h ∧ gI k 10 3 = nI S ∧ pcn S 12 = bn ∧
  (∀ i, i < bn → hs i < h ∧ gA n 120 i = nI (hs i) ∧ ∃ v, v < 1019 ∧ gA n 121 i = nI v ∧ gA k 57 (hs i) = nI v) ∧ (∀ i j, i < bn → j < bn → hs i = hs j → i = j) ∧ (∀ x, S.testBit x = true ↔ ∃ i, i < bn ∧ hs i = x)
def gFalse (h : Nat) (k n : ST) : Prop := ∃ F : Nat, F < 2 ^ h ∧ gI k 10 2 = nI F ∧ ∀ x, x < 12 → gA n 108 x = b2i (F.testBit x)

/-! RULES: a text read into words. inl p: the FAULT; inr (place behind it, its words) -/
def mb {α β : Type} (x : Nat ⊕ α) (f : α → Nat ⊕ β) : Nat ⊕ β := match x with
  | .inl p => .inl p
  | .inr a => f a
def mSk (tx : Nat → Nat) (L : Nat) : Nat → Nat → Nat
  | 0, a => a
  | f + 1, a => if a < L ∧ tx a = 32 then mSk tx L f (a + 1) else a
def mHr (tx : Nat → Nat) (L a : Nat) : Nat := if a < L then tx a else 0
def mDg (c : Nat) : Bool := decide (48 ≤ c ∧ c ≤ 57)
/-- a number: its value and the place behind it -/
def mNum (tx : Nat → Nat) (L most a : Nat) : Nat ⊕ (Nat × Nat) :=
  if mDg (mHr tx L a) then
    if mDg (mHr tx L (a + 1)) then
      if mDg (mHr tx L (a + 2)) then
        if mDg (mHr tx L (a + 3)) then .inl (a + 3)
        else if most < 100 * (mHr tx L a - 48) + 10 * (mHr tx L (a + 1) - 48) + (mHr tx L (a + 2) - 48) then .inl (a + 2) else .inr (100 * (mHr tx L a - 48) + 10 * (mHr tx L (a + 1) - 48) + (mHr tx L (a + 2) - 48), a + 3)
      else if most < 10 * (mHr tx L a - 48) + (mHr tx L (a + 1) - 48) then .inl (a + 1) else .inr (10 * (mHr tx L a - 48) + (mHr tx L (a + 1) - 48), a + 2)
    else if most < mHr tx L a - 48 then .inl a else .inr (mHr tx L a - 48, a + 1)
  else .inl a
def mAllL (tx : Nat → Nat) (L : Nat) (u : Nat → Nat ⊕ (Nat × List Nat)) : Nat → Nat → List Nat → Nat ⊕ (Nat × List Nat)
  | 0, a, ws => .inr (mSk tx L L a, ws)
  | f + 1, a, ws => if mHr tx L (mSk tx L L a) = 38 then mb (u (mSk tx L L a + 1)) fun r => mAllL tx L u f r.1 (ws ++ r.2 ++ [38]) else .inr (mSk tx L L a, ws)
def mAll (tx : Nat → Nat) (L : Nat) (u : Nat → Nat ⊕ (Nat × List Nat)) (a : Nat) : Nat ⊕ (Nat × List Nat) := mb (u a) fun r => mAllL tx L u 160 r.1 r.2
def mAnyL (tx : Nat → Nat) (L : Nat) (u : Nat → Nat ⊕ (Nat × List Nat)) : Nat → Nat → List Nat → Nat ⊕ (Nat × List Nat)
  | 0, a, ws => .inr (mSk tx L L a, ws)
  | f + 1, a, ws => if mHr tx L (mSk tx L L a) = 124 then mb (mAll tx L u (mSk tx L L a + 1)) fun r => mAnyL tx L u f r.1 (ws ++ r.2 ++ [124]) else .inr (mSk tx L L a, ws)
def mAny (tx : Nat → Nat) (L : Nat) (u : Nat → Nat ⊕ (Nat × List Nat)) (a : Nat) : Nat ⊕ (Nat × List Nat) := mb (mAll tx L u a) fun r => mAnyL tx L u 160 r.1 r.2
/-- further ones behind commas: how many in all -/
def mComL (tx : Nat → Nat) (L : Nat) (u : Nat → Nat ⊕ (Nat × List Nat)) : Nat → Nat → List Nat → Nat → Nat ⊕ (Nat × List Nat × Nat)
  | 0, a, ws, q => .inr (mSk tx L L a, ws, q)
  | f + 1, a, ws, q => if mHr tx L (mSk tx L L a) = 44 then mb (mAny tx L u (mSk tx L L a + 1)) fun r => mComL tx L u f r.1 (ws ++ r.2) (q + 1) else .inr (mSk tx L L a, ws, q)
def mClose (tx : Nat → Nat) (L c a : Nat) : Nat ⊕ Nat := if mHr tx L (mSk tx L L a) = c then .inr (mSk tx L L a + 1) else .inl (mSk tx L L a)
/-- a unit, u being the units within it, deeper by one; dp: how deep it lies -/
def mUnitF (tx : Nat → Nat) (L : Nat) (u : Nat → Nat ⊕ (Nat × List Nat)) (dp a0 : Nat) : Nat ⊕ (Nat × List Nat) :=
  if mHr tx L (mSk tx L L a0) = 33 then
    if 8 ≤ dp then .inl (mSk tx L L a0) else mb (u (mSk tx L L a0 + 1)) fun r => .inr (r.1, r.2 ++ [33])
  else if mHr tx L (mSk tx L L a0) = 40 then
    if 8 ≤ dp then .inl (mSk tx L L a0) else mb (mAny tx L u (mSk tx L L a0 + 1)) fun r => mb (mClose tx L 41 r.1) fun b => .inr (b, r.2)
  else if mHr tx L (mSk tx L L a0) = 104 ∨ mHr tx L (mSk tx L L a0) = 110 ∨ mHr tx L (mSk tx L L a0) = 100 then
    mb (mNum tx L 11 (mSk tx L L (mSk tx L L a0 + 1))) fun r => .inr (r.2, [mHr tx L (mSk tx L L a0) + 256 * r.1])
  else if mHr tx L (mSk tx L L a0) = 119 then
    mb (mNum tx L 999 (mSk tx L L (mSk tx L L a0 + 1))) fun r => .inr (r.2, [119 + 256 * r.1])
  else mb (mNum tx L 999 (mSk tx L L a0)) fun q =>
    if mHr tx L (mSk tx L L q.2) = 123 then
      if 8 ≤ dp then .inl (mSk tx L L q.2) else mb (mAny tx L u (mSk tx L L q.2 + 1)) fun r => mb (mComL tx L u 160 r.1 r.2 1) fun z => mb (mClose tx L 125 z.1) fun b => .inr (b, z.2.1 ++ [123 + 256 * (q.1 + 1000 * z.2.2)])
    else .inl (mSk tx L L q.2)
def mUnit (tx : Nat → Nat) (L : Nat) : Nat → Nat → Nat → Nat ⊕ (Nat × List Nat)
  | 0, _, a => .inl a
  | f + 1, dp, a => mUnitF tx L (mUnit tx L f (dp + 1)) dp a
def mRule (tx : Nat → Nat) (L : Nat) : Nat ⊕ List Nat := mb (mAny tx L (mUnit tx L 10 0) 0) fun r => if r.1 < L then .inl r.1 else .inr r.2
/-- what holds: ys, no, ds: bits of holders; wt: days since, or -1 -/
def ev1 (ys no ds : Nat) (wt : Int) (w : Nat) (st : List Bool) : List Bool :=
  if w % 256 = 33 then (!st.headD false) :: st.tail
  else if w % 256 = 38 then (st.headD false && st.tail.headD false) :: st.tail.tail
  else if w % 256 = 124 then (st.headD false || st.tail.headD false) :: st.tail.tail
  else if w % 256 = 123 then decide (w / 256 % 1000 ≤ (st.take (w / 256 / 1000)).count true) :: st.drop (w / 256 / 1000)
  else if w % 256 = 104 then ys.testBit (w / 256) :: st
  else if w % 256 = 110 then no.testBit (w / 256) :: st
  else if w % 256 = 100 then ds.testBit (w / 256) :: st
  else decide ((w / 256 : Int) ≤ wt) :: st
def evs (ys no ds : Nat) (wt : Int) (ws : List Nat) (st : List Bool) : List Bool := ws.foldl (fun st w => ev1 ys no ds wt w st) st
def gRule (rc : Nat) (k n : ST) : Prop := rc ≤ 20 ∧ gI k 4 0 = nI rc ∧ gI n 11 48 = nI rc ∧
  ∀ r, r < rc → ∃ (tx : Nat → Nat) (L : Nat) (ws : List Nat), L ≤ 160 ∧ (∀ i, i < L → 1 ≤ tx i ∧ tx i < 256) ∧ mRule tx L = .inr ws ∧ ws.length ≤ 160 ∧ gA k 27 r = nI ws.length ∧ (∀ i, i < ws.length → gA k 26 (160 * r + i) = nI (ws.getD i 0) ∧ ws.getD i 0 < 50000000) ∧ gA n 124 r = nI L ∧ ∀ i, i < L → gA n 123 (160 * r + i) = (nI (tx i)).toInt8.toInt32
/-- the two states go together behind t calls -/
def Rel (t : Nat) (k n : ST) : Prop := ∃ d h kc bc gc wc pc rc dc tc sc ic lc fc ln bn : Nat, gB d h k n ∧ gKeys kc d k n ∧ gBurn bc k n ∧ gTurn t gc h kc d k n ∧ gWrap wc kc d k n ∧ gPart pc kc h d k n ∧ gRule rc k n ∧ gDeath dc h rc d k n ∧ gThing tc kc rc d k n ∧ gSay sc h tc d k n ∧ gSig ic kc d k n ∧ gLoan lc kc k n ∧ gFall fc h k n ∧ gTape ln k n ∧ gBench bn h k n ∧ gFalse h k n
def PR {ρ : Type} (t : Nat) (a b : Option (ρ × ST)) : Prop := ∃ (r : ρ) (k n : ST), a = some (r, k) ∧ b = some (r, n) ∧ Rel t k n
theorem PR_mk {ρ : Type} {t : Nat} {r : ρ} {k n : ST} (h : Rel t k n) : PR t (some (r, k)) (some (r, n)) := ⟨r, k, n, rfl, rfl, h⟩
theorem PR_eq {ρ : Type} {t : Nat} {a b a' b' : Option (ρ × ST)} (ha : a = a') (hb : b = b') (h : PR t a' b') : PR t a b := by rw [ha, hb]; exact h
