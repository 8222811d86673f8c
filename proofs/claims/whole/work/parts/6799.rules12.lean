/-- what the answers of the model have to do with the words -/
def laws (y0 : ST) (E : List Nat → Bool → Prop) (En : List Nat → Nat → Nat → Prop) : Prop :=
  (∀ w v, E w v → E (w ++ [33]) (!v)) ∧ (∀ w v w' v', E w v → E w' v' → E (w ++ w' ++ [38]) (v && v')) ∧ (∀ w v w' v', E w v → E w' v' → E (w ++ w' ++ [124]) (v || v')) ∧
  (∀ w v, E w v → En w 1 (if v then 1 else 0)) ∧ (∀ w q c w' v, En w q c → E w' v → En (w ++ w') (q + 1) (c + if v then 1 else 0)) ∧ (∀ w q c num, En w q c → num ≤ 999 → E (w ++ [123 + 256 * (num + 1000 * q)]) (decide (num ≤ c))) ∧
  (∀ y x, isQ y0 y → x ≤ 11 → ∃ s, fX12_saysLast y (nI x) = some (s, y) ∧ E [104 + 256 * x] (decide (s = 1)) ∧ E [110 + 256 * x] (decide (s = 0))) ∧
  (∀ y x, isQ y0 y → x ≤ 11 → ∃ b, (if (gI y 11 62) = 0 then ob (fX12_isDead y (nI x)) fun r35 k36 => if r35 = true then some (true, k36) else some (false, k36) else some (false, y)) = some (b, y) ∧ E [100 + 256 * x] b) ∧
  ∀ y v, isQ y0 y → v ≤ 999 → ∃ b, (if (gI y 11 61) = (-1) then some (false, y) else if ((gI y 11 59) - (gI y 11 61)) < nI v then some (false, y) else some (true, y)) = some (b, y) ∧ E [119 + 256 * v] b
theorem comM {y0 : ST} {ref : Int32} {bs L dp : Nat} {tx : Nat → Nat} {E : List Nat → Bool → Prop} {En : List Nat → Nat → Nat → Prop} (ht : txM y0 ref bs tx L) (hl : laws y0 E En) {mU : Nat → Nat ⊕ (Nat × List Nat)} {u : ST → Option (Bool × ST)} (hu : goodM y0 ref bs L (dp + 1) E (mAny tx L mU) (fun z => FX12_any u z)) {a num : Nat} (hn : num ≤ 999) (v1 : Int32) :
    ∀ (f g j b q c : Nat) (w : List Nat) (y : ST), j + f = 160 → f + 1 ≤ g → rdM y0 ref bs L (-1) y b (dp + 1) → a < b → j + 1 ≤ b → c ≤ j + 1 → En w q c → outM y0 ref bs L a dp E (mb (mComL tx L mU f b w q) fun r => mb (mClose tx L 125 r.1) fun b' => .inr (b', r.2.1 ++ [123 + 256 * (num + 1000 * r.2.2)])) (lpX12_unit_291 u v1 (nI num) (g + 1) (nI c) y (fun y81 k82 => jbX12_unit_336 u v1 (nI num) y81 k82)) := by
  intro f
  have hL := ht.1
  induction f with
  | zero =>
    intro g j b q c w y hj _ h _ hjb _ _
    have : b ≤ L := h.2.2.2.2.2.2.2
    omega
  | succ f ih =>
    intro g j b q c w y hj hg h hab hjb hcj hev
    obtain ⟨g, rfl⟩ : ∃ z, g = z + 1 := ⟨g - 1, by omega⟩
    have hbL : b ≤ L := h.2.2.2.2.2.2.2
    have hsk := mSk_le tx L L b hbL
    obtain ⟨y1, e1, e2⟩ := lookM ht h
    rw [lpX12_unit_291, h.2.2.2.2.2.1, if_pos rfl, e1, ob_some, ifeq (show ((if mSk tx L L b < L then nI (tx (mSk tx L L b)) else -1) = 44) = (mHr tx L (mSk tx L L b) = 44) from lk_eq ht (mSk tx L L b) (c := 44) (by decide) (by decide))]
    show outM y0 ref bs L a dp E (mb (if mHr tx L (mSk tx L L b) = 44 then mb (mAny tx L mU (mSk tx L L b + 1)) fun r => mComL tx L mU f r.1 (w ++ r.2) (q + 1) else .inr (mSk tx L L b, w, q)) fun r => mb (mClose tx L 125 r.1) fun b' => .inr (b', r.2.1 ++ [123 + 256 * (num + 1000 * r.2.2)])) _
    by_cases cc : mHr tx L (mSk tx L L b) = 44
    · have hin := mHr_in (tx := tx) (L := L) (a := mSk tx L L b) (by omega)
      rw [if_pos cc, if_pos cc, nm_eq, e2.2.2.2.2.1, nI_1]
      have hu1 := hu _ (mSk tx L L b + 1) (e2.at (b := mSk tx L L b + 1) (by omega))
      cases hm : mAny tx L mU (mSk tx L L b + 1) with
      | inl p =>
        rw [hm] at hu1
        obtain ⟨p1, y2, v2, b2, dq, q1, q2⟩ := hu1
        rw [show FX12_any u (sI y1 11 55 (nI (mSk tx L L b + 1))) = some (v2, y2) from q1, ob_some]
        have fin : ∀ x, lpX12_unit_291 u v1 (nI num) (g + 1) x y2 (fun y81 k82 => jbX12_unit_336 u v1 (nI num) y81 k82) = some (false, y2) := fun x => by
          rw [lpX12_unit_291, q2.2.2.2.2.2.1, if_neg (nI_ne_m1 (by omega))]
          unfold jbX12_unit_336
          rw [takesMF p1 _ q2, ob_some, if_neg (by decide)]
        refine ⟨p1, y2, false, b2, dq, ?_, q2⟩
        rw [fin, fin, ite_self]
      | inr r =>
        obtain ⟨b2, w2⟩ := r
        rw [hm] at hu1
        obtain ⟨p1, p2, y2, v2, q1, q2, q3⟩ := hu1
        rw [show FX12_any u (sI y1 11 55 (nI (mSk tx L L b + 1))) = some (v2, y2) from q1, ob_some, nI_1, Int32.add_zero]
        have go := fun c' (hc' : c' ≤ j + 1 + 1) (he : En (w ++ w2) (q + 1) c') => ih g (j + 1) b2 (q + 1) c' (w ++ w2) y2 (by omega) (by omega) q2 (by omega) (by omega) hc' he
        have he := hl.2.2.2.2.1 w q c w2 v2 hev q3
        cases v2
        · exact go c (by omega) he
        · exact go (c + 1) (by omega) he
    · rw [if_neg cc, if_neg cc]
      show outM y0 ref bs L a dp E (mb (mClose tx L 125 (mSk tx L L b)) fun b' => .inr (b', w ++ [123 + 256 * (num + 1000 * q)])) _
      have hsk2 := mSk_le tx L L (mSk tx L L b) hsk.1
      have tk := takesM (c := 125) ht (by decide) (by decide) e2
      unfold jbX12_unit_336 mClose
      by_cases c2 : mHr tx L (mSk tx L L (mSk tx L L b)) = 125
      · obtain ⟨y2, t1, t2⟩ := tk.1 c2
        have hin := mHr_in (tx := tx) (L := L) (a := mSk tx L L (mSk tx L L b)) (by omega)
        rw [if_pos c2, show fX12_takes y1 125 = some (true, y2) from t1, ob_some, if_pos rfl, nm_eq, t2.2.2.2.2.2.2.1, show nI (dp + 1) - 1 = nI dp from pk_sub (b := 1) (by omega)]
        refine ⟨by omega, by omega, sI y2 11 57 (nI dp), decide (num ≤ c), ?_, t2.deep, hl.2.2.2.2.2.1 w q c num hev hn⟩
        by_cases z : num ≤ c
        · rw [if_neg (nI_nlt z (by omega)), decide_eq_true z]
        · rw [if_pos (nI_lt (by omega) (by omega)), decide_eq_false z]
      · obtain ⟨y2, t1, t2⟩ := tk.2 c2
        rw [if_neg c2, show fX12_takes y1 125 = some (false, y2) from t1, ob_some, if_neg (by decide)]
        exact ⟨by omega, y2, false, _, _, rfl, t2⟩
