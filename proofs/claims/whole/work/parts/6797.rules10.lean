def outM (y0 : ST) (ref : Int32) (bs L a dp : Nat) (E : List Nat → Bool → Prop) (r : Nat ⊕ (Nat × List Nat)) (o : Option (Bool × ST)) : Prop := match r with
  | .inl p => p ≤ 160 ∧ ∃ (y' : ST) (v : Bool) (b dq : Nat), o = some (v, y') ∧ rdM y0 ref bs L (nI p) y' b dq
  | .inr (b, w) => a < b ∧ b ≤ L ∧ ∃ (y' : ST) (v : Bool), o = some (v, y') ∧ rdM y0 ref bs L (-1) y' b dp ∧ E w v
def goodM (y0 : ST) (ref : Int32) (bs L dp : Nat) (E : List Nat → Bool → Prop) (mU : Nat → Nat ⊕ (Nat × List Nat)) (u : ST → Option (Bool × ST)) : Prop := ∀ y a, rdM y0 ref bs L (-1) y a dp → outM y0 ref bs L a dp E (mU a) (u y)
theorem lk_eq {y0 : ST} {ref : Int32} {bs L : Nat} {tx : Nat → Nat} (ht : txM y0 ref bs tx L) (s : Nat) {c : Nat} (h1 : 1 ≤ c) (h2 : c < 256) : ((if s < L then nI (tx s) else -1) = nI c) = (mHr tx L s = c) := by
  unfold mHr
  by_cases q : s < L
  · have := (ht.2.2.2.2 s q).2.1
    rw [if_pos q, if_pos q]
    exact propext (nI_eq (by omega) (by omega))
  · rw [if_neg q, if_neg q]
    exact propext ⟨fun z => absurd z.symm (nI_ne_m1 (by omega)), fun z => by omega⟩

theorem allM_lp {y0 : ST} {ref : Int32} {bs L dp : Nat} {tx : Nat → Nat} {E : List Nat → Bool → Prop} (ht : txM y0 ref bs tx L) (hE : ∀ w v w' v', E w v → E w' v' → E (w ++ w' ++ [38]) (v && v')) {mU : Nat → Nat ⊕ (Nat × List Nat)} {u : ST → Option (Bool × ST)} (hu : goodM y0 ref bs L dp E mU (fun z => u z)) {a : Nat} :
    ∀ (f g j b : Nat) (w : List Nat) (v : Bool) (y : ST), j + f = 160 → f + 1 ≤ g → rdM y0 ref bs L (-1) y b dp → a < b → j + 1 ≤ b → E w v → outM y0 ref bs L a dp E (mAllL tx L mU f b w) (lpX12_all_5 u (g + 1) v y (fun y15 k16 => some (y15, k16))) := by
  intro f
  have hL := ht.1
  induction f with
  | zero =>
    intro g j b w v y hj _ h _ hjb _
    have : b ≤ L := h.2.2.2.2.2.2.2
    omega
  | succ f ih =>
    intro g j b w v y hj hg h hab hjb hev
    obtain ⟨g, rfl⟩ : ∃ z, g = z + 1 := ⟨g - 1, by omega⟩
    have hbL : b ≤ L := h.2.2.2.2.2.2.2
    have hsk := mSk_le tx L L b hbL
    obtain ⟨y1, e1, e2⟩ := lookM ht h
    rw [lpX12_all_5, h.2.2.2.2.2.1, if_pos rfl, e1, ob_some, ifeq (show ((if mSk tx L L b < L then nI (tx (mSk tx L L b)) else -1) = 38) = (mHr tx L (mSk tx L L b) = 38) from lk_eq ht (mSk tx L L b) (c := 38) (by decide) (by decide))]
    show outM y0 ref bs L a dp E (if mHr tx L (mSk tx L L b) = 38 then mb (mU (mSk tx L L b + 1)) fun r => mAllL tx L mU f r.1 (w ++ r.2 ++ [38]) else .inr (mSk tx L L b, w)) _
    by_cases c : mHr tx L (mSk tx L L b) = 38
    · have hin := mHr_in (tx := tx) (L := L) (a := mSk tx L L b) (by omega)
      rw [if_pos c, if_pos c, nm_eq, e2.2.2.2.2.1, nI_1]
      have hu1 := hu _ (mSk tx L L b + 1) (e2.at (b := mSk tx L L b + 1) (by omega))
      cases hm : mU (mSk tx L L b + 1) with
      | inl p =>
        rw [hm] at hu1
        obtain ⟨p1, y2, v2, b2, dq, q1, q2⟩ := hu1
        rw [show u (sI y1 11 55 (nI (mSk tx L L b + 1))) = some (v2, y2) from q1, ob_some]
        have fin : ∀ x : Bool, lpX12_all_5 u (g + 1) x y2 (fun y15 k16 => some (y15, k16)) = some (x, y2) := fun x => by
          rw [lpX12_all_5, q2.2.2.2.2.2.1, if_neg (nI_ne_m1 (by omega))]
        refine ⟨p1, y2, (v && v2), b2, dq, ?_, q2⟩
        cases v <;> cases v2 <;> exact fin _
      | inr r =>
        obtain ⟨b2, w2⟩ := r
        rw [hm] at hu1
        obtain ⟨p1, p2, y2, v2, q1, q2, q3⟩ := hu1
        rw [show u (sI y1 11 55 (nI (mSk tx L L b + 1))) = some (v2, y2) from q1, ob_some]
        have go := ih g (j + 1) b2 (w ++ w2 ++ [38]) (v && v2) y2 (by omega) (by omega) q2 (by omega) (by omega) (hE w v w2 v2 hev q3)
        cases v <;> cases v2 <;> exact go
    · rw [if_neg c, if_neg c]
      exact ⟨by omega, hsk.1, y1, v, rfl, e2, hev⟩

theorem allM {y0 : ST} {ref : Int32} {bs L dp : Nat} {tx : Nat → Nat} {E : List Nat → Bool → Prop} (ht : txM y0 ref bs tx L) (hE : ∀ w v w' v', E w v → E w' v' → E (w ++ w' ++ [38]) (v && v')) {mU : Nat → Nat ⊕ (Nat × List Nat)} {u : ST → Option (Bool × ST)} (hu : goodM y0 ref bs L dp E mU (fun z => u z)) : goodM y0 ref bs L dp E (mAll tx L mU) (fun z => FX12_all u z) := by
  intro y a h
  have hu1 := hu y a h
  show outM y0 ref bs L a dp E (mb (mU a) fun r => mAllL tx L mU 160 r.1 r.2) (FX12_all u y)
  unfold FX12_all
  cases hm : mU a with
  | inl p =>
    rw [hm] at hu1
    obtain ⟨p1, y2, v2, b2, dq, q1, q2⟩ := hu1
    rw [show u y = some (v2, y2) from q1, ob_some, FU_g, lpX12_all_5, q2.2.2.2.2.2.1, if_neg (nI_ne_m1 (by omega))]
    exact ⟨p1, y2, v2, b2, dq, rfl, q2⟩
  | inr r =>
    obtain ⟨b2, w2⟩ := r
    rw [hm] at hu1
    obtain ⟨p1, p2, y2, v2, q1, q2, q3⟩ := hu1
    rw [show u y = some (v2, y2) from q1, ob_some, FU_g]
    exact allM_lp ht hE hu 160 4999 0 b2 w2 v2 y2 (by decide) (by decide) q2 p1 (by omega) q3

theorem anyM_lp {y0 : ST} {ref : Int32} {bs L dp : Nat} {tx : Nat → Nat} {E : List Nat → Bool → Prop} (ht : txM y0 ref bs tx L) (hE : ∀ w v w' v', E w v → E w' v' → E (w ++ w' ++ [124]) (v || v')) {mU : Nat → Nat ⊕ (Nat × List Nat)} {u : ST → Option (Bool × ST)} (hu : goodM y0 ref bs L dp E (mAll tx L mU) (fun z => FX12_all u z)) {a : Nat} :
    ∀ (f g j b : Nat) (w : List Nat) (v : Bool) (y : ST), j + f = 160 → f + 1 ≤ g → rdM y0 ref bs L (-1) y b dp → a < b → j + 1 ≤ b → E w v → outM y0 ref bs L a dp E (mAnyL tx L mU f b w) (lpX12_any_5 u (g + 1) v y (fun y15 k16 => some (y15, k16))) := by
  intro f
  have hL := ht.1
  induction f with
  | zero =>
    intro g j b w v y hj _ h _ hjb _
    have : b ≤ L := h.2.2.2.2.2.2.2
    omega
  | succ f ih =>
    intro g j b w v y hj hg h hab hjb hev
    obtain ⟨g, rfl⟩ : ∃ z, g = z + 1 := ⟨g - 1, by omega⟩
    have hbL : b ≤ L := h.2.2.2.2.2.2.2
    have hsk := mSk_le tx L L b hbL
    obtain ⟨y1, e1, e2⟩ := lookM ht h
    rw [lpX12_any_5, h.2.2.2.2.2.1, if_pos rfl, e1, ob_some, ifeq (show ((if mSk tx L L b < L then nI (tx (mSk tx L L b)) else -1) = 124) = (mHr tx L (mSk tx L L b) = 124) from lk_eq ht (mSk tx L L b) (c := 124) (by decide) (by decide))]
    show outM y0 ref bs L a dp E (if mHr tx L (mSk tx L L b) = 124 then mb ((mAll tx L mU) (mSk tx L L b + 1)) fun r => mAnyL tx L mU f r.1 (w ++ r.2 ++ [124]) else .inr (mSk tx L L b, w)) _
    by_cases c : mHr tx L (mSk tx L L b) = 124
    · have hin := mHr_in (tx := tx) (L := L) (a := mSk tx L L b) (by omega)
      rw [if_pos c, if_pos c, nm_eq, e2.2.2.2.2.1, nI_1]
      have hu1 := hu _ (mSk tx L L b + 1) (e2.at (b := mSk tx L L b + 1) (by omega))
      cases hm : (mAll tx L mU) (mSk tx L L b + 1) with
      | inl p =>
        rw [hm] at hu1
        obtain ⟨p1, y2, v2, b2, dq, q1, q2⟩ := hu1
        rw [show FX12_all u (sI y1 11 55 (nI (mSk tx L L b + 1))) = some (v2, y2) from q1, ob_some]
        have fin : ∀ x : Bool, lpX12_any_5 u (g + 1) x y2 (fun y15 k16 => some (y15, k16)) = some (x, y2) := fun x => by
          rw [lpX12_any_5, q2.2.2.2.2.2.1, if_neg (nI_ne_m1 (by omega))]
        refine ⟨p1, y2, (v || v2), b2, dq, ?_, q2⟩
        cases v <;> cases v2 <;> exact fin _
      | inr r =>
        obtain ⟨b2, w2⟩ := r
        rw [hm] at hu1
        obtain ⟨p1, p2, y2, v2, q1, q2, q3⟩ := hu1
        rw [show FX12_all u (sI y1 11 55 (nI (mSk tx L L b + 1))) = some (v2, y2) from q1, ob_some]
        have go := ih g (j + 1) b2 (w ++ w2 ++ [124]) (v || v2) y2 (by omega) (by omega) q2 (by omega) (by omega) (hE w v w2 v2 hev q3)
        cases v <;> cases v2 <;> exact go
    · rw [if_neg c, if_neg c]
      exact ⟨by omega, hsk.1, y1, v, rfl, e2, hev⟩

theorem anyM {y0 : ST} {ref : Int32} {bs L dp : Nat} {tx : Nat → Nat} {E : List Nat → Bool → Prop} (ht : txM y0 ref bs tx L) (hE : ∀ w v w' v', E w v → E w' v' → E (w ++ w' ++ [38]) (v && v')) (hE2 : ∀ w v w' v', E w v → E w' v' → E (w ++ w' ++ [124]) (v || v')) {mU : Nat → Nat ⊕ (Nat × List Nat)} {u : ST → Option (Bool × ST)} (hu : goodM y0 ref bs L dp E mU (fun z => u z)) : goodM y0 ref bs L dp E (mAny tx L mU) (fun z => FX12_any u z) := by
  intro y a h
  have ha := allM ht hE hu
  have hu1 := ha y a h
  show outM y0 ref bs L a dp E (mb (mAll tx L mU a) fun r => mAnyL tx L mU 160 r.1 r.2) (FX12_any u y)
  unfold FX12_any
  cases hm : mAll tx L mU a with
  | inl p =>
    rw [hm] at hu1
    obtain ⟨p1, y2, v2, b2, dq, q1, q2⟩ := hu1
    rw [show FX12_all u y = some (v2, y2) from q1, ob_some, FU_g, lpX12_any_5, q2.2.2.2.2.2.1, if_neg (nI_ne_m1 (by omega))]
    exact ⟨p1, y2, v2, b2, dq, rfl, q2⟩
  | inr r =>
    obtain ⟨b2, w2⟩ := r
    rw [hm] at hu1
    obtain ⟨p1, p2, y2, v2, q1, q2, q3⟩ := hu1
    rw [show FX12_all u y = some (v2, y2) from q1, ob_some, FU_g]
    exact anyM_lp ht hE2 ha 160 4999 0 b2 w2 v2 y2 (by decide) (by decide) q2 p1 (by omega) q3
