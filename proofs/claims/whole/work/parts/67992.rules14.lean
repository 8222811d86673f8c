/-! RULES: the words are bounded -/
def okW (w : Nat) : Prop := w < 50000000 ∧ ((w % 256 = 104 ∨ w % 256 = 110 ∨ w % 256 = 100) → w / 256 ≤ 11)
def goodW (mU : Nat → Nat ⊕ (Nat × List Nat)) : Prop := ∀ a r, mU a = .inr r → ∀ x, x ∈ r.2 → okW x
theorem mb_inr {α β : Type} {x : Nat ⊕ α} {f : α → Nat ⊕ β} {b : β} (h : mb x f = .inr b) : ∃ a, x = .inr a ∧ f a = .inr b := by
  cases x with
  | inl p => cases h
  | inr a => exact ⟨a, rfl, h⟩
theorem okW_app {w w' : List Nat} (h : ∀ x, x ∈ w → okW x) (h' : ∀ x, x ∈ w' → okW x) : ∀ x, x ∈ w ++ w' → okW x := fun x hx => (List.mem_append.mp hx).elim (h x) (h' x)
theorem okW_one {c : Nat} (h : okW c) : ∀ x, x ∈ [c] → okW x := fun x hx => by rw [List.mem_singleton.mp hx]; exact h
theorem ok38 : okW 38 := ⟨by omega, fun h => by omega⟩
theorem ok124 : okW 124 := ⟨by omega, fun h => by omega⟩
theorem ok33 : okW 33 := ⟨by omega, fun h => by omega⟩
theorem mAllL_ok {tx : Nat → Nat} {L : Nat} {u : Nat → Nat ⊕ (Nat × List Nat)} (hu : goodW u) : ∀ f a ws r, (∀ x, x ∈ ws → okW x) → mAllL tx L u f a ws = .inr r → ∀ x, x ∈ r.2 → okW x
  | 0, a, ws, r, hw, h => by
    have h : (Sum.inr (mSk tx L L a, ws) : Nat ⊕ (Nat × List Nat)) = .inr r := h
    injection h with h
    rw [← h]
    exact hw
  | f + 1, a, ws, r, hw, h => by
    unfold mAllL at h
    by_cases c : mHr tx L (mSk tx L L a) = 38
    · rw [if_pos c] at h
      obtain ⟨s, h1, h2⟩ := mb_inr h
      exact mAllL_ok hu f s.1 _ r (okW_app (okW_app hw (hu _ s h1)) (okW_one ok38)) h2
    · rw [if_neg c] at h
      injection h with h
      rw [← h]
      exact hw
theorem mAll_ok {tx : Nat → Nat} {L : Nat} {u : Nat → Nat ⊕ (Nat × List Nat)} (hu : goodW u) : goodW (mAll tx L u) := fun a r h => by
  unfold mAll at h
  obtain ⟨s, h1, h2⟩ := mb_inr h
  exact mAllL_ok hu 160 s.1 s.2 r (hu _ s h1) h2
theorem mAnyL_ok {tx : Nat → Nat} {L : Nat} {u : Nat → Nat ⊕ (Nat × List Nat)} (hu : goodW u) : ∀ f a ws r, (∀ x, x ∈ ws → okW x) → mAnyL tx L u f a ws = .inr r → ∀ x, x ∈ r.2 → okW x
  | 0, a, ws, r, hw, h => by
    have h : (Sum.inr (mSk tx L L a, ws) : Nat ⊕ (Nat × List Nat)) = .inr r := h
    injection h with h
    rw [← h]
    exact hw
  | f + 1, a, ws, r, hw, h => by
    unfold mAnyL at h
    by_cases c : mHr tx L (mSk tx L L a) = 124
    · rw [if_pos c] at h
      obtain ⟨s, h1, h2⟩ := mb_inr h
      exact mAnyL_ok hu f s.1 _ r (okW_app (okW_app hw (mAll_ok hu _ s h1)) (okW_one ok124)) h2
    · rw [if_neg c] at h
      injection h with h
      rw [← h]
      exact hw
theorem mAny_ok {tx : Nat → Nat} {L : Nat} {u : Nat → Nat ⊕ (Nat × List Nat)} (hu : goodW u) : goodW (mAny tx L u) := fun a r h => by
  unfold mAny at h
  obtain ⟨s, h1, h2⟩ := mb_inr h
  exact mAnyL_ok hu 160 s.1 s.2 r (mAll_ok hu _ s h1) h2
theorem mComL_ok {tx : Nat → Nat} {L : Nat} {u : Nat → Nat ⊕ (Nat × List Nat)} (hu : goodW u) : ∀ f a ws q r, (∀ x, x ∈ ws → okW x) → mComL tx L u f a ws q = .inr r → (∀ x, x ∈ r.2.1 → okW x) ∧ r.2.2 ≤ q + f
  | 0, a, ws, q, r, hw, h => by
    have h : (Sum.inr (mSk tx L L a, ws, q) : Nat ⊕ (Nat × List Nat × Nat)) = .inr r := h
    injection h with h
    rw [← h]
    exact ⟨hw, Nat.le_refl _⟩
  | f + 1, a, ws, q, r, hw, h => by
    unfold mComL at h
    by_cases c : mHr tx L (mSk tx L L a) = 44
    · rw [if_pos c] at h
      obtain ⟨s, h1, h2⟩ := mb_inr h
      have := mComL_ok hu f s.1 _ (q + 1) r (okW_app hw (mAny_ok hu _ s h1)) h2
      exact ⟨this.1, by omega⟩
    · rw [if_neg c] at h
      injection h with h
      rw [← h]
      exact ⟨hw, Nat.le_add_right _ _⟩
theorem mUnitF_ok {tx : Nat → Nat} {L : Nat} {u : Nat → Nat ⊕ (Nat × List Nat)} (hu : goodW u) (dp : Nat) : goodW (mUnitF tx L u dp) := fun a r h => by
  unfold mUnitF at h
  generalize mSk tx L L a = b at h
  by_cases c33 : mHr tx L b = 33
  · rw [if_pos c33] at h
    by_cases hd : 8 ≤ dp
    · rw [if_pos hd] at h
      cases h
    · rw [if_neg hd] at h
      obtain ⟨s, h1, h2⟩ := mb_inr h
      injection h2 with h2
      rw [← h2]
      exact okW_app (hu _ s h1) (okW_one ok33)
  rw [if_neg c33] at h
  by_cases c40 : mHr tx L b = 40
  · rw [if_pos c40] at h
    by_cases hd : 8 ≤ dp
    · rw [if_pos hd] at h
      cases h
    · rw [if_neg hd] at h
      obtain ⟨s, h1, h2⟩ := mb_inr h
      obtain ⟨s', h3, h4⟩ := mb_inr h2
      injection h4 with h4
      rw [← h4]
      exact mAny_ok hu _ s h1
  rw [if_neg c40] at h
  by_cases c1 : mHr tx L b = 104 ∨ mHr tx L b = 110 ∨ mHr tx L b = 100
  · rw [if_pos c1] at h
    obtain ⟨s, h1, h2⟩ := mb_inr h
    injection h2 with h2
    rw [← h2]
    have hi := mNum_inr (v := s.1) (b := s.2) h1
    refine okW_one ⟨by omega, fun _ => by omega⟩
  rw [if_neg c1] at h
  by_cases c4 : mHr tx L b = 119
  · rw [if_pos c4] at h
    obtain ⟨s, h1, h2⟩ := mb_inr h
    injection h2 with h2
    rw [← h2]
    have hi := mNum_inr (v := s.1) (b := s.2) h1
    refine okW_one ⟨by omega, fun _ => by omega⟩
  rw [if_neg c4] at h
  obtain ⟨s, h1, h2⟩ := mb_inr h
  have hi := mNum_inr (v := s.1) (b := s.2) h1
  by_cases c : mHr tx L (mSk tx L L s.2) = 123
  · rw [if_pos c] at h2
    by_cases hd : 8 ≤ dp
    · rw [if_pos hd] at h2
      cases h2
    · rw [if_neg hd] at h2
      obtain ⟨s2, h3, h4⟩ := mb_inr h2
      obtain ⟨s3, h5, h6⟩ := mb_inr h4
      obtain ⟨s4, h7, h8⟩ := mb_inr h6
      injection h8 with h8
      rw [← h8]
      have hc := mComL_ok hu 160 s2.1 s2.2 1 s3 (mAny_ok hu _ s2 h3) h5
      exact okW_app hc.1 (okW_one ⟨by omega, fun _ => by omega⟩)
  · rw [if_neg c] at h2
    cases h2
theorem mUnit_ok {tx : Nat → Nat} {L : Nat} : ∀ f dp, goodW (mUnit tx L f dp)
  | 0, _ => fun a r h => by cases h
  | f + 1, dp => mUnitF_ok (mUnit_ok f (dp + 1)) dp
theorem mRule_ok {tx : Nat → Nat} {L : Nat} {ws : List Nat} (h : mRule tx L = .inr ws) : ∀ x, x ∈ ws → okW x := by
  unfold mRule at h
  obtain ⟨s, h1, h2⟩ := mb_inr h
  by_cases c : s.1 < L
  · rw [if_pos c] at h2
    cases h2
  · rw [if_neg c] at h2
    injection h2 with h2
    rw [← h2]
    exact mAny_ok (mUnit_ok 10 0) 0 s h1
/-! what the words say -/
theorem evs_app (ys no ds : Nat) (wt : Int) (w w' : List Nat) (st : List Bool) : evs ys no ds wt (w ++ w') st = evs ys no ds wt w' (evs ys no ds wt w st) := List.foldl_append
theorem evs_one (ys no ds : Nat) (wt : Int) (c : Nat) (st : List Bool) : evs ys no ds wt [c] st = ev1 ys no ds wt c st := rfl
def eE (ys no ds : Nat) (wt : Int) (w : List Nat) (v : Bool) : Prop := ∀ st, evs ys no ds wt w st = v :: st
def eN (ys no ds : Nat) (wt : Int) (w : List Nat) (q c : Nat) : Prop := ∃ l : List Bool, l.length = q ∧ l.count true = c ∧ ∀ st, evs ys no ds wt w st = l ++ st
theorem ev_33 (ys no ds : Nat) (wt : Int) (b : Bool) (st : List Bool) : ev1 ys no ds wt 33 (b :: st) = (!b) :: st := rfl
theorem ev_38 (ys no ds : Nat) (wt : Int) (a b : Bool) (st : List Bool) : ev1 ys no ds wt 38 (a :: b :: st) = (a && b) :: st := rfl
theorem ev_124 (ys no ds : Nat) (wt : Int) (a b : Bool) (st : List Bool) : ev1 ys no ds wt 124 (a :: b :: st) = (a || b) :: st := rfl
theorem ev_123 (ys no ds : Nat) (wt : Int) {num q : Nat} (hn : num ≤ 999) (st : List Bool) : ev1 ys no ds wt (123 + 256 * (num + 1000 * q)) st = decide (num ≤ (st.take q).count true) :: st.drop q := by
  unfold ev1
  have e1 : (123 + 256 * (num + 1000 * q)) % 256 = 123 := by omega
  have e2 : (123 + 256 * (num + 1000 * q)) / 256 = num + 1000 * q := by omega
  have e3 : (num + 1000 * q) % 1000 = num := by omega
  have e4 : (num + 1000 * q) / 1000 = q := by omega
  rw [e1, e2, e3, e4, if_neg (by decide), if_neg (by decide), if_neg (by decide), if_pos rfl]
theorem ev_104 (ys no ds : Nat) (wt : Int) (x : Nat) (st : List Bool) : ev1 ys no ds wt (104 + 256 * x) st = ys.testBit x :: st := by
  unfold ev1
  rw [show (104 + 256 * x) % 256 = 104 by omega, show (104 + 256 * x) / 256 = x by omega, if_neg (by decide), if_neg (by decide), if_neg (by decide), if_neg (by decide), if_pos rfl]
theorem ev_110 (ys no ds : Nat) (wt : Int) (x : Nat) (st : List Bool) : ev1 ys no ds wt (110 + 256 * x) st = no.testBit x :: st := by
  unfold ev1
  rw [show (110 + 256 * x) % 256 = 110 by omega, show (110 + 256 * x) / 256 = x by omega, if_neg (by decide), if_neg (by decide), if_neg (by decide), if_neg (by decide), if_neg (by decide), if_pos rfl]
theorem ev_100 (ys no ds : Nat) (wt : Int) (x : Nat) (st : List Bool) : ev1 ys no ds wt (100 + 256 * x) st = ds.testBit x :: st := by
  unfold ev1
  rw [show (100 + 256 * x) % 256 = 100 by omega, show (100 + 256 * x) / 256 = x by omega, if_neg (by decide), if_neg (by decide), if_neg (by decide), if_neg (by decide), if_neg (by decide), if_neg (by decide), if_pos rfl]
theorem ev_119 (ys no ds : Nat) (wt : Int) (x : Nat) (st : List Bool) : ev1 ys no ds wt (119 + 256 * x) st = decide ((x : Int) ≤ wt) :: st := by
  unfold ev1
  have e : (119 + 256 * x) / 256 = x := by omega
  have e2 : (((119 + 256 * x : Nat) : Int) / 256) = (x : Int) := by omega
  rw [show (119 + 256 * x) % 256 = 119 by omega, if_neg (by decide), if_neg (by decide), if_neg (by decide), if_neg (by decide), if_neg (by decide), if_neg (by decide), if_neg (by decide), e2]
/-- the laws of the pure words -/
theorem lawsP (ys no ds : Nat) (wt : Int) : (∀ w v, eE ys no ds wt w v → eE ys no ds wt (w ++ [33]) (!v)) ∧ (∀ w v w' v', eE ys no ds wt w v → eE ys no ds wt w' v' → eE ys no ds wt (w ++ w' ++ [38]) (v && v')) ∧ (∀ w v w' v', eE ys no ds wt w v → eE ys no ds wt w' v' → eE ys no ds wt (w ++ w' ++ [124]) (v || v')) ∧
    (∀ w v, eE ys no ds wt w v → eN ys no ds wt w 1 (if v then 1 else 0)) ∧ (∀ w q c w' v, eN ys no ds wt w q c → eE ys no ds wt w' v → eN ys no ds wt (w ++ w') (q + 1) (c + if v then 1 else 0)) ∧ (∀ w q c num, eN ys no ds wt w q c → num ≤ 999 → eE ys no ds wt (w ++ [123 + 256 * (num + 1000 * q)]) (decide (num ≤ c))) := by
  refine ⟨fun w v h st => ?_, fun w v w' v' h h' st => ?_, fun w v w' v' h h' st => ?_, fun w v h => ?_, fun w q c w' v h h' => ?_, fun w q c num h hn st => ?_⟩
  · rw [evs_app, h, evs_one, ev_33]
  · rw [evs_app, evs_app, h, h', evs_one, ev_38, Bool.and_comm]
  · rw [evs_app, evs_app, h, h', evs_one, ev_124, Bool.or_comm]
  · refine ⟨[v], rfl, ?_, fun st => h st⟩
    cases v <;> rfl
  · obtain ⟨l, l1, l2, l3⟩ := h
    refine ⟨v :: l, by rw [List.length_cons, l1], ?_, fun st => ?_⟩
    · rw [List.count_cons, l2]
      cases v <;> rfl
    · rw [evs_app, l3, h']
      rfl
  · obtain ⟨l, l1, l2, l3⟩ := h
    rw [evs_app, l3, evs_one, ev_123 _ _ _ _ hn, List.take_append_of_le_length (by omega), List.take_of_length_le (by omega), l2, List.drop_append_of_le_length (by omega), List.drop_of_length_le (by omega)]
    rfl
