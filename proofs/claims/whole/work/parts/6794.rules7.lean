/-! RULES, the model: reading. y0: the state it begins with; rw, bs: the text's row and where it begins -/
def isQ (y0 y : ST) : Prop := (∀ c f, (c = 11 → f < 52 ∨ 57 < f) → gI y c f = gI y0 c f) ∧ (∀ a, gA y a = gA y0 a) ∧ ∀ a, gL y a = gL y0 a
theorem isQ.rf (y : ST) : isQ y y := ⟨fun _ _ _ => rfl, fun _ => rfl, fun _ => rfl⟩
theorem isQ.sI {y0 y : ST} (h : isQ y0 y) {f : Nat} (v : Int32) (h1 : 52 ≤ f) (h2 : f ≤ 57) : isQ y0 (sI y 11 f v) := ⟨fun c g a => by
  rw [gI_sI]
  by_cases e : c = 11
  · rw [if_pos e, if_neg (by have := a e; omega)]
    exact h.1 c g a
  · rw [if_neg e]
    exact h.1 c g a, h.2.1, h.2.2⟩
theorem isQ.isM {n y0 y : ST} (h : isQ y0 y) (hM : isM n y0) : isM n y := ⟨fun c f a => by
  by_cases e : c = 11 ∧ 52 ≤ f ∧ f ≤ 57
  · have := a e.1
    unfold mSlot at this
    simp at this
    omega
  · rw [h.1 c f (fun q => by omega)]
    exact hM.i c f a, fun a b c => by rw [h.2.1 a]; exact hM.a a b c, fun a b => by rw [h.2.2 a]; exact hM.l a b⟩
def rdM (y0 : ST) (ref : Int32) (bs L : Nat) (fa : Int32) (y : ST) (a dp : Nat) : Prop := isQ y0 y ∧ gI y 11 52 = ref ∧ gI y 11 53 = nI bs ∧ gI y 11 54 = nI L ∧ gI y 11 55 = nI a ∧ gI y 11 56 = fa ∧ gI y 11 57 = nI dp ∧ a ≤ L
def txM (y0 : ST) (ref : Int32) (bs : Nat) (tx : Nat → Nat) (L : Nat) : Prop := L ≤ 160 ∧ tx_M ref = true ∧ bs + L ≤ lenA (ix ref - 12) ∧ lenA (ix ref - 12) < 4000 ∧ ∀ i, i < L → 1 ≤ tx i ∧ tx i < 256 ∧ gA y0 (ix ref - 12) (bs + i) = (nI (tx i)).toInt8.toInt32
theorem rdM.at {y0 y : ST} {ref fa : Int32} {bs L a b dp : Nat} (h : rdM y0 ref bs L fa y a dp) (hb : b ≤ L) : rdM y0 ref bs L fa (sI y 11 55 (nI b)) b dp := by
  obtain ⟨h1, h2, h3, h4, h5, h6, h7, h8⟩ := h
  exact ⟨h1.sI _ (by decide) (by decide), h2, h3, h4, rfl, h6, h7, hb⟩
theorem rdM.deep {y0 y : ST} {ref fa : Int32} {bs L a dp dq : Nat} (h : rdM y0 ref bs L fa y a dp) : rdM y0 ref bs L fa (sI y 11 57 (nI dq)) a dq := by
  obtain ⟨h1, h2, h3, h4, h5, h6, h7, h8⟩ := h
  exact ⟨h1.sI _ (by decide) (by decide), h2, h3, h4, h5, h6, rfl, h8⟩
theorem rdM.byte {y0 y : ST} {ref fa : Int32} {bs L a dp : Nat} {tx : Nat → Nat} (ht : txM y0 ref bs tx L) (h : rdM y0 ref bs L fa y a dp) (ha : a < L) : inb (gI y 11 53 + gI y 11 55) (lenA (ix (gI y 11 52) - 12)) = true ∧ gA y (ix (gI y 11 52) - 12) (ix (gI y 11 53 + gI y 11 55)) = (nI (tx a)).toInt8.toInt32 ∧ tx_M (gI y 11 52) = true := by
  obtain ⟨t1, t2, t3, t4, t5⟩ := ht
  rw [h.2.1, h.2.2.1, h.2.2.2.2.1, nI_add, h.1.2.1, ix_nI (by omega)]
  exact ⟨inb_nI (by omega) (by omega), (t5 a ha).2.2, t2⟩
theorem b32 : ∀ c : Fin 256, ((nI c.val).toInt8.toInt32 = 32) = (c.val = 32) := by decide +kernel
theorem bDg : ∀ c : Fin 256, ((!decide ((nI c.val).toInt8.toInt32 < 48)) && !decide (57 < (nI c.val).toInt8.toInt32)) = mDg c.val := by decide +kernel
theorem bNum : ∀ c : Fin 256, mDg c.val = true → (nI c.val).toInt8.toInt32 = nI c.val := by decide +kernel
theorem lookM_lp {y0 : ST} {ref fa : Int32} {bs L dp : Nat} {tx : Nat → Nat} (ht : txM y0 ref bs tx L) (cont : ST → Option (Int32 × ST)) : ∀ (r g a : Nat) (y : ST), a + r = L → r ≤ g → rdM y0 ref bs L fa y a dp → ∃ y', lpX12_look_0 (g + 1) y cont = cont y' ∧ rdM y0 ref bs L fa y' (mSk tx L r a) dp := by
  have hL := ht.1
  intro r
  induction r with
  | zero =>
    intro g a y ha _ h
    refine ⟨y, ?_, h⟩
    rw [lpX12_look_0, h.2.2.2.1, h.2.2.2.2.1, if_pos (nI_le (by omega) (by omega))]
  | succ r ih =>
    intro g a y ha hg h
    obtain ⟨g, rfl⟩ : ∃ z, g = z + 1 := ⟨g - 1, by omega⟩
    obtain ⟨w1, w2, w3⟩ := h.byte ht (show a < L by omega)
    have hc := (ht.2.2.2.2 a (by omega)).2.1
    rw [lpX12_look_0, w1, w2, w3, ck_true, ck_true, h.2.2.2.1, h.2.2.2.2.1, if_neg (nI_ge (by omega) (by omega)), nm_eq, nI_1, ifeq (b32 ⟨tx a, hc⟩)]
    show ∃ y', (if tx a = 32 then _ else _) = cont y' ∧ rdM y0 ref bs L fa y' (if a < L ∧ tx a = 32 then mSk tx L r (a + 1) else a) dp
    by_cases c : tx a = 32
    · rw [if_pos c, if_pos ⟨by omega, c⟩]
      exact ih g (a + 1) _ (by omega) (by omega) (h.at (b := a + 1) (by omega))
    · rw [if_neg c, if_neg (fun q => c q.2)]
      exact ⟨y, rfl, h⟩
/-- look: -1 at the end, else the char -/
theorem lookM {y0 y : ST} {ref fa : Int32} {bs L dp a : Nat} {tx : Nat → Nat} (ht : txM y0 ref bs tx L) (h : rdM y0 ref bs L fa y a dp) : ∃ y', fX12_look y = some (if mSk tx L L a < L then nI (tx (mSk tx L L a)) else -1, y') ∧ rdM y0 ref bs L fa y' (mSk tx L L a) dp := by
  have hL := ht.1
  have ha : a ≤ L := h.2.2.2.2.2.2.2
  have hsk := mSk_le tx L L a ha
  obtain ⟨y', e1, e2⟩ := lookM_lp ht (fun k5 => jbX12_look_43 k5) (L - a) 4999 a y (by omega) (by omega) h
  rw [mSk_more tx L (L - a) L a (by omega) (by omega)] at e2
  refine ⟨y', ?_, e2⟩
  unfold fX12_look
  rw [FU_g, e1]
  unfold jbX12_look_43
  by_cases c : mSk tx L L a < L
  · obtain ⟨w1, w2, w3⟩ := e2.byte ht c
    have hc := (ht.2.2.2.2 _ c).2.1
    rw [w1, w2, w3, ck_true, ck_true, e2.2.2.2.1, e2.2.2.2.2.1, if_neg (nI_ge c (by omega)), if_pos c, sc_k8 _ hc]
  · rw [e2.2.2.2.1, e2.2.2.2.2.1, if_pos (nI_le (by omega) (by omega)), if_neg c]
theorem stopM {y0 y : ST} {ref : Int32} {bs L dp a : Nat} (h : rdM y0 ref bs L (-1) y a dp) : ∃ y', fX12_stop y = some (false, y') ∧ rdM y0 ref bs L (nI a) y' a dp := by
  obtain ⟨h1, h2, h3, h4, h5, h6, h7, h8⟩ := h
  unfold fX12_stop
  rw [h6, if_pos rfl, nm_eq, h5]
  exact ⟨_, rfl, h1.sI _ (by decide) (by decide), h2, h3, h4, h5, rfl, h7, h8⟩
theorem stopMF {y0 y : ST} {ref : Int32} {bs L dp a p : Nat} (hp : p < 2 ^ 31) (h : rdM y0 ref bs L (nI p) y a dp) : fX12_stop y = some (false, y) := by
  unfold fX12_stop
  rw [h.2.2.2.2.2.1, if_neg (nI_ne_m1 hp)]
