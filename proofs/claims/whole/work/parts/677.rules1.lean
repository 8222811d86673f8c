/-! RULES, the class: reading -/
def rdK (k0 : ST) (tx : Nat → Nat) (L : Nat) (fa : Int32) (z : ST) (a : Nat) (ws : List Nat) : Prop := isS k0 z ∧ gI z 4 5 = 55 ∧ gI z 4 6 = nI a ∧ gI z 4 7 = nI L ∧ gI z 4 8 = fa ∧ gI z 4 4 = nI ws.length ∧ (∀ i, i < ws.length → gA z 28 i = nI (ws.getD i 0)) ∧ a ≤ L
def txK (k0 : ST) (tx : Nat → Nat) (L : Nat) : Prop := L ≤ 160 ∧ ∀ i, i < L → 1 ≤ tx i ∧ tx i < 256 ∧ gA k0 43 i = nI (tx i)
theorem rdK.at {k0 z : ST} {tx : Nat → Nat} {L a b : Nat} {fa : Int32} {ws : List Nat} (h : rdK k0 tx L fa z a ws) (hb : b ≤ L) : rdK k0 tx L fa (sI z 4 6 (nI b)) b ws := by
  obtain ⟨h1, h2, h3, h4, h5, h6, h7, h8⟩ := h
  exact ⟨h1.s4 _ (by decide), h2, rfl, h4, h5, h6, h7, hb⟩
theorem rdK.text {k0 z : ST} {tx : Nat → Nat} {L a : Nat} {fa : Int32} {ws : List Nat} (h : rdK k0 tx L fa z a ws) (ht : txK k0 tx L) {i : Nat} (hi : i < L) : gA z (ix 55 - 12) i = nI (tx i) := by
  show gA z 43 i = nI (tx i)
  rw [h.1.a 43 rfl]
  exact (ht.2 i hi).2.2
theorem mSk_le (tx : Nat → Nat) (L : Nat) : ∀ f a, a ≤ L → mSk tx L f a ≤ L ∧ a ≤ mSk tx L f a
  | 0, a, h => ⟨h, Nat.le_refl a⟩
  | f + 1, a, h => by
    unfold mSk
    by_cases c : a < L ∧ tx a = 32
    · rw [if_pos c]
      have := mSk_le tx L f (a + 1) (by omega)
      omega
    · rw [if_neg c]
      omega
/-- behind the blanks no blank stands, where the fuel lasts -/
theorem mSk_more (tx : Nat → Nat) (L : Nat) : ∀ f g a, L ≤ a + f → L ≤ a + g → mSk tx L f a = mSk tx L g a
  | 0, 0, _, _, _ => rfl
  | 0, g + 1, a, h, _ => by
    show a = if a < L ∧ tx a = 32 then mSk tx L g (a + 1) else a
    rw [if_neg (by omega)]
  | f + 1, 0, a, _, h => by
    show (if a < L ∧ tx a = 32 then mSk tx L f (a + 1) else a) = a
    rw [if_neg (by omega)]
  | f + 1, g + 1, a, h1, h2 => by
    show (if a < L ∧ tx a = 32 then mSk tx L f (a + 1) else a) = if a < L ∧ tx a = 32 then mSk tx L g (a + 1) else a
    rw [mSk_more tx L f g (a + 1) (by omega) (by omega)]
theorem skipK_lp {k0 : ST} {tx : Nat → Nat} {L : Nat} {fa : Int32} {ws : List Nat} (ht : txK k0 tx L) (cont : ST → Option (Unit × ST)) : ∀ (r g a : Nat) (z : ST), a + r = L → r ≤ g → rdK k0 tx L fa z a ws → ∃ z', lpX5_skipBlanks_0 (g + 1) z cont = cont z' ∧ rdK k0 tx L fa z' (mSk tx L r a) ws := by
  intro r
  have hL := ht.1
  induction r with
  | zero =>
    intro g a z ha _ h
    refine ⟨z, ?_, h⟩
    rw [lpX5_skipBlanks_0, h.2.2.1, h.2.2.2.1, if_neg (nI_pos (by omega)), if_pos (nI_le (by omega) (by omega))]
  | succ r ih =>
    intro g a z ha hg h
    obtain ⟨g, rfl⟩ : ∃ z, g = z + 1 := ⟨g - 1, by omega⟩
    have ht2 := ht.2 a (by omega)
    rw [lpX5_skipBlanks_0, h.2.2.1, h.2.2.2.1, if_neg (nI_pos (by omega)), if_neg (nI_ge (by omega) (by omega)), h.2.1, ck_of (show tx_K 55 = true by decide), inb_nI (show a < 160 by omega) (by decide), ck_true, ix_nI (by omega), h.text ht (show a < L by omega), nm_eq, nI_1, ifeq (show (nI (tx a) = 32) = (tx a = 32) from propext (nI_eq (b := 32) (by omega) (by decide)))]
    by_cases c : tx a = 32
    · rw [if_pos c]
      obtain ⟨z', e1, e2⟩ := ih g (a + 1) _ (by omega) (by omega) (h.at (b := a + 1) (by omega))
      refine ⟨z', e1, ?_⟩
      show rdK k0 tx L fa z' (if a < L ∧ tx a = 32 then mSk tx L r (a + 1) else a) ws
      rw [if_pos ⟨by omega, c⟩]
      exact e2
    · rw [if_neg c]
      refine ⟨z, rfl, ?_⟩
      show rdK k0 tx L fa z (if a < L ∧ tx a = 32 then mSk tx L r (a + 1) else a) ws
      rw [if_neg (fun q => c q.2)]
      exact h
theorem skipK {k0 z : ST} {tx : Nat → Nat} {L a : Nat} {fa : Int32} {ws : List Nat} (ht : txK k0 tx L) (h : rdK k0 tx L fa z a ws) : ∃ z', fX5_skipBlanks z = some ((), z') ∧ rdK k0 tx L fa z' (mSk tx L L a) ws := by
  have ha : a ≤ L := h.2.2.2.2.2.2.2
  have hL := ht.1
  unfold fX5_skipBlanks
  rw [FU_g]
  obtain ⟨z', e1, e2⟩ := skipK_lp ht (fun k6 => some ((), k6)) (L - a) 4999 a z (by omega) (by omega) h
  rw [mSk_more tx L (L - a) L a (by omega) (by omega)] at e2
  exact ⟨z', e1, e2⟩
theorem hereK {k0 z : ST} {tx : Nat → Nat} {L a : Nat} {ws : List Nat} (ht : txK k0 tx L) (h : rdK k0 tx L (-1) z a ws) : fX5_here z = some (nI (mHr tx L a), z) := by
  have ha : a ≤ L := h.2.2.2.2.2.2.2
  have hL := ht.1
  unfold fX5_here mHr
  rw [h.2.2.2.2.1, if_pos rfl, h.2.2.1, h.2.2.2.1, if_neg (nI_pos (by omega))]
  by_cases c : a < L
  · rw [if_neg (nI_ge c (by omega)), h.2.1, ck_of (show tx_K 55 = true by decide), inb_nI (show a < 160 by omega) (by decide), ck_true, ix_nI (by omega), h.text ht c, if_pos c]
  · rw [if_pos (nI_le (by omega) (by omega)), if_neg c]
    rfl
theorem hereF {k0 z : ST} {tx : Nat → Nat} {L a p : Nat} {ws : List Nat} (hp : p < 2 ^ 31) (h : rdK k0 tx L (nI p) z a ws) : fX5_here z = some (0, z) := by
  unfold fX5_here
  rw [h.2.2.2.2.1, if_neg (nI_ne_m1 hp)]
theorem mHr_lt {k0 : ST} {tx : Nat → Nat} {L : Nat} (ht : txK k0 tx L) (a : Nat) : mHr tx L a < 256 := by
  unfold mHr
  split
  · exact (ht.2 a (by assumption)).2.1
  · decide
theorem mHr_in {tx : Nat → Nat} {L a : Nat} (h : mHr tx L a ≠ 0) : a < L := by
  unfold mHr at h
  by_cases c : a < L
  · exact c
  · rw [if_neg c] at h
    exact absurd rfl h
theorem stopK {k0 z : ST} {tx : Nat → Nat} {L a p : Nat} {ws : List Nat} (h : rdK k0 tx L (-1) z a ws) : ∃ z', fX5_stop z (nI p) = some ((), z') ∧ rdK k0 tx L (nI p) z' a ws := by
  obtain ⟨h1, h2, h3, h4, h5, h6, h7, h8⟩ := h
  unfold fX5_stop
  rw [h5, if_pos rfl, nm_eq]
  exact ⟨_, rfl, h1.s4 _ (by decide), h2, h3, h4, rfl, h6, h7, h8⟩
theorem stopF {k0 z : ST} {tx : Nat → Nat} {L a p : Nat} {ws : List Nat} (hp : p < 2 ^ 31) (v : Int32) (h : rdK k0 tx L (nI p) z a ws) : fX5_stop z v = some ((), z) := by
  unfold fX5_stop
  rw [h.2.2.2.2.1, if_neg (nI_ne_m1 hp)]
theorem writeF {k0 z : ST} {tx : Nat → Nat} {L a p : Nat} {ws : List Nat} (hp : p < 2 ^ 31) (v w : Int32) (h : rdK k0 tx L (nI p) z a ws) : fX5_write z v w = some ((), z) := by
  unfold fX5_write
  rw [h.2.2.2.2.1, if_neg (nI_ne_m1 hp)]
theorem writeK {k0 z : ST} {tx : Nat → Nat} {L a c v : Nat} {ws : List Nat} (h : rdK k0 tx L (-1) z a ws) (hl : ws.length < 160) : ∃ z', fX5_write z (nI c) (nI v) = some ((), z') ∧ rdK k0 tx L (-1) z' a (ws ++ [c + 256 * v]) := by
  obtain ⟨h1, h2, h3, h4, h5, h6, h7, h8⟩ := h
  unfold fX5_write
  rw [h5, if_pos rfl, h6, if_neg (show ¬ (160 : Int32) ≤ nI ws.length from nI_ge (b := 160) hl (by decide)), inb_nI hl (by decide), ck_true, nm_eq, nm_eq, ix_nI (by omega), show (256 : Int32) * nI v = nI (256 * v) from pk_mul 256 v, nI_add, gI_sA, h6, nI_1]
  refine ⟨_, rfl, (h1.sA _ _ (r := 28) rfl).s4 _ (by decide), h2, h3, h4, h5, ?_, ?_, h8⟩
  · rw [List.length_append]
    rfl
  · show ∀ i, i < (ws ++ [c + 256 * v]).length → upd (gA z 28) ws.length (nI (c + 256 * v)) i = nI ((ws ++ [c + 256 * v]).getD i 0)
    intro i hi
    rw [List.length_append, List.length_singleton] at hi
    rcases Nat.lt_or_ge i ws.length with e | e
    · rw [un (by omega), h7 i e, List.getD_eq_getElem?_getD, List.getD_eq_getElem?_getD, List.getElem?_append_left e]
    · have : i = ws.length := by omega
      subst this
      rw [us, List.getD_eq_getElem?_getD, List.getElem?_append_right (Nat.le_refl _), Nat.sub_self]
      rfl
theorem passK {k0 z : ST} {tx : Nat → Nat} {L a c : Nat} {ws : List Nat} (ht : txK k0 tx L) (hc : 1 ≤ c) (hc2 : c < 256) (h : rdK k0 tx L (-1) z a ws) : ∃ z', (mHr tx L (mSk tx L L a) = c → fX5_passes z (nI c) = some (true, z') ∧ rdK k0 tx L (-1) z' (mSk tx L L a + 1) ws) ∧ (mHr tx L (mSk tx L L a) ≠ c → fX5_passes z (nI c) = some (false, z') ∧ rdK k0 tx L (-1) z' (mSk tx L L a) ws) := by
  obtain ⟨z', e1, e2⟩ := skipK ht h
  have hl := mHr_lt ht (mSk tx L L a)
  unfold fX5_passes
  rw [e1, ob_some, hereK ht e2, ob_some, e2.2.2.1, nm_eq, nI_1, ifeq (show (nI (mHr tx L (mSk tx L L a)) = nI c) = (mHr tx L (mSk tx L L a) = c) from propext (nI_eq (by omega) (by omega)))]
  by_cases q : mHr tx L (mSk tx L L a) = c
  · have hin := mHr_in (tx := tx) (L := L) (a := mSk tx L L a) (by omega)
    refine ⟨sI z' 4 6 (nI (mSk tx L L a + 1)), fun _ => ⟨by rw [if_pos q], e2.at (by omega)⟩, fun w => absurd q w⟩
  · exact ⟨z', fun w => absurd w q, fun _ => ⟨by rw [if_neg q], e2⟩⟩
theorem passF {k0 z : ST} {tx : Nat → Nat} {L a p : Nat} {ws : List Nat} (ht : txK k0 tx L) (hp : p < 2 ^ 31) {v : Int32} (hv : ¬ v = 0) (h : rdK k0 tx L (nI p) z a ws) : ∃ z' b, fX5_passes z v = some (false, z') ∧ rdK k0 tx L (nI p) z' b ws := by
  obtain ⟨z', e1, e2⟩ := skipK ht h
  unfold fX5_passes
  rw [e1, ob_some, hereF hp e2, ob_some, if_neg (fun q => hv q.symm)]
  exact ⟨z', _, rfl, e2⟩
