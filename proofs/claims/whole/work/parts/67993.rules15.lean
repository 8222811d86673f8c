/-! RULES: the class weighs the words -/
def stR (f : Nat → Int32) : List Bool → Prop
  | [] => True
  | b :: r => f r.length = b2i b ∧ stR f r
theorem stR_upd {f : Nat → Int32} {j : Nat} {v : Int32} : ∀ {st : List Bool}, st.length ≤ j → stR f st → stR (upd f j v) st
  | [], _, _ => trivial
  | b :: r, hj, h => by
    have hl : (b :: r).length = r.length + 1 := rfl
    exact ⟨by rw [un (by omega)]; exact h.1, stR_upd (by omega) h.2⟩
def wgK (k0 : ST) (ys no ds : Nat) (wt : Int32) (z : ST) (st : List Bool) : Prop := isS k0 z ∧ gI z 4 11 = nI ys ∧ gI z 4 12 = nI no ∧ gI z 4 13 = nI ds ∧ gI z 4 14 = wt ∧ gI z 4 10 = nI st.length ∧ stR (gA z 29) st
theorem popK {k0 z : ST} {ys no ds : Nat} {wt : Int32} {st : List Bool} (h : wgK k0 ys no ds wt z st) (hl : st.length ≤ 160) : ∃ z', fX5_pop z = some (st.headD false, z') ∧ wgK k0 ys no ds wt z' st.tail := by
  obtain ⟨h1, h2, h3, h4, h5, h6, h7⟩ := h
  unfold fX5_pop
  cases st with
  | nil =>
    rw [h6, if_neg (show ¬ (0 : Int32) < nI ([] : List Bool).length by decide)]
    exact ⟨z, rfl, h1, h2, h3, h4, h5, h6, h7⟩
  | cons b r =>
    have hl2 : (b :: r).length = r.length + 1 := rfl
    rw [hl2] at h6 hl
    have e : gI z 4 10 - 1 = nI r.length := by
      rw [h6]
      exact pk_sub (b := 1) (by omega)
    have h7' : gA (sI z 4 10 (nI r.length)) 29 r.length = b2i b := h7.1
    rw [e, nm_eq, h6, if_pos (show (0 : Int32) < nI (r.length + 1) from nI_lt (a := 0) (by omega) (by omega)), show gI (sI z 4 10 (nI r.length)) 4 10 = nI r.length from rfl, inb_nI (show r.length < 160 by omega) (by decide), ck_true, ix_nI (by omega), h7']
    refine ⟨sI z 4 10 (nI r.length), ?_, h1.s4 _ (by decide), h2, h3, h4, h5, rfl, h7.2⟩
    cases b <;> rfl
theorem pushK {k0 z : ST} {ys no ds : Nat} {wt : Int32} {st : List Bool} (b : Bool) (h : wgK k0 ys no ds wt z st) (hl : st.length < 160) : ∃ z', fX5_push z b = some ((), z') ∧ wgK k0 ys no ds wt z' (b :: st) := by
  obtain ⟨h1, h2, h3, h4, h5, h6, h7⟩ := h
  unfold fX5_push
  rw [h6, if_neg (show ¬ (160 : Int32) ≤ nI st.length from nI_ge (b := 160) hl (by decide)), inb_nI hl (by decide), ck_true, nm_eq, nm_eq, ix_nI (by omega), gI_sA, h6, nI_1]
  refine ⟨_, rfl, (h1.sA _ _ (r := 29) rfl).s4 _ (by decide), h2, h3, h4, h5, rfl, ?_, ?_⟩
  · show upd (gA z 29) st.length (b2i b) st.length = b2i b
    exact us
  · show stR (upd (gA z 29) st.length (b2i b)) st
    exact stR_upd (Nat.le_refl _) h7
theorem popHold_lp {k0 : ST} {ys no ds m : Nat} {wt : Int32} (hm : m < 2 ^ 31) (cont : Int32 → Int32 → ST → Option (Int32 × ST)) : ∀ (r g j c : Nat) (st : List Bool) (z : ST), j + r = m → r + 1 ≤ g → wgK k0 ys no ds wt z st → st.length ≤ 160 → ∃ z', lpX5_popHolding_4 (nI m) g (nI c) (nI j) z cont = cont (nI (c + (st.take r).count true)) (nI m) z' ∧ wgK k0 ys no ds wt z' (st.drop r) := by
  intro r
  induction r with
  | zero =>
    intro g j c st z hj hg h hl
    obtain ⟨g, rfl⟩ : ∃ z, g = z + 1 := ⟨g - 1, by omega⟩
    have : j = m := by omega
    subst this
    refine ⟨z, ?_, h⟩
    rw [lpX5_popHolding_4, if_pos (nI_le (Nat.le_refl _) hm)]
    rfl
  | succ r ih =>
    intro g j c st z hj hg h hl
    obtain ⟨g, rfl⟩ : ∃ z, g = z + 1 := ⟨g - 1, by omega⟩
    obtain ⟨z1, e1, e2⟩ := popK h hl
    rw [lpX5_popHolding_4, if_neg (nI_ge (by omega) hm), e1, ob_some, nI_1, nI_1]
    have hc : c + (st.take (r + 1)).count true = (c + if st.headD false = true then 1 else 0) + (st.tail.take r).count true := by
      cases st with
      | nil => simp
      | cons b t =>
        show c + (b :: t.take r).count true = (c + if b = true then 1 else 0) + (t.take r).count true
        rw [List.count_cons]
        cases b <;> simp <;> omega
    have hd : st.drop (r + 1) = st.tail.drop r := by
      cases st with
      | nil => simp
      | cons b t => rfl
    have hlt : st.tail.length ≤ 160 := by
      rw [List.length_tail]
      omega
    rw [hc, hd]
    cases hb : st.headD false with
    | true =>
      rw [if_pos rfl, if_pos rfl]
      exact ih g (j + 1) (c + 1) st.tail z1 (by omega) (by omega) e2 hlt
    | false =>
      rw [if_neg (by decide), if_neg (by decide)]
      exact ih g (j + 1) c st.tail z1 (by omega) (by omega) e2 hlt
theorem popHold {k0 z : ST} {ys no ds m : Nat} {wt : Int32} {st : List Bool} (hm : m < 4000) (h : wgK k0 ys no ds wt z st) (hl : st.length ≤ 160) : ∃ z', fX5_popHolding z (nI m) = some (nI ((st.take m).count true), z') ∧ wgK k0 ys no ds wt z' (st.drop m) := by
  unfold fX5_popHolding
  rw [FU_g]
  obtain ⟨z', e1, e2⟩ := popHold_lp (m := m) (by omega) (fun y6 y7 k8 => some (y6, k8)) m (4999 + 1) 0 0 st z (by omega) (by omega) h hl
  rw [Nat.zero_add] at e1
  exact ⟨z', e1, e2⟩
theorem two_ct (st : List Bool) : (st.take 2).count true = (st.headD false).toNat + (st.tail.headD false).toNat := by
  rcases st with _ | ⟨a, _ | ⟨b, t⟩⟩
  · rfl
  · cases a <;> rfl
  · cases a <;> cases b <;> rfl
theorem two_dr (st : List Bool) : st.drop 2 = st.tail.tail := by
  rcases st with _ | ⟨a, _ | ⟨b, t⟩⟩ <;> rfl
theorem ev1_len (ys no ds : Nat) (wt : Int) (w : Nat) (st : List Bool) : (ev1 ys no ds wt w st).length ≤ st.length + 1 := by
  unfold ev1
  split
  · rw [List.length_cons, List.length_tail]
    omega
  split
  · rw [List.length_cons, List.length_tail, List.length_tail]
    omega
  split
  · rw [List.length_cons, List.length_tail, List.length_tail]
    omega
  split
  · rw [List.length_cons, List.length_drop]
    omega
  split
  · exact Nat.le_refl _
  split
  · exact Nat.le_refl _
  split
  · exact Nat.le_refl _
  · exact Nat.le_refl _
theorem weighK {k0 z : ST} {ys no ds w : Nat} {wt : Int32} {st : List Bool} (hy : ys < 2 ^ 31) (hno : no < 2 ^ 31) (hds : ds < 2 ^ 31) (hw : okW w) (h : wgK k0 ys no ds wt z st) (hl : st.length < 160) : ∃ z', fX5_weigh z (nI w) = some ((), z') ∧ wgK k0 ys no ds wt z' (ev1 ys no ds wt.toInt w st) := by
  obtain ⟨w1, w2⟩ := hw
  have er : j_rem (nI w) 256 = nI (w % 256) := rem_of (m := 256) (by omega) (by decide) (by decide)
  have ed : nI w / 256 = nI (w / 256) := pk_div (d := 256) (by omega) (by decide) (by decide)
  have ed2 : nI (w / 256) / 1000 = nI (w / 256 / 1000) := pk_div (d := 1000) (by omega) (by decide) (by decide)
  have er2 : j_rem (nI (w / 256)) 1000 = nI (w / 256 % 1000) := rem_of (m := 1000) (by omega) (by decide) (by decide)
  have eqc : ∀ v, v < 256 → (nI (w % 256) = nI v) = (w % 256 = v) := fun v hv => propext (nI_eq (by omega) (by omega))
  have htl : st.tail.length ≤ st.length := by
    rw [List.length_tail]
    omega
  have htl2 : st.tail.tail.length ≤ st.length := by
    rw [List.length_tail, List.length_tail]
    omega
  obtain ⟨h1, h2, h3, h4, h5, h6, h7⟩ := id h
  unfold fX5_weigh
  rw [er, nm_eq, ed, ed2, er2, h2, h3, h4, h5]
  rw [ifeq (show (nI (w % 256) = 33) = (w % 256 = 33) from eqc 33 (by decide)), ifeq (show (nI (w % 256) = 38) = (w % 256 = 38) from eqc 38 (by decide)), ifeq (show (nI (w % 256) = 100) = (w % 256 = 100) from eqc 100 (by decide)), ifeq (show (nI (w % 256) = 104) = (w % 256 = 104) from eqc 104 (by decide)), ifeq (show (nI (w % 256) = 110) = (w % 256 = 110) from eqc 110 (by decide)), ifeq (show (nI (w % 256) = 123) = (w % 256 = 123) from eqc 123 (by decide)), ifeq (show (nI (w % 256) = 124) = (w % 256 = 124) from eqc 124 (by decide))]
  unfold ev1
  by_cases c1 : w % 256 = 33
  · rw [if_pos c1, if_pos c1]
    obtain ⟨z1, e1, e2⟩ := popK h (by omega)
    rw [e1, ob_some]
    obtain ⟨z2, f1, f2⟩ := pushK (!st.headD false) e2 (by omega)
    refine ⟨z2, ?_, f2⟩
    cases hb : st.headD false with
    | true =>
      rw [hb] at f1
      rw [if_pos rfl, show fX5_push z1 false = some ((), z2) from f1, ob_some]
    | false =>
      rw [hb] at f1
      rw [if_neg (by decide), show fX5_push z1 true = some ((), z2) from f1, ob_some]
  rw [if_neg c1, if_neg c1]
  by_cases c2 : w % 256 = 38
  · rw [if_pos c2, if_pos c2]
    obtain ⟨z1, e1, e2⟩ := popHold (m := 2) (by decide) h (by omega)
    rw [two_dr] at e2
    rw [two_ct] at e1
    obtain ⟨z3, g1, g2⟩ := pushK (st.headD false && st.tail.headD false) e2 (by omega)
    have q : ∀ a b : Bool, (if nI (a.toNat + b.toNat) = 2 then ob (fX5_push z1 true) (fun _ k => some ((), k)) else ob (fX5_push z1 false) (fun _ k => some ((), k))) = ob (fX5_push z1 (a && b)) (fun _ k => some ((), k)) := by
      intro a b
      cases a <;> cases b <;> first | exact if_pos (by decide) | exact if_neg (by decide)
    rw [show fX5_popHolding z 2 = some (nI ((st.headD false).toNat + (st.tail.headD false).toNat), z1) from e1, ob_some, q, g1, ob_some]
    exact ⟨z3, rfl, g2⟩
  rw [if_neg c2, if_neg c2]
  by_cases c3 : w % 256 = 100
  · rw [if_pos c3, if_neg (show ¬ w % 256 = 124 by omega), if_neg (show ¬ w % 256 = 123 by omega), if_neg (show ¬ w % 256 = 104 by omega), if_neg (show ¬ w % 256 = 110 by omega), if_pos c3]
    have := w2 (Or.inr (Or.inr c3))
    rw [hasBit_of z (show w / 256 < 31 by omega) hds, ob_some]
    obtain ⟨z3, g1, g2⟩ := pushK (ds.testBit (w / 256)) h hl
    rw [g1, ob_some]
    exact ⟨z3, rfl, g2⟩
  rw [if_neg c3]
  by_cases c4 : w % 256 = 104
  · rw [if_pos c4, if_neg (show ¬ w % 256 = 124 by omega), if_neg (show ¬ w % 256 = 123 by omega), if_pos c4]
    have := w2 (Or.inl c4)
    rw [hasBit_of z (show w / 256 < 31 by omega) hy, ob_some]
    obtain ⟨z3, g1, g2⟩ := pushK (ys.testBit (w / 256)) h hl
    rw [g1, ob_some]
    exact ⟨z3, rfl, g2⟩
  rw [if_neg c4]
  by_cases c5 : w % 256 = 110
  · rw [if_pos c5, if_neg (show ¬ w % 256 = 124 by omega), if_neg (show ¬ w % 256 = 123 by omega), if_neg c4, if_pos c5]
    have := w2 (Or.inr (Or.inl c5))
    rw [hasBit_of z (show w / 256 < 31 by omega) hno, ob_some]
    obtain ⟨z3, g1, g2⟩ := pushK (no.testBit (w / 256)) h hl
    rw [g1, ob_some]
    exact ⟨z3, rfl, g2⟩
  rw [if_neg c5]
  by_cases c6 : w % 256 = 123
  · rw [if_pos c6, if_neg (show ¬ w % 256 = 124 by omega), if_pos c6]
    obtain ⟨z1, e1, e2⟩ := popHold (m := w / 256 / 1000) (by omega) h (by omega)
    have hdl : (st.drop (w / 256 / 1000)).length < 160 := by
      rw [List.length_drop]
      omega
    have hcl : (st.take (w / 256 / 1000)).count true ≤ 160 := Nat.le_trans List.count_le_length (by rw [List.length_take]; omega)
    rw [e1, ob_some]
    obtain ⟨z2, f1, f2⟩ := pushK (decide (w / 256 % 1000 ≤ (st.take (w / 256 / 1000)).count true)) e2 hdl
    refine ⟨z2, ?_, f2⟩
    by_cases q : w / 256 % 1000 ≤ (st.take (w / 256 / 1000)).count true
    · rw [decide_eq_true q] at f1
      rw [if_neg (nI_nlt q (by omega)), f1, ob_some]
    · rw [decide_eq_false q] at f1
      rw [if_pos (nI_lt (by omega) (by omega)), f1, ob_some]
  rw [if_neg c6]
  by_cases c7 : w % 256 = 124
  · rw [if_pos c7, if_pos c7]
    obtain ⟨z1, e1, e2⟩ := popHold (m := 2) (by decide) h (by omega)
    rw [two_dr] at e2
    rw [two_ct] at e1
    obtain ⟨z3, g1, g2⟩ := pushK (st.headD false || st.tail.headD false) e2 (by omega)
    have q : ∀ a b : Bool, (if nI (a.toNat + b.toNat) < 1 then ob (fX5_push z1 false) (fun _ k => some ((), k)) else ob (fX5_push z1 true) (fun _ k => some ((), k))) = ob (fX5_push z1 (a || b)) (fun _ k => some ((), k)) := by
      intro a b
      cases a <;> cases b <;> first | exact if_pos (by decide) | exact if_neg (by decide)
    rw [show fX5_popHolding z 2 = some (nI ((st.headD false).toNat + (st.tail.headD false).toNat), z1) from e1, ob_some, q, g1, ob_some]
    exact ⟨z3, rfl, g2⟩
  rw [if_neg c7, if_neg c7, if_neg c6, if_neg c4, if_neg c5, if_neg c3]
  obtain ⟨z2, f1, f2⟩ := pushK (decide (((w : Int) / 256) ≤ wt.toInt)) h hl
  refine ⟨z2, ?_, f2⟩
  have hv : (nI (w / 256)).toInt = ((w / 256 : Nat) : Int) := nI_toInt (by omega)
  by_cases q : wt < nI (w / 256)
  · have q2 := Int32.lt_iff_toInt_lt.mp q
    rw [hv] at q2
    rw [decide_eq_false (by omega)] at f1
    rw [if_pos q, f1, ob_some]
  · have q2 : ¬ wt.toInt < (nI (w / 256)).toInt := fun z => q (Int32.lt_iff_toInt_lt.mpr z)
    rw [hv] at q2
    rw [decide_eq_true (by omega)] at f1
    rw [if_neg q, f1, ob_some]
theorem holds_lp {k0 : ST} {ys no ds r : Nat} {wt : Int32} {ws : List Nat} (hy : ys < 2 ^ 31) (hno : no < 2 ^ 31) (hds : ds < 2 ^ 31) (hr : r < 20) (hlen : ws.length ≤ 160) (hL : gA k0 27 r = nI ws.length) (hW : ∀ i, i < ws.length → gA k0 26 (160 * r + i) = nI (ws.getD i 0)) (hok : ∀ x, x ∈ ws → okW x) (v2 v3 v4 : Int32) (cont : Int32 → ST → Option (Bool × ST)) :
    ∀ (m g i : Nat) (st : List Bool) (z : ST), i + m = ws.length → m + 1 ≤ g → st.length ≤ i → wgK k0 ys no ds wt z st → ∃ z', lpX5_holds_53 (nI r) v2 v3 v4 (nI r * 160) g (nI i) z cont = cont (nI ws.length) z' ∧ wgK k0 ys no ds wt z' (evs ys no ds wt.toInt (ws.drop i) st) := by
  intro m
  induction m with
  | zero =>
    intro g i st z hi hg hst h
    obtain ⟨g, rfl⟩ : ∃ z, g = z + 1 := ⟨g - 1, by omega⟩
    have : i = ws.length := by omega
    subst this
    refine ⟨z, ?_, ?_⟩
    · rw [lpX5_holds_53, inb_nI hr (by decide), ck_true, ix_nI (by omega), h.1.a 27 rfl, hL, if_pos (nI_le (Nat.le_refl _) (by omega))]
    · rw [List.drop_of_length_le (Nat.le_refl _)]
      exact h
  | succ m ih =>
    intro g i st z hi hg hst h
    obtain ⟨g, rfl⟩ : ∃ z, g = z + 1 := ⟨g - 1, by omega⟩
    have hin : i < ws.length := by omega
    have e : nI r * 160 + nI i = nI (160 * r + i) := by
      rw [show nI r * 160 = nI (r * 160) from pk_mul r 160, nI_add, Nat.mul_comm]
    have hmem : ws.getD i 0 ∈ ws := by
      rw [List.getD_eq_getElem?_getD, List.getElem?_eq_getElem hin]
      exact List.getElem_mem hin
    obtain ⟨z1, e1, e2⟩ := weighK hy hno hds (hok _ hmem) h (by omega)
    rw [lpX5_holds_53, inb_nI hr (by decide), ck_true, ix_nI (show r < 2 ^ 31 by omega), h.1.a 27 rfl, hL, if_neg (nI_ge hin (by omega)), e, inb_nI (show 160 * r + i < 3200 by omega) (by decide), ck_true, ix_nI (show 160 * r + i < 2 ^ 31 by omega), h.1.a 26 rfl, hW i hin, e1, ob_some, nI_1]
    obtain ⟨z2, f1, f2⟩ := ih g (i + 1) _ z1 (by omega) (by omega) (Nat.le_trans (ev1_len _ _ _ _ _ _) (by omega)) e2
    refine ⟨z2, f1, ?_⟩
    have hd : ws.drop i = ws.getD i 0 :: ws.drop (i + 1) := by
      rw [List.drop_eq_getElem_cons hin, List.getD_eq_getElem?_getD, List.getElem?_eq_getElem hin]
      rfl
    rw [hd]
    exact f2
theorem evs_len (ys no ds : Nat) (wt : Int) : ∀ (ws : List Nat) (st : List Bool), (evs ys no ds wt ws st).length ≤ st.length + ws.length
  | [], st => Nat.le_refl _
  | w :: r, st => by
    have h1 := evs_len ys no ds wt r (ev1 ys no ds wt w st)
    have h2 := ev1_len ys no ds wt w st
    show (evs ys no ds wt r (ev1 ys no ds wt w st)).length ≤ st.length + (r.length + 1)
    omega
/-- the class: whether a rule holds. V: those who said yes, and 12 higher no -/
theorem holdsK {k : ST} {V ds r rc : Nat} {wt : Int32} {ws : List Nat} (hV : V < 2 ^ 24) (hds : ds < 2 ^ 31) (hrc : rc ≤ 20) (hr : r < rc) (hc : gI k 4 0 = nI rc) (hlen : ws.length ≤ 160) (hL : gA k 27 r = nI ws.length) (hW : ∀ i, i < ws.length → gA k 26 (160 * r + i) = nI (ws.getD i 0)) (hok : ∀ x, x ∈ ws → okW x) :
    ∃ z', fX5_holds k (nI r) (nI V) (nI ds) wt = some ((evs (V % 4096) (V / 4096) ds wt.toInt ws []).headD false, z') ∧ isS k z' := by
  have e1 : nI V &&& 4095 = nI (V % 4096) := fa_mask V 12
  have e2 : j_ushr (nI V) 12 = nI (V / 4096) := pk_ushrN (by omega) 12 12 (by decide)
  unfold fX5_holds
  rw [sX5_knows hc (by omega), ob_some, if_pos (inb_nI hr (by omega)), e1, e2, nm_eq, nm_eq, nm_eq, nm_eq, nm_eq, FU_g]
  have r0 : wgK k (V % 4096) (V / 4096) ds wt (sI (sI (sI (sI (sI k 4 11 (nI (V % 4096))) 4 12 (nI (V / 4096))) 4 13 (nI ds)) 4 14 wt) 4 10 0) [] := ⟨(((((isS.rf k).s4 _ (by decide)).s4 _ (by decide)).s4 _ (by decide)).s4 _ (by decide)).s4 _ (by decide), rfl, rfl, rfl, rfl, rfl, trivial⟩
  obtain ⟨z1, f1, f2⟩ := holds_lp (by omega) (by omega) hds (show r < 20 by omega) hlen hL hW hok (nI V) (nI ds) wt (fun y16 k17 => ob (fX5_pop k17) fun r18 k19 => some (r18, k19)) ws.length (4999 + 1) 0 [] _ (by omega) (by omega) (Nat.le_refl _) r0
  rw [show lpX5_holds_53 (nI r) (nI V) (nI ds) wt (nI r * 160) (4999 + 1) 0 (sI (sI (sI (sI (sI k 4 11 (nI (V % 4096))) 4 12 (nI (V / 4096))) 4 13 (nI ds)) 4 14 wt) 4 10 0) (fun y16 k17 => ob (fX5_pop k17) fun r18 k19 => some (r18, k19)) = _ from f1]
  have hel := evs_len (V % 4096) (V / 4096) ds wt.toInt ws []
  have hnil : ([] : List Bool).length = 0 := rfl
  obtain ⟨z2, g1, g2⟩ := popK f2 (by
    show (evs (V % 4096) (V / 4096) ds wt.toInt ws []).length ≤ 160
    omega)
  rw [g1, ob_some]
  exact ⟨z2, rfl, g2.1⟩
