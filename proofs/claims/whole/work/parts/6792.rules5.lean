theorem mSk_stop (tx : Nat → Nat) (L g a : Nat) (h : ¬ (a < L ∧ tx a = 32)) : mSk tx L g a = a := by
  cases g with
  | zero => rfl
  | succ g =>
    show (if a < L ∧ tx a = 32 then mSk tx L g (a + 1) else a) = a
    rw [if_neg h]
theorem mSk_idem (tx : Nat → Nat) (L g : Nat) : ∀ f a, L ≤ a + f → mSk tx L g (mSk tx L f a) = mSk tx L f a
  | 0, a, h => mSk_stop tx L g a (by omega)
  | f + 1, a, h => by
    show mSk tx L g (if a < L ∧ tx a = 32 then mSk tx L f (a + 1) else a) = if a < L ∧ tx a = 32 then mSk tx L f (a + 1) else a
    by_cases c : a < L ∧ tx a = 32
    · rw [if_pos c]
      exact mSk_idem tx L g f (a + 1) (by omega)
    · rw [if_neg c]
      exact mSk_stop tx L g a c
theorem closeK {k0 z : ST} {tx : Nat → Nat} {L a b num q : Nat} {ws w : List Nat} (ht : txK k0 tx L) (u : ST → Int32 → Option (Unit × ST)) (v1 v4 : Int32) (h : rdK k0 tx L (-1) z b (ws ++ w)) (hab : a < b) (hw : ws.length ≤ a) (hwl : w.length ≤ b - a) :
    outK k0 tx L a ws (mb (mClose tx L 125 b) fun b' => .inr (b', w ++ [123 + 256 * (num + 1000 * q)])) (jbX5_atLeast_85 u v1 (nI num) (nI q) v4 z) := by
  have hL := ht.1
  have hbL : b ≤ L := h.2.2.2.2.2.2.2
  have hsk := mSk_le tx L L b hbL
  obtain ⟨z', y1, y2⟩ := passK (c := 125) ht (by decide) (by decide) h
  unfold jbX5_atLeast_85 mClose
  rw [show (1000 : Int32) * nI q = nI (1000 * q) from pk_mul 1000 q, nI_add]
  by_cases c : mHr tx L (mSk tx L L b) = 125
  · obtain ⟨e1, e2⟩ := y1 c
    have hin := mHr_in (tx := tx) (L := L) (a := mSk tx L L b) (by omega)
    obtain ⟨z2, w1, w2⟩ := writeK (c := 123) (v := num + 1000 * q) e2 (by
      rw [List.length_append]
      omega)
    rw [if_pos c, show fX5_passes z 125 = some (true, z') from e1, ob_some, if_pos rfl, show fX5_write z' 123 (nI (num + 1000 * q)) = some ((), z2) from w1, ob_some]
    refine ⟨by omega, by omega, by rw [List.length_append, List.length_singleton]; omega, z2, rfl, ?_⟩
    rw [← List.append_assoc]
    exact w2
  · obtain ⟨e1, e2⟩ := y2 c
    obtain ⟨z2, s1, s2⟩ := stopK (p := mSk tx L L b) e2
    rw [if_neg c, show fX5_passes z 125 = some (false, z') from e1, ob_some, if_neg (by decide), e2.2.2.1, s1, ob_some, writeF (by omega) _ _ s2, ob_some]
    exact ⟨by omega, z2, _, _, rfl, s2⟩
theorem comK {k0 : ST} {tx : Nat → Nat} {L : Nat} (ht : txK k0 tx L) {mU : Nat → Nat ⊕ (Nat × List Nat)} {u : ST → Int32 → Option (Unit × ST)} {v1 : Int32} (hu : goodU k0 tx L (mAny tx L mU) (fun z => FX5_any u z (v1 + 1))) {a num : Nat} {ws : List Nat} (hw : ws.length ≤ a) :
    ∀ (f g j b q : Nat) (w : List Nat) (z : ST), j + f = 160 → f + 1 ≤ g → rdK k0 tx L (-1) z b (ws ++ w) → a < b → w.length ≤ b - a → j + 1 ≤ b → outK k0 tx L a ws (mb (mComL tx L mU f b w q) fun r => mb (mClose tx L 125 r.1) fun b' => .inr (b', r.2.1 ++ [123 + 256 * (num + 1000 * r.2.2)])) (lpX5_atLeast_52 u v1 (nI num) (g + 1) (nI q) (nI j) z (fun y26 y27 k28 => jbX5_atLeast_85 u v1 (nI num) y26 y27 k28)) := by
  intro f
  have hL := ht.1
  induction f with
  | zero =>
    intro g j b q w z hj _ h _ _ hjb
    have : b ≤ L := h.2.2.2.2.2.2.2
    omega
  | succ f ih =>
    intro g j b q w z hj hg h hab hwl hjb
    obtain ⟨g, rfl⟩ : ∃ z, g = z + 1 := ⟨g - 1, by omega⟩
    have hbL : b ≤ L := h.2.2.2.2.2.2.2
    have hsk := mSk_le tx L L b hbL
    obtain ⟨z', y1, y2⟩ := passK (c := 44) ht (by decide) (by decide) h
    rw [lpX5_atLeast_52, if_neg (show ¬ (160 : Int32) ≤ nI j from nI_ge (b := 160) (by omega) (by decide))]
    show outK k0 tx L a ws (mb (if mHr tx L (mSk tx L L b) = 44 then mb (mAny tx L mU (mSk tx L L b + 1)) fun r => mComL tx L mU f r.1 (w ++ r.2) (q + 1) else .inr (mSk tx L L b, w, q)) fun r => mb (mClose tx L 125 r.1) fun b' => .inr (b', r.2.1 ++ [123 + 256 * (num + 1000 * r.2.2)])) _
    by_cases c : mHr tx L (mSk tx L L b) = 44
    · obtain ⟨e1, e2⟩ := y1 c
      have hin := mHr_in (tx := tx) (L := L) (a := mSk tx L L b) (by omega)
      rw [if_pos c, show fX5_passes z 44 = some (true, z') from e1, ob_some, if_pos rfl]
      have hlen : (ws ++ w).length ≤ mSk tx L L b + 1 := by
        rw [List.length_append]
        omega
      have hu1 := hu z' (mSk tx L L b + 1) (ws ++ w) e2 hlen
      cases hm : mAny tx L mU (mSk tx L L b + 1) with
      | inl p =>
        rw [hm] at hu1
        obtain ⟨p1, z2, b2, ws2, q1, q2⟩ := hu1
        rw [show FX5_any u z' (v1 + 1) = some ((), z2) from q1, ob_some]
        obtain ⟨z3, b3, r1, r2⟩ := comF ht p1 u v1 (nI num) g (nI q + 1) (nI j + 1) q2
        exact ⟨p1, z3, b3, ws2, r1, r2⟩
      | inr r =>
        obtain ⟨b2, w2⟩ := r
        rw [hm] at hu1
        obtain ⟨p1, p2, p3, z2, q1, q2⟩ := hu1
        rw [show FX5_any u z' (v1 + 1) = some ((), z2) from q1, ob_some, nI_1, nI_1]
        rw [List.append_assoc] at q2
        exact ih g (j + 1) b2 (q + 1) (w ++ w2) z2 (by omega) (by omega) q2 (by omega) (by
          rw [List.length_append]
          omega) (by omega)
    · obtain ⟨e1, e2⟩ := y2 c
      rw [if_neg c, show fX5_passes z 44 = some (false, z') from e1, ob_some, if_neg (by decide)]
      have hwl2 : w.length ≤ mSk tx L L b - a := by omega
      have hab2 : a < mSk tx L L b := by omega
      exact closeK (num := num) (q := q) ht u v1 (nI j) e2 hab2 hw hwl2
theorem unitK {k0 : ST} {tx : Nat → Nat} {L dp : Nat} (ht : txK k0 tx L) (hd : dp ≤ 8) {mU : Nat → Nat ⊕ (Nat × List Nat)} {u : ST → Int32 → Option (Unit × ST)} (hu : dp < 8 → goodU k0 tx L mU (fun z => u z (nI dp + 1))) : goodU k0 tx L (mUnitF tx L mU dp) (fun z => FX5_unit u z (nI dp)) := by
  intro z a ws h hw
  have hL := ht.1
  have haL : a ≤ L := h.2.2.2.2.2.2.2
  obtain ⟨z1, e1, e2⟩ := skipK ht h
  have hsk := mSk_le tx L L a haL
  have hid := mSk_idem tx L L L a (by omega)
  show outK k0 tx L a ws (mUnitF tx L mU dp a) (FX5_unit u z (nI dp))
  unfold FX5_unit mUnitF
  rw [e1, ob_some, hereK ht e2, ob_some]
  have hc := mHr_lt ht (mSk tx L L a)
  have eqc : ∀ v, v < 256 → (nI (mHr tx L (mSk tx L L a)) = nI v) = (mHr tx L (mSk tx L L a) = v) := fun v hv => propext (nI_eq (by omega) (by omega))
  -- from the place behind the blanks to a
  have lift : ∀ r o, outK k0 tx L (mSk tx L L a) ws r o → outK k0 tx L a ws r o := fun r o ho => by
    cases r with
    | inl p => exact ho
    | inr r =>
      obtain ⟨b, w⟩ := r
      obtain ⟨o1, o2, o3, o4⟩ := ho
      exact ⟨by omega, o2, by omega, o4⟩
  refine lift _ _ ?_
  have hw2 : ws.length ≤ mSk tx L L a := by omega
  generalize hbe : mSk tx L L a = b at *
  rw [ifeq (show (nI (mHr tx L b) = 33) = (mHr tx L b = 33) from eqc 33 (by decide)), ifeq (show (nI (mHr tx L b) = 40) = (mHr tx L b = 40) from eqc 40 (by decide))]
  by_cases c33 : mHr tx L b = 33
  · have hin := mHr_in (tx := tx) (L := L) (a := b) (by omega)
    rw [if_pos c33, if_pos c33]
    rcases Nat.lt_or_ge dp 8 with hd8 | hd8
    · obtain ⟨z2, f1, f2⟩ := (entersK e2 hin hd).1 hd8
      rw [if_neg (by omega), f1, ob_some, if_pos rfl]
      have hu1 := hu hd8 z2 (b + 1) ws f2 (by omega)
      cases hm : mU (b + 1) with
      | inl p =>
        rw [hm] at hu1
        obtain ⟨p1, z3, b3, ws3, q1, q2⟩ := hu1
        rw [show u z2 (nI dp + 1) = some ((), z3) from q1, ob_some, writeF (by omega) _ _ q2, ob_some]
        exact ⟨p1, z3, b3, ws3, rfl, q2⟩
      | inr r =>
        obtain ⟨b3, w3⟩ := r
        rw [hm] at hu1
        obtain ⟨p1, p2, p3, z3, q1, q2⟩ := hu1
        obtain ⟨z4, s1, s2⟩ := writeK (c := 33) (v := 0) q2 (by
          rw [List.length_append]
          omega)
        rw [show u z2 (nI dp + 1) = some ((), z3) from q1, ob_some, show fX5_write z3 33 0 = some ((), z4) from s1, ob_some]
        have hl3 : (w3 ++ [33]).length ≤ b3 - b := by
          rw [List.length_append, List.length_singleton]
          omega
        have hb3 : b < b3 := by omega
        refine ⟨hb3, p2, hl3, z4, rfl, ?_⟩
        show rdK k0 tx L (-1) z4 b3 (ws ++ (w3 ++ [33]))
        rw [← List.append_assoc]
        exact s2
    · obtain ⟨z2, f1, f2⟩ := (entersK e2 hin hd).2 hd8
      rw [if_pos hd8, f1, ob_some, if_neg (by decide)]
      exact ⟨by omega, z2, _, _, rfl, f2⟩
  rw [if_neg c33, if_neg c33]
  by_cases c40 : mHr tx L b = 40
  · have hin := mHr_in (tx := tx) (L := L) (a := b) (by omega)
    rw [if_pos c40, if_pos c40]
    rcases Nat.lt_or_ge dp 8 with hd8 | hd8
    · obtain ⟨z2, f1, f2⟩ := (entersK e2 hin hd).1 hd8
      rw [if_neg (by omega), f1, ob_some, if_pos rfl]
      unfold FX5_within
      have hu1 := anyK ht (hu hd8) z2 (b + 1) ws f2 (by omega)
      cases hm : mAny tx L mU (b + 1) with
      | inl p =>
        rw [hm] at hu1
        obtain ⟨p1, z3, b3, ws3, q1, q2⟩ := hu1
        obtain ⟨z4, b4, s1, s2⟩ := passF ht (show p < 2 ^ 31 by omega) (v := 41) (by decide) q2
        rw [show FX5_any u z2 (nI dp + 1) = some ((), z3) from q1, ob_some, s1, ob_some, if_neg (by decide), stopF (by omega) _ s2, ob_some, ob_some]
        exact ⟨p1, z4, b4, ws3, rfl, s2⟩
      | inr r =>
        obtain ⟨b3, w3⟩ := r
        rw [hm] at hu1
        obtain ⟨p1, p2, p3, z3, q1, q2⟩ := hu1
        have hsk3 := mSk_le tx L L b3 p2
        rw [show FX5_any u z2 (nI dp + 1) = some ((), z3) from q1, ob_some]
        obtain ⟨z4, y1, y2⟩ := passK (c := 41) ht (by decide) (by decide) q2
        show outK k0 tx L b ws (mb (mClose tx L 41 b3) fun b' => .inr (b', w3)) _
        unfold mClose
        by_cases c : mHr tx L (mSk tx L L b3) = 41
        · obtain ⟨g1, g2⟩ := y1 c
          have hin3 := mHr_in (tx := tx) (L := L) (a := mSk tx L L b3) (by omega)
          rw [if_pos c, show fX5_passes z3 41 = some (true, z4) from g1, ob_some, if_pos rfl, ob_some]
          exact ⟨by omega, by omega, by omega, z4, rfl, g2⟩
        · obtain ⟨g1, g2⟩ := y2 c
          obtain ⟨z5, s1, s2⟩ := stopK (p := mSk tx L L b3) g2
          rw [if_neg c, show fX5_passes z3 41 = some (false, z4) from g1, ob_some, if_neg (by decide), g2.2.2.1, s1, ob_some, ob_some]
          exact ⟨by omega, z5, _, _, rfl, s2⟩
    · obtain ⟨z2, f1, f2⟩ := (entersK e2 hin hd).2 hd8
      rw [if_pos hd8, f1, ob_some, if_neg (by decide)]
      exact ⟨by omega, z2, _, _, rfl, f2⟩
  rw [if_neg c40, if_neg c40, digK z1 hc, ob_some]
  by_cases dg : mDg (mHr tx L b) = true
  · have i0 := mDg_in dg
    rw [if_pos dg, if_neg (by omega), if_neg (by omega)]
    unfold FX5_atLeast
    have nk := numK (most := 999) ht (by decide) e2
    rw [hid] at nk
    cases hn : mNum tx L 999 b with
    | inl p =>
      rw [hn] at nk
      obtain ⟨z2, v, b2, f1, f2⟩ := nk
      have hp := mNum_inl hsk.1 hn
      obtain ⟨z3, g1, g2⟩ := skipK ht f2
      rw [show fX5_number z1 999 = some (v, z2) from f1, ob_some, g1, ob_some, hereF (by omega) g2, ob_some, if_neg (by decide), stopF (by omega) _ g2, ob_some, ob_some]
      exact ⟨by omega, z3, _, _, rfl, g2⟩
    | inr r =>
      obtain ⟨v, b2⟩ := r
      rw [hn] at nk
      obtain ⟨z2, f1, f2⟩ := nk
      have hi := mNum_inr hn
      obtain ⟨z3, g1, g2⟩ := skipK ht f2
      have hsk2 := mSk_le tx L L b2 hi.2.1
      have hc2 := mHr_lt ht (mSk tx L L b2)
      rw [show fX5_number z1 999 = some (nI v, z2) from f1, ob_some, g1, ob_some, hereK ht g2, ob_some, ifeq (show (nI (mHr tx L (mSk tx L L b2)) = 123) = (mHr tx L (mSk tx L L b2) = 123) from propext (nI_eq (b := 123) (by omega) (by decide)))]
      show outK k0 tx L b ws (if mHr tx L (mSk tx L L b2) = 123 then if 8 ≤ dp then .inl (mSk tx L L b2) else mb (mAny tx L mU (mSk tx L L b2 + 1)) fun r => mb (mComL tx L mU 160 r.1 r.2 1) fun z => mb (mClose tx L 125 z.1) fun b' => .inr (b', z.2.1 ++ [123 + 256 * (v + 1000 * z.2.2)]) else .inl (mSk tx L L b2)) _
      by_cases c : mHr tx L (mSk tx L L b2) = 123
      · have hin := mHr_in (tx := tx) (L := L) (a := mSk tx L L b2) (by omega)
        rw [if_pos c, if_pos c]
        rcases Nat.lt_or_ge dp 8 with hd8 | hd8
        · obtain ⟨z4, k1, k2⟩ := (entersK g2 hin hd).1 hd8
          rw [if_neg (by omega), k1, ob_some, if_pos rfl]
          have ha := anyK ht (hu hd8)
          have hu1 := ha z4 (mSk tx L L b2 + 1) ws k2 (by omega)
          cases hm : mAny tx L mU (mSk tx L L b2 + 1) with
          | inl p =>
            rw [hm] at hu1
            obtain ⟨p1, z5, b5, ws5, q1, q2⟩ := hu1
            obtain ⟨z6, b6, r1, r2⟩ := comF ht p1 u (nI dp) (nI v) 4999 1 0 q2
            rw [show FX5_any u z4 (nI dp + 1) = some ((), z5) from q1, ob_some, FU_g, r1, ob_some]
            exact ⟨p1, z6, b6, ws5, rfl, r2⟩
          | inr r =>
            obtain ⟨b5, w5⟩ := r
            rw [hm] at hu1
            obtain ⟨p1, p2, p3, z5, q1, q2⟩ := hu1
            rw [show FX5_any u z4 (nI dp + 1) = some ((), z5) from q1, ob_some, FU_g]
            have hk := comK (num := v) ht ha (a := b) hw2 160 4999 0 b5 1 w5 z5 (by decide) (by decide) q2 (by omega) (by omega) (by omega)
            have obid : ∀ o : Option (Unit × ST), (ob o fun r30 k31 => some ((), k31)) = o := fun o => by
              cases o with
              | none => rfl
              | some x => rfl
            rw [obid]
            exact hk
        · obtain ⟨z4, k1, k2⟩ := (entersK g2 hin hd).2 hd8
          rw [if_pos hd8, k1, ob_some, if_neg (by decide), ob_some]
          exact ⟨by omega, z4, _, _, rfl, k2⟩
      · obtain ⟨z4, s1, s2⟩ := stopK (p := mSk tx L L b2) g2
        rw [if_neg c, if_neg c, g2.2.2.1, s1, ob_some, ob_some]
        exact ⟨by omega, z4, _, _, rfl, s2⟩
  · rw [if_neg dg]
    have hnf : mNum tx L 999 b = .inl b := by
      unfold mNum
      rw [if_neg dg]
    have obid : ∀ o : Option (Unit × ST), (ob o fun r33 k34 => some ((), k34)) = o := fun o => by
      cases o with
      | none => rfl
      | some x => rfl
    rw [obid]
    unfold fX5_fact jbX5_fact_18 jbX5_fact_23
    rw [ifeq (show (nI (mHr tx L b) = 104) = (mHr tx L b = 104) from eqc 104 (by decide)), ifeq (show (nI (mHr tx L b) = 110) = (mHr tx L b = 110) from eqc 110 (by decide)), ifeq (show (nI (mHr tx L b) = 100) = (mHr tx L b = 100) from eqc 100 (by decide)), if_neg (show ¬ (1 : Int32) = 0 by decide), if_pos (show (0 : Int32) = 0 from rfl), ifeq (show (nI (mHr tx L b) = 119) = (mHr tx L b = 119) from eqc 119 (by decide))]
    have fct : mHr tx L b ≠ 0 → outK k0 tx L b ws (mb (mNum tx L 11 (mSk tx L L (b + 1))) fun r => .inr (r.2, [mHr tx L b + 256 * r.1])) (jbX5_fact_34 (nI (mHr tx L b)) 1 z1) := fun hne => factK ht e2 (mHr_in hne) hw2 (by decide) hc 1 (by decide)
    by_cases c1 : mHr tx L b = 104
    · rw [if_pos c1, if_pos (Or.inl c1)]
      exact fct (by omega)
    · rw [if_neg c1]
      by_cases c2 : mHr tx L b = 110
      · rw [if_pos c2, if_pos (Or.inr (Or.inl c2))]
        exact fct (by omega)
      · rw [if_neg c2]
        by_cases c3 : mHr tx L b = 100
        · rw [if_pos c3, if_pos (Or.inr (Or.inr c3))]
          exact fct (by omega)
        · rw [if_neg c3, if_neg (fun q => q.elim c1 (fun q => q.elim c2 c3))]
          by_cases c4 : mHr tx L b = 119
          · rw [if_pos c4, if_pos c4]
            have := factK (c := 119) ht e2 (mHr_in (tx := tx) (L := L) (a := b) (by rw [c4]; decide)) hw2 (show 999 < 1000 by decide) (by decide) 0 (by decide)
            rw [c4]
            exact this
          · obtain ⟨z2, s1, s2⟩ := stopK (p := b) e2
            rw [if_neg c4, if_neg c4, hnf, e2.2.2.1, s1, ob_some]
            exact ⟨by omega, z2, _, _, rfl, s2⟩
theorem unitsK {k0 : ST} {tx : Nat → Nat} {L : Nat} (ht : txK k0 tx L) : ∀ f dp, dp + f = 10 → 2 ≤ f → goodU k0 tx L (mUnit tx L f dp) (fun z => fX5_unit f z (nI dp))
  | 0, _, _, h => absurd h (by decide)
  | f + 1, dp, h, h2 => by
    have : goodU k0 tx L (mUnitF tx L (mUnit tx L f (dp + 1)) dp) (fun z => FX5_unit (fX5_unit f) z (nI dp)) := unitK ht (by omega) (fun hd => by
      rw [nI_1]
      exact unitsK ht f (dp + 1) (by omega) (by omega))
    exact this
