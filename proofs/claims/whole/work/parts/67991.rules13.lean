theorem ex_nI (x : Int32) : ∃ d, x = nI d := ⟨x.toBitVec.toNat, Int32.toBitVec_inj.mp (by show x.toBitVec = BitVec.ofNat 32 x.toBitVec.toNat; simp)⟩
theorem rdM.deepX {y0 y : ST} {ref fa : Int32} {bs L a dp : Nat} (x : Int32) (h : rdM y0 ref bs L fa y a dp) : ∃ dq, rdM y0 ref bs L fa (sI y 11 57 x) a dq := by
  obtain ⟨d, rfl⟩ := ex_nI x
  exact ⟨d, h.deep⟩
theorem factM {y0 y : ST} {ref : Int32} {bs L dp b c : Nat} {tx : Nat → Nat} {E : List Nat → Bool → Prop} {En : List Nat → Nat → Nat → Prop} (ht : txM y0 ref bs tx L) (hl : laws y0 E En) (u : ST → Option (Bool × ST)) (h : rdM y0 ref bs L (-1) y b dp) (hb : b < L) (hc : c = 104 ∨ c = 110 ∨ c = 100) :
    outM y0 ref bs L b dp E (mb (mNum tx L 11 (mSk tx L L (b + 1))) fun r => .inr (r.2, [c + 256 * r.1])) (jbX12_unit_106 u (nI c) y) := by
  have hL := ht.1
  have r1 := h.at (b := b + 1) (by omega)
  have nk := numM (most := 11) ht (by decide) r1
  have hsk := mSk_le tx L L (b + 1) (by omega)
  unfold jbX12_unit_106
  rw [nm_eq, h.2.2.2.2.1, nI_1]
  cases hn : mNum tx L 11 (mSk tx L L (b + 1)) with
  | inl p =>
    rw [hn] at nk
    obtain ⟨y', v, b', e1, e2⟩ := nk
    have hp := mNum_inl hsk.1 hn
    rw [show fX12_number (sI y 11 55 (nI (b + 1))) 11 = some (v, y') from e1, ob_some, e2.2.2.2.2.2.1, if_neg (nI_ne_m1 (by omega))]
    exact ⟨by omega, y', false, b', dp, rfl, e2⟩
  | inr r =>
    obtain ⟨v, b'⟩ := r
    rw [hn] at nk
    obtain ⟨y', e1, e2⟩ := nk
    have hi := mNum_inr hn
    rw [show fX12_number (sI y 11 55 (nI (b + 1))) 11 = some (nI v, y') from e1, ob_some, e2.2.2.2.2.2.1, if_pos rfl]
    rcases hc with rfl | rfl | rfl
    · obtain ⟨s, s1, s2, s3⟩ := hl.2.2.2.2.2.2.1 y' v e2.1 hi.2.2.1
      rw [if_neg (show ¬ nI 104 = 100 by decide), s1, ob_some, if_pos (show nI 104 = 104 from rfl)]
      refine ⟨by omega, hi.2.1, y', decide (s = 1), ?_, e2, s2⟩
      by_cases z : s = 1
      · rw [if_pos z, decide_eq_true z]
      · rw [if_neg z, decide_eq_false z]
    · obtain ⟨s, s1, s2, s3⟩ := hl.2.2.2.2.2.2.1 y' v e2.1 hi.2.2.1
      rw [if_neg (show ¬ nI 110 = 100 by decide), s1, ob_some, if_neg (show ¬ nI 110 = 104 by decide)]
      refine ⟨by omega, hi.2.1, y', decide (s = 0), ?_, e2, s3⟩
      by_cases z : s = 0
      · rw [if_pos z, decide_eq_true z]
      · rw [if_neg z, decide_eq_false z]
    · obtain ⟨x, s1, s2⟩ := hl.2.2.2.2.2.2.2.1 y' v e2.1 hi.2.2.1
      rw [if_pos (show nI 100 = 100 from rfl)]
      exact ⟨by omega, hi.2.1, y', x, s1, e2, s2⟩
theorem unitM {y0 : ST} {ref : Int32} {bs L dp : Nat} {tx : Nat → Nat} {E : List Nat → Bool → Prop} {En : List Nat → Nat → Nat → Prop} (ht : txM y0 ref bs tx L) (hl : laws y0 E En) (hd : dp ≤ 8) {mU : Nat → Nat ⊕ (Nat × List Nat)} {u : ST → Option (Bool × ST)} (hu : dp < 8 → goodM y0 ref bs L (dp + 1) E mU (fun z => u z)) : goodM y0 ref bs L dp E (mUnitF tx L mU dp) (fun z => FX12_unit u z) := by
  intro y a h
  have hL := ht.1
  have haL : a ≤ L := h.2.2.2.2.2.2.2
  obtain ⟨y1, e1, e2⟩ := lookM ht h
  have hsk := mSk_le tx L L a haL
  have hid := mSk_idem tx L L L a (by omega)
  show outM y0 ref bs L a dp E (mUnitF tx L mU dp a) (FX12_unit u y)
  unfold FX12_unit mUnitF
  rw [e1, ob_some]
  have lift : ∀ r o, outM y0 ref bs L (mSk tx L L a) dp E r o → outM y0 ref bs L a dp E r o := fun r o ho => by
    cases r with
    | inl p => exact ho
    | inr r =>
      obtain ⟨b, w⟩ := r
      obtain ⟨o1, o2, o3⟩ := ho
      exact ⟨by omega, o2, o3⟩
  refine lift _ _ ?_
  have eqc : ∀ v, 1 ≤ v → v < 256 → ((if mSk tx L L a < L then nI (tx (mSk tx L L a)) else -1) = nI v) = (mHr tx L (mSk tx L L a) = v) := fun v h1 h2 => lk_eq ht (mSk tx L L a) h1 h2
  clear e1 lift
  generalize mSk tx L L a = b at *
  generalize (if b < L then nI (tx b) else -1) = lk at *
  rw [ifeq (show (lk = 33) = (mHr tx L b = 33) from eqc 33 (by decide) (by decide)), ifeq (show (lk = 40) = (mHr tx L b = 40) from eqc 40 (by decide) (by decide)), ifeq (show (lk = 104) = (mHr tx L b = 104) from eqc 104 (by decide) (by decide)), ifeq (show (lk = 110) = (mHr tx L b = 110) from eqc 110 (by decide) (by decide)), ifeq (show (lk = 100) = (mHr tx L b = 100) from eqc 100 (by decide) (by decide)), ifeq (show (lk = 119) = (mHr tx L b = 119) from eqc 119 (by decide) (by decide))]
  by_cases c33 : mHr tx L b = 33
  · have hin := mHr_in (tx := tx) (L := L) (a := b) (by omega)
    rw [if_pos c33, if_pos c33]
    rcases Nat.lt_or_ge dp 8 with hd8 | hd8
    · obtain ⟨y2, f1, f2⟩ := (goesM e2 hin hd).1 hd8
      rw [if_neg (by omega), f1, ob_some, if_pos rfl]
      have hu1 := hu hd8 y2 (b + 1) f2
      cases hm : mU (b + 1) with
      | inl p =>
        rw [hm] at hu1
        obtain ⟨p1, y3, v3, b3, dq, q1, q2⟩ := hu1
        rw [show u y2 = some (v3, y3) from q1, ob_some, nm_eq]
        obtain ⟨dr, q3⟩ := q2.deepX (gI y3 11 57 - 1)
        exact ⟨p1, _, !v3, b3, dr, by cases v3 <;> rfl, q3⟩
      | inr r =>
        obtain ⟨b3, w3⟩ := r
        rw [hm] at hu1
        obtain ⟨p1, p2, y3, v3, q1, q2, q3⟩ := hu1
        rw [show u y2 = some (v3, y3) from q1, ob_some, nm_eq, q2.2.2.2.2.2.2.1, show nI (dp + 1) - 1 = nI dp from pk_sub (b := 1) (by omega)]
        exact ⟨by omega, p2, sI y3 11 57 (nI dp), !v3, by cases v3 <;> rfl, q2.deep, hl.1 w3 v3 q3⟩
    · obtain ⟨y2, f1, f2⟩ := (goesM e2 hin hd).2 hd8
      rw [if_pos hd8, f1, ob_some, if_neg (by decide)]
      exact ⟨by omega, y2, _, _, _, rfl, f2⟩
  rw [if_neg c33, if_neg c33]
  by_cases c40 : mHr tx L b = 40
  · have hin := mHr_in (tx := tx) (L := L) (a := b) (by omega)
    rw [if_pos c40, if_pos c40]
    rcases Nat.lt_or_ge dp 8 with hd8 | hd8
    · obtain ⟨y2, f1, f2⟩ := (goesM e2 hin hd).1 hd8
      rw [if_neg (by omega), f1, ob_some, if_pos rfl]
      have hu1 := anyM ht hl.2.1 hl.2.2.1 (hu hd8) y2 (b + 1) f2
      cases hm : mAny tx L mU (b + 1) with
      | inl p =>
        rw [hm] at hu1
        obtain ⟨p1, y3, v3, b3, dq, q1, q2⟩ := hu1
        rw [show FX12_any u y2 = some (v3, y3) from q1, ob_some, takesMF p1 _ q2, ob_some, if_neg (by decide)]
        exact ⟨p1, y3, _, b3, dq, rfl, q2⟩
      | inr r =>
        obtain ⟨b3, w3⟩ := r
        rw [hm] at hu1
        obtain ⟨p1, p2, y3, v3, q1, q2, q3⟩ := hu1
        have hsk3 := mSk_le tx L L b3 p2
        have tk := takesM (c := 41) ht (by decide) (by decide) q2
        rw [show FX12_any u y2 = some (v3, y3) from q1, ob_some]
        show outM y0 ref bs L b dp E (mb (mClose tx L 41 b3) fun b' => .inr (b', w3)) _
        unfold mClose
        by_cases c : mHr tx L (mSk tx L L b3) = 41
        · obtain ⟨y4, g1, g2⟩ := tk.1 c
          have hin3 := mHr_in (tx := tx) (L := L) (a := mSk tx L L b3) (by omega)
          rw [if_pos c, show fX12_takes y3 41 = some (true, y4) from g1, ob_some, if_pos rfl, nm_eq, g2.2.2.2.2.2.2.1, show nI (dp + 1) - 1 = nI dp from pk_sub (b := 1) (by omega)]
          exact ⟨by omega, by omega, sI y4 11 57 (nI dp), v3, rfl, g2.deep, q3⟩
        · obtain ⟨y4, g1, g2⟩ := tk.2 c
          rw [if_neg c, show fX12_takes y3 41 = some (false, y4) from g1, ob_some, if_neg (by decide)]
          exact ⟨by omega, y4, _, _, _, rfl, g2⟩
    · obtain ⟨y2, f1, f2⟩ := (goesM e2 hin hd).2 hd8
      rw [if_pos hd8, f1, ob_some, if_neg (by decide)]
      exact ⟨by omega, y2, _, _, _, rfl, f2⟩
  rw [if_neg c40, if_neg c40]
  by_cases c1 : mHr tx L b = 104
  · have hlk : lk = nI 104 := (eqc 104 (by decide) (by decide)).mpr c1
    have hin := mHr_in (tx := tx) (L := L) (a := b) (by omega)
    rw [if_pos (Or.inl c1), if_pos c1, hlk, c1]
    exact factM ht hl u e2 hin (Or.inl rfl)
  by_cases c2 : mHr tx L b = 110
  · have hlk : lk = nI 110 := (eqc 110 (by decide) (by decide)).mpr c2
    have hin := mHr_in (tx := tx) (L := L) (a := b) (by omega)
    rw [if_pos (Or.inr (Or.inl c2)), if_neg c1, if_pos c2, hlk, c2]
    exact factM ht hl u e2 hin (Or.inr (Or.inl rfl))
  by_cases c3 : mHr tx L b = 100
  · have hlk : lk = nI 100 := (eqc 100 (by decide) (by decide)).mpr c3
    have hin := mHr_in (tx := tx) (L := L) (a := b) (by omega)
    rw [if_pos (Or.inr (Or.inr c3)), if_neg c1, if_neg c2, if_pos c3, hlk, c3]
    exact factM ht hl u e2 hin (Or.inr (Or.inr rfl))
  rw [if_neg (fun q => q.elim c1 (fun q => q.elim c2 c3)), if_neg c1, if_neg c2, if_neg c3]
  by_cases c4 : mHr tx L b = 119
  · have hin := mHr_in (tx := tx) (L := L) (a := b) (by omega)
    have r1 := e2.at (b := b + 1) (by omega)
    have nk := numM (most := 999) ht (by decide) r1
    have hsk1 := mSk_le tx L L (b + 1) (by omega)
    rw [if_pos c4, if_pos c4, nm_eq, e2.2.2.2.2.1, nI_1]
    cases hn : mNum tx L 999 (mSk tx L L (b + 1)) with
    | inl p =>
      rw [hn] at nk
      obtain ⟨y', v, b', f1, f2⟩ := nk
      have hp := mNum_inl hsk1.1 hn
      rw [show fX12_number (sI y1 11 55 (nI (b + 1))) 999 = some (v, y') from f1, ob_some, f2.2.2.2.2.2.1, if_neg (nI_ne_m1 (by omega))]
      exact ⟨by omega, y', false, b', dp, rfl, f2⟩
    | inr r =>
      obtain ⟨v, b'⟩ := r
      rw [hn] at nk
      obtain ⟨y', f1, f2⟩ := nk
      have hi := mNum_inr hn
      rw [show fX12_number (sI y1 11 55 (nI (b + 1))) 999 = some (nI v, y') from f1, ob_some, f2.2.2.2.2.2.1, if_pos rfl]
      obtain ⟨x, s1, s2⟩ := hl.2.2.2.2.2.2.2.2 y' v f2.1 hi.2.2.1
      exact ⟨by omega, hi.2.1, y', x, s1, f2, s2⟩
  rw [if_neg c4, if_neg c4]
  have nk := numM (most := 999) ht (by decide) e2
  rw [hid] at nk
  cases hn : mNum tx L 999 b with
  | inl p =>
    rw [hn] at nk
    obtain ⟨y2, v, b2, f1, f2⟩ := nk
    have hp := mNum_inl hsk.1 hn
    rw [show fX12_number y1 999 = some (v, y2) from f1, ob_some, f2.2.2.2.2.2.1, if_neg (nI_ne_m1 (by omega)), stopMF (by omega) f2, ob_some]
    exact ⟨by omega, y2, _, _, _, rfl, f2⟩
  | inr r =>
    obtain ⟨v, b2⟩ := r
    rw [hn] at nk
    obtain ⟨y2, f1, f2⟩ := nk
    have hi := mNum_inr hn
    obtain ⟨y3, g1, g2⟩ := lookM ht f2
    have hsk2 := mSk_le tx L L b2 hi.2.1
    rw [show fX12_number y1 999 = some (nI v, y2) from f1, ob_some, f2.2.2.2.2.2.1, if_pos rfl, g1, ob_some, ifeq (show ((if mSk tx L L b2 < L then nI (tx (mSk tx L L b2)) else -1) = 123) = (mHr tx L (mSk tx L L b2) = 123) from lk_eq ht (mSk tx L L b2) (c := 123) (by decide) (by decide))]
    show outM y0 ref bs L b dp E (if mHr tx L (mSk tx L L b2) = 123 then if 8 ≤ dp then .inl (mSk tx L L b2) else mb (mAny tx L mU (mSk tx L L b2 + 1)) fun r => mb (mComL tx L mU 160 r.1 r.2 1) fun z => mb (mClose tx L 125 z.1) fun b' => .inr (b', z.2.1 ++ [123 + 256 * (v + 1000 * z.2.2)]) else .inl (mSk tx L L b2)) _
    by_cases c : mHr tx L (mSk tx L L b2) = 123
    · have hin := mHr_in (tx := tx) (L := L) (a := mSk tx L L b2) (by omega)
      rw [if_pos c, if_pos c]
      rcases Nat.lt_or_ge dp 8 with hd8 | hd8
      · obtain ⟨y4, k1, k2⟩ := (goesM g2 hin hd).1 hd8
        rw [if_neg (by omega), k1, ob_some, if_pos rfl]
        have ha := anyM ht hl.2.1 hl.2.2.1 (hu hd8)
        have hu1 := ha y4 (mSk tx L L b2 + 1) k2
        cases hm : mAny tx L mU (mSk tx L L b2 + 1) with
        | inl p =>
          rw [hm] at hu1
          obtain ⟨p1, y5, v5, b5, dq, q1, q2⟩ := hu1
          rw [show FX12_any u y4 = some (v5, y5) from q1, ob_some]
          have fin : ∀ x, jbX12_unit_290 u lk (nI v) x y5 = some (false, y5) := fun x => by
            unfold jbX12_unit_290
            rw [FU_g, lpX12_unit_291, q2.2.2.2.2.2.1, if_neg (nI_ne_m1 (by omega))]
            unfold jbX12_unit_336
            rw [takesMF p1 _ q2, ob_some, if_neg (by decide)]
          rw [fin, fin, ite_self]
          exact ⟨p1, y5, _, _, _, rfl, q2⟩
        | inr r =>
          obtain ⟨b5, w5⟩ := r
          rw [hm] at hu1
          obtain ⟨p1, p2, y5, v5, q1, q2, q3⟩ := hu1
          rw [show FX12_any u y4 = some (v5, y5) from q1, ob_some]
          have en := hl.2.2.2.1 w5 v5 q3
          unfold jbX12_unit_290
          rw [FU_g]
          cases v5
          · rw [if_neg (by decide)]
            exact comM ht hl ha hi.2.2.1 lk 160 4999 0 b5 1 0 w5 y5 (by decide) (by decide) q2 (by omega) (by omega) (by decide) en
          · rw [if_pos rfl]
            exact comM ht hl ha hi.2.2.1 lk 160 4999 0 b5 1 1 w5 y5 (by decide) (by decide) q2 (by omega) (by omega) (by decide) en
      · obtain ⟨y4, k1, k2⟩ := (goesM g2 hin hd).2 hd8
        rw [if_pos hd8, k1, ob_some, if_neg (by decide)]
        exact ⟨by omega, y4, _, _, _, rfl, k2⟩
    · obtain ⟨y4, s1, s2⟩ := stopM g2
      rw [if_neg c, if_neg c, s1, ob_some]
      exact ⟨by omega, y4, _, _, _, rfl, s2⟩
theorem unitsM {y0 : ST} {ref : Int32} {bs L : Nat} {tx : Nat → Nat} {E : List Nat → Bool → Prop} {En : List Nat → Nat → Nat → Prop} (ht : txM y0 ref bs tx L) (hl : laws y0 E En) : ∀ f dp, dp + f = 10 → 2 ≤ f → goodM y0 ref bs L dp E (mUnit tx L f dp) (fun z => fX12_unit f z)
  | 0, _, _, h => absurd h (by decide)
  | f + 1, dp, h, h2 => by
    have : goodM y0 ref bs L dp E (mUnitF tx L (mUnit tx L f (dp + 1)) dp) (fun z => FX12_unit (fX12_unit f) z) := unitM ht hl (by omega) (fun hd => unitsM ht hl f (dp + 1) (by omega) (by omega))
    exact this
theorem mAnyL_sk (tx : Nat → Nat) (L : Nat) (u : Nat → Nat ⊕ (Nat × List Nat)) : ∀ f a ws b w, mAnyL tx L u f a ws = .inr (b, w) → mSk tx L L b = b
  | 0, a, ws, b, w, h => by
    have h : (Sum.inr (mSk tx L L a, ws) : Nat ⊕ (Nat × List Nat)) = .inr (b, w) := h
    injection h with h
    injection h with h1 h2
    rw [← h1]
    exact mSk_idem tx L L L a (by omega)
  | f + 1, a, ws, b, w, h => by
    unfold mAnyL at h
    by_cases c : mHr tx L (mSk tx L L a) = 124
    · rw [if_pos c] at h
      cases hm : mAll tx L u (mSk tx L L a + 1) with
      | inl p =>
        rw [hm] at h
        cases h
      | inr r =>
        rw [hm] at h
        exact mAnyL_sk tx L u f r.1 (ws ++ r.2 ++ [124]) b w h
    · rw [if_neg c] at h
      injection h with h
      injection h with h1 h2
      rw [← h1]
      exact mSk_idem tx L L L a (by omega)
theorem mAny_sk {tx : Nat → Nat} {L : Nat} {u : Nat → Nat ⊕ (Nat × List Nat)} {a b : Nat} {w : List Nat} (h : mAny tx L u a = .inr (b, w)) : mSk tx L L b = b := by
  unfold mAny at h
  cases hm : mAll tx L u a with
  | inl p =>
    rw [hm] at h
    cases h
  | inr r =>
    rw [hm] at h
    exact mAnyL_sk tx L u 160 r.1 r.2 b w h
/-- the model goes through a text -/
theorem goM {y : ST} {ref : Int32} {bs L : Nat} {tx : Nat → Nat} {E : List Nat → Bool → Prop} {En : List Nat → Nat → Nat → Prop} (ht : txM y ref bs tx L) (hl : laws y E En) : ∃ (y' : ST) (v : Bool), fX12_goThrough y ref (nI bs) (nI L) = some (v, y') ∧ isQ y y' ∧ match mRule tx L with
    | .inl p => p ≤ 160 ∧ gI y' 11 56 = nI p
    | .inr ws => gI y' 11 56 = -1 ∧ E ws v := by
  have hL := ht.1
  have r0 : rdM y ref bs L (-1) (sI (sI (sI (sI (sI (sI y 11 52 ref) 11 53 (nI bs)) 11 54 (nI L)) 11 55 0) 11 56 (-1)) 11 57 0) 0 0 := ⟨((((((isQ.rf y).sI _ (by decide) (by decide)).sI _ (by decide) (by decide)).sI _ (by decide) (by decide)).sI _ (by decide) (by decide)).sI _ (by decide) (by decide)).sI _ (by decide) (by decide), rfl, rfl, rfl, rfl, rfl, rfl, Nat.zero_le L⟩
  have hany := anyM ht hl.2.1 hl.2.2.1 (unitsM ht hl 10 0 (by decide) (by decide)) _ 0 r0
  unfold fX12_goThrough mRule
  rw [nm_eq, nm_eq, nm_eq, nm_eq, nm_eq, nm_eq]
  unfold fX12_any
  cases hm : mAny tx L (mUnit tx L 10 0) 0 with
  | inl p =>
    rw [hm] at hany
    obtain ⟨p1, y2, v2, b2, dq, q1, q2⟩ := hany
    refine ⟨y2, v2, ?_, q2.1, p1, q2.2.2.2.2.2.1⟩
    rw [show FX12_any (fX12_unit 10) (sI (sI (sI (sI (sI (sI y 11 52 ref) 11 53 (nI bs)) 11 54 (nI L)) 11 55 0) 11 56 (-1)) 11 57 0) = some (v2, y2) from q1, ob_some, q2.2.2.2.2.2.1, if_neg (nI_ne_m1 (by omega))]
  | inr r =>
    obtain ⟨b2, w2⟩ := r
    have hb := mAny_sk hm
    rw [hm] at hany
    obtain ⟨p1, p2, y2, v2, q1, q2, q3⟩ := hany
    obtain ⟨y3, g1, g2⟩ := lookM ht q2
    rw [hb] at g1 g2
    rw [show FX12_any (fX12_unit 10) (sI (sI (sI (sI (sI (sI y 11 52 ref) 11 53 (nI bs)) 11 54 (nI L)) 11 55 0) 11 56 (-1)) 11 57 0) = some (v2, y2) from q1, ob_some, q2.2.2.2.2.2.1, if_pos rfl, g1, ob_some]
    rw [show (mb (Sum.inr (b2, w2) : Nat ⊕ (Nat × List Nat)) fun r => if r.1 < L then (.inl r.1 : Nat ⊕ List Nat) else .inr r.2) = if b2 < L then .inl b2 else .inr w2 from rfl]
    by_cases c : b2 < L
    · have hc := (ht.2.2.2.2 b2 c).2.1
      obtain ⟨y4, s1, s2⟩ := stopM g2
      rw [if_pos c, if_pos c, if_neg (nI_ne_m1 (by omega)), s1, ob_some]
      exact ⟨y4, v2, rfl, s2.1, by omega, s2.2.2.2.2.2.1⟩
    · rw [if_neg c, if_neg c, if_pos rfl]
      exact ⟨y3, v2, rfl, g2.1, g2.2.2.2.2.2.1, q3⟩
