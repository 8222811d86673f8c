/-! RULES of things -/
def bsN (B : Nat → Bool) : Nat → Nat
  | 0 => 0
  | i + 1 => if B i = true then bsN B i ||| 2 ^ i else bsN B i
theorem bsN_lt (B : Nat → Bool) : ∀ i, bsN B i < 2 ^ i
  | 0 => by show 0 < 2 ^ 0; decide
  | i + 1 => by
    have ih := bsN_lt B i
    have h2 : 2 ^ i < 2 ^ (i + 1) := Nat.pow_lt_pow_right (by decide) (Nat.lt_succ_self i)
    unfold bsN
    split
    · exact Nat.or_lt_two_pow (Nat.lt_trans ih h2) h2
    · exact Nat.lt_trans ih h2
theorem bsN_bit (B : Nat → Bool) (x : Nat) : ∀ i, (bsN B i).testBit x = (decide (x < i) && B x)
  | 0 => by
    show (0 : Nat).testBit x = _
    rw [Nat.zero_testBit, decide_eq_false (Nat.not_lt_zero x)]
    rfl
  | i + 1 => by
    have ih := bsN_bit B x i
    unfold bsN
    by_cases c : B i = true
    · rw [if_pos c, fb_bit_set, ih]
      by_cases e : x = i
      · rw [e, decide_eq_true rfl, c, decide_eq_true (Nat.lt_succ_self i), Bool.or_true]
        rfl
      · rw [decide_eq_false e, Bool.or_false]
        by_cases l : x < i
        · rw [decide_eq_true l, decide_eq_true (show x < i + 1 by omega)]
        · rw [decide_eq_false l, decide_eq_false (show ¬ x < i + 1 by omega)]
    · rw [if_neg c, ih]
      by_cases e : x = i
      · rw [e, decide_eq_false (Nat.lt_irrefl i)]
        cases hb : B i
        · rw [Bool.and_false, Bool.and_false]
        · exact absurd hb c
      · by_cases l : x < i
        · rw [decide_eq_true l, decide_eq_true (show x < i + 1 by omega)]
        · rw [decide_eq_false l, decide_eq_false (show ¬ x < i + 1 by omega)]
theorem holdsTh {k n : ST} {d h kc rc dc tc sc a q x r : Nat} (hB : gB d h k n) (hR : gRule rc k n) (hD : gDeath dc h rc d k n) (hT : gThing tc kc rc d k n) (hS : gSay sc h tc d k n) (ha : a ≤ 2000) (hx : x < tc) (hr : r < rc) (hto : gA k 45 x = nI r) : ∃ b : Bool,
    (∃ z', fX11_ruleHolds k (nI x) (nI a) (nI q) = some (b, z') ∧ isS k z') ∧ ∃ y', fX12_holdsFor n (nI x) (nI a) (nI q) = some (b, y') ∧ isM n y' := by
  obtain ⟨b1, b2, b3, b4, b5, b6⟩ := hB
  obtain ⟨t1, t2, t3, t4, t5, t6, t7, t8, t9, t10⟩ := id hT
  obtain ⟨B, B1, B2, B3⟩ := deadAll (q := q) b1 b4 t1 hR hD hS ha
  obtain ⟨ws, cl, mo⟩ := ruleOf hR hr
  have hu := min_le (nI a) (nI q)
  have hV := voLt b4 hS (nI x) (if nI q < nI a then nI q else nI a)
  have hsd := fun z (hz : z < 12) => said (o := nI x) (u := if nI q < nI a then nI q else nI a) (D := 0) (O := nI x) (T := nI a) (S := nI q) b4 hS (abT b4 t1 hS hx) hu hz sc (Nat.le_refl _)
  have hds : bsN B h < 2 ^ 31 := Nat.lt_of_lt_of_le (bsN_lt B h) (Nat.le_trans (pow_le12 b4) (by decide))
  have hdb : ∀ z, z < 12 → (bsN B h).testBit z = B z := fun z hz => by
    rw [bsN_bit]
    by_cases c : z < h
    · rw [decide_eq_true c, Bool.true_and]
    · rw [decide_eq_false c, Bool.false_and, B2 z hz (by omega)]
  have g1 : inb (nI x) 40 = true := inb_nI (by omega) (by decide)
  have g2 : ix (nI x) = x := ix_nI (by omega)
  -- the class's loop
  have lp : ∀ (cont : Int32 → Int32 → ST → Option (Bool × ST)) (r g i : Nat) (z : ST), i + r = h → r + 1 ≤ g → isS k z → ∃ z', lpX11_ruleHolds_13 (nI x) (nI a) (nI q) (if nI q < nI a then nI q else nI a) g (nI (bsN B i)) (nI i) z cont = cont (nI (bsN B h)) (nI h) z' ∧ isS k z' := by
    intro cont r
    induction r with
    | zero =>
      intro g i z hi hg hs
      obtain ⟨g, rfl⟩ : ∃ z, g = z + 1 := ⟨g - 1, by omega⟩
      have : i = h := by omega
      subst this
      rw [lpX11_ruleHolds_13, hs.i 10 1 (by decide) (fun e => absurd e (by decide)), b5, if_pos (nI_le (Nat.le_refl _) (by omega))]
      exact ⟨z, rfl, hs⟩
    | succ r ih =>
      intro g i z hi hg hs
      obtain ⟨g, rfl⟩ : ∃ z, g = z + 1 := ⟨g - 1, by omega⟩
      obtain ⟨z1, e1, e2⟩ := B1 i (by omega) z hs
      rw [lpX11_ruleHolds_13, hs.i 10 1 (by decide) (fun e => absurd e (by decide)), b5, if_neg (nI_ge (by omega) (by omega)), e1, ob_some, shl1 i (by omega), fa_or, nI_1]
      obtain ⟨z2, f1, f2⟩ := ih g (i + 1) z1 (by omega) (by omega) e2
      refine ⟨z2, ?_, f2⟩
      rw [show bsN B (i + 1) = if B i = true then bsN B i ||| 2 ^ i else bsN B i from rfl] at f1
      by_cases c : B i = true
      · rw [if_pos c] at f1 ⊢
        exact f1
      · rw [if_neg c] at f1 ⊢
        exact f1
  -- the rule itself
  have fin : ∀ (f wt : Int32), ((f = -1 ∧ wt.toInt = -1) ∨ ∃ e : Nat, e ≤ a ∧ f = nI e ∧ wt.toInt = (a : Int) - e) → ∃ b : Bool, (∀ v z, isS k z → ∃ z', jbX11_ruleHolds_80 (nI x) (nI a) (nI q) (if nI q < nI a then nI q else nI a) (nI (bsN B h)) v wt z = some (b, z') ∧ isS k z') ∧
      ∀ Y, isM n Y → gI Y 11 62 = 0 → gI Y 11 58 = nI x → gI Y 11 59 = nI a → gI Y 11 60 = nI q → gI Y 11 61 = f → (∀ z, z < 12 → gA Y 138 z = b2i (B z)) → ∃ y', fX12_holds Y (gA Y 129 x) = some (b, y') ∧ isM n y' := by
    intro f wt hw
    refine ⟨(evs (vcS (gA k 30) (gA k 31) (gA k 32) (gA k 33) (nI x) (if nI q < nI a then nI q else nI a) sc % 4096) (vcS (gA k 30) (gA k 31) (gA k 32) (gA k 33) (nI x) (if nI q < nI a then nI q else nI a) sc / 4096) (bsN B h) wt.toInt ws []).headD false, fun v z hs => ?_, fun Y hY Y62 Y58 Y59 Y60 Y61 Y138 => ?_⟩
    · have hS' : gSay sc h tc d z n := by
        rw [hs.eq]
        exact hS
      obtain ⟨z', f1, f2⟩ := cl z (vcS (gA k 30) (gA k 31) (gA k 32) (gA k 33) (nI x) (if nI q < nI a then nI q else nI a) sc) (bsN B h) wt hs hV hds
      unfold jbX11_ruleHolds_80
      rw [g1, ck_true, voicesK b4 hS', ob_some, g2, hs.a 30 rfl, hs.a 31 rfl, hs.a 32 rfl, hs.a 33 rfl, hs.a 45 rfl, hto, f1, ob_some]
      exact ⟨z', rfl, f2⟩
    · obtain ⟨y', f1, f2⟩ := mo Y _ _ _ _ hY (lawsE (ys := vcS (gA k 30) (gA k 31) (gA k 32) (gA k 33) (nI x) (if nI q < nI a then nI q else nI a) sc % 4096) (no := vcS (gA k 30) (gA k 31) (gA k 32) (gA k 33) (nI x) (if nI q < nI a then nI q else nI a) sc / 4096) (ds := bsN B h) (wt := wt.toInt) hS.1 (by rw [hY.i 11 51 (fun _ => rfl)]; exact hS.2.2.1) (fun z hz => by
          rw [hY.a 131 (by decide) (by decide), hY.a 137 (by decide) (by decide), hY.a 132 (by decide) (by decide), hY.a 136 (by decide) (by decide), hY.a 133 (by decide) (by decide), tb_lo hz, tb_hi, Y62, Y58, Y59, Y60]
          exact hsd z hz) (Or.inl ⟨Y62, fun z hz => by rw [hdb z hz]; exact Y138 z hz⟩) (by
          rcases hw with ⟨w1, w2⟩ | ⟨e, e1, e2, e3⟩
          · exact Or.inl ⟨Y61.trans w1, w2⟩
          · exact Or.inr ⟨a, e, e1, ha, Y59, Y61.trans e2, e3⟩))
      rw [hY.a 129 (by decide) (by decide), t5, hto, f1]
      exact ⟨y', rfl, f2.isM hY⟩
  obtain ⟨y1, m1, m2, m3, m4, m5⟩ := B3 n (isM.rf n)
  have mD : isM n (sI (sI y1 11 62 0) 11 58 (nI x)) := (m2.sI _ rfl).sI _ rfl
  have r130 : gA (sI (sI y1 11 62 0) 11 58 (nI x)) 130 = gA k 47 := (mD.a 130 (by decide) (by decide)).trans t7
  -- the model with its first day
  have mfin : ∀ (f : Int32) (b : Bool), (∀ Y, isM n Y → gI Y 11 62 = 0 → gI Y 11 58 = nI x → gI Y 11 59 = nI a → gI Y 11 60 = nI q → gI Y 11 61 = f → (∀ z, z < 12 → gA Y 138 z = b2i (B z)) → ∃ y', fX12_holds Y (gA Y 129 x) = some (b, y') ∧ isM n y') → ∃ y', (ob (fX12_holds (sI (sI (sI y1 11 62 0) 11 58 (nI x)) 11 61 f) (gA (sI (sI (sI y1 11 62 0) 11 58 (nI x)) 11 61 f) 129 x)) fun r k => some (r, k)) = some (b, y') ∧ isM n y' := fun f b H => by
    obtain ⟨y', e1, e2⟩ := H _ (mD.sI (f := 61) f rfl) rfl rfl m3 m4 rfl m5
    rw [e1, ob_some]
    exact ⟨y', rfl, e2⟩
  unfold fX11_ruleHolds fX12_holdsFor
  rw [min_of, ob_some, FU_g, m1, ob_some]
  simp only [nm_eq, g1, ck_true, g2, r130]
  have lp0 := fun cont => lp cont h (4999 + 1) 0 k (by omega) (by omega) (isS.rf k)
  obtain ⟨z1, l1, l2⟩ := lp0 (fun y9 y10 k11 => if (gA k11 47 x) = (-1) then jbX11_ruleHolds_72 (nI x) (nI a) (nI q) (if nI q < nI a then nI q else nI a) y9 (gA k11 47 x) k11 else if (gA k11 47 x) ≤ (if nI q < nI a then nI q else nI a) then jbX11_ruleHolds_80 (nI x) (nI a) (nI q) (if nI q < nI a then nI q else nI a) y9 (gA k11 47 x) ((nI a) - (gA k11 47 x)) k11 else jbX11_ruleHolds_72 (nI x) (nI a) (nI q) (if nI q < nI a then nI q else nI a) y9 (gA k11 47 x) k11)
  rw [show lpX11_ruleHolds_13 (nI x) (nI a) (nI q) (if nI q < nI a then nI q else nI a) (4999 + 1) 0 0 k (fun y9 y10 k11 => if (gA k11 47 x) = (-1) then jbX11_ruleHolds_72 (nI x) (nI a) (nI q) (if nI q < nI a then nI q else nI a) y9 (gA k11 47 x) k11 else if (gA k11 47 x) ≤ (if nI q < nI a then nI q else nI a) then jbX11_ruleHolds_80 (nI x) (nI a) (nI q) (if nI q < nI a then nI q else nI a) y9 (gA k11 47 x) ((nI a) - (gA k11 47 x)) k11 else jbX11_ruleHolds_72 (nI x) (nI a) (nI q) (if nI q < nI a then nI q else nI a) y9 (gA k11 47 x) k11) = _ from l1]
  unfold jbX11_ruleHolds_72
  rw [l2.a 47 rfl]
  rcases (t9 x hx).2.2.1 with e | ⟨e, e1, e2⟩
  · obtain ⟨b, c1, c2⟩ := fin (-1) (-1) (Or.inl ⟨rfl, toInt_m1⟩)
    rw [e, if_pos rfl, if_pos rfl]
    exact ⟨b, c1 _ z1 l2, mfin (-1) b c2⟩
  · rw [e2, if_neg (nI_ne_m1 (by omega)), if_neg (nI_ne_m1 (by omega))]
    by_cases c1 : nI a < nI e
    · obtain ⟨b, d1, d2⟩ := fin (-1) (-1) (Or.inl ⟨rfl, toInt_m1⟩)
      rw [if_neg (fun z => ((hu (nI e)).mp z).1 c1), if_pos c1]
      exact ⟨b, d1 _ z1 l2, mfin (-1) b d2⟩
    by_cases c2 : nI q < nI e
    · obtain ⟨b, d1, d2⟩ := fin (-1) (-1) (Or.inl ⟨rfl, toInt_m1⟩)
      rw [if_neg (fun z => ((hu (nI e)).mp z).2 c2), if_neg c1, if_pos c2]
      exact ⟨b, d1 _ z1 l2, mfin (-1) b d2⟩
    · have ce : e ≤ a := by
        rcases Nat.lt_or_ge a e with z | z
        · exact absurd (nI_lt z (by omega)) c1
        · exact z
      obtain ⟨b, d1, d2⟩ := fin (nI e) (nI a - nI e) (Or.inr ⟨e, ce, rfl, pk_sub_toInt (by omega) (by omega)⟩)
      rw [if_pos ((hu (nI e)).mpr ⟨c1, c2⟩), if_neg c1, if_neg c2]
      exact ⟨b, d1 _ z1 l2, mfin (nI e) b d2⟩
theorem pair_may (t : Nat) (k n : ST) (a0 : Int32) (a1 : Int32) (a2 : Int32) (ht : t < 512) (hr : Rel t k n) : PR (t + 1) (fX11_may k a0 a1 a2) (fX12_may n a0 a1 a2) := by
  have hr1 := rel_thr 0 hr
  unfold fX11_may fX12_may
  simp only [nm_eq]
  generalize sI n 11 0 0 = n at hr1 ⊢
  have hr0 := rel_step hr1
  obtain ⟨d, h, kc, bc, gc, wc, pc, rc, dc, tc, sc, ic, lc, fc, ln, bn, hB, hK, hU, hG, hW, hP, hR, hD, hT, hS, hI, hL, hF, hA, hJ, hX⟩ := hr1
  obtain ⟨b1, b2, b3, b4, b5, b6⟩ := id hB
  obtain ⟨t1, t2, t3, t4, t5, t6, t7, t8, t9, t10⟩ := id hT
  unfold fX9_isByRule
  rw [sX9_knows t2 (by omega), sX12_isThing t3 (by omega), ob_some, ob_some]
  by_cases h1 : inb a0 tc = true
  case neg =>
    rw [if_neg h1, if_neg h1, ob_some, if_neg (by decide)]
    exact PR_mk hr0
  obtain ⟨x, hx, rfl⟩ := inb_of h1 (by omega)
  have g1 : inb (nI x) 40 = true := inb_nI (by omega) (by decide)
  have g2 : ix (nI x) = x := ix_nI (by omega)
  rw [if_pos h1, if_pos h1, g1, ck_true, ck_true, g2, t6]
  by_cases h2 : gA k 46 x = 0
  · rw [if_pos h2, if_pos h2, ob_some, if_neg (by decide)]
    exact PR_mk hr0
  rw [if_neg h2, if_neg h2, ob_some, if_pos rfl, day_of, dayM_of, ob_some, ob_some]
  by_cases h3 : in1 a1 0 2000 = true
  case neg =>
    rw [if_neg h3, if_neg h3]
    exact PR_mk hr0
  rw [if_pos h3, if_pos h3, past_of b2 (by omega), known_of b3 (by omega), ob_some, ob_some]
  by_cases h4 : in1 a2 0 d = true
  case neg =>
    rw [if_neg h4, if_neg h4]
    exact PR_mk hr0
  rw [if_pos h4, if_pos h4]
  obtain ⟨a, a3, a4, rfl⟩ := in1_of h3 (by decide)
  obtain ⟨q, q1, q2, rfl⟩ := in1_of h4 (by omega)
  obtain ⟨_, ⟨bb, p1, r, p2, p3, p4⟩, _⟩ := t9 x hx
  have hbb : bb = true := by
    cases bb
    · exact absurd p1 h2
    · rfl
  obtain ⟨b, ⟨z', e1, e2⟩, y', f1, f2⟩ := holdsTh (q := q) hB hR hD hT hS a4 hx (p3 hbb) p2
  rw [e1, ob_some, f1, ob_some]
  have hfin := f2.rel (e2.rel hr0)
  cases b
  · rw [if_neg (by decide), if_neg (by decide)]
    exact PR_mk hfin
  · rw [if_pos rfl, if_pos rfl]
    exact PR_mk hfin
theorem pair_dead (t : Nat) (k n : ST) (a0 : Int32) (a1 : Int32) (a2 : Int32) (ht : t < 512) (hr : Rel t k n) : PR (t + 1) (fX11_dead k a0 a1 a2) (fX12_dead n a0 a1 a2) := by
  have hr1 := rel_thr 0 hr
  unfold fX11_dead fX12_dead
  simp only [nm_eq]
  generalize sI n 11 0 0 = n at hr1 ⊢
  have hr0 := rel_step hr1
  obtain ⟨d, h, kc, bc, gc, wc, pc, rc, dc, tc, sc, ic, lc, fc, ln, bn, hB, hK, hU, hG, hW, hP, hR, hD, hT, hS, hI, hL, hF, hA, hJ, hX⟩ := hr1
  obtain ⟨b1, b2, b3, b4, b5, b6⟩ := id hB
  rw [sX11_isHolder b5 (by omega), sX12_isHolder b6 (by omega), ob_some, ob_some]
  by_cases h1 : inb a0 h = true
  case neg =>
    rw [if_neg h1, if_neg h1]
    exact PR_mk hr0
  obtain ⟨x, hx, rfl⟩ := inb_of h1 (by omega)
  have g1 : inb (nI x) 12 = true := inb_nI (by omega) (by decide)
  have g2 : ix (nI x) = x := ix_nI (by omega)
  rw [if_pos h1, if_pos h1, day_of, dayM_of, ob_some, ob_some]
  by_cases h3 : in1 a1 0 2000 = true
  case neg =>
    rw [if_neg h3, if_neg h3]
    exact PR_mk hr0
  rw [if_pos h3, if_pos h3, past_of b2 (by omega), known_of b3 (by omega), ob_some, ob_some]
  by_cases h4 : in1 a2 0 d = true
  case neg =>
    rw [if_neg h4, if_neg h4]
    exact PR_mk hr0
  rw [if_pos h4, if_pos h4]
  obtain ⟨a, a3, a4, rfl⟩ := in1_of h3 (by decide)
  obtain ⟨q, q1, q2, rfl⟩ := in1_of h4 (by omega)
  obtain ⟨B, B1, B2, B3⟩ := deadAll (q := q) b1 b4 hT.1 hR hD hS a4
  obtain ⟨z', e1, e2⟩ := B1 x (by omega) k (isS.rf k)
  obtain ⟨y', f1, f2, f3, f4, f5⟩ := B3 n (isM.rf n)
  rw [e1, ob_some, f1, ob_some, g1, ck_true, g2, f5 x (by omega)]
  have hfin := f2.rel (e2.rel hr0)
  cases B x
  · rw [if_neg (by decide), if_pos (show b2i false = 0 from rfl)]
    exact PR_mk hfin
  · rw [if_pos rfl, if_neg (show ¬ b2i true = 0 by decide)]
    exact PR_mk hfin
theorem pair_unseal (t : Nat) (k n : ST) (a0 : Int32) (ht : t < 512) (hr : Rel t k n) : PR (t + 1) (fX11_unseal k a0) (fX12_unseal n a0) := by
  have hr1 := rel_thr 0 hr
  unfold fX11_unseal fX12_unseal
  simp only [nm_eq]
  generalize sI n 11 0 0 = n at hr1 ⊢
  have hr0 := rel_step hr1
  obtain ⟨d, h, kc, bc, gc, wc, pc, rc, dc, tc, sc, ic, lc, fc, ln, bn, hB, hK, hU, hG, hW, hP, hR, hD, hT, hS, hI, hL, hF, hA, hJ, hX⟩ := hr1
  obtain ⟨b1, b2, b3, b4, b5, b6⟩ := id hB
  obtain ⟨t1, t2, t3, t4, t5, t6, t7, t8, t9, t10⟩ := id hT
  unfold fX9_isByRule
  rw [sX9_knows t2 (by omega), sX12_isThing t3 (by omega), ob_some, ob_some]
  by_cases h1 : inb a0 tc = true
  case neg =>
    rw [if_neg h1, if_neg h1, ob_some, if_neg (by decide)]
    exact PR_mk hr0
  obtain ⟨x, hx, rfl⟩ := inb_of h1 (by omega)
  have g1 : inb (nI x) 40 = true := inb_nI (by omega) (by decide)
  have g2 : ix (nI x) = x := ix_nI (by omega)
  rw [if_pos h1, if_pos h1, g1, ck_true, ck_true, ck_true, g2, t6, t8]
  by_cases h2 : gA k 46 x = 0
  · rw [if_pos h2, if_pos h2, ob_some, if_neg (by decide)]
    exact PR_mk hr0
  rw [if_neg h2, if_neg h2, ob_some, if_pos rfl, ck_true]
  by_cases h3 : gA k 48 x = 0
  case neg =>
    rw [if_neg h3, if_neg h3]
    exact PR_mk hr0
  rw [if_pos h3, if_pos h3, b2, b3]
  obtain ⟨_, ⟨bb, p1, r, p2, p3, p4⟩, _⟩ := t9 x hx
  have hbb : bb = true := by
    cases bb
    · exact absurd p1 h2
    · rfl
  obtain ⟨b, ⟨z', e1, e2⟩, y', f1, f2⟩ := holdsTh (q := d) hB hR hD hT hS b1 hx (p3 hbb) p2
  rw [e1, ob_some, f1, ob_some, ck_true, ck_true]
  have hG0 : gTurn (t + 1) gc h kc d k n := hG.mono (Nat.le_succ t) (Nat.le_refl _) (Nat.le_refl _) (Nat.le_refl _)
  have hB2 : gB d h z' y' := by
    rw [e2.eq, f2.eq]
    exact hB
  have hK2 : gKeys kc d z' y' := by
    rw [e2.eq, f2.eq]
    exact hK
  have hU2 : gBurn bc z' y' := by
    rw [e2.eq, f2.eq]
    exact hU
  have hG2 : gTurn (t + 1) gc h kc d z' y' := by
    rw [e2.eq, f2.eq]
    exact hG0
  have hW2 : gWrap wc kc d z' y' := by
    rw [e2.eq, f2.eq]
    exact hW
  have hR2 : gRule rc z' y' := by
    rw [e2.eq, f2.eq]
    exact hR
  have hD2 : gDeath dc h rc d z' y' := by
    rw [e2.eq, f2.eq]
    exact hD
  have hT2 : gThing tc kc rc d z' y' := by
    rw [e2.eq, f2.eq]
    exact hT
  have hS2 : gSay sc h tc d z' y' := by
    rw [e2.eq, f2.eq]
    exact hS
  have hI2 : gSig ic kc d z' y' := by
    rw [e2.eq, f2.eq]
    exact hI
  have hL2 : gLoan lc kc z' y' := by
    rw [e2.eq, f2.eq]
    exact hL
  have hF2 : gFall fc h z' y' := by
    rw [e2.eq, f2.eq]
    exact hF
  have hA2 : gTape ln z' y' := by
    rw [e2.eq, f2.eq]
    exact hA
  have hJ2 : gBench bn h z' y' := by
    rw [e2.eq, f2.eq]
    exact hJ
  have hX2 : gFalse h z' y' := by
    rw [e2.eq, f2.eq]
    exact hX
  have hP2 : gPart pc kc h d z' y' := f2.gP (e2.gP hP)
  obtain ⟨u1, u2, u3, u4, u5, u6, u7, u8, u9, u10⟩ := hT2
  have hz48 : gA z' 48 x = 0 := by
    rw [e2.a 48 rfl]
    exact h3
  cases b
  · rw [if_neg (by decide)]
    have key : gA (sA y' 135 x (b2i false)) 135 = gA z' 48 := by
      rw [gA_sA, if_pos rfl, u8]
      funext j
      by_cases c : j = x
      · rw [c, us, hz48]
        rfl
      · rw [un c]
    rw [ck_true, key, hz48, if_pos rfl]
    exact PR_mk ⟨d, h, kc, bc, gc, wc, pc, rc, dc, tc, sc, ic, lc, fc, ln, bn, hB2, hK2, hU2, hG2, hW2, hP2, hR2, hD2, ⟨u1, u2, u3, u4, u5, u6, u7, key, u9, u10⟩, hS2, hI2, hL2, hF2, hA2, hJ2, hX2⟩
  · rw [if_pos rfl]
    have key : gA (sA y' 135 x (b2i true)) 135 = gA (sA z' 48 x 1) 48 := by
      rw [gA_sA, if_pos rfl, gA_sA, if_pos rfl, u8]
      rfl
    have k1 : gA (sA z' 48 x 1) 48 x = 1 := us
    rw [ck_true, key, k1, if_neg (by decide)]
    refine PR_mk ⟨d, h, kc, bc, gc, wc, pc, rc, dc, tc, sc, ic, lc, fc, ln, bn, hB2, hK2, hU2, hG2, hW2, gPart.fr hP2 rfl rfl rfl rfl rfl rfl rfl rfl rfl rfl rfl rfl rfl (fun i => by simp (config := {decide := true}) only [row_sA, gA_sI]), hR2, hD2, ⟨u1, u2, u3, u4, u5, u6, u7, key, fun i hi => ?_, fun i hi => ?_⟩, hS2, hI2, hL2, hF2, hA2, hJ2, hX2⟩
    · obtain ⟨v1, v2, v3, v4⟩ := u9 i hi
      refine ⟨v1, v2, v3, ?_⟩
      show ∃ b, upd (gA z' 48) x 1 i = b2i b
      by_cases c : i = x
      · rw [c, us]
        exact ⟨true, rfl⟩
      · rw [un c]
        exact v4
    · show upd (gA z' 48) x 1 i = 0
      rw [un (show i ≠ x by omega)]
      exact u10 i hi
