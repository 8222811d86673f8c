/-! BETTER -/
def dist (w c : Nat) : Nat := if c ≤ w then w - c else c - w
def bst (W : Nat → Bool) (w m : Nat) (R : Int32) : Prop := (R = -1 ∧ ∀ c, 1 ≤ c → c ≤ m → W c = false) ∨ ∃ b, 1 ≤ b ∧ b ≤ m ∧ W b = true ∧ R = nI b ∧ ∀ c, 1 ≤ c → c ≤ m → W c = true → dist w b < dist w c ∨ (dist w b = dist w c ∧ b ≤ c)
theorem bst_uniq {W : Nat → Bool} {w m : Nat} {R R' : Int32} (h : bst W w m R) (h' : bst W w m R') : R = R' := by
  rcases h with ⟨h1, h2⟩ | ⟨b, b1, b2, b3, b4, b5⟩
  · rcases h' with ⟨g1, g2⟩ | ⟨c, c1, c2, c3, c4, c5⟩
    · rw [h1, g1]
    · rw [h2 c c1 c2] at c3
      cases c3
  · rcases h' with ⟨g1, g2⟩ | ⟨c, c1, c2, c3, c4, c5⟩
    · rw [g2 b b1 b2] at b3
      cases b3
    · have x1 := b5 c c1 c2 c3
      have x2 := c5 b b1 b2 b3
      rw [b4, c4]
      congr 1
      omega
def oS (h S : Nat) : Nat := (2 ^ h - 1) &&& (S ^^^ 4294967295)
def wlB (G : Nat → Nat) (a h : Nat) (fs : Nat → Nat) : Nat → Bool
  | 0 => true
  | i + 1 => wlB G a h fs i && (!((G (fs i)).testBit a) && (G (oS h (fs i))).testBit a)
theorem wlB_false {G : Nat → Nat} {a h : Nat} {fs : Nat → Nat} {i : Nat} (hf : (!((G (fs i)).testBit a) && (G (oS h (fs i))).testBit a) = false) : ∀ {m : Nat}, i < m → wlB G a h fs m = false
  | 0, hm => absurd hm (Nat.not_lt_zero i)
  | m + 1, hm => by
    show (wlB G a h fs m && _) = false
    rcases Nat.lt_or_ge i m with q | q
    · rw [wlB_false hf q, Bool.false_and]
    · have : i = m := by omega
      subst this
      rw [hf, Bool.and_false]
def ndc (p c : Nat) (nd : Nat → Nat) (i : Nat) : Nat := if i = p then c else nd i
theorem rcK.nd {k z : ST} {q : Int32} {kc wc pc p c : Nat} {nd hold : Nat → Nat} (h : rcK k q kc wc pc nd hold z) : rcK k q kc wc pc (ndc p c nd) hold (sA z 22 p (nI c)) := by
  obtain ⟨r1, ⟨c1, st1, st2⟩, ⟨cl, lv1, l1, lv, l2, l3⟩, r4⟩ := h
  refine ⟨r1.sA p _ (r := 22) rfl, ⟨c1, st1, st2⟩, ⟨cl, lv1, l1, lv, fun i hi => ?_, l3⟩, r4⟩
  obtain ⟨m1, m2, m3, m4, m5⟩ := l2 i hi
  refine ⟨m1, m2, m3, m4, ?_⟩
  show upd (gA z 22) p (nI c) (lv i) = nI (ndc p c nd (lv i))
  unfold ndc
  by_cases e : lv i = p
  · rw [if_pos e, e, us]
  · rw [if_neg e, un e]
    exact m5
theorem ndc_lt {p c : Nat} {nd : Nat → Nat} (hc : c < 2 ^ 31) (h : ∀ i, nd i < 2 ^ 31) (i : Nat) : ndc p c nd i < 2 ^ 31 := by
  unfold ndc
  split
  · exact hc
  · exact h i
theorem outl_of {pc kc h d wc fc : Nat} {k n z : ST} {q : Int32} {nd hold : Nat → Nat} (hBB : gB d h k n) (hK : gKeys kc d k n) (hW : gWrap wc kc d k n) (hP : gPart pc kc h d k n) (hF : gFall fc h k n) (hnd : ∀ i, nd i < 2 ^ 31) (R : rcK k q kc wc pc nd hold z) {a p c : Nat} (ha : a < kc) (hp : p < pc) (e13 : gA k 13 p = nI a) (hc : c < 2 ^ 31) :
    fX11_outlastsFalls z (nI p) (nI c) = some (wlB (getS k q kc wc pc (ndc p c nd) hold) a h (fun i => vN (gA k 58 i)) fc, sA z 22 p (nI c)) := by
  obtain ⟨b1, b2, b3, b4, b5, b6⟩ := hBB
  obtain ⟨f1, f2, f3, f4, f5⟩ := hF
  have hp12 := pow_le12 b4
  have hpc := hP.1
  have hkc := hK.1
  have R2 := R.nd (p := p) (c := c)
  have gK : ∀ S, S < 2 ^ h → fX4_gets (sA z 22 p (nI c)) (nI S) = some (lN (getS k q kc wc pc (ndc p c nd) hold S), sA z 22 p (nI c)) := fun S hS => gets_K hK hW hP b4 (ndc_lt hc hnd) R2 (by omega)
  have hlt : ∀ S, getS k q kc wc pc (ndc p c nd) hold S < 2 ^ 40 := fun S => get_lt hK hW hP (fun x hx => (R.2.2.2 x hx).1) S
  unfold fX11_outlastsFalls
  rw [inb_nI (show p < 40 by omega) (by decide), ck_true, ck_true, nm_eq, ix_nI (by omega), R.1.a 13 rfl, e13, FU_g]
  have key : ∀ (r g i : Nat), i + r = fc → r ≤ g → wlB (getS k q kc wc pc (ndc p c nd) hold) a h (fun i => vN (gA k 58 i)) i = true → lpX11_outlastsFalls_23 (nI p) (nI c) (nI a) (g + 1) (nI i) (sA z 22 p (nI c)) (fun y24 k25 => some (true, k25)) = some (wlB (getS k q kc wc pc (ndc p c nd) hold) a h (fun i => vN (gA k 58 i)) fc, sA z 22 p (nI c)) := by
    intro r
    induction r with
    | zero =>
      intro g i hi _ hw
      have : i = fc := by omega
      subst this
      rw [lpX11_outlastsFalls_23, R2.1.i 10 5 (by decide) (by decide), f2, if_pos (nI_le (by omega) (by omega)), hw]
    | succ r ih =>
      intro g i hi hg hw
      obtain ⟨g, rfl⟩ : ∃ z, g = z + 1 := ⟨g - 1, by omega⟩
      obtain ⟨S, S1, S2, S3⟩ := f5 i (by omega)
      have eS : vN (gA k 58 i) = S := by rw [S3, vN_nI (by omega)]
      have ho := oth_of (S := S) b4
      rw [lpX11_outlastsFalls_23, R2.1.i 10 5 (by decide) (by decide), f2, if_neg (nI_ge (by omega) (by omega)), inb_nI (show i < 20 by omega) (by decide), ck_true, ix_nI (by omega), R2.1.a 58 rfl, S3, gK S S2, ob_some, hasKey_of _ (Nat.lt_trans (hlt _) (by decide)) (by omega), ob_some, ck_true, R2.1.a 58 rfl, S3]
      unfold fX11_othersThan fX11_allHolders
      rw [R2.1.i 10 1 (by decide) (by decide), b5, ob_some, ob_some, ho.1, gK _ ho.2, ob_some, hasKey_of _ (Nat.lt_trans (hlt _) (by decide)) (by omega), ob_some, nI_1]
      by_cases x1 : (getS k q kc wc pc (ndc p c nd) hold S).testBit a = true
      · rw [if_pos x1, wlB_false (i := i) (by rw [eS, x1]; rfl) (by omega)]
      · rw [if_neg x1]
        by_cases x2 : (getS k q kc wc pc (ndc p c nd) hold ((2 ^ h - 1) &&& (S ^^^ 4294967295))).testBit a = true
        · rw [if_pos x2]
          refine ih g (i + 1) (by omega) (by omega) ?_
          show (wlB _ a h _ i && (!((getS k q kc wc pc (ndc p c nd) hold (vN (gA k 58 i))).testBit a) && (getS k q kc wc pc (ndc p c nd) hold (oS h (vN (gA k 58 i)))).testBit a)) = true
          unfold oS
          rw [hw, eS, x2]
          simp at x1
          rw [x1]
          rfl
        · rw [if_neg x2, wlB_false (i := i) (by
            unfold oS
            simp at x2
            rw [eS, x2, Bool.and_false]) (by omega)]
  exact key fc 4999 0 (by omega) (by omega) rfl
theorem well_of {pc kc h d wc fc : Nat} {k n n' : ST} {nd hold : Nat → Nat} (hBB : gB d h k n) (hK : gKeys kc d k n) (hW : gWrap wc kc d k n) (hP : gPart pc kc h d k n) (hF : gFall fc h k n) (hnd : ∀ i, nd i < 2 ^ 31) (hM : isM n n') (Hh : ∀ x, x < 12 → hold x < 2 ^ 40) (H : ∀ x, x < h → gL n' 122 x = lN (hold x)) {a p c : Nat} (ha : a < kc) (hp : p < pc) (e13 : gA k 13 p = nI a) (hc : c < 2 ^ 31) (hn : ∀ i, i < pc → gA k 15 i = nI (nd i)) :
    fX12_isWell n' (nI p) (nI c) = some (wlB (getS k (nI d) kc wc pc (ndc p c nd) hold) a h (fun i => vN (gA k 58 i)) fc, n') := by
  obtain ⟨b1, b2, b3, b4, b5, b6⟩ := hBB
  obtain ⟨f1, f2, f3, f4, f5⟩ := hF
  obtain ⟨p1, p2, p3, p4, p5, p6, p7, p8⟩ := id hP
  have hp12 := pow_le12 b4
  have hkc := hK.1
  have cM : ∀ S, S < 2 ^ h → fX12_closes n' (nI S) (nI d) (nI p) (nI c) = some (lN (getS k (nI d) kc wc pc (ndc p c nd) hold S), n') := fun S hS => closes_M (by rw [hM.i 11 12 (by decide)]; exact b6) (hM.gK hK) (hM.gW hW) (hM.gP hP) b4 b1 b1 (ndc_lt hc hnd) Hh H hS (nI p) (nI c) (fun i hi => by
    unfold ndc
    by_cases e : i = p
    · rw [if_pos (by rw [e]), if_pos e]
    · rw [if_neg (fun z => e ((nI_eq (by omega) (by omega)).mp z)), if_neg e, hM.a 116 (by decide) (by decide), p6, hn i hi])
  have hlt : ∀ S, getS k (nI d) kc wc pc (ndc p c nd) hold S < 2 ^ 40 := fun S => get_lt hK hW hP Hh S
  unfold fX12_isWell
  rw [inb_nI (show p < 40 by omega) (by decide), ck_true, ix_nI (by omega), hM.a 114 (by decide) (by decide), p4, e13, FU_g]
  have key : ∀ (r g i : Nat), i + r = fc → r ≤ g → wlB (getS k (nI d) kc wc pc (ndc p c nd) hold) a h (fun i => vN (gA k 58 i)) i = true → lpX12_isWell_10 (nI p) (nI c) (nI a) (g + 1) (nI i) n' (fun y24 k25 => some (true, k25)) = some (wlB (getS k (nI d) kc wc pc (ndc p c nd) hold) a h (fun i => vN (gA k 58 i)) fc, n') := by
    intro r
    induction r with
    | zero =>
      intro g i hi _ hw
      have : i = fc := by omega
      subst this
      rw [lpX12_isWell_10, hM.i 11 82 (by decide), f3, if_pos (nI_le (by omega) (by omega)), hw]
    | succ r ih =>
      intro g i hi hg hw
      obtain ⟨g, rfl⟩ : ∃ z, g = z + 1 := ⟨g - 1, by omega⟩
      obtain ⟨S, S1, S2, S3⟩ := f5 i (by omega)
      have eS : vN (gA k 58 i) = S := by rw [S3, vN_nI (by omega)]
      have ho := oth_of (S := S) b4
      rw [lpX12_isWell_10, hM.i 11 82 (by decide), f3, if_neg (nI_ge (by omega) (by omega)), inb_nI (show i < 20 by omega) (by decide), ck_true, ix_nI (by omega), hM.a 152 (by decide) (by decide), f4, S3, hM.i 11 1 (by decide), b3, cM S S2, ob_some, ifeq (lbit (hlt S) (show a < 64 by omega)), ck_true, hM.a 152 (by decide) (by decide), f4, S3]
      unfold fX12_others
      rw [hM.i 11 12 (by decide), b6, ob_some, ho.1, hM.i 11 1 (by decide), b3, cM _ ho.2, ob_some, ifeq (lbit0 (hlt _) (show a < 64 by omega)), nI_1]
      by_cases x1 : (getS k (nI d) kc wc pc (ndc p c nd) hold S).testBit a = true
      · rw [if_pos x1, wlB_false (i := i) (by rw [eS, x1]; rfl) (by omega)]
      · rw [if_neg x1]
        by_cases x2 : (getS k (nI d) kc wc pc (ndc p c nd) hold ((2 ^ h - 1) &&& (S ^^^ 4294967295))).testBit a = true
        · rw [if_neg (fun w => w x2)]
          refine ih g (i + 1) (by omega) (by omega) ?_
          show (wlB _ a h _ i && (!((getS k (nI d) kc wc pc (ndc p c nd) hold (vN (gA k 58 i))).testBit a) && (getS k (nI d) kc wc pc (ndc p c nd) hold (oS h (vN (gA k 58 i)))).testBit a)) = true
          unfold oS
          rw [hw, eS, x2]
          simp at x1
          rw [x1]
          rfl
        · rw [if_pos x2, wlB_false (i := i) (by
            unfold oS
            simp at x2
            rw [eS, x2, Bool.and_false]) (by omega)]
  exact key fc 4999 0 (by omega) (by omega) rfl
theorem abs_of (k : ST) {c w : Nat} (hc : c ≤ 12) (hw : w ≤ 12) : fJ9_abs_0f7a4 k (nI c - nI w) = some (nI (dist w c), k) := by
  have : ∀ c w : Fin 13, (if 0 ≤ (nI c.val - nI w.val) then (nI c.val - nI w.val) else -(nI c.val - nI w.val)) = nI (dist w.val c.val) := by decide +kernel
  have h : (if 0 ≤ (nI c - nI w) then (nI c - nI w) else -(nI c - nI w)) = nI (dist w c) := this ⟨c, by omega⟩ ⟨w, by omega⟩
  unfold fJ9_abs_0f7a4
  rw [← h]
  by_cases e : 0 ≤ (nI c - nI w)
  · rw [if_pos e, if_pos e]
  · rw [if_neg e, if_neg e]
theorem pair_better (t : Nat) (k n : ST) (a0 : Int32) (ht : t < 512) (hr : Rel t k n) : PR (t + 1) (fX11_better k a0) (fX12_better n a0) := by
  have hr1 := rel_thr 0 hr
  unfold fX11_better fX12_better 
  simp only [nm_eq]
  generalize sI n 11 0 0 = n at hr1 ⊢
  have hr0 := rel_step hr1
  obtain ⟨d, h, kc, bc, gc, wc, pc, rc, dc, tc, sc, ic, lc, fc, ln, bn, hB, hK, hU, hG, hW, hP, hR, hD, hT, hS, hI, hL, hF, hA, hJ, hX⟩ := hr1
  obtain ⟨b1, b2, b3, b4, b5, b6⟩ := id hB
  obtain ⟨p1, p2, p3, p4, p5, p6, p7, p8⟩ := id hP
  have hkc := hK.1
  rw [sX12_isParting p3 (by omega), ob_some]
  by_cases h1 : inb a0 pc = true
  case neg =>
    have e : fX3_inForce k a0 (gI k 10 0) = some (false, k) := by
      unfold fX3_inForce
      rw [sX3_knows p2 (by omega), ob_some, if_neg h1]
    rw [if_neg h1, e, ob_some, if_neg (by decide)]
    exact PR_mk hr0
  obtain ⟨p, hp, rfl⟩ := inb_of h1 (by omega)
  rw [if_pos h1, b2, b3, force_K hP hp, force_M hP hp b1 b1, ob_some, ob_some]
  by_cases h2 : inF k p (nI d) = true
  case neg =>
    rw [if_neg h2, if_neg h2]
    exact PR_mk hr0
  obtain ⟨k', n', hold, c1, c2, c3, c4, c5⟩ := reach_of (by omega) hB hK hG hW hP (Nat.le_refl d)
  obtain ⟨⟨a, a1, a2⟩, ⟨S, w, s1, s2, s3, w1, w2, w3, _⟩, _⟩ := p8 p hp
  have hp12 := pow_le12 b4
  have hS : S < 4096 := by omega
  have hm := pcn_le S 12
  have hn : ∀ i, i < pc → gA k 15 i = nI (vN (gA k 15 i)) := fun i hi => by
    obtain ⟨_, ⟨S', w', _, _, _, _, y1, y2, _⟩, _⟩ := p8 i hi
    have := pcn_le S' 12
    rw [y2, vN_nI (by omega)]
  have W1 : ∀ z nd, (∀ i, nd i < 2 ^ 31) → rcK k (nI d) kc wc pc nd hold z → (∀ c, ndc p c nd = ndc p c (fun i => vN (gA k 15 i))) → ∀ c, c < 2 ^ 31 → fX11_outlastsFalls z (nI p) (nI c) = some (wlB (getS k (nI d) kc wc pc (ndc p c (fun i => vN (gA k 15 i))) hold) a h (fun i => vN (gA k 58 i)) fc, sA z 22 p (nI c)) := fun z nd g1 g2 g3 c hc => by
    rw [outl_of hB hK hW hP hF g1 g2 a1 hp a2 hc, g3 c]
  have W2 : ∀ c, c < 2 ^ 31 → fX12_isWell n' (nI p) (nI c) = some (wlB (getS k (nI d) kc wc pc (ndc p c (fun i => vN (gA k 15 i))) hold) a h (fun i => vN (gA k 58 i)) fc, n') := fun c hc => well_of hB hK hW hP hF (fun i => vN_lt _) c4 (fun x hx => (c3.2.2.2 x hx).1) c5 a1 hp a2 hc hn
  generalize hWd : (fun c => wlB (getS k (nI d) kc wc pc (ndc p c (fun i => vN (gA k 15 i))) hold) a h (fun i => vN (gA k 58 i)) fc) = W
  have W1' : ∀ z nd, (∀ i, nd i < 2 ^ 31) → rcK k (nI d) kc wc pc nd hold z → (∀ c, ndc p c nd = ndc p c (fun i => vN (gA k 15 i))) → ∀ c, c < 2 ^ 31 → fX11_outlastsFalls z (nI p) (nI c) = some (W c, sA z 22 p (nI c)) := fun z nd g1 g2 g3 c hc => by rw [W1 z nd g1 g2 g3 c hc, ← hWd]
  have W2' : ∀ c, c < 2 ^ 31 → fX12_isWell n' (nI p) (nI c) = some (W c, n') := fun c hc => by rw [W2 c hc, ← hWd]
  have g1 : inb (nI p) 40 = true := inb_nI (by omega) (by decide)
  have g2 : ix (nI p) = p := ix_nI (by omega)
  have dd : ∀ c c' nd, ndc p c (ndc p c' nd) = ndc p c nd := fun c c' nd => by
    funext i
    unfold ndc
    by_cases e : i = p
    · rw [if_pos e, if_pos e]
    · rw [if_neg e, if_neg e, if_neg e]
  have KL : ∀ (r g δ : Nat) (z : ST) (nd : Nat → Nat), δ + r = 12 → r ≤ g → (∀ i, nd i < 2 ^ 31) → rcK k (nI d) kc wc pc nd hold z → (∀ c, ndc p c nd = ndc p c (fun i => vN (gA k 15 i))) → (∀ c, 1 ≤ c → c ≤ pcn S 12 → W c = true → δ ≤ dist w c) →
      ∃ R z', lpX11_better_51 (nI p) (nI w) (nI (pcn S 12)) (g + 1) (nI δ) z (fun y24 k25 => some (-1, k25)) = some (R, z') ∧ isS k z' ∧ bst W w (pcn S 12) R := by
    intro r
    induction r with
    | zero =>
      intro g δ z nd hδ _ _ hz _ hd
      have : δ = 12 := by omega
      subst this
      refine ⟨-1, z, by rw [lpX11_better_51, if_pos (show (12 : Int32) ≤ nI 12 by decide)], hz.1, Or.inl ⟨rfl, fun c x1 x2 => ?_⟩⟩
      cases hc : W c
      · rfl
      · have := hd c x1 x2 hc
        unfold dist at this
        split at this <;> omega
    | succ r ih =>
      intro g δ z nd hδ hg hnd hz hzz hd
      obtain ⟨g, rfl⟩ : ∃ z, g = z + 1 := ⟨g - 1, by omega⟩
      have JB : ∀ z nd, (∀ i, nd i < 2 ^ 31) → rcK k (nI d) kc wc pc nd hold z → (∀ c, ndc p c nd = ndc p c (fun i => vN (gA k 15 i))) → (∀ c, 1 ≤ c → c ≤ pcn S 12 → W c = true → δ ≤ dist w c ∧ (c ≤ w → δ < dist w c)) →
          ∃ R z', jbX11_better_83 (fun w4 k => lpX11_better_51 (nI p) (nI w) (nI (pcn S 12)) (g + 1) w4 k (fun y24 k25 => some (-1, k25))) (fun y24 k25 => some (-1, k25)) (nI p) (nI w) (nI (pcn S 12)) (nI δ) z = some (R, z') ∧ isS k z' ∧ bst W w (pcn S 12) R := by
        intro z nd hnd hz hzz hd
        unfold jbX11_better_83
        rw [nI_add, nI_1]
        by_cases x1 : pcn S 12 < w + δ
        · rw [if_pos (nI_lt x1 (by omega))]
          refine ih g (δ + 1) z nd (by omega) (by omega) hnd hz hzz (fun c y1 y2 y3 => ?_)
          have := hd c y1 y2 y3
          unfold dist at this ⊢
          split at this <;> rename_i e
          · rw [if_pos e]
            have := this.2 e
            omega
          · rw [if_neg e]
            omega
        · rw [if_neg (nI_nlt (by omega) (by omega)), W1' z nd hnd hz hzz (w + δ) (by omega), ob_some]
          cases hW1 : W (w + δ)
          · rw [if_neg (by decide)]
            refine ih g (δ + 1) _ (ndc p (w + δ) nd) (by omega) (by omega) (ndc_lt (by omega) hnd) (hz.nd) (fun c => by rw [dd, hzz c]) (fun c y1 y2 y3 => ?_)
            have h3 := hd c y1 y2 y3
            unfold dist at h3 ⊢
            split at h3 <;> rename_i e
            · rw [if_pos e]
              have := h3.2 e
              omega
            · rw [if_neg e]
              rcases Nat.lt_or_ge δ (c - w) with y | y
              · omega
              · have : c = w + δ := by omega
                rw [this, hW1] at y3
                cases y3
          · rw [if_pos rfl]
            refine ⟨_, _, rfl, hz.nd.1, Or.inr ⟨w + δ, by omega, by omega, hW1, rfl, fun c y1 y2 y3 => ?_⟩⟩
            have h3 := hd c y1 y2 y3
            have e0 : dist w (w + δ) = δ := by
              unfold dist
              split <;> omega
            rw [e0]
            unfold dist at h3 ⊢
            split at h3 <;> rename_i e
            · rw [if_pos e]
              have := h3.2 e
              omega
            · rw [if_neg e]
              omega
      rw [lpX11_better_51, if_neg (n12 (by omega))]
      have e0 : (nI w - nI δ < 1) = (w ≤ δ) := propext (by
        rw [Int32.lt_iff_toInt_lt, pk_sub_toInt (by omega) (by omega), show (1 : Int32).toInt = 1 by decide]
        omega)
      rw [ifeq e0]
      by_cases x1 : w ≤ δ
      · rw [if_pos x1]
        refine JB z nd hnd hz hzz (fun c y1 y2 y3 => ⟨hd c y1 y2 y3, fun y => ?_⟩)
        have := hd c y1 y2 y3
        unfold dist at this ⊢
        rw [if_pos y] at this ⊢
        omega
      · rw [if_neg x1, pk_sub (show δ ≤ w by omega), W1' z nd hnd hz hzz (w - δ) (by omega), ob_some]
        cases hW1 : W (w - δ)
        · rw [if_neg (by decide)]
          refine JB _ (ndc p (w - δ) nd) (ndc_lt (by omega) hnd) hz.nd (fun c => by rw [dd, hzz c]) (fun c y1 y2 y3 => ⟨hd c y1 y2 y3, fun y => ?_⟩)
          have := hd c y1 y2 y3
          unfold dist at this ⊢
          rw [if_pos y] at this ⊢
          rcases Nat.lt_or_ge δ (w - c) with e | e
          · exact e
          · have : c = w - δ := by omega
            rw [this, hW1] at y3
            cases y3
        · rw [if_pos rfl]
          refine ⟨_, _, rfl, hz.nd.1, Or.inr ⟨w - δ, by omega, by omega, hW1, rfl, fun c y1 y2 y3 => ?_⟩⟩
          have h3 := hd c y1 y2 y3
          unfold dist at h3 ⊢
          rw [if_pos (show w - δ ≤ w by omega)]
          split at h3 <;> rename_i e
          · rw [if_pos e]
            omega
          · rw [if_neg e]
            omega
  have ML : ∀ (r g c : Nat) (v2 : Int32), c + r = pcn S 12 + 1 → r ≤ g → 1 ≤ c → bst W w (c - 1) v2 → ∃ R, lpX12_better_47 (nI p) (nI w) (g + 1) v2 (nI c) n' (fun y31 y32 k33 => some (y31, k33)) = some (R, n') ∧ bst W w (pcn S 12) R := by
    intro r
    induction r with
    | zero =>
      intro g c v2 hc _ _ hb
      refine ⟨v2, ?_, by rw [show c - 1 = pcn S 12 by omega] at hb; exact hb⟩
      rw [lpX12_better_47, g1, ck_true, g2, c4.a 115 (by decide) (by decide), p5, s3, bc_of n' hS, ob_some, if_pos (nI_lt (by omega) (by omega))]
    | succ r ih =>
      intro g c v2 hc hg h1c hb
      obtain ⟨g, rfl⟩ : ∃ z, g = z + 1 := ⟨g - 1, by omega⟩
      rw [lpX12_better_47, g1, ck_true, g2, c4.a 115 (by decide) (by decide), p5, s3, bc_of n' hS, ob_some, if_neg (nI_nlt (by omega) (by omega)), W2' c (by omega), ob_some]
      simp only [nI_1]
      have keep : W c = false → bst W w (c + 1 - 1) v2 := fun hw => by
        rcases hb with ⟨y1, y2⟩ | ⟨b, y1, y2, y3, y4, y5⟩
        · refine Or.inl ⟨y1, fun x x1 x2 => ?_⟩
          rcases Nat.lt_or_ge x c with e | e
          · exact y2 x x1 (by omega)
          · rw [show x = c by omega]
            exact hw
        · refine Or.inr ⟨b, y1, by omega, y3, y4, fun x x1 x2 x3 => ?_⟩
          rcases Nat.lt_or_ge x c with e | e
          · exact y5 x x1 (by omega) x3
          · rw [show x = c by omega, hw] at x3
            cases x3
      cases hw : W c
      · rw [if_neg (by decide)]
        exact ih g (c + 1) v2 (by omega) (by omega) (by omega) (keep hw)
      · rw [if_pos rfl]
        rcases hb with ⟨y1, y2⟩ | ⟨b, y1, y2, y3, y4, y5⟩
        · rw [y1, if_pos rfl]
          refine ih g (c + 1) (nI c) (by omega) (by omega) (by omega) (Or.inr ⟨c, by omega, by omega, hw, rfl, fun x x1 x2 x3 => ?_⟩)
          rcases Nat.lt_or_ge x c with e | e
          · rw [y2 x x1 (by omega)] at x3
            cases x3
          · rw [show x = c by omega]
            exact Or.inr ⟨rfl, Nat.le_refl c⟩
        · have d1 : dist w c ≤ 12 := by unfold dist; split <;> omega
          have d2 : dist w b ≤ 12 := by unfold dist; split <;> omega
          rw [y4, if_neg (nI_ne_m1 (by omega)), abs_of n' (by omega) (by omega), ob_some, abs_of n' (by omega) (by omega), ob_some]
          by_cases x0 : dist w b ≤ dist w c
          · rw [if_pos (nI_le x0 (by omega))]
            refine ih g (c + 1) (nI b) (by omega) (by omega) (by omega) (Or.inr ⟨b, y1, by omega, y3, rfl, fun x x1 x2 x3 => ?_⟩)
            rcases Nat.lt_or_ge x c with e | e
            · exact y5 x x1 (by omega) x3
            · rw [show x = c by omega]
              omega
          · rw [if_neg (nI_ge (by omega) (by omega))]
            refine ih g (c + 1) (nI c) (by omega) (by omega) (by omega) (Or.inr ⟨c, by omega, by omega, hw, rfl, fun x x1 x2 x3 => ?_⟩)
            rcases Nat.lt_or_ge x c with e | e
            · have := y5 x x1 (by omega) x3
              omega
            · rw [show x = c by omega]
              exact Or.inr ⟨rfl, Nat.le_refl c⟩
  obtain ⟨R, z', x1, x2, x3⟩ := KL 12 4999 0 k' _ (by omega) (by omega) (fun i => vN_lt _) c3 (fun c => rfl) (fun c _ _ _ => Nat.zero_le _)
  obtain ⟨R', y1, y2⟩ := ML (pcn S 12) 4999 1 (-1) (by omega) (by omega) (Nat.le_refl 1) (Or.inl ⟨rfl, fun c e1 e2 => by omega⟩)
  rw [if_pos h2, if_pos h2, b2, b3, c1, c2, ob_some, ob_some, g1, ck_true, ck_true, ck_true, g2, c3.1.a 14 rfl, c3.1.a 15 rfl, s3, w3, bc_of k' hS, ob_some, c4.a 116 (by decide) (by decide), p6, w3, FU_g]
  rw [show lpX11_better_51 (nI p) (nI w) (nI (pcn S 12)) (4999 + 1) 0 k' (fun y24 k25 => some (-1, k25)) = some (R, z') from x1]
  rw [show lpX12_better_47 (nI p) (nI w) (4999 + 1) (-1) 1 n' (fun y31 y32 k33 => some (y31, k33)) = some (R', n') from y1, bst_uniq x3 y2]
  exact PR_mk (c4.rel (x2.rel hr0))
