theorem isM.gW {k n n' : ST} (hs : isM n n') {wc kc d : Nat} (H : gWrap wc kc d k n) : gWrap wc kc d k n' := by
  rw [hs.eq]
  exact H
theorem isM.gP {k n n' : ST} (hs : isM n n') {pc kc h d : Nat} (H : gPart pc kc h d k n) : gPart pc kc h d k n' := by
  rw [hs.eq]
  exact H
theorem isM.gK {k n n' : ST} (hs : isM n n') {kc d : Nat} (H : gKeys kc d k n) : gKeys kc d k n' := by
  rw [hs.eq]
  exact H
theorem lbit {v a : Nat} (hv : v < 2 ^ 40) (ha : a < 64) : (((j_lshr (lN v) (nI a)) &&& 1) = 1) = (v.testBit a = true) := by
  have e : (((nI a).toInt64 &&& 63).toBitVec.smod 64).toNat = a := by
    rw [wb_c a ha, wb_tb, wb_sm a ha]
    exact BitVec.toNat_ofNat a 64 |>.trans (Nat.mod_eq_of_lt (by omega))
  have e1 : j_lshr (lN v) (nI a) = lN (v / 2 ^ a) := pf_shr e (by omega)
  have hd : v / 2 ^ a ≤ v := Nat.div_le_self _ _
  rw [e1, wb_a1 (by omega), Nat.testBit_eq_decide_div_mod_eq]
  have : v / 2 ^ a % 2 = 0 ∨ v / 2 ^ a % 2 = 1 := by omega
  rcases this with h | h <;> rw [h] <;> simp [lN]
theorem lbit0 {v a : Nat} (hv : v < 2 ^ 40) (ha : a < 64) : (((j_lshr (lN v) (nI a)) &&& 1) = 0) = (¬ v.testBit a = true) := by
  have e : (((nI a).toInt64 &&& 63).toBitVec.smod 64).toNat = a := by
    rw [wb_c a ha, wb_tb, wb_sm a ha]
    exact BitVec.toNat_ofNat a 64 |>.trans (Nat.mod_eq_of_lt (by omega))
  have e1 : j_lshr (lN v) (nI a) = lN (v / 2 ^ a) := pf_shr e (by omega)
  have hd : v / 2 ^ a ≤ v := Nat.div_le_self _ _
  rw [e1, wb_a1 (by omega), Nat.testBit_eq_decide_div_mod_eq]
  have : v / 2 ^ a % 2 = 0 ∨ v / 2 ^ a % 2 = 1 := by omega
  rcases this with h | h <;> rw [h] <;> simp [lN]
theorem cl6 {h : Nat} {n' : ST} {hold : Nat → Nat} (e12 : gI n' 11 12 = nI h) (hh : h ≤ 12) (H : ∀ x, x < h → gL n' 122 x = lN (hold x)) {S : Nat} (hS : S < 2 ^ h) (v2 v3 v4 : Int32) (cont : Int64 → Int32 → ST → Option (Int64 × ST)) :
    ∀ (r g x : Nat), x + r = h → r ≤ g → lpX12_closes_6 (nI S) v2 v3 v4 (g + 1) (lN (fN (hF hold S) x 0)) (nI x) n' cont = cont (lN (fN (hF hold S) 12 0)) (nI h) n' := by
  have hS2 : S < 4096 := Nat.lt_of_lt_of_le hS (pow_le12 hh)
  intro r
  induction r with
  | zero =>
    intro g x hx _
    have : x = h := by omega
    subst this
    rw [lpX12_closes_6, e12, if_pos (nI_le (by omega) (by omega)), fN_skip (m := 12) hh (fun i a b u => by
      unfold hF
      rw [if_neg]
      rw [Nat.testBit_lt_two_pow (Nat.lt_of_lt_of_le hS (Nat.pow_le_pow_right (by decide) a))]
      decide)]
  | succ r ih =>
    intro g x hx hg
    obtain ⟨g, rfl⟩ : ∃ z, g = z + 1 := ⟨g - 1, by omega⟩
    have hi := ih g (x + 1) (by omega) (by omega)
    rw [fN_s] at hi
    rw [lpX12_closes_6, e12, if_neg (nI_ge (by omega) (by omega)), ifeq (bitM_1 (show x < 31 by omega) (show S < 2 ^ 31 by omega)), inb_nI (show x < 12 by omega) (by decide), ck_true, ix_nI (by omega), H x (by omega), fb_orL, nI_1]
    by_cases z : S.testBit x = true
    · rw [if_pos z]
      rw [show ∀ u, hF hold S x u = u ||| hold x from fun u => if_pos z] at hi
      exact hi
    · rw [if_neg z]
      rw [show ∀ u, hF hold S x u = u from fun u => if_neg z] at hi
      exact hi
theorem cl46 {pc kc h d q : Nat} {k n' : ST} {nd : Nat → Nat} (hP : gPart pc kc h d k n') (hkc : kc ≤ 40) (hh : h ≤ 12) (hq : q ≤ 2000) (hd : d ≤ 2000) (hnd : ∀ i, nd i < 2 ^ 31) {S : Nat} (hS : S < 4096) (v3 v4 : Int32) (ho : ∀ i, i < pc → (if nI i = v3 then v4 else gA n' 116 i) = nI (nd i)) (v : Nat) (cont : Int64 → Int32 → ST → Option (Int64 × ST)) :
    ∀ (r g i : Nat), i + r = pc → r ≤ g → lpX12_closes_46 (nI S) (nI q) v3 v4 (g + 1) (lN (fN (fun i u => if inF k i (nI q) = true then pF k nd S i u else u) i v)) (nI i) n' cont = cont (lN (fN (fun i u => if inF k i (nI q) = true then pF k nd S i u else u) pc v)) (nI pc) n' := by
  obtain ⟨p1, p2, p3, p4, p5, p6, p7, p8⟩ := id hP
  intro r
  induction r with
  | zero =>
    intro g i hi _
    have : i = pc := by omega
    subst this
    rw [lpX12_closes_46, p3, if_pos (nI_le (by omega) (by omega))]
  | succ r ih =>
    intro g i hi hg
    obtain ⟨g, rfl⟩ : ∃ z, g = z + 1 := ⟨g - 1, by omega⟩
    have hi2 := ih g (i + 1) (by omega) (by omega)
    obtain ⟨⟨a, a1, a2⟩, ⟨T, w, s1, s2, s3, _⟩, _⟩ := p8 i (by omega)
    have hT : T < 4096 := Nat.lt_of_lt_of_le s2 (pow_le12 hh)
    have l1 : S &&& T < 4096 := Nat.lt_of_le_of_lt Nat.and_le_left hS
    have l2 := pcn_le (S &&& T) 12
    have e14 : vN (gA k 14 i) = T := by rw [s3, vN_nI (by omega)]
    have e13 : vN (gA k 13 i) = a := by rw [a2, vN_nI (by omega)]
    rw [fN_s] at hi2
    rw [lpX12_closes_46, p3, if_neg (nI_ge (by omega) (by omega)), force_M hP (show i < pc by omega) hq hd, ob_some]
    by_cases z : inF k i (nI q) = true
    · rw [if_pos z, inb_nI (show i < 40 by omega) (by decide), ck_true, ix_nI (by omega), p5, s3, fa_and, bc_of n' l1, ob_some, ck_true]
      rw [if_pos z] at hi2
      have jb : ∀ s0, s0 = nI (nd i) → jbX12_closes_95 (fun w5 w7 k => lpX12_closes_46 (nI S) (nI q) v3 v4 (g + 1) w5 w7 k cont) cont (nI S) (nI q) v3 v4 (lN (fN (fun i u => if inF k i (nI q) = true then pF k nd S i u else u) i v)) (nI i) s0 (nI (pcn (S &&& T) 12)) n' = cont (lN (fN (fun i u => if inF k i (nI q) = true then pF k nd S i u else u) pc v)) (nI pc) n' := by
        intro s0 hs0
        unfold jbX12_closes_95
        rw [hs0, inb_nI (show i < 40 by omega) (by decide), ck_true, nm_eq, ix_nI (by omega), p4, a2, lshl1 (by omega), fb_orL, nI_1]
        by_cases y : nd i ≤ pcn (S &&& T) 12
        · rw [if_neg (nI_nlt y (by omega))]
          rw [show ∀ u, pF k nd S i u = u ||| 2 ^ a from fun u => by unfold pF; rw [e14, e13, if_pos y]] at hi2
          exact hi2
        · rw [if_pos (nI_lt (by omega) (hnd i))]
          rw [show ∀ u, pF k nd S i u = u from fun u => by unfold pF; rw [e14, if_neg y]] at hi2
          exact hi2
      have ho2 := ho i (by omega)
      by_cases y : nI i = v3
      · rw [if_pos y] at ho2 ⊢
        exact jb _ ho2
      · rw [if_neg y] at ho2 ⊢
        exact jb _ ho2
    · rw [if_neg z, nI_1]
      rw [if_neg z] at hi2
      exact hi2
theorem cl133 {kc d : Nat} {k n' : ST} {q : Int32} (hK : gKeys kc d k n') (v1 v3 v4 v7 : Int32) (v8 : Int64) (v : Nat) (hv : v < 2 ^ 40) (cont : Int64 → Int32 → ST → Option (Int64 × ST)) :
    ∀ (r g j : Nat), j + r = kc → r ≤ g → lpX12_closes_133 v1 q v3 v4 v7 v8 (g + 1) (lN (fN (kF k q stp) j v)) (nI j) n' cont = cont (lN (fN (kF k q stp) kc v)) (nI kc) n' := by
  obtain ⟨q1, q2, q3, q4, q5, q6, q7, q8, q9⟩ := hK
  intro r
  induction r with
  | zero =>
    intro g j hj _
    have : j = kc := by omega
    subst this
    rw [lpX12_closes_133, q3, if_pos (nI_le (by omega) (by omega))]
  | succ r ih =>
    intro g j hj hg
    obtain ⟨g, rfl⟩ : ∃ z, g = z + 1 := ⟨g - 1, by omega⟩
    have hi := ih g (j + 1) (by omega) (by omega)
    rw [fN_s] at hi
    obtain ⟨_, _, r1, _⟩ := q9 j (by omega)
    have hl : fN (kF k q stp) j v < 2 ^ 40 := fN_inv (P := fun u : Nat => u < 2 ^ 40) (fun i hi u hu => by
      unfold kF
      split
      · exact stp_lt (by omega) hu
      · exact hu) hv
    generalize fN (kF k q stp) j v = u at hi hl ⊢
    rw [lpX12_closes_133, q3, if_neg (nI_ge (by omega) (by omega)), inb_nI (show j < 40 by omega) (by decide), ck_true, ck_true, ck_true, ix_nI (by omega), q4, q6, q7, nI_1]
    by_cases h1 : gA k 1 j = 2
    · rw [if_pos h1]
      by_cases h2 : q < gA k 3 j
      · rw [if_pos h2]
        rw [kF_n (fun z => z.2 h2)] at hi
        exact hi
      · rw [if_neg h2]
        obtain ⟨a, a1, a2⟩ := r1 h1
        rw [kF_y ⟨h1, h2⟩, a2, vN_nI (by omega)] at hi
        rw [a2, ifeq (lbit hl (show a < 64 by omega)), lshl1 (by omega), fb_orL]
        unfold stp at hi
        by_cases z : u.testBit a = true
        · rw [if_pos z]
          rw [if_pos z] at hi
          exact hi
        · rw [if_neg z]
          rw [if_neg z] at hi
          exact hi
    · rw [if_neg h1]
      rw [kF_n (fun z => h1 z.1)] at hi
      exact hi
theorem cl199 {wc kc d q : Nat} {k n' : ST} (hW : gWrap wc kc d k n') (hkc : kc ≤ 40) (hq : q ≤ 2000) (hd : d ≤ 2000) (v1 v3 v4 v7 : Int32) (v8 : Int64) (v : Nat) (hv : v < 2 ^ 40) (cont : Int64 → Int32 → ST → Option (Int64 × ST)) :
    ∀ (r g j : Nat), j + r = wc → r ≤ g → lpX12_closes_199 v1 (nI q) v3 v4 v7 v8 (g + 1) (lN (fN (wF k (nI q) stp) j v)) (nI j) n' cont = cont (lN (fN (wF k (nI q) stp) wc v)) (nI wc) n' := by
  obtain ⟨q1, q2, q3, q4, q5, q6, q7⟩ := id hW
  intro r
  induction r with
  | zero =>
    intro g j hj _
    have : j = wc := by omega
    subst this
    rw [lpX12_closes_199, q3, if_pos (nI_le (by omega) (by omega))]
  | succ r ih =>
    intro g j hj hg
    obtain ⟨g, rfl⟩ : ∃ z, g = z + 1 := ⟨g - 1, by omega⟩
    have hi := ih g (j + 1) (by omega) (by omega)
    rw [fN_s] at hi
    obtain ⟨⟨a, a1, a2⟩, ⟨b, b1, b2⟩, _⟩ := q7 j (by omega)
    have hl : fN (wF k (nI q) stp) j v < 2 ^ 40 := fN_inv (P := fun u : Nat => u < 2 ^ 40) (fun i hi u hu => by
      unfold wF
      split
      · obtain ⟨⟨a, a1, a2⟩, _⟩ := q7 i (by omega)
        refine stp_lt ?_ hu
        rw [a2, vN_nI (by omega)]
        omega
      · exact hu) hv
    generalize fN (wF k (nI q) stp) j v = u at hi hl ⊢
    rw [lpX12_closes_199, q3, if_neg (nI_ge (by omega) (by omega)), wrap_M hW (show j < wc by omega) hq hd, ob_some, inb_nI (show j < 40 by omega) (by decide), ck_true, ck_true, ix_nI (by omega), q4, q5, a2, b2, nm_eq, ifeq (lbit hl (show b < 64 by omega)), lshl1 (by omega), fb_orL, nI_1]
    by_cases h1 : onW k j (nI q) = true
    · rw [if_pos h1]
      rw [wF_y h1, a2, b2, vN_nI (by omega), vN_nI (by omega)] at hi
      unfold stp at hi
      by_cases z : u.testBit b = true
      · rw [if_pos z]
        rw [if_pos z] at hi
        exact hi
      · rw [if_neg z]
        rw [if_neg z] at hi
        exact hi
    · rw [if_neg h1]
      rw [wF_n h1] at hi
      exact hi
theorem cl121 {wc kc d q : Nat} {k n' : ST} (hK : gKeys kc d k n') (hW : gWrap wc kc d k n') (hq : q ≤ 2000) (hd : d ≤ 2000) (v1 v3 v4 : Int32) (cont : Int64 → Int32 → ST → Option (Int64 × ST)) :
    ∀ (r g v : Nat), v < 2 ^ 40 → 40 ≤ pcn v 40 + r → r + 1 ≤ g → lpX12_closes_121 v1 (nI q) v3 v4 (g + 1) (lN v) 1 n' cont = cont (lN (clo (psG k (nI q) kc wc stp) v)) 0 n' := by
  have hA : addsIn 40 (psG k (nI q) kc wc stp) := ps_adds hK hW
  have hkc := hK.1
  have hwc := hW.1
  have body : ∀ g v, v < 2 ^ 40 → lpX12_closes_121 v1 (nI q) v3 v4 (g + 1) (lN v) 1 n' cont = if lN (psG k (nI q) kc wc stp v) = lN v then lpX12_closes_121 v1 (nI q) v3 v4 g (lN (psG k (nI q) kc wc stp v)) 0 n' cont else lpX12_closes_121 v1 (nI q) v3 v4 g (lN (psG k (nI q) kc wc stp v)) 1 n' cont := by
    intro g v hv
    rw [lpX12_closes_121, if_neg (by decide), FU_g]
    have hl : fN (kF k (nI q) stp) kc v < 2 ^ 40 := fN_inv (P := fun u : Nat => u < 2 ^ 40) (fun i hi u hu => by
      unfold kF
      split
      · exact stp_lt (by omega) hu
      · exact hu) hv
    refine Eq.trans (cl133 hK v1 v3 v4 1 (lN v) v hv _ kc 4999 0 (by omega) (by omega)) ?_
    exact cl199 hW hkc hq hd v1 v3 v4 1 (lN v) (fN (kF k (nI q) stp) kc v) hl _ wc 4999 0 (by omega) (by omega)
  intro r
  induction r with
  | zero =>
    intro g v hv hr hg
    obtain ⟨g, rfl⟩ : ∃ z, g = z + 1 := ⟨g - 1, by omega⟩
    have e : psG k (nI q) kc wc stp v = v := itN_full hA 0 v hv (by omega)
    rw [body _ v hv, e, if_pos rfl, lpX12_closes_121, if_pos rfl]
    unfold clo
    rw [itN_fix e]
  | succ r ih =>
    intro g v hv hr hg
    obtain ⟨g, rfl⟩ : ∃ z, g = z + 1 := ⟨g - 1, by omega⟩
    rw [body _ v hv, ifeq (lN_ne (hA v hv).1 hv)]
    by_cases e : psG k (nI q) kc wc stp v = v
    · rw [if_pos e, e, lpX12_closes_121, if_pos rfl]
      unfold clo
      rw [itN_fix e]
    · have := adds_pcn hA hv e
      rw [if_neg e, ih g _ (hA v hv).1 (by omega) (by omega), clo_step hA hv]
theorem closes_M {pc kc h d wc q : Nat} {k n' : ST} {nd hold : Nat → Nat} (e12 : gI n' 11 12 = nI h) (hK : gKeys kc d k n') (hW : gWrap wc kc d k n') (hP : gPart pc kc h d k n') (hh : h ≤ 12) (hq : q ≤ 2000) (hd : d ≤ 2000) (hnd : ∀ i, nd i < 2 ^ 31) (Hh : ∀ x, x < 12 → hold x < 2 ^ 40) (H : ∀ x, x < h → gL n' 122 x = lN (hold x)) {S : Nat} (hS : S < 2 ^ h) (v3 v4 : Int32) (ho : ∀ i, i < pc → (if nI i = v3 then v4 else gA n' 116 i) = nI (nd i)) :
    fX12_closes n' (nI S) (nI q) v3 v4 = some (lN (getS k (nI q) kc wc pc nd hold S), n') := by
  have hS2 : S < 4096 := Nat.lt_of_lt_of_le hS (pow_le12 hh)
  unfold fX12_closes
  rw [FU_g]
  refine Eq.trans (cl6 e12 hh H hS (nI q) v3 v4 _ h 4999 0 (by omega) (by omega)) ?_
  have hpc := hP.1
  refine Eq.trans (cl46 hP hK.1 hh hq hd hnd hS2 v3 v4 ho (fN (hF hold S) 12 0) _ pc 4999 0 (by omega) (by omega)) ?_
  exact cl121 hK hW hq hd (nI S) v3 v4 _ 40 4999 (oncE k (nI q) pc nd hold S) (once_lt hP hK.1 Hh S) (by omega) (by omega)
/-- both, from the relation: day q, all sets -/
theorem reach_of {t d h kc gc wc pc q : Nat} {k n : ST} (ht : t < 513) (hBB : gB d h k n) (hK : gKeys kc d k n) (hG : gTurn t gc h kc d k n) (hW : gWrap wc kc d k n) (hP : gPart pc kc h d k n) (hq : q ≤ d) :
    ∃ k' n' hold, fX11_settleReach k (nI q) = some ((), k') ∧ fX12_layHas n (nI q) = some ((), n') ∧ rcK k (nI q) kc wc pc (fun i => vN (gA k 15 i)) hold k' ∧ isM n n' ∧ (∀ x, x < h → gL n' 122 x = lN (hold x)) := by
  obtain ⟨b1, b2, b3, b4, b5, b6⟩ := hBB
  obtain ⟨g1, g2, g3, g4, g5, g6, g7, g8, g9⟩ := id hG
  obtain ⟨p, p1, p2, p3⟩ := cut_at (gA k 52) (nI q) gc g8
  obtain ⟨k', hold, a1, a2, a3⟩ := settle_of ht b4 hK hG hW hP p1 p2 p3
  obtain ⟨n', c1, c2, c3⟩ := layHas_of ht hG b6 hK.2.2.1 b4 hK.1 p1 p2 p3
  refine ⟨k', n', hold, a1, c1, a2, c2, fun x hx => ?_⟩
  obtain ⟨b, d1, d2, d3⟩ := c3 x hx
  rw [d2]
  refine congrArg lN (Nat.eq_of_testBit_eq fun y => ?_)
  obtain ⟨_, _, _, a4⟩ := a2
  have hl := (a4 x (by omega)).1
  rcases Nat.lt_or_ge y 40 with z | z
  · rw [d3 y z, a3 x (by omega) y z]
  · rw [Nat.testBit_lt_two_pow (Nat.lt_of_lt_of_le d1 (Nat.pow_le_pow_right (by decide) z)), Nat.testBit_lt_two_pow (Nat.lt_of_lt_of_le hl (Nat.pow_le_pow_right (by decide) z))]
theorem need_no {pc kc h d : Nat} {k n' : ST} (hP : gPart pc kc h d k n') : ∀ i, i < pc → (if nI i = -1 then 0 else gA n' 116 i) = nI (vN (gA k 15 i)) := fun i hi => by
  obtain ⟨p1, p2, p3, p4, p5, p6, p7, p8⟩ := hP
  obtain ⟨_, ⟨S, w, s1, s2, s3, w1, w2, w3, _⟩, _⟩ := p8 i hi
  have := pcn_le S 12
  rw [if_neg (nI_ne_m1 (by omega)), p6, w3, vN_nI (by omega)]
theorem vN_lt (a : Int32) : vN a < 2 ^ 31 := by
  unfold vN
  have := Int32.toInt_lt a
  omega
theorem pair_got (t : Nat) (k n : ST) (a0 : Int32) (a1 : Int32) (ht : t < 512) (hr : Rel t k n) : PR (t + 1) (fX11_got k a0 a1) (fX12_got n a0 a1) := by
  have hr1 := rel_thr 0 hr
  unfold fX11_got fX12_got 
  simp only [nm_eq]
  generalize sI n 11 0 0 = n at hr1 ⊢
  have hr0 := rel_step hr1
  obtain ⟨d, h, kc, bc, gc, wc, pc, rc, dc, tc, sc, ic, lc, fc, ln, bn, hB, hK, hU, hG, hW, hP, hR, hD, hT, hS, hI, hL, hF, hA, hJ, hX⟩ := hr1
  obtain ⟨b1, b2, b3, b4, b5, b6⟩ := id hB
  rw [set_of b5 b4, are_of b6 b4, ob_some, ob_some]
  by_cases h1 : in1 a0 1 (2 ^ h - 1) = true
  case neg =>
    rw [if_neg h1, if_neg h1]
    exact PR_mk hr0
  rw [if_pos h1, if_pos h1, past_of b2 (by omega), known_of b3 (by omega), ob_some, ob_some]
  by_cases h2 : in1 a1 0 d = true
  case neg =>
    rw [if_neg h2, if_neg h2]
    exact PR_mk hr0
  rw [if_pos h2, if_pos h2]
  have hpos : 0 < 2 ^ h := Nat.two_pow_pos h
  have hp12 := pow_le12 b4
  obtain ⟨S, S1, S2, rfl⟩ := in1_of h1 (by omega)
  obtain ⟨q, q1, q2, rfl⟩ := in1_of h2 (by omega)
  obtain ⟨k', n', hold, c1, c2, c3, c4, c5⟩ := reach_of (by omega) hB hK hG hW hP q2
  have cM : ∀ S, S < 2 ^ h → fX12_closes n' (nI S) (nI q) (-1) 0 = some (lN (getS k (nI q) kc wc pc (fun i => vN (gA k 15 i)) hold S), n') := fun S hS => closes_M (by rw [c4.i 11 12 (by decide)]; exact b6) (c4.gK hK) (c4.gW hW) (c4.gP hP) b4 (by omega) b1 (fun i => vN_lt _) (fun x hx => (c3.2.2.2 x hx).1) c5 hS (-1) 0 (need_no (c4.gP hP))
  have cK : ∀ S, S < 2 ^ h → fX4_gets k' (nI S) = some (lN (getS k (nI q) kc wc pc (fun i => vN (gA k 15 i)) hold S), k') := fun S hS => gets_K hK hW hP b4 (fun i => vN_lt _) c3 (Nat.lt_of_lt_of_le hS (pow_le12 b4))
  unfold fX12_gets
  rw [c1, ob_some, c2, ob_some, cK S (by omega), cM S (by omega), ob_some, ob_some, ob_some]
  exact PR_mk (c4.rel (c3.1.rel hr0))
theorem all_tab : ∀ c : Fin 41, (j_lshl 1 (nI c.val)) - 1 = (if nI c.val = 0 then (0 : Int64) else j_lushr (-1) (64 - nI c.val)) := by decide +kernel
theorem oth_of {h S : Nat} (hh : h ≤ 12) : ((j_shl 1 (nI h)) - 1) &&& (nI S ^^^ (-1)) = nI ((2 ^ h - 1) &&& (S ^^^ 4294967295)) ∧ ((2 ^ h - 1) &&& (S ^^^ 4294967295)) < 2 ^ h := by
  have hpos : 0 < 2 ^ h := Nat.two_pow_pos h
  rw [shl1 h (by omega), show nI (2 ^ h) - 1 = nI (2 ^ h - 1) from pk_sub (b := 1) hpos, show (-1 : Int32) = nI 4294967295 by decide, fb_xorI, fa_and]
  exact ⟨rfl, Nat.lt_of_le_of_lt Nat.and_le_left (by omega)⟩
theorem pair_fallen (t : Nat) (k n : ST) (a0 : Int32) (a1 : Int32) (ht : t < 512) (hr : Rel t k n) : PR (t + 1) (fX11_fallen k a0 a1) (fX12_fallen n a0 a1) := by
  have hr1 := rel_thr 0 hr
  unfold fX11_fallen fX12_fallen 
  simp only [nm_eq]
  generalize sI n 11 0 0 = n at hr1 ⊢
  have hr0 := rel_step hr1
  obtain ⟨d, h, kc, bc, gc, wc, pc, rc, dc, tc, sc, ic, lc, fc, ln, bn, hB, hK, hU, hG, hW, hP, hR, hD, hT, hS, hI, hL, hF, hA, hJ, hX⟩ := hr1
  obtain ⟨b1, b2, b3, b4, b5, b6⟩ := id hB
  obtain ⟨f1, f2, f3, f4, f5⟩ := hF
  obtain ⟨q1, q2, q3, q4, q5, q6, q7, q8, q9⟩ := id hK
  rw [sX11_isFall f2 (by omega), sX12_isFall f3 (by omega), ob_some, ob_some]
  by_cases h1 : inb a0 fc = true
  case neg =>
    rw [if_neg h1, if_neg h1]
    exact PR_mk hr0
  rw [if_pos h1, if_pos h1, show fX12_isIn n a1 0 1 = some (in1 a1 0 1, n) from isIn_nI n a1 0 1 (by decide) (by decide), ob_some]
  obtain ⟨i, hi, rfl⟩ := inb_of h1 (by omega)
  obtain ⟨S, S1, S2, S3⟩ := f5 i hi
  obtain ⟨k', n', hold, c1, c2, c3, c4, c5⟩ := reach_of (by omega) hB hK hG hW hP (Nat.le_refl d)
  have cM : ∀ S, S < 2 ^ h → fX12_closes n' (nI S) (nI d) (-1) 0 = some (lN (getS k (nI d) kc wc pc (fun i => vN (gA k 15 i)) hold S), n') := fun S hS => closes_M (by rw [c4.i 11 12 (by decide)]; exact b6) (c4.gK hK) (c4.gW hW) (c4.gP hP) b4 (by omega) b1 (fun i => vN_lt _) (fun x hx => (c3.2.2.2 x hx).1) c5 hS (-1) 0 (need_no (c4.gP hP))
  have cK : ∀ S, S < 2 ^ h → fX4_gets k' (nI S) = some (lN (getS k (nI d) kc wc pc (fun i => vN (gA k 15 i)) hold S), k') := fun S hS => gets_K hK hW hP b4 (fun i => vN_lt _) c3 (Nat.lt_of_lt_of_le hS (pow_le12 b4))
  have g1 : inb (nI i) 20 = true := inb_nI (by omega) (by decide)
  have g2 : ix (nI i) = i := ix_nI (by omega)
  by_cases h2 : in1 a1 0 1 = true
  · obtain ⟨z, z1, z2, rfl⟩ := in1_of h2 (by decide)
    rw [if_neg (nI_pos (by omega)), if_pos (show nI z ≤ 1 from nI_le (b := 1) z2 (by decide)), if_pos h2, b2, c1, ob_some, g1, ck_true, g2]
    unfold fX12_gets fX12_allKeys fX1_all fX11_othersThan fX11_allHolders fX12_others
    have hz : z = 0 ∨ z = 1 := by omega
    rcases hz with rfl | rfl
    · rw [if_neg (show ¬ nI 0 = 1 by decide), if_neg (show ¬ nI 0 = 1 by decide), ob_some, ck_true, ob_some, ob_some, c3.1.i 10 1 (by decide) (by decide), c3.1.a 58 rfl, c3.1.i 0 0 (by decide) (by decide), b5, S3, q2, q3, (oth_of (S := S) b4).1, cK _ (oth_of (S := S) b4).2, ob_some]
      have hall := all_tab ⟨kc, by omega⟩
      dsimp only at hall
      have hM : (if nI kc = 0 then some ((0 : Int64), n) else some (j_lushr (-1) (64 - nI kc), n)) = some ((j_lshl 1 (nI kc)) - 1, n) := by
        rw [hall]
        split <;> rfl
      rw [hM, ob_some, ck_true, f4, S3, ob_some, b6, (oth_of (S := S) b4).1, b3, c2, ob_some, cM _ (oth_of (S := S) b4).2, ob_some, ob_some]
      exact PR_mk (c4.rel (c3.1.rel hr0))
    · rw [if_pos (show nI 1 = 1 from rfl), if_pos (show nI 1 = 1 from rfl), ck_true, c3.1.a 58 rfl, f4, S3, cK S S2, ob_some, b3, c2, ob_some, cM S S2, ob_some, ob_some]
      exact PR_mk (c4.rel (c3.1.rel hr0))
  · rw [if_neg h2]
    by_cases h3 : a1 < 0
    · rw [if_pos h3]
      exact PR_mk hr0
    · rw [if_neg h3, if_neg]
      · exact PR_mk hr0
      · intro q
        obtain ⟨z, hz, rfl⟩ := nI_of h3
        have : z ≤ 1 := (nI_leI (b := 1) hz (by decide)).mp q
        exact h2 (in1_iff.mpr ⟨by rw [nI_toInt hz]; omega, by rw [nI_toInt hz]; omega⟩)
