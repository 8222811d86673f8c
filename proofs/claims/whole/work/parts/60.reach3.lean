/-! CLOSING -/
theorem pcn_sub {u v : Nat} : ∀ {m : Nat}, (∀ i, i < m → u.testBit i = true → v.testBit i = true) → pcn u m ≤ pcn v m
  | 0, _ => Nat.le_refl 0
  | m + 1, h => by
    have a := pcn_sub (u := u) (v := v) (m := m) (fun i hi => h i (by omega))
    have b := h m (by omega)
    unfold pcn
    cases hu : u.testBit m
    · rw [if_neg (by decide)]
      split <;> omega
    · rw [b hu, if_pos rfl]
      omega
theorem pcn_sub_lt {u v x : Nat} (hu : u.testBit x = false) (hv : v.testBit x = true) : ∀ {m : Nat}, x < m → (∀ i, i < m → u.testBit i = true → v.testBit i = true) → pcn u m < pcn v m
  | 0, h, _ => absurd h (Nat.not_lt_zero x)
  | m + 1, hx, h => by
    unfold pcn
    rcases Nat.lt_or_ge x m with q | q
    · have a := pcn_sub_lt hu hv q (fun i hi => h i (by omega))
      have b := h m (by omega)
      cases hz : u.testBit m
      · rw [if_neg (by decide)]
        split <;> omega
      · rw [b hz, if_pos rfl]
        omega
    · have e : x = m := by omega
      subst e
      have a := pcn_sub (u := u) (v := v) (m := x) (fun i hi => h i (by omega))
      rw [hu, hv, if_neg (by decide), if_pos rfl]
      omega
/-- a step that only adds, within m bits -/
def addsIn (m : Nat) (P : Nat → Nat) : Prop := ∀ v, v < 2 ^ m → P v < 2 ^ m ∧ ∀ i, v.testBit i = true → (P v).testBit i = true
theorem adds_pcn {m : Nat} {P : Nat → Nat} (h : addsIn m P) {v : Nat} (hv : v < 2 ^ m) (hne : P v ≠ v) : pcn v m < pcn (P v) m := by
  obtain ⟨h1, h2⟩ := h v hv
  have : ∃ x, x < m ∧ v.testBit x = false ∧ (P v).testBit x = true := Classical.byContradiction fun q => hne (Nat.eq_of_testBit_eq fun x => by
    rcases Nat.lt_or_ge x m with z | z
    · cases hx : v.testBit x
      · cases hy : (P v).testBit x
        · rfl
        · exact absurd ⟨x, z, hx, hy⟩ q
      · exact h2 x hx
    · rw [Nat.testBit_lt_two_pow (Nat.lt_of_lt_of_le h1 (Nat.pow_le_pow_right (by decide) z)), Nat.testBit_lt_two_pow (Nat.lt_of_lt_of_le hv (Nat.pow_le_pow_right (by decide) z))])
  obtain ⟨x, x1, x2, x3⟩ := this
  exact pcn_sub_lt x2 x3 x1 (fun i _ => h2 i)
def itN (P : Nat → Nat) : Nat → Nat → Nat
  | 0, v => v
  | r + 1, v => itN P r (P v)
theorem itN_fix {P : Nat → Nat} {v : Nat} (h : P v = v) : ∀ r, itN P r v = v
  | 0 => rfl
  | r + 1 => by
    unfold itN
    rw [h, itN_fix h r]
theorem itN_out {P : Nat → Nat} : ∀ r v, itN P r (P v) = P (itN P r v)
  | 0, _ => rfl
  | r + 1, v => by
    unfold itN
    rw [itN_out r (P v)]
theorem itN_full {m : Nat} {P : Nat → Nat} (h : addsIn m P) : ∀ r v, v < 2 ^ m → m ≤ pcn v m + r → P (itN P r v) = itN P r v
  | 0, v, hv, hr => Classical.byContradiction fun q => by
    have a := adds_pcn h hv (show P v ≠ v from q)
    have b := pcn_le (P v) m
    omega
  | r + 1, v, hv, hr => by
    by_cases e : P v = v
    · rw [itN_fix e]
      exact e
    · unfold itN
      have a := adds_pcn h hv e
      exact itN_full h r (P v) (h v hv).1 (by omega)
theorem itN_lt {m : Nat} {P : Nat → Nat} (h : addsIn m P) : ∀ r v, v < 2 ^ m → itN P r v < 2 ^ m
  | 0, _, hv => hv
  | r + 1, v, hv => itN_lt h r (P v) (h v hv).1
def clo (P : Nat → Nat) (v : Nat) : Nat := itN P 41 v
theorem clo_step {P : Nat → Nat} (h : addsIn 40 P) {v : Nat} (hv : v < 2 ^ 40) : clo P (P v) = clo P v := by
  unfold clo
  rw [itN_out, itN_full h 41 v hv (by omega)]
theorem lN_ne {a b : Nat} (ha : a < 2 ^ 40) (hb : b < 2 ^ 40) : (lN a = lN b) = (a = b) := propext (fb_lN_inj (by omega) (by omega))
theorem not_self (x : Int64) : ¬ x = x ^^^ (-1) := fun h => by
  have h2 : x ^^^ x = x ^^^ (x ^^^ (-1)) := congrArg (fun z => x ^^^ z) h
  rw [← Int64.xor_assoc, Int64.xor_self, Int64.zero_xor] at h2
  exact absurd h2 (by decide)
theorem onw32 {c : Nat} {k' : ST} {G : (Nat → Nat → Nat → Nat) → Nat → Nat} (h : stI c k' G) (hc : c ≤ 80) (a b : Int64) (v7 : Int32) (v : Nat) (hv : v < 2 ^ 40) (cont : Int64 → Int32 → ST → Option (Int64 × ST)) :
    ∀ (r g i : Nat), i + r = c → r ≤ g → lpX4_onward_32 a b v7 (g + 1) (lN (fN (fun i => stp (vN (gA k' 24 i)) (vN (gA k' 25 i))) i v)) (nI i) k' cont = cont (lN (G stp v)) (nI c) k' := by
  obtain ⟨h1, h2, h3⟩ := h
  have hlt : ∀ i, i ≤ c → fN (fun i => stp (vN (gA k' 24 i)) (vN (gA k' 25 i))) i v < 2 ^ 40 := fun i hi => fN_inv (P := fun u => u < 2 ^ 40) (fun j hj u hu => by
    obtain ⟨_, b, b1, b2⟩ := h2 j (by omega)
    refine stp_lt ?_ hu
    rw [b2, vN_nI (by omega)]
    exact b1) hv
  intro r
  induction r with
  | zero =>
    intro g i hi _
    have : i = c := by omega
    subst this
    rw [lpX4_onward_32, h1, if_pos (nI_le (by omega) (by omega)), h3 stp v]
  | succ r ih =>
    intro g i hi hg
    obtain ⟨g, rfl⟩ : ∃ z, g = z + 1 := ⟨g - 1, by omega⟩
    obtain ⟨⟨x, x1, x2⟩, y, y1, y2⟩ := h2 i (by omega)
    have hl := hlt i (by omega)
    have hi2 := ih g (i + 1) (by omega) (by omega)
    rw [fN_s, x2, y2, vN_nI (by omega), vN_nI (by omega)] at hi2
    rw [lpX4_onward_32, h1, if_neg (nI_ge (by omega) (by omega)), inb_nI (show i < 80 by omega) (by decide), ck_true, ix_nI (by omega), x2, hasKey_of k' (by omega) (by omega), ob_some, ck_true, y2, nm_eq, lshl1 (by omega), fb_orL, nI_1]
    unfold stp at hi2
    by_cases z : (fN (fun i => stp (vN (gA k' 24 i)) (vN (gA k' 25 i))) i v).testBit x = true
    · rw [if_pos z]
      unfold stp at z ⊢
      rw [if_pos z] at hi2
      exact hi2
    · rw [if_neg z]
      unfold stp at z ⊢
      rw [if_neg z] at hi2
      exact hi2
theorem onward_lp {c : Nat} {k' : ST} {G : (Nat → Nat → Nat → Nat) → Nat → Nat} (h : stI c k' G) (hc : c ≤ 80) (hA : addsIn 40 (G stp)) (a : Int64) (cont : Int64 → Int64 → Int32 → ST → Option (Int64 × ST)) (R : Int64) (hR : ∀ y z, cont R y z k' = some (R, k')) :
    ∀ (r g j v : Nat) (prev : Int64), j + r = 41 → r ≤ g → v < 2 ^ 40 → (lN v = prev → G stp v = v) → R = lN (itN (G stp) r v) → lpX4_onward_12 a (g + 1) (lN v) prev (nI j) k' cont = some (R, k') := by
  intro r
  induction r with
  | zero =>
    intro g j v prev hj _ hv hp hr
    rw [lpX4_onward_12, if_pos (show (40 : Int32) < nI j from nI_lt (a := 40) (by omega) (by omega))]
    have : R = lN v := hr
    rw [← this]
    exact hR _ _
  | succ r ih =>
    intro g j v prev hj hg hv hp hr
    obtain ⟨g, rfl⟩ : ∃ z, g = z + 1 := ⟨g - 1, by omega⟩
    rw [lpX4_onward_12, if_neg (show ¬ (40 : Int32) < nI j from nI_nlt (b := j) (a := 40) (by omega) (by decide))]
    by_cases e : lN v = prev
    · rw [if_pos e]
      have : R = lN v := by rw [hr, itN_fix (hp e)]
      rw [← this]
      exact hR _ _
    · rw [if_neg e, FU_g]
      refine Eq.trans (onw32 h hc a (lN v) (nI j) v hv _ c 4999 0 (by omega) (by omega)) ?_
      rw [nI_1]
      exact ih g (j + 1) (G stp v) (lN v) (by omega) (by omega) (hA v hv).1 (fun z => by
        rw [lN_ne (hA v hv).1 hv] at z
        rw [z, z]) hr
theorem onward_of {c : Nat} {k' : ST} {G : (Nat → Nat → Nat → Nat) → Nat → Nat} (h : stI c k' G) (hc : c ≤ 80) (hA : addsIn 40 (G stp)) {v : Nat} (hv : v < 2 ^ 40) : fX4_onward k' (lN v) = some (lN (clo (G stp) v), k') := by
  unfold fX4_onward
  rw [FU_g]
  exact onward_lp h hc hA (lN v) _ (lN (clo (G stp) v)) (fun _ _ => rfl) 41 4999 0 v _ (by decide) (by decide) hv (fun z => absurd z (not_self _)) rfl
/-! AT ONCE -/
def hF (hold : Nat → Nat) (S x u : Nat) : Nat := if S.testBit x = true then u ||| hold x else u
def pF (k : ST) (nd : Nat → Nat) (S i u : Nat) : Nat := if nd i ≤ pcn (S &&& vN (gA k 14 i)) 12 then u ||| 2 ^ vN (gA k 13 i) else u
def oncE (k : ST) (q : Int32) (pc : Nat) (nd hold : Nat → Nat) (S : Nat) : Nat := fN (fun i u => if inF k i q = true then pF k nd S i u else u) pc (fN (hF hold S) 12 0)
theorem at5 {k' : ST} {hold : Nat → Nat} (H : ∀ x, x < 12 → hold x < 2 ^ 40 ∧ gL k' 19 x = lN (hold x)) {S : Nat} (hS : S < 2 ^ 31) (cont : Int64 → Int32 → ST → Option (Int64 × ST)) :
    ∀ (r g x : Nat), x + r = 12 → r ≤ g → lpX4_atOnce_5 (nI S) (g + 1) (lN (fN (hF hold S) x 0)) (nI x) k' cont = cont (lN (fN (hF hold S) 12 0)) (nI 12) k' := by
  intro r
  induction r with
  | zero =>
    intro g x hx _
    have : x = 12 := by omega
    subst this
    rw [lpX4_atOnce_5, if_pos (show (12 : Int32) ≤ nI 12 by decide)]
  | succ r ih =>
    intro g x hx hg
    obtain ⟨g, rfl⟩ : ∃ z, g = z + 1 := ⟨g - 1, by omega⟩
    have hi := ih g (x + 1) (by omega) (by omega)
    rw [lpX4_atOnce_5, if_neg (n12 (by omega)), hasBit_of k' (by omega) hS, ob_some, inb_nI (show x < 12 by omega) (by decide), ck_true, ix_nI (by omega), (H x (by omega)).2, fb_orL, nI_1]
    rw [fN_s] at hi
    by_cases z : S.testBit x = true
    · rw [if_pos z]
      rw [show ∀ u, hF hold S x u = u ||| hold x from fun u => if_pos z] at hi
      exact hi
    · rw [if_neg z]
      rw [show ∀ u, hF hold S x u = u from fun u => if_neg z] at hi
      exact hi
theorem suff_of {k k' : ST} {S T a w : Nat} {i : Nat} (hi : i < 40) (hS : S < 4096) (hT : T < 4096) (hw : w < 2 ^ 31) (e1 : gA k' 21 i = nI T) (e2 : gA k' 22 i = nI w) : fX4_suffices k' (nI i) (nI S) = some (decide (w ≤ pcn (S &&& T) 12), k') := by
  unfold fX4_suffices
  have l1 : S &&& T < 4096 := Nat.lt_of_le_of_lt Nat.and_le_left hS
  have l2 := pcn_le (S &&& T) 12
  rw [inb_nI hi (by decide), ck_true, ix_nI (by omega), e1, fa_and, bc_of k' l1, ob_some, ck_true, e2]
  by_cases z : w ≤ pcn (S &&& T) 12
  · rw [if_neg (nI_nlt z (by omega)), decide_eq_true z]
  · rw [if_pos (nI_lt (by omega) hw), decide_eq_false z]
theorem at40 {pc kc h d c : Nat} {k n k' : ST} {q : Int32} {nd : Nat → Nat} (hP : gPart pc kc h d k n) (hkc : kc ≤ 40) (hh : h ≤ 12) (hnd : ∀ i, nd i < 2 ^ 31) (hc : c ≤ pc) (L : lvI k q nd pc c k') {S : Nat} (hS : S < 4096) (v : Nat) (cont : Int64 → Int32 → ST → Option (Int64 × ST)) :
    ∃ R, R = fN (fun i u => if inF k i q = true then pF k nd S i u else u) pc v ∧ lpX4_atOnce_40 (nI S) (4999 + 1) (lN v) (nI 0) k' cont = cont (lN R) (nI c) k' := by
  obtain ⟨p1, p2, p3, p4, p5, p6, p7, p8⟩ := hP
  obtain ⟨l1, lv, l2, l3⟩ := L
  refine ⟨_, rfl, ?_⟩
  rw [← l3 (pF k nd S) v]
  have key : ∀ (r g i : Nat), i + r = c → r ≤ g → lpX4_atOnce_40 (nI S) (g + 1) (lN (fN (fun i => pF k nd S (lv i)) i v)) (nI i) k' cont = cont (lN (fN (fun i => pF k nd S (lv i)) c v)) (nI c) k' := by
    intro r
    induction r with
    | zero =>
      intro g i hi _
      have : i = c := by omega
      subst this
      rw [lpX4_atOnce_40, l1, if_pos (nI_le (by omega) (by omega))]
    | succ r ih =>
      intro g i hi hg
      obtain ⟨g, rfl⟩ : ∃ z, g = z + 1 := ⟨g - 1, by omega⟩
      obtain ⟨m1, m2, m3, m4, m5⟩ := l2 i (by omega)
      obtain ⟨⟨a, a1, a2⟩, ⟨T, w, s1, s2, s3, _⟩, _⟩ := p8 (lv i) m1
      have hT : T < 4096 := Nat.lt_of_lt_of_le s2 (pow_le12 hh)
      have hi2 := ih g (i + 1) (by omega) (by omega)
      rw [fN_s] at hi2
      rw [lpX4_atOnce_40, l1, if_neg (nI_ge (by omega) (by omega)), inb_nI (show i < 40 by omega) (by decide), ck_true, ix_nI (by omega), m2, suff_of (k := k) (a := a) (show lv i < 40 by omega) hS hT (hnd (lv i)) (by rw [m4]; exact s3) m5, ob_some, ck_true, m2, inb_nI (show lv i < 40 by omega) (by decide), ck_true, nm_eq, ix_nI (show lv i < 2 ^ 31 by omega), m3, a2, lshl1 (by omega), fb_orL, nI_1]
      have e14 : vN (gA k 14 (lv i)) = T := by rw [s3, vN_nI (by omega)]
      have e13 : vN (gA k 13 (lv i)) = a := by rw [a2, vN_nI (by omega)]
      by_cases z : nd (lv i) ≤ pcn (S &&& T) 12
      · rw [decide_eq_true z, if_pos rfl]
        rw [show ∀ u, pF k nd S (lv i) u = u ||| 2 ^ a from fun u => by unfold pF; rw [e14, e13, if_pos z]] at hi2
        exact hi2
      · rw [decide_eq_false z, if_neg (by decide)]
        rw [show ∀ u, pF k nd S (lv i) u = u from fun u => by unfold pF; rw [e14, if_neg z]] at hi2
        exact hi2
  exact key c 4999 0 (by omega) (by have := p1; omega)
theorem once_lt {pc kc h d : Nat} {k n : ST} {q : Int32} {nd hold : Nat → Nat} (hP : gPart pc kc h d k n) (hkc : kc ≤ 40) (H : ∀ x, x < 12 → hold x < 2 ^ 40) (S : Nat) : oncE k q pc nd hold S < 2 ^ 40 := by
  unfold oncE
  obtain ⟨p1, p2, p3, p4, p5, p6, p7, p8⟩ := hP
  refine fN_inv (P := fun u => u < 2 ^ 40) (fun i hi u hu => ?_) (fN_inv (P := fun u => u < 2 ^ 40) (fun i hi u hu => ?_) (by decide))
  · split
    · unfold pF
      split
      · obtain ⟨⟨a, a1, a2⟩, _⟩ := p8 i hi
        rw [a2, vN_nI (by omega)]
        exact Nat.or_lt_two_pow hu (Nat.pow_lt_pow_right (by decide) (by omega))
      · exact hu
    · exact hu
  · unfold hF
    split
    · exact Nat.or_lt_two_pow hu (H i hi)
    · exact hu
theorem ps_adds {kc d wc : Nat} {k n : ST} {q : Int32} (hK : gKeys kc d k n) (hW : gWrap wc kc d k n) : addsIn 40 (psG k q kc wc stp) := by
  obtain ⟨q1, q2, q3, q4, q5, q6, q7, q8, q9⟩ := hK
  obtain ⟨w1, w2, w3, w4, w5, w6, w7⟩ := hW
  have hb : ∀ a b v i, v.testBit i = true → (stp a b v).testBit i = true := fun a b v i h => by
    unfold stp
    split
    · rw [fb_bit_set, h]
      rfl
    · exact h
  intro v hv
  unfold psG
  constructor
  · refine fN_inv (P := fun u => u < 2 ^ 40) (fun i hi u hu => ?_) (fN_inv (P := fun u => u < 2 ^ 40) (fun i hi u hu => ?_) hv)
    · unfold wF
      split
      · obtain ⟨⟨a, a1, a2⟩, _⟩ := w7 i hi
        refine stp_lt ?_ hu
        rw [a2, vN_nI (by omega)]
        omega
      · exact hu
    · unfold kF
      split
      · exact stp_lt (by omega) hu
      · exact hu
  · intro i hi
    refine fN_inv (P := fun u : Nat => u.testBit i = true) (fun j hj u hu => ?_) (fN_inv (P := fun u : Nat => u.testBit i = true) (fun j hj u hu => ?_) hi)
    · unfold wF
      split
      · exact hb _ _ _ _ hu
      · exact hu
    · unfold kF
      split
      · exact hb _ _ _ _ hu
      · exact hu
def getS (k : ST) (q : Int32) (kc wc pc : Nat) (nd hold : Nat → Nat) (S : Nat) : Nat := clo (psG k q kc wc stp) (oncE k q pc nd hold S)
theorem get_lt {pc kc h d wc : Nat} {k n : ST} {q : Int32} {nd hold : Nat → Nat} (hK : gKeys kc d k n) (hW : gWrap wc kc d k n) (hP : gPart pc kc h d k n) (H : ∀ x, x < 12 → hold x < 2 ^ 40) (S : Nat) : getS k q kc wc pc nd hold S < 2 ^ 40 :=
  itN_lt (ps_adds hK hW) 41 _ (once_lt hP hK.1 H S)
theorem gets_K {pc kc h d wc : Nat} {k n k' : ST} {q : Int32} {nd hold : Nat → Nat} (hK : gKeys kc d k n) (hW : gWrap wc kc d k n) (hP : gPart pc kc h d k n) (hh : h ≤ 12) (hnd : ∀ i, nd i < 2 ^ 31) (R : rcK k q kc wc pc nd hold k') {S : Nat} (hS : S < 4096) : fX4_gets k' (nI S) = some (lN (getS k q kc wc pc nd hold S), k') := by
  obtain ⟨r1, ⟨c, c1, c2⟩, ⟨c', c3, c4⟩, r4⟩ := R
  unfold fX4_gets fX4_atOnce
  rw [FU_g]
  have e1 := at5 r4 (S := S) (by omega) (fun y7 y8 k9 => lpX4_atOnce_40 (nI S) (4999 + 1) y7 0 k9 fun y19 y20 k21 => some (y19, k21)) 12 4999 0 (by decide) (by decide)
  obtain ⟨R, hR, e2⟩ := at40 hP hK.1 hh hnd c3 c4 hS (fN (hF hold S) 12 0) (fun y19 y20 k21 => some (y19, k21))
  have e3 : lpX4_atOnce_5 (nI S) (4999 + 1) 0 0 k' (fun y7 y8 k9 => lpX4_atOnce_40 (nI S) (4999 + 1) y7 0 k9 fun y19 y20 k21 => some (y19, k21)) = some (lN (oncE k q pc nd hold S), k') := by
    refine Eq.trans e1 (Eq.trans e2 ?_)
    rw [hR]
    rfl
  rw [e3, ob_some, onward_of c2 c1 (ps_adds hK hW) (once_lt hP hK.1 (fun x hx => (r4 x hx).1) S), ob_some]
  rfl
