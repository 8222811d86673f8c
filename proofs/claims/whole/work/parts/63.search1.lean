/-! BACKWARDS: a key is reached from v just when v meets the key's sources -/
def subs (u v : Nat) : Prop := ∀ x, u.testBit x = true → v.testBit x = true
theorem stp_up (a b v : Nat) : subs v (stp a b v) := fun x h => by
  unfold stp
  split
  · rw [fb_bit_set, h]
    rfl
  · exact h
theorem stp_sub {a b u C : Nat} (h : subs u C) (hc : C.testBit a = true → C.testBit b = true) : subs (stp a b u) C := fun x hx => by
  unfold stp at hx
  by_cases z : u.testBit a = true
  · rw [if_pos z, fb_bit_set, Bool.or_eq_true] at hx
    rcases hx with q | q
    · exact h x q
    · rw [of_decide_eq_true q]
      exact hc (h a z)
  · rw [if_neg z] at hx
    exact h x hx
theorem subs_eq {u v : Nat} (h1 : subs u v) (h2 : subs v u) : u = v := Nat.eq_of_testBit_eq fun x => by
  rw [Bool.eq_iff_iff]
  exact ⟨h1 x, h2 x⟩
theorem fN_up (fr to : Nat → Nat) (v : Nat) : ∀ c, subs v (fN (fun i => stp (fr i) (to i)) c v)
  | 0 => fun _ h => h
  | c + 1 => fun x h => stp_up _ _ _ x (fN_up fr to v c x h)
theorem fN_closed (fr to : Nat → Nat) (v : Nat) : ∀ c, fN (fun i => stp (fr i) (to i)) c v = v → ∀ i, i < c → v.testBit (fr i) = true → v.testBit (to i) = true
  | 0, _, i, hi, _ => absurd hi (Nat.not_lt_zero i)
  | c + 1, h, i, hi, hf => by
    rw [fN_s] at h
    have e : fN (fun i => stp (fr i) (to i)) c v = v := subs_eq (fun x hx => by
      have := stp_up (fr c) (to c) _ x hx
      rw [h] at this
      exact this) (fN_up fr to v c)
    rcases Nat.lt_or_ge i c with q | q
    · exact fN_closed fr to v c e i q hf
    · have : i = c := by omega
      subst this
      rw [e] at h
      unfold stp at h
      rw [if_pos hf] at h
      rw [← h, fb_bit_set, decide_eq_true rfl, Bool.or_true]
theorem fN_in (fr to : Nat → Nat) {v C : Nat} (c : Nat) (hc : ∀ i, i < c → C.testBit (fr i) = true → C.testBit (to i) = true) (h : subs v C) : subs (fN (fun i => stp (fr i) (to i)) c v) C :=
  fN_inv (P := fun u => subs u C) (fun i hi u hu => stp_sub hu (hc i hi)) h
theorem itN_in {P : Nat → Nat} {C : Nat} (h : ∀ v, subs v C → subs (P v) C) : ∀ r v, subs v C → subs (itN P r v) C
  | 0, _, hv => hv
  | r + 1, v, hv => itN_in h r (P v) (h v hv)
theorem itN_up {P : Nat → Nat} (h : ∀ v, subs v (P v)) : ∀ r v, subs v (itN P r v)
  | 0, _ => fun _ q => q
  | r + 1, v => fun x q => itN_up h r (P v) x (h v x q)
theorem step_adds (fr to : Nat → Nat) (c : Nat) (ht : ∀ i, i < c → to i < 40) : addsIn 40 (fN (fun i => stp (fr i) (to i)) c) := fun v hv =>
  ⟨fN_inv (P := fun u => u < 2 ^ 40) (fun i hi u hu => stp_lt (ht i hi) hu) hv, fN_up fr to v c⟩
def cpl (v : Nat) : Nat := v ^^^ (2 ^ 40 - 1)
theorem cpl_bit (v : Nat) {x : Nat} (hx : x < 40) : (cpl v).testBit x = !(v.testBit x) := by
  unfold cpl
  rw [Nat.testBit_xor, Nat.testBit_two_pow_sub_one, decide_eq_true hx, Bool.xor_true]
theorem bit_lt {v x : Nat} (hv : v < 2 ^ 40) (h : v.testBit x = true) : x < 40 := by
  rcases Nat.lt_or_ge x 40 with q | q
  · exact q
  · rw [Nat.testBit_lt_two_pow (Nat.lt_of_lt_of_le hv (Nat.pow_le_pow_right (by decide) q))] at h
    cases h
theorem pow_bit (a x : Nat) : (2 ^ a).testBit x = true ↔ x = a := by
  rw [Nat.testBit_two_pow]
  exact ⟨fun h => (of_decide_eq_true h).symm, fun h => decide_eq_true h.symm⟩
theorem dual (fr to : Nat → Nat) (c : Nat) (hf : ∀ i, i < c → fr i < 40) (ht : ∀ i, i < c → to i < 40) {a v : Nat} (ha : a < 40) (hv : v < 2 ^ 40) :
    (clo (fN (fun i => stp (fr i) (to i)) c) v).testBit a = true ↔ ∃ x, v.testBit x = true ∧ (clo (fN (fun i => stp (to i) (fr i)) c) (2 ^ a)).testBit x = true := by
  have hA := step_adds fr to c ht
  have hB := step_adds to fr c hf
  have h2a : 2 ^ a < 2 ^ 40 := Nat.pow_lt_pow_right (by decide) ha
  have cF : ∀ i, i < c → (clo (fN (fun i => stp (fr i) (to i)) c) v).testBit (fr i) = true → (clo (fN (fun i => stp (fr i) (to i)) c) v).testBit (to i) = true := fN_closed fr to _ c (itN_full hA 41 v hv (by omega))
  have cB : ∀ i, i < c → (clo (fN (fun i => stp (to i) (fr i)) c) (2 ^ a)).testBit (to i) = true → (clo (fN (fun i => stp (to i) (fr i)) c) (2 ^ a)).testBit (fr i) = true := fN_closed to fr _ c (itN_full hB 41 _ h2a (by omega))
  have lF : clo (fN (fun i => stp (fr i) (to i)) c) v < 2 ^ 40 := itN_lt hA 41 v hv
  have lB : clo (fN (fun i => stp (to i) (fr i)) c) (2 ^ a) < 2 ^ 40 := itN_lt hB 41 _ h2a
  constructor
  · intro h
    refine Classical.byContradiction fun q => ?_
    have s1 : subs v (cpl (clo (fN (fun i => stp (to i) (fr i)) c) (2 ^ a))) := fun x hx => by
      rw [cpl_bit _ (bit_lt hv hx)]
      cases hb : (clo (fN (fun i => stp (to i) (fr i)) c) (2 ^ a)).testBit x
      · rfl
      · exact absurd ⟨x, hx, hb⟩ q
    have s2 := itN_in (P := fN (fun i => stp (fr i) (to i)) c) (C := cpl (clo (fN (fun i => stp (to i) (fr i)) c) (2 ^ a))) (fun u hu => fN_in fr to c (fun i hi => by
      rw [cpl_bit _ (hf i hi), cpl_bit _ (ht i hi)]
      intro z
      cases hb : (clo (fN (fun i => stp (to i) (fr i)) c) (2 ^ a)).testBit (to i)
      · rfl
      · rw [cB i hi hb] at z
        cases z) hu) 41 v s1 a h
    rw [cpl_bit _ ha, show (clo (fN (fun i => stp (to i) (fr i)) c) (2 ^ a)).testBit a = true from itN_up (fun v => fN_up to fr v c) 41 _ a ((pow_bit a a).mpr rfl)] at s2
    cases s2
  · rintro ⟨x, h1, h2⟩
    refine Classical.byContradiction fun q => ?_
    have q' : (clo (fN (fun i => stp (fr i) (to i)) c) v).testBit a = false := by simpa using q
    have s1 : subs (2 ^ a) (cpl (clo (fN (fun i => stp (fr i) (to i)) c) v)) := fun y hy => by
      rw [(pow_bit a y).mp hy, cpl_bit _ ha, q']
      rfl
    have s2 := itN_in (P := fN (fun i => stp (to i) (fr i)) c) (C := cpl (clo (fN (fun i => stp (fr i) (to i)) c) v)) (fun u hu => fN_in to fr c (fun i hi => by
      rw [cpl_bit _ (hf i hi), cpl_bit _ (ht i hi)]
      intro z
      cases hb : (clo (fN (fun i => stp (fr i) (to i)) c) v).testBit (fr i)
      · rfl
      · rw [cF i hi hb] at z
        cases z) hu) 41 _ s1 x h2
    rw [cpl_bit _ (bit_lt hv h1), show (clo (fN (fun i => stp (fr i) (to i)) c) v).testBit x = true from itN_up (fun v => fN_up fr to v c) 41 _ x h1] at s2
    cases s2
/-- the sources, as the class finds them -/
def rv (x y u : Nat) : Nat := stp y x u
theorem src30 {c : Nat} {k' : ST} {G : (Nat → Nat → Nat → Nat) → Nat → Nat} (h : stI c k' G) (hc : c ≤ 80) (a v7 : Int32) (b : Int64) (v : Nat) (hv : v < 2 ^ 40) (cont : Int64 → Int32 → ST → Option (Int64 × ST)) :
    ∀ (r g i : Nat), i + r = c → r ≤ g → lpX4_sourcesOf_30 a b v7 (g + 1) (lN (fN (fun i => rv (vN (gA k' 24 i)) (vN (gA k' 25 i))) i v)) (nI i) k' cont = cont (lN (G rv v)) (nI c) k' := by
  obtain ⟨h1, h2, h3⟩ := h
  have hlt : ∀ i, i ≤ c → fN (fun i => rv (vN (gA k' 24 i)) (vN (gA k' 25 i))) i v < 2 ^ 40 := fun i hi => fN_inv (P := fun u => u < 2 ^ 40) (fun j hj u hu => by
    obtain ⟨⟨b, b1, b2⟩, _⟩ := h2 j (by omega)
    refine stp_lt ?_ hu
    rw [b2, vN_nI (by omega)]
    exact b1) hv
  intro r
  induction r with
  | zero =>
    intro g i hi _
    have : i = c := by omega
    subst this
    rw [lpX4_sourcesOf_30, h1, if_pos (nI_le (by omega) (by omega)), h3 rv v]
  | succ r ih =>
    intro g i hi hg
    obtain ⟨g, rfl⟩ : ∃ z, g = z + 1 := ⟨g - 1, by omega⟩
    obtain ⟨⟨x, x1, x2⟩, y, y1, y2⟩ := h2 i (by omega)
    have hl := hlt i (by omega)
    have hi2 := ih g (i + 1) (by omega) (by omega)
    rw [fN_s, x2, y2, vN_nI (by omega), vN_nI (by omega)] at hi2
    generalize fN (fun i => rv (vN (gA k' 24 i)) (vN (gA k' 25 i))) i v = u at hi2 hl ⊢
    rw [lpX4_sourcesOf_30, h1, if_neg (nI_ge (by omega) (by omega)), inb_nI (show i < 80 by omega) (by decide), ck_true, ix_nI (by omega), y2, hasKey_of k' (by omega) (by omega), ob_some, ck_true, x2, nm_eq, lshl1 (by omega), fb_orL, nI_1]
    unfold rv stp at hi2
    by_cases z : u.testBit y = true
    · rw [if_pos z]
      rw [if_pos z] at hi2
      exact hi2
    · rw [if_neg z]
      rw [if_neg z] at hi2
      exact hi2
theorem src_lp {c : Nat} {k' : ST} {G : (Nat → Nat → Nat → Nat) → Nat → Nat} (h : stI c k' G) (hc : c ≤ 80) (hA : addsIn 40 (G rv)) (a : Int32) (cont : Int64 → Int64 → Int32 → ST → Option (Int64 × ST)) (R : Int64) (hR : ∀ y z, cont R y z k' = some (R, k')) :
    ∀ (r g j v : Nat) (prev : Int64), j + r = 41 → r ≤ g → v < 2 ^ 40 → (lN v = prev → G rv v = v) → R = lN (itN (G rv) r v) → lpX4_sourcesOf_10 a (g + 1) (lN v) prev (nI j) k' cont = some (R, k') := by
  intro r
  induction r with
  | zero =>
    intro g j v prev hj _ hv hp hr
    rw [lpX4_sourcesOf_10, if_pos (show (40 : Int32) < nI j from nI_lt (a := 40) (by omega) (by omega))]
    have : R = lN v := hr
    rw [← this]
    exact hR _ _
  | succ r ih =>
    intro g j v prev hj hg hv hp hr
    obtain ⟨g, rfl⟩ : ∃ z, g = z + 1 := ⟨g - 1, by omega⟩
    rw [lpX4_sourcesOf_10, if_neg (show ¬ (40 : Int32) < nI j from nI_nlt (b := j) (a := 40) (by omega) (by decide))]
    by_cases e : lN v = prev
    · rw [if_pos e]
      have : R = lN v := by rw [hr, itN_fix (hp e)]
      rw [← this]
      exact hR _ _
    · rw [if_neg e, FU_g]
      refine Eq.trans (src30 h hc a (nI j) (lN v) v hv _ c 4999 0 (by omega) (by omega)) ?_
      rw [nI_1]
      exact ih g (j + 1) (G rv v) (lN v) (by omega) (by omega) (hA v hv).1 (fun z => by
        rw [lN_ne (hA v hv).1 hv] at z
        rw [z, z]) hr
theorem st_fun {c : Nat} {k' : ST} {G : (Nat → Nat → Nat → Nat) → Nat → Nat} (h : stI c k' G) (F : Nat → Nat → Nat → Nat) : G F = fN (fun i => F (vN (gA k' 24 i)) (vN (gA k' 25 i))) c := funext fun v => (h.2.2 F v).symm
theorem st_lt {c : Nat} {k' : ST} {G : (Nat → Nat → Nat → Nat) → Nat → Nat} (h : stI c k' G) : (∀ i, i < c → vN (gA k' 24 i) < 40) ∧ ∀ i, i < c → vN (gA k' 25 i) < 40 := by
  constructor
  · intro i hi
    obtain ⟨⟨x, x1, x2⟩, _⟩ := h.2.1 i hi
    rw [x2, vN_nI (by omega)]
    exact x1
  · intro i hi
    obtain ⟨_, x, x1, x2⟩ := h.2.1 i hi
    rw [x2, vN_nI (by omega)]
    exact x1
def srcO (G : (Nat → Nat → Nat → Nat) → Nat → Nat) (a : Nat) : Nat := clo (G rv) (2 ^ a)
theorem src_adds {c : Nat} {k' : ST} {G : (Nat → Nat → Nat → Nat) → Nat → Nat} (h : stI c k' G) : addsIn 40 (G rv) := by
  rw [st_fun h rv]
  exact step_adds (fun i => vN (gA k' 25 i)) (fun i => vN (gA k' 24 i)) c (st_lt h).1
theorem src_of {c : Nat} {k' : ST} {G : (Nat → Nat → Nat → Nat) → Nat → Nat} (h : stI c k' G) (hc : c ≤ 80) {a : Nat} (ha : a < 40) : fX4_sourcesOf k' (nI a) = some (lN (srcO G a), k') ∧ srcO G a < 2 ^ 40 := by
  have h2a : 2 ^ a < 2 ^ 40 := Nat.pow_lt_pow_right (by decide) ha
  refine ⟨?_, itN_lt (src_adds h) 41 _ h2a⟩
  unfold fX4_sourcesOf
  rw [FU_g, lshl1 (by omega)]
  refine src_lp h hc (src_adds h) (nI a) _ (lN (srcO G a)) (fun _ _ => rfl) 41 4999 0 (2 ^ a) 0 (by decide) (by decide) h2a (fun z => ?_) rfl
  have : 2 ^ a = 0 := (fb_lN_inj (b := 0) (by omega) (by decide)).mp z
  have := Nat.two_pow_pos a
  omega
theorem src_dual {c : Nat} {k' : ST} {G : (Nat → Nat → Nat → Nat) → Nat → Nat} (h : stI c k' G) {a v : Nat} (ha : a < 40) (hv : v < 2 ^ 40) : (clo (G stp) v).testBit a = true ↔ ∃ x, v.testBit x = true ∧ (srcO G a).testBit x = true := by
  unfold srcO
  rw [st_fun h rv, st_fun h stp]
  exact dual (fun i => vN (gA k' 24 i)) (fun i => vN (gA k' 25 i)) c (st_lt h).1 (st_lt h).2 ha hv
/-- the holders of any of these keys -/
def hAny (hold : Nat → Nat) (src x u : Nat) : Nat := if hold x &&& src = 0 then u else u ||| 2 ^ x
theorem and0 {a b : Nat} : a &&& b = 0 ↔ ¬ ∃ x, a.testBit x = true ∧ b.testBit x = true := by
  constructor
  · rintro h ⟨x, h1, h2⟩
    have := congrArg (fun z => z.testBit x) h
    simp only [Nat.testBit_and, h1, h2, Nat.zero_testBit] at this
    cases this
  · intro h
    refine Nat.eq_of_testBit_eq fun x => ?_
    rw [Nat.testBit_and, Nat.zero_testBit]
    cases h1 : a.testBit x
    · rfl
    · cases h2 : b.testBit x
      · rfl
      · exact absurd ⟨x, h1, h2⟩ h
theorem hAny_lt (hold : Nat → Nat) (src : Nat) : fN (hAny hold src) 12 0 < 2 ^ 12 := fN_inv (P := fun u => u < 2 ^ 12) (fun i hi u hu => by
  unfold hAny
  split
  · exact hu
  · exact Nat.or_lt_two_pow hu (Nat.pow_lt_pow_right (by decide) hi)) (by decide)
theorem hAny_bit (hold : Nat → Nat) (src y : Nat) : ∀ m, (fN (hAny hold src) m 0).testBit y = true ↔ y < m ∧ hold y &&& src ≠ 0
  | 0 => by
    rw [show fN (hAny hold src) 0 0 = 0 from rfl, Nat.zero_testBit]
    exact ⟨(fun z => by cases z), fun z => absurd z.1 (Nat.not_lt_zero y)⟩
  | m + 1 => by
    rw [fN_s]
    have ih := hAny_bit hold src y m
    unfold hAny at ih ⊢
    by_cases z : hold m &&& src = 0
    · rw [if_pos z, ih]
      constructor
      · rintro ⟨p, q⟩
        exact ⟨by omega, q⟩
      · rintro ⟨p, q⟩
        refine ⟨?_, q⟩
        rcases Nat.lt_or_ge y m with e | e
        · exact e
        · have : y = m := by omega
          subst this
          exact absurd z q
    · rw [if_neg z, fb_bit_set, Bool.or_eq_true, ih, decide_eq_true_iff]
      constructor
      · rintro (⟨p, q⟩ | e)
        · exact ⟨by omega, q⟩
        · subst e
          exact ⟨by omega, z⟩
      · rintro ⟨p, q⟩
        rcases Nat.lt_or_ge y m with e | e
        · exact Or.inl ⟨e, q⟩
        · exact Or.inr (by omega)
theorem hany_of {k' : ST} {hold : Nat → Nat} (H : ∀ x, x < 12 → hold x < 2 ^ 40 ∧ gL k' 19 x = lN (hold x)) {src : Nat} (hs : src < 2 ^ 40) : fX4_holdersOfAny k' (lN src) = some (nI (fN (hAny hold src) 12 0), k') := by
  unfold fX4_holdersOfAny
  rw [FU_g]
  have key : ∀ (r g x : Nat), x + r = 12 → r ≤ g → lpX4_holdersOfAny_5 (lN src) (g + 1) (nI (fN (hAny hold src) x 0)) (nI x) k' (fun y4 y5 k6 => some (y4, k6)) = some (nI (fN (hAny hold src) 12 0), k') := by
    intro r
    induction r with
    | zero =>
      intro g x hx _
      have : x = 12 := by omega
      subst this
      rw [lpX4_holdersOfAny_5, if_pos (show (12 : Int32) ≤ nI 12 by decide)]
    | succ r ih =>
      intro g x hx hg
      obtain ⟨g, rfl⟩ : ∃ z, g = z + 1 := ⟨g - 1, by omega⟩
      have hi := ih g (x + 1) (by omega) (by omega)
      rw [fN_s] at hi
      have hlt : hold x &&& src < 2 ^ 40 := Nat.lt_of_le_of_lt Nat.and_le_right hs
      rw [lpX4_holdersOfAny_5, if_neg (n12 (by omega)), inb_nI (show x < 12 by omega) (by decide), ck_true, ix_nI (by omega), (H x (by omega)).2, fb_andL, ifeq (show (lN (hold x &&& src) = 0) = (hold x &&& src = 0) from lN_ne (b := 0) hlt (by decide)), shl1 x (by omega), fa_or, nI_1]
      by_cases z : hold x &&& src = 0
      · rw [if_pos z]
        rw [show ∀ u, hAny hold src x u = u from fun u => if_pos z] at hi
        exact hi
      · rw [if_neg z]
        rw [show ∀ u, hAny hold src x u = u ||| 2 ^ x from fun u => if_neg z] at hi
        exact hi
  exact key 12 4999 0 (by decide) (by decide)
/-- what is met at once, bit by bit -/
theorem hF_bit (hold : Nat → Nat) (S y : Nat) : ∀ m, (fN (hF hold S) m 0).testBit y = true ↔ ∃ x, x < m ∧ S.testBit x = true ∧ (hold x).testBit y = true
  | 0 => by
    rw [show fN (hF hold S) 0 0 = 0 from rfl, Nat.zero_testBit]
    exact ⟨(fun z => by cases z), fun ⟨x, h, _⟩ => absurd h (Nat.not_lt_zero x)⟩
  | m + 1 => by
    rw [fN_s]
    have ih := hF_bit hold S y m
    unfold hF at ih ⊢
    by_cases z : S.testBit m = true
    · rw [if_pos z, Nat.testBit_or, Bool.or_eq_true, ih]
      constructor
      · rintro (⟨x, p, q⟩ | e)
        · exact ⟨x, by omega, q⟩
        · exact ⟨m, by omega, z, e⟩
      · rintro ⟨x, p, q1, q2⟩
        rcases Nat.lt_or_ge x m with e | e
        · exact Or.inl ⟨x, e, q1, q2⟩
        · have : x = m := by omega
          subst this
          exact Or.inr q2
    · rw [if_neg z, ih]
      constructor
      · rintro ⟨x, p, q⟩
        exact ⟨x, by omega, q⟩
      · rintro ⟨x, p, q1, q2⟩
        refine ⟨x, ?_, q1, q2⟩
        rcases Nat.lt_or_ge x m with e | e
        · exact e
        · have : x = m := by omega
          subst this
          exact absurd q1 z
theorem pF_bit (k : ST) (q : Int32) (nd : Nat → Nat) (S y v : Nat) : ∀ m, (fN (fun i u => if inF k i q = true then pF k nd S i u else u) m v).testBit y = true ↔ v.testBit y = true ∨ ∃ i, i < m ∧ inF k i q = true ∧ nd i ≤ pcn (S &&& vN (gA k 14 i)) 12 ∧ vN (gA k 13 i) = y
  | 0 => ⟨fun h => Or.inl h, fun h => by
    rcases h with h | ⟨i, h, _⟩
    · exact h
    · exact absurd h (Nat.not_lt_zero i)⟩
  | m + 1 => by
    rw [fN_s]
    have ih := pF_bit k q nd S y v m
    have hx : (inF k m q = true ∧ nd m ≤ pcn (S &&& vN (gA k 14 m)) 12 ∧ vN (gA k 13 m) = y) ∨ (∃ i, i < m ∧ inF k i q = true ∧ nd i ≤ pcn (S &&& vN (gA k 14 i)) 12 ∧ vN (gA k 13 i) = y) ↔ ∃ i, i < m + 1 ∧ inF k i q = true ∧ nd i ≤ pcn (S &&& vN (gA k 14 i)) 12 ∧ vN (gA k 13 i) = y := by
      constructor
      · rintro (h | ⟨i, h, g⟩)
        · exact ⟨m, by omega, h⟩
        · exact ⟨i, by omega, g⟩
      · rintro ⟨i, h, g⟩
        rcases Nat.lt_or_ge i m with e | e
        · exact Or.inr ⟨i, e, g⟩
        · have : i = m := by omega
          subst this
          exact Or.inl g
    rw [← hx]
    generalize fN (fun i u => if inF k i q = true then pF k nd S i u else u) m v = u at ih ⊢
    by_cases z : inF k m q = true
    · rw [if_pos z]
      unfold pF
      by_cases z2 : nd m ≤ pcn (S &&& vN (gA k 14 m)) 12
      · rw [if_pos z2, fb_bit_set, Bool.or_eq_true, ih, decide_eq_true_iff]
        constructor
        · rintro ((h | h) | h)
          · exact Or.inl h
          · exact Or.inr (Or.inr h)
          · exact Or.inr (Or.inl ⟨z, z2, h.symm⟩)
        · rintro (h | ⟨_, _, h⟩ | h)
          · exact Or.inl (Or.inl h)
          · exact Or.inr h.symm
          · exact Or.inl (Or.inr h)
      · rw [if_neg z2, ih]
        constructor
        · rintro (h | h)
          · exact Or.inl h
          · exact Or.inr (Or.inr h)
        · rintro (h | ⟨_, h, _⟩ | h)
          · exact Or.inl h
          · exact absurd h z2
          · exact Or.inr h
    · rw [if_neg z, ih]
      constructor
      · rintro (h | h)
        · exact Or.inl h
        · exact Or.inr (Or.inr h)
      · rintro (h | ⟨h, _⟩ | h)
        · exact Or.inl h
        · exact absurd h z
        · exact Or.inr h
