theorem tb_dec {b : Bool} {p : Prop} [Decidable p] (h : p ↔ b = true) : b = decide p := by
  by_cases z : p
  · rw [decide_eq_true z]
    exact h.mp z
  · rw [decide_eq_false z]
    cases b
    · rfl
    · exact absurd (h.mpr rfl) z
theorem isQ.sl {y0 y : ST} (h : isQ y0 y) (f : Nat) (hf : f < 52 ∨ 57 < f) : gI y 11 f = gI y0 11 f := h.1 11 f (fun _ => hf)
/-- the laws hold in a state that knows these facts -/
theorem lawsE {y : ST} {sc ys no ds : Nat} {wt : Int} (h1 : sc ≤ 200) (h2 : gI y 11 51 = nI sc)
    (h3 : ∀ x, x < 12 → (lsM (gA y 131) (gA y 137) (gA y 132) (gA y 136) (gA y 133) (gI y 11 62) (gI y 11 58) (gI y 11 59) (gI y 11 60) (nI x) sc = 1 ↔ ys.testBit x = true) ∧ (lsM (gA y 131) (gA y 137) (gA y 132) (gA y 136) (gA y 133) (gI y 11 62) (gI y 11 58) (gI y 11 59) (gI y 11 60) (nI x) sc = 0 ↔ no.testBit x = true))
    (h4 : (gI y 11 62 = 0 ∧ ∀ x, x < 12 → gA y 138 x = b2i (ds.testBit x)) ∨ (¬ gI y 11 62 = 0 ∧ ds = 0))
    (h5 : (gI y 11 61 = -1 ∧ wt = -1) ∨ ∃ a f : Nat, f ≤ a ∧ a ≤ 2000 ∧ gI y 11 59 = nI a ∧ gI y 11 61 = nI f ∧ wt = (a : Int) - f) : laws y (eE ys no ds wt) (eN ys no ds wt) := by
  obtain ⟨p1, p2, p3, p4, p5, p6⟩ := lawsP ys no ds wt
  refine ⟨p1, p2, p3, p4, p5, p6, fun y' x hq hx => ?_, fun y' x hq hx => ?_, fun y' v hq hv => ?_⟩
  · have e := saysM (y := y') h1 (by rw [hq.sl 51 (Or.inl (by decide))]; exact h2) (nI x)
    rw [hq.2.1 131, hq.2.1 137, hq.2.1 132, hq.2.1 136, hq.2.1 133, hq.sl 62 (Or.inr (by decide)), hq.sl 58 (Or.inr (by decide)), hq.sl 59 (Or.inr (by decide)), hq.sl 60 (Or.inr (by decide))] at e
    have h3 := h3 x (by omega)
    refine ⟨_, e, fun st => ?_, fun st => ?_⟩
    · rw [evs_one, ev_104, tb_dec h3.1]
    · rw [evs_one, ev_110, tb_dec h3.2]
  · rcases h4 with ⟨d1, d2⟩ | ⟨d1, d2⟩
    · refine ⟨ds.testBit x, ?_, fun st => by rw [evs_one, ev_100]⟩
      unfold fX12_isDead
      rw [hq.sl 62 (Or.inr (by decide)), d1, if_pos rfl, inb_nI (show x < 12 by omega) (by decide), ck_true, ix_nI (by omega), hq.2.1 138, d2 x (by omega)]
      cases ds.testBit x with
      | false => rw [if_pos (show b2i false = 0 from rfl), ob_some, if_neg (by decide)]
      | true => rw [if_neg (show ¬ b2i true = 0 by decide), if_pos (show b2i true = 1 from rfl), ob_some, if_pos rfl]
    · refine ⟨false, ?_, fun st => by rw [evs_one, ev_100, d2, Nat.zero_testBit]⟩
      rw [hq.sl 62 (Or.inr (by decide)), if_neg d1]
  · rw [hq.sl 61 (Or.inr (by decide)), hq.sl 59 (Or.inr (by decide))]
    rcases h5 with ⟨d1, d2⟩ | ⟨a, f, f1, f2, f3, f4, f5⟩
    · refine ⟨false, by rw [d1, if_pos rfl], fun st => ?_⟩
      rw [evs_one, ev_119, d2, decide_eq_false (by omega)]
    · rw [f3, f4, if_neg (nI_ne_m1 (by omega)), pk_sub f1]
      refine ⟨decide ((v : Int) ≤ wt), ?_, fun st => by rw [evs_one, ev_119]⟩
      by_cases z : (v : Int) ≤ wt
      · rw [if_neg (nI_nlt (by omega) (by omega)), decide_eq_true z]
      · rw [if_pos (nI_lt (by omega) (by omega)), decide_eq_false z]
/-- in a search for a FAULT the answers do not matter -/
theorem lawsF {y : ST} {sc : Nat} (h1 : sc ≤ 200) (h2 : gI y 11 51 = nI sc) (h3 : ¬ gI y 11 62 = 0) : laws y (fun _ _ => True) (fun _ _ _ => True) := by
  refine ⟨fun _ _ _ => trivial, fun _ _ _ _ _ _ => trivial, fun _ _ _ _ _ _ => trivial, fun _ _ _ => trivial, fun _ _ _ _ _ _ _ => trivial, fun _ _ _ _ _ _ => trivial, fun y' x hq hx => ?_, fun y' x hq hx => ?_, fun y' v hq hv => ?_⟩
  · exact ⟨_, saysM (y := y') h1 (by rw [hq.sl 51 (Or.inl (by decide))]; exact h2) (nI x), trivial, trivial⟩
  · exact ⟨false, by rw [hq.sl 62 (Or.inr (by decide)), if_neg h3], trivial⟩
  · by_cases c : gI y' 11 61 = -1
    · exact ⟨false, by rw [if_pos c], trivial⟩
    · by_cases c2 : gI y' 11 59 - gI y' 11 61 < nI v
      · exact ⟨false, by rw [if_neg c, if_pos c2], trivial⟩
      · exact ⟨true, by rw [if_neg c, if_neg c2], trivial⟩
/-- one rule, here and there -/
theorem ruleOf {k n : ST} {rc r : Nat} (hR : gRule rc k n) (hr : r < rc) : ∃ ws : List Nat,
    (∀ (k' : ST) (V ds : Nat) (wt : Int32), isS k k' → V < 2 ^ 24 → ds < 2 ^ 31 → ∃ z', fX5_holds k' (nI r) (nI V) (nI ds) wt = some ((evs (V % 4096) (V / 4096) ds wt.toInt ws []).headD false, z') ∧ isS k z') ∧
    ∀ (y : ST) (ys no ds : Nat) (wt : Int), isM n y → laws y (eE ys no ds wt) (eN ys no ds wt) → ∃ y', fX12_holds y (nI r) = some ((evs ys no ds wt ws []).headD false, y') ∧ isQ y y' := by
  obtain ⟨r1, r2, r3, r4⟩ := hR
  obtain ⟨tx, L, ws, t1, t2, t3, t4, t5, t6, t7, t8⟩ := r4 r hr
  refine ⟨ws, fun k' V ds wt hs hV hds => ?_, fun y ys no ds wt hm hl => ?_⟩
  · obtain ⟨z', e1, e2⟩ := holdsK (k := k') (wt := wt) (ws := ws) hV hds r1 hr (by rw [hs.i 4 0 (by decide) (fun _ => rfl)]; exact r2) t4 (by rw [hs.a 27 rfl]; exact t5) (fun i hi => by rw [hs.a 26 rfl]; exact (t6 i hi).1) (mRule_ok t3)
    exact ⟨z', e1, hs.tr e2⟩
  · have a124 : gA y 124 = gA n 124 := hm.a 124 (by decide) (by decide)
    have a123 : gA y 123 = gA n 123 := hm.a 123 (by decide) (by decide)
    have ht : txM y 135 (160 * r) tx L := ⟨t1, by decide, by
      show 160 * r + L ≤ 3200
      omega, by decide, fun i hi => ⟨(t2 i hi).1, (t2 i hi).2, by
      show gA y 123 (160 * r + i) = _
      rw [a123]
      exact t8 i hi⟩⟩
    obtain ⟨y', v, e1, e2, e3⟩ := goM ht hl
    rw [t3] at e3
    have e3' : v = (evs ys no ds wt ws []).headD false := by
      rw [e3.2 []]
      rfl
    unfold fX12_holds
    rw [inb_nI (show r < 20 by omega) (by decide), ck_true, ix_nI (by omega), a124, t7, show (160 : Int32) * nI r = nI (160 * r) from pk_mul 160 r, e1, ob_some, e3']
    exact ⟨y', rfl, e2⟩
theorem min_le (a b e : Int32) : e ≤ (if b < a then b else a) ↔ ¬ a < e ∧ ¬ b < e := by
  by_cases c : b < a
  · rw [if_pos c, Int32.le_iff_toInt_le, Int32.lt_iff_toInt_lt, Int32.lt_iff_toInt_lt]
    have := Int32.lt_iff_toInt_lt.mp c
    omega
  · rw [if_neg c, Int32.le_iff_toInt_le, Int32.lt_iff_toInt_lt, Int32.lt_iff_toInt_lt]
    rw [Int32.lt_iff_toInt_lt] at c
    omega
theorem tb_lo {V x : Nat} (hx : x < 12) : (V % 4096).testBit x = V.testBit x := by
  have := Nat.testBit_mod_two_pow V 12 x
  rw [decide_eq_true hx, Bool.true_and] at this
  exact this
theorem tb_hi {V x : Nat} : (V / 4096).testBit x = V.testBit (x + 12) := by
  exact Nat.testBit_div_two_pow (n := 12) V x
/-- what a saying is about, here and there -/
theorem abD {k n : ST} {sc h tc d : Nat} (hh : h ≤ 12) (htc : tc ≤ 40) (hS : gSay sc h tc d k n) {x : Nat} (hx : x < 12) (i : Nat) (hi : i < sc) : gA k 31 i = nI (40 + x) ↔ gA n 137 i = 1 ∧ gA n 132 i = nI x := by
  obtain ⟨_, ab, _⟩ := hS.2.2.2.2.2.2.1 i hi
  rcases ab with ⟨a, a1, a2, a3, a4⟩ | ⟨a, a1, a2, a3, a4⟩
  · rw [a2, a4]
    refine ⟨fun z => ?_, fun z => absurd z.1 (by decide)⟩
    have := (nI_eq (by omega) (by omega)).mp z
    omega
  · rw [a2, a3, a4]
    refine ⟨fun z => ⟨rfl, ?_⟩, fun z => ?_⟩
    · have := (nI_eq (by omega) (by omega)).mp z
      rw [show a = x by omega]
    · have := (nI_eq (by omega) (by omega)).mp z.2
      rw [this]
theorem abT {k n : ST} {sc h tc d : Nat} (hh : h ≤ 12) (htc : tc ≤ 40) (hS : gSay sc h tc d k n) {x : Nat} (hx : x < tc) (i : Nat) (hi : i < sc) : gA k 31 i = nI x ↔ gA n 137 i = 0 ∧ gA n 132 i = nI x := by
  obtain ⟨_, ab, _⟩ := hS.2.2.2.2.2.2.1 i hi
  rcases ab with ⟨a, a1, a2, a3, a4⟩ | ⟨a, a1, a2, a3, a4⟩
  · rw [a2, a3, a4]
    exact ⟨fun z => ⟨rfl, z⟩, fun z => z.2⟩
  · rw [a2, a4]
    refine ⟨fun z => ?_, fun z => absurd z.1 (by decide)⟩
    have := (nI_eq (by omega) (by omega)).mp z
    omega
theorem abZ {k n : ST} {sc h tc d : Nat} (hS : gSay sc h tc d k n) (i : Nat) (hi : i < sc) : gA n 137 i = 0 ∨ gA n 137 i = 1 := by
  obtain ⟨_, ab, _⟩ := hS.2.2.2.2.2.2.1 i hi
  rcases ab with ⟨a, a1, a2, a3, a4⟩ | ⟨a, a1, a2, a3, a4⟩
  · exact Or.inl a4
  · exact Or.inr a4
theorem voLt {k n : ST} {sc h tc d : Nat} (hh : h ≤ 12) (hS : gSay sc h tc d k n) (o u : Int32) : vcS (gA k 30) (gA k 31) (gA k 32) (gA k 33) o u sc < 2 ^ 24 := vcS_lt sc (fun j hj => by
  obtain ⟨⟨b, b1, b2⟩, _⟩ := hS.2.2.2.2.2.2.1 j hj
  rw [b2, vN_nI (by omega)]
  omega)
