/-! DEATHS -/
/-- days since: the class's number, and what the model has -/
theorem waitK {k n : ST} {sc h tc d : Nat} (hd : d ≤ 2000) (hS : gSay sc h tc d k n) {a q : Nat} (ha : a ≤ 2000) (o : Int32) : ∃ wt : Int32,
    (if fyS (gA k 31) (gA k 32) (gA k 33) o (if nI q < nI a then nI q else nI a) sc 0 = -1 then (-1 : Int32) else nI a - fyS (gA k 31) (gA k 32) (gA k 33) o (if nI q < nI a then nI q else nI a) sc 0) = wt ∧
    ((fyS (gA k 31) (gA k 32) (gA k 33) o (if nI q < nI a then nI q else nI a) sc 0 = -1 ∧ wt.toInt = -1) ∨ ∃ e : Nat, e ≤ a ∧ fyS (gA k 31) (gA k 32) (gA k 33) o (if nI q < nI a then nI q else nI a) sc 0 = nI e ∧ wt.toInt = (a : Int) - e) := by
  refine ⟨_, rfl, ?_⟩
  rcases fyS_day hS o (if nI q < nI a then nI q else nI a) sc 0 (by omega) with e | ⟨e, e1, e2, e3⟩
  · rw [e, if_pos rfl]
    exact Or.inl ⟨rfl, toInt_m1⟩
  · rw [e3, if_neg (nI_ne_m1 (by omega))]
    have c := ((min_le (nI a) (nI q) (nI e)).mp e2).1
    have ce : e ≤ a := by
      rcases Nat.lt_or_ge a e with z | z
      · exact absurd (nI_lt z (by omega)) c
      · exact z
    exact Or.inr ⟨e, ce, rfl, pk_sub_toInt (by omega) (by omega)⟩
theorem deadOne {k n : ST} {d h rc dc tc sc a q x : Nat} (hd : d ≤ 2000) (hh : h ≤ 12) (htc : tc ≤ 40) (hR : gRule rc k n) (hD : gDeath dc h rc d k n) (hS : gSay sc h tc d k n) (ha : a ≤ 2000) (hx : x < 12) : ∃ b : Bool,
    (∀ k', isS k k' → ∃ z', fX11_isDead k' (nI x) (nI a) (nI q) = some (b, z') ∧ isS k z') ∧ (h ≤ x → b = false) ∧
    ∀ (y : ST) (g : Nat) (cont : Int32 → ST → Option (Unit × ST)), isM n y → gI y 11 62 = 1 → gI y 11 59 = nI a → gI y 11 60 = nI q → ∃ y', lpX12_findDead_17 (nI a) (nI q) (g + 1) (nI x) y cont = lpX12_findDead_17 (nI a) (nI q) g (nI (x + 1)) y' cont ∧ isM n y' ∧ gI y' 11 62 = 1 ∧ gI y' 11 59 = nI a ∧ gI y' 11 60 = nI q ∧ gA y' 138 = upd (gA y 138) x (b2i b) := by
  have hu := min_le (nI a) (nI q)
  have hV := voLt hh hS (nI (40 + x)) (if nI q < nI a then nI q else nI a)
  have hsd := fun z (hz : z < 12) => said (o := nI (40 + x)) (u := if nI q < nI a then nI q else nI a) (D := 1) (O := nI x) (T := nI a) (S := nI q) hh hS (abD hh htc hS hx) hu hz sc (Nat.le_refl _)
  obtain ⟨wt, hw1, hw2⟩ := waitK (q := q) hd hS ha (nI (40 + x))
  -- the model, up to the rule
  have mod : ∀ (y : ST), isM n y → gI y 11 62 = 1 → gI y 11 59 = nI a → gI y 11 60 = nI q → ∃ y3, isM n y3 ∧ gI y3 11 62 = 1 ∧ gI y3 11 59 = nI a ∧ gI y3 11 60 = nI q ∧ gA y3 138 = gA y 138 ∧
      (∀ g cont, lpX12_findDead_17 (nI a) (nI q) (g + 1) (nI x) y cont = if rod (gA k 34) (gA k 35) (gA k 36) (nI x) (nI q) dc = (-1) then ck (inb (nI x) 12) (nm (sA y3 138 (ix (nI x)) 0) fun k33 => lpX12_findDead_17 (nI a) (nI q) g (nI x + 1) k33 cont) else ob (fX12_holds y3 (rod (gA k 34) (gA k 35) (gA k 36) (nI x) (nI q) dc)) fun r34 k35 => if r34 = true then ck (inb (nI x) 12) (nm (sA k35 138 (ix (nI x)) 1) fun k39 => lpX12_findDead_17 (nI a) (nI q) g (nI x + 1) k39 cont) else ck (inb (nI x) 12) (nm (sA k35 138 (ix (nI x)) 0) fun k41 => lpX12_findDead_17 (nI a) (nI q) g (nI x + 1) k41 cont)) ∧
      laws y3 (eE (vcS (gA k 30) (gA k 31) (gA k 32) (gA k 33) (nI (40 + x)) (if nI q < nI a then nI q else nI a) sc % 4096) (vcS (gA k 30) (gA k 31) (gA k 32) (gA k 33) (nI (40 + x)) (if nI q < nI a then nI q else nI a) sc / 4096) 0 wt.toInt) (eN (vcS (gA k 30) (gA k 31) (gA k 32) (gA k 33) (nI (40 + x)) (if nI q < nI a then nI q else nI a) sc % 4096) (vcS (gA k 30) (gA k 31) (gA k 32) (gA k 33) (nI (40 + x)) (if nI q < nI a then nI q else nI a) sc / 4096) 0 wt.toInt) := by
    intro y hm y62 y59 y60
    have hD' : gDeath dc h rc d k y := by
      rw [hm.eq]
      exact hD
    have hm2 : isM n (sI (sI y 11 58 (nI x)) 11 61 (-1)) := (hm.sI _ rfl).sI _ rfl
    have hm3 := hm2.sI (f := 61) (fyS (gA k 31) (gA k 32) (gA k 33) (nI (40 + x)) (if nI q < nI a then nI q else nI a) sc 0) rfl
    refine ⟨sI (sI (sI y 11 58 (nI x)) 11 61 (-1)) 11 61 (fyS (gA k 31) (gA k 32) (gA k 33) (nI (40 + x)) (if nI q < nI a then nI q else nI a) sc 0), hm3, y62, y59, y60, rfl, fun g cont => ?_, ?_⟩
    · rw [lpX12_findDead_17, if_neg (n12 hx), rodM hD', nm_eq, nm_eq]
      rw [firstM (o := nI (40 + x)) (u := if nI q < nI a then nI q else nI a) hS (fun i hi => ?_) hu hm2 rfl]
      rw [abD hh htc hS hx i hi]
      rcases abZ hS i hi with e | e
      · rw [e]
        exact ⟨fun z => absurd z.1 (by decide), fun z => absurd rfl z.1⟩
      · rw [e]
        exact ⟨fun z => ⟨by decide, z.2⟩, fun z => ⟨rfl, z.2⟩⟩
    · have key : ∀ Y, isM n Y → gI Y 11 62 = 1 → gI Y 11 58 = nI x → gI Y 11 59 = nI a → gI Y 11 60 = nI q → gI Y 11 61 = fyS (gA k 31) (gA k 32) (gA k 33) (nI (40 + x)) (if nI q < nI a then nI q else nI a) sc 0 → laws Y (eE (vcS (gA k 30) (gA k 31) (gA k 32) (gA k 33) (nI (40 + x)) (if nI q < nI a then nI q else nI a) sc % 4096) (vcS (gA k 30) (gA k 31) (gA k 32) (gA k 33) (nI (40 + x)) (if nI q < nI a then nI q else nI a) sc / 4096) 0 wt.toInt) (eN (vcS (gA k 30) (gA k 31) (gA k 32) (gA k 33) (nI (40 + x)) (if nI q < nI a then nI q else nI a) sc % 4096) (vcS (gA k 30) (gA k 31) (gA k 32) (gA k 33) (nI (40 + x)) (if nI q < nI a then nI q else nI a) sc / 4096) 0 wt.toInt) := fun Y hY Y62 Y58 Y59 Y60 Y61 => by
        refine lawsE hS.1 (by rw [hY.i 11 51 (fun _ => rfl)]; exact hS.2.2.1) (fun z hz => ?_) (Or.inr ⟨by rw [Y62]; decide, rfl⟩) ?_
        · rw [hY.a 131 (by decide) (by decide), hY.a 137 (by decide) (by decide), hY.a 132 (by decide) (by decide), hY.a 136 (by decide) (by decide), hY.a 133 (by decide) (by decide), tb_lo hz, tb_hi, Y62, Y58, Y59, Y60]
          exact hsd z hz
        · rcases hw2 with ⟨w1, w2⟩ | ⟨e, e1, e2, e3⟩
          · exact Or.inl ⟨Y61.trans w1, w2⟩
          · exact Or.inr ⟨a, e, e1, ha, Y59, Y61.trans e2, e3⟩
      exact key _ hm3 y62 rfl y59 y60 rfl
  have g1 : inb (nI x) 12 = true := inb_nI hx (by decide)
  have g2 : ix (nI x) = x := ix_nI (by omega)
  -- the class, up to the rule
  have cls : ∀ k', isS k k' → fX11_isDead k' (nI x) (nI a) (nI q) = if rod (gA k 34) (gA k 35) (gA k 36) (nI x) (nI q) dc = -1 then some (false, k') else ob (fX5_holds k' (rod (gA k 34) (gA k 35) (gA k 36) (nI x) (nI q) dc) (nI (vcS (gA k 30) (gA k 31) (gA k 32) (gA k 33) (nI (40 + x)) (if nI q < nI a then nI q else nI a) sc)) 0 wt) fun r18 k19 => some (r18, k19) := by
    intro k' hs
    have hD' : gDeath dc h rc d k' n := by
      rw [hs.eq]
      exact hD
    have hS' : gSay sc h tc d k' n := by
      rw [hs.eq]
      exact hS
    unfold fX11_isDead fX6_deathOf
    rw [rodK hD', ob_some, hs.a 34 rfl, hs.a 35 rfl, hs.a 36 rfl, min_of, ob_some, ob_some, show (40 : Int32) + nI x = nI (40 + x) from nI_add 40 x, firstK hS', ob_some, voicesK hh hS', ob_some, ob_some, hs.a 30 rfl, hs.a 31 rfl, hs.a 32 rfl, hs.a 33 rfl]
    by_cases c : fyS (gA k 31) (gA k 32) (gA k 33) (nI (40 + x)) (if nI q < nI a then nI q else nI a) sc 0 = -1
    · rw [if_pos c] at hw1
      rw [if_pos c, hw1]
    · rw [if_neg c] at hw1
      rw [if_neg c, hw1]
  rcases rod_in hD (nI x) (nI q) dc (Nat.le_refl _) with e | ⟨r, z, r1, z1, z2, e⟩
  · refine ⟨false, fun k' hs => ?_, fun _ => rfl, fun y g cont hm y62 y59 y60 => ?_⟩
    · rw [cls k' hs, e, if_pos rfl]
      exact ⟨k', rfl, hs⟩
    · obtain ⟨y3, m1, m2, m3, m4, m5, m6, m7⟩ := mod y hm y62 y59 y60
      refine ⟨sA y3 138 x 0, ?_, m1.sA _ _ (Or.inl rfl), m2, m3, m4, ?_⟩
      · rw [m6, e, if_pos rfl, g1, ck_true, nm_eq, g2, nI_1]
      · rw [gA_sA, if_pos rfl, m5]
        rfl
  · obtain ⟨ws, cl, mo⟩ := ruleOf hR r1
    refine ⟨(evs (vcS (gA k 30) (gA k 31) (gA k 32) (gA k 33) (nI (40 + x)) (if nI q < nI a then nI q else nI a) sc % 4096) (vcS (gA k 30) (gA k 31) (gA k 32) (gA k 33) (nI (40 + x)) (if nI q < nI a then nI q else nI a) sc / 4096) 0 wt.toInt ws []).headD false, fun k' hs => ?_, fun hx2 => ?_, fun y g cont hm y62 y59 y60 => ?_⟩
    · obtain ⟨z', f1, f2⟩ := cl k' (vcS (gA k 30) (gA k 31) (gA k 32) (gA k 33) (nI (40 + x)) (if nI q < nI a then nI q else nI a) sc) 0 wt hs hV (by decide)
      rw [cls k' hs, e, if_neg (nI_ne_m1 (by have := hR.1; omega)), show fX5_holds k' (nI r) (nI (vcS (gA k 30) (gA k 31) (gA k 32) (gA k 33) (nI (40 + x)) (if nI q < nI a then nI q else nI a) sc)) 0 wt = some (_, z') from f1, ob_some]
      exact ⟨z', rfl, f2⟩
    · have := (nI_eq (by omega) (by omega)).mp z2
      omega
    · obtain ⟨y3, m1, m2, m3, m4, m5, m6, m7⟩ := mod y hm y62 y59 y60
      obtain ⟨y4, f1, f2⟩ := mo y3 _ _ _ _ m1 m7
      generalize (evs (vcS (gA k 30) (gA k 31) (gA k 32) (gA k 33) (nI (40 + x)) (if nI q < nI a then nI q else nI a) sc % 4096) (vcS (gA k 30) (gA k 31) (gA k 32) (gA k 33) (nI (40 + x)) (if nI q < nI a then nI q else nI a) sc / 4096) 0 wt.toInt ws []).headD false = b at *
      refine ⟨sA y4 138 x (b2i b), ?_, (f2.isM m1).sA _ _ (Or.inl rfl), ?_, ?_, ?_, ?_⟩
      · rw [m6, e, if_neg (nI_ne_m1 (by have := hR.1; omega)), f1, ob_some, g1, ck_true, ck_true, nm_eq, nm_eq, g2, nI_1]
        cases b <;> rfl
      · show gI y4 11 62 = 1
        rw [f2.sl 62 (Or.inr (by decide))]
        exact m2
      · show gI y4 11 59 = nI a
        rw [f2.sl 59 (Or.inr (by decide))]
        exact m3
      · show gI y4 11 60 = nI q
        rw [f2.sl 60 (Or.inr (by decide))]
        exact m4
      · rw [gA_sA, if_pos rfl, f2.2.1 138, m5]
/-- all deaths -/
theorem deadAll {k n : ST} {d h rc dc tc sc a q : Nat} (hd : d ≤ 2000) (hh : h ≤ 12) (htc : tc ≤ 40) (hR : gRule rc k n) (hD : gDeath dc h rc d k n) (hS : gSay sc h tc d k n) (ha : a ≤ 2000) : ∃ B : Nat → Bool,
    (∀ x, x < 12 → ∀ k', isS k k' → ∃ z', fX11_isDead k' (nI x) (nI a) (nI q) = some (B x, z') ∧ isS k z') ∧ (∀ x, x < 12 → h ≤ x → B x = false) ∧
    ∀ y, isM n y → ∃ y', fX12_findDead y (nI a) (nI q) = some ((), y') ∧ isM n y' ∧ gI y' 11 59 = nI a ∧ gI y' 11 60 = nI q ∧ ∀ x, x < 12 → gA y' 138 x = b2i (B x) := by
  have H := fun x (hx : x < 12) => deadOne (q := q) hd hh htc hR hD hS ha hx
  have hB : ∀ x, ∃ b : Bool, x < 12 → (∀ k', isS k k' → ∃ z', fX11_isDead k' (nI x) (nI a) (nI q) = some (b, z') ∧ isS k z') ∧ (h ≤ x → b = false) ∧
    ∀ (y : ST) (g : Nat) (cont : Int32 → ST → Option (Unit × ST)), isM n y → gI y 11 62 = 1 → gI y 11 59 = nI a → gI y 11 60 = nI q → ∃ y', lpX12_findDead_17 (nI a) (nI q) (g + 1) (nI x) y cont = lpX12_findDead_17 (nI a) (nI q) g (nI (x + 1)) y' cont ∧ isM n y' ∧ gI y' 11 62 = 1 ∧ gI y' 11 59 = nI a ∧ gI y' 11 60 = nI q ∧ gA y' 138 = upd (gA y 138) x (b2i b) := fun x => by
    by_cases hx : x < 12
    · obtain ⟨b, hb⟩ := H x hx
      exact ⟨b, fun _ => hb⟩
    · exact ⟨false, fun z => absurd z hx⟩
  refine ⟨fun x => Classical.choose (hB x), fun x hx => (Classical.choose_spec (hB x) hx).1, fun x hx => (Classical.choose_spec (hB x) hx).2.1, fun y hm => ?_⟩
  have hC := fun x (hx : x < 12) => (Classical.choose_spec (hB x) hx).2.2
  show ∃ y', fX12_findDead y (nI a) (nI q) = some ((), y') ∧ isM n y' ∧ gI y' 11 59 = nI a ∧ gI y' 11 60 = nI q ∧ ∀ x, x < 12 → gA y' 138 x = b2i (Classical.choose (hB x))
  have lp : ∀ (r g x : Nat) (y : ST), x + r = 12 → r + 1 ≤ g → isM n y → gI y 11 62 = 1 → gI y 11 59 = nI a → gI y 11 60 = nI q → (∀ z, z < x → gA y 138 z = b2i (Classical.choose (hB z))) → ∃ y', lpX12_findDead_17 (nI a) (nI q) g (nI x) y (fun y42 k43 => some ((), k43)) = some ((), y') ∧ isM n y' ∧ gI y' 11 59 = nI a ∧ gI y' 11 60 = nI q ∧ ∀ x, x < 12 → gA y' 138 x = b2i (Classical.choose (hB x)) := by
    intro r
    induction r with
    | zero =>
      intro g x y hx hg hm y62 y59 y60 hz
      obtain ⟨g, rfl⟩ : ∃ z, g = z + 1 := ⟨g - 1, by omega⟩
      have : x = 12 := by omega
      subst this
      rw [lpX12_findDead_17, if_pos (show (12 : Int32) ≤ nI 12 by decide)]
      exact ⟨y, rfl, hm, y59, y60, hz⟩
    | succ r ih =>
      intro g x y hx hg hm y62 y59 y60 hz
      obtain ⟨g, rfl⟩ : ∃ z, g = z + 1 := ⟨g - 1, by omega⟩
      obtain ⟨y', e1, e2, e3, e4, e5, e6⟩ := hC x (by omega) y g (fun y42 k43 => some ((), k43)) hm y62 y59 y60
      rw [e1]
      refine ih g (x + 1) y' (by omega) (by omega) e2 e3 e4 e5 (fun z hzx => ?_)
      rw [e6]
      by_cases c : z = x
      · rw [c, us]
      · rw [un c]
        exact hz z (by omega)
  unfold fX12_findDead
  rw [nm_eq, nm_eq, nm_eq, FU_g]
  exact lp 12 (4999 + 1) 0 _ (by decide) (by decide) (((hm.sI _ rfl).sI _ rfl).sI _ rfl) rfl rfl rfl (fun z hz => absurd hz (Nat.not_lt_zero z))
