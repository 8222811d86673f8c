/-- what reading leaves: a fault, or the place behind and the words -/
def outK (k0 : ST) (tx : Nat → Nat) (L a : Nat) (ws : List Nat) (r : Nat ⊕ (Nat × List Nat)) (o : Option (Unit × ST)) : Prop := match r with
  | .inl p => p ≤ 160 ∧ ∃ (z' : ST) (b : Nat) (ws' : List Nat), o = some ((), z') ∧ rdK k0 tx L (nI p) z' b ws'
  | .inr (b, w) => a < b ∧ b ≤ L ∧ w.length ≤ b - a ∧ ∃ z', o = some ((), z') ∧ rdK k0 tx L (-1) z' b (ws ++ w)
def goodU (k0 : ST) (tx : Nat → Nat) (L : Nat) (mU : Nat → Nat ⊕ (Nat × List Nat)) (u : ST → Option (Unit × ST)) : Prop := ∀ z a ws, rdK k0 tx L (-1) z a ws → ws.length ≤ a → outK k0 tx L a ws (mU a) (u z)
theorem allF {k0 : ST} {tx : Nat → Nat} {L p : Nat} (ht : txK k0 tx L) (hp : p ≤ 160) (u : ST → Int32 → Option (Unit × ST)) (v1 : Int32) (g : Nat) (v2 : Int32) {z : ST} {b : Nat} {ws : List Nat} (h : rdK k0 tx L (nI p) z b ws) : ∃ (z' : ST) (b' : Nat), lpX5_all_7 u v1 (g + 1) v2 z (fun y15 k16 => some ((), k16)) = some ((), z') ∧ rdK k0 tx L (nI p) z' b' ws := by
  rw [lpX5_all_7]
  by_cases c : 160 ≤ v2
  · rw [if_pos c]
    exact ⟨z, b, rfl, h⟩
  · obtain ⟨z', b', e1, e2⟩ := passF ht (show p < 2 ^ 31 by omega) (v := 38) (by decide) h
    rw [if_neg c, e1, ob_some, if_neg (by decide)]
    exact ⟨z', b', rfl, e2⟩
theorem anyF {k0 : ST} {tx : Nat → Nat} {L p : Nat} (ht : txK k0 tx L) (hp : p ≤ 160) (u : ST → Int32 → Option (Unit × ST)) (v1 : Int32) (g : Nat) (v2 : Int32) {z : ST} {b : Nat} {ws : List Nat} (h : rdK k0 tx L (nI p) z b ws) : ∃ (z' : ST) (b' : Nat), lpX5_any_7 u v1 (g + 1) v2 z (fun y15 k16 => some ((), k16)) = some ((), z') ∧ rdK k0 tx L (nI p) z' b' ws := by
  rw [lpX5_any_7]
  by_cases c : 160 ≤ v2
  · rw [if_pos c]
    exact ⟨z, b, rfl, h⟩
  · obtain ⟨z', b', e1, e2⟩ := passF ht (show p < 2 ^ 31 by omega) (v := 124) (by decide) h
    rw [if_neg c, e1, ob_some, if_neg (by decide)]
    exact ⟨z', b', rfl, e2⟩
theorem allK_lp {k0 : ST} {tx : Nat → Nat} {L : Nat} (ht : txK k0 tx L) {mU : Nat → Nat ⊕ (Nat × List Nat)} {u : ST → Int32 → Option (Unit × ST)} {v1 : Int32} (hu : goodU k0 tx L mU (fun z => u z v1)) {a : Nat} {ws : List Nat} (hw : ws.length ≤ a) :
    ∀ (f g j b : Nat) (w : List Nat) (z : ST), j + f = 160 → f + 1 ≤ g → rdK k0 tx L (-1) z b (ws ++ w) → a < b → w.length ≤ b - a → j + 1 ≤ b → outK k0 tx L a ws (mAllL tx L mU f b w) (lpX5_all_7 u v1 (g + 1) (nI j) z (fun y15 k16 => some ((), k16))) := by
  intro f
  have hL := ht.1
  induction f with
  | zero =>
    intro g j b w z hj _ h _ _ hjb
    have : b ≤ L := h.2.2.2.2.2.2.2
    omega
  | succ f ih =>
    intro g j b w z hj hg h hab hwl hjb
    obtain ⟨g, rfl⟩ : ∃ z, g = z + 1 := ⟨g - 1, by omega⟩
    have hbL : b ≤ L := h.2.2.2.2.2.2.2
    have hsk := mSk_le tx L L b hbL
    obtain ⟨z', y1, y2⟩ := passK (c := 38) ht (by decide) (by decide) h
    rw [lpX5_all_7, if_neg (show ¬ (160 : Int32) ≤ nI j from nI_ge (b := 160) (by omega) (by decide))]
    show outK k0 tx L a ws (if mHr tx L (mSk tx L L b) = 38 then mb (mU (mSk tx L L b + 1)) fun r => mAllL tx L mU f r.1 (w ++ r.2 ++ [38]) else .inr (mSk tx L L b, w)) _
    by_cases c : mHr tx L (mSk tx L L b) = 38
    · obtain ⟨e1, e2⟩ := y1 c
      have hin := mHr_in (tx := tx) (L := L) (a := mSk tx L L b) (by omega)
      rw [if_pos c, show fX5_passes z 38 = some (true, z') from e1, ob_some, if_pos rfl]
      have hlen : (ws ++ w).length ≤ mSk tx L L b + 1 := by
        rw [List.length_append]
        omega
      have hu1 := hu z' (mSk tx L L b + 1) (ws ++ w) e2 hlen
      cases hm : mU (mSk tx L L b + 1) with
      | inl p =>
        rw [hm] at hu1
        obtain ⟨p1, z2, b2, ws2, q1, q2⟩ := hu1
        rw [show u z' v1 = some ((), z2) from q1, ob_some, show fX5_write z2 38 0 = some ((), z2) from writeF (by omega) 38 0 q2, ob_some]
        obtain ⟨z3, b3, r1, r2⟩ := allF ht p1 u v1 g (nI j + 1) q2
        exact ⟨p1, z3, b3, ws2, r1, r2⟩
      | inr r =>
        obtain ⟨b2, w2⟩ := r
        rw [hm] at hu1
        obtain ⟨p1, p2, p3, z2, q1, q2⟩ := hu1
        rw [show u z' v1 = some ((), z2) from q1, ob_some]
        obtain ⟨z3, s1, s2⟩ := writeK (c := 38) (v := 0) q2 (by
          rw [List.length_append, List.length_append]
          omega)
        rw [show fX5_write z2 38 0 = some ((), z3) from s1, ob_some, nI_1]
        have s2' : rdK k0 tx L (-1) z3 b2 (ws ++ (w ++ w2 ++ [38])) := by
          rw [show ws ++ (w ++ w2 ++ [38]) = ws ++ w ++ w2 ++ [38 + 256 * 0] by simp]
          exact s2
        exact ih g (j + 1) b2 (w ++ w2 ++ [38]) z3 (by omega) (by omega) s2' (by omega) (by
          rw [List.length_append, List.length_append, List.length_singleton]
          omega) (by omega)
    · obtain ⟨e1, e2⟩ := y2 c
      rw [if_neg c, show fX5_passes z 38 = some (false, z') from e1, ob_some, if_neg (by decide)]
      exact ⟨by omega, hsk.1, by omega, z', rfl, e2⟩
theorem allK {k0 : ST} {tx : Nat → Nat} {L : Nat} (ht : txK k0 tx L) {mU : Nat → Nat ⊕ (Nat × List Nat)} {u : ST → Int32 → Option (Unit × ST)} {v1 : Int32} (hu : goodU k0 tx L mU (fun z => u z v1)) : goodU k0 tx L (mAll tx L mU) (fun z => FX5_all u z v1) := by
  intro z a ws h hw
  have hu1 := hu z a ws h hw
  show outK k0 tx L a ws (mb (mU a) fun r => mAllL tx L mU 160 r.1 r.2) (FX5_all u z v1)
  unfold FX5_all
  cases hm : mU a with
  | inl p =>
    rw [hm] at hu1
    obtain ⟨p1, z2, b2, ws2, q1, q2⟩ := hu1
    rw [show u z v1 = some ((), z2) from q1, ob_some, FU_g]
    obtain ⟨z3, b3, r1, r2⟩ := allF ht p1 u v1 4999 0 q2
    exact ⟨p1, z3, b3, ws2, r1, r2⟩
  | inr r =>
    obtain ⟨b2, w2⟩ := r
    rw [hm] at hu1
    obtain ⟨p1, p2, p3, z2, q1, q2⟩ := hu1
    rw [show u z v1 = some ((), z2) from q1, ob_some, FU_g]
    exact allK_lp ht hu hw 160 4999 0 b2 w2 z2 (by decide) (by decide) q2 p1 p3 (by omega)
theorem anyK_lp {k0 : ST} {tx : Nat → Nat} {L : Nat} (ht : txK k0 tx L) {mU : Nat → Nat ⊕ (Nat × List Nat)} {u : ST → Int32 → Option (Unit × ST)} {v1 : Int32} (hu : goodU k0 tx L (mAll tx L mU) (fun z => FX5_all u z v1)) {a : Nat} {ws : List Nat} (hw : ws.length ≤ a) :
    ∀ (f g j b : Nat) (w : List Nat) (z : ST), j + f = 160 → f + 1 ≤ g → rdK k0 tx L (-1) z b (ws ++ w) → a < b → w.length ≤ b - a → j + 1 ≤ b → outK k0 tx L a ws (mAnyL tx L mU f b w) (lpX5_any_7 u v1 (g + 1) (nI j) z (fun y15 k16 => some ((), k16))) := by
  intro f
  have hL := ht.1
  induction f with
  | zero =>
    intro g j b w z hj _ h _ _ hjb
    have : b ≤ L := h.2.2.2.2.2.2.2
    omega
  | succ f ih =>
    intro g j b w z hj hg h hab hwl hjb
    obtain ⟨g, rfl⟩ : ∃ z, g = z + 1 := ⟨g - 1, by omega⟩
    have hbL : b ≤ L := h.2.2.2.2.2.2.2
    have hsk := mSk_le tx L L b hbL
    obtain ⟨z', y1, y2⟩ := passK (c := 124) ht (by decide) (by decide) h
    rw [lpX5_any_7, if_neg (show ¬ (160 : Int32) ≤ nI j from nI_ge (b := 160) (by omega) (by decide))]
    show outK k0 tx L a ws (if mHr tx L (mSk tx L L b) = 124 then mb (mAll tx L mU (mSk tx L L b + 1)) fun r => mAnyL tx L mU f r.1 (w ++ r.2 ++ [124]) else .inr (mSk tx L L b, w)) _
    by_cases c : mHr tx L (mSk tx L L b) = 124
    · obtain ⟨e1, e2⟩ := y1 c
      have hin := mHr_in (tx := tx) (L := L) (a := mSk tx L L b) (by omega)
      rw [if_pos c, show fX5_passes z 124 = some (true, z') from e1, ob_some, if_pos rfl]
      have hlen : (ws ++ w).length ≤ mSk tx L L b + 1 := by
        rw [List.length_append]
        omega
      have hu1 := hu z' (mSk tx L L b + 1) (ws ++ w) e2 hlen
      cases hm : mAll tx L mU (mSk tx L L b + 1) with
      | inl p =>
        rw [hm] at hu1
        obtain ⟨p1, z2, b2, ws2, q1, q2⟩ := hu1
        rw [show FX5_all u z' v1 = some ((), z2) from q1, ob_some, show fX5_write z2 124 0 = some ((), z2) from writeF (by omega) 124 0 q2, ob_some]
        obtain ⟨z3, b3, r1, r2⟩ := anyF ht p1 u v1 g (nI j + 1) q2
        exact ⟨p1, z3, b3, ws2, r1, r2⟩
      | inr r =>
        obtain ⟨b2, w2⟩ := r
        rw [hm] at hu1
        obtain ⟨p1, p2, p3, z2, q1, q2⟩ := hu1
        rw [show FX5_all u z' v1 = some ((), z2) from q1, ob_some]
        obtain ⟨z3, s1, s2⟩ := writeK (c := 124) (v := 0) q2 (by
          rw [List.length_append, List.length_append]
          omega)
        rw [show fX5_write z2 124 0 = some ((), z3) from s1, ob_some, nI_1]
        have s2' : rdK k0 tx L (-1) z3 b2 (ws ++ (w ++ w2 ++ [124])) := by
          rw [show ws ++ (w ++ w2 ++ [124]) = ws ++ w ++ w2 ++ [124 + 256 * 0] by simp]
          exact s2
        exact ih g (j + 1) b2 (w ++ w2 ++ [124]) z3 (by omega) (by omega) s2' (by omega) (by
          rw [List.length_append, List.length_append, List.length_singleton]
          omega) (by omega)
    · obtain ⟨e1, e2⟩ := y2 c
      rw [if_neg c, show fX5_passes z 124 = some (false, z') from e1, ob_some, if_neg (by decide)]
      exact ⟨by omega, hsk.1, by omega, z', rfl, e2⟩
theorem anyK {k0 : ST} {tx : Nat → Nat} {L : Nat} (ht : txK k0 tx L) {mU : Nat → Nat ⊕ (Nat × List Nat)} {u : ST → Int32 → Option (Unit × ST)} {v1 : Int32} (hu : goodU k0 tx L mU (fun z => u z v1)) : goodU k0 tx L (mAny tx L mU) (fun z => FX5_any u z v1) := by
  intro z a ws h hw
  have ha := allK ht hu
  have hu1 := ha z a ws h hw
  show outK k0 tx L a ws (mb (mAll tx L mU a) fun r => mAnyL tx L mU 160 r.1 r.2) (FX5_any u z v1)
  unfold FX5_any
  cases hm : mAll tx L mU a with
  | inl p =>
    rw [hm] at hu1
    obtain ⟨p1, z2, b2, ws2, q1, q2⟩ := hu1
    rw [show FX5_all u z v1 = some ((), z2) from q1, ob_some, FU_g]
    obtain ⟨z3, b3, r1, r2⟩ := anyF ht p1 u v1 4999 0 q2
    exact ⟨p1, z3, b3, ws2, r1, r2⟩
  | inr r =>
    obtain ⟨b2, w2⟩ := r
    rw [hm] at hu1
    obtain ⟨p1, p2, p3, z2, q1, q2⟩ := hu1
    rw [show FX5_all u z v1 = some ((), z2) from q1, ob_some, FU_g]
    exact anyK_lp ht ha hw 160 4999 0 b2 w2 z2 (by decide) (by decide) q2 p1 p3 (by omega)
