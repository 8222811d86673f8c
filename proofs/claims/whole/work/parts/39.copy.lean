/-! System.arraycopy between two int rows of one object, and Rules.keepDraft -/
theorem wb_817 : (Jvm.Cond.native ({ cls := "java/lang/System", name := "arraycopy", desc := "(Ljava/lang/Object;ILjava/lang/Object;II)V" } : Jvm.MethodName)) ∈ BG := List.mem_filter.mpr ⟨List.mem_append_right _ wd_817, by decide +kernel⟩
def sF (σ : ST) (j : Nat) (f : Nat → Int32) : ST := (σ.1, fun a => if a = j then f else σ.2.1 a, σ.2.2)
theorem gI_sF (σ : ST) (j : Nat) (f : Nat → Int32) (a b : Nat) : gI (sF σ j f) a b = gI σ a b := rfl
theorem gL_sF (σ : ST) (j : Nat) (f : Nat → Int32) (a : Nat) : gL (sF σ j f) a = gL σ a := rfl
theorem gA_sF (σ : ST) (j : Nat) (f : Nat → Int32) (a : Nat) : gA (sF σ j f) a = if a = j then f else gA σ a := rfl
theorem cont_sF {ad : Nat → Nat} {k : ST} {j : Nat} {f : Nat → Int32} (i : Nat) (h : i ≠ j) : cont ad (sF k j f) i = cont ad k i := by
  unfold cont
  rw [gL_sF, gA_sF, if_neg h]
def cpOk (sp dp n : Int32) (ns nd : Nat) : Bool := decide (0 ≤ sp.toInt ∧ 0 ≤ dp.toInt ∧ 0 ≤ n.toInt ∧ sp.toInt + n.toInt ≤ ns ∧ dp.toInt + n.toInt ≤ nd)
section ZC
variable {p : Program} {l : Launch} {e : Env} {R : Room} {s : State} {m : MethodId} {args : Array Value} {below : List Frame} {meth : Method} {c : Code} {cc : ByteArray} {nL : Nat} {own : String} {ret : Option FieldType} {g : GT} {T : TT}
variable {ρ : Type} {vo : ρ → Option Value} {k : ST} {pc : Nat} {LV : List (Nat × Value)} {rest : List Value} {o : Option (ρ × ST)}
theorem zf_copy (hC : HC p s m args meth c cc nL own ret g) {js jd ns nd index : Nat} (hs : inA T js) (hd : inA T jd) (hks : kdA js = 0) (hkd : kdA jd = 0) (hns : lenA js = ns) (hnd : lenA jd = nd) (hlk : Cond.methodLink own index arraycopyName ∈ BG) (hnat : Cond.native arraycopyName ∈ BG) (hst : Cond.static arraycopyName ∈ BG) (hin : Cond.initialized "java/lang/System" ∈ BG) (hRf : 1 ≤ R.frames) (hRl : (rest.map fun v => v.category).sum + (nativeFrameWords "java/lang/System" "arraycopy" 5 + 11) ≤ R.locals) {sp dp n : Int32} (hdg : decode cc pc = .ok (.invokestatic index, 3))
    (kk : cpOk sp dp n ns nd = true → ZF p l e R s m args below meth c g T vo nL (sF k jd (va_cpy (gA k js) (gA k jd) (ix sp) (ix dp) (ix n))) (pc + 3) LV rest o) : ZF p l e R s m args below meth c g T vo nL k pc LV (.int n :: .int dp :: .ref (g.2.1 (12 + jd)) :: .int sp :: .ref (g.2.1 (12 + js)) :: rest) (ck (cpOk sp dp n ns nd) o) := by
  subst hns
  subst hnd
  refine zf_ck fun hb r k' h H locs ls hP hS hl => ?_
  obtain ⟨b1, b2, b3, b4, b5⟩ : 0 ≤ sp.toInt ∧ 0 ≤ dp.toInt ∧ 0 ≤ n.toInt ∧ sp.toInt + n.toInt ≤ lenA js ∧ dp.toInt + n.toInt ≤ lenA jd := of_decide_eq_true hb
  have nn : ∀ z : Int32, 0 ≤ z.toInt → z.toInt = (ix z : Int) := by
    intro z hz
    show z.toInt = ((z.toInt.toNat : Nat) : Int)
    omega
  have ng : ∀ z : Int32, 0 ≤ z.toInt → ¬ z < 0 := by
    intro z hz q
    have := Int32.lt_iff_toInt_lt.mp q
    rw [Int32.toInt_zero] at this
    omega
  intro S0 hS0 X
  have hw := hC.2.2.2.2.1
  have hc0 := hP.2 js hs
  have hc1 := hP.2 jd hd
  rw [cell_i _ _ _ (by omega)] at hc0 hc1
  have hA0 := hC.2.2.2.2.2.2.2.2.1 js (inA_lt hs)
  have hA1 := hC.2.2.2.2.2.2.2.2.1 jd (inA_lt hd)
  rw [ty_0 hks] at hA0
  rw [ty_0 hkd] at hA1
  obtain ⟨-, k0, hk0, cm0, hkk0⟩ := hA0 (lenA js) (fun q => .int (gA k js q))
  obtain ⟨-, k1, hk1, cm1, hkk1⟩ := hA1 (lenA jd) (fun q => .int (gA k jd q))
  have h4 : ix sp + ix n ≤ lenA js := by have := nn sp b1; have := nn n b3; omega
  have h5 : ix dp + ix n ≤ lenA jd := by have := nn dp b2; have := nn n b3; omega
  obtain ⟨vm', X', step⟩ := X.arraycopy hC.1 hC.2.2.2.1 (hw _ hlk) (hw _ hnat) (hw _ hst) (hw _ hin) (src := g.2.1 (12 + js)) (dst := g.2.1 (12 + jd)) (cs := arrV (g.2.2 js) (lenA js) (fun q => .int (gA k js q))) (cd := arrV (g.2.2 jd) (lenA jd) (fun q => .int (gA k jd q))) (srcPos := sp) (destPos := dp) (n := n) (by rw [hS0]; exact hc0) (by rw [hS0]; exact hc1)
    (fun _ h => by cases h) (fun _ h => by cases h) (fun h => by cases h) (fun h => by cases h) hk0 hk1 hkk0 hkk1 (by simp [refKind]) (ng sp b1) (ng dp b2) (ng n b3)
    (by rw [nn sp b1, nn n b3, arrV_size]; omega)
    (by rw [nn dp b2, nn n b3, arrV_size]; omega)
    (fun vm₁ _ i hi => by
      have e : (arrV (g.2.2 js) (lenA js) (fun q => Value.int (gA k js q))).slots.getD (sp.toNatClampNeg + i) .null = .int (gA k js (sp.toNatClampNeg + i)) := by
        have : ix sp + i < lenA js := by have : i < ix n := hi; omega
        rw [Array.getD_eq_getD_getElem?, arrV_read _ _ this]
        rfl
      refine ⟨?_, ?_⟩
      · rw [e]
        rfl
      · rw [e]
        exact trivial)
    (g := F0 m pc ls (.int n :: .int dp :: .ref (g.2.1 (12 + jd)) :: .int sp :: .ref (g.2.1 (12 + js)) :: rest)) rfl (by rw [hC.2.2.1]; exact hl.1) (rest := rest) rfl (by rw [hC.2.1]; exact hdg) hRf (by show 2 * 0 + _ + _ ≤ _; omega)
  have e1 : copied (arrV (g.2.2 js) (lenA js) (fun q => Value.int (gA k js q))) (arrV (g.2.2 jd) (lenA jd) (fun q => Value.int (gA k jd q))) sp dp n = arrV (g.2.2 jd) (lenA jd) (fun q => Value.int (va_cpy (gA k js) (gA k jd) (ix sp) (ix dp) (ix n) q)) := va_copied (fun z => .int z) _ _ _ _ h4
  rw [e1] at X' step
  have hlt : g.2.1 (12 + jd) < H.size := (Array.getElem?_eq_some_iff.mp hc1).1
  have hheap : ((S0.setVm vm').setCell (g.2.1 (12 + jd)) (arrV (g.2.2 jd) (lenA jd) (fun q => Value.int (va_cpy (gA k js) (gA k jd) (ix sp) (ix dp) (ix n) q)))).heap = H.setIfInBounds (g.2.1 (12 + jd)) (arrV (g.2.2 jd) (lenA jd) (fun q => Value.int (va_cpy (gA k js) (gA k jd) (ix sp) (ix dp) (ix n) q))) := by rw [← hS0]; rfl
  have oq : ∀ q : Nat, q ≠ g.2.1 (12 + jd) → (H.setIfInBounds (g.2.1 (12 + jd)) (arrV (g.2.2 jd) (lenA jd) (fun q => Value.int (va_cpy (gA k js) (gA k jd) (ix sp) (ix dp) (ix n) q))))[q]? = H[q]? := fun q hq => by simp [Array.getElem?_setIfInBounds, Ne.symm hq]
  obtain ⟨t, a1, b1⟩ := kk hb r k' h _ _ ls (pic_A hP hC.2.2.2.2.2.2.2.2.2.2 hd oq (gI_sF k jd _) (by rw [cell_i _ _ _ (by omega), gA_sF, if_pos rfl]; simp [Array.getElem?_setIfInBounds, hlt]) (fun a ha => cont_sF a ha)) ⟨by simp; exact hS.1, fun q g1 g2 => by
      rw [oq q (fun e => g2 (by rw [e]; exact ⟨12 + jd, Or.inr ⟨jd, hd, rfl⟩, rfl⟩))]
      exact hS.2.1 q g1 g2, fun q hq => by
      rcases List.mem_append.mp hq with h | h
      · exact hS.2.2 q h
      · obtain ⟨z, -, hz⟩ := List.mem_map.mp h
        rw [← hz]
        exact ⟨12 + jd, Or.inr ⟨jd, hd, rfl⟩, rfl⟩⟩ hl _ hheap X'
  exact ⟨t, step t a1, b1⟩
end ZC
