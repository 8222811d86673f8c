/-- both objects' first state in one -/
def st_B : ST := sI st_K 11 52 121
def mnaL : List Nat := [18, 59, 60, 61, 62, 63, 64, 65, 66, 67, 68, 69, 70, 71, 72, 73, 74, 75, 76, 77, 78, 79, 80, 81, 82, 83, 84, 85, 86, 87, 88, 89, 90, 91, 92, 93, 94, 95, 96, 97, 98]
theorem mna_off : ∀ i, i < 40 → offA (71 + i) = offA 30 + 1 + i := by decide +kernel
theorem mna_k : ∀ i, i < 40 → kdA (59 + i) = 0 ∧ lenA (59 + i) = 12 := by decide +kernel
theorem mna_in : ∀ j, j ∈ mnaL → j = 18 ∨ ∃ i, i < 40 ∧ j = 59 + i := fun j hj => by
  have h : (decide (j = 18) || (decide (59 ≤ j) && decide (j < 99))) = true := List.all_eq_true.mp (show (mnaL.all fun j => decide (j = 18) || (decide (59 ≤ j) && decide (j < 99))) = true by decide) j hj
  rw [Bool.or_eq_true, Bool.and_eq_true] at h
  rcases h with h | ⟨h1, h2⟩
  · exact Or.inl (of_decide_eq_true h)
  · have h1 := of_decide_eq_true h1
    have h2 := of_decide_eq_true h2
    exact Or.inr ⟨j - 59, by omega, by omega⟩
theorem mna_c {g : GT} {U : State} (hN : ∀ j, j < 154 → U.vm.findClass ("[" ++ (tyA j).toString) = some (g.2.2 j)) (i : Nat) (hi : i < 40) : g.2.2 (59 + i) = g.2.2 59 := by
  have h1 := hN (59 + i) (by omega)
  have h2 := hN 59 (by decide)
  have h3 : tyA (59 + i) = tyA 59 := by
    unfold tyA
    rw [(mna_k i hi).1]
    rfl
  rw [h3] at h1
  exact Option.some.inj (h1.symm.trans h2)
theorem mna_z (g : GT) : ∀ j, j < 40 → ∀ cA : ClassId, vp_cell cA (cont g.2.1 st_B (59 + j)) = arrV cA 12 (fun _ => .int 0) := fun j hj cA => by
  obtain ⟨h1, h2⟩ := mna_k j hj
  unfold cont
  rw [h1, h2, if_neg (by decide), if_neg (by decide)]
  rfl
theorem arrV_ext {cA : ClassId} {n : Nat} {f f' : Nat → Value} (h : ∀ i, i < n → f i = f' i) : arrV cA n f = arrV cA n f' := by
  unfold arrV
  congr 1
  congr 1
  funext i
  exact h i.val i.isLt
section ZIM
variable {p : Program} {l : Launch} {e : Env} {R : Room} {s : State} {m : MethodId} {args : Array Value} {below : List Frame} {meth : Method} {c : Code} {cc : ByteArray} {nL : Nat} {own : String} {g : GT} {A : Nat → Prop} {Q : State → Prop} {ow : Option (Nat × (Nat → Value))} {σ : ST} {cs js : List Nat} {sz cells slots pc : Nat} {LV : List (Nat × Value)} {rest : List Value}
theorem zi_mna (hC : HI p s m args c cc nL own g) (hA : ∀ q, s.heap.size ≤ q → A q) {index : Nat} (cells2 slots2 : Nat) (hcl : Cond.classLink own index "[[I" ∈ BG) (had : ∀ i, i < 40 → g.2.1 (71 + i) = sz + 1 + i) (had0 : g.2.1 30 = sz) (hc2 : cells + 41 = cells2) (hs2 : slots + 520 = slots2) (hRc : cells2 ≤ R.cells ∧ slots2 ≤ R.slots) (hz0 : ∀ cA : ClassId, vp_cell cA (cont g.2.1 σ 18) = arrV cA 40 (fun i => .ref (g.2.1 (71 + i)))) (hz : ∀ j, j < 40 → ∀ cA : ClassId, vp_cell cA (cont g.2.1 σ (59 + j)) = arrV cA 12 (fun _ => .int 0)) (hdg : decode cc pc = .ok (.multianewarray index 2, 4))
    (kk : ZI p l e R s m args below meth c g nL A Q ow σ cs (mnaL ++ js) (sz + 41) cells2 slots2 (pc + 4) LV (.ref (g.2.1 30) :: rest)) : ZI p l e R s m args below meth c g nL A Q ow σ cs js sz cells slots pc LV (.int 12 :: .int 40 :: rest) := by
  intro H locs ls hsz hX hp hS hl
  subst hc2
  subst hs2
  obtain ⟨hG, hN, kA, hkA, hkindA⟩ := hC.2.2.2.2.2
  obtain ⟨-, kC, hkC, cm, hkindC⟩ := hG.2.1 59 (by decide) 0 (fun _ => .int 0)
  refine w_mna hC.1 hC.2.1 hC.2.2.2.1 (hC.2.2.2.2.1 _ hcl) (hN 18 (by decide)) hkA hkindA hkC hkindC hRc.1 hRc.2 hdg fun H1 z1 e0 e1 o1 => ?_
  have hk : ∀ q : Nat, q < H.size → H1[q]? = H[q]? := o1
  have hp1 : pcs g σ cs (mnaL ++ js) H1 := ⟨(hp.keep hk).1, fun j hj => by
    rcases List.mem_append.mp hj with hj | hj
    · have h3 : j = 18 ∨ ∃ i, i < 40 ∧ j = 59 + i := mna_in j hj
      rcases h3 with rfl | ⟨i, hi, rfl⟩
      · rw [hz0, show 12 + 18 = 30 from rfl, had0, ← hsz, e0]
        exact congrArg some (arrV_ext fun i hi => by rw [had i hi, ← hsz])
      · rw [hz i hi, show 12 + (59 + i) = 71 + i by omega, had i hi, ← hsz, e1 i hi, mna_c hN i hi]
    · exact (hp.keep hk).2 j hj⟩
  have := kk H1 locs ls (by rw [z1, hsz]) (hX.keep hk) hp1 ⟨Nat.le_trans hS.1 (by omega), fun q h1 h2 => (o1 q (by have := hS.1; omega)).trans (hS.2.1 q h1 h2), hS.2.2⟩ hl
  rw [had0, ← hsz] at this
  exact this
end ZIM
