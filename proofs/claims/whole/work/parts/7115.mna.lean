section WMN
variable {p : Program} {l : Launch} {e : Env} {R : Room} {s : State} {m : MethodId} {args : Array Value} {below : List Frame} {meth : Method} {c : Code} {cc : ByteArray} {H : Heap} {locs : List Loc} {cells slots pc : Nat} {Q : State → Prop} {ls : Array Slot} {rest : List Value}
theorem mn_ext {cA : ClassId} {n : Nat} {f f' : Nat → Value} (h : ∀ i, i < n → f i = f' i) : arrV cA n f = arrV cA n f' := by
  have h9 : (fun j : Fin n => f j.val) = fun j : Fin n => f' j.val := funext fun j => h j.val j.isLt
  unfold arrV
  rw [h9]
/-- one new array, where the walk stands at U under the frame g -/
theorem mn_new {U : State} (X : Stand p l e R s m args below meth c U locs cells slots) {g : JFrame} {E : CtlPost} {d : Bool} {acts : List Action} {cX co : ClassId} {kX : Class} {ty : FieldType} {n : Nat} {v : Value} (hk : s.vm.classes[cX]? = some kX) (hkind : kX.kind = .array co ty) (hn : n ≤ 40) (hcb : componentBytes ty ≤ 8) (hfit : fits ty v = true) (hc : cells + 1 ≤ R.cells) (hs : slots + n ≤ R.slots) {Q : Addr → Pre}
    (hq : ∀ acts', Q U.heap.size d acts' ((U.pushCell (arrV cX n fun _ => v)).setTop g)) : wp (Jvm.newArray cX n v) Q E e d acts (U.setTop g) := by
  obtain ⟨k1, hk1, he⟩ := X.warmed.alike.2.2 _ _ hk
  have hkind1 : k1.kind = .array co ty := by rw [he]; exact hkind
  have hk2 : (U.setTop g).vm.classes[cX]? = some k1 := hk1
  obtain ⟨r1, r2⟩ := X.roomAbove hc hs
  have hmul : n * componentBytes ty ≤ 40 * 8 := Nat.mul_le_mul hn hcb
  have hl : ¬ n > e.platform.arrayLengthLimit := by rw [Launch.admits_arrayLengthLimit X.admits]; omega
  have hh : ¬ n * componentBytes ty > e.platform.maxHeapBytes := by rw [Launch.admits_maxHeapBytes X.admits]; omega
  have hm : ¬ n > e.platform.maxSlots := by omega
  have hcell : (arrV cX n fun _ => v) = { cls := cX, slots := Array.replicate n v, vm := .none } := (arrV_new cX n v).symm
  unfold Jvm.newArray Jvm.arrayFits
  simp only [wp_bind', W.ask, W.ite, wp_pure', W.theClass, W.alloc, W.stop, hl, if_false, hk2, Option.some.injEq, exists_eq_left', hkind1, hh, hm]
  refine ⟨r1, by rw [Array.size_replicate]; exact r2, fun i w hw => ?_, ?_⟩
  · obtain ⟨hi, hw⟩ := Array.getElem?_eq_some_iff.mp hw
    rw [Array.getElem_replicate] at hw
    subst hw
    simp [State.fitsSlot, State.slotType?, hk1, hkind1, hfit]
  · have := hq (allocActs (Array.replicate n v) U.heap.size acts)
    rw [hcell] at this
    exact this
/-- the outer row with i of its places told -/
def mn_O (cA : ClassId) (h0 i : Nat) : Cell := arrV cA 40 fun j => if j < i then .ref (h0 + 1 + j) else .null
theorem mn_O_set (cA : ClassId) (h0 i : Nat) : (mn_O cA h0 i).setSlot i (.ref (h0 + 1 + i)) = mn_O cA h0 (i + 1) := by
  unfold mn_O
  rw [arrV_store]
  refine mn_ext fun j _ => ?_
  show (if j = i then _ else _) = _
  by_cases e : j = i
  · rw [if_pos e, if_pos (by omega), e]
  · rw [if_neg e]
    dsimp only
    by_cases h : j < i
    · rw [if_pos h, if_pos (by omega)]
    · rw [if_neg h, if_neg (by omega)]
/-- the state behind the outer row and i inner rows -/
def mn_V (U : State) (cA comp : ClassId) : Nat → State
  | 0 => U.pushCell (mn_O cA U.heap.size 0)
  | i + 1 => ((mn_V U cA comp i).pushCell (arrV comp 12 fun _ => .int 0)).setCell U.heap.size (mn_O cA U.heap.size (i + 1))
theorem mn_facts {U : State} (X : Stand p l e R s m args below meth c U locs cells slots) (cA comp : ClassId) : ∀ i : Nat, Stand p l e R s m args below meth c (mn_V U cA comp i) locs (cells + 1 + i) (slots + 40 + 12 * i) ∧ (mn_V U cA comp i).heap.size = U.heap.size + 1 + i ∧
    (mn_V U cA comp i).heap[U.heap.size]? = some (mn_O cA U.heap.size i) ∧ (∀ j, j < i → (mn_V U cA comp i).heap[U.heap.size + 1 + j]? = some (arrV comp 12 fun _ => .int 0)) ∧ ∀ q : Nat, q < U.heap.size → (mn_V U cA comp i).heap[q]? = U.heap[q]?
  | 0 => by
    refine ⟨?_, ?_, ?_, fun j hj => absurd hj (Nat.not_lt_zero _), fun q hq => State.heap_pushCell_of_lt _ _ hq⟩
    · have h := X.pushed (mn_O cA U.heap.size 0)
      rw [show (mn_O cA U.heap.size 0).slots.size = 40 from arrV_size _ _ _] at h
      exact h
    · simp [mn_V]
    · exact State.heap_pushCell_size _ _
  | i + 1 => by
    obtain ⟨XV, s1, s2, s3, s4⟩ := mn_facts X cA comp i
    have hlt : U.heap.size < (mn_V U cA comp i).heap.size := by omega
    have hsz : ((mn_V U cA comp i).pushCell (arrV comp 12 fun _ => .int 0)).heap.size = U.heap.size + 1 + i + 1 := by simp [s1]
    have hout : ((mn_V U cA comp i).pushCell (arrV comp 12 fun _ => .int 0)).heap[U.heap.size]? = some (mn_O cA U.heap.size i) := by
      rw [State.heap_pushCell_of_lt _ _ hlt]
      exact s2
    refine ⟨?_, ?_, ?_, ?_, ?_⟩
    · have XP := (XV.pushed (arrV comp 12 fun _ => .int 0)).stored hout i (.ref (U.heap.size + 1 + i))
      rw [arrV_size, mn_O_set] at XP
      have h := Stand.forget XP (fun y hy => by rw [List.mem_singleton.mp hy]; exact X.same.2.1)
      rw [show slots + 40 + 12 * i + 12 = slots + 40 + 12 * (i + 1) by omega] at h
      exact h
    · show (State.setCell _ _ _).heap.size = _
      rw [size_setCell, hsz]
      omega
    · have hl2 : U.heap.size < ((mn_V U cA comp i).pushCell (arrV comp 12 fun _ => .int 0)).heap.size := by omega
      exact heapAt_setCell_self _ hl2
    · intro j hj
      show (State.setCell _ _ _).heap[_]? = _
      rw [heapAt_setCell_ne _ (show U.heap.size ≠ U.heap.size + 1 + j by omega)]
      by_cases e : j = i
      · rw [e, ← s1]
        exact State.heap_pushCell_size _ _
      · rw [State.heap_pushCell_of_lt _ _ (show U.heap.size + 1 + j < (mn_V U cA comp i).heap.size by omega)]
        exact s3 j (by omega)
    · intro q hq
      show (State.setCell _ _ _).heap[_]? = _
      rw [heapAt_setCell_ne _ (Nat.ne_of_gt hq), State.heap_pushCell_of_lt _ _ (Nat.lt_trans hq hlt)]
      exact s4 q hq
theorem mn_make {U : State} (X : Stand p l e R s m args below meth c U locs cells slots) {g : JFrame} {E : CtlPost} {d : Bool} {acts : List Action} {cA comp cm : ClassId} {kA kC : Class} (hkA : s.vm.classes[cA]? = some kA) (hkindA : kA.kind = .array comp (.array .int)) (hkC : s.vm.classes[comp]? = some kC) (hkindC : kC.kind = .array cm .int) (hcells : cells + 41 ≤ R.cells) (hslots : slots + 520 ≤ R.slots) {Q : Addr → Pre}
    (hq : ∀ d' acts', Q U.heap.size d' acts' ((mn_V U cA comp 40).setTop g)) : wp (multianewarray.make cA [40, 12]) Q E e d acts (U.setTop g) := by
  have n1 : ¬ (40 : Int32) < 0 := by decide
  have n2 : ¬ (12 : Int32) < 0 := by decide
  have z1 : (40 : Int32).toNatClampNeg = 40 := by decide
  have z2 : (12 : Int32).toNatClampNeg = 12 := by decide
  have b1 : ((40 : Int32) == 0) = false := by decide
  obtain ⟨k1, hk1, he⟩ := X.warmed.alike.2.2 _ _ hkA
  have hkind1 : k1.kind = .array comp (.array .int) := by rw [he]; exact hkindA
  have hk2 : (U.setTop g).vm.classes[cA]? = some k1 := hk1
  rw [multianewarray.make]
  simp only [wp_bind', W.ite, n1, if_false, wp_pure', W.theClass, hk2, Option.some.injEq, exists_eq_left', hkind1, z1]
  refine mn_new X hkA hkindA (Nat.le_refl _) (by decide) rfl (by omega) (by omega) fun acts' => ?_
  simp only [b1, Bool.false_eq_true, if_false, wp_bind', wp_pure', Std.Legacy.Range.forIn_eq_forIn_range']
  refine wp_forIn_inv (fun js V1 => ∃ i, i ≤ 40 ∧ js = List.range' i (40 - i) ∧ V1 = (mn_V U cA comp i).setTop g) _ _ ⟨0, Nat.zero_le _, rfl, rfl⟩ ?_ ?_
  · rintro x js V1 d' acts' Q' ⟨i, hi, hjs, rfl⟩ hnext
    have hi : i < 40 := by
      rcases Nat.lt_or_ge i 40 with h | h
      · exact h
      · rw [show 40 - i = 0 by omega] at hjs
        cases hjs
    rw [show 40 - i = (40 - (i + 1)) + 1 by omega, List.range'_succ] at hjs
    obtain ⟨rfl, hjs⟩ := List.cons.inj hjs
    obtain ⟨XV, s1, s2, -⟩ := mn_facts X cA comp x
    obtain ⟨k3, hk3, he3⟩ := XV.warmed.alike.2.2 _ _ hkC
    have hkind3 : k3.kind = .array cm .int := by rw [he3]; exact hkindC
    have hk4 : ((mn_V U cA comp x).setTop g).vm.classes[comp]? = some k3 := hk3
    obtain ⟨k5, hk5, he5⟩ := XV.warmed.alike.2.2 _ _ hkA
    have hkind5 : k5.kind = .array comp (.array .int) := by rw [he5]; exact hkindA
    simp only [wp_bind']
    rw [multianewarray.make]
    simp only [wp_bind', W.ite, n2, if_false, wp_pure', W.theClass, hk4, Option.some.injEq, exists_eq_left', hkind3, z2]
    refine mn_new XV hkC hkindC (by decide) (by decide) rfl (by omega) (by omega) fun acts2 => ?_
    simp only [wp_bind', W.writeLoc, wp_pure']
    have hlt : U.heap.size < (mn_V U cA comp x).heap.size := by omega
    have hout : ((mn_V U cA comp x).pushCell (arrV comp 12 fun _ => defaultValue .int)).heap[U.heap.size]? = some (mn_O cA U.heap.size x) := by
      rw [State.heap_pushCell_of_lt _ _ hlt]
      exact s2
    refine ⟨_, hout, (fun h => by cases h), by rw [show (mn_O cA U.heap.size x).slots.size = 40 from arrV_size _ _ _]; exact hi, ?_, hnext _ _ _ ⟨x + 1, hi, hjs, ?_⟩⟩
    · simp [State.fitsSlot, State.slotType?, mn_O, arrV, hk5, hkind5, fits]
    · rw [s1, mn_O_set]
      rfl
  · rintro V1 d' acts' ⟨i, hi, hjs, rfl⟩
    have hi : i = 40 := by
      rcases Nat.lt_or_ge i 40 with h | h
      · rw [show 40 - i = (40 - (i + 1)) + 1 by omega, List.range'_succ] at hjs
        cases hjs
      · omega
    subst hi
    simp only [wp_pure']
    exact hq _ _
theorem w_mna (hexec : p.tables.exec = Jvm.exec) (hb : c.code = cc) {own : String} {index : Nat} (hown : s.vm.findClass own = some m.cls) (hcl : (Cond.classLink own index "[[I").before args s = true) {cA comp cm : ClassId} {kA kC : Class} (hfA : s.vm.findClass "[[I" = some cA) (hkA : s.vm.classes[cA]? = some kA) (hkindA : kA.kind = .array comp (.array .int)) (hkC : s.vm.classes[comp]? = some kC) (hkindC : kC.kind = .array cm .int) (hcells : cells + 41 ≤ R.cells) (hslots : slots + 520 ≤ R.slots) (hdg : decode cc pc = .ok (.multianewarray index 2, 4))
    (kk : ∀ H1 : Heap, H1.size = H.size + 41 → H1[H.size]? = some (arrV cA 40 (fun i => .ref (H.size + 1 + i))) → (∀ i, i < 40 → H1[H.size + 1 + i]? = some (arrV comp 12 (fun _ => .int 0))) → (∀ q : Nat, q < H.size → H1[q]? = H[q]?) → W p l e R s m args below meth c H1 locs (cells + 41) (slots + 520) Q (F0 m (pc + 4) ls (.ref H.size :: rest))) : W p l e R s m args below meth c H locs cells slots Q (F0 m pc ls (.int 12 :: .int 40 :: rest)) := by
  intro T hT X
  have hpl : e.platform.magicAccessors = ({} : Platform).magicAccessors := by rw [X.admits.platform]
  obtain ⟨c0, hc0, hlk⟩ := Cond.classLink_spec hown hcl e.platform hpl
  cases Option.some.inj (hfA.symm.trans hc0)
  obtain ⟨hg1, hw1, -⟩ := State.classEntry (e := e) X.warmed hlk
  generalize T.vm.noted m.cls index (.cls cA) = vm1 at hg1 hw1
  have X1 := X.noted hw1
  obtain ⟨XV, s1, s2, s3, s4⟩ := mn_facts X1 cA comp 40
  have XV : Stand p l e R s m args below meth c (mn_V (T.setVm vm1) cA comp 40) locs (cells + 41) (slots + 520) := by
    have h := XV
    rw [show cells + 1 + 40 = cells + 41 by omega, show slots + 40 + 12 * 40 = slots + 520 by omega] at h
    exact h
  have hz : (T.setVm vm1).heap.size = H.size := by rw [← hT]; rfl
  have s5 : ∀ q : Nat, q < H.size → (mn_V (T.setVm vm1) cA comp 40).heap[q]? = H[q]? := fun q hq => by
    rw [s4 q (by rw [hz]; exact hq), ← hT]
    rfl
  rw [hz] at s1 s2 s3
  obtain ⟨t, a1, b1⟩ := kk (mn_V (T.setVm vm1) cA comp 40).heap (by omega) (s2.trans (congrArg some (mn_ext fun j hj => if_pos hj))) s3 s5 _ rfl XV
  refine ⟨t, ?_, b1⟩
  jvm_step X.here [hexec, hb, hdg]
  simp only [multianewarray.sem, wp_bind', W.resolveClassAt_links (State.method?_setTop (F0 m pc ls (.int 12 :: .int 40 :: rest)) X.here.top) hg1]
  rw [W.popN, if_neg (by decide)]
  refine ⟨F0 m pc ls (.int 12 :: .int 40 :: rest), State.topJava?_setTop' (s := T.setVm vm1) _ X.here.top, [.int 40, .int 12], rest, rfl, rfl, ?_⟩
  simp only [List.mapM_cons, List.mapM_nil, wp_bind', wp_pure']
  have eS : ((T.setTop (F0 m pc ls (.int 12 :: .int 40 :: rest))).setVm vm1).setTop (F0 m pc ls rest) = (T.setVm vm1).setTop (F0 m pc ls rest) := State.setTop_setTop (T.setVm vm1) _ _
  show wp (multianewarray.make cA [40, 12]) _ _ e _ _ (((T.setTop (F0 m pc ls (.int 12 :: .int 40 :: rest))).setVm vm1).setTop (F0 m pc ls rest))
  rw [eS]
  refine mn_make X1 hkA hkindA hkC hkindC hcells hslots fun d' acts' => ?_
  rw [hz]
  simp only [wp_bind', W.mark, W.pushRef, State.topJava?_setTop' _ XV.here.top, Option.some.injEq, exists_eq_left', State.setTop_setTop, State.heap_setTop]
  intro acts
  simp [jvm, XV.here.top]
  exact a1
end WMN
