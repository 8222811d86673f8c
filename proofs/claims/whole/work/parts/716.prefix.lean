def ordL : List Nat := [10, 69, 70, 7, 55, 0, 12, 13, 14, 15, 16, 17, 18, 19, 9, 61, 62, 63, 64, 65, 66, 67, 68, 2, 25, 26, 27, 28, 29, 30, 71, 72, 73, 74, 75, 76, 77, 78, 79, 80, 81, 82, 83, 84, 85, 86, 87, 88, 89, 90, 91, 92, 93, 94, 95, 96, 97, 98, 99, 100, 101, 102, 103, 104, 105, 106, 107, 108, 109, 110, 4, 38, 39, 40, 41, 5, 42, 43, 44, 45, 46, 47, 48, 8, 56, 57, 58, 59, 60, 6, 49, 50, 51, 52, 53, 54, 1, 20, 21, 22, 23, 24, 3, 31, 32, 33, 34, 35, 36, 37, 11, 111, 112, 113, 114, 115, 116, 117, 118, 119, 120, 121, 122, 123, 124, 125, 126, 127, 128, 129, 130, 131, 132, 133, 134, 135, 136, 137, 138, 139, 140, 141, 142, 143, 144, 145, 146, 147, 148, 149, 150, 151, 152, 153, 154, 155, 156, 157, 158, 159, 160, 161, 162, 163, 164, 165]
theorem off_inv : ∀ n, n < 166 → ordL.getD (offA n) 0 = n ∧ offA n < 166 := by decide +kernel
theorem off_inj {a b : Nat} (ha : a < 166) (hb : b < 166) (h : offA a = offA b) : a = b := by
  have h1 := (off_inv a ha).1
  rw [h, (off_inv b hb).1] at h1
  exact h1.symm
theorem over_spec {args : Array Value} {s : State} (h : (Cond.arrayOver (.array .int)).before args s = true) : ∃ comp ca k, s.vm.findClass "[I" = some comp ∧ s.vm.classes[ca]? = some k ∧ k.kind = .array comp (.array .int) ∧ s.vm.findClass "[[I" = some ca := by
  have h : (Cond.arrayOver (.array .int)).holds args s none s [] = true := h
  simp only [Cond.holds, Cond.value, beq_iff_eq] at h
  cases hc : s.vm.findClass (FieldType.array .int).toString with
  | none =>
    rw [hc] at h
    simp at h
  | some comp =>
    rw [hc] at h
    simp only [Option.bind_some, Option.bind_eq_some_iff, Option.map_eq_some_iff] at h
    obtain ⟨ca, hi, k, hk, hb⟩ := h
    obtain ⟨hlt, hp, -⟩ := Array.findIdx?_eq_some_iff_getElem.mp hi
    have hkk : s.vm.classes[ca] = k := (Array.getElem?_eq_some_iff.mp hk).2
    rw [hkk] at hp
    cases hkind : k.kind with
    | array component ty =>
      rw [hkind] at hb hp
      simp at hb hp
      exact ⟨comp, ca, k, hc, hk, by rw [hkind, hp, hb.1], hb.2⟩
    | _ =>
      rw [hkind] at hb
      simp at hb
def kdC (cI cZ cB cJ cQ : ClassId) (j : Nat) : ClassId := match kdA j with
  | 0 => cI
  | 1 => cZ
  | 2 => cB
  | 3 => cJ
  | _ => cQ
theorem kd_cases (j : Nat) (hj : j < 154) : (kdA j = 0 ∧ tyA j = .int) ∨ (kdA j = 1 ∧ tyA j = .boolean) ∨ (kdA j = 2 ∧ tyA j = .byte) ∨ (kdA j = 3 ∧ tyA j = .long) ∨ (kdA j = 4 ∧ tyA j = .array .int) := by
  have h : ∀ j, j < 154 → kdA j = 0 ∨ kdA j = 1 ∨ kdA j = 2 ∨ kdA j = 3 ∨ kdA j = 4 := by decide +kernel
  rcases h j hj with h | h | h | h | h
  · exact Or.inl ⟨h, by unfold tyA; rw [h]; rfl⟩
  · exact Or.inr (Or.inl ⟨h, by unfold tyA; rw [h]; rfl⟩)
  · exact Or.inr (Or.inr (Or.inl ⟨h, by unfold tyA; rw [h]; rfl⟩))
  · exact Or.inr (Or.inr (Or.inr (Or.inl ⟨h, by unfold tyA; rw [h]; rfl⟩)))
  · exact Or.inr (Or.inr (Or.inr (Or.inr ⟨h, by unfold tyA; rw [h]; rfl⟩)))
theorem known_all {s : State} {args : Array Value} (hw : ∀ w ∈ BG, w.before args s = true) : ∃ D : va_G, va_K D vwCl [] s := by
  obtain ⟨c0, i0, h0⟩ := u_known (T := TX1) (N := 10) hw uw_0 (hw _ wd_46)
  obtain ⟨c1, i1, h1⟩ := u_known (T := TX2) (N := 6) hw uw_1 (hw _ wd_326)
  obtain ⟨c2, i2, h2⟩ := u_known (T := TX3) (N := 7) hw uw_2 (hw _ wd_133)
  obtain ⟨c3, i3, h3⟩ := u_known (T := TX4) (N := 12) hw uw_3 (hw _ wd_354)
  obtain ⟨c4, i4, h4⟩ := u_known (T := TX5) (N := 15) hw uw_4 (hw _ wd_172)
  obtain ⟨c5, i5, h5⟩ := u_known (T := TX6) (N := 9) hw uw_5 (hw _ wd_226)
  obtain ⟨c6, i6, h6⟩ := u_known (T := TX7) (N := 7) hw uw_6 (hw _ wd_291)
  obtain ⟨c7, i7, h7⟩ := u_known (T := TX8) (N := 2) hw uw_7 (hw _ wd_30)
  obtain ⟨c8, i8, h8⟩ := u_known (T := TX9) (N := 6) hw uw_8 (hw _ wd_261)
  obtain ⟨c9, i9, h9⟩ := u_known (T := TX10) (N := 10) hw uw_9 (hw _ wd_92)
  obtain ⟨c10, i10, h10⟩ := u_known (T := TX11) (N := 17) hw uw_10 (hw _ wd_22)
  obtain ⟨c11, i11, h11⟩ := u_known (T := TX12) (N := 85) hw uw_11 (hw _ wd_1225)
  refine ⟨(fun n => [c0, c1, c2, c3, c4, c5, c6, c7, c8, c9, c10, c11].getD n c0, fun n => [i0, i1, i2, i3, i4, i5, i6, i7, i8, i9, i10, i11].getD n i0), fun n q hq => ?_, fun k q hq => by cases hq⟩
  match n, hq with
  | 0, hq => exact (by cases hq; exact h0)
  | 1, hq => exact (by cases hq; exact h1)
  | 2, hq => exact (by cases hq; exact h2)
  | 3, hq => exact (by cases hq; exact h3)
  | 4, hq => exact (by cases hq; exact h4)
  | 5, hq => exact (by cases hq; exact h5)
  | 6, hq => exact (by cases hq; exact h6)
  | 7, hq => exact (by cases hq; exact h7)
  | 8, hq => exact (by cases hq; exact h8)
  | 9, hq => exact (by cases hq; exact h9)
  | 10, hq => exact (by cases hq; exact h10)
  | 11, hq => exact (by cases hq; exact h11)
  | n + 12, hq => exact absurd hq (by simp)
/-- the numbers of classes, the addresses to come -/
theorem GI_start {s : State} {args : Array Value} (hw : ∀ w ∈ BG, w.before args s = true) (ht : ∀ w ∈ tables_1, w.before args s = true) : ∃ g : GT, GI g s ∧ AD g s.heap.size ∧ ArrOfT s (g.2.2 19) .long ∧ s.vm.findClass ("[" ++ FieldType.long.toString) = some (g.2.2 19) := by
  obtain ⟨D, hK⟩ := known_all hw
  obtain ⟨cI, kI, mI, fI, lI, dI⟩ := Cond.arrayClass_spec (hw _ wd_44)
  obtain ⟨cZ, kZ, mZ, fZ, lZ, dZ⟩ := Cond.arrayClass_spec (hw _ wd_224)
  obtain ⟨cB, kB, mB, fB, lB, dB⟩ := Cond.arrayClass_spec (hw _ wd_1223)
  obtain ⟨cJ, kJ, mJ, fJ, lJ, dJ⟩ := Cond.arrayClass_spec (hw _ wd_131)
  obtain ⟨comp, cQ, kQ, f1, lQ, dQ, fQ⟩ := over_spec (ht _ wd_139)
  have hcomp : comp = cI := Option.some.inj (f1.symm.trans fI)
  subst hcomp
  have hAr : ∀ j, j < 154 → ArrOfT s (kdC comp cZ cB cJ cQ j) (tyA j) ∧ s.vm.findClass ("[" ++ (tyA j).toString) = some (kdC comp cZ cB cJ cQ j) := fun j hj => by
    unfold kdC
    rcases kd_cases j hj with ⟨h1, h2⟩ | ⟨h1, h2⟩ | ⟨h1, h2⟩ | ⟨h1, h2⟩ | ⟨h1, h2⟩
    · rw [h1, h2]
      exact ⟨fun n z => ⟨fun k h => (by cases h), kI, lI, mI, dI⟩, fI⟩
    · rw [h1, h2]
      exact ⟨fun n z => ⟨fun k h => (by cases h), kZ, lZ, mZ, dZ⟩, fZ⟩
    · rw [h1, h2]
      exact ⟨fun n z => ⟨fun k h => (by cases h), kB, lB, mB, dB⟩, fB⟩
    · rw [h1, h2]
      exact ⟨fun n z => ⟨fun k h => (by cases h), kJ, lJ, mJ, dJ⟩, fJ⟩
    · rw [h1, h2]
      exact ⟨fun n z => ⟨fun k h => (by cases h), kQ, lQ, comp, dQ⟩, fQ⟩
  refine ⟨(D, fun n => s.heap.size + offA n, kdC comp cZ cB cJ cQ), ⟨⟨hK, fun j hj => (hAr j hj).1, fun x hx hb => ?_, fun a b ha hb h => ?_⟩, fun j hj => (hAr j hj).2, kQ, lQ, dQ⟩, fun n _ => rfl, (hAr 19 (by decide)).1, (hAr 19 (by decide)).2⟩
  · have hz := ht x hx
    cases x <;> first | exact va_Nw.of rfl hz | cases hb
  · have h2 : s.heap.size + offA a = s.heap.size + offA b := h
    exact off_inj ha hb (by omega)
theorem pic_K {g : GT} {cs js : List Nat} {H : Heap} (h : pcs g st_B cs js H) (hc : ((List.range 11).all fun x => cs.contains x) = true) (hj : ((List.range 99).all fun x => js.contains x) = true) : pic g TK st_K H := by
  refine ⟨fun c hi => ?_, fun j hi => ?_⟩
  · have hlt : c < 11 := hi.2.1
    refine t_OB.to (h.1 c (List.contains_iff_mem.mp (List.all_eq_true.mp hc c (List.mem_range.mpr hlt)))) (fun k hk => ?_)
    unfold fval
    rw [show gI st_B c k = gI st_K c k from by unfold st_B; rw [gI_sI, if_neg (by omega)]]
  · exact h.2 j (List.contains_iff_mem.mp (List.all_eq_true.mp hj j (List.mem_range.mpr hi.2.1)))
theorem pic_M {g : GT} {cs js : List Nat} {H : Heap} (h : pcs g st_B cs js H) (hc : cs.contains 11 = true) (hj : ((List.range 55).all fun x => js.contains (99 + x)) = true) : pic g TM st_M H := by
  refine ⟨fun c hi => ?_, fun j hi => ?_⟩
  · have h1 : 11 ≤ c := hi.1
    have h2 : c < 12 := hi.2.1
    have : c = 11 := by omega
    subst this
    refine t_OB.to (h.1 11 (List.contains_iff_mem.mp hc)) (fun k hk => ?_)
    unfold fval
    rw [show gI st_B 11 k = gI st_M 11 k from by unfold st_B st_M st_K; simp only [gI_sI, Nat.reduceEqDiff, if_true, if_false]]
  · have h1 : 99 ≤ j := hi.1
    have h2 : j < 154 := hi.2.1
    have := List.all_eq_true.mp hj (j - 99) (List.mem_range.mpr (by omega))
    rw [show 99 + (j - 99) = j by omega] at this
    exact h.2 j (List.contains_iff_mem.mp this)
set_option maxRecDepth 20000 in
theorem law_prefix {p : Program} {e : Env} {s : State} {m : MethodId} {below : List Frame} {meth : Method} {c : Code} (l : Launch) (hflags : l.flags = flags0) {b L : Nat} {xs : Nat → Int32} (C0 : lw_At p s m meth c b L xs) (kk : ∀ (g : GT) (ao : Nat) (cO : ClassId) (v : Int64), HL p s m #[Value.ref b] meth c b L xs g ao cO → ZL p l e room_1 s m #[Value.ref b] below meth c g ao cO (lw_Z below #[Value.ref b] s) 400 18000 st_K st_M v 23 [(4, .int (nI (6 * 0))), (0, .ref b), (1, .ref (g.2.1 10)), (2, .ref (g.2.1 11)), (3, .ref ao)] []) : W p l e room_1 s m #[Value.ref b] below meth c s.heap [] 0 0 (lw_Z below #[Value.ref b] s) (entryFrame m ([Value.ref b] : List Value).toArray 7) := by
  obtain ⟨hx, hb, hret, hml, hown, hts, hX, hbl, hlocks, hgv⟩ := C0
  have hw : ∀ w ∈ BG, w.before #[Value.ref b] s = true := fun w hw => hts w (List.mem_filter.mp hw).1
  have htb : ∀ w ∈ tables_1, w.before #[Value.ref b] s = true := fun w hw => hts w (List.mem_append_right _ hw)
  obtain ⟨g, hG, hN, hJ, hfJ⟩ := GI_start hw htb
  have hC : HI p s m #[Value.ref b] c code 7 RL g := ⟨hx, hb, hml, hown, hw, hG⟩
  have hA : ∀ q, s.heap.size ≤ q → (fun q => s.heap.size ≤ q) q := fun q h => h
  have hl := lv_entry [.ref b] (n := 7) (Nat.le_of_ble_eq_true rfl)
  rw [lg_entry_eq]
  have hl : lv_has (lg_sl [.ref b] ++ List.replicate (7 - (lg_sl [.ref b]).length) Slot.unset).toArray 7 [(0, .ref b)] := hl
  suffices hZ : ZI p l e room_1 s m #[Value.ref b] below meth c g 7 (fun q => s.heap.size ≤ q) (lw_Z below #[Value.ref b] s) none st_B [] [] s.heap.size 0 0 0 [(0, .ref b)] [] from hZ s.heap [] _ rfl trivial ⟨fun c hc => absurd hc List.not_mem_nil, fun j hj => absurd hj List.not_mem_nil⟩ va_S.rf hl
  refine zi_makeP hC hA 110 8705 (ini_11 l hN) cj_10 df_X11_init mt_X11_init rfl wd_24 wd_23 wd_21 wd_22 wd_1 (by rw [hN 10 (by decide)]; rfl) ⟨Nat.le_of_ble_eq_true rfl, Nat.le_of_ble_eq_true rfl⟩ rfl rfl rfl rfl ⟨Nat.le_of_ble_eq_true rfl, Nat.le_of_ble_eq_true rfl⟩ (Nat.le_of_ble_eq_true rfl) dL_law_0 dL_law_3 dL_law_4 ?_
  refine zi_astore hC (LV' := [(1, .ref (g.2.1 10)), (0, .ref b)]) dL_law_7 rfl (by decide) rfl ?_
  refine zi_makeP hC hA 166 17830 (ini_12 l hN) cj_11 df_X12_init mt_X12_init rfl wd_1227 wd_1226 wd_1224 wd_1225 wd_12 (by rw [hN 11 (by decide)]; rfl) ⟨Nat.le_of_ble_eq_true rfl, Nat.le_of_ble_eq_true rfl⟩ rfl rfl rfl rfl ⟨Nat.le_of_ble_eq_true rfl, Nat.le_of_ble_eq_true rfl⟩ (Nat.le_of_ble_eq_true rfl) dL_law_8 dL_law_11 dL_law_12 ?_
  refine zi_astore hC (LV' := [(2, .ref (g.2.1 11)), (1, .ref (g.2.1 10)), (0, .ref b)]) dL_law_15 rfl (by decide) rfl ?_
  refine zi_iconst hC (x := 1) dL_law_16 rfl ?_
  intro H locs ls hsz hX2 hp hS hl
  refine va_newaK (atype := .long) (N := 1) hx hb (hw _ wd_131) rfl dL_law_17 rfl (by decide) rfl (Nat.le_of_ble_eq_true rfl) (Nat.le_of_ble_eq_true rfl) (Nat.le_of_ble_eq_true rfl) hsz fun H1 cA e1 z1 o1 hAr hNm => ?_
  have hsz2 : H.size = s.heap.size + 166 := hsz
  have hk : ∀ q : Nat, q < H.size → H1[q]? = H[q]? := fun q hq => o1 q (by omega)
  have hp1 := hp.keep hk
  have hS1 : va_S (fun q => s.heap.size ≤ q) s.heap H1 locs := ⟨by omega, fun q h1 h2 => (o1 q (by omega)).trans (hS.2.1 q h1 h2), hS.2.2⟩
  refine lv_astore_n hx hb (lv' := [(3, .ref (s.heap.size + 166)), (2, .ref (g.2.1 11)), (1, .ref (g.2.1 10)), (0, .ref b)]) dL_law_19 rfl hl (by decide) rfl (fun ls hl => ?_)
  refine lv_iconst hx hb (v := 0) dL_law_20 rfl ?_
  refine lv_istore hx hb (lv' := [(4, .int 0), (3, .ref (s.heap.size + 166)), (2, .ref (g.2.1 11)), (1, .ref (g.2.1 10)), (0, .ref b)]) dL_law_21 hl (by decide) rfl (fun ls hl => ?_)
  have hHL : HL p s m #[Value.ref b] meth c b L xs g (s.heap.size + 166) cA := ⟨hx, hb, hml, hown, hw, hG.1, hX, hbl, fun q hq => by rw [hN q hq]; omega, by omega, fun q hq => by rw [hN q hq]; have := (off_inv q hq).2; omega, hAr⟩
  refine W.widen (k := 400) (n := 18000) (Nat.le_of_ble_eq_true rfl) (Nat.le_of_ble_eq_true rfl) ?_
  exact kk g (s.heap.size + 166) cA 0 hHL H1 locs ls (pic_K hp1 rfl rfl) (pic_M hp1 rfl rfl) e1 hS1 (lv_sub hl [0, 4, 3, 2, 1] rfl)
