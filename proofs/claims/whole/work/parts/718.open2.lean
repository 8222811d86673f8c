/-! OPEN, AS THE LAW CALLS IT -/
def QL (g : GT) (k : ST) (ao : Nat) (cO : ClassId) (r : Int32) (v' : Int64) : Array Value → State → Outcome → State → Prop := fun _ st oc t => oc = .returned (some (.int r)) ∧ pic g TK k t.heap ∧ t.heap[ao]? = some (arrV cO 1 (fun _ => .long v')) ∧ va_F (fun q => frA g TK q ∨ q = ao) st t
def PL (g : GT) (N0 sa : Nat) (k : ST) (a : Int32) (ao : Nat) (cO : ClassId) (v : Int64) : Array Value → State → Prop := va_Pc [.ref (g.2.1 10), .int a, .ref ao] (fun U => GK g U ∧ pic g TK k U.heap ∧ U.heap[ao]? = some (arrV cO 1 (fun _ => .long v)) ∧ ArrOfT U cO .long ∧ XF N0 sa U U.heap)
def MO (l : Launch) (g : GT) (N0 sa : Nat) (k : ST) (a : Int32) (ao : Nat) (cO : ClassId) (v : Int64) (r : Int32) (v' : Int64) : Prop := Met l yL_open (Cond.codeWith yL_open cL_open 4 (some .int) [(0, 9, 12, 13)] :: BG) { frames := 8, cells := 1, slots := 6, locals := 300 } (PL g N0 sa k a ao cO v) (QL g k ao cO r v') 1 6 (fun q => frA g TK q ∨ q = ao)
theorem pl_blind {g : GT} {N0 sa : Nat} {k : ST} {a : Int32} {ao : Nat} {cO : ClassId} {v : Int64} : FrameBlind (PL g N0 sa k a ao cO v) := fun a U g1 mk q => by
  obtain ⟨q0, q1, q2, q3, q4, q5⟩ := q
  exact ⟨q0, q1.same (U := U.calling g1 mk a) rfl, q2, q3, arrOfT_moved (Vm.Alike.refl U.vm) q4, q5.same rfl⟩
set_option maxRecDepth 20000 in
theorem o_A (l : Launch) {g : GT} {N0 sa : Nat} {k : ST} {a : Int32} {ao : Nat} {cO : ClassId} {v : Int64} {r : Int32} (hne : ∀ q, q < 166 → g.2.1 q ≠ ao) (hk : fX11_open k a = some (r, k)) : MO l g N0 sa k a ao cO v 0 r.toInt64 := by
  refine va_MetW (cc := cL_open) (maxL := 4) (ret := some .int) (hh := [(0, 9, 12, 13)]) (by decide) rfl ?_
  intro p e s m args below meth c s₁ B hml hv
  obtain ⟨rfl, hG, hP, ho, hA, hX⟩ := hv
  have hts := atoms_spec (ws := (Cond.codeWith yL_open cL_open 4 (some .int) [(0, 9, 12, 13)] :: BG)) B.pre
  have hw : ∀ w ∈ BG, w.before ([.ref (g.2.1 10), .int a, .ref ao] : List Value).toArray s = true := fun w hw => hts w (List.mem_cons_of_mem _ hw)
  have hown : s.vm.findClass RL = some m.cls := findClass_of_methodNamed B.named
  have hC : HC p s m ([.ref (g.2.1 10), .int a, .ref ao] : List Value).toArray meth c cL_open 4 RL (some .int) g := ⟨B.exec, B.bytes, hml, hown, hw, B.notSynchronized, B.returns, hG⟩
  have hl := lv_entry [.ref (g.2.1 10), .int a, .ref ao] (n := 4) (Nat.le_of_ble_eq_true rfl)
  rw [lg_entry_eq]
  have hl : lv_has (lg_sl [.ref (g.2.1 10), .int a, .ref ao] ++ List.replicate (4 - (lg_sl [.ref (g.2.1 10), .int a, .ref ao]).length) Slot.unset).toArray 4 [(0, .ref (g.2.1 10)), (1, .int a), (2, .ref ao)] := hl
  generalize (lg_sl [.ref (g.2.1 10), .int a, .ref ao] ++ List.replicate (4 - (lg_sl [.ref (g.2.1 10), .int a, .ref ao]).length) Slot.unset).toArray = ls at hl ⊢
  refine lv_aload_n hC.1 hC.2.1 dL_open_0 rfl (lv_at hl 2 rfl) ?_
  refine lv_iconst hC.1 hC.2.1 (v := 0) dL_open_1 rfl ?_
  refine lv_aload_n hC.1 hC.2.1 dL_open_2 rfl (lv_at hl 0 rfl) ?_
  refine lv_iload_n hC.1 hC.2.1 dL_open_3 rfl (lv_at hl 1 rfl) ?_
  obtain ⟨cell, q1, q2, q3, -⟩ := hP.1 10 ic_10
  have hcc := (hG.1.1 10 _ ci_10.1).2.1
  have run := va_runV (n := 1) (As := [.int a]) (g := F0 m 4 ls [.int a, .ref (g.2.1 10), .int 0, .ref ao]) (rest := [.int 0, .ref ao]) ⟨hC.1, hC.2.1, hC.2.2.1, hC.2.2.2.1, hw⟩ (c_X11_open l g a k r k hk) (R := (headSpec (Cond.codeWith yL_open cL_open 4 (some .int) [(0, 9, 12, 13)] :: BG) { frames := 8, cells := 1, slots := 6, locals := 300 }).room) ⟨callB_of 1 hw (bg_in mt_X11_open.1) rfl rfl rfl (hw _ mt_X11_open.2.1) (hw _ wd_1154) mt_X11_open.2.2 ⟨Nat.le_of_ble_eq_true rfl, Nat.le_of_ble_eq_true rfl⟩, hw _ wd_1155, hw _ wd_1156⟩ (H := s.heap) (e := e) (below := below) (meth := meth) (locs := []) (cells := 0) (slots := 0) ⟨pc_blind, ⟨cell, q1, by rw [q3]; rfl, by rw [q2]; exact hcc⟩, fun U hU hW => ⟨rfl, hG.warm hW, by rw [hU]; exact hP⟩⟩ rfl rfl hl.1 rfl (lv_room (Nat.le_of_ble_eq_true rfl)) dL_open_4 ⟨Nat.zero_le _, Nat.zero_le _⟩
  intro S0 hS0 X
  obtain ⟨u, st₀, t, S1, Ls, h0, X', hLs, e1, e2, ⟨hv, hp, hz, hkk⟩, stp⟩ := run S0 hS0 X
  cases hv
  rw [h0] at hz hkk
  rw [← e1] at hp hz hkk
  have hout : ¬ frA g TK ao := fun ⟨q, hq, e⟩ => hne q (inT_lt hq) e.symm
  have ho1 : S1.heap[ao]? = some (arrV cO 1 (fun _ => .long v)) := by rw [hkk ao (Array.getElem?_eq_some_iff.mp ho).1 hout]; exact ho
  have K : W p l e (headSpec (Cond.codeWith yL_open cL_open 4 (some .int) [(0, 9, 12, 13)] :: BG) { frames := 8, cells := 1, slots := 6, locals := 300 }).room s m ([.ref (g.2.1 10), .int a, .ref ao] : List Value).toArray below meth c S1.heap ([] ++ Ls) 0 0 (MQ below (QL g k ao cO 0 r.toInt64) ([.ref (g.2.1 10), .int a, .ref ao] : List Value).toArray s 1 6 (fun q => frA g TK q ∨ q = ao)) (F0 m 7 ls [.int r, .int 0, .ref ao]) := by
    refine lv_i2l hC.1 hC.2.1 dL_open_7 rfl ?_
    refine W.last hC.1 hC.2.1 ho1 (hA _ _) (fun q => by cases q) (by rw [arrV_size]; decide) rfl rfl dL_open_8 fun H' e' z oq => ?_
    refine lv_goto hC.1 hC.2.1 (pc := 9) (tgt := 15) dL_open_9 (by decide) ?_
    refine lv_iconst hC.1 hC.2.1 (v := 0) dL_open_15 rfl ?_
    refine W.widen (k := 1) (n := 6) (by decide) (by decide) ?_
    have hfr : ∀ q ∈ ([] ++ Ls) ++ [(⟨ao, (0 : Int32).toNatClampNeg⟩ : Loc)], frA g TK q.base ∨ q.base = ao := fun q hq => by
      rcases List.mem_append.mp hq with h | h
      · exact Or.inl (hLs q (by simpa using h))
      · rw [List.mem_singleton.mp h]
        exact Or.inr rfl
    refine W.iret hC.1 hC.2.1 B.returns (fun t ht _ => ⟨rfl, ?_, ?_, ?_⟩) hfr dL_open_16 B.notSynchronized
    · rw [ht]
      exact pic_keep hp (fun q _ h2 => oq q (fun e => hout (e ▸ h2)))
    · rw [ht, e', arrV_store]
      refine congrArg some (arrV_ext fun i hi => ?_)
      have hi : i = (0 : Int32).toNatClampNeg := by
        have : (0 : Int32).toNatClampNeg = 0 := by decide
        omega
      show (if i = (0 : Int32).toNatClampNeg then _ else _) = _
      rw [if_pos hi]
    · rw [va_F, ht]
      exact ⟨by rw [z]; exact hz, fun q h1 h2 => (oq q (fun e => h2 (Or.inr e))).trans (hkk q h1 (fun h3 => h2 (Or.inl h3)))⟩
  obtain ⟨t2, a1, b1⟩ := K S1 rfl X'
  exact ⟨t2, stp t2 a1, b1⟩
set_option maxRecDepth 20000 in
theorem o_B (l : Launch) (hlt : l.stackTraces = false) {g : GT} {N0 sa : Nat} (hN0 : ∀ q, q < 166 → N0 ≤ g.2.1 q) {k : ST} {a : Int32} {ao : Nat} {cO : ClassId} {v : Int64} (hne : ∀ q, q < 166 → g.2.1 q ≠ ao) (hk : fX1_knows k a = some (false, k)) : MO l g N0 sa k a ao cO v 1 v := by
  refine va_MetW (cc := cL_open) (maxL := 4) (ret := some .int) (hh := [(0, 9, 12, 13)]) (by decide) rfl ?_
  intro p e s m args below meth c s₁ B hml hv
  obtain ⟨rfl, hG, hP, ho, hA, hX⟩ := hv
  have hts := atoms_spec (ws := (Cond.codeWith yL_open cL_open 4 (some .int) [(0, 9, 12, 13)] :: BG)) B.pre
  have hw : ∀ w ∈ BG, w.before ([.ref (g.2.1 10), .int a, .ref ao] : List Value).toArray s = true := fun w hw => hts w (List.mem_cons_of_mem _ hw)
  have hown : s.vm.findClass RL = some m.cls := findClass_of_methodNamed B.named
  have htab := vx_table (x := yL_open) B (hts _ List.mem_cons_self)
  have hC : HC p s m ([.ref (g.2.1 10), .int a, .ref ao] : List Value).toArray meth c cL_open 4 RL (some .int) g := ⟨B.exec, B.bytes, hml, hown, hw, B.notSynchronized, B.returns, hG⟩
  have hl := lv_entry [.ref (g.2.1 10), .int a, .ref ao] (n := 4) (Nat.le_of_ble_eq_true rfl)
  rw [lg_entry_eq]
  have hl : lv_has (lg_sl [.ref (g.2.1 10), .int a, .ref ao] ++ List.replicate (4 - (lg_sl [.ref (g.2.1 10), .int a, .ref ao]).length) Slot.unset).toArray 4 [(0, .ref (g.2.1 10)), (1, .int a), (2, .ref ao)] := hl
  generalize (lg_sl [.ref (g.2.1 10), .int a, .ref ao] ++ List.replicate (4 - (lg_sl [.ref (g.2.1 10), .int a, .ref ao]).length) Slot.unset).toArray = ls at hl ⊢
  refine lv_aload_n hC.1 hC.2.1 dL_open_0 rfl (lv_at hl 2 rfl) ?_
  refine lv_iconst hC.1 hC.2.1 (v := 0) dL_open_1 rfl ?_
  refine lv_aload_n hC.1 hC.2.1 dL_open_2 rfl (lv_at hl 0 rfl) ?_
  refine lv_iload_n hC.1 hC.2.1 dL_open_3 rfl (lv_at hl 1 rfl) ?_
  obtain ⟨cell, q1, q2, q3, -⟩ := hP.1 10 ic_10
  have hcc := (hG.1.1 10 _ ci_10.1).2.1
  have run := vx_runV (n := 1) (As := [.int a]) (g := F0 m 4 ls [.int a, .ref (g.2.1 10), .int 0, .ref ao]) (rest := [.int 0, .ref ao]) ⟨hC.1, hC.2.1, hC.2.2.1, hC.2.2.2.1, hw⟩ (t_X11_open l hlt hN0 hk (sa := sa)) (R := (headSpec (Cond.codeWith yL_open cL_open 4 (some .int) [(0, 9, 12, 13)] :: BG) { frames := 8, cells := 1, slots := 6, locals := 300 }).room) ⟨callB_of 1 hw (bg_in mt_X11_open.1) rfl rfl rfl (hw _ mt_X11_open.2.1) (hw _ wd_1154) mt_X11_open.2.2 ⟨Nat.le_of_ble_eq_true rfl, Nat.le_of_ble_eq_true rfl⟩, hw _ wd_1155, hw _ wd_1156⟩ (H := s.heap) (e := e) (below := below) (meth := meth) (locs := []) (cells := 0) (slots := 0) ⟨xo_blind, ⟨cell, q1, by rw [q3]; rfl, by rw [q2]; exact hcc⟩, fun U hU hW => ⟨rfl, hG.warm hW, by rw [hU]; exact hP, by rw [hU]; exact hX.warm hW⟩⟩ rfl rfl hl.1 rfl (lv_room (Nat.le_of_ble_eq_true rfl)) dL_open_4 ⟨Nat.le_of_ble_eq_true rfl, Nat.le_of_ble_eq_true rfl⟩
  intro S0 hS0 X
  rcases run S0 hS0 X with ⟨u, st₀, t, S1, Ls, h0, X', hLs, e1, e2, hF, stp⟩ | ⟨q, st₀, t, S1, Ls, E, ce, h0, X', hLs, e1, e2, ⟨hE, hp, hz, hkk⟩, hce, hcv, hcl, stp⟩
  · exact hF.elim
  subst hE
  rw [h0] at hz hkk
  rw [← e1] at hp hz hkk hce
  have hout : ¬ frA g TK ao := fun ⟨q, hq, e⟩ => hne q (inT_lt hq) e.symm
  have K : vx_W p l e (headSpec (Cond.codeWith yL_open cL_open 4 (some .int) [(0, 9, 12, 13)] :: BG) { frames := 8, cells := 1, slots := 6, locals := 300 }).room s m ([.ref (g.2.1 10), .int a, .ref ao] : List Value).toArray below meth c S1.heap ([] ++ Ls) (0 + 1) (0 + 6) (MQ below (QL g k ao cO 1 v) ([.ref (g.2.1 10), .int a, .ref ao] : List Value).toArray s 1 6 (fun q => frA g TK q ∨ q = ao)) (F0 m 4 ls [.int 0, .ref ao]) q := by
    refine vx_catch (own := RL) (name := NSE) (E := NSE) hown [] { startPc := 0, endPc := 9, handlerPc := 12, catchType := 13 } [] htab (fun z hz => by cases hz) (by decide) (by decide) (hw _ wd_1153) (hX.use _ (by simp [XB])) hce hcv hcl ?_
    refine lv_astore_n hC.1 hC.2.1 (i := 3) dL_open_12 rfl hl (by decide) rfl fun ls' hl' => ?_
    refine lv_iconst hC.1 hC.2.1 (v := 1) dL_open_13 rfl ?_
    refine W.iret hC.1 hC.2.1 B.returns (fun t ht _ => ⟨rfl, by rw [ht]; exact hp, ?_, ?_⟩) (fun q hq => Or.inl (hLs q (by simpa using hq))) dL_open_14 B.notSynchronized
    · rw [ht, hkk ao (Array.getElem?_eq_some_iff.mp ho).1 hout]
      exact ho
    · rw [va_F, ht]
      exact ⟨hz, fun q h1 h2 => hkk q h1 (fun h3 => h2 (Or.inl h3))⟩
  obtain ⟨t2, a1, b1⟩ := K S1 rfl X'
  exact ⟨t2, stp.trans a1, b1⟩
section ZLO
variable {p : Program} {l : Launch} {e : Env} {R : Room} {s : State} {m : MethodId} {args : Array Value} {below : List Frame} {meth : Method} {c : Code} {b L : Nat} {xs : Nat → Int32} {g : GT} {ao : Nat} {cO : ClassId} {Q : State → Prop} {cells slots : Nat} {k n : ST} {v : Int64} {pc : Nat} {LV : List (Nat × Value)} {rest : List Value}
theorem zl_open (hH : HL p s m args meth c b L xs g ao cO) {sa : Nat} {a r : Int32} {v' : Int64} (hM : MO l g s.heap.size sa k a ao cO v r v') (hX : XF s.heap.size sa s s.heap) (hR : 9 ≤ R.frames ∧ 400 ≤ R.locals) (hcl : cells + 1 ≤ R.cells ∧ slots + 6 ≤ R.slots) (hrest : (rest.map fun v => v.category).sum ≤ 8) (hdg : decode code pc = .ok (.invokestatic 47, 3)) (kk : ZL p l e R s m args below meth c g ao cO Q (cells + 1) (slots + 6) k n v' (pc + 3) LV (.int r :: rest)) : ZL p l e R s m args below meth c g ao cO Q cells slots k n v pc LV (.ref ao :: .int a :: .ref (g.2.1 10) :: rest) := by
  intro H locs ls hP hN ho hS hl
  have hw := hH.2.2.2.2.1
  have hG := hH.2.2.2.2.2.1
  have hlen : ∀ sig, parseMethodDescriptor yL_open.desc = some sig → 3 = sig.parameters.length := fun sig h => by
    have h2 : (parseMethodDescriptor yL_open.desc).map (fun d => d.parameters.length) = some 3 := by decide +kernel
    rw [h] at h2
    exact (Option.some.inj h2).symm
  have run := vx_runSW (n := 3) (As := [.ref (g.2.1 10), .int a, .ref ao]) (g := F0 m pc ls (.ref ao :: .int a :: .ref (g.2.1 10) :: rest)) (rest := rest) (index := 47) (bytes := cL_open) (maxL := 4) (ret := some .int) (hh := [(0, 9, 12, 13)]) (R := R) (args := args) ⟨hH.1, hH.2.1, hH.2.2.1, hH.2.2.2.1, hw⟩ hM ⟨⟨rfl, rfl, hR.1, Nat.le_trans (Nat.le_of_ble_eq_true rfl) hR.2, pay_in hw (bg_in wb_1152), List.mem_cons_self⟩, hw _ wb_1152, hw _ wd_0, ⟨by decide, by decide⟩, hlen, hw _ wd_1150, hw _ wd_1151⟩ (H := H) (e := e) (below := below) (meth := meth) (locs := locs) (cells := cells) (slots := slots) ⟨pl_blind, fun U hU hW => ⟨rfl, hG.warm hW, by rw [hU]; exact hP, by rw [hU]; exact ho, arrOfT_moved hW.alike hH.2.2.2.2.2.2.2.2.2.2.2, by rw [hU]; exact (hX.warm hW).kept (fun q h1 h2 => hS.2.1 q h1 h2)⟩⟩ rfl rfl hl.1 rfl (lv_room hrest) hdg hcl
  intro S0 hS0 X
  obtain ⟨u, st₀, t, S1, Ls, h0, X', hLs, e1, e2, ⟨hv, hp, ho', hz, hk⟩, stp⟩ := run S0 hS0 X
  cases hv
  rw [h0] at hz hk
  have keep : ∀ q : Nat, q < H.size → ¬ (frA g TK q ∨ q = ao) → S1.heap[q]? = H[q]? := fun q h1 h2 => by rw [e1]; exact hk q h1 h2
  have hin : ∀ q, frA g TK q ∨ q = ao → s.heap.size ≤ q := fun q h => by
    rcases h with ⟨a, ha, e⟩ | e
    · rw [e]; exact hH.2.2.2.2.2.2.2.2.1 a (inT_lt ha)
    · rw [e]; exact hH.2.2.2.2.2.2.2.2.2.1
  obtain ⟨t2, a1, b1⟩ := kk S1.heap (locs ++ Ls) ls (by rw [e1]; exact hp) (pic_keep hN (fun q h1 h2 => keep q h1 (fun h3 => by
      rcases h3 with h3 | h3
      · exact TK_TM hG.2.2.2 h3 h2
      · obtain ⟨a, ha, e⟩ := h2
        exact hH.2.2.2.2.2.2.2.2.2.2.1 a (inT_lt ha) (e.symm.trans h3)))) (by rw [e1]; exact ho') ⟨Nat.le_trans hS.1 (by rw [e1]; exact hz), fun q h1 h2 => by rw [keep q (Nat.lt_of_lt_of_le h1 hS.1) (fun h3 => h2 (hin q h3))]; exact hS.2.1 q h1 h2, fun q hq => by
      rcases List.mem_append.mp hq with h | h
      · exact hS.2.2 q h
      · exact hin _ (hLs q h)⟩ hl S1 rfl X'
  exact ⟨t2, stp t2 a1, b1⟩
theorem zl_istore (hH : HL p s m args meth c b L xs g ao cO) {i : Nat} {x : Int32} {LV' : List (Nat × Value)} (hdg : decode code pc = .ok (.istore i, 2)) (hn : i < 7) (hlv : (i, Value.int x) :: LV.filter (fun q => !(q.1 == i) && !(q.1 + 1 == i && q.2.category == 2)) = LV') (kk : ZL p l e R s m args below meth c g ao cO Q cells slots k n v (pc + 2) LV' rest) : ZL p l e R s m args below meth c g ao cO Q cells slots k n v pc LV (.int x :: rest) := fun H locs ls hP hN ho hS hl => lv_istore hH.1 hH.2.1 hdg hl hn hlv (fun ls' hl' => kk H locs ls' hP hN ho hS hl')
theorem zl_laload (hH : HL p s m args meth c b L xs g ao cO) (hdg : decode code pc = .ok (.laload, 1)) (kk : ZL p l e R s m args below meth c g ao cO Q cells slots k n v (pc + 1) LV (.long v :: rest)) : ZL p l e R s m args below meth c g ao cO Q cells slots k n v pc LV (.int 0 :: .ref ao :: rest) := fun H locs ls hP hN ho hS hl => W.lald (v := .long v) hH.1 hH.2.1 ho (hH.2.2.2.2.2.2.2.2.2.2.2 _ _) (fun q => by cases q) (by rw [arrV_size]; decide) (arrV_read _ _ (by decide)) rfl rfl hdg (kk H locs ls hP hN ho hS hl)
theorem zl_ifn1 (hH : HL p s m args meth c b L xs g ao cO) {x : Int32} {off : Int} {tgt : Nat} (hx : ¬ x = 0) (hdg : decode code pc = .ok (.ifCond .ne off, 3)) (ht : (pc : Int) + off = (tgt : Int)) (kk : ZL p l e R s m args below meth c g ao cO Q cells slots k n v tgt LV rest) : ZL p l e R s m args below meth c g ao cO Q cells slots k n v pc LV (.int x :: rest) := fun H locs ls hP hN ho hS hl => lv_if_ne hH.1 hH.2.1 hdg ht (fun _ => kk H locs ls hP hN ho hS hl) (fun z => absurd z hx)
theorem zl_ifn0 (hH : HL p s m args meth c b L xs g ao cO) {x : Int32} {off : Int} {tgt : Nat} (hx : x = 0) (hdg : decode code pc = .ok (.ifCond .ne off, 3)) (ht : (pc : Int) + off = (tgt : Int)) (kk : ZL p l e R s m args below meth c g ao cO Q cells slots k n v (pc + 3) LV rest) : ZL p l e R s m args below meth c g ao cO Q cells slots k n v pc LV (.int x :: rest) := fun H locs ls hP hN ho hS hl => lv_if_ne hH.1 hH.2.1 hdg ht (fun z => absurd hx z) (fun _ => kk H locs ls hP hN ho hS hl)
end ZLO
theorem pair_open (t : Nat) (k n : ST) (a : Int32) (hr : Rel t k n) : (∃ (r : Int32) (n' : ST), fX11_open k a = some (r, k) ∧ fX12_open n a = some (r, n') ∧ gI n' 11 0 = 0 ∧ Rel (t + 1) k n') ∨ (∃ n' : ST, fX1_knows k a = some (false, k) ∧ fX12_open n a = some (0, n') ∧ gI n' 11 0 = 1 ∧ Rel (t + 1) k n') := by
  obtain ⟨d, h, kc, bc, gc, wc, pc, rc, dc, tc, sc, ic, lc, fc, ln, bn, hB, hK, -⟩ := id hr
  obtain ⟨k1, k2, k3, -, k5, -, -, -, k9⟩ := hK
  by_cases hi : inb a kc = true
  · refine Or.inl ?_
    obtain ⟨j, hj, rfl⟩ := inb_of hi (by omega)
    obtain ⟨⟨s, s1, s2, s3⟩, -⟩ := k9 j hj
    have e40 : inb (nI j) 40 = true := inb_nI (by omega) (by decide)
    have eix : ix (nI j) = j := ix_nI (by omega)
    have g0 : gI (sI n 11 0 0) 11 0 = 0 := rfl
    have e4 : gA (sI n 11 0 0) 100 j = nI s := by
      rw [gA_sI, k5]
      exact s3
    refine ⟨nI (4 ^ s % 2039), sI n 11 0 0, ?_, ?_, g0, rel_step (rel_thr 0 hr)⟩
    · unfold fX11_open fX1_publicOf
      rw [sX1_knows k2 (by omega), ob_some, hi, if_pos rfl, e40, ck_true, eix, s3, four_K k (by omega), ob_some, ob_some]
    · unfold fX12_open
      rw [sX12_isKey k3 (by omega), ob_some, hi, if_pos rfl, nm_eq, g0, if_pos (by decide), e40, ck_true, eix, e4, four_M _ (by omega), ob_some]
  · refine Or.inr ?_
    have hi : inb a kc = false := by cases hz : inb a kc <;> simp_all
    have g0 : gI (sI n 11 0 1) 11 0 = 1 := rfl
    refine ⟨sI n 11 0 1, ?_, ?_, g0, rel_step (rel_thr 1 hr)⟩
    · rw [sX1_knows k2 (by omega), hi]
    · unfold fX12_open
      rw [sX12_isKey k3 (by omega), ob_some, hi, if_neg (by decide), nm_eq, g0, if_neg (by decide)]
theorem lc_6 {p : Program} {l : Launch} {e : Env} {s : State} {m : MethodId} {args : Array Value} {below : List Frame} {meth : Method} {c : Code} {b L : Nat} {xs : Nat → Int32} {g : GT} {ao : Nat} {cO : ClassId} {Q : State → Prop} {cells slots t : Nat} {k n : ST} {v : Int64} {sa : Nat} (hlt : l.stackTraces = false) (hX : XF s.heap.size sa s s.heap) (hH : HL p s m args meth c b L xs g ao cO) (hL : L ≤ 3072) (ht : 6 * t + 6 ≤ L) (hcl : cells + 1 ≤ room_1.cells ∧ slots + 6 ≤ room_1.slots) (hr : Rel t k n) (ih : ∀ (k n : ST) (v : Int64), Rel (t + 1) k n → ZL p l e room_1 s m args below meth c g ao cO Q (cells + 1) (slots + 6) k n v 2327 [(4, .int (nI (6 * t))), (0, .ref b), (1, .ref (g.2.1 10)), (2, .ref (g.2.1 11)), (3, .ref ao)] []) : ZL p l e room_1 s m args below meth c g ao cO Q cells slots k n v 470 [(4, .int (nI (6 * t))), (0, .ref b), (1, .ref (g.2.1 10)), (2, .ref (g.2.1 11)), (3, .ref ao)] [] := by
  have hne := hH.2.2.2.2.2.2.2.2.2.2.1
  have hge := hH.2.2.2.2.2.2.2.2.1
  refine zl_aload_n hH dL_law_470 rfl 2 rfl ?_
  refine zl_aload_n hH dL_law_471 rfl 1 rfl ?_
  refine zl_iload hH dL_law_472 0 rfl ?_
  refine zl_iconst hH (x := 1) dL_law_474 rfl ?_
  refine zl_iadd hH dL_law_475 ?_
  refine zl_sld hH hL (6 * t + 1) (nI_add (6 * t) 1) (by omega) dL_law_476 ?_
  refine zl_aload_n hH dL_law_477 rfl 4 rfl ?_
  have room : 9 ≤ room_1.frames ∧ 400 ≤ room_1.locals := ⟨Nat.le_of_ble_eq_true rfl, Nat.le_of_ble_eq_true rfl⟩
  rcases pair_open t k n (xs (6 * t + 1)) hr with ⟨r, n', hK, hM, h0, hr2⟩ | ⟨n', hK, hM, h0, hr2⟩
  · refine zl_open hH (o_A l hne hK) hX room hcl (rest := []) (Nat.zero_le _) dL_law_478 ?_
    refine zl_istore hH (LV' := [(5, .int 0), (4, .int (nI (6 * t))), (0, .ref b), (1, .ref (g.2.1 10)), (2, .ref (g.2.1 11)), (3, .ref ao)]) dL_law_481 (by decide) rfl ?_
    refine zl_aload_n hH dL_law_483 rfl 4 rfl ?_
    refine zl_aload_n hH dL_law_484 rfl 2 rfl ?_
    refine zl_iload hH dL_law_485 1 rfl ?_
    refine zl_iconst hH (x := 1) dL_law_487 rfl ?_
    refine zl_iadd hH dL_law_488 ?_
    refine zl_sld hH hL (6 * t + 1) (nI_add (6 * t) 1) (by omega) dL_law_489 ?_
    refine zl_callM hH hM (c_X12_open l g (xs (6 * t + 1))) mt_X12_open wd_1533 wd_1534 ci_11 wd_1532 rfl ⟨Nat.le_of_ble_eq_true rfl, Nat.le_of_ble_eq_true rfl⟩ rfl rfl ⟨by omega, by omega⟩ (rest := []) rfl (Nat.le_of_ble_eq_true rfl) dL_law_490 ?_
    refine zl_istore hH (LV' := [(6, .int r), (5, .int 0), (4, .int (nI (6 * t))), (0, .ref b), (1, .ref (g.2.1 10)), (2, .ref (g.2.1 11)), (3, .ref ao)]) dL_law_493 (by decide) rfl ?_
    refine zl_aload_n hH dL_law_495 rfl 5 rfl ?_
    refine zl_callM hH (f := fun k => fX12_thrown k) (r := gI n' 11 0) (n' := n') rfl (c_X12_thrown l g) mt_X12_thrown wd_1487 wd_1488 ci_11 wd_1486 rfl ⟨Nat.le_of_ble_eq_true rfl, Nat.le_of_ble_eq_true rfl⟩ rfl rfl ⟨by omega, by omega⟩ (As := []) (rest := []) rfl (Nat.le_of_ble_eq_true rfl) dL_law_496 ?_
    refine zl_iload hH dL_law_499 1 rfl ?_
    refine zl_same hH (tgt := 506) h0 dL_law_501 (by decide) ?_
    refine zl_iload hH dL_law_506 1 rfl ?_
    refine zl_ifn0 hH (tgt := 523) rfl dL_law_508 (by decide) ?_
    refine zl_aload_n hH dL_law_511 rfl 6 rfl ?_
    refine zl_iconst hH (x := 0) dL_law_512 rfl ?_
    refine zl_laload hH dL_law_513 ?_
    refine zl_iload hH dL_law_514 0 rfl ?_
    refine zl_i2l hH dL_law_516 ?_
    refine zl_sameL hH (tgt := 523) rfl dL_law_517 dL_law_518 (by decide) ?_
    refine zl_goto hH (tgt := 2327) dL_law_523 (by decide) ?_
    exact zl_lv [2, 3, 4, 5, 6] rfl (ih k n' r.toInt64 hr2)
  · refine zl_open hH (o_B l hlt hge hne hK) hX room hcl (rest := []) (Nat.zero_le _) dL_law_478 ?_
    refine zl_istore hH (LV' := [(5, .int 1), (4, .int (nI (6 * t))), (0, .ref b), (1, .ref (g.2.1 10)), (2, .ref (g.2.1 11)), (3, .ref ao)]) dL_law_481 (by decide) rfl ?_
    refine zl_aload_n hH dL_law_483 rfl 4 rfl ?_
    refine zl_aload_n hH dL_law_484 rfl 2 rfl ?_
    refine zl_iload hH dL_law_485 1 rfl ?_
    refine zl_iconst hH (x := 1) dL_law_487 rfl ?_
    refine zl_iadd hH dL_law_488 ?_
    refine zl_sld hH hL (6 * t + 1) (nI_add (6 * t) 1) (by omega) dL_law_489 ?_
    refine zl_callM hH hM (c_X12_open l g (xs (6 * t + 1))) mt_X12_open wd_1533 wd_1534 ci_11 wd_1532 rfl ⟨Nat.le_of_ble_eq_true rfl, Nat.le_of_ble_eq_true rfl⟩ rfl rfl ⟨by omega, by omega⟩ (rest := []) rfl (Nat.le_of_ble_eq_true rfl) dL_law_490 ?_
    refine zl_istore hH (LV' := [(6, .int 0), (5, .int 1), (4, .int (nI (6 * t))), (0, .ref b), (1, .ref (g.2.1 10)), (2, .ref (g.2.1 11)), (3, .ref ao)]) dL_law_493 (by decide) rfl ?_
    refine zl_aload_n hH dL_law_495 rfl 5 rfl ?_
    refine zl_callM hH (f := fun k => fX12_thrown k) (r := gI n' 11 0) (n' := n') rfl (c_X12_thrown l g) mt_X12_thrown wd_1487 wd_1488 ci_11 wd_1486 rfl ⟨Nat.le_of_ble_eq_true rfl, Nat.le_of_ble_eq_true rfl⟩ rfl rfl ⟨by omega, by omega⟩ (As := []) (rest := []) rfl (Nat.le_of_ble_eq_true rfl) dL_law_496 ?_
    refine zl_iload hH dL_law_499 1 rfl ?_
    refine zl_same hH (tgt := 506) h0 dL_law_501 (by decide) ?_
    refine zl_iload hH dL_law_506 1 rfl ?_
    refine zl_ifn1 hH (tgt := 523) (by decide) dL_law_508 (by decide) ?_
    refine zl_goto hH (tgt := 2327) dL_law_523 (by decide) ?_
    exact zl_lv [2, 3, 4, 5, 6] rfl (ih k n' v hr2)
