theorem dX11_open_0 : decode cX11_open 0 = .ok (.aload_n 0, 1) := by decide +kernel
theorem dX11_open_1 : decode cX11_open 1 = .ok (.getfield 26, 3) := by decide +kernel
theorem dX11_open_4 : decode cX11_open 4 = .ok (.iload_n 1, 1) := by decide +kernel
theorem dX11_open_5 : decode cX11_open 5 = .ok (.invokevirtual 114, 3) := by decide +kernel
theorem dX11_open_8 : decode cX11_open 8 = .ok (.ifCond .ne 13, 3) := by decide +kernel
theorem dX11_open_11 : decode cX11_open 11 = .ok (.new 135, 3) := by decide +kernel
theorem dX11_open_14 : decode cX11_open 14 = .ok (.dup, 1) := by decide +kernel
theorem dX11_open_15 : decode cX11_open 15 = .ok (.ldc 137, 2) := by decide +kernel
theorem dX11_open_17 : decode cX11_open 17 = .ok (.invokespecial 139, 3) := by decide +kernel
theorem dX11_open_20 : decode cX11_open 20 = .ok (.athrow, 1) := by decide +kernel
theorem dX11_open_21 : decode cX11_open 21 = .ok (.aload_n 0, 1) := by decide +kernel
theorem dX11_open_22 : decode cX11_open 22 = .ok (.getfield 26, 3) := by decide +kernel
theorem dX11_open_25 : decode cX11_open 25 = .ok (.iload_n 1, 1) := by decide +kernel
theorem dX11_open_26 : decode cX11_open 26 = .ok (.invokevirtual 142, 3) := by decide +kernel
theorem dX11_open_29 : decode cX11_open 29 = .ok (.ireturn, 1) := by decide +kernel
theorem dL_open_0 : decode cL_open 0 = .ok (.aload_n 2, 1) := by decide +kernel
theorem dL_open_1 : decode cL_open 1 = .ok (.iconst 0, 1) := by decide +kernel
theorem dL_open_2 : decode cL_open 2 = .ok (.aload_n 0, 1) := by decide +kernel
theorem dL_open_3 : decode cL_open 3 = .ok (.iload_n 1, 1) := by decide +kernel
theorem dL_open_4 : decode cL_open 4 = .ok (.invokevirtual 7, 3) := by decide +kernel
theorem dL_open_7 : decode cL_open 7 = .ok (.i2l, 1) := by decide +kernel
theorem dL_open_8 : decode cL_open 8 = .ok (.lastore, 1) := by decide +kernel
theorem dL_open_9 : decode cL_open 9 = .ok (.goto 6, 3) := by decide +kernel
theorem dL_open_12 : decode cL_open 12 = .ok (.astore_n 3, 1) := by decide +kernel
theorem dL_open_13 : decode cL_open 13 = .ok (.iconst 1, 1) := by decide +kernel
theorem dL_open_14 : decode cL_open 14 = .ok (.ireturn, 1) := by decide +kernel
theorem dL_open_15 : decode cL_open 15 = .ok (.iconst 0, 1) := by decide +kernel
theorem dL_open_16 : decode cL_open 16 = .ok (.ireturn, 1) := by decide +kernel
/-! OPEN, where it answers -/
def fX11_open (k : ST) (a0 : Int32) : Option (Int32 × ST) := ob (fX1_knows k a0) fun r1 k2 => if r1 = true then ob (fX1_publicOf k2 a0) fun r5 k6 => some (r5, k6) else none
set_option maxRecDepth 20000 in
theorem c_X11_open (l : Launch) (g : GT) (a0 : Int32) : CN l yX11_open cX11_open 2 (some .int) { frames := 4, cells := 0, slots := 0, locals := 86 } g TK voI [.ref (g.2.1 10), .int a0] (fun k => fX11_open k a0) := by
  refine cn_of (by decide) (Nat.le_of_ble_eq_true rfl) ?_
  intro p e s m args below meth c hC k
  have hC : HC p s m args meth c cX11_open 2 RX11 (some .int) g := hC
  have hR : 4 ≤ ({ frames := 4, cells := 0, slots := 0, locals := 86 } : Room).frames ∧ 86 ≤ ({ frames := 4, cells := 0, slots := 0, locals := 86 } : Room).locals := ⟨Nat.le_refl _, Nat.le_refl _⟩
  show ZF p l e _ s m args below meth c g TK voI 2 k 0 [(0, .ref (g.2.1 10)), (1, .int a0)] [] (fX11_open k a0)
  unfold fX11_open
  refine zf_aload_n hC dX11_open_0 rfl 0 rfl ?_
  refine gf_408 hC dX11_open_1 ?_
  refine zf_iload_n hC dX11_open_4 rfl 1 rfl ?_
  refine zf_callV hC (c_X1_knows l g a0) mt_X1_knows wd_491 wd_492 ci_0 ic_0 wd_490 rfl (rm_le hR rfl) rfl rfl (rest := []) rfl (Nat.le_of_ble_eq_true rfl) dX11_open_5 (fun r1 k2 h3 => ?_)
  refine zf_ifb_ne hC (tgt := 21) dX11_open_8 (by decide) (fun h4 => ?_) (fun h4 => ?_)
  · refine zf_aload_n hC dX11_open_21 rfl 0 rfl ?_
    refine gf_408 hC dX11_open_22 ?_
    refine zf_iload_n hC dX11_open_25 rfl 1 rfl ?_
    refine zf_callV hC (c_X1_publicOf l g a0) mt_X1_publicOf wd_1008 wd_1009 ci_0 ic_0 wd_1007 rfl (rm_le hR rfl) rfl rfl (rest := []) rfl (Nat.le_of_ble_eq_true rfl) dX11_open_26 (fun r5 k6 h7 => ?_)
    exact zf_iret hC rfl dX11_open_29
  · exact zf_none
/-! OPEN, where it throws -/
theorem wb_1152 : Cond.codeWith yL_open cL_open 4 (some .int) [(0, 9, 12, 13)] ∈ BG := List.mem_filter.mpr ⟨List.mem_append_right _ wd_1152, by decide +kernel⟩
theorem at_tbl : ∀ w ∈ (nAt.filter vx_no).filter goodWord, w ∈ lw_tbl := by decide +kernel
theorem at_good : ∀ w ∈ (nAt.filter vx_no).filter goodWord, w ∈ BG := fun w hw => List.mem_filter.mpr ⟨at_tbl w hw, (List.mem_filter.mp hw).2⟩
def XB : List Cond := [.declares ⟨"java/lang/RuntimeException", "<init>", "(Ljava/lang/String;)V"⟩, .declares ⟨"java/lang/Exception", "<init>", "(Ljava/lang/String;)V"⟩, .declares ⟨"java/lang/Throwable", "<init>", "(Ljava/lang/String;)V"⟩, .castable NSE NSE]
theorem at_bad : ∀ w ∈ (nAt.filter vx_no).filter (fun w => !goodWord w), w ∈ XB := by decide +kernel
theorem at_ot : ∀ w ∈ Cond.classLink RX11 135 NSE :: Cond.initialized NSE :: nAt.filter vx_no, vx_ot w = true := by decide +kernel
theorem XB_c {P : Cond → Prop} (h1 : ∀ y, Cond.declares y ∈ XB → P (.declares y)) (h2 : ∀ a b, Cond.castable a b ∈ XB → P (.castable a b)) : ∀ w ∈ XB, P w := fun w hw => by
  have hw' := hw
  unfold XB at hw'
  rcases List.mem_cons.mp hw' with e | hw'
  · rw [e] at hw ⊢
    exact h1 _ hw
  rcases List.mem_cons.mp hw' with e | hw'
  · rw [e] at hw ⊢
    exact h1 _ hw
  rcases List.mem_cons.mp hw' with e | hw'
  · rw [e] at hw ⊢
    exact h1 _ hw
  rcases List.mem_cons.mp hw' with e | hw'
  · rw [e] at hw ⊢
    exact h2 _ _ hw
  · cases hw'
/-- what a throw needs: N0: the cells below it stay; sa: the text -/
def XF (N0 sa : Nat) (U : State) (H : Heap) : Prop := vk_R RX11 137 "no such key" sa U ∧ (∀ w ∈ XB, va_Nw w U) ∧ vx_Zq Bundle.tN "UNASSIGNED_STACK" Bundle.steD (fun q => N0 ≤ q) U H ∧ vx_Zq Bundle.tN "SUPPRESSED_SENTINEL" Bundle.listD (fun q => N0 ≤ q) U H
theorem XF.warm {N0 sa : Nat} {s U : State} {H : Heap} (h : XF N0 sa s H) (hW : s.WarmedH U.vm) : XF N0 sa U H := ⟨vk_R.warm hW h.1, XB_c (fun y hy => va_Nw.warmD hW (h.2.1 _ hy)) (fun a b hab => va_Nw.warmC hW (h.2.1 _ hab)), h.2.2.1.moved hW.alike, h.2.2.2.moved hW.alike⟩
theorem XF.same {N0 sa : Nat} {s U : State} {H : Heap} (h : XF N0 sa s H) (hv : s.vm = U.vm) : XF N0 sa U H := ⟨vk_R.same hv.symm h.1, XB_c (fun y hy => va_Nw.same rfl hv (h.2.1 _ hy)) (fun a b hab => va_Nw.same rfl hv (h.2.1 _ hab)), h.2.2.1.moved (by rw [← hv]; exact Vm.Alike.refl s.vm), h.2.2.2.moved (by rw [← hv]; exact Vm.Alike.refl s.vm)⟩
theorem XF.kept {N0 sa : Nat} {U : State} {H H1 : Heap} (h : XF N0 sa U H) (hq : ∀ a : Nat, a < H.size → ¬ N0 ≤ a → H1[a]? = H[a]?) : XF N0 sa U H1 := ⟨h.1, h.2.1, h.2.2.1.kept hq, h.2.2.2.kept hq⟩
theorem XF.use {N0 sa : Nat} {U : State} {H : Heap} {A : Array Value} (h : XF N0 sa U H) : ∀ w ∈ XB, w.before A U = true := XB_c (fun y hy => va_Nw.use rfl (h.2.1 _ hy)) (fun a b hab => va_Nw.use rfl (h.2.1 _ hab))
theorem fr_N0 {g : GT} {N0 : Nat} (hN0 : ∀ q, q < 166 → N0 ≤ g.2.1 q) {T : TT} {q : Nat} (h : frA g T q) : N0 ≤ q := by
  obtain ⟨a, ha, e⟩ := h
  rw [e]
  exact hN0 a (inT_lt ha)
def XCo (g : GT) (k : ST) : String → State → State → Prop := fun E st t => E = NSE ∧ pic g TK k t.heap ∧ va_F (frA g TK) st t
theorem xo_blind {g : GT} {k : ST} {N0 sa : Nat} {av : List Value} : FrameBlind (va_Pc av (fun U => GK g U ∧ pic g TK k U.heap ∧ XF N0 sa U U.heap)) := fun a U g1 mk q => by
  obtain ⟨q0, q1, q2, q3⟩ := q
  exact ⟨q0, q1.same (U := U.calling g1 mk a) rfl, q2, q3.same rfl⟩
section WOP
variable {p : Program} {l : Launch} {e : Env} {R : Room} {s : State} {m : MethodId} {args : Array Value} {below : List Frame} {meth : Method} {c : Code} {cc : ByteArray} {nL : Nat} {own : String} {ret : Option FieldType} {g : GT} {T : TT} {k : ST} {H : Heap} {locs : List Loc} {cells slots pc : Nat} {Q : State → Prop} {ls : Array Slot} {rest : List Value}
theorem w_getK (hC : HC p s m args meth c cc nL own ret g) (hP : pic g T k H) {ci f index N : Nat} {C : String} {Tt : u_T} (hI : CI ci C Tt N) (hT : inC T ci) (hf : f < N) (hw : Cond.fieldLink own index C (Tt f).2.1 (Tt f).2.2.1 ∈ BG) {v : Value} (hv : fval g.2.1 k ci f = v) (hdg : decode cc pc = .ok (.getfield index, 3)) (kk : W p l e R s m args below meth c H locs cells slots Q (F0 m (pc + 3) ls (v :: rest))) : W p l e R s m args below meth c H locs cells slots Q (F0 m pc ls (.ref (g.2.1 ci) :: rest)) := by
  obtain ⟨h1, h2, h3, h4⟩ := hI
  obtain ⟨cell, q1, q2, q3, q4⟩ := hP.1 ci hT
  obtain ⟨hK, -⟩ := hC.2.2.2.2.2.2.2
  obtain ⟨hSl, hfc, kC, hkC, hkind⟩ := hK.1 ci _ h1
  obtain ⟨cf, kf, fi, fd, hi, hsl⟩ := hSl f hf
  have hst := (u_facts hfc hkC (u_lays hC.2.2.2.2.1 h2 hf) hi).1
  have hi2 := hi
  simp only [h4 f hf] at hi2
  refine W.getf hC.1 hC.2.1 hC.2.2.2.1 (hC.2.2.2.2.1 _ hw) hi2 hst q1 (by rw [q3]; exact fun h => by cases h) (v := v) ?_ rfl rfl hdg kk
  rw [hsl, q4 f (by rw [h3]; exact hf), hv]
end WOP
set_option maxRecDepth 20000 in
theorem t_X11_open (l : Launch) (hlt : l.stackTraces = false) {g : GT} {N0 sa : Nat} (hN0 : ∀ q, q < 166 → N0 ≤ g.2.1 q) {k : ST} {a : Int32} (hk : fX1_knows k a = some (false, k)) : vx_Met l yX11_open (.code yX11_open cX11_open 2 (some .int) :: BG) { frames := 6, cells := 1, slots := 6, locals := 200 } (va_Pc [.ref (g.2.1 10), .int a] (fun U => GK g U ∧ pic g TK k U.heap ∧ XF N0 sa U U.heap)) (fun _ _ _ _ => False) (XCo g k) 1 6 (frA g TK) := by
  refine vx_ofW (cc := cX11_open) (maxL := 2) (ret := some .int) (by decide) rfl ?_
  intro p e s m args below meth c s₁ B hml htab hv
  obtain ⟨rfl, hG, hP, hX⟩ := hv
  have hts := atoms_spec (ws := .code yX11_open cX11_open 2 (some .int) :: BG) B.pre
  have hw : ∀ w ∈ BG, w.before ([.ref (g.2.1 10), .int a] : List Value).toArray s = true := fun w hw => hts w (List.mem_cons_of_mem _ hw)
  have hown : s.vm.findClass RX11 = some m.cls := findClass_of_methodNamed B.named
  have hC : HC p s m ([.ref (g.2.1 10), .int a] : List Value).toArray meth c cX11_open 2 RX11 (some .int) g := ⟨B.exec, B.bytes, hml, hown, hw, B.notSynchronized, B.returns, hG⟩
  have hl := lv_entry [.ref (g.2.1 10), .int a] (n := 2) (Nat.le_refl _)
  rw [lg_entry_eq]
  have hl : lv_has (lg_sl [.ref (g.2.1 10), .int a] ++ List.replicate (2 - (lg_sl [.ref (g.2.1 10), .int a]).length) Slot.unset).toArray 2 [(0, .ref (g.2.1 10)), (1, .int a)] := hl
  generalize (lg_sl [.ref (g.2.1 10), .int a] ++ List.replicate (2 - (lg_sl [.ref (g.2.1 10), .int a]).length) Slot.unset).toArray = ls at hl ⊢
  refine lv_aload_n hC.1 hC.2.1 dX11_open_0 rfl (lv_at hl 0 rfl) ?_
  refine w_getK hC hP ci_10 ic_10 (f := 8) (by decide) wd_408 (v := .ref (g.2.1 0)) rfl dX11_open_1 ?_
  refine lv_iload_n hC.1 hC.2.1 dX11_open_4 rfl (lv_at hl 1 rfl) ?_
  obtain ⟨cell, q1, q2, q3, -⟩ := hP.1 0 ic_0
  have hcc := (hG.1.1 0 _ ci_0.1).2.1
  have run := va_runV (n := 1) (As := [.int a]) (g := F0 m 5 ls [.int a, .ref (g.2.1 0)]) (rest := []) ⟨hC.1, hC.2.1, hC.2.2.1, hC.2.2.2.1, hw⟩ (c_X1_knows l g a k false k hk) (R := (headSpec (.code yX11_open cX11_open 2 (some .int) :: BG) { frames := 6, cells := 1, slots := 6, locals := 200 }).room) ⟨callB_of 1 hw (bg_in mt_X1_knows.1) rfl rfl rfl (hw _ mt_X1_knows.2.1) (hw _ wd_490) mt_X1_knows.2.2 ⟨Nat.le_of_ble_eq_true rfl, Nat.le_of_ble_eq_true rfl⟩, hw _ wd_491, hw _ wd_492⟩ (H := s.heap) (e := e) (below := below) (meth := meth) (locs := []) (cells := 0) (slots := 0) ⟨pc_blind, ⟨cell, q1, by rw [q3]; rfl, by rw [q2]; exact hcc⟩, fun U hU hW => ⟨rfl, hG.warm hW, by rw [hU]; exact hP⟩⟩ rfl rfl hl.1 rfl (lv_room (Nat.le_of_ble_eq_true rfl)) dX11_open_5 ⟨Nat.zero_le _, Nat.zero_le _⟩
  intro S0 hS0 X
  obtain ⟨u, st₀, t, S1, Ls, h0, X', hLs, e1, e2, ⟨hv, hp, hz, hkk⟩, stp⟩ := run S0 hS0 X
  cases hv
  rw [h0] at hz hkk
  rw [← e1] at hp hz hkk
  have hLs2 : ∀ z ∈ [] ++ Ls, frA g TK z.base := fun z hz => hLs z (by simpa using hz)
  have hS : va_S (fun q => N0 ≤ q) s.heap S1.heap ([] ++ Ls) := ⟨hz, fun q h1 h2 => hkk q h1 (fun h3 => h2 (fr_N0 hN0 h3)), fun z hz => fr_N0 hN0 (hLs2 z hz)⟩
  have hat : ∀ w ∈ nAt.filter vx_no, w.before ([.ref (g.2.1 10), .int a] : List Value).toArray s = true := vx_hat (fun w hw' => hw w (at_good w hw')) at_bad hX.use
  have K : W p l e (headSpec (.code yX11_open cX11_open 2 (some .int) :: BG) { frames := 6, cells := 1, slots := 6, locals := 200 }).room s m ([.ref (g.2.1 10), .int a] : List Value).toArray below meth c S1.heap ([] ++ Ls) 0 0 (vx_MQ below (fun _ _ _ _ => False) (XCo g k) ([.ref (g.2.1 10), .int a] : List Value).toArray s 1 6 (frA g TK)) (F0 m 8 ls [.int (b2i false)]) := by
    refine lv_if_ne hC.1 hC.2.1 (tgt := 21) dX11_open_8 (by decide) (fun h => absurd rfl h) (fun _ => ?_)
    exact w_nse (sa := sa) (A := fun q => N0 ≤ q) hC.1 hC.2.1 hlt hown (hw _ wd_1158) (hw _ wd_17) hX.1 hat at_ot hX.2.2.1 hX.2.2.2 hS (hl.1.trans hml.symm) dX11_open_11 dX11_open_14 dX11_open_15 dX11_open_17 dX11_open_20 (fun x hx => (htab x hx).elim) (Nat.le_of_ble_eq_true rfl) (Nat.le_of_ble_eq_true rfl) (Nat.le_of_ble_eq_true rfl) (Nat.le_of_ble_eq_true rfl) B.notSynchronized (fun t hal hsz hkeep => ⟨rfl, pic_keep hp (fun q h1 _ => hkeep q h1), ⟨Nat.le_trans hz hsz, fun q h1 h2 => (hkeep q (Nat.lt_of_lt_of_le h1 hz)).trans (hkk q h1 h2)⟩⟩) hLs2 (Nat.le_refl _) (Nat.le_refl _)
  obtain ⟨t2, a1, b1⟩ := K S1 rfl X'
  exact ⟨t2, stp t2 a1, b1⟩
