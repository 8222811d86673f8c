/-! CONSTRUCTORS: the cells lie in the order in which they are made -/
def offL : List Nat := [5, 96, 23, 102, 70, 75, 89, 3, 83, 14, 0, 110, 6, 7, 8, 9, 10, 11, 12, 13, 97, 98, 99, 100, 101, 24, 25, 26, 27, 28, 29, 103, 104, 105, 106, 107, 108, 109, 71, 72, 73, 74, 76, 77, 78, 79, 80, 81, 82, 90, 91, 92, 93, 94, 95, 4, 84, 85, 86, 87, 88, 15, 16, 17, 18, 19, 20, 21, 22, 1, 2, 30, 31, 32, 33, 34, 35, 36, 37, 38, 39, 40, 41, 42, 43, 44, 45, 46, 47, 48, 49, 50, 51, 52, 53, 54, 55, 56, 57, 58, 59, 60, 61, 62, 63, 64, 65, 66, 67, 68, 69, 111, 112, 113, 114, 115, 116, 117, 118, 119, 120, 121, 122, 123, 124, 125, 126, 127, 128, 129, 130, 131, 132, 133, 134, 135, 136, 137, 138, 139, 140, 141, 142, 143, 144, 145, 146, 147, 148, 149, 150, 151, 152, 153, 154, 155, 156, 157, 158, 159, 160, 161, 162, 163, 164, 165]
def offA (n : Nat) : Nat := offL.getD n 0
def AD (g : GT) (N : Nat) : Prop := ∀ n, n < 166 → g.2.1 n = N + offA n
def OVX (g : GT) (U : State) : Prop := (∀ j, j < 154 → U.vm.findClass ("[" ++ (tyA j).toString) = some (g.2.2 j)) ∧ ∃ k : Class, U.vm.classes[g.2.2 18]? = some k ∧ k.kind = .array (g.2.2 59) (.array .int)
theorem OVX.moved {g : GT} {u U : State} (hvm : u.vm.Alike U.vm) (h : OVX g u) : OVX g U := ⟨fun j hj => by rw [hvm.findClass]; exact h.1 j hj, by
  obtain ⟨k, h1, h2⟩ := h.2
  obtain ⟨k', h3, h4⟩ := hvm.2.2 _ _ h1
  exact ⟨k', h3, by rw [h4]; exact h2⟩⟩
def GI (g : GT) (U : State) : Prop := GK g U ∧ OVX g U
theorem GI.warm {g : GT} {s U : State} (h : GI g s) (hW : s.WarmedH U.vm) : GI g U := ⟨h.1.warm hW, h.2.moved hW.alike⟩
theorem GI.same {g : GT} {s U : State} (h : GI g s) (hv : s.vm = U.vm) : GI g U := ⟨h.1.same hv, h.2.moved (by rw [← hv]; exact Vm.Alike.refl s.vm)⟩
def dfV (c k : Nat) : Value := if rfF c k = 0 then .int 0 else .null
def pcs (g : GT) (σ : ST) (cs js : List Nat) (H : Heap) : Prop := (∀ c, c ∈ cs → t_OB (g.2.1 c) (g.1.1 c) (nfF c) (g.1.2 c) H (fval g.2.1 σ c)) ∧ ∀ j, j ∈ js → H[g.2.1 (12 + j)]? = some (vp_cell (g.2.2 j) (cont g.2.1 σ j))
def XO (g : GT) (own : Option (Nat × (Nat → Value))) (H : Heap) : Prop := match own with
  | none => True
  | some (ci, V) => t_OB (g.2.1 ci) (g.1.1 ci) (nfF ci) (g.1.2 ci) H V
theorem ob_lt {o : Nat} {cC : ClassId} {N : Nat} {iS : Nat → Nat} {H : Heap} {V : Nat → Value} (h : t_OB o cC N iS H V) : o < H.size := by
  obtain ⟨cell, q, _⟩ := h
  exact (Array.getElem?_eq_some_iff.mp q).1
theorem pcs.keep {g : GT} {σ : ST} {cs js : List Nat} {H H1 : Heap} (h : pcs g σ cs js H) (hk : ∀ q : Nat, q < H.size → H1[q]? = H[q]?) : pcs g σ cs js H1 := ⟨fun c hc => (h.1 c hc).kept (hk _ (ob_lt (h.1 c hc))), fun j hj => by rw [hk _ (Array.getElem?_eq_some_iff.mp (h.2 j hj)).1]; exact h.2 j hj⟩
theorem XO.keep {g : GT} {own : Option (Nat × (Nat → Value))} {H H1 : Heap} (h : XO g own H) (hk : ∀ q : Nat, q < H.size → H1[q]? = H[q]?) : XO g own H1 := by
  cases own with
  | none => trivial
  | some o => exact t_OB.kept (show t_OB (g.2.1 o.1) (g.1.1 o.1) (nfF o.1) (g.1.2 o.1) H o.2 from h) (hk _ (ob_lt (show t_OB (g.2.1 o.1) (g.1.1 o.1) (nfF o.1) (g.1.2 o.1) H o.2 from h)))
def cOk (ci : Nat) (cs js : List Nat) : Bool := decide (ci < 12) && (cs.all fun c => decide (c < 12) && !decide (c = ci)) && js.all fun j => decide (j < 154)
theorem pcs.put {g : GT} {σ : ST} {cs js : List Nat} {H H1 : Heap} {ci : Nat} (h : pcs g σ cs js H) (hinj : ∀ a b, a < 166 → b < 166 → g.2.1 a = g.2.1 b → a = b) (hok : cOk ci cs js = true) (e3 : ∀ q : Nat, q ≠ g.2.1 ci → H1[q]? = H[q]?) : pcs g σ cs js H1 := by
  unfold cOk at hok
  rw [Bool.and_eq_true, Bool.and_eq_true] at hok
  obtain ⟨⟨hci, hcs⟩, hjs⟩ := hok
  have hci := of_decide_eq_true hci
  refine ⟨fun c hc => (h.1 c hc).kept (e3 _ fun e => ?_), fun j hj => ?_⟩
  · have := List.all_eq_true.mp hcs c hc
    rw [Bool.and_eq_true] at this
    have h1 := of_decide_eq_true this.1
    have h2 := hinj _ _ (by omega) (by omega) e
    simp [h2] at this
  · have h1 := of_decide_eq_true (List.all_eq_true.mp hjs j hj)
    rw [e3 _ (fun e => by have := hinj _ _ (by omega) (by omega) e; omega)]
    exact h.2 j hj
def HI (p : Program) (s : State) (m : MethodId) (args : Array Value) (c : Code) (cc : ByteArray) (nL : Nat) (own : String) (g : GT) : Prop := p.tables.exec = Jvm.exec ∧ c.code = cc ∧ c.maxLocals = nL ∧ s.vm.findClass own = some m.cls ∧ (∀ w ∈ BG, w.before args s = true) ∧ GI g s
def ZI (p : Program) (l : Launch) (e : Env) (R : Room) (s : State) (m : MethodId) (args : Array Value) (below : List Frame) (meth : Method) (c : Code) (g : GT) (nL : Nat) (A : Nat → Prop) (Q : State → Prop) (own : Option (Nat × (Nat → Value))) (σ : ST) (cs js : List Nat) (sz cells slots pc : Nat) (LV : List (Nat × Value)) (st : List Value) : Prop :=
  ∀ (H : Heap) (locs : List Loc) (ls : Array Slot), H.size = sz → XO g own H → pcs g σ cs js H → va_S A s.heap H locs → lv_has ls nL LV → W p l e R s m args below meth c H locs cells slots Q (F0 m pc ls st)
def QI (g : GT) (σ : ST) (c n : Nat) (cs js : List Nat) : Array Value → State → Outcome → State → Prop := fun _ st oc t => oc = .returned none ∧ t.heap.size = g.2.1 c + 1 + n ∧ pcs g σ cs js t.heap ∧ va_F (fun q => g.2.1 c ≤ q) st t
def INI (l : Launch) (g : GT) (σ : ST) (y : MethodName) (bytes : ByteArray) (rm : Room) (c n mc ms : Nat) (cs js : List Nat) : Prop := Met l y (.code y bytes 1 none :: BG) rm (va_Pc [.ref (g.2.1 c)] (fun U => GI g U ∧ U.heap.size = g.2.1 c + 1 ∧ t_OB (g.2.1 c) (g.1.1 c) (nfF c) (g.1.2 c) U.heap (dfV c))) (QI g σ c n cs js) mc ms (fun q => g.2.1 c ≤ q)
section ZIR
variable {p : Program} {l : Launch} {e : Env} {R : Room} {s : State} {m : MethodId} {args : Array Value} {below : List Frame} {meth : Method} {c : Code} {cc : ByteArray} {nL : Nat} {own : String} {g : GT} {A : Nat → Prop} {Q : State → Prop} {ow : Option (Nat × (Nat → Value))} {σ : ST} {cs js : List Nat} {sz cells slots pc : Nat} {LV : List (Nat × Value)} {rest : List Value}
theorem zi_aload (hC : HI p s m args c cc nL own g) {x : Addr} {a : Fin 4} {i : Nat} (hdg : decode cc pc = .ok (.aload_n a, 1)) (hi : (a : Nat) = i) (q : Nat) (hq : LV[q]? = some (i, .ref x)) (kk : ZI p l e R s m args below meth c g nL A Q ow σ cs js sz cells slots (pc + 1) LV (.ref x :: rest)) : ZI p l e R s m args below meth c g nL A Q ow σ cs js sz cells slots pc LV rest := fun H locs ls hz hX hp hS hl => lv_aload_n hC.1 hC.2.1 hdg hi (lv_at hl q hq) (kk H locs ls hz hX hp hS hl)
theorem zi_bipush (hC : HI p s m args c cc nL own g) {a : Int} {x : Int32} (hdg : decode cc pc = .ok (.bipush a, 2)) (hv : (Int8.ofInt a).toInt32 = x) (kk : ZI p l e R s m args below meth c g nL A Q ow σ cs js sz cells slots (pc + 2) LV (.int x :: rest)) : ZI p l e R s m args below meth c g nL A Q ow σ cs js sz cells slots pc LV rest := fun H locs ls hz hX hp hS hl => lv_bipush hC.1 hC.2.1 hdg hv (kk H locs ls hz hX hp hS hl)
theorem zi_sipush (hC : HI p s m args c cc nL own g) {a : Int} {x : Int32} (hdg : decode cc pc = .ok (.sipush a, 3)) (hv : (Int16.ofInt a).toInt32 = x) (kk : ZI p l e R s m args below meth c g nL A Q ow σ cs js sz cells slots (pc + 3) LV (.int x :: rest)) : ZI p l e R s m args below meth c g nL A Q ow σ cs js sz cells slots pc LV rest := fun H locs ls hz hX hp hS hl => lv_sipush hC.1 hC.2.1 hdg hv (kk H locs ls hz hX hp hS hl)
theorem zi_iconst (hC : HI p s m args c cc nL own g) {a : Int} {x : Int32} (hdg : decode cc pc = .ok (.iconst a, 1)) (hv : Int32.ofInt a = x) (kk : ZI p l e R s m args below meth c g nL A Q ow σ cs js sz cells slots (pc + 1) LV (.int x :: rest)) : ZI p l e R s m args below meth c g nL A Q ow σ cs js sz cells slots pc LV rest := fun H locs ls hz hX hp hS hl => lv_iconst hC.1 hC.2.1 hdg hv (kk H locs ls hz hX hp hS hl)
theorem zi_astore (hC : HI p s m args c cc nL own g) {a : Fin 4} {i : Nat} {x : Nat} {LV' : List (Nat × Value)} (hdg : decode cc pc = .ok (.astore_n a, 1)) (hi : (a : Nat) = i) (hn : i < nL) (hf : (i, Value.ref x) :: LV.filter (fun q => !(q.1 == i) && !(q.1 + 1 == i && q.2.category == 2)) = LV') (kk : ZI p l e R s m args below meth c g nL A Q ow σ cs js sz cells slots (pc + 1) LV' rest) : ZI p l e R s m args below meth c g nL A Q ow σ cs js sz cells slots pc LV (.ref x :: rest) := fun H locs ls hz hX hp hS hl => lv_astore_n hC.1 hC.2.1 hdg hi hl hn hf (fun ls hl => kk H locs ls hz hX hp hS hl)
theorem zi_istore (hC : HI p s m args c cc nL own g) {i : Nat} {x : Int32} {LV' : List (Nat × Value)} (hdg : decode cc pc = .ok (.istore i, 2)) (hn : i < nL) (hf : (i, Value.int x) :: LV.filter (fun q => !(q.1 == i) && !(q.1 + 1 == i && q.2.category == 2)) = LV') (kk : ZI p l e R s m args below meth c g nL A Q ow σ cs js sz cells slots (pc + 2) LV' rest) : ZI p l e R s m args below meth c g nL A Q ow σ cs js sz cells slots pc LV (.int x :: rest) := fun H locs ls hz hX hp hS hl => lv_istore hC.1 hC.2.1 hdg hl hn hf (fun ls hl => kk H locs ls hz hX hp hS hl)
theorem zi_obj (hC : HI p s m args c cc nL own g) {idx : Nat} {x : Addr} (hlk : Cond.methodLink own idx Lib.objectInit ∈ BG) (hdg : decode cc pc = .ok (.invokespecial idx, 3)) (hR : 1 ≤ R.frames ∧ 12 ≤ R.locals) (kk : ZI p l e R s m args below meth c g nL A Q ow σ cs js sz cells slots (pc + 3) LV []) : ZI p l e R s m args below meth c g nL A Q ow σ cs js sz cells slots pc LV [.ref x] := fun H locs ls hz hX hp hS hl => W.objInit hC.1 hC.2.1 hC.2.2.2.1 (hC.2.2.2.2.1 _ hlk) (hC.2.2.2.2.1 _ wd_27) (hC.2.2.2.2.1 _ wd_28) rfl (by rw [hC.2.2.1]; exact hl.1) rfl hdg hR.1 hR.2 (kk H locs ls hz hX hp hS hl)
theorem zi_newa (hC : HI p s m args c cc nL own g) (hA : ∀ q, s.heap.size ≤ q → A q) {j len : Nat} {n : Int32} {atype : ArrayType} (cells2 slots2 : Nat) (hj : j < 154) (hty : newarray.typeOf atype = tyA j) (harr : Cond.arrayClass (newarray.typeOf atype) ∈ BG) (hn : ¬ n < 0) (hN : ix n = len) (hby : len * componentBytes (newarray.typeOf atype) ≤ 536870912) (had : g.2.1 (12 + j) = sz) (hc2 : cells + 1 = cells2) (hs2 : slots + len = slots2) (hRc : cells2 ≤ R.cells ∧ slots2 ≤ R.slots) (hz : ∀ cA : ClassId, vp_cell cA (cont g.2.1 σ j) = arrV cA len (fun _ => defaultValue (newarray.typeOf atype))) (hdg : decode cc pc = .ok (.newarray atype, 2)) (kk : ZI p l e R s m args below meth c g nL A Q ow σ cs (j :: js) (sz + 1) cells2 slots2 (pc + 2) LV (.ref (g.2.1 (12 + j)) :: rest)) : ZI p l e R s m args below meth c g nL A Q ow σ cs js sz cells slots pc LV (.int n :: rest) := by
  intro H locs ls hsz hX hp hS hl
  subst hc2
  subst hs2
  refine va_newaK hC.1 hC.2.1 (hC.2.2.2.2.1 _ harr) rfl hdg rfl hn hN hby hRc.1 hRc.2 hsz fun H1 cA e1 z1 o1 hAr hNm => ?_
  have hcA : cA = g.2.2 j := by
    have h1 := hC.2.2.2.2.2.2.1 j hj
    rw [← hty] at h1
    exact Option.some.inj (hNm.symm.trans h1)
  have hk : ∀ q : Nat, q < H.size → H1[q]? = H[q]? := fun q hq => o1 q (by rw [← hsz]; exact hq)
  have hp1 : pcs g σ cs (j :: js) H1 := ⟨(hp.keep hk).1, fun i hi => by
    rcases List.mem_cons.mp hi with rfl | hi
    · rw [had, hz, ← hcA]
      exact e1
    · exact (hp.keep hk).2 i hi⟩
  have := kk H1 locs ls z1 (hX.keep hk) hp1 ⟨Nat.le_trans hS.1 (by omega), fun q h1 h2 => (o1 q (by have := hS.1; omega)).trans (hS.2.1 q h1 h2), hS.2.2⟩ hl
  rw [had] at this
  exact this
theorem zi_get (hC : HI p s m args c cc nL own g) {ci f index N : Nat} {C : String} {Tt : u_T} {V : Nat → Value} (hI : CI ci C Tt N) (hf : f < N) (hw : Cond.fieldLink own index C (Tt f).2.1 (Tt f).2.2.1 ∈ BG) {v : Value} (hv : V f = v) (hdg : decode cc pc = .ok (.getfield index, 3)) (kk : ZI p l e R s m args below meth c g nL A Q (some (ci, V)) σ cs js sz cells slots (pc + 3) LV (v :: rest)) : ZI p l e R s m args below meth c g nL A Q (some (ci, V)) σ cs js sz cells slots pc LV (.ref (g.2.1 ci) :: rest) := by
  intro H locs ls hsz hX hp hS hl
  obtain ⟨h1, h2, h3, h4⟩ := hI
  obtain ⟨cell, q1, q2, q3, q4⟩ := (show t_OB (g.2.1 ci) (g.1.1 ci) (nfF ci) (g.1.2 ci) H V from hX)
  obtain ⟨hK, -⟩ := hC.2.2.2.2.2.1
  obtain ⟨hSl, hfc, kC, hkC, hkind⟩ := hK.1 ci _ h1
  obtain ⟨cf, kf, fi, fd, hi, hsl⟩ := hSl f hf
  have hi2 := hi
  simp only [h4 f hf] at hi2
  refine W.getf hC.1 hC.2.1 hC.2.2.2.1 (hC.2.2.2.2.1 _ hw) hi2 (u_facts hfc hkC (u_lays hC.2.2.2.2.1 h2 hf) hi).1 q1 (by rw [q3]; exact fun h => by cases h) (v := v) ?_ rfl rfl hdg (kk H locs ls hsz hX hp hS hl)
  rw [hsl, q4 f (by rw [h3]; exact hf), hv]
theorem zi_put (hC : HI p s m args c cc nL own g) {ci f index N : Nat} {C : String} {Tt : u_T} {ty0 : Nat → FieldType} {V : Nat → Value} (hJ : CJ ci C Tt N ty0) (hAc : A (g.2.1 ci)) (hok : cOk ci cs js = true) (hf : f < N) (hw : Cond.fieldLink own index C (Tt f).2.1 (Tt f).2.2.1 ∈ BG) (hfin : (Tt f).2.2.2 = false) {ty : FieldType} {v : Value} (hd : parseFieldDescriptor (Tt f).2.2.1 = some ty) (hn : narrow ty v = v) (hfit : fits ty v = true) (hdg : decode cc pc = .ok (.putfield index, 3)) (kk : ZI p l e R s m args below meth c g nL A Q (some (ci, updV V f v)) σ cs js sz cells slots (pc + 3) LV rest) : ZI p l e R s m args below meth c g nL A Q (some (ci, V)) σ cs js sz cells slots pc LV (v :: .ref (g.2.1 ci) :: rest) := by
  intro H locs ls hsz hX hp hS hl
  obtain ⟨⟨h1, h2, h3, h4⟩, hty, hnm⟩ := hJ
  obtain ⟨cell, q1, q2, q3, q4⟩ := (show t_OB (g.2.1 ci) (g.1.1 ci) (nfF ci) (g.1.2 ci) H V from hX)
  obtain ⟨hK, -, -, hinj⟩ := hC.2.2.2.2.2.1
  have hap := va_apart (own := own) hC.2.2.2.2.1 h2 ty0 hty hnm hK h1
  obtain ⟨hSl, hfc, kC, hkC, hkind⟩ := hK.1 ci _ h1
  obtain ⟨cf, kf, fi, fd, hi, hsl⟩ := hSl f hf
  have hst := (u_facts hfc hkC (u_lays hC.2.2.2.2.1 h2 hf) hi).1
  have hlay := hC.2.2.2.2.1 _ (h2 _ (u_in_lay hf))
  unfold u_lay at hlay
  rw [if_neg (by rw [hfin]; decide)] at hlay
  have h6 := u_store hfc hkC hkind hlay hi hd hn hfit
  have hi2 := hi
  simp only [h4 f hf] at hi2
  rw [h3] at q4
  refine W.putK hC.1 hC.2.1 (f := fd) ⟨hC.2.2.2.1, hC.2.2.2.2.1 _ hw, ⟨_, _, _, hi2⟩, hst⟩ (by rw [q2]; exact h6) q1 q3 (by rw [hsl]; exact k2_hasslot (q4 f hf)) rfl rfl hdg fun H' e1 e2 e3 => ?_
  rw [hsl] at e1 ⊢
  refine kk H' _ ls (e2.trans hsz) ?_ (hp.put hinj hok e3) (hS.put e2 e3 hAc) hl
  show t_OB (g.2.1 ci) (g.1.1 ci) (nfF ci) (g.1.2 ci) H' (updV V f v)
  rw [h3]
  exact ⟨_, e1, q2, q3, t_set q4 hap hf v⟩
theorem zi_putF {ci f index N : Nat} {C : String} {Tt : u_T} {ty0 : Nat → FieldType} {V : Nat → Value} (hC : HI p s m args c cc nL C g) (hJ : CJ ci C Tt N ty0) (hAc : A (g.2.1 ci)) (hin : meth.name = "<init>") (hok : cOk ci cs js = true) (hf : f < N) (hw : Cond.fieldLink C index C (Tt f).2.1 (Tt f).2.2.1 ∈ BG) (hfin : (Tt f).2.2.2 = true) {ty : FieldType} {v : Value} (hd : parseFieldDescriptor (Tt f).2.2.1 = some ty) (hn : narrow ty v = v) (hfit : fits ty v = true) (hdg : decode cc pc = .ok (.putfield index, 3)) (kk : ZI p l e R s m args below meth c g nL A Q (some (ci, updV V f v)) σ cs js sz cells slots (pc + 3) LV rest) : ZI p l e R s m args below meth c g nL A Q (some (ci, V)) σ cs js sz cells slots pc LV (v :: .ref (g.2.1 ci) :: rest) := by
  intro H locs ls hsz hX hp hS hl
  obtain ⟨⟨h1, h2, h3, h4⟩, hty, hnm⟩ := hJ
  obtain ⟨cell, q1, q2, q3, q4⟩ := (show t_OB (g.2.1 ci) (g.1.1 ci) (nfF ci) (g.1.2 ci) H V from hX)
  obtain ⟨hK, -, -, hinj⟩ := hC.2.2.2.2.2.1
  have hap := va_apart (own := C) hC.2.2.2.2.1 h2 ty0 hty hnm hK h1
  obtain ⟨hSl, hfc, kC, hkC, hkind⟩ := hK.1 ci _ h1
  obtain ⟨cf, kf, fi, fd, hi, hsl⟩ := hSl f hf
  have hst := (u_facts hfc hkC (u_lays hC.2.2.2.2.1 h2 hf) hi).1
  have hlay := hC.2.2.2.2.1 _ (h2 _ (u_in_lay hf))
  unfold u_lay at hlay
  rw [if_pos hfin] at hlay
  have hcf : m.cls = cf := by
    obtain ⟨_, _, c', _, _, _, -, -, hf', -, -, -, hown2, -⟩ := Cond.laysFinal_spec hlay
    have e1 : c' = cf := by have := hi.symm.trans hf'; simp at this; exact this.1.symm
    rw [h4 f hf] at hown2
    rw [← e1]; exact Option.some.inj (hC.2.2.2.1.symm.trans hown2)
  have h6 := u_fits hfc hkC hkind (Or.inr hlay) hi hd hn hfit
  have hi2 := hi
  simp only [h4 f hf] at hi2
  rw [h3] at q4
  refine W.putFinK hC.1 hC.2.1 hC.2.2.2.1 (hC.2.2.2.2.1 _ hw) hi2 hst hcf hin (by rw [q2]; exact h6) q1 q3 (by rw [hsl]; exact k2_hasslot (q4 f hf)) rfl rfl hdg fun H' e1 e2 e3 => ?_
  rw [hsl] at e1 ⊢
  refine kk H' _ ls (e2.trans hsz) ?_ (hp.put hinj hok e3) (hS.put e2 e3 hAc) hl
  show t_OB (g.2.1 ci) (g.1.1 ci) (nfF ci) (g.1.2 ci) H' (updV V f v)
  rw [h3]
  exact ⟨_, e1, q2, q3, t_set q4 hap hf v⟩
theorem ini_blind {g : GT} {c n : Nat} {av : List Value} {V : Nat → Value} : FrameBlind (va_Pc av (fun U => GI g U ∧ U.heap.size = n ∧ t_OB (g.2.1 c) (g.1.1 c) (nfF c) (g.1.2 c) U.heap V)) := fun a U g1 mk q => by
  obtain ⟨q0, q1, q2, q3⟩ := q
  exact ⟨q0, q1.same (U := U.calling g1 mk a) rfl, q2, q3⟩
/-- a cell is made, and its constructor has run -/
theorem zi_run {ci n mc ms N : Nat} {cs' js' : List Nat} {a : Array Value} (hA : ∀ q, s.heap.size ≤ q → A q) (cells2 slots2 : Nat) (hc2 : cells + 1 + mc = cells2) (hs2 : slots + N + ms = slots2) (had : g.2.1 ci = sz) {H H1 : Heap} {locs : List Loc} {ls : Array Slot} (hsz : H.size = sz) (hX : XO g ow H) (hp : pcs g σ cs js H) (hS : va_S A s.heap H locs) (hl : lv_has ls nL LV) (z1 : H1.size = sz + 1) (o1 : ∀ q, q < sz → H1[q]? = H[q]?)
    (run : va_Run p l e R s m args below meth c H1 locs (cells + 1) (slots + N) mc ms (F0 m (pc + 4) ls (.ref (g.2.1 ci) :: .ref (g.2.1 ci) :: rest)) (.ref (g.2.1 ci) :: rest) (QI g σ ci n cs' js' a) (fun q => g.2.1 ci ≤ q))
    (kk : ZI p l e R s m args below meth c g nL A Q ow σ (cs' ++ cs) (js' ++ js) (sz + 1 + n) cells2 slots2 (pc + 7) LV (.ref (g.2.1 ci) :: rest)) : W p l e R s m args below meth c H1 locs (cells + 1) (slots + N) Q (F0 m (pc + 4) ls (.ref (g.2.1 ci) :: .ref (g.2.1 ci) :: rest)) := by
  subst hc2
  subst hs2
  intro S0 hS0 X
  obtain ⟨v, st₀, t, S1, Ls, h0, X', hLs, e1, e2, ⟨hv, hsz2, hpc, hz, hk⟩, stp⟩ := run S0 hS0 X
  cases hv
  rw [h0] at hz hk
  have keep : ∀ q : Nat, q < H.size → S1.heap[q]? = H[q]? := fun q hq => by
    rw [e1, hk q (by omega) (by omega), o1 q (by omega)]
  have hle := hS.1
  have hp1 : pcs g σ (cs' ++ cs) (js' ++ js) S1.heap := ⟨fun c hc => (List.mem_append.mp hc).elim (fun h => by rw [e1]; exact hpc.1 c h) ((hp.keep keep).1 c), fun j hj => (List.mem_append.mp hj).elim (fun h => by rw [e1]; exact hpc.2 j h) ((hp.keep keep).2 j)⟩
  obtain ⟨t2, a1, b1⟩ := kk S1.heap (locs ++ Ls) ls (by rw [e1, hsz2, had]) (hX.keep keep) hp1 ⟨by rw [e1, hsz2]; omega, fun q h1 h2 => by rw [keep q (by omega)]; exact hS.2.1 q h1 h2, fun q hq => by
      rcases List.mem_append.mp hq with h | h
      · exact hS.2.2 q h
      · exact hA _ (by have := hLs q h; omega)⟩ hl S1 rfl X'
  exact ⟨t2, stp t2 a1, b1⟩
theorem zi_make (hC : HI p s m args c cc nL own g) (hA : ∀ q, s.heap.size ≤ q → A q) {y : MethodName} {bytes : ByteArray} {rm : Room} {ci n mc ms i1 i2 N : Nat} {cs' js' : List Nat} {C host : String} {Tt : u_T} {ty0 : Nat → FieldType} (cells2 slots2 : Nat) (M : INI l g σ y bytes rm ci n mc ms cs' js') (hJ : CJ ci C Tt N ty0) (hdf : ∀ k, k < N → defaultValue (ty0 k) = dfV ci k) (hMT : MT y bytes 1 none 0) (hyn : y.name = "<init>") (hin : Cond.instanceMethod y ∈ BG) (hlk : Cond.methodLinkNest own i2 y host ∈ tables_1) (hcl : Cond.classLink own i1 C ∈ BG) (hinst : Cond.instantiable C N ∈ BG) (hini : Cond.initialized C ∈ BG) (had : g.2.1 ci = sz) (hR : rm.frames + 1 ≤ R.frames ∧ 8 + (1 + 11) + rm.locals ≤ R.locals) (hrc : rm.cells = mc) (hrs : rm.slots = ms) (hc2 : cells + 1 + mc = cells2) (hs2 : slots + N + ms = slots2) (hRc : cells2 ≤ R.cells ∧ slots2 ≤ R.slots) (hrest : (rest.map fun v => v.category).sum ≤ 7) (h0 : decode cc pc = .ok (.new i1, 3)) (h1 : decode cc (pc + 3) = .ok (.dup, 1)) (h2 : decode cc (pc + 4) = .ok (.invokespecial i2, 3))
    (kk : ZI p l e R s m args below meth c g nL A Q ow σ (cs' ++ cs) (js' ++ js) (sz + 1 + n) cells2 slots2 (pc + 7) LV (.ref (g.2.1 ci) :: rest)) : ZI p l e R s m args below meth c g nL A Q ow σ cs js sz cells slots pc LV rest := by
  intro H locs ls hsz hX hp hS hl
  obtain ⟨⟨j1, j2, j3, j4⟩, hty, hnm⟩ := hJ
  have hw := hC.2.2.2.2.1
  have hKn := hC.2.2.2.2.2.1.1.1 ci _ j1
  refine W.newcK hC.1 hC.2.1 hC.2.2.2.1 (hw _ hcl) (hw _ hinst) (hw _ hini) rfl h0 (by omega) (by omega) hKn.2.1 hsz fun H1 kC hkC e1 z1 o1 => ?_
  have hob : t_OB (g.2.1 ci) (g.1.1 ci) (nfF ci) (g.1.2 ci) H1 (dfV ci) := by
    rw [j3]
    exact (u_born (o := g.2.1 ci) ty0 hw j2 hKn hkC (by rw [had]; exact e1) hty).to hdf
  refine lv_dup hC.1 hC.2.1 h1 rfl ?_
  rw [← had] at e1 ⊢
  have run := va_runIN (n := 0) (As := []) (g := F0 m (pc + 4) ls (.ref (g.2.1 ci) :: .ref (g.2.1 ci) :: rest)) (rest := .ref (g.2.1 ci) :: rest) (H := H1) (e := e) (below := below) (meth := meth) (locs := locs) (cells := cells + 1) (slots := slots + N) (R := R) (l := l) ⟨hC.1, hC.2.1, hC.2.2.1, hC.2.2.2.1, hw⟩ M ⟨va_cnB 0 hw (bg_in hMT.1) rfl hrc hrs (hC.2.2.2.2.2.1.2.2.1 _ hlk rfl) (hw _ hMT.2.1) hMT.2.2 hR, hyn, hw _ hin⟩ ⟨ini_blind, fun U hU hW => ⟨rfl, hC.2.2.2.2.2.warm hW, by rw [hU, z1, had], by rw [hU]; exact hob⟩⟩ rfl rfl hl.1 rfl (lv_room (by show 1 + (rest.map fun v => v.category).sum ≤ 8; omega)) h2 ⟨by omega, by omega⟩
  exact zi_run hA cells2 slots2 hc2 hs2 had hsz hX hp hS hl z1 (fun q hq => o1 q (by omega)) run kk
/-- the same, of a constructor that all may call -/
theorem zi_makeP (hC : HI p s m args c cc nL own g) (hA : ∀ q, s.heap.size ≤ q → A q) {y : MethodName} {bytes : ByteArray} {rm : Room} {ci n mc ms i1 i2 N : Nat} {cs' js' : List Nat} {C : String} {Tt : u_T} {ty0 : Nat → FieldType} (cells2 slots2 : Nat) (M : INI l g σ y bytes rm ci n mc ms cs' js') (hJ : CJ ci C Tt N ty0) (hdf : ∀ k, k < N → defaultValue (ty0 k) = dfV ci k) (hMT : MT y bytes 1 none 0) (hyn : y.name = "<init>") (hin : Cond.instanceMethod y ∈ BG) (hlk : Cond.methodLink own i2 y ∈ BG) (hcl : Cond.classLink own i1 C ∈ BG) (hinst : Cond.instantiable C N ∈ BG) (hini : Cond.initialized C ∈ BG) (had : g.2.1 ci = sz) (hR : rm.frames + 1 ≤ R.frames ∧ 8 + (1 + 11) + rm.locals ≤ R.locals) (hrc : rm.cells = mc) (hrs : rm.slots = ms) (hc2 : cells + 1 + mc = cells2) (hs2 : slots + N + ms = slots2) (hRc : cells2 ≤ R.cells ∧ slots2 ≤ R.slots) (hrest : (rest.map fun v => v.category).sum ≤ 7) (h0 : decode cc pc = .ok (.new i1, 3)) (h1 : decode cc (pc + 3) = .ok (.dup, 1)) (h2 : decode cc (pc + 4) = .ok (.invokespecial i2, 3))
    (kk : ZI p l e R s m args below meth c g nL A Q ow σ (cs' ++ cs) (js' ++ js) (sz + 1 + n) cells2 slots2 (pc + 7) LV (.ref (g.2.1 ci) :: rest)) : ZI p l e R s m args below meth c g nL A Q ow σ cs js sz cells slots pc LV rest := by
  intro H locs ls hsz hX hp hS hl
  obtain ⟨⟨j1, j2, j3, j4⟩, hty, hnm⟩ := hJ
  have hw := hC.2.2.2.2.1
  have hKn := hC.2.2.2.2.2.1.1.1 ci _ j1
  refine W.newcK hC.1 hC.2.1 hC.2.2.2.1 (hw _ hcl) (hw _ hinst) (hw _ hini) rfl h0 (by omega) (by omega) hKn.2.1 hsz fun H1 kC hkC e1 z1 o1 => ?_
  have hob : t_OB (g.2.1 ci) (g.1.1 ci) (nfF ci) (g.1.2 ci) H1 (dfV ci) := by
    rw [j3]
    exact (u_born (o := g.2.1 ci) ty0 hw j2 hKn hkC (by rw [had]; exact e1) hty).to hdf
  refine lv_dup hC.1 hC.2.1 h1 rfl ?_
  rw [← had] at e1 ⊢
  have run := va_runI (n := 0) (As := []) (g := F0 m (pc + 4) ls (.ref (g.2.1 ci) :: .ref (g.2.1 ci) :: rest)) (rest := .ref (g.2.1 ci) :: rest) (H := H1) (e := e) (below := below) (meth := meth) (locs := locs) (cells := cells + 1) (slots := slots + N) (R := R) (l := l) ⟨hC.1, hC.2.1, hC.2.2.1, hC.2.2.2.1, hw⟩ M ⟨callB_of 0 hw (bg_in hMT.1) rfl hrc hrs (hw _ hMT.2.1) (hw _ hlk) hMT.2.2 hR, hyn, hw _ hin⟩ ⟨ini_blind, fun U hU hW => ⟨rfl, hC.2.2.2.2.2.warm hW, by rw [hU, z1, had], by rw [hU]; exact hob⟩⟩ rfl rfl hl.1 rfl (lv_room (by show 1 + (rest.map fun v => v.category).sum ≤ 8; omega)) h2 ⟨by omega, by omega⟩
  exact zi_run hA cells2 slots2 hc2 hs2 had hsz hX hp hS hl z1 (fun q hq => o1 q (by omega)) run kk
theorem zi_ret {ci n : Nat} {csF jsF : List Nat} {V : Nat → Value} (hC : HI p s m args c cc nL own g) (hr : meth.sig.returnType = none) (hlocks : meth.locks = false) (hV : ∀ k, k < nfF ci → V k = fval g.2.1 σ ci k) (hcs : (csF.all fun x => decide (x = ci) || cs.contains x) = true) (hjs : (jsF.all fun x => js.contains x) = true) (hsz2 : sz = g.2.1 ci + 1 + n) (hdg : decode cc pc = .ok (.return_, 1)) : ZI p l e R s m args below meth c g nL (fun q => g.2.1 ci ≤ q) (MQ below (QI g σ ci n csF jsF) args s cells slots (fun q => g.2.1 ci ≤ q)) (some (ci, V)) σ cs js sz cells slots pc LV [] := by
  intro H locs ls hsz hX hp hS hl
  refine W.vret hC.1 hC.2.1 hr (fun t ht hW => ⟨rfl, by rw [ht, hsz, hsz2], ⟨fun x hx => ?_, fun j hj => ?_⟩, hS.F ht⟩) hS.2.2 hdg hlocks
  · rw [ht]
    have h1 := List.all_eq_true.mp hcs x hx
    rw [Bool.or_eq_true] at h1
    rcases h1 with h1 | h1
    · rw [of_decide_eq_true h1]
      exact t_OB.to (show t_OB (g.2.1 ci) (g.1.1 ci) (nfF ci) (g.1.2 ci) H V from hX) hV
    · exact hp.1 x (List.contains_iff_mem.mp h1)
  · rw [ht]
    exact hp.2 j (List.contains_iff_mem.mp (List.all_eq_true.mp hjs j hj))
/-- a constructor out of the walk of its body -/
theorem ini_of {y : MethodName} {bytes : ByteArray} {rm : Room} {ci n mc ms : Nat} {csF jsF : List Nat} (hy : plainName y.cls = true) (hyn : y.name = "<init>")
    (body : ∀ (p : Program) (e : Env) (s : State) (m : MethodId) (args : Array Value) (below : List Frame) (meth : Method) (c : Code), HI p s m args c bytes 1 y.cls g → meth.sig.returnType = none → meth.locks = false → meth.name = "<init>" → (∀ q, s.heap.size ≤ q → g.2.1 ci ≤ q) → ZI p l e rm s m args below meth c g 1 (fun q => g.2.1 ci ≤ q) (MQ below (QI g σ ci n csF jsF) args s mc ms (fun q => g.2.1 ci ≤ q)) (some (ci, dfV ci)) σ [] [] (g.2.1 ci + 1) 0 0 0 [(0, .ref (g.2.1 ci))] []) : INI l g σ y bytes rm ci n mc ms csF jsF := by
  refine Met.ofW (cc := bytes) (maxL := 1) (ret := none) hy rfl ?_
  intro p e s m args below meth c s₁ B hml hv
  obtain ⟨rfl, hG, hz, hO⟩ := hv
  have hts := atoms_spec (ws := .code y bytes 1 none :: BG) B.pre
  have hl := lv_entry [.ref (g.2.1 ci)] (n := 1) (Nat.le_refl _)
  rw [lg_entry_eq]
  have hin : meth.name = "<init>" := ((name_of_methodNamed B.named B.method).1).trans hyn
  exact body p e s m _ below meth c ⟨B.exec, B.bytes, hml, findClass_of_methodNamed B.named, fun w hw => hts w (List.mem_cons_of_mem _ hw), hG⟩ B.returns B.notSynchronized hin (fun q hq => by omega) s.heap [] _ hz hO ⟨fun c hc => absurd hc List.not_mem_nil, fun j hj => absurd hj List.not_mem_nil⟩ va_S.rf hl
end ZIR
