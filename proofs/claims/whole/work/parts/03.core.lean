/-! STATES, PICTURES, AND THE JUDGEMENT ZF: a method's bytecode against a function of its state (my own rows) -/
abbrev ST : Type := (Nat → Nat → Int32) × (Nat → Nat → Int32) × (Nat → Nat → Int64)
def gI (σ : ST) (c f : Nat) : Int32 := σ.1 c f
def gA (σ : ST) (j : Nat) : Nat → Int32 := σ.2.1 j
def gL (σ : ST) (j : Nat) : Nat → Int64 := σ.2.2 j
def sI (σ : ST) (c f : Nat) (v : Int32) : ST := (fun a => if a = c then upd (σ.1 a) f v else σ.1 a, σ.2)
def sA (σ : ST) (j i : Nat) (v : Int32) : ST := (σ.1, fun a => if a = j then upd (σ.2.1 a) i v else σ.2.1 a, σ.2.2)
def sL (σ : ST) (j i : Nat) (v : Int64) : ST := (σ.1, σ.2.1, fun a => if a = j then vp_updL (σ.2.2 a) i v else σ.2.2 a)
theorem gI_sI (σ : ST) (c f : Nat) (v : Int32) (a b : Nat) : gI (sI σ c f v) a b = if a = c then (if b = f then v else gI σ a b) else gI σ a b := by
  unfold gI sI
  by_cases h : a = c
  · simp only [h, if_true, upd]
  · simp only [h, if_false]
theorem gA_sI (σ : ST) (c f : Nat) (v : Int32) (j : Nat) : gA (sI σ c f v) j = gA σ j := rfl
theorem gL_sI (σ : ST) (c f : Nat) (v : Int32) (j : Nat) : gL (sI σ c f v) j = gL σ j := rfl
theorem gI_sA (σ : ST) (j i : Nat) (v : Int32) (a b : Nat) : gI (sA σ j i v) a b = gI σ a b := rfl
theorem gL_sA (σ : ST) (j i : Nat) (v : Int32) (a : Nat) : gL (sA σ j i v) a = gL σ a := rfl
theorem gA_sA (σ : ST) (j i : Nat) (v : Int32) (a : Nat) : gA (sA σ j i v) a = if a = j then upd (gA σ a) i v else gA σ a := rfl
theorem gI_sL (σ : ST) (j i : Nat) (v : Int64) (a b : Nat) : gI (sL σ j i v) a b = gI σ a b := rfl
theorem gA_sL (σ : ST) (j i : Nat) (v : Int64) (a : Nat) : gA (sL σ j i v) a = gA σ a := rfl
theorem gL_sL (σ : ST) (j i : Nat) (v : Int64) (a : Nat) : gL (sL σ j i v) a = if a = j then vp_updL (gL σ a) i v else gL σ a := rfl
abbrev ix (i : Int32) : Nat := i.toNatClampNeg
def inb (i : Int32) (n : Nat) : Bool := decide (0 ≤ i.toInt ∧ i.toInt < n)
theorem inb_in {i : Int32} {n : Nat} (h : inb i n = true) : vp_in i n := vp_in_iff.mpr (of_decide_eq_true h)
theorem inb_lt {i : Int32} {n : Nat} (h : inb i n = true) : ix i < n := Nat.not_le.mp fun q => inb_in h (Or.inr q)
def b2i (b : Bool) : Int32 := if b then 1 else 0
def ck {α : Type} (b : Bool) (o : Option α) : Option α := if b then o else none
def ob {α β γ : Type} (x : Option (α × β)) (f : α → β → Option γ) : Option γ := match x with
  | none => none
  | some (a, b) => f a b
def j_rem (x y : Int32) : Int32 := x - x / y * y
def j_shl (x y : Int32) : Int32 := x <<< (y &&& 31)
def j_shr (x y : Int32) : Int32 := x >>> (y &&& 31)
def j_ushr (x y : Int32) : Int32 := (x.toUInt32 >>> (y.toUInt32 &&& Int32.toUInt32 31)).toInt32
def j_lrem (x y : Int64) : Int64 := x - x / y * y
def j_lshl (x : Int64) (y : Int32) : Int64 := x <<< (y.toInt64 &&& 63)
def j_lshr (x : Int64) (y : Int32) : Int64 := x >>> (y.toInt64 &&& 63)
def j_lushr (x : Int64) (y : Int32) : Int64 := (x.toUInt64 >>> (y.toInt64.toUInt64 &&& Int64.toUInt64 63)).toInt64
def FU : Nat := 5000

def lenL : List Nat := [40, 40, 40, 40, 40, 60, 60, 60, 40, 40, 40, 40, 40, 40, 40, 40, 40, 40, 40, 12, 40, 40, 40, 40, 80, 80, 3200, 20, 160, 160, 200, 200, 200, 200, 40, 40, 40, 80, 80, 80, 80, 80, 12, 160, 40, 40, 40, 40, 40, 12, 512, 512, 512, 40, 40, 40, 40, 12, 20, 12, 12, 12, 12, 12, 12, 12, 12, 12, 12, 12, 12, 12, 12, 12, 12, 12, 12, 12, 12, 12, 12, 12, 12, 12, 12, 12, 12, 12, 12, 12, 12, 12, 12, 12, 12, 12, 12, 12, 12, 40, 40, 40, 40, 40, 600, 600, 600, 600, 12, 160, 40, 40, 40, 40, 40, 40, 40, 40, 40, 480, 12, 12, 12, 3200, 20, 40, 40, 40, 40, 40, 40, 200, 200, 200, 40, 40, 200, 200, 12, 80, 80, 80, 80, 80, 60, 60, 60, 40, 40, 40, 40, 40, 20, 40]
def lenA (j : Nat) : Nat := lenL.getD j 0
def kdL : List Nat := [0, 0, 0, 0, 0, 0, 0, 0, 0, 0, 0, 0, 1, 0, 0, 0, 0, 0, 4, 3, 0, 0, 0, 0, 0, 0, 0, 0, 0, 1, 0, 0, 1, 0, 0, 0, 0, 0, 0, 0, 0, 0, 0, 0, 0, 0, 1, 0, 1, 3, 0, 0, 0, 0, 0, 0, 0, 0, 0, 0, 0, 0, 0, 0, 0, 0, 0, 0, 0, 0, 0, 0, 0, 0, 0, 0, 0, 0, 0, 0, 0, 0, 0, 0, 0, 0, 0, 0, 0, 0, 0, 0, 0, 0, 0, 0, 0, 0, 0, 0, 0, 0, 0, 0, 0, 0, 0, 1, 1, 2, 0, 0, 0, 0, 0, 0, 0, 0, 0, 0, 0, 0, 3, 2, 0, 0, 0, 0, 0, 0, 0, 0, 0, 0, 1, 1, 1, 1, 1, 0, 0, 0, 0, 0, 0, 0, 0, 0, 0, 0, 0, 1, 0, 0]
def kdA (j : Nat) : Nat := kdL.getD j 0
def tyA (j : Nat) : FieldType := match kdA j with
  | 0 => .int
  | 1 => .boolean
  | 2 => .byte
  | 3 => .long
  | _ => .array .int
def rfL : List (List Nat) := [[0, 14, 15, 16, 17, 18, 0, 19, 20, 21], [0, 22, 23, 24, 25, 26], [0, 27, 28, 29, 30, 31, 32], [33, 34, 35, 36, 37, 0, 38, 39, 0, 0, 0, 0], [0, 40, 41, 42, 0, 1, 0, 0, 0, 43, 0, 0, 0, 0, 0], [0, 44, 45, 46, 47, 0, 48, 49, 50], [0, 51, 52, 53, 54, 55, 56], [57, 0], [0, 58, 59, 60, 61, 62], [63, 0, 64, 65, 66, 0, 67, 68, 69, 70], [0, 0, 0, 0, 71, 0, 72, 9, 2, 11, 4, 6, 7, 10, 8, 3, 5], [0, 0, 113, 114, 115, 116, 117, 118, 119, 120, 121, 122, 0, 0, 0, 123, 0, 124, 125, 126, 127, 128, 129, 130, 131, 132, 133, 134, 135, 0, 0, 0, 136, 137, 138, 139, 140, 141, 142, 143, 144, 145, 146, 147, 148, 149, 150, 151, 0, 0, 0, 0, 1, 0, 0, 0, 0, 0, 0, 0, 0, 0, 0, 152, 153, 154, 155, 156, 157, 158, 159, 160, 161, 162, 163, 164, 165, 0, 0, 0, 166, 167, 0, 0, 0]]
def rfF (c f : Nat) : Nat := (rfL.getD c []).getD f 0
def nfF (c : Nat) : Nat := [10, 6, 7, 12, 15, 9, 7, 2, 6, 10, 17, 85].getD c 0
abbrev GT : Type := va_G × (Nat → Nat) × (Nat → ClassId)
abbrev TT : Type := Nat × Nat × Nat × Nat
def TK : TT := (0, 11, 0, 99)
def TM : TT := (11, 12, 99, 154)
def fval (ad : Nat → Nat) (σ : ST) (c f : Nat) : Value := if rfF c f = 0 then .int (gI σ c f) else if rfF c f = 1 then .ref (ad (ix (gI σ c f))) else .ref (ad (rfF c f - 2))
def cont (ad : Nat → Nat) (σ : ST) (j : Nat) : vp_A := (lenA j, if kdA j = 3 then .inr (.inl (gL σ j)) else if kdA j = 4 then .inr (.inr (.inr (.inr (fun i => some (ad (71 + i)))))) else .inl (gA σ j))
def inC (T : TT) (c : Nat) : Prop := T.1 ≤ c ∧ c < T.2.1 ∧ T.2.1 ≤ 12
def inA (T : TT) (j : Nat) : Prop := T.2.2.1 ≤ j ∧ j < T.2.2.2 ∧ T.2.2.2 ≤ 154
def pic (g : GT) (T : TT) (σ : ST) (H : Heap) : Prop :=
  (∀ c, inC T c → t_OB (g.2.1 c) (g.1.1 c) (nfF c) (g.1.2 c) H (fval g.2.1 σ c)) ∧ (∀ j, inA T j → H[g.2.1 (12 + j)]? = some (vp_cell (g.2.2 j) (cont g.2.1 σ j)))
def inT (T : TT) (n : Nat) : Prop := inC T n ∨ ∃ j, inA T j ∧ n = 12 + j
def frA (g : GT) (T : TT) : Nat → Prop := fun q => ∃ n, inT T n ∧ q = g.2.1 n
theorem inT_lt {T : TT} {n : Nat} (h : inT T n) : n < 166 := by
  rcases h with ⟨h1, h2, h3⟩ | ⟨j, ⟨h1, h2, h3⟩, rfl⟩ <;> omega
abbrev vwCl : List vw_C := [(RX1, TX1, 10), (RX2, TX2, 6), (RX3, TX3, 7), (RX4, TX4, 12), (RX5, TX5, 15), (RX6, TX6, 9), (RX7, TX7, 7), (RX8, TX8, 2), (RX9, TX9, 6), (RX10, TX10, 10), (RX11, TX11, 17), (RX12, TX12, 85)]
def GK (g : GT) (U : State) : Prop := va_K g.1 vwCl [] U ∧ (∀ j, j < 154 → ArrOfT U (g.2.2 j) (tyA j)) ∧ (∀ w ∈ tables_1, b_nest w = true → va_Nw w U) ∧ ∀ a b, a < 166 → b < 166 → g.2.1 a = g.2.1 b → a = b
theorem GK.warm {g : GT} {s U : State} (h : GK g s) (hW : s.WarmedH U.vm) : GK g U := by
  refine ⟨va_K.moved hW.alike h.1, fun j hj => arrOfT_moved hW.alike (h.2.1 j hj), fun w hw hb => ?_, h.2.2.2⟩
  have hz := h.2.2.1 w hw hb
  cases w <;> first | exact va_Nw.warmF hW hz | exact va_Nw.warmM hW hz | cases hb
theorem GK.same {g : GT} {s U : State} (h : GK g s) (hv : s.vm = U.vm) : GK g U := by
  refine ⟨va_K.moved (by rw [← hv]; exact Vm.Alike.refl s.vm) h.1, fun j hj => arrOfT_moved (by rw [← hv]; exact Vm.Alike.refl s.vm) (h.2.1 j hj), fun w hw hb => ?_, h.2.2.2⟩
  have hz := h.2.2.1 w hw hb
  cases w <;> first | exact va_Nw.same rfl hv hz | cases hb
def HC (p : Program) (s : State) (m : MethodId) (args : Array Value) (meth : Method) (c : Code) (cc : ByteArray) (nL : Nat) (own : String) (ret : Option FieldType) (g : GT) : Prop :=
  p.tables.exec = Jvm.exec ∧ c.code = cc ∧ c.maxLocals = nL ∧ s.vm.findClass own = some m.cls ∧ (∀ w ∈ BG, w.before args s = true) ∧ meth.locks = false ∧ meth.sig.returnType = ret ∧ GK g s
def QQ (g : GT) (T : TT) {ρ : Type} (vo : ρ → Option Value) (r : ρ) (k : ST) : Array Value → State → Outcome → State → Prop := fun _ st oc t => oc = .returned (vo r) ∧ pic g T k t.heap ∧ va_F (frA g T) st t
def ZF (p : Program) (l : Launch) (e : Env) (R : Room) (s : State) (m : MethodId) (args : Array Value) (below : List Frame) (meth : Method) (c : Code) (g : GT) (T : TT) {ρ : Type} (vo : ρ → Option Value) (nL : Nat) (k : ST) (pc : Nat) (LV : List (Nat × Value)) (st : List Value) (o : Option (ρ × ST)) : Prop :=
  ∀ (r : ρ) (k' : ST), o = some (r, k') → ∀ (H : Heap) (locs : List Loc) (ls : Array Slot), pic g T k H → va_S (frA g T) s.heap H locs → lv_has ls nL LV → W p l e R s m args below meth c H locs 0 0 (MQ below (QQ g T vo r k') args s 0 0 (frA g T)) (F0 m pc ls st)
abbrev voI : Int32 → Option Value := fun r => some (.int r)
abbrev voL : Int64 → Option Value := fun r => some (.long r)
abbrev voB : Bool → Option Value := fun r => some (.int (b2i r))
abbrev voV : Unit → Option Value := fun _ => none
def CN (l : Launch) (y : MethodName) (cc : ByteArray) (nL : Nat) (ret : Option FieldType) (rm : Room) (g : GT) (T : TT) {ρ : Type} (vo : ρ → Option Value) (av : List Value) (f : ST → Option (ρ × ST)) : Prop :=
  ∀ (k : ST) (r : ρ) (k' : ST), f k = some (r, k') → Met l y (.code y cc nL ret :: BG) rm (va_Pc av (fun U => GK g U ∧ pic g T k U.heap)) (QQ g T vo r k') 0 0 (frA g T)
theorem cn_of {l : Launch} {y : MethodName} {cc : ByteArray} {nL : Nat} {ret : Option FieldType} {rm : Room} {g : GT} {T : TT} {ρ : Type} {vo : ρ → Option Value} {av : List Value} {f : ST → Option (ρ × ST)} (hy : plainName y.cls = true) (hn : (lg_sl av).length ≤ nL)
    (body : ∀ (p : Program) (e : Env) (s : State) (m : MethodId) (args : Array Value) (below : List Frame) (meth : Method) (c : Code), HC p s m args meth c cc nL y.cls ret g → ∀ k : ST, ZF p l e rm s m args below meth c g T vo nL k 0 (lv_args 0 av) [] (f k)) : CN l y cc nL ret rm g T vo av f := by
  intro k r k' h
  refine Met.ofW (cc := cc) (maxL := nL) (ret := ret) hy rfl ?_
  intro p e s m args below meth c s₁ B hml hv
  obtain ⟨rfl, hG, hP⟩ := hv
  have hts := atoms_spec (ws := .code y cc nL ret :: BG) B.pre
  have hl := lv_entry av (n := nL) hn
  rw [lg_entry_eq]
  exact body p e s m _ below meth c ⟨B.exec, B.bytes, hml, findClass_of_methodNamed B.named, fun w hw => hts w (List.mem_cons_of_mem _ hw), B.notSynchronized, B.returns, hG⟩ k r k' h s.heap [] _ hP va_S.rf hl
section ZR
variable {p : Program} {l : Launch} {e : Env} {R : Room} {s : State} {m : MethodId} {args : Array Value} {below : List Frame} {meth : Method} {c : Code} {cc : ByteArray} {nL : Nat} {own : String} {ret : Option FieldType} {g : GT} {T : TT}
variable {ρ : Type} {vo : ρ → Option Value} {k : ST} {pc : Nat} {LV : List (Nat × Value)} {rest : List Value} {o : Option (ρ × ST)}
theorem zf_none {st : List Value} : ZF p l e R s m args below meth c g T vo nL k pc LV st none := fun r k' h => by cases h
theorem zf_lv {LV' : List (Nat × Value)} {st : List Value} (ks : List Nat) (hl : lv_pick LV ks = LV') (kk : ZF p l e R s m args below meth c g T vo nL k pc LV' st o) : ZF p l e R s m args below meth c g T vo nL k pc LV st o :=
  fun r k' h H locs ls hP hS hv => kk r k' h H locs ls hP hS (lv_sub hv ks hl)
theorem zf_eq {st : List Value} {o' : Option (ρ × ST)} (h : o = o') (kk : ZF p l e R s m args below meth c g T vo nL k pc LV st o') : ZF p l e R s m args below meth c g T vo nL k pc LV st o := h ▸ kk
theorem zf_ite {st : List Value} {q : Prop} [Decidable q] {o1 o2 : Option (ρ × ST)} (h1 : q → ZF p l e R s m args below meth c g T vo nL k pc LV st o1) (h2 : ¬ q → ZF p l e R s m args below meth c g T vo nL k pc LV st o2) : ZF p l e R s m args below meth c g T vo nL k pc LV st (if q then o1 else o2) := by
  by_cases h : q
  · rw [if_pos h]; exact h1 h
  · rw [if_neg h]; exact h2 h
theorem zf_ck {st : List Value} {b : Bool} (h1 : b = true → ZF p l e R s m args below meth c g T vo nL k pc LV st o) : ZF p l e R s m args below meth c g T vo nL k pc LV st (ck b o) := by
  cases b
  · exact zf_none
  · exact h1 rfl

theorem zf_iconst (hC : HC p s m args meth c cc nL own ret g) {n : Int} {v : Int32} (hdg : decode cc pc = .ok (.iconst n, 1)) (hv : Int32.ofInt n = v) (kk : ZF p l e R s m args below meth c g T vo nL k (pc + 1) LV (.int v :: rest) o) : ZF p l e R s m args below meth c g T vo nL k pc LV rest o := fun r k' h H locs ls hP hS hl => lv_iconst hC.1 hC.2.1 hdg hv (kk r k' h H locs ls hP hS hl)
theorem zf_bipush (hC : HC p s m args meth c cc nL own ret g) {n : Int} {v : Int32} (hdg : decode cc pc = .ok (.bipush n, 2)) (hv : (Int8.ofInt n).toInt32 = v) (kk : ZF p l e R s m args below meth c g T vo nL k (pc + 2) LV (.int v :: rest) o) : ZF p l e R s m args below meth c g T vo nL k pc LV rest o := fun r k' h H locs ls hP hS hl => lv_bipush hC.1 hC.2.1 hdg hv (kk r k' h H locs ls hP hS hl)
theorem zf_sipush (hC : HC p s m args meth c cc nL own ret g) {n : Int} {v : Int32} (hdg : decode cc pc = .ok (.sipush n, 3)) (hv : (Int16.ofInt n).toInt32 = v) (kk : ZF p l e R s m args below meth c g T vo nL k (pc + 3) LV (.int v :: rest) o) : ZF p l e R s m args below meth c g T vo nL k pc LV rest o := fun r k' h H locs ls hP hS hl => lv_sipush hC.1 hC.2.1 hdg hv (kk r k' h H locs ls hP hS hl)
theorem zf_lconst (hC : HC p s m args meth c cc nL own ret g) {n : Fin 2} {v : Int64} (hdg : decode cc pc = .ok (.lconst n, 1)) (hv : Int64.ofNat (n : Nat) = v) (kk : ZF p l e R s m args below meth c g T vo nL k (pc + 1) LV (.long v :: rest) o) : ZF p l e R s m args below meth c g T vo nL k pc LV rest o := fun r k' h H locs ls hP hS hl => lv_lconst hC.1 hC.2.1 hdg hv (kk r k' h H locs ls hP hS hl)
theorem zf_ldc (hC : HC p s m args meth c cc nL own ret g) {index : Nat} {v : Int32} (hw : Jvm.Cond.constant own index v ∈ BG) (hdg : decode cc pc = .ok (.ldc index, 2)) (kk : ZF p l e R s m args below meth c g T vo nL k (pc + 2) LV (.int v :: rest) o) : ZF p l e R s m args below meth c g T vo nL k pc LV rest o := fun r k' h H locs ls hP hS hl => lv_ldc hC.1 hC.2.1 hC.2.2.2.1 (hC.2.2.2.2.1 _ hw) hdg (kk r k' h H locs ls hP hS hl)
theorem zf_ldcw (hC : HC p s m args meth c cc nL own ret g) {index : Nat} {v : Int32} (hw : Jvm.Cond.constant own index v ∈ BG) (hdg : decode cc pc = .ok (.ldc_w index, 3)) (kk : ZF p l e R s m args below meth c g T vo nL k (pc + 3) LV (.int v :: rest) o) : ZF p l e R s m args below meth c g T vo nL k pc LV rest o := fun r k' h H locs ls hP hS hl => lv_ldcw hC.1 hC.2.1 hC.2.2.2.1 (hC.2.2.2.2.1 _ hw) hdg (kk r k' h H locs ls hP hS hl)
theorem zf_ldc2 (hC : HC p s m args meth c cc nL own ret g) {index : Nat} {v : Int64} (hw : Jvm.Cond.constantLong own index v ∈ BG) (hdg : decode cc pc = .ok (.ldc2_w index, 3)) (kk : ZF p l e R s m args below meth c g T vo nL k (pc + 3) LV (.long v :: rest) o) : ZF p l e R s m args below meth c g T vo nL k pc LV rest o := fun r k' h H locs ls hP hS hl => lv_ldc2 hC.1 hC.2.1 hC.2.2.2.1 (hC.2.2.2.2.1 _ hw) hdg (kk r k' h H locs ls hP hS hl)
theorem zf_iload_n (hC : HC p s m args meth c cc nL own ret g) {n : Fin 4} {i : Nat} {x : Int32} (hdg : decode cc pc = .ok (.iload_n n, 1)) (hi : (n : Nat) = i) (q : Nat) (hq : LV[q]? = some (i, .int x)) (kk : ZF p l e R s m args below meth c g T vo nL k (pc + 1) LV (.int x :: rest) o) : ZF p l e R s m args below meth c g T vo nL k pc LV rest o := fun r k' h H locs ls hP hS hl => lv_iload_n hC.1 hC.2.1 hdg hi (lv_at hl q hq) (kk r k' h H locs ls hP hS hl)
theorem zf_iload (hC : HC p s m args meth c cc nL own ret g) {i : Nat} {x : Int32} (hdg : decode cc pc = .ok (.iload i, 2)) (q : Nat) (hq : LV[q]? = some (i, .int x)) (kk : ZF p l e R s m args below meth c g T vo nL k (pc + 2) LV (.int x :: rest) o) : ZF p l e R s m args below meth c g T vo nL k pc LV rest o := fun r k' h H locs ls hP hS hl => lv_iload hC.1 hC.2.1 hdg (lv_at hl q hq) (kk r k' h H locs ls hP hS hl)
theorem zf_lload_n (hC : HC p s m args meth c cc nL own ret g) {n : Fin 4} {i : Nat} {x : Int64} (hdg : decode cc pc = .ok (.lload_n n, 1)) (hi : (n : Nat) = i) (q : Nat) (hq : LV[q]? = some (i, .long x)) (kk : ZF p l e R s m args below meth c g T vo nL k (pc + 1) LV (.long x :: rest) o) : ZF p l e R s m args below meth c g T vo nL k pc LV rest o := fun r k' h H locs ls hP hS hl => lv_lload_n hC.1 hC.2.1 hdg hi (lv_at hl q hq) (kk r k' h H locs ls hP hS hl)
theorem zf_lload (hC : HC p s m args meth c cc nL own ret g) {i : Nat} {x : Int64} (hdg : decode cc pc = .ok (.lload i, 2)) (q : Nat) (hq : LV[q]? = some (i, .long x)) (kk : ZF p l e R s m args below meth c g T vo nL k (pc + 2) LV (.long x :: rest) o) : ZF p l e R s m args below meth c g T vo nL k pc LV rest o := fun r k' h H locs ls hP hS hl => lv_lload hC.1 hC.2.1 hdg (lv_at hl q hq) (kk r k' h H locs ls hP hS hl)
theorem zf_aload_n (hC : HC p s m args meth c cc nL own ret g) {n : Fin 4} {i : Nat} {x : Addr} (hdg : decode cc pc = .ok (.aload_n n, 1)) (hi : (n : Nat) = i) (q : Nat) (hq : LV[q]? = some (i, .ref x)) (kk : ZF p l e R s m args below meth c g T vo nL k (pc + 1) LV (.ref x :: rest) o) : ZF p l e R s m args below meth c g T vo nL k pc LV rest o := fun r k' h H locs ls hP hS hl => lv_aload_n hC.1 hC.2.1 hdg hi (lv_at hl q hq) (kk r k' h H locs ls hP hS hl)
theorem zf_aload (hC : HC p s m args meth c cc nL own ret g) {i : Nat} {x : Addr} (hdg : decode cc pc = .ok (.aload i, 2)) (q : Nat) (hq : LV[q]? = some (i, .ref x)) (kk : ZF p l e R s m args below meth c g T vo nL k (pc + 2) LV (.ref x :: rest) o) : ZF p l e R s m args below meth c g T vo nL k pc LV rest o := fun r k' h H locs ls hP hS hl => lv_aload hC.1 hC.2.1 hdg (lv_at hl q hq) (kk r k' h H locs ls hP hS hl)
theorem zf_istore_n (hC : HC p s m args meth c cc nL own ret g) {n : Fin 4} {i : Nat} {x : Int32} {LV' : List (Nat × Value)} (hdg : decode cc pc = .ok (.istore_n n, 1)) (hi : (n : Nat) = i) (hn : i < nL) (hf : (i, Value.int x) :: LV.filter (fun q => !(q.1 == i) && !(q.1 + 1 == i && q.2.category == 2)) = LV') (kk : ZF p l e R s m args below meth c g T vo nL k (pc + 1) LV' rest o) : ZF p l e R s m args below meth c g T vo nL k pc LV (.int x :: rest) o := fun r k' h H locs ls hP hS hl => lv_istore_n hC.1 hC.2.1 hdg hi hl hn hf (fun ls hl => kk r k' h H locs ls hP hS hl)
theorem zf_istore (hC : HC p s m args meth c cc nL own ret g) {i : Nat} {x : Int32} {LV' : List (Nat × Value)} (hdg : decode cc pc = .ok (.istore i, 2)) (hn : i < nL) (hf : (i, Value.int x) :: LV.filter (fun q => !(q.1 == i) && !(q.1 + 1 == i && q.2.category == 2)) = LV') (kk : ZF p l e R s m args below meth c g T vo nL k (pc + 2) LV' rest o) : ZF p l e R s m args below meth c g T vo nL k pc LV (.int x :: rest) o := fun r k' h H locs ls hP hS hl => lv_istore hC.1 hC.2.1 hdg hl hn hf (fun ls hl => kk r k' h H locs ls hP hS hl)
theorem zf_lstore_n (hC : HC p s m args meth c cc nL own ret g) {n : Fin 4} {i : Nat} {x : Int64} {LV' : List (Nat × Value)} (hdg : decode cc pc = .ok (.lstore_n n, 1)) (hi : (n : Nat) = i) (hn : i + 1 < nL) (hf : (i, Value.long x) :: LV.filter (fun q => !(q.1 == i) && (!(q.1 == i + 1) && !(q.1 + 1 == i && q.2.category == 2))) = LV') (kk : ZF p l e R s m args below meth c g T vo nL k (pc + 1) LV' rest o) : ZF p l e R s m args below meth c g T vo nL k pc LV (.long x :: rest) o := fun r k' h H locs ls hP hS hl => lv_lstore_n hC.1 hC.2.1 hdg hi hl hn hf (fun ls hl => kk r k' h H locs ls hP hS hl)
theorem zf_lstore (hC : HC p s m args meth c cc nL own ret g) {i : Nat} {x : Int64} {LV' : List (Nat × Value)} (hdg : decode cc pc = .ok (.lstore i, 2)) (hn : i + 1 < nL) (hf : (i, Value.long x) :: LV.filter (fun q => !(q.1 == i) && (!(q.1 == i + 1) && !(q.1 + 1 == i && q.2.category == 2))) = LV') (kk : ZF p l e R s m args below meth c g T vo nL k (pc + 2) LV' rest o) : ZF p l e R s m args below meth c g T vo nL k pc LV (.long x :: rest) o := fun r k' h H locs ls hP hS hl => lv_lstore hC.1 hC.2.1 hdg hl hn hf (fun ls hl => kk r k' h H locs ls hP hS hl)
theorem zf_iinc (hC : HC p s m args meth c cc nL own ret g) {i q : Nat} {n : Int} {x v : Int32} {LV' : List (Nat × Value)} (hdg : decode cc pc = .ok (.iinc i n, 3)) (hq : LV[q]? = some (i, .int x)) (hv : x + Int32.ofInt n = v) (hn : i < nL) (hf : (i, Value.int v) :: LV.filter (fun q => !(q.1 == i) && !(q.1 + 1 == i && q.2.category == 2)) = LV') (kk : ZF p l e R s m args below meth c g T vo nL k (pc + 3) LV' rest o) : ZF p l e R s m args below meth c g T vo nL k pc LV rest o := fun r k' h H locs ls hP hS hl => lv_iinc hC.1 hC.2.1 hdg hl hq hv hn hf (fun ls hl => kk r k' h H locs ls hP hS hl)
theorem zf_iadd (hC : HC p s m args meth c cc nL own ret g) {x y : Int32} (hdg : decode cc pc = .ok (.iadd, 1)) (kk : ZF p l e R s m args below meth c g T vo nL k (pc + 1) LV (.int (x + y) :: rest) o) : ZF p l e R s m args below meth c g T vo nL k pc LV (.int y :: .int x :: rest) o := fun r k' h H locs ls hP hS hl => lv_iadd hC.1 hC.2.1 hdg (kk r k' h H locs ls hP hS hl)
theorem zf_isub (hC : HC p s m args meth c cc nL own ret g) {x y : Int32} (hdg : decode cc pc = .ok (.isub, 1)) (kk : ZF p l e R s m args below meth c g T vo nL k (pc + 1) LV (.int (x - y) :: rest) o) : ZF p l e R s m args below meth c g T vo nL k pc LV (.int y :: .int x :: rest) o := fun r k' h H locs ls hP hS hl => lv_isub hC.1 hC.2.1 hdg (kk r k' h H locs ls hP hS hl)
theorem zf_imul (hC : HC p s m args meth c cc nL own ret g) {x y : Int32} (hdg : decode cc pc = .ok (.imul, 1)) (kk : ZF p l e R s m args below meth c g T vo nL k (pc + 1) LV (.int (x * y) :: rest) o) : ZF p l e R s m args below meth c g T vo nL k pc LV (.int y :: .int x :: rest) o := fun r k' h H locs ls hP hS hl => lv_imul hC.1 hC.2.1 hdg (kk r k' h H locs ls hP hS hl)
theorem zf_iand (hC : HC p s m args meth c cc nL own ret g) {x y : Int32} (hdg : decode cc pc = .ok (.iand, 1)) (kk : ZF p l e R s m args below meth c g T vo nL k (pc + 1) LV (.int (x &&& y) :: rest) o) : ZF p l e R s m args below meth c g T vo nL k pc LV (.int y :: .int x :: rest) o := fun r k' h H locs ls hP hS hl => lv_iand hC.1 hC.2.1 hdg (kk r k' h H locs ls hP hS hl)
theorem zf_ior (hC : HC p s m args meth c cc nL own ret g) {x y : Int32} (hdg : decode cc pc = .ok (.ior, 1)) (kk : ZF p l e R s m args below meth c g T vo nL k (pc + 1) LV (.int (x ||| y) :: rest) o) : ZF p l e R s m args below meth c g T vo nL k pc LV (.int y :: .int x :: rest) o := fun r k' h H locs ls hP hS hl => lv_ior hC.1 hC.2.1 hdg (kk r k' h H locs ls hP hS hl)
theorem zf_ixor (hC : HC p s m args meth c cc nL own ret g) {x y : Int32} (hdg : decode cc pc = .ok (.ixor, 1)) (kk : ZF p l e R s m args below meth c g T vo nL k (pc + 1) LV (.int (x ^^^ y) :: rest) o) : ZF p l e R s m args below meth c g T vo nL k pc LV (.int y :: .int x :: rest) o := fun r k' h H locs ls hP hS hl => lv_ixor hC.1 hC.2.1 hdg (kk r k' h H locs ls hP hS hl)
theorem zf_ishl (hC : HC p s m args meth c cc nL own ret g) {x y : Int32} (hdg : decode cc pc = .ok (.ishl, 1)) (kk : ZF p l e R s m args below meth c g T vo nL k (pc + 1) LV (.int (j_shl x y) :: rest) o) : ZF p l e R s m args below meth c g T vo nL k pc LV (.int y :: .int x :: rest) o := fun r k' h H locs ls hP hS hl => lv_ishl hC.1 hC.2.1 hdg (kk r k' h H locs ls hP hS hl)
theorem zf_ishr (hC : HC p s m args meth c cc nL own ret g) {x y : Int32} (hdg : decode cc pc = .ok (.ishr, 1)) (kk : ZF p l e R s m args below meth c g T vo nL k (pc + 1) LV (.int (j_shr x y) :: rest) o) : ZF p l e R s m args below meth c g T vo nL k pc LV (.int y :: .int x :: rest) o := fun r k' h H locs ls hP hS hl => lv_ishr hC.1 hC.2.1 hdg (kk r k' h H locs ls hP hS hl)
theorem zf_iushr (hC : HC p s m args meth c cc nL own ret g) {x y : Int32} (hdg : decode cc pc = .ok (.iushr, 1)) (kk : ZF p l e R s m args below meth c g T vo nL k (pc + 1) LV (.int (j_ushr x y) :: rest) o) : ZF p l e R s m args below meth c g T vo nL k pc LV (.int y :: .int x :: rest) o := fun r k' h H locs ls hP hS hl => lv_iushr hC.1 hC.2.1 hdg rfl (kk r k' h H locs ls hP hS hl)
theorem zf_ineg (hC : HC p s m args meth c cc nL own ret g) {x : Int32} (hdg : decode cc pc = .ok (.ineg, 1)) (kk : ZF p l e R s m args below meth c g T vo nL k (pc + 1) LV (.int (-x) :: rest) o) : ZF p l e R s m args below meth c g T vo nL k pc LV (.int x :: rest) o := fun r k' h H locs ls hP hS hl => lv_ineg hC.1 hC.2.1 hdg (kk r k' h H locs ls hP hS hl)
theorem zf_idiv (hC : HC p s m args meth c cc nL own ret g) {x y : Int32} (hdg : decode cc pc = .ok (.idiv, 1)) (hne : ¬ y = 0) (kk : ZF p l e R s m args below meth c g T vo nL k (pc + 1) LV (.int (x / y) :: rest) o) : ZF p l e R s m args below meth c g T vo nL k pc LV (.int y :: .int x :: rest) o := fun r k' h H locs ls hP hS hl => lv_idiv hC.1 hC.2.1 hdg hne (kk r k' h H locs ls hP hS hl)
theorem zf_irem (hC : HC p s m args meth c cc nL own ret g) {x y : Int32} (hdg : decode cc pc = .ok (.irem, 1)) (hne : ¬ y = 0) (kk : ZF p l e R s m args below meth c g T vo nL k (pc + 1) LV (.int (j_rem x y) :: rest) o) : ZF p l e R s m args below meth c g T vo nL k pc LV (.int y :: .int x :: rest) o := fun r k' h H locs ls hP hS hl => lv_irem hC.1 hC.2.1 hdg hne (kk r k' h H locs ls hP hS hl)
theorem zf_ladd (hC : HC p s m args meth c cc nL own ret g) {x y : Int64} (hdg : decode cc pc = .ok (.ladd, 1)) (kk : ZF p l e R s m args below meth c g T vo nL k (pc + 1) LV (.long (x + y) :: rest) o) : ZF p l e R s m args below meth c g T vo nL k pc LV (.long y :: .long x :: rest) o := fun r k' h H locs ls hP hS hl => lv_ladd hC.1 hC.2.1 hdg (kk r k' h H locs ls hP hS hl)
theorem zf_lsub (hC : HC p s m args meth c cc nL own ret g) {x y : Int64} (hdg : decode cc pc = .ok (.lsub, 1)) (kk : ZF p l e R s m args below meth c g T vo nL k (pc + 1) LV (.long (x - y) :: rest) o) : ZF p l e R s m args below meth c g T vo nL k pc LV (.long y :: .long x :: rest) o := fun r k' h H locs ls hP hS hl => lv_lsub hC.1 hC.2.1 hdg (kk r k' h H locs ls hP hS hl)
theorem zf_lmul (hC : HC p s m args meth c cc nL own ret g) {x y : Int64} (hdg : decode cc pc = .ok (.lmul, 1)) (kk : ZF p l e R s m args below meth c g T vo nL k (pc + 1) LV (.long (x * y) :: rest) o) : ZF p l e R s m args below meth c g T vo nL k pc LV (.long y :: .long x :: rest) o := fun r k' h H locs ls hP hS hl => lv_lmul hC.1 hC.2.1 hdg (kk r k' h H locs ls hP hS hl)
theorem zf_land (hC : HC p s m args meth c cc nL own ret g) {x y : Int64} (hdg : decode cc pc = .ok (.land, 1)) (kk : ZF p l e R s m args below meth c g T vo nL k (pc + 1) LV (.long (x &&& y) :: rest) o) : ZF p l e R s m args below meth c g T vo nL k pc LV (.long y :: .long x :: rest) o := fun r k' h H locs ls hP hS hl => lv_land hC.1 hC.2.1 hdg (kk r k' h H locs ls hP hS hl)
theorem zf_lor (hC : HC p s m args meth c cc nL own ret g) {x y : Int64} (hdg : decode cc pc = .ok (.lor, 1)) (kk : ZF p l e R s m args below meth c g T vo nL k (pc + 1) LV (.long (x ||| y) :: rest) o) : ZF p l e R s m args below meth c g T vo nL k pc LV (.long y :: .long x :: rest) o := fun r k' h H locs ls hP hS hl => lv_lor hC.1 hC.2.1 hdg (kk r k' h H locs ls hP hS hl)
theorem zf_lxor (hC : HC p s m args meth c cc nL own ret g) {x y : Int64} (hdg : decode cc pc = .ok (.lxor, 1)) (kk : ZF p l e R s m args below meth c g T vo nL k (pc + 1) LV (.long (x ^^^ y) :: rest) o) : ZF p l e R s m args below meth c g T vo nL k pc LV (.long y :: .long x :: rest) o := fun r k' h H locs ls hP hS hl => lv_lxor hC.1 hC.2.1 hdg (kk r k' h H locs ls hP hS hl)
theorem zf_lrem (hC : HC p s m args meth c cc nL own ret g) {x y : Int64} (hdg : decode cc pc = .ok (.lrem, 1)) (hne : ¬ y = 0) (kk : ZF p l e R s m args below meth c g T vo nL k (pc + 1) LV (.long (j_lrem x y) :: rest) o) : ZF p l e R s m args below meth c g T vo nL k pc LV (.long y :: .long x :: rest) o := fun r k' h H locs ls hP hS hl => lv_lrem hC.1 hC.2.1 hdg hne (kk r k' h H locs ls hP hS hl)
theorem zf_lshl (hC : HC p s m args meth c cc nL own ret g) {x : Int64} {y : Int32} (hdg : decode cc pc = .ok (.lshl, 1)) (kk : ZF p l e R s m args below meth c g T vo nL k (pc + 1) LV (.long (j_lshl x y) :: rest) o) : ZF p l e R s m args below meth c g T vo nL k pc LV (.int y :: .long x :: rest) o := fun r k' h H locs ls hP hS hl => lv_lshl hC.1 hC.2.1 hdg rfl (kk r k' h H locs ls hP hS hl)
theorem zf_lshr (hC : HC p s m args meth c cc nL own ret g) {x : Int64} {y : Int32} (hdg : decode cc pc = .ok (.lshr, 1)) (kk : ZF p l e R s m args below meth c g T vo nL k (pc + 1) LV (.long (j_lshr x y) :: rest) o) : ZF p l e R s m args below meth c g T vo nL k pc LV (.int y :: .long x :: rest) o := fun r k' h H locs ls hP hS hl => lv_lshr hC.1 hC.2.1 hdg rfl (kk r k' h H locs ls hP hS hl)
theorem zf_lushr (hC : HC p s m args meth c cc nL own ret g) {x : Int64} {y : Int32} (hdg : decode cc pc = .ok (.lushr, 1)) (kk : ZF p l e R s m args below meth c g T vo nL k (pc + 1) LV (.long (j_lushr x y) :: rest) o) : ZF p l e R s m args below meth c g T vo nL k pc LV (.int y :: .long x :: rest) o := fun r k' h H locs ls hP hS hl => lv_lushr hC.1 hC.2.1 hdg rfl (kk r k' h H locs ls hP hS hl)
theorem zf_i2l (hC : HC p s m args meth c cc nL own ret g) {x : Int32} (hdg : decode cc pc = .ok (.i2l, 1)) (kk : ZF p l e R s m args below meth c g T vo nL k (pc + 1) LV (.long x.toInt64 :: rest) o) : ZF p l e R s m args below meth c g T vo nL k pc LV (.int x :: rest) o := fun r k' h H locs ls hP hS hl => lv_i2l hC.1 hC.2.1 hdg rfl (kk r k' h H locs ls hP hS hl)
theorem zf_l2i (hC : HC p s m args meth c cc nL own ret g) {x : Int64} (hdg : decode cc pc = .ok (.l2i, 1)) (kk : ZF p l e R s m args below meth c g T vo nL k (pc + 1) LV (.int x.toInt32 :: rest) o) : ZF p l e R s m args below meth c g T vo nL k pc LV (.long x :: rest) o := fun r k' h H locs ls hP hS hl => lv_l2i hC.1 hC.2.1 hdg rfl (kk r k' h H locs ls hP hS hl)
theorem zf_i2b (hC : HC p s m args meth c cc nL own ret g) {x : Int32} (hdg : decode cc pc = .ok (.i2b, 1)) (kk : ZF p l e R s m args below meth c g T vo nL k (pc + 1) LV (.int x.toInt8.toInt32 :: rest) o) : ZF p l e R s m args below meth c g T vo nL k pc LV (.int x :: rest) o := fun r k' h H locs ls hP hS hl => lv_i2b hC.1 hC.2.1 hdg rfl (kk r k' h H locs ls hP hS hl)
theorem zf_lcmp (hC : HC p s m args meth c cc nL own ret g) {x y : Int64} (hdg : decode cc pc = .ok (.lcmp, 1)) (kk : ZF p l e R s m args below meth c g T vo nL k (pc + 1) LV (.int (lg_cmp x y) :: rest) o) : ZF p l e R s m args below meth c g T vo nL k pc LV (.long y :: .long x :: rest) o := fun r k' h H locs ls hP hS hl => W.lcmp hC.1 hC.2.1 hdg (kk r k' h H locs ls hP hS hl)
theorem zf_dup (hC : HC p s m args meth c cc nL own ret g) {v : Value} (hdg : decode cc pc = .ok (.dup, 1)) (hv : v.category = 1) (kk : ZF p l e R s m args below meth c g T vo nL k (pc + 1) LV (v :: v :: rest) o) : ZF p l e R s m args below meth c g T vo nL k pc LV (v :: rest) o := fun r k' h H locs ls hP hS hl => lv_dup hC.1 hC.2.1 hdg hv (kk r k' h H locs ls hP hS hl)
theorem zf_pop (hC : HC p s m args meth c cc nL own ret g) {v : Value} (hdg : decode cc pc = .ok (.pop, 1)) (hv : v.category = 1) (kk : ZF p l e R s m args below meth c g T vo nL k (pc + 1) LV rest o) : ZF p l e R s m args below meth c g T vo nL k pc LV (v :: rest) o := fun r k' h H locs ls hP hS hl => lv_pop hC.1 hC.2.1 hdg hv (kk r k' h H locs ls hP hS hl)
theorem zf_dup2 (hC : HC p s m args meth c cc nL own ret g) {v1 v2 : Value} (hdg : decode cc pc = .ok (.dup2, 1)) (h1 : v1.category = 1) (h2 : v2.category = 1) (kk : ZF p l e R s m args below meth c g T vo nL k (pc + 1) LV (v1 :: v2 :: v1 :: v2 :: rest) o) : ZF p l e R s m args below meth c g T vo nL k pc LV (v1 :: v2 :: rest) o := fun r k' h H locs ls hP hS hl => lv_dup2_11 hC.1 hC.2.1 hdg h1 h2 (kk r k' h H locs ls hP hS hl)
theorem zf_icmp_eq (hC : HC p s m args meth c cc nL own ret g) {x y : Int32} {off : Int} {tgt : Nat} {o1 o2 : Option (ρ × ST)} (hdg : decode cc pc = .ok (.if_icmp .eq off, 3)) (ht : (pc : Int) + off = (tgt : Int)) (kt : x = y → ZF p l e R s m args below meth c g T vo nL k tgt LV rest o1) (kf : ¬ x = y → ZF p l e R s m args below meth c g T vo nL k (pc + 3) LV rest o2) : ZF p l e R s m args below meth c g T vo nL k pc LV (.int y :: .int x :: rest) (if x = y then o1 else o2) := zf_ite (fun q r k' h H locs ls hP hS hl => lv_icmp_eq hC.1 hC.2.1 hdg ht (fun z => kt z r k' h H locs ls hP hS hl) (fun z => absurd q z)) (fun q r k' h H locs ls hP hS hl => lv_icmp_eq hC.1 hC.2.1 hdg ht (fun z => absurd z q) (fun z => kf z r k' h H locs ls hP hS hl))
theorem zf_if_eq (hC : HC p s m args meth c cc nL own ret g) {x : Int32} {off : Int} {tgt : Nat} {o1 o2 : Option (ρ × ST)} (hdg : decode cc pc = .ok (.ifCond .eq off, 3)) (ht : (pc : Int) + off = (tgt : Int)) (kt : x = 0 → ZF p l e R s m args below meth c g T vo nL k tgt LV rest o1) (kf : ¬ x = 0 → ZF p l e R s m args below meth c g T vo nL k (pc + 3) LV rest o2) : ZF p l e R s m args below meth c g T vo nL k pc LV (.int x :: rest) (if x = 0 then o1 else o2) := zf_ite (fun q r k' h H locs ls hP hS hl => lv_if_eq hC.1 hC.2.1 hdg ht (fun z => kt z r k' h H locs ls hP hS hl) (fun z => absurd q z)) (fun q r k' h H locs ls hP hS hl => lv_if_eq hC.1 hC.2.1 hdg ht (fun z => absurd z q) (fun z => kf z r k' h H locs ls hP hS hl))
theorem zf_icmp_ne (hC : HC p s m args meth c cc nL own ret g) {x y : Int32} {off : Int} {tgt : Nat} {o1 o2 : Option (ρ × ST)} (hdg : decode cc pc = .ok (.if_icmp .ne off, 3)) (ht : (pc : Int) + off = (tgt : Int)) (kf : x = y → ZF p l e R s m args below meth c g T vo nL k (pc + 3) LV rest o1) (kt : ¬ x = y → ZF p l e R s m args below meth c g T vo nL k tgt LV rest o2) : ZF p l e R s m args below meth c g T vo nL k pc LV (.int y :: .int x :: rest) (if x = y then o1 else o2) := zf_ite (fun q r k' h H locs ls hP hS hl => lv_icmp_ne hC.1 hC.2.1 hdg ht (fun z => absurd q z) (fun z => kf z r k' h H locs ls hP hS hl)) (fun q r k' h H locs ls hP hS hl => lv_icmp_ne hC.1 hC.2.1 hdg ht (fun z => kt z r k' h H locs ls hP hS hl) (fun z => absurd z q))
theorem zf_if_ne (hC : HC p s m args meth c cc nL own ret g) {x : Int32} {off : Int} {tgt : Nat} {o1 o2 : Option (ρ × ST)} (hdg : decode cc pc = .ok (.ifCond .ne off, 3)) (ht : (pc : Int) + off = (tgt : Int)) (kf : x = 0 → ZF p l e R s m args below meth c g T vo nL k (pc + 3) LV rest o1) (kt : ¬ x = 0 → ZF p l e R s m args below meth c g T vo nL k tgt LV rest o2) : ZF p l e R s m args below meth c g T vo nL k pc LV (.int x :: rest) (if x = 0 then o1 else o2) := zf_ite (fun q r k' h H locs ls hP hS hl => lv_if_ne hC.1 hC.2.1 hdg ht (fun z => absurd q z) (fun z => kf z r k' h H locs ls hP hS hl)) (fun q r k' h H locs ls hP hS hl => lv_if_ne hC.1 hC.2.1 hdg ht (fun z => kt z r k' h H locs ls hP hS hl) (fun z => absurd z q))
theorem zf_icmp_lt (hC : HC p s m args meth c cc nL own ret g) {x y : Int32} {off : Int} {tgt : Nat} {o1 o2 : Option (ρ × ST)} (hdg : decode cc pc = .ok (.if_icmp .lt off, 3)) (ht : (pc : Int) + off = (tgt : Int)) (kt : x < y → ZF p l e R s m args below meth c g T vo nL k tgt LV rest o1) (kf : ¬ x < y → ZF p l e R s m args below meth c g T vo nL k (pc + 3) LV rest o2) : ZF p l e R s m args below meth c g T vo nL k pc LV (.int y :: .int x :: rest) (if x < y then o1 else o2) := zf_ite (fun q r k' h H locs ls hP hS hl => lv_icmp_lt hC.1 hC.2.1 hdg ht (fun z => kt z r k' h H locs ls hP hS hl) (fun z => absurd q z)) (fun q r k' h H locs ls hP hS hl => lv_icmp_lt hC.1 hC.2.1 hdg ht (fun z => absurd z q) (fun z => kf z r k' h H locs ls hP hS hl))
theorem zf_if_lt (hC : HC p s m args meth c cc nL own ret g) {x : Int32} {off : Int} {tgt : Nat} {o1 o2 : Option (ρ × ST)} (hdg : decode cc pc = .ok (.ifCond .lt off, 3)) (ht : (pc : Int) + off = (tgt : Int)) (kt : x < 0 → ZF p l e R s m args below meth c g T vo nL k tgt LV rest o1) (kf : ¬ x < 0 → ZF p l e R s m args below meth c g T vo nL k (pc + 3) LV rest o2) : ZF p l e R s m args below meth c g T vo nL k pc LV (.int x :: rest) (if x < 0 then o1 else o2) := zf_ite (fun q r k' h H locs ls hP hS hl => lv_if_lt hC.1 hC.2.1 hdg ht (fun z => kt z r k' h H locs ls hP hS hl) (fun z => absurd q z)) (fun q r k' h H locs ls hP hS hl => lv_if_lt hC.1 hC.2.1 hdg ht (fun z => absurd z q) (fun z => kf z r k' h H locs ls hP hS hl))
theorem zf_icmp_ge (hC : HC p s m args meth c cc nL own ret g) {x y : Int32} {off : Int} {tgt : Nat} {o1 o2 : Option (ρ × ST)} (hdg : decode cc pc = .ok (.if_icmp .ge off, 3)) (ht : (pc : Int) + off = (tgt : Int)) (kt : y ≤ x → ZF p l e R s m args below meth c g T vo nL k tgt LV rest o1) (kf : ¬ y ≤ x → ZF p l e R s m args below meth c g T vo nL k (pc + 3) LV rest o2) : ZF p l e R s m args below meth c g T vo nL k pc LV (.int y :: .int x :: rest) (if y ≤ x then o1 else o2) := zf_ite (fun q r k' h H locs ls hP hS hl => lv_icmp_ge hC.1 hC.2.1 hdg ht (fun z => kt z r k' h H locs ls hP hS hl) (fun z => absurd q z)) (fun q r k' h H locs ls hP hS hl => lv_icmp_ge hC.1 hC.2.1 hdg ht (fun z => absurd z q) (fun z => kf z r k' h H locs ls hP hS hl))
theorem zf_if_ge (hC : HC p s m args meth c cc nL own ret g) {x : Int32} {off : Int} {tgt : Nat} {o1 o2 : Option (ρ × ST)} (hdg : decode cc pc = .ok (.ifCond .ge off, 3)) (ht : (pc : Int) + off = (tgt : Int)) (kt : 0 ≤ x → ZF p l e R s m args below meth c g T vo nL k tgt LV rest o1) (kf : ¬ 0 ≤ x → ZF p l e R s m args below meth c g T vo nL k (pc + 3) LV rest o2) : ZF p l e R s m args below meth c g T vo nL k pc LV (.int x :: rest) (if 0 ≤ x then o1 else o2) := zf_ite (fun q r k' h H locs ls hP hS hl => lv_if_ge hC.1 hC.2.1 hdg ht (fun z => kt z r k' h H locs ls hP hS hl) (fun z => absurd q z)) (fun q r k' h H locs ls hP hS hl => lv_if_ge hC.1 hC.2.1 hdg ht (fun z => absurd z q) (fun z => kf z r k' h H locs ls hP hS hl))
theorem zf_icmp_gt (hC : HC p s m args meth c cc nL own ret g) {x y : Int32} {off : Int} {tgt : Nat} {o1 o2 : Option (ρ × ST)} (hdg : decode cc pc = .ok (.if_icmp .gt off, 3)) (ht : (pc : Int) + off = (tgt : Int)) (kt : y < x → ZF p l e R s m args below meth c g T vo nL k tgt LV rest o1) (kf : ¬ y < x → ZF p l e R s m args below meth c g T vo nL k (pc + 3) LV rest o2) : ZF p l e R s m args below meth c g T vo nL k pc LV (.int y :: .int x :: rest) (if y < x then o1 else o2) := zf_ite (fun q r k' h H locs ls hP hS hl => lv_icmp_gt hC.1 hC.2.1 hdg ht (fun z => kt z r k' h H locs ls hP hS hl) (fun z => absurd q z)) (fun q r k' h H locs ls hP hS hl => lv_icmp_gt hC.1 hC.2.1 hdg ht (fun z => absurd z q) (fun z => kf z r k' h H locs ls hP hS hl))
theorem zf_if_gt (hC : HC p s m args meth c cc nL own ret g) {x : Int32} {off : Int} {tgt : Nat} {o1 o2 : Option (ρ × ST)} (hdg : decode cc pc = .ok (.ifCond .gt off, 3)) (ht : (pc : Int) + off = (tgt : Int)) (kt : 0 < x → ZF p l e R s m args below meth c g T vo nL k tgt LV rest o1) (kf : ¬ 0 < x → ZF p l e R s m args below meth c g T vo nL k (pc + 3) LV rest o2) : ZF p l e R s m args below meth c g T vo nL k pc LV (.int x :: rest) (if 0 < x then o1 else o2) := zf_ite (fun q r k' h H locs ls hP hS hl => lv_if_gt hC.1 hC.2.1 hdg ht (fun z => kt z r k' h H locs ls hP hS hl) (fun z => absurd q z)) (fun q r k' h H locs ls hP hS hl => lv_if_gt hC.1 hC.2.1 hdg ht (fun z => absurd z q) (fun z => kf z r k' h H locs ls hP hS hl))
theorem zf_icmp_le (hC : HC p s m args meth c cc nL own ret g) {x y : Int32} {off : Int} {tgt : Nat} {o1 o2 : Option (ρ × ST)} (hdg : decode cc pc = .ok (.if_icmp .le off, 3)) (ht : (pc : Int) + off = (tgt : Int)) (kt : x ≤ y → ZF p l e R s m args below meth c g T vo nL k tgt LV rest o1) (kf : ¬ x ≤ y → ZF p l e R s m args below meth c g T vo nL k (pc + 3) LV rest o2) : ZF p l e R s m args below meth c g T vo nL k pc LV (.int y :: .int x :: rest) (if x ≤ y then o1 else o2) := zf_ite (fun q r k' h H locs ls hP hS hl => lv_icmp_le hC.1 hC.2.1 hdg ht (fun z => kt z r k' h H locs ls hP hS hl) (fun z => absurd q z)) (fun q r k' h H locs ls hP hS hl => lv_icmp_le hC.1 hC.2.1 hdg ht (fun z => absurd z q) (fun z => kf z r k' h H locs ls hP hS hl))
theorem zf_if_le (hC : HC p s m args meth c cc nL own ret g) {x : Int32} {off : Int} {tgt : Nat} {o1 o2 : Option (ρ × ST)} (hdg : decode cc pc = .ok (.ifCond .le off, 3)) (ht : (pc : Int) + off = (tgt : Int)) (kt : x ≤ 0 → ZF p l e R s m args below meth c g T vo nL k tgt LV rest o1) (kf : ¬ x ≤ 0 → ZF p l e R s m args below meth c g T vo nL k (pc + 3) LV rest o2) : ZF p l e R s m args below meth c g T vo nL k pc LV (.int x :: rest) (if x ≤ 0 then o1 else o2) := zf_ite (fun q r k' h H locs ls hP hS hl => lv_if_le hC.1 hC.2.1 hdg ht (fun z => kt z r k' h H locs ls hP hS hl) (fun z => absurd q z)) (fun q r k' h H locs ls hP hS hl => lv_if_le hC.1 hC.2.1 hdg ht (fun z => absurd z q) (fun z => kf z r k' h H locs ls hP hS hl))
theorem b2i_0 {b : Bool} : b2i b = 0 ↔ ¬ b = true := by cases b <;> decide
theorem zf_ifb_eq (hC : HC p s m args meth c cc nL own ret g) {b : Bool} {off : Int} {tgt : Nat} {o1 o2 : Option (ρ × ST)} (hdg : decode cc pc = .ok (.ifCond .eq off, 3)) (ht : (pc : Int) + off = (tgt : Int)) (kf : b = true → ZF p l e R s m args below meth c g T vo nL k (pc + 3) LV rest o1) (kt : ¬ b = true → ZF p l e R s m args below meth c g T vo nL k tgt LV rest o2) : ZF p l e R s m args below meth c g T vo nL k pc LV (.int (b2i b) :: rest) (if b = true then o1 else o2) := zf_ite (fun q r k' h H locs ls hP hS hl => lv_if_eq hC.1 hC.2.1 hdg ht (fun z => absurd q (b2i_0.mp z)) (fun _ => kf q r k' h H locs ls hP hS hl)) (fun q r k' h H locs ls hP hS hl => lv_if_eq hC.1 hC.2.1 hdg ht (fun _ => kt q r k' h H locs ls hP hS hl) (fun z => absurd (b2i_0.mpr q) z))
theorem zf_ifb_ne (hC : HC p s m args meth c cc nL own ret g) {b : Bool} {off : Int} {tgt : Nat} {o1 o2 : Option (ρ × ST)} (hdg : decode cc pc = .ok (.ifCond .ne off, 3)) (ht : (pc : Int) + off = (tgt : Int)) (kt : b = true → ZF p l e R s m args below meth c g T vo nL k tgt LV rest o1) (kf : ¬ b = true → ZF p l e R s m args below meth c g T vo nL k (pc + 3) LV rest o2) : ZF p l e R s m args below meth c g T vo nL k pc LV (.int (b2i b) :: rest) (if b = true then o1 else o2) := zf_ite (fun q r k' h H locs ls hP hS hl => lv_if_ne hC.1 hC.2.1 hdg ht (fun _ => kt q r k' h H locs ls hP hS hl) (fun z => absurd q (b2i_0.mp z))) (fun q r k' h H locs ls hP hS hl => lv_if_ne hC.1 hC.2.1 hdg ht (fun z => absurd (b2i_0.mpr q) z) (fun _ => kf q r k' h H locs ls hP hS hl))
theorem zf_goto (hC : HC p s m args meth c cc nL own ret g) {off : Int} {tgt : Nat} {st : List Value} (hdg : decode cc pc = .ok (.goto off, 3)) (ht : (pc : Int) + off = (tgt : Int)) (kk : ZF p l e R s m args below meth c g T vo nL k tgt LV st o) : ZF p l e R s m args below meth c g T vo nL k pc LV st o := fun r k' h H locs ls hP hS hl => lv_goto hC.1 hC.2.1 hdg ht (kk r k' h H locs ls hP hS hl)
theorem zf_tabIn (hC : HC p s m args meth c cc nL own ret g) {dflt lo hi : Int} {offs : Array Int} {len : Nat} {x : Int32} {off : Int} {tgt : Nat} (hdg : decode cc pc = .ok (.tableswitch dflt lo hi offs, len)) (h1 : ¬ x.toInt < lo) (h2 : ¬ hi < x.toInt) (ho : offs[(x.toInt - lo).toNat]? = some off) (ht : (pc : Int) + off = (tgt : Int)) (kk : ZF p l e R s m args below meth c g T vo nL k tgt LV rest o) : ZF p l e R s m args below meth c g T vo nL k pc LV (.int x :: rest) o := fun r k' h H locs ls hP hS hl => lv_tableIn hC.1 hC.2.1 hdg h1 h2 ho ht (kk r k' h H locs ls hP hS hl)
theorem zf_tabOut (hC : HC p s m args meth c cc nL own ret g) {dflt lo hi : Int} {offs : Array Int} {len : Nat} {x : Int32} {tgt : Nat} (hdg : decode cc pc = .ok (.tableswitch dflt lo hi offs, len)) (hx : x.toInt < lo ∨ hi < x.toInt) (ht : (pc : Int) + dflt = (tgt : Int)) (kk : ZF p l e R s m args below meth c g T vo nL k tgt LV rest o) : ZF p l e R s m args below meth c g T vo nL k pc LV (.int x :: rest) o := fun r k' h H locs ls hP hS hl => lv_tableOut hC.1 hC.2.1 hdg hx ht (kk r k' h H locs ls hP hS hl)
theorem zf_look (hC : HC p s m args meth c cc nL own ret g) {dflt : Int} {ps : Array (Int × Int)} {len : Nat} {x : Int32} {off : Int} {tgt : Nat} (hdg : decode cc pc = .ok (.lookupswitch dflt ps, len)) (hp : (ps.toList.zip (ps.toList.drop 1)).all (fun (a, next) => a.1 < next.1) = true) (ho : Op.lookupswitch.offset ps.toList dflt x.toInt = off) (ht : (pc : Int) + off = (tgt : Int)) (kk : ZF p l e R s m args below meth c g T vo nL k tgt LV rest o) : ZF p l e R s m args below meth c g T vo nL k pc LV (.int x :: rest) o := fun r k' h H locs ls hP hS hl => lv_lookup hC.1 hC.2.1 hdg hp ho ht (kk r k' h H locs ls hP hS hl)
theorem zf_iret (hC : HC p s m args meth c cc nL own ret g) (hr : ret = some .int) {v : Int32} (hdg : decode cc pc = .ok (.ireturn, 1)) : ZF p l e R s m args below meth c g T voI nL k pc LV [.int v] (some (v, k)) := fun r k' h H locs ls hP hS hl => by
  cases h
  exact W.iret hC.1 hC.2.1 (hC.2.2.2.2.2.2.1.trans hr) (fun t ht _ => ⟨rfl, by rw [ht]; exact hP, hS.F ht⟩) hS.2.2 hdg hC.2.2.2.2.2.1
theorem zf_lret (hC : HC p s m args meth c cc nL own ret g) (hr : ret = some .long) {v : Int64} (hdg : decode cc pc = .ok (.lreturn, 1)) : ZF p l e R s m args below meth c g T voL nL k pc LV [.long v] (some (v, k)) := fun r k' h H locs ls hP hS hl => by
  cases h
  exact W.lret hC.1 hC.2.1 (hC.2.2.2.2.2.2.1.trans hr) (fun t ht _ => ⟨rfl, by rw [ht]; exact hP, hS.F ht⟩) hS.2.2 hdg hC.2.2.2.2.2.1
theorem zf_zret (hC : HC p s m args meth c cc nL own ret g) (hr : ret = some .boolean) {v : Int32} (b : Bool) (hv : v = b2i b) (hdg : decode cc pc = .ok (.ireturn, 1)) : ZF p l e R s m args below meth c g T voB nL k pc LV [.int v] (some (b, k)) := fun r k' h H locs ls hP hS hl => by
  cases h
  subst hv
  exact W.zret hC.1 hC.2.1 (hC.2.2.2.2.2.2.1.trans hr) (by cases b <;> rfl) (fun t ht _ => ⟨rfl, by rw [ht]; exact hP, hS.F ht⟩) hS.2.2 hdg hC.2.2.2.2.2.1
theorem zf_zretI (hC : HC p s m args meth c cc nL own ret g) (hr : ret = some .boolean) {v : Int32} (hdg : decode cc pc = .ok (.ireturn, 1)) : ZF p l e R s m args below meth c g T voB nL k pc LV [.int v] (if v = 0 then some (false, k) else if v = 1 then some (true, k) else none) := zf_ite (fun q => zf_zret hC hr false (by rw [q]; rfl) hdg) (fun _ => zf_ite (fun q => zf_zret hC hr true (by rw [q]; rfl) hdg) (fun _ => zf_none))
theorem zf_vret (hC : HC p s m args meth c cc nL own ret g) (hr : ret = none) (hdg : decode cc pc = .ok (.return_, 1)) : ZF p l e R s m args below meth c g T voV nL k pc LV [] (some ((), k)) := fun r k' h H locs ls hP hS hl => by
  cases h
  exact W.vret hC.1 hC.2.1 (hC.2.2.2.2.2.2.1.trans hr) (fun t ht _ => ⟨rfl, by rw [ht]; exact hP, hS.F ht⟩) hS.2.2 hdg hC.2.2.2.2.2.1
def CI (ci : Nat) (C : String) (Tt : u_T) (N : Nat) : Prop := vwCl[ci]? = some (C, Tt, N) ∧ (∀ w ∈ u_ws C Tt N, w ∈ BG) ∧ nfF ci = N ∧ (∀ f, f < N → (Tt f).1 = C)
def CJ (ci : Nat) (C : String) (Tt : u_T) (N : Nat) (ty0 : Nat → FieldType) : Prop := CI ci C Tt N ∧ (∀ k, k < N → parseFieldDescriptor (Tt k).2.2.1 = some (ty0 k)) ∧ (∀ a, a < N → ∀ b, b < N → a ≠ b → (Tt a).2.1 ≠ (Tt b).2.1)
theorem zf_get (hC : HC p s m args meth c cc nL own ret g) {ci f index N : Nat} {C : String} {Tt : u_T} (hI : CI ci C Tt N) (hT : inC T ci) (hf : f < N) (hw : Cond.fieldLink own index C (Tt f).2.1 (Tt f).2.2.1 ∈ BG) {v : Value} (hv : fval g.2.1 k ci f = v) (hdg : decode cc pc = .ok (.getfield index, 3)) (kk : ZF p l e R s m args below meth c g T vo nL k (pc + 3) LV (v :: rest) o) : ZF p l e R s m args below meth c g T vo nL k pc LV (.ref (g.2.1 ci) :: rest) o := by
  intro r k' h H locs ls hP hS hl
  obtain ⟨h1, h2, h3, h4⟩ := hI
  obtain ⟨cell, q1, q2, q3, q4⟩ := hP.1 ci hT
  obtain ⟨hK, -⟩ := hC.2.2.2.2.2.2.2
  obtain ⟨hSl, hfc, kC, hkC, hkind⟩ := hK.1 ci _ h1
  obtain ⟨cf, kf, fi, fd, hi, hsl⟩ := hSl f hf
  have hst := (u_facts hfc hkC (u_lays hC.2.2.2.2.1 h2 hf) hi).1
  have hi2 := hi
  simp only [h4 f hf] at hi2
  refine W.getf hC.1 hC.2.1 hC.2.2.2.1 (hC.2.2.2.2.1 _ hw) hi2 hst q1 (by rw [q3]; exact fun h => by cases h) (v := v) ?_ rfl rfl hdg (kk r k' h H locs ls hP hS hl)
  rw [hsl, q4 f (by rw [h3]; exact hf), hv]
theorem zf_getN (hC : HC p s m args meth c cc nL own ret g) {ci f index N : Nat} {C host : String} {Tt : u_T} (hI : CI ci C Tt N) (hT : inC T ci) (hf : f < N) (hw : Cond.fieldLinkNest own index C (Tt f).2.1 (Tt f).2.2.1 host ∈ tables_1) {v : Value} (hv : fval g.2.1 k ci f = v) (hdg : decode cc pc = .ok (.getfield index, 3)) (kk : ZF p l e R s m args below meth c g T vo nL k (pc + 3) LV (v :: rest) o) : ZF p l e R s m args below meth c g T vo nL k pc LV (.ref (g.2.1 ci) :: rest) o := by
  intro r k' h H locs ls hP hS hl
  obtain ⟨h1, h2, h3, h4⟩ := hI
  obtain ⟨cell, q1, q2, q3, q4⟩ := hP.1 ci hT
  obtain ⟨hK, -, hN, -⟩ := hC.2.2.2.2.2.2.2
  obtain ⟨hSl, hfc, kC, hkC, hkind⟩ := hK.1 ci _ h1
  obtain ⟨cf, kf, fi, fd, hi, hsl⟩ := hSl f hf
  have hst := (u_facts hfc hkC (u_lays hC.2.2.2.2.1 h2 hf) hi).1
  have hi2 := hi
  simp only [h4 f hf] at hi2
  refine va_Wgetf hC.1 hC.2.1 hC.2.2.2.1 (va_Nw.use rfl (hN _ hw rfl)) hi2 hst q1 (by rw [q3]; exact fun h => by cases h) (v := v) ?_ rfl rfl hdg (kk r k' h H locs ls hP hS hl)
  rw [hsl, q4 f (by rw [h3]; exact hf), hv]
theorem fval_sI (ad : Nat → Nat) (σ : ST) (c f : Nat) (x : Int32) (a b : Nat) : fval ad (sI σ c f x) a b = if a = c ∧ b = f then (if rfF c f = 0 then .int x else if rfF c f = 1 then .ref (ad (ix x)) else .ref (ad (rfF c f - 2))) else fval ad σ a b := by
  unfold fval
  rw [gI_sI]
  by_cases h1 : a = c
  · by_cases h2 : b = f
    · simp only [h1, h2, and_self, if_true]
    · simp only [h2, and_false, if_false, ite_self]
  · simp only [h1, false_and, if_false]
theorem pic_sI {g : GT} {T : TT} {k : ST} {H H1 : Heap} {ci f : Nat} {x : Int32} (hP : pic g T k H) (hinj : ∀ a b, a < 166 → b < 166 → g.2.1 a = g.2.1 b → a = b) (hT : inC T ci) (oq : ∀ q : Nat, q ≠ g.2.1 ci → H1[q]? = H[q]?) (hob : t_OB (g.2.1 ci) (g.1.1 ci) (nfF ci) (g.1.2 ci) H1 (fval g.2.1 (sI k ci f x) ci)) : pic g T (sI k ci f x) H1 := by
  refine ⟨fun c hc => ?_, fun j hj => ?_⟩
  · by_cases h : c = ci
    · subst h; exact hob
    · refine t_OB.to ((hP.1 c hc).kept (oq _ (fun z => h (hinj _ _ (inT_lt (Or.inl hc)) (inT_lt (Or.inl hT)) z)))) (fun b _ => ?_)
      rw [fval_sI, if_neg (fun z => h z.1)]
  · rw [oq _ (fun z => by have := hinj _ _ (inT_lt (Or.inr ⟨j, hj, rfl⟩)) (inT_lt (Or.inl hT)) z; have := hT.2.1; have := hT.2.2; omega)]
    exact hP.2 j hj
theorem zf_put (hC : HC p s m args meth c cc nL own ret g) {ci f index N : Nat} {C : String} {Tt : u_T} {ty0 : Nat → FieldType} (hJ : CJ ci C Tt N ty0) (hT : inC T ci) (hf : f < N) (hw : Cond.fieldLink own index C (Tt f).2.1 (Tt f).2.2.1 ∈ BG) (hfin : (Tt f).2.2.2 = false) {ty : FieldType} {v : Value} {x : Int32} (hd : parseFieldDescriptor (Tt f).2.2.1 = some ty) (hn : narrow ty v = v) (hfit : fits ty v = true) (hv : (if rfF ci f = 0 then .int x else if rfF ci f = 1 then .ref (g.2.1 (ix x)) else .ref (g.2.1 (rfF ci f - 2))) = v) (hdg : decode cc pc = .ok (.putfield index, 3)) (kk : ZF p l e R s m args below meth c g T vo nL (sI k ci f x) (pc + 3) LV rest o) : ZF p l e R s m args below meth c g T vo nL k pc LV (v :: .ref (g.2.1 ci) :: rest) o := by
  intro r k' h H locs ls hP hS hl
  obtain ⟨⟨h1, h2, h3, h4⟩, hty, hnm⟩ := hJ
  obtain ⟨cell, q1, q2, q3, q4⟩ := hP.1 ci hT
  obtain ⟨hK, -, -, hinj⟩ := hC.2.2.2.2.2.2.2
  have hap := va_apart (own := own) hC.2.2.2.2.1 h2 ty0 hty hnm hK h1
  obtain ⟨hSl, hfc, kC, hkC, hkind⟩ := hK.1 ci _ h1
  obtain ⟨cf, kf, fi, fd, hi, hsl⟩ := hSl f hf
  have hst := (u_facts hfc hkC (u_lays hC.2.2.2.2.1 h2 hf) hi).1
  have hlay := hC.2.2.2.2.1 _ (h2 _ (u_in_lay hf))
  unfold u_lay at hlay
  rw [if_neg (by rw [hfin]; decide)] at hlay
  have h6 := u_store hfc hkC hkind hlay hi hd hn hfit
  have hi2 := hi
  simp only [h4 f hf] at hi2
  rw [h3] at q4
  refine W.putK hC.1 hC.2.1 (f := fd) ⟨hC.2.2.2.1, hC.2.2.2.2.1 _ hw, ⟨_, _, _, hi2⟩, hst⟩ (by rw [q2]; exact h6) q1 q3 (by rw [hsl]; exact k2_hasslot (q4 f hf)) rfl rfl hdg fun H' e1 e2 e3 => ?_
  rw [hsl] at e1 ⊢
  refine kk r k' h H' _ ls (pic_sI hP hinj hT e3 ?_) (hS.put e2 e3 ⟨ci, Or.inl hT, rfl⟩) hl
  rw [h3]
  refine t_OB.to (V := updV (fval g.2.1 k ci) f v) ⟨_, e1, q2, q3, t_set q4 hap hf v⟩ (fun j _ => ?_)
  rw [fval_sI]
  by_cases hj : j = f
  · rw [if_pos ⟨rfl, hj⟩, hv]
    simp [updV, hj]
  · rw [if_neg (fun z => hj z.2)]
    simp [updV, hj]
theorem zf_putN (hC : HC p s m args meth c cc nL own ret g) {ci f index N : Nat} {C host : String} {Tt : u_T} {ty0 : Nat → FieldType} (hJ : CJ ci C Tt N ty0) (hT : inC T ci) (hf : f < N) (hw : Cond.fieldLinkNest own index C (Tt f).2.1 (Tt f).2.2.1 host ∈ tables_1) (hfin : (Tt f).2.2.2 = false) {ty : FieldType} {v : Value} {x : Int32} (hd : parseFieldDescriptor (Tt f).2.2.1 = some ty) (hn : narrow ty v = v) (hfit : fits ty v = true) (hv : (if rfF ci f = 0 then .int x else if rfF ci f = 1 then .ref (g.2.1 (ix x)) else .ref (g.2.1 (rfF ci f - 2))) = v) (hdg : decode cc pc = .ok (.putfield index, 3)) (kk : ZF p l e R s m args below meth c g T vo nL (sI k ci f x) (pc + 3) LV rest o) : ZF p l e R s m args below meth c g T vo nL k pc LV (v :: .ref (g.2.1 ci) :: rest) o := by
  intro r k' h H locs ls hP hS hl
  obtain ⟨⟨h1, h2, h3, h4⟩, hty, hnm⟩ := hJ
  obtain ⟨cell, q1, q2, q3, q4⟩ := hP.1 ci hT
  obtain ⟨hK, -, hN, hinj⟩ := hC.2.2.2.2.2.2.2
  have hap := va_apart (own := own) hC.2.2.2.2.1 h2 ty0 hty hnm hK h1
  obtain ⟨hSl, hfc, kC, hkC, hkind⟩ := hK.1 ci _ h1
  obtain ⟨cf, kf, fi, fd, hi, hsl⟩ := hSl f hf
  have hst := (u_facts hfc hkC (u_lays hC.2.2.2.2.1 h2 hf) hi).1
  have hlay := hC.2.2.2.2.1 _ (h2 _ (u_in_lay hf))
  unfold u_lay at hlay
  rw [if_neg (by rw [hfin]; decide)] at hlay
  have h6 := u_store hfc hkC hkind hlay hi hd hn hfit
  have hi2 := hi
  simp only [h4 f hf] at hi2
  rw [h3] at q4
  refine va_WputK hC.1 hC.2.1 (f := fd) hC.2.2.2.1 (va_Nw.use rfl (hN _ hw rfl)) hi2 hst (by rw [q2]; exact h6) q1 q3 (by rw [hsl]; exact k2_hasslot (q4 f hf)) rfl rfl hdg fun H' e1 e2 e3 => ?_
  rw [hsl] at e1 ⊢
  refine kk r k' h H' _ ls (pic_sI hP hinj hT e3 ?_) (hS.put e2 e3 ⟨ci, Or.inl hT, rfl⟩) hl
  rw [h3]
  refine t_OB.to (V := updV (fval g.2.1 k ci) f v) ⟨_, e1, q2, q3, t_set q4 hap hf v⟩ (fun j _ => ?_)
  rw [fval_sI]
  by_cases hj : j = f
  · rw [if_pos ⟨rfl, hj⟩, hv]
    simp [updV, hj]
  · rw [if_neg (fun z => hj z.2)]
    simp [updV, hj]
theorem cell_i (cA : ClassId) (ad : Nat → Nat) (k : ST) {j : Nat} (h : kdA j < 3) : vp_cell cA (cont ad k j) = arrV cA (lenA j) (fun q => .int (gA k j q)) := by
  have h3 : ¬ kdA j = 3 := by omega
  have h4 : ¬ kdA j = 4 := by omega
  unfold cont
  rw [if_neg h3, if_neg h4]
  rfl
theorem cell_l (cA : ClassId) (ad : Nat → Nat) (k : ST) {j : Nat} (h : kdA j = 3) : vp_cell cA (cont ad k j) = arrV cA (lenA j) (fun q => .long (gL k j q)) := by
  unfold cont
  rw [if_pos h]
  rfl
theorem cell_r (cA : ClassId) (ad : Nat → Nat) (k : ST) {j : Nat} (h : kdA j = 4) : vp_cell cA (cont ad k j) = arrV cA (lenA j) (fun q => .ref (ad (71 + q))) := by
  unfold cont
  rw [if_neg (by omega), if_pos h]
  rfl
theorem inA_lt {T : TT} {j : Nat} (h : inA T j) : j < 154 := by obtain ⟨h1, h2, h3⟩ := h; omega
theorem ty_0 {j : Nat} (h : kdA j = 0) : tyA j = .int := by unfold tyA; rw [h] <;> rfl
theorem ty_1 {j : Nat} (h : kdA j = 1) : tyA j = .boolean := by unfold tyA; rw [h] <;> rfl
theorem ty_2 {j : Nat} (h : kdA j = 2) : tyA j = .byte := by unfold tyA; rw [h] <;> rfl
theorem ty_3 {j : Nat} (h : kdA j = 3) : tyA j = .long := by unfold tyA; rw [h] <;> rfl
theorem ty_4 {j : Nat} (h : kdA j = 4) : tyA j = .array .int := by unfold tyA; rw [h] <;> rfl
theorem pic_A {g : GT} {T : TT} {k k1 : ST} {H H1 : Heap} {j : Nat} (hP : pic g T k H) (hinj : ∀ a b, a < 166 → b < 166 → g.2.1 a = g.2.1 b → a = b) (hT : inA T j) (oq : ∀ q : Nat, q ≠ g.2.1 (12 + j) → H1[q]? = H[q]?) (hI : ∀ a b, gI k1 a b = gI k a b) (hj : H1[g.2.1 (12 + j)]? = some (vp_cell (g.2.2 j) (cont g.2.1 k1 j))) (ho : ∀ i, i ≠ j → cont g.2.1 k1 i = cont g.2.1 k i) : pic g T k1 H1 := by
  refine ⟨fun c hc => ?_, fun i hi => ?_⟩
  · refine t_OB.to ((hP.1 c hc).kept (oq _ (fun z => by have := hinj _ _ (inT_lt (Or.inl hc)) (inT_lt (Or.inr ⟨j, hT, rfl⟩)) z; have := hc.2.1; have := hc.2.2; omega))) (fun b _ => ?_)
    unfold fval
    rw [hI]
  · by_cases h : i = j
    · subst h; exact hj
    · rw [oq _ (fun z => h (by have := hinj _ _ (inT_lt (Or.inr ⟨i, hi, rfl⟩)) (inT_lt (Or.inr ⟨j, hT, rfl⟩)) z; omega)), ho i h]
      exact hP.2 i hi
theorem cont_sA {ad : Nat → Nat} {k : ST} {j n : Nat} {x : Int32} (i : Nat) (h : i ≠ j) : cont ad (sA k j n x) i = cont ad k i := by
  unfold cont
  rw [gL_sA, gA_sA, if_neg h]
theorem cont_sL {ad : Nat → Nat} {k : ST} {j n : Nat} {x : Int64} (i : Nat) (h : i ≠ j) : cont ad (sL k j n x) i = cont ad k i := by
  unfold cont
  rw [gA_sL, gL_sL, if_neg h]
theorem arrV_upd (cA : ClassId) (N n : Nat) (f : Nat → Int32) (x : Int32) : (arrV cA N (fun q => .int (f q))).setSlot n (.int x) = arrV cA N (fun q => .int (upd f n x q)) := by
  rw [arrV_store]
  refine congrArg (arrV cA N) (funext fun q => ?_)
  by_cases h : q = n <;> simp [updV, upd, h]
theorem arrV_updL (cA : ClassId) (N n : Nat) (f : Nat → Int64) (x : Int64) : (arrV cA N (fun q => .long (f q))).setSlot n (.long x) = arrV cA N (fun q => .long (vp_updL f n x q)) := by
  rw [arrV_store]
  refine congrArg (arrV cA N) (funext fun q => ?_)
  by_cases h : q = n <;> simp [updV, vp_updL, h]

theorem zf_iald (hC : HC p s m args meth c cc nL own ret g) {j n : Nat} (hT : inA T j) (hkd : kdA j = 0) (hn : lenA j = n) {i : Int32} (hdg : decode cc pc = .ok (.iaload, 1)) (kk : inb i n = true → ZF p l e R s m args below meth c g T vo nL k (pc + 1) LV (.int (gA k j (ix i)) :: rest) o) : ZF p l e R s m args below meth c g T vo nL k pc LV (.int i :: .ref (g.2.1 (12 + j)) :: rest) (ck (inb i n) o) := by
  subst hn
  refine zf_ck fun hb r k' h H locs ls hP hS hl => ?_
  have hc := hP.2 j hT
  rw [cell_i _ _ _ (by omega)] at hc
  have hA := hC.2.2.2.2.2.2.2.2.1 j (inA_lt hT)
  rw [ty_0 hkd] at hA
  exact W.iald (v := .int (gA k j (ix i))) hC.1 hC.2.1 hc (hA _ _) (fun q => by cases q) (by rw [arrV_size]; exact inb_in hb) (arrV_read _ _ (inb_lt hb)) rfl rfl hdg (kk hb r k' h H locs ls hP hS hl)
theorem zf_zald (hC : HC p s m args meth c cc nL own ret g) {j n : Nat} (hT : inA T j) (hkd : kdA j = 1) (hn : lenA j = n) {i : Int32} (hdg : decode cc pc = .ok (.baload, 1)) (kk : inb i n = true → ZF p l e R s m args below meth c g T vo nL k (pc + 1) LV (.int (gA k j (ix i)) :: rest) o) : ZF p l e R s m args below meth c g T vo nL k pc LV (.int i :: .ref (g.2.1 (12 + j)) :: rest) (ck (inb i n) o) := by
  subst hn
  refine zf_ck fun hb r k' h H locs ls hP hS hl => ?_
  have hc := hP.2 j hT
  rw [cell_i _ _ _ (by omega)] at hc
  have hA := hC.2.2.2.2.2.2.2.2.1 j (inA_lt hT)
  rw [ty_1 hkd] at hA
  exact W.zald (v := .int (gA k j (ix i))) hC.1 hC.2.1 hc (hA _ _) (fun q => by cases q) (by rw [arrV_size]; exact inb_in hb) (arrV_read _ _ (inb_lt hb)) rfl rfl hdg (kk hb r k' h H locs ls hP hS hl)
theorem zf_bald (hC : HC p s m args meth c cc nL own ret g) {j n : Nat} (hT : inA T j) (hkd : kdA j = 2) (hn : lenA j = n) {i : Int32} (hdg : decode cc pc = .ok (.baload, 1)) (kk : inb i n = true → ZF p l e R s m args below meth c g T vo nL k (pc + 1) LV (.int (gA k j (ix i)) :: rest) o) : ZF p l e R s m args below meth c g T vo nL k pc LV (.int i :: .ref (g.2.1 (12 + j)) :: rest) (ck (inb i n) o) := by
  subst hn
  refine zf_ck fun hb r k' h H locs ls hP hS hl => ?_
  have hc := hP.2 j hT
  rw [cell_i _ _ _ (by omega)] at hc
  have hA := hC.2.2.2.2.2.2.2.2.1 j (inA_lt hT)
  rw [ty_2 hkd] at hA
  exact W.bald (v := .int (gA k j (ix i))) hC.1 hC.2.1 hc (hA _ _) (fun q => by cases q) (by rw [arrV_size]; exact inb_in hb) (arrV_read _ _ (inb_lt hb)) rfl rfl hdg (kk hb r k' h H locs ls hP hS hl)
theorem zf_lald (hC : HC p s m args meth c cc nL own ret g) {j n : Nat} (hT : inA T j) (hkd : kdA j = 3) (hn : lenA j = n) {i : Int32} (hdg : decode cc pc = .ok (.laload, 1)) (kk : inb i n = true → ZF p l e R s m args below meth c g T vo nL k (pc + 1) LV (.long (gL k j (ix i)) :: rest) o) : ZF p l e R s m args below meth c g T vo nL k pc LV (.int i :: .ref (g.2.1 (12 + j)) :: rest) (ck (inb i n) o) := by
  subst hn
  refine zf_ck fun hb r k' h H locs ls hP hS hl => ?_
  have hc := hP.2 j hT
  rw [cell_l _ _ _ hkd] at hc
  have hA := hC.2.2.2.2.2.2.2.2.1 j (inA_lt hT)
  rw [ty_3 hkd] at hA
  exact W.lald (v := .long (gL k j (ix i))) hC.1 hC.2.1 hc (hA _ _) (fun q => by cases q) (by rw [arrV_size]; exact inb_in hb) (arrV_read _ _ (inb_lt hb)) rfl rfl hdg (kk hb r k' h H locs ls hP hS hl)
theorem zf_aald (hC : HC p s m args meth c cc nL own ret g) {j n : Nat} (hT : inA T j) (hkd : kdA j = 4) (hn : lenA j = n) {i : Int32} (hdg : decode cc pc = .ok (.aaload, 1)) (kk : inb i n = true → ZF p l e R s m args below meth c g T vo nL k (pc + 1) LV (.ref (g.2.1 (12 + (59 + ix i))) :: rest) o) : ZF p l e R s m args below meth c g T vo nL k pc LV (.int i :: .ref (g.2.1 (12 + j)) :: rest) (ck (inb i n) o) := by
  subst hn
  refine zf_ck fun hb r k' h H locs ls hP hS hl => ?_
  have hc := hP.2 j hT
  rw [cell_r _ _ _ hkd] at hc
  have hA := hC.2.2.2.2.2.2.2.2.1 j (inA_lt hT)
  rw [ty_4 hkd] at hA
  refine W.aald (v := .ref (g.2.1 (12 + (59 + ix i)))) hC.1 hC.2.1 hc (hA _ _) rfl (fun q => by cases q) (by rw [arrV_size]; exact inb_in hb) ?_ rfl rfl hdg (kk hb r k' h H locs ls hP hS hl)
  rw [arrV_read _ _ (inb_lt hb), ← Nat.add_assoc]
theorem row_kd {q : Nat} (h : q < 40) : kdA (59 + q) = 0 ∧ lenA (59 + q) = 12 ∧ inA TK (59 + q) := by
  have h1 : ∀ q, q < 40 → kdA (59 + q) = 0 ∧ lenA (59 + q) = 12 := by decide +kernel
  exact ⟨(h1 q h).1, (h1 q h).2, ⟨by simp [TK], by simp [TK]; omega, by simp [TK]⟩⟩
theorem zf_iast (hC : HC p s m args meth c cc nL own ret g) {j n : Nat} (hT : inA T j) (hkd : kdA j = 0) (hn : lenA j = n) {i x : Int32}  (hdg : decode cc pc = .ok (.iastore, 1)) (kk : inb i n = true → ZF p l e R s m args below meth c g T vo nL (sA k j (ix i) (x)) (pc + 1) LV rest o) : ZF p l e R s m args below meth c g T vo nL k pc LV (.int x :: .int i :: .ref (g.2.1 (12 + j)) :: rest) (ck (inb i n) o) := by
  subst hn
  refine zf_ck fun hb r k' h H locs ls hP hS hl => ?_
  have hc := hP.2 j hT
  rw [cell_i _ _ _ (by omega)] at hc
  have hA := hC.2.2.2.2.2.2.2.2.1 j (inA_lt hT)
  rw [ty_0 hkd] at hA
  refine W.iast hC.1 hC.2.1 hc (hA _ _) (fun q => by cases q) (by rw [arrV_size]; exact inb_in hb) rfl rfl hdg fun H' e z oq => ?_
  refine kk hb r k' h H' _ ls (pic_A hP hC.2.2.2.2.2.2.2.2.2.2 hT oq (gI_sA k j (ix i) (x)) ?_ (fun a ha => cont_sA a ha)) (hS.put z oq ⟨12 + j, Or.inr ⟨j, hT, rfl⟩, rfl⟩) hl
  rw [e, cell_i _ _ _ (by omega), gA_sA, if_pos rfl, arrV_upd]
theorem zf_zast (hC : HC p s m args meth c cc nL own ret g) {j n : Nat} (hT : inA T j) (hkd : kdA j = 1) (hn : lenA j = n) {i x : Int32} (hx : narrow .boolean (.int x) = .int x) (hdg : decode cc pc = .ok (.bastore, 1)) (kk : inb i n = true → ZF p l e R s m args below meth c g T vo nL (sA k j (ix i) (x)) (pc + 1) LV rest o) : ZF p l e R s m args below meth c g T vo nL k pc LV (.int x :: .int i :: .ref (g.2.1 (12 + j)) :: rest) (ck (inb i n) o) := by
  subst hn
  refine zf_ck fun hb r k' h H locs ls hP hS hl => ?_
  have hc := hP.2 j hT
  rw [cell_i _ _ _ (by omega)] at hc
  have hA := hC.2.2.2.2.2.2.2.2.1 j (inA_lt hT)
  rw [ty_1 hkd] at hA
  refine W.zast hC.1 hC.2.1 hc (hA _ _) (fun q => by cases q) (by rw [arrV_size]; exact inb_in hb) rfl rfl hdg fun H' e z oq => ?_
  refine kk hb r k' h H' _ ls (pic_A hP hC.2.2.2.2.2.2.2.2.2.2 hT oq (gI_sA k j (ix i) (x)) ?_ (fun a ha => cont_sA a ha)) (hS.put z oq ⟨12 + j, Or.inr ⟨j, hT, rfl⟩, rfl⟩) hl
  rw [e, cell_i _ _ _ (by omega), gA_sA, if_pos rfl, hx, arrV_upd]
theorem zf_bast (hC : HC p s m args meth c cc nL own ret g) {j n : Nat} (hT : inA T j) (hkd : kdA j = 2) (hn : lenA j = n) {i x : Int32}  (hdg : decode cc pc = .ok (.bastore, 1)) (kk : inb i n = true → ZF p l e R s m args below meth c g T vo nL (sA k j (ix i) (x.toInt8.toInt32)) (pc + 1) LV rest o) : ZF p l e R s m args below meth c g T vo nL k pc LV (.int x :: .int i :: .ref (g.2.1 (12 + j)) :: rest) (ck (inb i n) o) := by
  subst hn
  refine zf_ck fun hb r k' h H locs ls hP hS hl => ?_
  have hc := hP.2 j hT
  rw [cell_i _ _ _ (by omega)] at hc
  have hA := hC.2.2.2.2.2.2.2.2.1 j (inA_lt hT)
  rw [ty_2 hkd] at hA
  refine W.bast hC.1 hC.2.1 hc (hA _ _) (fun q => by cases q) (by rw [arrV_size]; exact inb_in hb) rfl rfl hdg fun H' e z oq => ?_
  refine kk hb r k' h H' _ ls (pic_A hP hC.2.2.2.2.2.2.2.2.2.2 hT oq (gI_sA k j (ix i) (x.toInt8.toInt32)) ?_ (fun a ha => cont_sA a ha)) (hS.put z oq ⟨12 + j, Or.inr ⟨j, hT, rfl⟩, rfl⟩) hl
  rw [e, cell_i _ _ _ (by omega), gA_sA, if_pos rfl, narrow_byte, arrV_upd]
theorem zf_last (hC : HC p s m args meth c cc nL own ret g) {j n : Nat} (hT : inA T j) (hkd : kdA j = 3) (hn : lenA j = n) {i : Int32} {x : Int64} (hdg : decode cc pc = .ok (.lastore, 1)) (kk : inb i n = true → ZF p l e R s m args below meth c g T vo nL (sL k j (ix i) x) (pc + 1) LV rest o) : ZF p l e R s m args below meth c g T vo nL k pc LV (.long x :: .int i :: .ref (g.2.1 (12 + j)) :: rest) (ck (inb i n) o) := by
  subst hn
  refine zf_ck fun hb r k' h H locs ls hP hS hl => ?_
  have hc := hP.2 j hT
  rw [cell_l _ _ _ hkd] at hc
  have hA := hC.2.2.2.2.2.2.2.2.1 j (inA_lt hT)
  rw [ty_3 hkd] at hA
  refine W.last hC.1 hC.2.1 hc (hA _ _) (fun q => by cases q) (by rw [arrV_size]; exact inb_in hb) rfl rfl hdg fun H' e z oq => ?_
  refine kk hb r k' h H' _ ls (pic_A hP hC.2.2.2.2.2.2.2.2.2.2 hT oq (gI_sL k j (ix i) x) ?_ (fun a ha => cont_sL a ha)) (hS.put z oq ⟨12 + j, Or.inr ⟨j, hT, rfl⟩, rfl⟩) hl
  rw [e, cell_l _ _ _ hkd, gL_sL, if_pos rfl, arrV_updL]
theorem zf_alen (hC : HC p s m args meth c cc nL own ret g) {j : Nat} (hT : inA T j) {v : Int32} (hn : (lenA j).toInt32 = v) (hdg : decode cc pc = .ok (.arraylength, 1)) (kk : ZF p l e R s m args below meth c g T vo nL k (pc + 1) LV (.int v :: rest) o) : ZF p l e R s m args below meth c g T vo nL k pc LV (.ref (g.2.1 (12 + j)) :: rest) o := by
  intro r k' h H locs ls hP hS hl
  have hc := hP.2 j hT
  have hA := hC.2.2.2.2.2.2.2.2.1 j (inA_lt hT)
  by_cases h3 : kdA j = 3
  · rw [cell_l _ _ _ h3] at hc
    exact W.alen hC.1 hC.2.1 hc (hA _ _) (by rw [arrV_size]; exact hn) rfl rfl hdg (kk r k' h H locs ls hP hS hl)
  · by_cases h4 : kdA j = 4
    · rw [cell_r _ _ _ h4] at hc
      exact W.alen hC.1 hC.2.1 hc (hA _ _) (by rw [arrV_size]; exact hn) rfl rfl hdg (kk r k' h H locs ls hP hS hl)
    · have hc2 : H[g.2.1 (12 + j)]? = some (arrV (g.2.2 j) (lenA j) (fun q => .int (gA k j q))) := by
        rw [hc]
        unfold cont
        rw [if_neg h3, if_neg h4]
        rfl
      exact W.alen hC.1 hC.2.1 hc2 (hA _ _) (by rw [arrV_size]; exact hn) rfl rfl hdg (kk r k' h H locs ls hP hS hl)
def MT (y : MethodName) (bytes : ByteArray) (maxL : Nat) (ret : Option FieldType) (n : Nat) : Prop := Cond.code y bytes maxL ret ∈ BG ∧ Cond.initialized y.cls ∈ BG ∧ (y.cls ≠ "java/lang/invoke/MethodHandle" ∧ y.cls ≠ "java/lang/invoke/VarHandle" ∧ (parseMethodDescriptor y.desc).map (fun d => d.parameters.length) = some n)
theorem bg_in {w : Cond} (h : w ∈ BG) : GoodIn BG (w :: BG) := fun v hv => by
  rcases List.mem_cons.mp hv with rfl | hv
  · exact ⟨h, good_of_word (bg_good h)⟩
  · exact ⟨hv, good_of_word (bg_good hv)⟩
theorem pc_blind {g : GT} {T : TT} {k : ST} {av : List Value} : FrameBlind (va_Pc av (fun U => GK g U ∧ pic g T k U.heap)) := fun a U g1 mk q => by
  obtain ⟨q0, q1, q2⟩ := q
  exact ⟨q0, q1.same (U := U.calling g1 mk a) rfl, q2⟩
theorem zf_run {mcc : Nat} {y : MethodName} {ρ' : Type} {vo' : ρ' → Option Value} {st : List Value} {r1 : ρ'} {k1 : ST} {a : Array Value} {H : Heap} {locs : List Loc} {ls : Array Slot} {r : ρ} {k' : ST} (run : va_Run p l e R s m args below meth c H locs 0 0 0 0 (F0 m pc ls st) rest (QQ g T vo' r1 k1 a) (frA g T)) (hS : va_S (frA g T) s.heap H locs) (hl : lv_has ls nL LV)
    (kk : ∀ (H : Heap) (locs : List Loc) (ls : Array Slot), pic g T k1 H → va_S (frA g T) s.heap H locs → lv_has ls nL LV → W p l e R s m args below meth c H locs 0 0 (MQ below (QQ g T vo r k') args s 0 0 (frA g T)) (F0 m (pc + 3) ls ((vo' r1).toList ++ rest))) : W p l e R s m args below meth c H locs 0 0 (MQ below (QQ g T vo r k') args s 0 0 (frA g T)) (F0 m pc ls st) := by
  intro S0 hS0 X
  obtain ⟨v, st₀, t, S1, L, h0, X', hL, e1, e2, ⟨hv, hp, hz, hk⟩, stp⟩ := run S0 hS0 X
  cases hv
  rw [h0] at hz hk
  obtain ⟨t2, a1, b1⟩ := kk S1.heap (locs ++ L) ls (by rw [e1]; exact hp) ⟨Nat.le_trans hS.1 (by rw [e1]; exact hz), fun q h1 h2 => by rw [e1, hk q (Nat.lt_of_lt_of_le h1 hS.1) h2]; exact hS.2.1 q h1 h2, fun q hq => by
      rcases List.mem_append.mp hq with h | h
      · exact hS.2.2 q h
      · exact hL q h⟩ hl S1 rfl X'
  exact ⟨t2, stp t2 a1, b1⟩
theorem zf_callV (hC : HC p s m args meth c cc nL own ret g) {y : MethodName} {bytes : ByteArray} {maxL n cn index N : Nat} {ret' : Option FieldType} {rm : Room} {ρ' : Type} {vo' : ρ' → Option Value} {As st : List Value} {f : ST → Option (ρ' × ST)} {C : String} {Tt : u_T} {F : ρ' → ST → Option (ρ × ST)} (hM : CN l y bytes maxL ret' rm g T vo' (.ref (g.2.1 cn) :: As) f) (hm : MT y bytes maxL ret' n) (hi : Cond.instanceMethod y ∈ BG) (hs : Cond.selects C y y ∈ BG) (hI : CI cn C Tt N) (hT : inC T cn) (hlk : Cond.methodLink own index y ∈ BG) (hn : As.length = n) (hR : rm.frames + 1 ≤ R.frames ∧ 8 + (maxL + 11) + rm.locals ≤ R.locals) (hrc : rm.cells = 0) (hrs : rm.slots = 0) (hst : st = As.reverse ++ .ref (g.2.1 cn) :: rest) (hrest : (rest.map fun v => v.category).sum ≤ 8) (hdg : decode cc pc = .ok (.invokevirtual index, 3)) (kk : ∀ (r : ρ') (k' : ST), f k = some (r, k') → ZF p l e R s m args below meth c g T vo nL k' (pc + 3) LV ((vo' r).toList ++ rest) (F r k')) : ZF p l e R s m args below meth c g T vo nL k pc LV st (ob (f k) F) := by
  intro r k' h H locs ls hP hS hl
  cases hf : f k with
  | none => rw [hf] at h; cases h
  | some q =>
    obtain ⟨r1, k1⟩ := q
    rw [hf] at h
    have hw := hC.2.2.2.2.1
    obtain ⟨cell, q1, q2, q3, -⟩ := hP.1 cn hT
    have hcl := (hC.2.2.2.2.2.2.2.1.1 cn _ hI.1).2.1
    refine zf_run (mcc := 0) (y := y) (va_runV (n := n) ⟨hC.1, hC.2.1, hC.2.2.1, hC.2.2.2.1, hw⟩ (hM k r1 k1 hf) ⟨callB_of n hw (bg_in hm.1) rfl hrc hrs (hw _ hm.2.1) (hw _ hlk) hm.2.2 hR, hw _ hi, hw _ hs⟩ ⟨pc_blind, ⟨cell, q1, by rw [q3]; rfl, by rw [q2]; exact hcl⟩, fun U hU hW => ⟨rfl, hC.2.2.2.2.2.2.2.warm hW, by rw [hU]; exact hP⟩⟩ rfl hn hl.1 hst (lv_room hrest) hdg ⟨Nat.zero_le _, Nat.zero_le _⟩) hS hl (fun H locs ls hP hS hl => kk r1 k1 hf r k' h H locs ls hP hS hl)
theorem zf_callS (hC : HC p s m args meth c cc nL own ret g) {y : MethodName} {bytes : ByteArray} {maxL n index : Nat} {ret' : Option FieldType} {rm : Room} {ρ' : Type} {vo' : ρ' → Option Value} {As st : List Value} {f : ST → Option (ρ' × ST)} {F : ρ' → ST → Option (ρ × ST)} (hM : CN l y bytes maxL ret' rm g T vo' As f) (hm : MT y bytes maxL ret' n) (hs : Cond.static y ∈ BG) (hlk : Cond.methodLink own index y ∈ BG) (hn : As.length = n) (hR : rm.frames + 1 ≤ R.frames ∧ 8 + (maxL + 11) + rm.locals ≤ R.locals) (hrc : rm.cells = 0) (hrs : rm.slots = 0) (hst : st = As.reverse ++ rest) (hrest : (rest.map fun v => v.category).sum ≤ 8) (hdg : decode cc pc = .ok (.invokestatic index, 3)) (kk : ∀ (r : ρ') (k' : ST), f k = some (r, k') → ZF p l e R s m args below meth c g T vo nL k' (pc + 3) LV ((vo' r).toList ++ rest) (F r k')) : ZF p l e R s m args below meth c g T vo nL k pc LV st (ob (f k) F) := by
  intro r k' h H locs ls hP hS hl
  cases hf : f k with
  | none => rw [hf] at h; cases h
  | some q =>
    obtain ⟨r1, k1⟩ := q
    rw [hf] at h
    have hw := hC.2.2.2.2.1
    refine zf_run (mcc := 0) (y := y) (va_runS (n := n) ⟨hC.1, hC.2.1, hC.2.2.1, hC.2.2.2.1, hw⟩ (hM k r1 k1 hf) ⟨callB_of n hw (bg_in hm.1) rfl hrc hrs (hw _ hm.2.1) (hw _ hlk) hm.2.2 hR, hw _ hs⟩ ⟨pc_blind, fun U hU hW => ⟨rfl, hC.2.2.2.2.2.2.2.warm hW, by rw [hU]; exact hP⟩⟩ rfl hn hl.1 hst (lv_room hrest) hdg ⟨Nat.zero_le _, Nat.zero_le _⟩) hS hl (fun H locs ls hP hS hl => kk r1 k1 hf r k' h H locs ls hP hS hl)
theorem zf_callSN (hC : HC p s m args meth c cc nL own ret g) {y : MethodName} {bytes : ByteArray} {maxL n index : Nat} {ret' : Option FieldType} {rm : Room} {ρ' : Type} {vo' : ρ' → Option Value} {As st : List Value} {f : ST → Option (ρ' × ST)} {F : ρ' → ST → Option (ρ × ST)} {host : String} (hM : CN l y bytes maxL ret' rm g T vo' As f) (hm : MT y bytes maxL ret' n) (hs : Cond.static y ∈ BG) (hlk : Cond.methodLinkNest own index y host ∈ tables_1) (hn : As.length = n) (hR : rm.frames + 1 ≤ R.frames ∧ 8 + (maxL + 11) + rm.locals ≤ R.locals) (hrc : rm.cells = 0) (hrs : rm.slots = 0) (hst : st = As.reverse ++ rest) (hrest : (rest.map fun v => v.category).sum ≤ 8) (hdg : decode cc pc = .ok (.invokestatic index, 3)) (kk : ∀ (r : ρ') (k' : ST), f k = some (r, k') → ZF p l e R s m args below meth c g T vo nL k' (pc + 3) LV ((vo' r).toList ++ rest) (F r k')) : ZF p l e R s m args below meth c g T vo nL k pc LV st (ob (f k) F) := by
  intro r k' h H locs ls hP hS hl
  cases hf : f k with
  | none => rw [hf] at h; cases h
  | some q =>
    obtain ⟨r1, k1⟩ := q
    rw [hf] at h
    have hw := hC.2.2.2.2.1
    refine zf_run (mcc := 0) (y := y) (va_runSN (n := n) ⟨hC.1, hC.2.1, hC.2.2.1, hC.2.2.2.1, hw⟩ (hM k r1 k1 hf) ⟨va_cnB n hw (bg_in hm.1) rfl hrc hrs (hC.2.2.2.2.2.2.2.2.2.1 _ hlk rfl) (hw _ hm.2.1) hm.2.2 hR, hw _ hs, trivial⟩ ⟨pc_blind, fun U hU hW => ⟨rfl, hC.2.2.2.2.2.2.2.warm hW, by rw [hU]; exact hP⟩⟩ rfl hn hl.1 hst (lv_room hrest) hdg ⟨Nat.zero_le _, Nat.zero_le _⟩) hS hl (fun H locs ls hP hS hl => kk r1 k1 hf r k' h H locs ls hP hS hl)
end ZR
