def nm {α β : Type} (e : α) (f : α → β) : β := f e
theorem rm_le {a b A B x y : Nat} (hR : A ≤ x ∧ B ≤ y) (h : (Nat.ble a A && Nat.ble b B) = true) : a ≤ x ∧ b ≤ y := by
  rw [Bool.and_eq_true] at h
  exact ⟨Nat.le_trans (Nat.le_of_ble_eq_true h.1) hR.1, Nat.le_trans (Nat.le_of_ble_eq_true h.2) hR.2⟩
theorem ne_of_ck {α : Type} [DecidableEq α] {a b : α} (h : (!decide (a = b)) = true) : ¬ a = b := by
  simpa using h
theorem nar_b (b : Bool) : narrow .boolean (.int (b2i b)) = .int (b2i b) := by cases b <;> rfl
def tx_K (t : Int32) : Bool := decide (ix t = 40 ∨ ix t = 55)
def tx_M (t : Int32) : Bool := decide (ix t = 121 ∨ ix t = 135)
theorem lg_cmp_0 (x y : Int64) : lg_cmp x y = 0 ↔ x = y := lg_cmp_eq x y
theorem cn_ofF {l : Launch} {y : MethodName} {cc : ByteArray} {nL : Nat} {ret : Option FieldType} {rm : Room} {g : GT} {T : TT} {ρ : Type} {vo : ρ → Option Value} {av : List Value} {f : ST → Option (ρ × ST)} (hy : plainFor y = true) (hn : (lg_sl av).length ≤ nL)
    (body : ∀ (p : Program) (e : Env) (s : State) (m : MethodId) (args : Array Value) (below : List Frame) (meth : Method) (c : Code), HC p s m args meth c cc nL y.cls ret g → ∀ k : ST, ZF p l e rm s m args below meth c g T vo nL k 0 (lv_args 0 av) [] (f k)) : CN l y cc nL ret rm g T vo av f := by
  intro k r k' h
  refine va_MetF (cc := cc) (maxL := nL) (ret := ret) hy rfl ?_
  intro p e s m args below meth c s₁ B hml hv
  obtain ⟨rfl, hG, hP⟩ := hv
  have hts := atoms_spec (ws := .code y cc nL ret :: BG) B.pre
  have hl := lv_entry av (n := nL) hn
  rw [lg_entry_eq]
  exact body p e s m _ below meth c ⟨B.exec, B.bytes, hml, findClass_of_methodNamed B.named, fun w hw => hts w (List.mem_cons_of_mem _ hw), B.notSynchronized, B.returns, hG⟩ k r k' h s.heap [] _ hP va_S.rf hl
section ZS
variable {p : Program} {l : Launch} {e : Env} {R : Room} {s : State} {m : MethodId} {args : Array Value} {below : List Frame} {meth : Method} {c : Code} {cc : ByteArray} {nL : Nat} {own : String} {ret : Option FieldType} {g : GT} {T : TT}
variable {ρ : Type} {vo : ρ → Option Value} {k : ST} {pc : Nat} {LV : List (Nat × Value)} {rest : List Value} {o : Option (ρ × ST)}
theorem zf_nmi {x : Int32} {F : Int32 → Option (ρ × ST)} (kk : ∀ y, ZF p l e R s m args below meth c g T vo nL k pc LV (.int y :: rest) (F y)) : ZF p l e R s m args below meth c g T vo nL k pc LV (.int x :: rest) (nm x F) := kk x
theorem zf_nml {x : Int64} {F : Int64 → Option (ρ × ST)} (kk : ∀ y, ZF p l e R s m args below meth c g T vo nL k pc LV (.long y :: rest) (F y)) : ZF p l e R s m args below meth c g T vo nL k pc LV (.long x :: rest) (nm x F) := kk x
theorem zf_nmk {F : ST → Option (ρ × ST)} (kk : ∀ k1, ZF p l e R s m args below meth c g T vo nL k1 pc LV rest (F k1)) : ZF p l e R s m args below meth c g T vo nL k pc LV rest (nm k F) := kk k
theorem zf_iandb (hC : HC p s m args meth c cc nL own ret g) {x y : Bool} (hdg : decode cc pc = .ok (.iand, 1)) (kk : ZF p l e R s m args below meth c g T vo nL k (pc + 1) LV (.int (b2i (x && y)) :: rest) o) : ZF p l e R s m args below meth c g T vo nL k pc LV (.int (b2i y) :: .int (b2i x) :: rest) o := by
  refine zf_iand hC hdg ?_
  have h : b2i x &&& b2i y = b2i (x && y) := by cases x <;> cases y <;> rfl
  rw [h]
  exact kk
theorem zf_iorb (hC : HC p s m args meth c cc nL own ret g) {x y : Bool} (hdg : decode cc pc = .ok (.ior, 1)) (kk : ZF p l e R s m args below meth c g T vo nL k (pc + 1) LV (.int (b2i (x || y)) :: rest) o) : ZF p l e R s m args below meth c g T vo nL k pc LV (.int (b2i y) :: .int (b2i x) :: rest) o := by
  refine zf_ior hC hdg ?_
  have h : b2i x ||| b2i y = b2i (x || y) := by cases x <;> cases y <;> rfl
  rw [h]
  exact kk
theorem zf_lcmp_eq (hC : HC p s m args meth c cc nL own ret g) {x y : Int64} {off : Int} {tgt : Nat} {o1 o2 : Option (ρ × ST)} (h1 : decode cc pc = .ok (.lcmp, 1)) (h2 : decode cc (pc + 1) = .ok (.ifCond .eq off, 3)) (ht : ((pc + 1 : Nat) : Int) + off = (tgt : Int)) (kt : x = y → ZF p l e R s m args below meth c g T vo nL k tgt LV rest o1) (kf : ¬ x = y → ZF p l e R s m args below meth c g T vo nL k (pc + 1 + 3) LV rest o2) : ZF p l e R s m args below meth c g T vo nL k pc LV (.long y :: .long x :: rest) (if x = y then o1 else o2) :=
  zf_ite (fun q r k' h H locs ls hP hS hl => W.lcmp hC.1 hC.2.1 h1 (lv_if_eq hC.1 hC.2.1 h2 ht (fun z => kt q r k' h H locs ls hP hS hl) (fun z => absurd ((lg_cmp_0 x y).mpr q) z))) (fun q r k' h H locs ls hP hS hl => W.lcmp hC.1 hC.2.1 h1 (lv_if_eq hC.1 hC.2.1 h2 ht (fun z => absurd ((lg_cmp_0 x y).mp z) q) (fun z => kf q r k' h H locs ls hP hS hl)))
theorem zf_lcmp_ne (hC : HC p s m args meth c cc nL own ret g) {x y : Int64} {off : Int} {tgt : Nat} {o1 o2 : Option (ρ × ST)} (h1 : decode cc pc = .ok (.lcmp, 1)) (h2 : decode cc (pc + 1) = .ok (.ifCond .ne off, 3)) (ht : ((pc + 1 : Nat) : Int) + off = (tgt : Int)) (kf : x = y → ZF p l e R s m args below meth c g T vo nL k (pc + 1 + 3) LV rest o1) (kt : ¬ x = y → ZF p l e R s m args below meth c g T vo nL k tgt LV rest o2) : ZF p l e R s m args below meth c g T vo nL k pc LV (.long y :: .long x :: rest) (if x = y then o1 else o2) :=
  zf_ite (fun q r k' h H locs ls hP hS hl => W.lcmp hC.1 hC.2.1 h1 (lv_if_ne hC.1 hC.2.1 h2 ht (fun z => absurd ((lg_cmp_0 x y).mpr q) z) (fun z => kf q r k' h H locs ls hP hS hl))) (fun q r k' h H locs ls hP hS hl => W.lcmp hC.1 hC.2.1 h1 (lv_if_ne hC.1 hC.2.1 h2 ht (fun z => kt q r k' h H locs ls hP hS hl) (fun z => absurd ((lg_cmp_0 x y).mp z) q)))
theorem zf_iald_t (hC : HC p s m args meth c cc nL own ret g) {t i : Int32} (hdg : decode cc pc = .ok (.iaload, 1)) (kk : tx_K t = true → ZF p l e R s m args below meth c g TK vo nL k (pc + 1) LV (.int (gA k (ix t - 12) (ix i)) :: rest) o) : ZF p l e R s m args below meth c g TK vo nL k pc LV (.int i :: .ref (g.2.1 (ix t)) :: rest) (ck (tx_K t) (ck (inb i 160) o)) := by
  refine zf_ck fun hb => ?_
  have h2 : ix t = 40 ∨ ix t = 55 := of_decide_eq_true hb
  have h3 : ix t = 12 + (ix t - 12) := by omega
  have h4 : inA TK (ix t - 12) ∧ kdA (ix t - 12) = 0 ∧ lenA (ix t - 12) = 160 := by
    rcases h2 with h | h <;> rw [h]
    · exact ⟨ia_28, rfl, rfl⟩
    · exact ⟨ia_43, rfl, rfl⟩
  have := zf_iald (p := p) (l := l) (e := e) (R := R) (below := below) (vo := vo) (k := k) (LV := LV) (rest := rest) (o := o) hC (i := i) h4.1 h4.2.1 h4.2.2 hdg (fun _ => kk hb)
  rw [← h3] at this
  exact this
theorem zf_bald_t (hC : HC p s m args meth c cc nL own ret g) {t i : Int32} (hdg : decode cc pc = .ok (.baload, 1)) (kk : tx_M t = true → ZF p l e R s m args below meth c g TM vo nL k (pc + 1) LV (.int (gA k (ix t - 12) (ix i)) :: rest) o) : ZF p l e R s m args below meth c g TM vo nL k pc LV (.int i :: .ref (g.2.1 (ix t)) :: rest) (ck (tx_M t) (ck (inb i (lenA (ix t - 12))) o)) := by
  refine zf_ck fun hb => ?_
  have h2 : ix t = 121 ∨ ix t = 135 := of_decide_eq_true hb
  have h3 : ix t = 12 + (ix t - 12) := by omega
  have h4 : inA TM (ix t - 12) ∧ kdA (ix t - 12) = 2 := by
    rcases h2 with h | h <;> rw [h]
    · exact ⟨ia_109, rfl⟩
    · exact ⟨ia_123, rfl⟩
  have := zf_bald (p := p) (l := l) (e := e) (R := R) (below := below) (vo := vo) (k := k) (LV := LV) (rest := rest) (o := o) hC (i := i) h4.1 h4.2 rfl hdg (fun _ => kk hb)
  rw [← h3] at this
  exact this
end ZS
