/-! Contracts over the pure heap: a method's start and end, and its call. -/
theorem zRO.same {V : zW} {u U : State} {H : Heap} (hv : U.vm = u.vm) (h : zRO V u H) : zRO V U H := by
  obtain ⟨h1, h2, h3, h4, h5, h6, h7⟩ := h
  have al : u.vm.Alike U.vm := by rw [hv]; exact Vm.Alike.refl _
  exact ⟨fun i hi => ⟨(h1 i hi).1.moved al, (h1 i hi).2.1.moved al, (h1 i hi).2.2.1.moved al, (h1 i hi).2.2.2.1.moved al, (h1 i hi).2.2.2.2.same hv⟩, fun t ht => ⟨(h2 t ht).1.moved al, (h2 t ht).2.1.moved al, (h2 t ht).2.2.same rfl hv.symm⟩, h3.moved al, h4.moved al, fun t ht => ⟨(h5 t ht).1.moved al, (h5 t ht).2.moved al⟩, h6.moved al, h7.1, fun r hr => ⟨(h7.2 r hr).1.moved al, (h7.2 r hr).2.1.moved al, (h7.2 r hr).2.2.1.moved al, (h7.2 r hr).2.2.2.moved al⟩⟩
def zPre (V : zW) (d : zD) (U : State) : Prop := zRep V d U.heap ∧ zK V U ∧ ∀ q, U.heap.size ≤ q → zA V q
def zPost (V : zW) (ov : Option Value) (φ : Prop) (d' : zD) : Array Value → State → Outcome → State → Prop := fun _ st o t => (o = .returned ov ∧ φ ∧ zRep V d' t.heap) ∧ va_F (zA V) st t
def zwsU (y : MethodName) (b : ByteArray) (nn : Nat) (ret : Option FieldType) : List Cond := .code y b nn ret :: zT
def zrm (dp : Nat) : Room := { frames := dp, cells := 0, slots := 0, locals := 30 * dp }
def zMet (V : zW) (dp : Nat) (y : MethodName) (b : ByteArray) (nn : Nat) (ret : Option FieldType) (av : List Value) (d : zD) (ov : Option Value) (φ : Prop) (d' : zD) : Prop :=
  ∀ l : Launch, Met l y (zwsU y b nn ret) (zrm dp) (va_Pc av (zPre V d)) (zPost V ov φ d') 0 0 (zA V)
theorem zPre_blind {V : zW} {d : zD} {av : List Value} : FrameBlind (va_Pc av (zPre V d)) := fun a U g mk q => by
  obtain ⟨q0, q1, ⟨q2, q3⟩, q4⟩ := q
  exact ⟨q0, q1, ⟨va_K.moved (u := U) (U := U.calling g mk a) (Vm.Alike.refl U.vm) q2, zRO.same (u := U) rfl q3⟩, q4⟩
theorem zK.go {V : zW} {s U : State} {H : Heap} {locs : List Loc} (h : zK V s) (hS : va_S (zA V) s.heap H locs) (hH : U.heap = H) (hW : s.WarmedH U.vm) : zK V U :=
  ⟨va_K.moved hW.alike h.1, h.2.go hW (fun a h1 h2 => by rw [hH]; exact hS.2.1 a h1 h2)⟩
/-- what a call of an instance method asks of the tables -/
def zMV (own : String) (ix : Nat) (Cn : String) (y : MethodName) (b : ByteArray) (nn : Nat) (ret : Option FieldType) (np : Nat) : Prop :=
  Cond.methodLink own ix y ∈ zT ∧ Cond.instanceMethod y ∈ zT ∧ Cond.selects Cn y y ∈ zT ∧ Cond.initialized Cn ∈ zT ∧ Cond.code y b nn ret ∈ zT ∧ y.cls = Cn ∧ (y.cls ≠ "java/lang/invoke/MethodHandle" ∧ y.cls ≠ "java/lang/invoke/VarHandle") ∧ (parseMethodDescriptor y.desc).map (fun d => d.parameters.length) = some np
def zMS (own : String) (ix : Nat) (y : MethodName) (b : ByteArray) (nn : Nat) (ret : Option FieldType) (np : Nat) : Prop :=
  Cond.methodLink own ix y ∈ zT ∧ Cond.static y ∈ zT ∧ Cond.initialized y.cls ∈ zT ∧ Cond.code y b nn ret ∈ zT ∧ (y.cls ≠ "java/lang/invoke/MethodHandle" ∧ y.cls ≠ "java/lang/invoke/VarHandle") ∧ (parseMethodDescriptor y.desc).map (fun d => d.parameters.length) = some np
def zfit (dp nn : Nat) (R : Room) : Prop := dp + 1 ≤ R.frames ∧ 8 + (nn + 11) + 30 * dp ≤ R.locals
theorem zgood {y : MethodName} {b : ByteArray} {nn : Nat} {ret : Option FieldType} (h : Cond.code y b nn ret ∈ zT) : GoodIn zT (zwsU y b nn ret) := fun w hw => by
  rcases List.mem_cons.mp hw with rfl | hw
  · exact zTg _ h
  · exact zTg _ hw
theorem zcat_sum {st : List Value} (h : (st.map fun v => v.category).sum ≤ 8) : 2 * 0 + (st.map fun v => v.category).sum ≤ 8 := by omega
section CALLS
variable {V : zW} {X : zX} {cc : ByteArray} {own : String} {nL k n pc : Nat} {R0 : Room} {ret : Option FieldType} {L L' : List (Option Value)} {st : List Value} {d : zD}
theorem zP_callV (C : zOk V X cc own nL R0 ret) {ix np dp nn ci a : Nat} {Cn : String} {T : u_T} {N : Nat} {y : MethodName} {b : ByteArray} {rt : Option FieldType} {fk : Nat → Nat} {As : List Value} {ov : Option Value} {φ : Prop} {d1 : zD} (hw : zMV own ix Cn y b nn rt np) (hdg : decode cc pc = .ok (.invokevirtual ix, 3)) (hs : zsh V a = some (0, ci, fk)) (hcl : vwCl[ci]? = some (Cn, T, N)) (hM : zMet V dp y b nn rt (.ref (zad V a) :: As) d ov φ d1) (hfit : zfit dp nn R0) (hlen : As.length = np) (hc : (st.map fun v => v.category).sum ≤ 8) (hkn : k ≤ R0.cells ∧ n ≤ R0.slots) (kk : φ → zP V X nL k n (pc + 3) L (ov.toList ++ st) d1) : zP V X nL k n pc L (As.reverse ++ .ref (zad V a) :: st) d := by
  obtain ⟨p, l, e, R, s, m, args, below, meth, c, Q⟩ := X
  obtain ⟨hx, hb, hml, hown, hts, hK, hlk, hR, hret, hsz⟩ := C
  intro ls H locs hl hP hS
  obtain ⟨w1, w2, w3, w4, w5, w6, w7, w8⟩ := hw
  subst hR
  have cb : CallB R s args own ix y b nn rt (zwsU y b nn rt) (zrm dp) 0 0 np := callB_of np hts (zgood w5) rfl rfl rfl (by rw [w6]; exact hts _ w4) (hts _ w1) ⟨w7.1, w7.2, w8⟩ hfit
  have hrun := va_runV (p := p) (e := e) (below := below) (meth := meth) (locs := locs) (cells := k) (slots := n) (As := As) (rest := st) (g := F0 m pc ls (As.reverse ++ .ref (zad V a) :: st)) ⟨hx, hb, hml, hown, hts⟩ (hM l) ⟨cb, hts _ w2, hts _ w3⟩
    ⟨zPre_blind, (by
      obtain ⟨cell, g1, g2, g3⟩ := va_recv hK.1 (hP.one hs) hcl (q0 := 0) rfl
      exact ⟨cell, g1, g2, g3⟩), fun U hU hW => ⟨rfl, by rw [hU]; exact hP, hK.go hS hU hW, fun q hq => hsz q (Nat.le_trans hS.1 (by rw [hU] at hq; exact hq))⟩⟩
    rfl hlen hl.1 rfl (zcat_sum hc) hdg hkn
  intro T' hT X'
  obtain ⟨v, st₀, t, T2, L2, h0, X2, hL, e1, e2, ⟨⟨hv, hφ, hRep⟩, hz, hkp⟩, stp⟩ := hrun T' hT X'
  cases hv
  rw [h0] at hz hkp
  obtain ⟨t2, a1, b1⟩ := kk hφ ls T2.heap (locs ++ L2) hl (by rw [e1]; exact hRep) ⟨Nat.le_trans hS.1 (by rw [e1]; exact hz), fun q h1 h2 => by rw [e1, hkp q (Nat.lt_of_lt_of_le h1 hS.1) h2]; exact hS.2.1 q h1 h2, fun q hq => by
    rcases List.mem_append.mp hq with h | h
    · exact hS.2.2 q h
    · exact hL q h⟩ T2 rfl X2
  exact ⟨t2, stp t2 a1, b1⟩
theorem zP_callS (C : zOk V X cc own nL R0 ret) {ix np dp nn : Nat} {y : MethodName} {b : ByteArray} {rt : Option FieldType} {As : List Value} {ov : Option Value} {φ : Prop} {d1 : zD} (hw : zMS own ix y b nn rt np) (hdg : decode cc pc = .ok (.invokestatic ix, 3)) (hM : zMet V dp y b nn rt As d ov φ d1) (hfit : zfit dp nn R0) (hlen : As.length = np) (hc : (st.map fun v => v.category).sum ≤ 8) (hkn : k ≤ R0.cells ∧ n ≤ R0.slots) (kk : φ → zP V X nL k n (pc + 3) L (ov.toList ++ st) d1) : zP V X nL k n pc L (As.reverse ++ st) d := by
  obtain ⟨p, l, e, R, s, m, args, below, meth, c, Q⟩ := X
  obtain ⟨hx, hb, hml, hown, hts, hK, hlk, hR, hret, hsz⟩ := C
  intro ls H locs hl hP hS
  obtain ⟨w1, w2, w4, w5, w7, w8⟩ := hw
  subst hR
  have cb : CallB R s args own ix y b nn rt (zwsU y b nn rt) (zrm dp) 0 0 np := callB_of np hts (zgood w5) rfl rfl rfl (hts _ w4) (hts _ w1) ⟨w7.1, w7.2, w8⟩ hfit
  have hrun := va_runS (p := p) (e := e) (below := below) (meth := meth) (locs := locs) (cells := k) (slots := n) (As := As) (rest := st) (g := F0 m pc ls (As.reverse ++ st)) ⟨hx, hb, hml, hown, hts⟩ (hM l) ⟨cb, hts _ w2⟩
    ⟨zPre_blind, fun U hU hW => ⟨rfl, by rw [hU]; exact hP, hK.go hS hU hW, fun q hq => hsz q (Nat.le_trans hS.1 (by rw [hU] at hq; exact hq))⟩⟩
    rfl hlen hl.1 rfl (zcat_sum hc) hdg hkn
  intro T' hT X'
  obtain ⟨v, st₀, t, T2, L2, h0, X2, hL, e1, e2, ⟨⟨hv, hφ, hRep⟩, hz, hkp⟩, stp⟩ := hrun T' hT X'
  cases hv
  rw [h0] at hz hkp
  obtain ⟨t2, a1, b1⟩ := kk hφ ls T2.heap (locs ++ L2) hl (by rw [e1]; exact hRep) ⟨Nat.le_trans hS.1 (by rw [e1]; exact hz), fun q h1 h2 => by rw [e1, hkp q (Nat.lt_of_lt_of_le h1 hS.1) h2]; exact hS.2.1 q h1 h2, fun q hq => by
    rcases List.mem_append.mp hq with h | h
    · exact hS.2.2 q h
    · exact hL q h⟩ T2 rfl X2
  exact ⟨t2, stp t2 a1, b1⟩
/-- a contract out of a walk from the method's start -/
def zQm (V : zW) (below : List Frame) (ov : Option Value) (φ : Prop) (d' : zD) (args : Array Value) (s : State) : State → Prop := MQ below (zPost V ov φ d') args s 0 0 (zA V)
theorem zMet_of {V : zW} {dp nn : Nat} {y : MethodName} {b : ByteArray} {rt : Option FieldType} {av : List Value} {d d' : zD} {ov : Option Value} {φ : Prop} (own : String) (hy : plainName y.cls = true) (hyo : y.cls = own) (hle : (lg_sl av).length ≤ nn) (L0 : List (Option Value)) (hL0 : lv_args 0 av = zLp 0 L0)
    (body : ∀ (X : zX), zOk V X b own nn (zrm dp) rt → (∃ s, X.2.2.2.2.2.2.2.2.2.2 = MQ X.2.2.2.2.2.2.2.1 (zPost V ov φ d') X.2.2.2.2.2.2.1 s 0 0 (zA V) ∧ s = X.2.2.2.2.1) → zP V X nn 0 0 0 L0 [] d) : zMet V dp y b nn rt av d ov φ d' := by
  intro l
  refine Met.ofW (cc := b) (maxL := nn) (ret := rt) hy rfl ?_
  intro p e s m args below meth c s₁ B hml hv
  obtain ⟨rfl, hP, hK, hsz⟩ := hv
  have hts := atoms_spec (ws := zwsU y b nn rt) B.pre
  have hl := lv_entry av (n := nn) hle
  rw [lg_entry_eq]
  generalize (lg_sl av ++ List.replicate (nn - (lg_sl av).length) Slot.unset).toArray = ls at hl ⊢
  refine body (p, l, e, (headSpec (zwsU y b nn rt) (zrm dp)).room, s, m, av.toArray, below, meth, c, MQ below (zPost V ov φ d') av.toArray s 0 0 (zA V)) ⟨B.exec, B.bytes, hml, by rw [← hyo]; exact findClass_of_methodNamed B.named, fun w hw => hts w (List.mem_cons_of_mem _ hw), hK, B.notSynchronized, rfl, B.returns, hsz⟩ ⟨s, rfl, rfl⟩ ls s.heap [] (by unfold zLs; rw [← hL0]; exact hl) hP va_S.rf
end CALLS
