/-! The builder of texts: her class and a text's; contracts that tell of the world behind them; rules that only they want. -/
theorem l12_0 : u_lay RJ4 TJ4 0 ∈ zT := zin 1021 (by decide +kernel) (by decide +kernel)
theorem l12_1 : u_lay RJ4 TJ4 1 ∈ zT := zin 1023 (by decide +kernel) (by decide +kernel)
theorem l12_2 : u_lay RJ4 TJ4 2 ∈ zT := zin 1025 (by decide +kernel) (by decide +kernel)
theorem l12_3 : u_lay RJ4 TJ4 3 ∈ zT := zin 1027 (by decide +kernel) (by decide +kernel)
theorem cf12 : zCF 12 RJ4 TJ4 4 := ⟨rfl, fun w hw => by
  obtain ⟨k, hk, rfl⟩ := List.mem_map.mp hw
  have hk := List.mem_range.mp hk
  match k, hk with
  | 0, _ => exact l12_0
  | 1, _ => exact l12_1
  | 2, _ => exact l12_2
  | 3, _ => exact l12_3
  | k + 4, hk => exact absurd hk (by omega), nmJ4, tyJ4, tyJ4_ok⟩
theorem l13_0 : u_lay RJ0 TJ0 0 ∈ zT := zin 1226 (by decide +kernel) (by decide +kernel)
theorem l13_1 : u_lay RJ0 TJ0 1 ∈ zT := zin 1228 (by decide +kernel) (by decide +kernel)
theorem l13_2 : u_lay RJ0 TJ0 2 ∈ zT := zin 1230 (by decide +kernel) (by decide +kernel)
theorem l13_3 : u_lay RJ0 TJ0 3 ∈ zT := zin 1232 (by decide +kernel) (by decide +kernel)
theorem cf13 : zCF 13 RJ0 TJ0 4 := ⟨rfl, fun w hw => by
  obtain ⟨k, hk, rfl⟩ := List.mem_map.mp hw
  have hk := List.mem_range.mp hk
  match k, hk with
  | 0, _ => exact l13_0
  | 1, _ => exact l13_1
  | 2, _ => exact l13_2
  | 3, _ => exact l13_3
  | k + 4, hk => exact absurd hk (by omega), nmJ0, tyJ0, tyJ0_ok⟩
theorem g12_15 : zFL RJ5 15 12 0 := ⟨RJ4, TJ4, 4, cf12, by decide, q1017⟩
theorem g12_22 : zFL RJ5 22 12 1 := ⟨RJ4, TJ4, 4, cf12, by decide, q1018⟩
theorem g12_79 : zFL RJ5 79 12 3 := ⟨RJ4, TJ4, 4, cf12, by decide, q1020⟩
theorem p12_79 : zFP RJ5 79 12 3 := ⟨RJ4, TJ4, 4, cf12, by decide, q1020, rfl, rfl⟩
/-- the methods that only their own class may call -/
def zPL : List MethodName := [yJ5_ensureCapacityInternal_d00df, yJ5_newCapacity_0f7a4, yJ5_putStringAt_47b60, yJ5_inflateIfNeededFor_a7421]
def zNB (U : State) : Prop := (∀ y ∈ zPL, va_Nw (.selects RJ4 y y) U) ∧ va_Nw (.castable "[B" "java/lang/Cloneable") U
theorem zNB.go {s U : State} (hW : s.WarmedH U.vm) (h : zNB s) : zNB U := ⟨fun y hy => word_at hW (Or.inl rfl) (h.1 y hy), h.2.warmC hW⟩
theorem zNB.same {s U : State} (hv : s.vm = U.vm) (h : zNB s) : zNB U := ⟨fun y hy => (h.1 y hy).same rfl hv, h.2.same rfl hv⟩
def zNBX (X : zX) : Prop := match X with
  | (_, _, _, _, s, _, _, _, _, _, _) => zNB s
def zPreB (V : zW) (d : zD) (U : State) : Prop := zPre V d U ∧ zNB U
theorem zPreB_blind {V : zW} {d : zD} {av : List Value} : FrameBlind (va_Pc av (zPreB V d)) := fun a U g mk q => by
  obtain ⟨q0, ⟨q1, ⟨q2, q3⟩, q4⟩, q5⟩ := q
  exact ⟨q0, ⟨q1, ⟨va_K.moved (u := U) (U := U.calling g mk a) (Vm.Alike.refl U.vm) q2, zRO.same (u := U) rfl q3⟩, q4⟩, q5.same (U := U.calling g mk a) rfl⟩
/-- the same world but for its cells -/
def zVv (V V1 : zW) : Prop := ∃ ad sh, V1 = zW3 V ad sh
theorem zVv.rf {V : zW} : zVv V V := ⟨zad V, zsh V, rfl⟩
theorem zVv.tr {V V1 V2 : zW} (h : zVv V V1) (g : zVv V1 V2) : zVv V V2 := by
  obtain ⟨a, b, rfl⟩ := h
  obtain ⟨a1, b1, rfl⟩ := g
  exact ⟨a1, b1, rfl⟩
theorem zEy.v {V V1 : zW} {S : Nat → Prop} (h : zEy V V1 S) : zVv V V1 := h.1
theorem zEx.v {V V1 : zW} {lo hi : Nat} (h : zEx V V1 lo hi) : zVv V V1 := h.1
theorem zVv.ok {V V1 : zW} (h : zVv V V1) {X : zX} {cc : ByteArray} {own : String} {nL : Nat} {R0 : Room} {ret : Option FieldType} (C : zOk V X cc own nL R0 ret) : zOk V1 X cc own nL R0 ret := by
  obtain ⟨ad, sh, rfl⟩ := h
  exact C
theorem zVv.A {V V1 : zW} (h : zVv V V1) : zA V1 = zA V := by
  obtain ⟨ad, sh, rfl⟩ := h
  rfl
def zPostB (V : zW) (P : Option Value → zW → zD → Prop) : Array Value → State → Outcome → State → Prop := fun _ st o t => (∃ ov V1 d1, o = .returned ov ∧ zVv V V1 ∧ P ov V1 d1 ∧ zRep V1 d1 t.heap) ∧ va_F (zA V) st t
def zMetB (V : zW) (dp mc ms : Nat) (y : MethodName) (b : ByteArray) (nn : Nat) (rt : Option FieldType) (av : List Value) (d : zD) (P : Option Value → zW → zD → Prop) : Prop :=
  ∀ l : Launch, Met l y (zwsU y b nn rt) (zrmC dp mc ms) (va_Pc av (zPreB V d)) (zPostB V P) mc ms (zA V)
def zEndB (V : zW) (X : zX) (P : Option Value → zW → zD → Prop) (mc ms : Nat) : Prop := match X with
  | (_, _, _, _, s, _, args, below, _, _, Q) => Q = MQ below (zPostB V P) args s mc ms (zA V)
theorem zMetB_by {V : zW} {dp mc ms nn : Nat} {y : MethodName} {b : ByteArray} {rt : Option FieldType} {av : List Value} {d : zD} {P : Option Value → zW → zD → Prop} (own : String) (hy : plainName y.cls = true) (hyo : y.cls = own) (hle : (lg_sl av).length ≤ nn) (L0 : List (Option Value)) (hL0 : lv_args 0 av = zLp 0 L0)
    (body : ∀ (X : zX), zOk V X b own nn (zrmC dp mc ms) rt → zNBX X → (y.name = "<init>" → zIni X) → zEndB V X P mc ms → zP V X nn 0 0 0 L0 [] d) : zMetB V dp mc ms y b nn rt av d P := by
  intro l
  refine Met.ofW (cc := b) (maxL := nn) (ret := rt) hy rfl ?_
  intro p e s m args below meth c s₁ B hml hv
  obtain ⟨rfl, ⟨hP, hK, hsz⟩, hN⟩ := hv
  have hts := atoms_spec (ws := zwsU y b nn rt) B.pre
  have hl := lv_entry av (n := nn) hle
  rw [lg_entry_eq]
  generalize (lg_sl av ++ List.replicate (nn - (lg_sl av).length) Slot.unset).toArray = ls at hl ⊢
  exact body (p, l, e, (headSpec (zwsU y b nn rt) (zrmC dp mc ms)).room, s, m, av.toArray, below, meth, c, MQ below (zPostB V P) av.toArray s mc ms (zA V)) ⟨B.exec, B.bytes, hml, by rw [← hyo]; exact findClass_of_methodNamed B.named, fun w hw => hts w (List.mem_cons_of_mem _ hw), hK, B.notSynchronized, rfl, B.returns, hsz⟩ hN (fun hi => (name_of_methodNamed B.named B.method).1.trans hi) rfl ls s.heap [] (by unfold zLs; rw [← hL0]; exact hl) hP va_S.rf
/-- what a call asks of the tables -/
def zMV1 (own : String) (ix : Nat) (y : MethodName) (b : ByteArray) (nn : Nat) (rt : Option FieldType) (np : Nat) : Prop :=
  Cond.methodLink own ix y ∈ zT ∧ Cond.instanceMethod y ∈ zT ∧ Cond.initialized y.cls ∈ zT ∧ Cond.code y b nn rt ∈ zT ∧ (y.cls ≠ "java/lang/invoke/MethodHandle" ∧ y.cls ≠ "java/lang/invoke/VarHandle") ∧ (parseMethodDescriptor y.desc).map (fun d => d.parameters.length) = some np
def zSelX (X : zX) (Cn : String) (y : MethodName) : Prop := match X with
  | (_, _, _, _, s, _, args, _, _, _, _) => (Cond.selects Cn y y).before args s = true
theorem zSel_T {V : zW} {X : zX} {cc : ByteArray} {own : String} {nL : Nat} {R0 : Room} {ret : Option FieldType} (C : zOk V X cc own nL R0 ret) {Cn : String} {y : MethodName} (h : Cond.selects Cn y y ∈ zT) : zSelX X Cn y := by
  obtain ⟨p, l, e, R, s, m, args, below, meth, c, Q⟩ := X
  exact C.2.2.2.2.1 _ h
theorem zSel_P {X : zX} (HB : zNBX X) {y : MethodName} (h : y ∈ zPL) : zSelX X RJ4 y := by
  obtain ⟨p, l, e, R, s, m, args, below, meth, c, Q⟩ := X
  exact (HB.1 y h).use rfl
section BLD
variable {V : zW} {X : zX} {cc : ByteArray} {own : String} {nL k n pc : Nat} {R0 : Room} {ret : Option FieldType} {L L' : List (Option Value)} {st : List Value} {d d' : zD} {P : Option Value → zW → zD → Prop}
theorem zP_vretB (C : zOk V X cc own nL R0 none) {V0 : zW} {mc ms : Nat} (E : zEndB V0 X P mc ms) (hv : zVv V0 V) (hk : k ≤ mc ∧ n ≤ ms) (hp : P none V d) (hdg : decode cc pc = .ok (.return_, 1)) : zP V X nL k n pc L [] d := by
  obtain ⟨p, l, e, R, s, m, args, below, meth, c, Q⟩ := X
  obtain ⟨hxx, hb, hml, hown, hts, hK, hlk, hR, hret, hsz⟩ := C
  change Q = _ at E
  subst E
  intro ls H locs hl hP hS
  have eA : zA V0 = zA V := hv.A.symm
  rw [eA]
  intro T hT Y
  exact (W.vret hxx hb hret (fun t ht hW => ⟨⟨none, V, d, rfl, hv, hp, by rw [ht]; exact hP⟩, by rw [ht]; exact hS.1, fun q h1 h2 => by rw [ht]; exact hS.2.1 q h1 (by rw [← eA]; exact h2)⟩) hS.2.2 hdg hlk) T hT (stand_widen Y hk.1 hk.2)
theorem zP_nretB {ty : FieldType} (C : zOk V X cc own nL R0 (some ty)) {V0 : zW} {mc ms : Nat} {x : Int} (E : zEndB V0 X P mc ms) (hv : zVv V0 V) (hk : k ≤ mc ∧ n ≤ ms) (hn : narrow ty (.int (zI x)) = .int (zI x)) (hp : P (some (.int (zI x))) V d) (hdg : decode cc pc = .ok (.ireturn, 1)) : zP V X nL k n pc L [.int (zI x)] d := by
  obtain ⟨p, l, e, R, s, m, args, below, meth, c, Q⟩ := X
  obtain ⟨hxx, hb, hml, hown, hts, hK, hlk, hR, hret, hsz⟩ := C
  change Q = _ at E
  subst E
  intro ls H locs hl hP hS
  have eA : zA V0 = zA V := hv.A.symm
  rw [eA]
  intro T hT Y
  exact (W.zret hxx hb hret hn (fun t ht hW => ⟨⟨_, V, d, rfl, hv, hp, by rw [ht]; exact hP⟩, by rw [ht]; exact hS.1, fun q h1 h2 => by rw [ht]; exact hS.2.1 q h1 (by rw [← eA]; exact h2)⟩) hS.2.2 hdg hlk) T hT (stand_widen Y hk.1 hk.2)
theorem zP_aretB {rt : FieldType} (C : zOk V X cc own nL R0 (some rt)) (hrt : (∃ n, rt = .object n) ∨ ∃ t, rt = .array t) {V0 : zW} {mc ms q0 : Nat} (E : zEndB V0 X P mc ms) (hv : zVv V0 V) (hk : k ≤ mc ∧ n ≤ ms) (hp : P (some (.ref q0)) V d) (hdg : decode cc pc = .ok (.areturn, 1)) : zP V X nL k n pc L [.ref q0] d := by
  obtain ⟨p, l, e, R, s, m, args, below, meth, c, Q⟩ := X
  obtain ⟨hxx, hb, hml, hown, hts, hK, hlk, hR, hret, hsz⟩ := C
  change Q = _ at E
  subst E
  intro ls H locs hl hP hS
  have eA : zA V0 = zA V := hv.A.symm
  rw [eA]
  intro T hT Y
  exact (W.aret hxx hb hret hrt (Or.inr ⟨q0, rfl⟩) (fun t ht hW => ⟨⟨_, V, d, rfl, hv, hp, by rw [ht]; exact hP⟩, by rw [ht]; exact hS.1, fun q h1 h2 => by rw [ht]; exact hS.2.1 q h1 (by rw [← eA]; exact h2)⟩) hS.2.2 hdg hlk) T hT (stand_widen Y hk.1 hk.2)
/-- behind a call -/
theorem zP_backB {p : Program} {l : Launch} {e : Env} {R : Room} {s : State} {m : MethodId} {args : Array Value} {below : List Frame} {meth : Method} {c : Code} {Q : State → Prop} {mc ms : Nat} {av : Array Value} {st0 : List Value} (hRR : R = R0)
    {ls : Array Slot} {H : Heap} {locs : List Loc} (hl : zLs ls nL L) (hS : va_S (zA V) s.heap H locs) (hrun : va_Run p l e R s m args below meth c H locs k n mc ms (F0 m pc ls st0) st (zPostB V P av) (zA V))
    (kk : ∀ ov V1 d1, zVv V V1 → P ov V1 d1 → zP V1 (p, l, e, R, s, m, args, below, meth, c, Q) nL (k + mc) (n + ms) (pc + 3) L (ov.toList ++ st) d1) : W p l e R s m args below meth c H locs k n Q (F0 m pc ls st0) := by
  intro T' hT X'
  obtain ⟨v, st₀, t, T2, L2, h0, X2, hL, e1, e2, ⟨⟨ov, V1, d1, hv, hE, hp, hRep⟩, hz, hkp⟩, stp⟩ := hrun T' hT X'
  cases hv
  rw [h0] at hz hkp
  have eA : zA V1 = zA V := hE.A
  obtain ⟨t2, a1, b1⟩ := kk v V1 d1 hE hp ls T2.heap (locs ++ L2) hl (by rw [e1]; exact hRep) (by
    rw [eA]
    exact ⟨Nat.le_trans hS.1 (by rw [e1]; exact hz), fun q h1 h2 => by rw [e1, hkp q (Nat.lt_of_lt_of_le h1 hS.1) h2]; exact hS.2.1 q h1 h2, fun q hq => by
      rcases List.mem_append.mp hq with h | h
      · exact hS.2.2 q h
      · exact hL q h⟩) T2 rfl X2
  exact ⟨t2, stp t2 a1, b1⟩
theorem zP_callVB (C : zOk V X cc own nL R0 ret) (HB : zNBX X) {ix np dp nn mc ms q : Nat} {y : MethodName} {b : ByteArray} {rt : Option FieldType} {fk : Nat → Nat} {As : List Value} (hw : zMV1 own ix y b nn rt np) (hse : zSelX X RJ4 y) (hdg : decode cc pc = .ok (.invokevirtual ix, 3)) (ha : zAt V 440 q (0, 12, fk)) (hM : zMetB V dp mc ms y b nn rt (.ref q :: As) d P) (hfit : zfit dp nn R0) (hlen : As.length = np) (hc : (st.map fun v => v.category).sum ≤ 8) (hkn : k + mc ≤ R0.cells ∧ n + ms ≤ R0.slots)
    (kk : ∀ ov V1 d1, zVv V V1 → P ov V1 d1 → zP V1 X nL (k + mc) (n + ms) (pc + 3) L (ov.toList ++ st) d1) : zP V X nL k n pc L (As.reverse ++ .ref q :: st) d := by
  obtain ⟨hs, rfl⟩ := ha
  obtain ⟨p, l, e, R, s, m, args, below, meth, c, Q⟩ := X
  obtain ⟨hx, hb, hml, hown, hts, hK, hlk, hR, hret, hsz⟩ := C
  intro ls H locs hl hP hS
  obtain ⟨w1, w2, w4, w5, w7, w8⟩ := hw
  subst hR
  have cb : CallB R s args own ix y b nn rt (zwsU y b nn rt) (zrmC dp mc ms) mc ms np := callB_of np hts (zgood w5) rfl rfl rfl (hts _ w4) (hts _ w1) ⟨w7.1, w7.2, w8⟩ hfit
  refine zP_backB rfl hl hS (va_runV (p := p) (e := e) (below := below) (meth := meth) (locs := locs) (cells := k) (slots := n) (As := As) (rest := st) (g := F0 m pc ls (As.reverse ++ .ref (zad V 440) :: st)) ⟨hx, hb, hml, hown, hts⟩ (hM l) ⟨cb, hts _ w2, hse⟩
    ⟨zPreB_blind, (by
      obtain ⟨cell, g1, g2, g3⟩ := va_recv hK.1 (hP.one hs) (show vwCl[12]? = some (RJ4, TJ4, 4) from rfl) (q0 := 0) rfl
      exact ⟨cell, g1, g2, g3⟩), fun U hU hW => ⟨rfl, ⟨by rw [hU]; exact hP, hK.go hS hU hW, fun q hq => hsz q (Nat.le_trans hS.1 (by rw [hU] at hq; exact hq))⟩, zNB.go hW HB⟩⟩
    rfl hlen hl.1 rfl (zcat_sum hc) hdg hkn) kk
theorem zP_callSB (C : zOk V X cc own nL R0 ret) (HB : zNBX X) {ix np dp nn mc ms : Nat} {y : MethodName} {b : ByteArray} {rt : Option FieldType} {As : List Value} (hw : zMS own ix y b nn rt np) (hdg : decode cc pc = .ok (.invokestatic ix, 3)) (hM : zMetB V dp mc ms y b nn rt As d P) (hfit : zfit dp nn R0) (hlen : As.length = np) (hc : (st.map fun v => v.category).sum ≤ 8) (hkn : k + mc ≤ R0.cells ∧ n + ms ≤ R0.slots)
    (kk : ∀ ov V1 d1, zVv V V1 → P ov V1 d1 → zP V1 X nL (k + mc) (n + ms) (pc + 3) L (ov.toList ++ st) d1) : zP V X nL k n pc L (As.reverse ++ st) d := by
  obtain ⟨p, l, e, R, s, m, args, below, meth, c, Q⟩ := X
  obtain ⟨hx, hb, hml, hown, hts, hK, hlk, hR, hret, hsz⟩ := C
  intro ls H locs hl hP hS
  obtain ⟨w1, w2, w4, w5, w7, w8⟩ := hw
  subst hR
  have cb : CallB R s args own ix y b nn rt (zwsU y b nn rt) (zrmC dp mc ms) mc ms np := callB_of np hts (zgood w5) rfl rfl rfl (hts _ w4) (hts _ w1) ⟨w7.1, w7.2, w8⟩ hfit
  exact zP_backB rfl hl hS (va_runS (p := p) (e := e) (below := below) (meth := meth) (locs := locs) (cells := k) (slots := n) (As := As) (rest := st) (g := F0 m pc ls (As.reverse ++ st)) ⟨hx, hb, hml, hown, hts⟩ (hM l) ⟨cb, hts _ w2⟩
    ⟨zPreB_blind, fun U hU hW => ⟨rfl, ⟨by rw [hU]; exact hP, hK.go hS hU hW, fun q hq => hsz q (Nat.le_trans hS.1 (by rw [hU] at hq; exact hq))⟩, zNB.go hW HB⟩⟩
    rfl hlen hl.1 rfl (zcat_sum hc) hdg hkn) kk
theorem zP_callIB (C : zOk V X cc own nL R0 ret) (HB : zNBX X) {ix np dp nn mc ms q : Nat} {y : MethodName} {b : ByteArray} {As : List Value} (hw : zMV1 own ix y b nn none np) (hyn : y.name = "<init>") (hdg : decode cc pc = .ok (.invokespecial ix, 3)) (hM : zMetB V dp mc ms y b nn none (.ref q :: As) d P) (hfit : zfit dp nn R0) (hlen : As.length = np) (hc : (st.map fun v => v.category).sum ≤ 8) (hkn : k + mc ≤ R0.cells ∧ n + ms ≤ R0.slots)
    (kk : ∀ ov V1 d1, zVv V V1 → P ov V1 d1 → zP V1 X nL (k + mc) (n + ms) (pc + 3) L (ov.toList ++ st) d1) : zP V X nL k n pc L (As.reverse ++ .ref q :: st) d := by
  obtain ⟨p, l, e, R, s, m, args, below, meth, c, Q⟩ := X
  obtain ⟨hx, hb, hml, hown, hts, hK, hlk, hR, hret, hsz⟩ := C
  intro ls H locs hl hP hS
  obtain ⟨w1, w2, w4, w5, w7, w8⟩ := hw
  subst hR
  have cb : CallB R s args own ix y b nn none (zwsU y b nn none) (zrmC dp mc ms) mc ms np := callB_of np hts (zgood w5) rfl rfl rfl (hts _ w4) (hts _ w1) ⟨w7.1, w7.2, w8⟩ hfit
  exact zP_backB rfl hl hS (va_runI (p := p) (e := e) (below := below) (meth := meth) (locs := locs) (cells := k) (slots := n) (b := q) (As := As) (rest := st) (g := F0 m pc ls (As.reverse ++ .ref q :: st)) ⟨hx, hb, hml, hown, hts⟩ (hM l) ⟨cb, hyn, hts _ w2⟩
    ⟨zPreB_blind, fun U hU hW => ⟨rfl, ⟨by rw [hU]; exact hP, hK.go hS hU hW, fun q hq => hsz q (Nat.le_trans hS.1 (by rw [hU] at hq; exact hq))⟩, zNB.go hW HB⟩⟩
    rfl hlen hl.1 rfl (zcat_sum hc) hdg hkn) kk
/-- the class above's own method, on this -/
theorem zP_callUB (C : zOk V X cc own nL R0 ret) (HB : zNBX X) {ix np dp nn mc ms q : Nat} {y : MethodName} {b : ByteArray} {rt : Option FieldType} {fk : Nat → Nat} {As : List Value} (hw : zMV1 own ix y b nn rt np) (hsm : Cond.sameMethod y.cls y.cls y.name y.desc ∈ zT) (hsu : Cond.superclass own y.cls ∈ zT) (hyn : y.name ≠ "<init>") (hdg : decode cc pc = .ok (.invokespecial ix, 3)) (ha : zAt V 440 q (0, 12, fk)) (hM : zMetB V dp mc ms y b nn rt (.ref q :: As) d P) (hfit : zfit dp nn R0) (hlen : As.length = np) (hc : (st.map fun v => v.category).sum ≤ 8) (hkn : k + mc ≤ R0.cells ∧ n + ms ≤ R0.slots)
    (kk : ∀ ov V1 d1, zVv V V1 → P ov V1 d1 → zP V1 X nL (k + mc) (n + ms) (pc + 3) L (ov.toList ++ st) d1) : zP V X nL k n pc L (As.reverse ++ .ref q :: st) d := by
  obtain ⟨hs, rfl⟩ := ha
  obtain ⟨p, l, e, R, s, m, args, below, meth, c, Q⟩ := X
  obtain ⟨hx, hb, hml, hown, hts, hK, hlk, hR, hret, hsz⟩ := C
  intro ls H locs hl hP hS
  obtain ⟨w1, w2, w4, w5, w7, w8⟩ := hw
  subst hR
  have cw : va_CS R s args own ix y b nn rt (zwsU y b nn rt) (zrmC dp mc ms) mc ms np := va_cwSU np hts (fun w hw => by
    rcases List.mem_append.mp hw with hw | hw
    · simp only [List.mem_cons, List.not_mem_nil, or_false] at hw
      rcases hw with rfl | rfl | rfl | rfl | rfl
      · exact zTg _ w1
      · exact zTg _ hsm
      · exact zTg _ hsu
      · exact zTg _ w2
      · exact zTg _ w4
    · exact zgood w5 w hw) rfl rfl rfl ⟨hyn, w8⟩ hfit
  exact zP_backB rfl hl hS (va_runSU (p := p) (e := e) (below := below) (meth := meth) (locs := locs) (cells := k) (slots := n) (As := As) (rest := st) (g := F0 m pc ls (As.reverse ++ .ref (zad V 440) :: st)) (hK.1.1 12 _ rfl).2 ⟨hx, hb, hml, hown, hts⟩ (hM l) cw
    ⟨zPreB_blind, (by
      obtain ⟨cell, g1, g2, g3⟩ := va_recv hK.1 (hP.one hs) (show vwCl[12]? = some (RJ4, TJ4, 4) from rfl) (q0 := 0) rfl
      exact ⟨cell, g1, g2, g3⟩), fun U hU hW => ⟨rfl, ⟨by rw [hU]; exact hP, hK.go hS hU hW, fun q hq => hsz q (Nat.le_trans hS.1 (by rw [hU] at hq; exact hq))⟩, zNB.go hW HB⟩⟩
    rfl hlen hl.1 rfl (zcat_sum hc) hdg hkn) kk
/-- a method that the receiver's class overrides -/
theorem zP_callOB (C : zOk V X cc own nL R0 ret) (HB : zNBX X) {ix np dp nn mc ms q : Nat} {x y : MethodName} {b b0 : ByteArray} {m0 : Nat} {r0 rt : Option FieldType} {fk : Nat → Nat} {As : List Value} (hl1 : Cond.methodLink own ix x ∈ zT) (hsm : Cond.sameMethod x.cls x.cls x.name x.desc ∈ zT) (hi0 : Cond.instanceMethod ⟨x.cls, x.name, x.desc⟩ ∈ zT) (hsel : Cond.selects RJ4 x y ∈ zT) (hi1 : Cond.instanceMethod y ∈ zT) (hin : Cond.initialized y.cls ∈ zT) (w5 : Cond.code y b nn rt ∈ zT) (h0 : Cond.code ⟨x.cls, x.name, x.desc⟩ b0 m0 r0 ∈ zT) (hd : x.cls ≠ "java/lang/invoke/MethodHandle" ∧ x.cls ≠ "java/lang/invoke/VarHandle" ∧ (parseMethodDescriptor x.desc).map (fun d => d.parameters.length) = some np) (hdg : decode cc pc = .ok (.invokevirtual ix, 3)) (ha : zAt V 440 q (0, 12, fk)) (hM : zMetB V dp mc ms y b nn rt (.ref q :: As) d P) (hfit : zfit dp nn R0) (hlen : As.length = np) (hc : (st.map fun v => v.category).sum ≤ 8) (hkn : k + mc ≤ R0.cells ∧ n + ms ≤ R0.slots)
    (kk : ∀ ov V1 d1, zVv V V1 → P ov V1 d1 → zP V1 X nL (k + mc) (n + ms) (pc + 3) L (ov.toList ++ st) d1) : zP V X nL k n pc L (As.reverse ++ .ref q :: st) d := by
  obtain ⟨hs, rfl⟩ := ha
  obtain ⟨p, l, e, R, s, m, args, below, meth, c, Q⟩ := X
  obtain ⟨hx, hb, hml, hown, hts, hK, hlk, hR, hret, hsz⟩ := C
  intro ls H locs hl hP hS
  subst hR
  have cw : va_CU R s args own RJ4 x.cls ix x y b nn rt (zwsU y b nn rt) (zrmC dp mc ms) mc ms np := va_cwO np hts (fun w hw => by
    rcases List.mem_append.mp hw with hw | hw
    · simp only [List.mem_cons, List.not_mem_nil, or_false] at hw
      rcases hw with rfl | rfl | rfl | rfl | rfl | rfl
      · exact zTg _ hl1
      · exact zTg _ hsm
      · exact zTg _ hi0
      · exact zTg _ hsel
      · exact zTg _ hi1
      · exact zTg _ hin
    · exact zgood w5 w hw) rfl rfl rfl h0 hd hfit
  exact zP_backB rfl hl hS (va_runU (p := p) (e := e) (below := below) (meth := meth) (locs := locs) (cells := k) (slots := n) (As := As) (rest := st) (g := F0 m pc ls (As.reverse ++ .ref (zad V 440) :: st)) ⟨hx, hb, hml, hown, hts⟩ (hM l) cw
    ⟨zPreB_blind, (by
      obtain ⟨cell, g1, g2, g3⟩ := va_recv hK.1 (hP.one hs) (show vwCl[12]? = some (RJ4, TJ4, 4) from rfl) (q0 := 0) rfl
      exact ⟨cell, g1, g2, g3⟩), fun U hU hW => ⟨rfl, ⟨by rw [hU]; exact hP, hK.go hS hU hW, fun q hq => hsz q (Nat.le_trans hS.1 (by rw [hU] at hq; exact hq))⟩, zNB.go hW HB⟩⟩
    rfl hlen hl.1 rfl (zcat_sum hc) hdg hkn) kk
end BLD
