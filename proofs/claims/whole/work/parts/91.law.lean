/-! THE CLAIM OUT OF ONE WALK OF THE LAW'S BODY. Your part is whole_start (and what it stands on); all else here is the same for every law, but numbers. -/
def R_law : String := "PolledLineLaw"
def lw_P (b : Addr) (xs : List Int32) (args : Array Value) (s : State) : Prop := args = #[.ref b] ∧ s.IntsAt b xs ∧ xs.length ≤ 3072 ∧ (Jvm.Cond.and given_1 narrow_1).before args s = true
/-- what a walk over the start with the record d0 says of its end, said of the start itself -/
theorem lw_closed {s t : State} {o : Outcome} {d0 : Drawn} {L : List Loc} {k n : Nat} (hd0 : s.drawn.sameBut d0 lw_cs) (hv : ∃ v, o = .returned v) (hW : (s.setDrawn d0).WarmedH t.vm) (hs : (s.setDrawn d0).sameButNew ({ t with vm := s.vm } : State) L k n) : State.butDraws s t lw_cs (fun t1 => Framed s o t1 L k n) := by
  have h2 : t.drawn = d0 := congrArg State.drawn hs.1
  refine ⟨⟨hv, hW, State.sameButNew.setDrawn hs s.drawn⟩, ?_, by decide⟩
  rw [h2]
  exact hd0
def lw_Q (_ : Array Value) (s : State) (o : Outcome) (t : State) : Prop := o = .returned (some (.int 1)) ∧ State.butDraws s t lw_cs (fun t1 => Framed s o t1 [] 601024 7293034)
def lw_Z (below : List Frame) (a : Array Value) (s : State) : State → Prop := fun t => ∃ o, t.status = .running ∧ Ended t below o ∧ lw_Q a s o t
/-- the law's own end, with 1 on the stack, nothing written that was there before, its room as the claim has it; d0: the record of draws at this point (at the entry s.drawn: begin with 'refine W.base ?_' and 'have hd0 := Drawn.sameBut.refl s.drawn lw_cs') -/
theorem lw_ret {p : Program} {l : Launch} {e : Env} {s : State} {m : MethodId} {below : List Frame} {meth : Method} {c : Code} {b : Nat} {d0 : Drawn} (hd0 : s.drawn.sameBut d0 lw_cs) (hx : p.tables.exec = Jvm.exec) (hb : c.code = code) (hr : meth.sig.returnType = ret) (hlocks : meth.locks = false) {pc : Nat} {H : Heap} {ls : Array Slot} (hdg : decode code pc = .ok (.ireturn, 1)) : W p l e room_1 (s.setDrawn d0) m #[Value.ref b] below meth c H [] 601024 7293034 (lw_Z below #[Value.ref b] s) (F0 m pc ls [.int 1]) := by
  intro T hT X
  obtain ⟨fs, hret, hrun, hended, hW, hframe⟩ := X.leave (v := some (.int 1)) (hlocks := hlocks) (fun h => by rw [hr] at h; cases h)
  have hmeth' : T.vm.method? m = some meth := X.method'
  refine ⟨T.setFrames fs, ?_, .returned (some (.int 1)), hrun, hended, rfl, lw_closed hd0 ⟨_, rfl⟩ hW hframe⟩
  jvm_step X.here [X.here.top, hx, hb, hdg, hmeth', hr, ret, narrow_b1]
  (try refine ⟨rfl, ?_⟩); (try refine ⟨rfl, ?_⟩)
  first | (intro acts; rw [hret _ acts rfl rfl rfl]) | rw [hret _ _ rfl rfl rfl]
  exact Steps.refl _
/-- what holds at the law's entry: the machine, the code, the tables' words (any of lw_tbl by 'hts w (by decide +kernel)'), the script of L ints xs at the cell b, what the Statement gives of the start (any of its parts by flat_of_before) -/
def lw_At (p : Program) (s : State) (m : MethodId) (meth : Method) (c : Code) (b L : Nat) (xs : Nat → Int32) : Prop :=
  p.tables.exec = Jvm.exec ∧ c.code = code ∧ meth.sig.returnType = ret ∧ c.maxLocals = 9 ∧ s.vm.findClass R_law = some m.cls ∧ (∀ w ∈ lw_tbl, w.before #[Value.ref b] s = true) ∧ va_X b L xs s s.heap ∧ b < s.heap.size ∧ meth.locks = false ∧ (Jvm.Cond.and given_1 narrow_1).before #[Value.ref b] s = true
/-! The law's own rules: the script, its end, longs, doubles, calls of methods with a table of their own. -/
theorem nn_f2d (a : UInt32) (h : vf_n32 a) : vf_n64 (FP.f2d a) := by
  have e1 : (0x7fffffffffffffff : UInt64).toNat = 2 ^ 63 - 1 := by decide +kernel
  have e2 : (0x7ff0000000000000 : UInt64).toNat = 9218868437227405312 := by decide +kernel
  have e3 : (0x7fffffff : UInt32).toNat = 2 ^ 31 - 1 := by decide +kernel
  have e4 : (0x7f800000 : UInt32).toNat = 2139095040 := by decide +kernel
  have h1 : a &&& 0x7fffffff ≤ 0x7f800000 := h
  rw [UInt32.le_iff_toNat_le, UInt32.toNat_and, e3, e4, Nat.and_two_pow_sub_one_eq_mod] at h1
  have h2 := (Jvm.FP.Core.ne_nan32 a).mpr h1
  have h3 : ¬ Jvm.FP.Core.fIsNaN a = true := fun q => h2 ((Jvm.FP.Core.fIsNaN_iff a).mp q)
  have h9 : FP.f2d a = Jvm.FP.Core.f2d a := by
    unfold FP.f2d
    rw [if_neg h3]
  rw [← Jvm.FP.Core.f2d_nan, Jvm.FP.Core.dIsNaN_iff] at h3
  have h4 := (Jvm.FP.Core.ne_nan _).mp h3
  rw [h9]
  show (Jvm.FP.Core.f2d a) &&& 0x7fffffffffffffff ≤ 0x7ff0000000000000
  rw [UInt64.le_iff_toNat_le, UInt64.toNat_and, e1, e2, Nat.and_two_pow_sub_one_eq_mod]
  exact h4
/-- what is thrown is of no other's class -/
def zNC (U : State) : Prop := ∀ i j, i < 4 → j < 4 → i ≠ j → va_Nc (zXn i) (zXn j) U
theorem zNC.go {s U : State} (hW : s.WarmedH U.vm) (h : zNC s) : zNC U := fun i j hi hj hn => (h i j hi hj hn).moved hW.alike
theorem zNC.same {s U : State} (hv : s.vm = U.vm) (h : zNC s) : zNC U := fun i j hi hj hn => (h i j hi hj hn).moved (by rw [hv]; exact Vm.Alike.refl _)
def zPreT (V : zW) (d : zD) (U : State) : Prop := zPreX V d U ∧ zNC U
theorem zPreT_blind {V : zW} {d : zD} {av : List Value} : FrameBlind (va_Pc av (zPreT V d)) := fun a U g mk q => by
  obtain ⟨q0, q1, q2⟩ := q
  obtain ⟨r0, r1⟩ := zPreX_blind (V := V) (d := d) (av := av) a U g mk ⟨q0, q1⟩
  exact ⟨r0, r1, zNC.same (s := U) (U := U.calling g mk a) rfl q2⟩
abbrev zH : Type := List (Nat × Nat × Nat × Nat)
def zwsH (y : MethodName) (b : ByteArray) (nn : Nat) (hh : zH) : List Cond := .codeWith y b nn (some .int) hh :: zT
def zMetT (V : zW) (y : MethodName) (b : ByteArray) (nn : Nat) (hh : zH) (av : List Value) (d : zD) (rv : Int) (d' : zD) : Prop :=
  ∀ l : Launch, l.stackTraces = false → Met l y (zwsH y b nn hh) (zrmX 8) (va_Pc av (zPreT V d)) (zPost V (some (.int (zI rv))) (zR rv) d') 1 6 (zA V)
def zEndT (V : zW) (X : zX) (hh : zH) (rv : Int) (d' : zD) : Prop := match X with
  | (_, l, _, _, s, _, args, below, _, c, Q) => (l.stackTraces = false ∧ c.exceptionTable.toList = tableOf hh ∧ zKX V s s.heap ∧ zNC s) ∧ Q = MQ below (zPost V (some (.int (zI rv))) (zR rv) d') args s 1 6 (zA V)
theorem zMetT_by {V : zW} {nn : Nat} {y : MethodName} {b : ByteArray} {hh : zH} {av : List Value} {d d' : zD} {rv : Int} (own : String) (hy : plainName y.cls = true) (hyo : y.cls = own) (hle : (lg_sl av).length ≤ nn) (L0 : List (Option Value)) (hL0 : lv_args 0 av = zLp 0 L0)
    (body : ∀ (X : zX), zOk V X b own nn (zrmX 8) (some .int) → zEndT V X hh rv d' → zP V X nn 0 0 0 L0 [] d) : zMetT V y b nn hh av d rv d' := by
  intro l hst
  refine MetFree.of_bodyS (code := b) (maxLocals := nn) (ret := some .int) hy ?_ ?_
  · intro args s m h hn
    obtain ⟨m9, meth, c, hn9, h1, h2, h3, h4, -, h5, h6, -⟩ := Cond.codeWith_spec (atoms_spec (ws := zwsH y b nn hh) h _ List.mem_cons_self)
    cases hn.symm.trans hn9
    exact ⟨meth, c, h1, h2, h3, h4, h5, h6⟩
  · intro p e s m args below meth c s₁ B hml hv _
    have hh0 : s₁.heap = s.heap := by rw [B.state]; rfl
    obtain ⟨rfl, ⟨⟨hP, hK, hsz⟩, hX⟩, hN⟩ := hv
    have hts := atoms_spec (ws := zwsH y b nn hh) B.pre
    have htab := vx_table (x := y) B (hts _ List.mem_cons_self)
    have Wk : W p l e (headSpec (zwsH y b nn hh) (zrmX 8)).room s m av.toArray below meth c s.heap [] 0 0 (MQ below (zPost V (some (.int (zI rv))) (zR rv) d') av.toArray s 1 6 (zA V)) (entryFrame m av.toArray nn) := by
      have hl := lv_entry av (n := nn) hle
      rw [lg_entry_eq]
      generalize (lg_sl av ++ List.replicate (nn - (lg_sl av).length) Slot.unset).toArray = ls at hl ⊢
      exact body (p, l, e, (headSpec (zwsH y b nn hh) (zrmX 8)).room, s, m, av.toArray, below, meth, c, MQ below (zPost V (some (.int (zI rv))) (zR rv) d') av.toArray s 1 6 (zA V)) ⟨B.exec, B.bytes, hml, by rw [← hyo]; exact findClass_of_methodNamed B.named, fun w hw => hts w (List.mem_cons_of_mem _ hw), hK, B.notSynchronized, rfl, B.returns, hsz⟩ ⟨⟨hst, htab, hX, hN⟩, rfl⟩ ls s.heap [] (by unfold zLs; rw [← hL0]; exact hl) hP va_S.rf
    obtain ⟨t, a1, o, b1, b2, b3⟩ := Wk s₁ hh0 (Stand.of_body B)
    exact ⟨t, o, a1, b1, b2, ⟨b3.1, b3.2⟩⟩
section LAWR
variable {V : zW} {X : zX} {cc : ByteArray} {own : String} {nL k n pc : Nat} {R0 : Room} {ret : Option FieldType} {L L' : List (Option Value)} {st : List Value} {d d' : zD}
theorem zP_iretT (C : zOk V X cc own nL R0 (some .int)) {hh : zH} {x rv : Int} (E : zEndT V X hh rv d') (hk : k ≤ 1 ∧ n ≤ 6) (hdg : decode cc pc = .ok (.ireturn, 1)) (hx : zR x) (he : x = rv) (hd : d = d') : zP V X nL k n pc L [.int (zI x)] d := by
  obtain ⟨p, l, e, R, s, m, args, below, meth, c, Q⟩ := X
  obtain ⟨hxx, hb, hml, hown, hts, hK, hlk, hR, hret, hsz⟩ := C
  subst he
  subst hd
  obtain ⟨-, E⟩ := E
  change Q = _ at E
  subst E
  intro ls H locs hl hP hS T hT Y
  exact (W.iret hxx hb hret (fun t ht hW => ⟨⟨rfl, hx, by rw [ht]; exact hP⟩, by rw [ht]; exact hS.1, fun q h1 h2 => by rw [ht]; exact hS.2.1 q h1 h2⟩) hS.2.2 hdg hlk) T hT (stand_widen Y hk.1 hk.2)
theorem zP_callX (C : zOk V X cc own nL (zrmX 8) ret) {hh : zH} {rv v : Int} (E : zEndT V X hh rv d') {ix np dp nn a : Nat} {y : MethodName} {b : ByteArray} {fk : Nat → Nat} {As : List Value} {d1 : zD} (hw : zMV own ix RX11 y b nn (some .int) np) (hdg : decode cc pc = .ok (.invokevirtual ix, 3)) (hs : zsh V a = some (0, 11, fk)) (hM : zMetX V dp y b nn (some .int) (.ref (zad V a) :: As) d (some (.int (zI v))) (zR v) v d1) (hfit : zfit dp nn (zrmX 8)) (hlen : As.length = np) (hc : (st.map fun v => v.category).sum ≤ 8)
    (kk : zR v → zP V X nL 1 6 (pc + 3) L (.int (zI v) :: st) d1)
    (kx : ∀ j : Nat, j < 4 → v = 4294967296 + (j : Int) → ∃ (pre : List ExceptionTableEntry) (x : ExceptionTableEntry) (suf : List ExceptionTableEntry), tableOf hh = pre ++ x :: suf ∧ (∀ z ∈ pre, z.catchType ≠ 0 ∧ ∃ i : Nat, i < 4 ∧ j ≠ i ∧ Cond.classLink own z.catchType (zXn i) ∈ zT) ∧ covers x pc = true ∧ x.catchType ≠ 0 ∧ Cond.classLink own x.catchType (zXn j) ∈ zT ∧ ∀ q : Nat, zP V X nL 1 6 x.handlerPc L [.ref q] d1) : zP V X nL 0 0 pc L (As.reverse ++ .ref (zad V a) :: st) d := by
  obtain ⟨p, l, e, R, s, m, args, below, meth, c, Q⟩ := X
  obtain ⟨hx, hb, hml, hown, hts, hK, hlk, hR, hret, hsz⟩ := C
  obtain ⟨⟨e1, e2, e3, e4⟩, -⟩ := E
  intro ls H locs hl hP hS
  obtain ⟨w1, w2, w3, w4, w5, w6, w7, w8⟩ := hw
  subst hR
  have cb : CallB (zrmX 8) s args own ix y b nn (some .int) (zwsU y b nn (some .int)) (zrmX dp) 1 6 np := callB_of np hts (zgood w5) rfl rfl rfl (by rw [w6]; exact hts _ w4) (hts _ w1) ⟨w7.1, w7.2, w8⟩ hfit
  have hrun := vx_runV (p := p) (e := e) (below := below) (meth := meth) (locs := locs) (cells := 0) (slots := 0) (As := As) (rest := st) (g := F0 m pc ls (As.reverse ++ .ref (zad V a) :: st)) ⟨hx, hb, hml, hown, hts⟩ (hM l e1) ⟨cb, hts _ w2, hts _ w3⟩
    ⟨zPreX_blind, (by
      obtain ⟨cell, g1, g2, g3⟩ := va_recv hK.1 (hP.one hs) (show vwCl[11]? = some (RX11, TX11, 13) from rfl) (q0 := 0) rfl
      exact ⟨cell, g1, g2, g3⟩), fun U hU hW => ⟨rfl, ⟨by rw [hU]; exact hP, hK.go hS hU hW, by rw [hU]; exact Nat.le_trans hsz hS.1⟩, by rw [hU]; exact e3.go hW (fun q h1 h2 => hS.2.1 q h1 h2)⟩⟩
    rfl hlen hl.1 rfl (zcat_sum hc) hdg ⟨Nat.le_refl _, Nat.le_refl _⟩
  intro T' hT Y
  have keep : ∀ {st₀ t T2 : State} {L2 : List Loc}, st₀.heap = H → T2.heap = t.heap → (∀ q ∈ L2, zA V q.base) → va_F (zA V) st₀ t → va_S (zA V) s.heap T2.heap (locs ++ L2) := fun {st₀ t T2 L2} h0 e9 hL hF => by
    obtain ⟨hz, hkp⟩ := hF
    rw [h0] at hz hkp
    exact ⟨Nat.le_trans hS.1 (by rw [e9]; exact hz), fun q h1 h2 => by rw [e9, hkp q (Nat.lt_of_lt_of_le h1 hS.1) h2]; exact hS.2.1 q h1 h2, fun q hq => by
      rcases List.mem_append.mp hq with h | h
      · exact hS.2.2 q h
      · exact hL q h⟩
  rcases hrun T' hT Y with ⟨v', st₀, t, T2, L2, h0, X2, hL, g1, g2, ⟨⟨hv, hφ, hRep⟩, hF⟩, stp⟩ | ⟨q9, st₀, t, T2, L2, En, ce, h0, X2, hL, g1, g2, ⟨⟨j, hj, hE, hvj⟩, hRep, hF⟩, hce, hcv, hcl, stp⟩
  · cases hv
    obtain ⟨t2, a1, b1⟩ := kk hφ ls T2.heap (locs ++ L2) hl (by rw [g1]; exact hRep) (keep h0 g1 hL hF) T2 rfl X2
    exact ⟨t2, stp t2 a1, b1⟩
  · subst hE
    obtain ⟨pre, x, suf, hsplit, hpre, hcov, hx0, hxl, hk9⟩ := kx j hj hvj
    have hcast : (Cond.castable (zXn j) (zXn j)).before args s = true := by
      have hm : Cond.castable (zXn j) (zXn j) ∈ zXB := by
        rcases (show j = 0 ∨ j = 1 ∨ j = 2 ∨ j = 3 by omega) with rfl | rfl | rfl | rfl <;> simp [zXB]
      exact (e3.2.2 _ hm).use (zXB_ok _ hm).1
    obtain ⟨t2, a1, b1⟩ := vx_catch (own := own) (name := zXn j) (E := zXn j) (pc := pc) (ls := ls) (rest := st) (H := T2.heap) (locs := locs ++ L2) (cells := 1) (slots := 6) (Q := Q) hown pre x suf (e2.trans hsplit) (fun z hz => by
      obtain ⟨z0, i, hi, hij, hzl⟩ := hpre z hz
      exact Or.inr ⟨z0, _, hts _ hzl, e4 j i hj hi hij⟩) hcov hx0 (hts _ hxl) hcast (by rw [g1]; exact hce) hcv hcl (hk9 q9 ls T2.heap (locs ++ L2) hl (by rw [g1]; exact hRep) (keep h0 g1 hL hF)) T2 rfl X2
    exact ⟨t2, stp.trans a1, b1⟩
theorem zP_i2l (C : zOk V X cc own nL R0 ret) {x : Int} (hdg : decode cc pc = .ok (.i2l, 1)) (kk : zP V X nL k n (pc + 1) L (.long ((zI x).toInt64) :: st) d) : zP V X nL k n pc L (.int (zI x) :: st) d := by
  obtain ⟨p, l, e, R, s, m, args, below, meth, c, Q⟩ := X
  obtain ⟨hx, hb, hml, hown, hts, hK, hlk, hR, hret, hsz⟩ := C
  intro ls H locs hl hP hS
  exact lv_i2l hx hb hdg rfl (kk ls H locs hl hP hS)
theorem zP_last (C : zOk V X cc own nL R0 ret) {a N : Nat} {i v : Int} {fk : Nat → Nat} (hdg : decode cc pc = .ok (.lastore, 1)) (hs : zsh V a = some (4, N, fk)) (hi : zR i) (hv : zR v) (hg : 0 ≤ i ∧ i < (N : Int)) (kk : zP V X nL k n (pc + 1) L st (zu d a i.toNat v)) : zP V X nL k n pc L (.long ((zI v).toInt64) :: .int (zI i) :: .ref (zad V a) :: st) d := by
  obtain ⟨p, l, e, R, s, m, args, below, meth, c, Q⟩ := X
  obtain ⟨hx, hb, hml, hown, hts, hK, hlk, hR, hret, hsz⟩ := C
  intro ls H locs hl hP hS
  refine W.last hx hb (hP.1 a _ hs).1 ((hK.1.2 3 _ rfl).1 N (fun j => .long ((zI (d a j)).toInt64))) (fun q => by cases q) (by show ¬ (zI i < 0 ∨ (arrV _ _ _).slots.size ≤ _); rw [arrV_size]; exact zI_in hi hg) rfl rfl hdg fun H1 e1 e2 e3 => ?_
  refine kk ls H1 _ hl (hP.set hs hv ?_ e3) (hS.put e2 e3 (hP.1 a _ hs).2)
  show H1[zad V a]? = some (vp_cell _ _)
  rw [e1, zI_cl hi]
  show some ((arrV _ _ _).setSlot _ _) = some (vp_cell _ _)
  rw [vp_cell_l, arrV_store]
  congr 2
  funext q
  by_cases hq : q = i.toNat
  · subst hq
    simp [updV, zu_eq]
  · simp [updV, hq, zu_ne (d := d) (a := a) (k := i.toNat) (b := a) (j := q) (v := v) (Or.inr hq)]
theorem zP_lald (C : zOk V X cc own nL R0 ret) {a N : Nat} {i : Int} {fk : Nat → Nat} (hdg : decode cc pc = .ok (.laload, 1)) (hs : zsh V a = some (4, N, fk)) (hi : zR i) (hg : 0 ≤ i ∧ i < (N : Int)) (kk : zP V X nL k n (pc + 1) L (.long ((zI (d a i.toNat)).toInt64) :: st) d) : zP V X nL k n pc L (.int (zI i) :: .ref (zad V a) :: st) d := by
  obtain ⟨p, l, e, R, s, m, args, below, meth, c, Q⟩ := X
  obtain ⟨hx, hb, hml, hown, hts, hK, hlk, hR, hret, hsz⟩ := C
  intro ls H locs hl hP hS
  refine va_lald (D := zDD V) (tys := zty V) (ws := [(zad V a, zE V (4, N, fk) (d a))]) (f := fun j => (zI (d a j)).toInt64) hx hb hK.1 (hP.one hs) 0 3 rfl rfl (zI_in hi hg) hdg ?_
  rw [zI_cl hi]
  exact kk ls H locs hl hP hS
theorem zP_lcmp0 (C : zOk V X cc own nL R0 ret) {x y : Int64} (hdg : decode cc pc = .ok (.lcmp, 1)) (he : x = y) (kk : zP V X nL k n (pc + 1) L (.int (zI 0) :: st) d) : zP V X nL k n pc L (.long y :: .long x :: st) d := by
  obtain ⟨p, l, e, R, s, m, args, below, meth, c, Q⟩ := X
  obtain ⟨hx, hb, hml, hown, hts, hK, hlk, hR, hret, hsz⟩ := C
  subst he
  intro ls H locs hl hP hS
  refine W.lcmp hx hb hdg ?_
  have e1 : lg_cmp x x = zI 0 := by
    simp [lg_cmp]
    rfl
  rw [e1]
  exact kk ls H locs hl hP hS
theorem zP_dstore (C : zOk V X cc own nL R0 ret) {i : Nat} {x : UInt64} (hdg : decode cc pc = .ok (.dstore i, 2)) (hn : i + 1 < nL) (hc : ∀ j w, L[j]? = some (some w) → j ≠ i → j ≠ i + 1 ∧ (j + 1 = i → w.category = 1)) (hL : L.set i (some (.double x)) = L') (kk : zP V X nL k n (pc + 2) L' (st) d) : zP V X nL k n pc L (.double x :: st) d := by
  obtain ⟨p, l, e, R, s, m, args, below, meth, c, Q⟩ := X
  obtain ⟨hx, hb, hml, hown, hts, hK, hlk, hR, hret, hsz⟩ := C
  intro ls H locs hl hP hS
  refine lv_dstore hx hb hdg hl hn rfl fun ls' h' => kk ls' H locs (zLs.of h' (fun j w hj hne => ?_) hL) hP hS
  have h1 := zLp_mem (i := 0) hj
  rw [Nat.zero_add] at h1
  obtain ⟨c1, c2⟩ := hc j w hj hne
  refine List.mem_filter.mpr ⟨h1, ?_⟩
  by_cases h9 : j + 1 = i
  · have c3 := c2 h9
    simp [hne, c1, c3]
  · simp [hne, c1, h9]
theorem zP_dload (C : zOk V X cc own nL R0 ret) {i : Nat} {x : UInt64} (hdg : decode cc pc = .ok (.dload i, 2)) (hv : L[i]? = some (some (.double x))) (kk : zP V X nL k n (pc + 2) L (.double x :: st) d) : zP V X nL k n pc L (st) d := by
  obtain ⟨p, l, e, R, s, m, args, below, meth, c, Q⟩ := X
  obtain ⟨hx, hb, hml, hown, hts, hK, hlk, hR, hret, hsz⟩ := C
  intro ls H locs hl hP hS
  exact lv_dload hx hb hdg (hl.at hv) (kk ls H locs hl hP hS)
theorem zP_dcmp (C : zOk V X cc own nL R0 ret) {x y : UInt64} {op : CmpOp} (hdg : decode cc pc = .ok (.dcmp op, 1)) (kk : zP V X nL k n (pc + 1) L (.int (zI (Op.cmpValue (FP.dcmp x y) op).toInt) :: st) d) : zP V X nL k n pc L (.double y :: .double x :: st) d := by
  obtain ⟨p, l, e, R, s, m, args, below, meth, c, Q⟩ := X
  obtain ⟨hx, hb, hml, hown, hts, hK, hlk, hR, hret, hsz⟩ := C
  intro ls H locs hl hP hS
  refine lv_dcmp hx hb hdg ?_
  rw [zI_of] at kk
  exact kk ls H locs hl hP hS
theorem zP_f2d (C : zOk V X cc own nL R0 ret) {x : UInt32} (hdg : decode cc pc = .ok (.f2d, 1)) (hne : vf_n64 (FP.f2d x)) (kk : zP V X nL k n (pc + 1) L (.double (FP.f2d x) :: st) d) : zP V X nL k n pc L (.float x :: st) d := by
  obtain ⟨p, l, e, R, s, m, args, below, meth, c, Q⟩ := X
  obtain ⟨hx, hb, hml, hown, hts, hK, hlk, hR, hret, hsz⟩ := C
  intro ls H locs hl hP hS
  exact lv_f2d hx hb hdg hne (kk ls H locs hl hP hS)
/-- whole numbers all through -/
theorem zP_R (kk : (∀ b j, zR (d b j)) → zP V X nL k n pc L st d) : zP V X nL k n pc L st d := by
  obtain ⟨p, l, e, R, s, m, args, below, meth, c, Q⟩ := X
  intro ls H locs hl hP hS
  exact kk hP.2.2 ls H locs hl hP hS
theorem zP_wide {k1 n1 : Nat} (h1 : k ≤ k1) (h2 : n ≤ n1) (kk : zP V X nL k1 n1 pc L st d) : zP V X nL k n pc L st d := by
  obtain ⟨p, l, e, R, s, m, args, below, meth, c, Q⟩ := X
  intro ls H locs hl hP hS
  exact W.widen h1 h2 (kk ls H locs hl hP hS)
end LAWR
/-- what holds all through the law -/
def zLX (V : zW) (X : zX) (b L : Nat) (xs : Nat → Int32) : Prop := match X with
  | (_, l, _, _, s, _, args, below, _, _, Q) => l.stackTraces = false ∧ zKX V s s.heap ∧ zN s ∧ zNC s ∧ va_X b L xs s s.heap ∧ b < s.heap.size ∧ zsz V = s.heap.size ∧ args = #[.ref b] ∧ Q = lw_Z below #[.ref b] s
theorem zLX.go {V V1 : zW} {X : zX} {b L : Nat} {xs : Nat → Int32} {S : Nat → Prop} (E : zEy V V1 S) (h : zLX V X b L xs) : zLX V1 X b L xs := by
  obtain ⟨⟨ad, sh, rfl⟩, -⟩ := E
  exact h
def zMT (own : String) (ix : Nat) (y : MethodName) (b : ByteArray) (nn : Nat) (hh : zH) (np : Nat) : Prop :=
  Cond.methodLink own ix y ∈ zT ∧ Cond.static y ∈ zT ∧ Cond.initialized y.cls ∈ zT ∧ Cond.codeWith y b nn (some .int) hh ∈ zT ∧ (y.cls ≠ "java/lang/invoke/MethodHandle" ∧ y.cls ≠ "java/lang/invoke/VarHandle") ∧ (parseMethodDescriptor y.desc).map (fun d => d.parameters.length) = some np
theorem zgoodT {own : String} {ix : Nat} {y : MethodName} {b : ByteArray} {nn : Nat} {hh : zH} {np : Nat} (h : zMT own ix y b nn hh np) : GoodIn zT (va_wsS own ix y (zwsH y b nn hh)) := fun w hw => by
  obtain ⟨h1, h2, h3, h4, -⟩ := h
  unfold va_wsS zwsH at hw
  simp only [List.mem_append, List.mem_cons, List.not_mem_nil, or_false] at hw
  rcases hw with (rfl | rfl | rfl) | rfl | hw
  · exact zTg _ h1
  · exact zTg _ h2
  · exact zTg _ h3
  · exact zTg _ h4
  · exact zTg _ hw
theorem zI_nat (j : Nat) (h : j < 3073) : Int32.ofNat j = zI (j : Int) := by
  apply Int32.toInt_inj.mp
  rw [zI_toInt ⟨by omega, by omega⟩]
  exact Int32.toInt_ofNat_of_lt (by omega)
section LAWS
variable {V : zW} {X : zX} {cc : ByteArray} {own : String} {nL k n pc : Nat} {R0 : Room} {ret0 : Option FieldType} {L L' : List (Option Value)} {st : List Value} {d d' : zD} {b N : Nat} {xs : Nat → Int32}
theorem zP_sld (C : zOk V X cc own nL R0 ret0) (LX : zLX V X b N xs) {i : Int} (hdg : decode cc pc = .ok (.iaload, 1)) (hi : zR i) (hg : 0 ≤ i ∧ i < (N : Int)) (kk : zP V X nL k n (pc + 1) L (.int (zI (xs i.toNat).toInt) :: st) d) : zP V X nL k n pc L (.int (zI i) :: .ref b :: st) d := by
  obtain ⟨p, l, e, R, s, m, args, below, meth, c, Q⟩ := X
  obtain ⟨hx, hb, hml, hown, hts, hK, hlk, hR, hret, hsz⟩ := C
  obtain ⟨-, -, -, -, hX, hbl, hz, -⟩ := LX
  intro ls H locs hl hP hS
  refine va_sld (A := zA V) (H0 := s.heap) hx hb hX hbl (fun q => absurd (show zsz V ≤ b from q) (by rw [hz]; omega)) hS (zI_in hi hg) hdg ?_
  rw [zI_cl hi]
  rw [zI_of] at kk
  exact kk ls H locs hl hP hS
theorem zP_slenS (C : zOk V X cc own nL R0 ret0) (LX : zLX V X b N xs) (hN : N < 3073) (hdg : decode cc pc = .ok (.arraylength, 1)) (kk : zP V X nL k n (pc + 1) L (.int (zI (N : Int)) :: st) d) : zP V X nL k n pc L (.ref b :: st) d := by
  obtain ⟨p, l, e, R, s, m, args, below, meth, c, Q⟩ := X
  obtain ⟨hx, hb, hml, hown, hts, hK, hlk, hR, hret, hsz⟩ := C
  obtain ⟨-, -, -, -, hX, hbl, hz, -⟩ := LX
  intro ls H locs hl hP hS
  refine va_slen (A := zA V) (H0 := s.heap) hx hb hX hbl (fun q => absurd (show zsz V ≤ b from q) (by rw [hz]; omega)) hS hdg ?_
  rw [zI_nat N hN]
  exact kk ls H locs hl hP hS
theorem zP_arg (C : zOk V X cc own nL R0 ret0) (LX : zLX V X b N xs) {i z : Int} (d0 : decode cc pc = .ok (.aload_n 0, 1)) (d1 : decode cc (pc + 1) = .ok (.iload 4, 2)) (d3 : decode cc (pc + 3) = .ok (.iconst z, 1)) (d4 : decode cc (pc + 4) = .ok (.iadd, 1)) (d5 : decode cc (pc + 5) = .ok (.iaload, 1)) (h0 : L[0]? = some (some (.ref b))) (h4 : L[4]? = some (some (.int (zI i)))) (hN : N < 3073) (hg : 0 ≤ i + z ∧ i + z < (N : Int))
    (kk : zP V X nL k n (pc + 6) L (.int (zI (xs (i + z).toNat).toInt) :: st) d) : zP V X nL k n pc L st d := by
  refine zP_aload_n C d0 rfl h0 ?_
  refine zP_iload C d1 h4 ?_
  refine zP_iconst C d3 ?_
  refine zP_iadd (K := fun v => some v) (r := i + z) C d4 (by rw [zl_n, zw_id (by omega) (by omega)]) fun v hv e => ?_
  cases e
  exact zP_sld C LX d5 hv hg kk
theorem zP_callTL (C : zOk V X cc own nL R0 ret0) (LX : zLX V X b N xs) {ix np nn : Nat} {y : MethodName} {bt : ByteArray} {hh : zH} {As : List Value} {rv : Int} {d1 : zD} (hw : zMT own ix y bt nn hh np) (hdg : decode cc pc = .ok (.invokestatic ix, 3)) (hM : zMetT V y bt nn hh As d rv d1) (hfit : 9 ≤ R0.frames ∧ 8 + (nn + 11) + 320 ≤ R0.locals) (hlen : As.length = np) (hc : (st.map fun v => v.category).sum ≤ 8) (hkn : k + 1 ≤ R0.cells ∧ n + 6 ≤ R0.slots) (kk : zR rv → zP V X nL (k + 1) (n + 6) (pc + 3) L (.int (zI rv) :: st) d1) : zP V X nL k n pc L (As.reverse ++ st) d := by
  obtain ⟨p, l, e, R, s, m, args, below, meth, c, Q⟩ := X
  obtain ⟨hx, hb, hml, hown, hts, hK, hlk, hR, hret, hsz⟩ := C
  obtain ⟨l1, l2, l3, l4, -⟩ := LX
  intro ls H locs hl hP hS
  have hgd := zgoodT hw
  obtain ⟨w1, w2, w4, w5, w7, w8⟩ := hw
  subst hR
  have hrun := vx_runSW (p := p) (e := e) (below := below) (meth := meth) (locs := locs) (cells := k) (slots := n) (As := As) (rest := st) (g := F0 m pc ls (As.reverse ++ st)) ⟨hx, hb, hml, hown, hts⟩ (hM l l1) (vx_cwSW np hts hgd rfl rfl rfl ⟨w7.1, w7.2, w8⟩ hfit)
    ⟨zPreT_blind, fun U hU hW => ⟨rfl, ⟨⟨by rw [hU]; exact hP, hK.go hS hU hW, by rw [hU]; exact Nat.le_trans hsz hS.1⟩, by rw [hU]; exact l2.go hW (fun q h1 h2 => hS.2.1 q h1 h2)⟩, l4.go hW⟩⟩
    rfl hlen hl.1 rfl (zcat_sum hc) hdg hkn
  intro T' hT X'
  obtain ⟨v, st₀, t, T2, L2, h0, X2, hL, e1, e2, ⟨⟨hv, hφ, hRep⟩, hz, hkp⟩, stp⟩ := hrun T' hT X'
  cases hv
  rw [h0] at hz hkp
  obtain ⟨t2, a1, b1⟩ := kk hφ ls T2.heap (locs ++ L2) hl (by rw [e1]; exact hRep) ⟨Nat.le_trans hS.1 (by rw [e1]; exact hz), fun q h1 h2 => by rw [e1, hkp q (Nat.lt_of_lt_of_le h1 hS.1) h2]; exact hS.2.1 q h1 h2, fun q hq => by
    rcases List.mem_append.mp hq with h | h
    · exact hS.2.2 q h
    · exact hL q h⟩ T2 rfl X2
  exact ⟨t2, stp t2 a1, b1⟩
/-- a maker's call in the law -/
theorem zP_callIL (C : zOk V X cc own nL R0 ret0) (LX : zLX V X b N xs) {ix np dp nn mc ms a : Nat} {y : MethodName} {bt : ByteArray} {As : List Value} {P : zW → Prop} {S : Nat → Prop} {d1 : zD} (hw : zCI own ix y bt nn np) (hpl : Cond.methodLink own ix y ∈ zT) (hdg : decode cc pc = .ok (.invokespecial ix, 3)) (hM : zMetN V dp mc ms y bt nn (.ref a :: As) d P S d1) (hyo : y.cls = y.cls) (hfit : dp + 1 ≤ R0.frames ∧ 8 + (nn + 11) + 40 * dp ≤ R0.locals) (hlen : As.length = np) (hc : (st.map fun v => v.category).sum ≤ 8) (hkn : k + mc ≤ R0.cells ∧ n + ms ≤ R0.slots) (kk : ∀ V1, zEy V V1 S → zWf V1 → P V1 → zP V1 X nL (k + mc) (n + ms) (pc + 3) L st d1) : zP V X nL k n pc L (As.reverse ++ .ref a :: st) d := by
  obtain ⟨p, l, e, R, s, m, args, below, meth, c, Q⟩ := X
  obtain ⟨hx, hb, hml, hown, hts, hK, hlk, hR, hret, hsz⟩ := C
  obtain ⟨l1, l2, HN, l4, -⟩ := LX
  intro ls H locs hl hP hS
  obtain ⟨w1, w2, w4, w5, w6, w7, w8⟩ := hw
  subst hR
  have hpre : PreS s H (va_Pc (.ref a :: As) (zPreN V d)) (.ref a :: As) := ⟨zPreN_blind, fun U hU hW => ⟨rfl, ⟨by rw [hU]; exact hP, hK.go hS hU hW, by rw [hU]; exact Nat.le_trans hsz hS.1⟩, HN.go hW⟩⟩
  have hrun : va_Run p l e R s m args below meth c H locs k n mc ms (F0 m pc ls (As.reverse ++ .ref a :: st)) st (zPostN V P S d1 (Value.ref a :: As).toArray) (zA V) :=
    va_runI ⟨hx, hb, hml, hown, hts⟩ (hM l) ⟨callB_of np hts (zgood w5) rfl rfl rfl (hts _ w4) (hts _ hpl) ⟨w7.1, w7.2, w8⟩ hfit, w6, hts _ w2⟩ hpre rfl hlen hl.1 rfl (zcat_sum hc) hdg hkn
  intro T' hT X'
  obtain ⟨v, st₀, t, T2, L2, h0, X2, hL, e1, e2, ⟨⟨hv, V1, hE, hw1, hP1, hRep⟩, hz, hkp⟩, stp⟩ := hrun T' hT X'
  cases hv
  rw [h0] at hz hkp
  have eA : zA V1 = zA V := hE.A
  obtain ⟨t2, a1, b1⟩ := kk V1 hE hw1 hP1 ls T2.heap (locs ++ L2) hl (by rw [e1]; exact hRep) (by
    rw [eA]
    exact ⟨Nat.le_trans hS.1 (by rw [e1]; exact hz), fun q h1 h2 => by rw [e1, hkp q (Nat.lt_of_lt_of_le h1 hS.1) h2]; exact hS.2.1 q h1 h2, fun q hq => by
      rcases List.mem_append.mp hq with h | h
      · exact hS.2.2 q h
      · exact hL q h⟩) T2 rfl X2
  exact ⟨t2, stp t2 a1, b1⟩
theorem zP_lret (C : zOk V X cL_law own nL room_1 ret) (LX : zLX V X b N xs) (hk : k ≤ 601024) (hn : n ≤ 7293034) (hdg : decode cL_law pc = .ok (.ireturn, 1)) : zP V X nL k n pc L [.int (zI 1)] d := by
  obtain ⟨p, l, e, R, s, m, args, below, meth, c, Q⟩ := X
  obtain ⟨hx, hb, hml, hown, hts, hK, hlk, hR, hret, hsz⟩ := C
  obtain ⟨l1, l2, l3, l4, hX, hbl, hz, ha, hQ⟩ := LX
  subst hR
  subst ha
  subst hQ
  intro ls H locs hl hP hS
  refine va_forget (fun q hq => by rw [← hz]; exact hS.2.2 q hq) ?_
  refine W.widen hk hn ?_
  exact lw_ret (d0 := s.drawn) (Drawn.sameBut.refl s.drawn lw_cs) hx hb hret hlk hdg
end LAWS
