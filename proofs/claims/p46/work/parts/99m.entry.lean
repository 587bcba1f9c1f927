def R_law : String := "PolledLineLaw"
def lw_P (b : Addr) (xs : List Int32) (args : Array Value) (s : State) : Prop := args = #[.ref b] ∧ s.IntsAt b xs ∧ xs.length ≤ 260 ∧ (Jvm.Cond.and given_1 narrow_1).before args s = true
def lw_Q (_ : Array Value) (s : State) (o : Outcome) (t : State) : Prop := o = .returned (some (.int 1)) ∧ Framed s o t [] 600086 7301442
def lw_Z (below : List Frame) (a : Array Value) (s : State) : State → Prop := fun t => ∃ o, t.status = .running ∧ Ended t below o ∧ lw_Q a s o t
/-- the law's own end, with 1 on the stack, nothing written that was there before, its room as the claim has it -/
theorem lw_ret {p : Program} {l : Launch} {e : Env} {s : State} {m : MethodId} {below : List Frame} {meth : Method} {c : Code} {b : Nat} (hx : p.tables.exec = Jvm.exec) (hb : c.code = code) (hr : meth.sig.returnType = ret) (hlocks : meth.locks = false) {pc : Nat} {H : Heap} {ls : Array Slot} (hdg : decode code pc = .ok (.ireturn, 1)) : W p l e room_1 s m #[Value.ref b] below meth c H [] 600086 7301442 (lw_Z below #[Value.ref b] s) (F0 m pc ls [.int 1]) := by
  intro T hT X
  obtain ⟨fs, hret, hrun, hended, hW, hframe⟩ := X.leave (v := some (.int 1)) (hlocks := hlocks) (fun h => by rw [hr] at h; cases h)
  have hmeth' : T.vm.method? m = some meth := X.method'
  refine ⟨T.setFrames fs, ?_, .returned (some (.int 1)), hrun, hended, rfl, ⟨_, rfl⟩, hW, hframe⟩
  jvm_step X.here [X.here.top, hx, hb, hdg, hmeth', hr, ret, narrow_b1]
  (try refine ⟨rfl, ?_⟩); (try refine ⟨rfl, ?_⟩)
  first | (intro acts; rw [hret _ acts rfl rfl rfl]) | rw [hret _ _ rfl rfl rfl]
  exact Steps.refl _
/-- what holds at the law's entry: the machine, the code, the tables' words (any of lw_tbl by 'hts w (by decide +kernel)'), the script of L ints xs at the cell b, what the Statement gives of the start (any of its parts by flat_of_before) -/
def lw_At (p : Program) (s : State) (m : MethodId) (meth : Method) (c : Code) (b L : Nat) (xs : Nat → Int32) : Prop :=
  p.tables.exec = Jvm.exec ∧ c.code = code ∧ meth.sig.returnType = ret ∧ c.maxLocals = 10 ∧ s.vm.findClass R_law = some m.cls ∧ (∀ w ∈ lw_tbl, w.before #[Value.ref b] s = true) ∧ va_X b L xs s s.heap ∧ b < s.heap.size ∧ meth.locks = false ∧ (Jvm.Cond.and given_1 narrow_1).before #[Value.ref b] s = true
/-! The law from its entry: what the start gives. -/
def nar : List Cond := flatC (Jvm.Cond.and given_1 narrow_1)
def nix (i : Nat) : Nat := ([244, 281, 342, 356, 371, 388, 304, 316, 328, 0, 0, 0, 0, 0, 0, 0, 294, 0, 0, 0, 0, 0, 0, 0, 0, 0, 0, 0, 0, 0, 0, 0, 406, 429, 451, 473, 497, 519, 544, 571] : List Nat).getD i 0
def six (i : Nat) : Nat := ([453, 531, 577, 586, 595, 596, 561, 575, 576, 0, 0, 0, 0, 0, 0, 0, 551, 0, 0, 0, 0, 0, 0, 0, 0, 0, 0, 0, 0, 0, 0, 0, 1030, 1146, 1172, 1173, 1174, 1175, 1176, 1177] : List Nat).getD i 0
def ztm (i : Nat) : Term := .string (zt1 i).1 (zt1 i).2.1
theorem nar_s : ∀ i, i < 40 → zbad i < 1 → nar[nix i]? = some (.exactly (ztm i) "java/lang/String") ∧ nar[nix i + 1]? = some (.eq (.field (ztm i) "java/lang/String" "coder" "B") (.int 0)) ∧ nar[nix i + 2]? = some (.arrayOf (.field (ztm i) "java/lang/String" "value" "[B") .byte) ∧ nar[nix i + 3]? = some (.eq (.length (.field (ztm i) "java/lang/String" "value" "[B")) (.int (Int32.ofNat (zslen i)))) := by decide +kernel
theorem nar_c : ∀ i, i < 40 → zbad i < 1 → ∀ j, j < zslen i → nar[nix i + 4 + j]? = some (.eq (.elem (.field (ztm i) "java/lang/String" "value" "[B") (.int (Int32.ofNat j))) (.int (zI (zsch i j)))) := by decide +kernel
theorem tbl_s : ∀ i, i < 40 → zbad i < 1 → lw_tbl[six i]? = some (.stringRef (zt1 i).1 (zt1 i).2.1 (zt1 i).2.2.1) := by decide +kernel
def tx0 (t : Nat) : Nat := ([19, 28, 10] : List Nat).getD t 0
def tx1 (t : Nat) : Nat := ([592, 594, 511] : List Nat).getD t 0
def tx2 (t : Nat) : Nat := ([591, 593, 510] : List Nat).getD t 0
theorem nar_t : ∀ t, t < 3 → nar[tx0 t]? = some (.arrayOf (.static "PolledLine" (ztn t) "[I") .int) ∧ nar[tx0 t + 1]? = some (.eq (.length (.static "PolledLine" (ztn t) "[I")) (.int (Int32.ofNat 6))) ∧ (∀ j, j < 6 → nar[tx0 t + 2 + j]? = some (.eq (.elem (.static "PolledLine" (ztn t) "[I") (.int (Int32.ofNat j))) (.int (zI (ztab t j))))) ∧ lw_tbl[tx1 t]? = some (.laysStatic "PolledLine" (ztn t) "[I") ∧ lw_tbl[tx2 t]? = some (.fieldLinkNest "PolledLine$SetupReader" (zsx t) "PolledLine" (ztn t) "[I" "PolledLine") := by decide +kernel
def dx0 (t : Nat) : Nat := ([39, 142] : List Nat).getD t 0
def dx1 (t : Nat) : Nat := ([1161, 1163] : List Nat).getD t 0
theorem nar_d : ∀ t, t < 2 → nar[dx0 t]? = some (.arrayOf (.static "java/lang/Integer" (zdn t) "[B") .byte) ∧ nar[dx0 t + 1]? = some (.eq (.length (.static "java/lang/Integer" (zdn t) "[B")) (.int (Int32.ofNat 100))) ∧ (∀ j, j < 100 → nar[dx0 t + 2 + j]? = some (.eq (.elem (.static "java/lang/Integer" (zdn t) "[B") (.int (Int32.ofNat j))) (.int (zI (zdg t j))))) ∧ lw_tbl[dx1 t]? = some (.laysStatic "java/lang/Integer" (zdn t) "[B") := by decide +kernel
theorem zNl_in : ∀ q ∈ zNl, Cond.methodLinkNest q.1 q.2.1 q.2.2.1 q.2.2.2 ∈ lw_tbl := by
  intro q hq
  simp only [zNl, List.mem_cons, List.not_mem_nil, or_false] at hq
  rcases hq with rfl | rfl | rfl | rfl | rfl | rfl | rfl
  · exact List.mem_of_getElem? (i := 63) (by decide +kernel)
  · exact List.mem_of_getElem? (i := 105) (by decide +kernel)
  · exact List.mem_of_getElem? (i := 158) (by decide +kernel)
  · exact List.mem_of_getElem? (i := 177) (by decide +kernel)
  · exact List.mem_of_getElem? (i := 230) (by decide +kernel)
  · exact List.mem_of_getElem? (i := 363) (by decide +kernel)
  · exact List.mem_of_getElem? (i := 397) (by decide +kernel)
section ENT
variable {args : Array Value} {s : State} {A : Nat → Prop}
theorem ent_text (hn : ∀ w ∈ nar, w.before args s = true) (hts : ∀ w ∈ lw_tbl, w.before args s = true) (hA : ∀ a : Nat, a < s.heap.size → ¬ A a) : ∀ i, ∃ q : Nat × Nat, zbad i < 1 → va_O "java/lang/String" q.1 A s s.heap ∧ va_OF "java/lang/String" "coder" "B" (.int 0) q.1 A s s.heap ∧ va_OF "java/lang/String" "value" "[B" (.ref q.2) q.1 A s s.heap ∧ va_T .byte q.2 (zslen i) (fun j => .int (zI (zsch i j))) A s s.heap ∧ vk_R (zt1 i).1 (zt1 i).2.1 (zt1 i).2.2.1 q.1 s := by
  intro i
  by_cases hi : zbad i < 1
  · have h40 := zbad_lt hi
    obtain ⟨n1, n2, n3, n4⟩ := nar_s i h40 hi
    have g : ∀ {k : Nat} {w : Cond}, nar[k]? = some w → w.before args s = true := fun h => hn _ (List.mem_of_getElem? h)
    obtain ⟨a, c, cA, kA, q1, q2, q3, q4, q5, q6, -⟩ := Cond.exactly_spec (args := args) (first := s) (o := none) (s := s) (idx := []) (t := ztm i) (cls := "java/lang/String") (g n1)
    have hl := zsl_ok i h40
    obtain ⟨t, ht, hT⟩ := va_Tof (f := fun j => .int (zI (zsch i j))) (A := A) (N := zslen i) (by omega) (g n3) (va_eqt (g n4)) (fun j hj => va_eqt (g (nar_c i h40 hi j hj))) hA
    exact ⟨(a, t), fun _ => ⟨⟨cA, q3, q5, by rw [q6]; exact q2, hA a (Array.getElem?_eq_some_iff.mp q3).1⟩, vk_OFof q1 (va_eqt (g n2)) hA, vk_OFof q1 ht hA, hT, vk_R.of (hts _ (List.mem_of_getElem? (tbl_s i h40 hi))) q1⟩⟩
  · exact ⟨(0, 0), fun h => absurd h hi⟩
theorem ent_stat (hn : ∀ w ∈ nar, w.before args s = true) (hts : ∀ w ∈ lw_tbl, w.before args s = true) (hA : ∀ a : Nat, a < s.heap.size → ¬ A a) : ∀ t, ∃ q : Nat, t < 3 → va_Z "PolledLine" (ztn t) "[I" (.ref q) A s s.heap ∧ va_T .int q 6 (fun j => .int (zI (ztab t j))) A s s.heap ∧ va_Nw (.fieldLinkNest "PolledLine$SetupReader" (zsx t) "PolledLine" (ztn t) "[I" "PolledLine") s := by
  intro t
  by_cases ht : t < 3
  · obtain ⟨n1, n2, n3, n4, n5⟩ := nar_t t ht
    have g : ∀ {k : Nat} {w : Cond}, nar[k]? = some w → w.before args s = true := fun h => hn _ (List.mem_of_getElem? h)
    obtain ⟨q, hq, hT⟩ := va_Tof (tm := .static "PolledLine" (ztn t) "[I") (f := fun j => .int (zI (ztab t j))) (A := A) (N := 6) (by omega) (g n1) (va_eqt (g n2)) (fun j hj => va_eqt (g (n3 j hj))) hA
    exact ⟨q, fun _ => ⟨va_Zref (hts _ (List.mem_of_getElem? n4)) (hts _ (List.mem_of_getElem? (i := 22) (by decide +kernel))) hq hA, hT, va_Nw.of rfl (hts _ (List.mem_of_getElem? n5))⟩⟩
  · exact ⟨0, fun h => absurd h ht⟩
theorem ent_digits (hn : ∀ w ∈ nar, w.before args s = true) (hts : ∀ w ∈ lw_tbl, w.before args s = true) (hA : ∀ a : Nat, a < s.heap.size → ¬ A a) : ∀ t, ∃ q : Nat, t < 2 → va_Z "java/lang/Integer" (zdn t) "[B" (.ref q) A s s.heap ∧ va_T .byte q 100 (fun j => .int (zI (zdg t j))) A s s.heap := by
  intro t
  by_cases ht : t < 2
  · obtain ⟨n1, n2, n3, n4⟩ := nar_d t ht
    have g : ∀ {k : Nat} {w : Cond}, nar[k]? = some w → w.before args s = true := fun h => hn _ (List.mem_of_getElem? h)
    obtain ⟨q, hq, hT⟩ := va_Tof (tm := .static "java/lang/Integer" (zdn t) "[B") (f := fun j => .int (zI (zdg t j))) (A := A) (N := 100) (by omega) (g n1) (va_eqt (g n2)) (fun j hj => va_eqt (g (n3 j hj))) hA
    exact ⟨q, fun _ => ⟨va_Zref (hts _ (List.mem_of_getElem? n4)) (hts _ (List.mem_of_getElem? (i := 45) (by decide +kernel))) hq hA, hT⟩⟩
  · exact ⟨0, fun h => absurd h ht⟩
theorem ent_arr {ty : FieldType} (h : (Cond.arrayClass ty).before args s = true) : ∃ cA : ClassId, ArrOfT s cA ty ∧ s.vm.findClass ("[" ++ ty.toString) = some cA := by
  obtain ⟨cA, kA, comp, h1, h2, h3⟩ := Cond.arrayClass_spec h
  exact ⟨cA, fun n z => ⟨(fun k q => by cases q), kA, h2, comp, h3⟩, h1⟩
theorem ent_line (h : (Cond.arrayOver (.object RX2)).before args s = true) : ∃ cA : ClassId, ArrOfT s cA (.object RX2) ∧ va_RA s cA (.object RX2) := by
  obtain ⟨comp, cA, kA, h1, h2, h3, h4, h5⟩ := Cond.arrayOver_spec h
  exact ⟨cA, fun n z => ⟨(fun k q => by cases q), kA, h3, comp, h4⟩, kA, comp, h3, h4, h1, h5⟩
theorem ent_cls (hts : ∀ w ∈ lw_tbl, w.before args s = true) : ∀ ci : Nat, ∃ z : ClassId × (Nat → Nat), ∀ q : vw_C, vwCl[ci]? = some q → u_Kn s q.1 q.2.1 q.2.2 z.1 z.2 := by
  have hz : ∀ w ∈ zT, w.before args s = true := fun w hw => hts w (List.mem_filter.mp hw).1
  have one : ∀ {ci : Nat} {C : String} {T : u_T} {N : Nat}, zCF ci C T N → (Cond.instantiable C N).before args s = true → ∃ z : ClassId × (Nat → Nat), ∀ q : vw_C, vwCl[ci]? = some q → u_Kn s q.1 q.2.1 q.2.2 z.1 z.2 := fun {ci C T N} h hi => by
    obtain ⟨h0, hin, -⟩ := h
    obtain ⟨cC, iS, hk⟩ := u_known (C := C) (T := T) (N := N) (n := N) hz hin hi
    refine ⟨(cC, iS), fun q hq => ?_⟩
    cases h0.symm.trans hq
    exact hk
  intro ci
  match ci with
  | 0 => exact one cf0 (hts _ (List.mem_of_getElem? (i := 342) (by decide +kernel)))
  | 1 => exact one cf1 (hts _ (List.mem_of_getElem? (i := 321) (by decide +kernel)))
  | 2 => exact one cf2 (hts _ (List.mem_of_getElem? (i := 98) (by decide +kernel)))
  | 3 => exact one cf3 (hts _ (List.mem_of_getElem? (i := 104) (by decide +kernel)))
  | 4 => exact one cf4 (hts _ (List.mem_of_getElem? (i := 157) (by decide +kernel)))
  | 5 => exact one cf5 (hts _ (List.mem_of_getElem? (i := 426) (by decide +kernel)))
  | 6 => exact one cf6 (hts _ (List.mem_of_getElem? (i := 62) (by decide +kernel)))
  | 7 => exact one cf7 (hts _ (List.mem_of_getElem? (i := 391) (by decide +kernel)))
  | 8 => exact one cf8 (hts _ (List.mem_of_getElem? (i := 176) (by decide +kernel)))
  | 9 => exact one cf9 (hts _ (List.mem_of_getElem? (i := 362) (by decide +kernel)))
  | 10 => exact one cf10 (hts _ (List.mem_of_getElem? (i := 229) (by decide +kernel)))
  | 11 => exact one cf11 (hts _ (List.mem_of_getElem? (i := 54) (by decide +kernel)))
  | 12 => exact one cf12 (hts _ (List.mem_of_getElem? (i := 1001) (by decide +kernel)))
  | 13 => exact one cf13 (hts _ (List.mem_of_getElem? (i := 1183) (by decide +kernel)))
  | k + 14 => exact ⟨(0, fun _ => 0), fun q hq => by cases (show (none : Option vw_C) = some q from hq)⟩
end ENT
/-- the law's end, out of the walk -/
theorem law_fin {V1 : zW} {p : Program} {l : Launch} {e : Env} {s : State} {m : MethodId} {below : List Frame} {meth : Method} {c : Code} {b : Nat} (hx : p.tables.exec = Jvm.exec) (hb : c.code = code) (hr : meth.sig.returnType = ret) (hlocks : meth.locks = false) (hz : zsz V1 = s.heap.size) {k n : Nat} {L : List (Option Value)} {d : zD} (hk : k ≤ 600086) (hn : n ≤ 7301442) : zP V1 (p, l, e, room_1, s, m, #[Value.ref b], below, meth, c, lw_Z below #[Value.ref b] s) 10 k n 323 L [.int (zI 1)] d := by
  intro ls H locs hl hP hS
  refine va_forget (fun q hq => ?_) ?_
  · have h1 : zsz V1 ≤ q.base := (hS.2.2 q hq).1
    rw [hz] at h1
    exact h1
  refine W.widen hk hn ?_
  exact lw_ret hx hb hr hlocks dL_law_323
/-- THE LAW, from its entry -/
theorem whole_start {p : Program} {e : Env} {s : State} {m : MethodId} {below : List Frame} {meth : Method} {c : Code} (l : Launch) (hflags : l.flags = flags0) {b L : Nat} {xs : Nat → Int32} (hL : L ≤ 260) (C0 : lw_At p s m meth c b L xs) : W p l e room_1 s m #[Value.ref b] below meth c s.heap [] 0 0 (lw_Z below #[Value.ref b] s) (entryFrame m ([Value.ref b] : List Value).toArray 10) := by
  obtain ⟨hx, hb, hr, hml, hown, hts, hX, hbl, hlocks, hgv⟩ := C0
  have hn : ∀ w ∈ nar, w.before #[Value.ref b] s = true := flat_of_before _ hgv
  have hA : ∀ a : Nat, a < s.heap.size → ¬ (fun q : Nat => s.heap.size ≤ q ∧ ∀ r : Nat × Nat × Nat × (Nat → Int), (none : Option (Nat × Nat × Nat × (Nat → Int))) = some r → q ≠ r.1 ∧ q ≠ r.2.1) a := fun a h q => absurd (show s.heap.size ≤ a from q.1) (by omega)
  obtain ⟨fS, hS⟩ := Classical.axiomOfChoice (ent_text hn hts hA)
  obtain ⟨fT, hT⟩ := Classical.axiomOfChoice (ent_stat hn hts hA)
  obtain ⟨fD, hD⟩ := Classical.axiomOfChoice (ent_digits hn hts hA)
  obtain ⟨fC, hC⟩ := Classical.axiomOfChoice (ent_cls hts)
  obtain ⟨c0, a0, b0⟩ := ent_arr (ty := .int) (hts _ (List.mem_of_getElem? (i := 96) (by decide +kernel)))
  obtain ⟨c1, a1, b1⟩ := ent_arr (ty := .byte) (hts _ (List.mem_of_getElem? (i := 671) (by decide +kernel)))
  obtain ⟨c2, a2, b2⟩ := ent_line (hts _ (List.mem_of_getElem? (i := 348) (by decide +kernel)))
  obtain ⟨V, hV⟩ : ∃ V : zW, V = ((fun k => (fC k).1, fun k => (fC k).2), fun _ => 0, fun _ => none, fun k => if k = 0 then c0 else if k = 1 then c1 else c2, s.heap.size, fun i => (fS i).1, fun i => (fS i).2, fun t => if t < 3 then fT t else fD (t - 3), b, L, fun j => (xs j).toInt, none) := ⟨_, rfl⟩
  have hK : zK V s := by
    subst hV
    refine ⟨⟨fun k q hq => hC k q hq, fun k q hq => ?_⟩, fun i hi => hS i hi, fun t ht => ?_, ?_, ?_, fun t ht => ?_, ?_, fun j => ?_, fun r hr => by cases hr⟩
    · match k, hq with
      | 0, hq => cases hq; exact ⟨a0, b0⟩
      | 1, hq => cases hq; exact ⟨a1, b1⟩
      | 2, hq => cases hq; exact ⟨a2, b2⟩
      | k + 3, hq => cases (show (none : Option (ClassId × FieldType)) = some q from hq)
    · have e : (if t < 3 then fT t else fD (t - 3)) = fT t := if_pos ht
      show va_Z "PolledLine" (ztn t) "[I" (.ref (if t < 3 then fT t else fD (t - 3))) _ s s.heap ∧ va_T .int (if t < 3 then fT t else fD (t - 3)) 6 _ _ s s.heap ∧ _
      rw [e]
      exact hT t ht
    · exact va_Zof (hts _ (List.mem_of_getElem? (i := 463) (by decide +kernel))) (hts _ (List.mem_of_getElem? (i := 34) (by decide +kernel))) (va_eqi (hn _ (List.mem_of_getElem? (i := 4) (by decide +kernel)))) hA
    · exact va_Zqof (hts _ (List.mem_of_getElem? (i := 479) (by decide +kernel))) (hts _ (List.mem_of_getElem? (i := 36) (by decide +kernel))) (hn _ (List.mem_of_getElem? (i := 5) (by decide +kernel))) hA
    · have e : (if 3 + t < 3 then fT (3 + t) else fD (3 + t - 3)) = fD t := by
        rw [if_neg (by omega), show 3 + t - 3 = t by omega]
      show va_Z "java/lang/Integer" (zdn t) "[B" (.ref (if 3 + t < 3 then fT (3 + t) else fD (3 + t - 3))) _ s s.heap ∧ va_T .byte (if 3 + t < 3 then fT (3 + t) else fD (3 + t - 3)) 100 _ _ s s.heap
      rw [e]
      exact hD t ht
    · obtain ⟨scr, x1, x2, x3, x4, x5⟩ := hX
      refine ⟨scr, x1, x2, x3, Nat.le_of_eq x4.symm, by rw [x4], fun j hj => ?_, hA _ hbl⟩
      show scr.slots[j]? = some (.int (zI (xs j).toInt))
      rw [zI_of]
      exact x5 j hj
    · have h1 := Int32.le_toInt (xs j)
      have h2 := Int32.toInt_lt (xs j)
      show -2147483648 ≤ (xs j).toInt ∧ (xs j).toInt ≤ 2147483647
      omega
  have hN : zN s := ⟨fun q hq => va_Nw.of rfl (hts _ (zNl_in q hq)), va_AO.of (A := #[Value.ref b]) (hts _ (List.mem_of_getElem? (i := 348) (by decide +kernel)))⟩
  have hNB : zNB s := zNB_of hts
  have hz : zsz V = s.heap.size := by rw [hV]
  have hu : ∀ k, zsh V k = none := fun k => by rw [hV]
  have hqa : zqa V = b := by rw [hV]
  have hqn : zqn V = L := by rw [hV]
  have hdr : zdr V = none := by rw [hV]
  have wf : zWf V := fun k y hy => by rw [hu k] at hy; cases hy
  have hP : zRep V zd0 s.heap := ⟨fun a y hy => (by rw [hu a] at hy; cases hy), fun a q h1 => (by rw [hu a] at h1; cases h1), fun a k => by show -2147483648 ≤ (0 : Int) ∧ (0 : Int) ≤ 2147483647; omega⟩
  have main := law_from (V := V) (X := (p, l, e, room_1, s, m, #[Value.ref b], below, meth, c, lw_Z below #[Value.ref b] s)) ⟨hx, hb, hml, hown, fun w hw => hts w (List.mem_filter.mp hw).1, hK, hlocks, rfl, hr, fun q hq => ⟨by rw [hz]; exact hq, fun r hr => by rw [hdr] at hr; cases hr⟩⟩ hN hNB (by rw [hqn]; exact hL) hdr wf hu (fun V1 k n L d hv hk hn => law_fin hx hb hr hlocks (by obtain ⟨ad, sh, rfl⟩ := hv; exact hz) hk hn)
  have hl := lv_entry ([.ref b]) (n := 10) (Nat.le_of_ble_eq_true rfl)
  rw [lg_entry_eq]
  generalize (lg_sl ([.ref b]) ++ List.replicate (10 - (lg_sl ([.ref b])).length) Slot.unset).toArray = ls at hl ⊢
  rw [hqa] at main
  exact main ls s.heap [] hl hP va_S.rf
