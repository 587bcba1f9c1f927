/-! The law from its entry: what the start gives. -/
def nar : List Cond := flatC (Jvm.Cond.and given_1 narrow_1)
def nix (i : Nat) : Nat := ([102, 139, 185, 193, 201, 210, 159, 168, 176, 219, 227, 235, 243, 252, 259, 267, 151, 289, 299, 309, 318, 276, 328, 337, 346, 356, 366, 375, 384, 393, 403, 411] : List Nat).getD i 0
def six (i : Nat) : Nat := ([544, 622, 668, 677, 686, 687, 652, 666, 667, 794, 796, 797, 798, 799, 800, 815, 642, 1579, 1588, 1601, 1602, 1556, 1603, 1616, 1627, 1628, 1645, 1646, 1647, 1648, 1649, 1650] : List Nat).getD i 0
def ztm (i : Nat) : Term := .string (zt1 i).1 (zt1 i).2.1
theorem nar_s : ∀ i, i < 32 → nar[nix i]? = some (.exactly (ztm i) "java/lang/String") ∧ nar[nix i + 1]? = some (.eq (.field (ztm i) "java/lang/String" "coder" "B") (.int 0)) ∧ nar[nix i + 2]? = some (.arrayOf (.field (ztm i) "java/lang/String" "value" "[B") .byte) ∧ nar[nix i + 3]? = some (.eq (.length (.field (ztm i) "java/lang/String" "value" "[B")) (.int (Int32.ofNat (zslen i)))) := by decide +kernel
theorem nar_c : ∀ i, i < 32 → ∀ j, j < zslen i → nar[nix i + 4 + j]? = some (.eq (.elem (.field (ztm i) "java/lang/String" "value" "[B") (.int (Int32.ofNat j))) (.int (zI (zsch i j)))) := by decide +kernel
theorem tbl_s : ∀ i, i < 32 → lw_tbl[six i]? = some (.stringRef (zt1 i).1 (zt1 i).2.1 (zt1 i).2.2.1) := by decide +kernel
def tx0 (t : Nat) : Nat := ([19, 28, 10] : List Nat).getD t 0
def tx1 (t : Nat) : Nat := ([683, 685, 602] : List Nat).getD t 0
def tx2 (t : Nat) : Nat := ([682, 684, 601] : List Nat).getD t 0
theorem nar_t : ∀ t, t < 3 → nar[tx0 t]? = some (.arrayOf (.static "PolledLine" (ztn t) "[I") .int) ∧ nar[tx0 t + 1]? = some (.eq (.length (.static "PolledLine" (ztn t) "[I")) (.int (Int32.ofNat 6))) ∧ (∀ j, j < 6 → nar[tx0 t + 2 + j]? = some (.eq (.elem (.static "PolledLine" (ztn t) "[I") (.int (Int32.ofNat j))) (.int (zI (ztab t j))))) ∧ lw_tbl[tx1 t]? = some (.laysStatic "PolledLine" (ztn t) "[I") ∧ lw_tbl[tx2 t]? = some (.fieldLinkNest "PolledLine$SetupReader" (zsx t) "PolledLine" (ztn t) "[I" "PolledLine") := by decide +kernel
def ncx (i j : Nat) : Nat := (([[0, 67, 83, 99], [51, 0, 84, 100], [52, 68, 0, 101], [53, 69, 85, 0]] : List (List Nat)).getD i []).getD j 0
theorem nar_x : ∀ i, i < 4 → ∀ j, j < 4 → i ≠ j → nar[ncx i j]? = some (.not (.castable (zXn i) (zXn j))) := by decide +kernel
theorem zXB_in : ∀ w ∈ zXB, w ∈ lw_tbl := by
  intro w hw
  simp only [zXB, List.mem_cons, List.not_mem_nil, or_false] at hw
  rcases hw with rfl | rfl | rfl | rfl | rfl | rfl | rfl
  · exact List.mem_of_getElem? (i := 1096) (by decide +kernel)
  · exact List.mem_of_getElem? (i := 1098) (by decide +kernel)
  · exact List.mem_of_getElem? (i := 1100) (by decide +kernel)
  · exact List.mem_of_getElem? (i := 1095) (by decide +kernel)
  · exact List.mem_of_getElem? (i := 1182) (by decide +kernel)
  · exact List.mem_of_getElem? (i := 1315) (by decide +kernel)
  · exact List.mem_of_getElem? (i := 1380) (by decide +kernel)
theorem zNl_in : ∀ q ∈ zNl, Cond.methodLinkNest q.1 q.2.1 q.2.2.1 q.2.2.2 ∈ lw_tbl := by
  intro q hq
  simp only [zNl, List.mem_cons, List.not_mem_nil, or_false] at hq
  rcases hq with rfl | rfl | rfl | rfl | rfl | rfl | rfl
  · exact List.mem_of_getElem? (i := 147) (by decide +kernel)
  · exact List.mem_of_getElem? (i := 189) (by decide +kernel)
  · exact List.mem_of_getElem? (i := 242) (by decide +kernel)
  · exact List.mem_of_getElem? (i := 261) (by decide +kernel)
  · exact List.mem_of_getElem? (i := 314) (by decide +kernel)
  · exact List.mem_of_getElem? (i := 447) (by decide +kernel)
  · exact List.mem_of_getElem? (i := 483) (by decide +kernel)
section ENT
variable {args : Array Value} {s : State} {A : Nat → Prop}
theorem ent_text (hn : ∀ w ∈ nar, w.before args s = true) (hts : ∀ w ∈ lw_tbl, w.before args s = true) (hA : ∀ a : Nat, a < s.heap.size → ¬ A a) : ∀ i, ∃ q : Nat × Nat, i < 32 → va_O "java/lang/String" q.1 A s s.heap ∧ va_OF "java/lang/String" "coder" "B" (.int 0) q.1 A s s.heap ∧ va_OF "java/lang/String" "value" "[B" (.ref q.2) q.1 A s s.heap ∧ va_T .byte q.2 (zslen i) (fun j => .int (zI (zsch i j))) A s s.heap ∧ vk_R (zt1 i).1 (zt1 i).2.1 (zt1 i).2.2.1 q.1 s := by
  intro i
  by_cases hi : i < 32
  · obtain ⟨n1, n2, n3, n4⟩ := nar_s i hi
    have g : ∀ {k : Nat} {w : Cond}, nar[k]? = some w → w.before args s = true := fun h => hn _ (List.mem_of_getElem? h)
    obtain ⟨a, c, cA, kA, q1, q2, q3, q4, q5, q6, -⟩ := Cond.exactly_spec (args := args) (first := s) (o := none) (s := s) (idx := []) (t := ztm i) (cls := "java/lang/String") (g n1)
    have hl := zsl_ok i hi
    obtain ⟨t, ht, hT⟩ := va_Tof (f := fun j => .int (zI (zsch i j))) (A := A) (N := zslen i) (by omega) (g n3) (va_eqt (g n4)) (fun j hj => va_eqt (g (nar_c i hi j hj))) hA
    exact ⟨(a, t), fun _ => ⟨⟨cA, q3, q5, by rw [q6]; exact q2, hA a (Array.getElem?_eq_some_iff.mp q3).1⟩, vk_OFof q1 (va_eqt (g n2)) hA, vk_OFof q1 ht hA, hT, vk_R.of (hts _ (List.mem_of_getElem? (tbl_s i hi))) q1⟩⟩
  · exact ⟨(0, 0), fun h => absurd h hi⟩
theorem ent_stat (hn : ∀ w ∈ nar, w.before args s = true) (hts : ∀ w ∈ lw_tbl, w.before args s = true) (hA : ∀ a : Nat, a < s.heap.size → ¬ A a) : ∀ t, ∃ q : Nat, t < 3 → va_Z "PolledLine" (ztn t) "[I" (.ref q) A s s.heap ∧ va_T .int q 6 (fun j => .int (zI (ztab t j))) A s s.heap ∧ va_Nw (.fieldLinkNest "PolledLine$SetupReader" (zsx t) "PolledLine" (ztn t) "[I" "PolledLine") s := by
  intro t
  by_cases ht : t < 3
  · obtain ⟨n1, n2, n3, n4, n5⟩ := nar_t t ht
    have g : ∀ {k : Nat} {w : Cond}, nar[k]? = some w → w.before args s = true := fun h => hn _ (List.mem_of_getElem? h)
    obtain ⟨q, hq, hT⟩ := va_Tof (tm := .static "PolledLine" (ztn t) "[I") (f := fun j => .int (zI (ztab t j))) (A := A) (N := 6) (by omega) (g n1) (va_eqt (g n2)) (fun j hj => va_eqt (g (n3 j hj))) hA
    exact ⟨q, fun _ => ⟨va_Zref (hts _ (List.mem_of_getElem? n4)) (hts _ (List.mem_of_getElem? (i := 112) (by decide +kernel))) hq hA, hT, va_Nw.of rfl (hts _ (List.mem_of_getElem? n5))⟩⟩
  · exact ⟨0, fun h => absurd h ht⟩
theorem ent_arr {ty : FieldType} (h : (Cond.arrayClass ty).before args s = true) : ∃ cA : ClassId, ArrOfT s cA ty ∧ s.vm.findClass ("[" ++ ty.toString) = some cA := by
  obtain ⟨cA, kA, comp, h1, h2, h3⟩ := Cond.arrayClass_spec h
  exact ⟨cA, fun n z => ⟨(fun k q => by cases q), kA, h2, comp, h3⟩, h1⟩
theorem ent_line (h : (Cond.arrayOver (.object RX2)).before args s = true) : ∃ cA : ClassId, ArrOfT s cA (.object RX2) ∧ va_RA s cA (.object RX2) := by
  obtain ⟨comp, cA, kA, h1, h2, h3, h4, h5⟩ := Cond.arrayOver_spec h
  exact ⟨cA, fun n z => ⟨(fun k q => by cases q), kA, h3, comp, h4⟩, kA, comp, h3, h4, h1, h5⟩
theorem ent_cls (hts : ∀ w ∈ lw_tbl, w.before args s = true) : ∀ ci : Nat, ∃ z : ClassId × (Nat → Nat), ∀ q : vw_C, vwCl[ci]? = some q → u_Kn s q.1 q.2.1 q.2.2 z.1 z.2 := by
  have hz : ∀ w ∈ zT, w.before args s = true := fun w hw => hts w (List.mem_filter.mp hw).1
  have one : ∀ {ci : Nat} {C : String} {T : u_T} {N : Nat}, zCF ci C T N → (Cond.instantiable C N).before args s = true → ∃ z : ClassId × (Nat → Nat), ∀ q : vw_C, vwCl[ci]? = some q → u_Kn s q.1 q.2.1 q.2.2 z.1 z.2 := fun {ci C T N} h hi => by
    obtain ⟨h0, hin, -⟩ := h
    obtain ⟨cC, iS, hk⟩ := u_known (C := C) (T := T) (N := N) (n := N) hz hin hi
    refine ⟨(cC, iS), fun q hq => ?_⟩
    cases h0.symm.trans hq
    exact hk
  intro ci
  match ci with
  | 0 => exact one cf0 (hts _ (List.mem_of_getElem? (i := 426) (by decide +kernel)))
  | 1 => exact one cf1 (hts _ (List.mem_of_getElem? (i := 405) (by decide +kernel)))
  | 2 => exact one cf2 (hts _ (List.mem_of_getElem? (i := 182) (by decide +kernel)))
  | 3 => exact one cf3 (hts _ (List.mem_of_getElem? (i := 188) (by decide +kernel)))
  | 4 => exact one cf4 (hts _ (List.mem_of_getElem? (i := 241) (by decide +kernel)))
  | 5 => exact one cf5 (hts _ (List.mem_of_getElem? (i := 512) (by decide +kernel)))
  | 6 => exact one cf6 (hts _ (List.mem_of_getElem? (i := 146) (by decide +kernel)))
  | 7 => exact one cf7 (hts _ (List.mem_of_getElem? (i := 477) (by decide +kernel)))
  | 8 => exact one cf8 (hts _ (List.mem_of_getElem? (i := 260) (by decide +kernel)))
  | 9 => exact one cf9 (hts _ (List.mem_of_getElem? (i := 446) (by decide +kernel)))
  | 10 => exact one cf10 (hts _ (List.mem_of_getElem? (i := 313) (by decide +kernel)))
  | 11 => exact one cf11 (hts _ (List.mem_of_getElem? (i := 138) (by decide +kernel)))
  | 12 => exact one cf12 (hts _ (List.mem_of_getElem? (i := 1409) (by decide +kernel)))
  | k + 13 => exact ⟨(0, fun _ => 0), fun q hq => by cases (show (none : Option vw_C) = some q from hq)⟩
end ENT
/-- THE LAW, from its entry -/
theorem whole_start {p : Program} {e : Env} {s : State} {m : MethodId} {below : List Frame} {meth : Method} {c : Code} (l : Launch) (hflags : l.flags = flags0) {b L : Nat} {xs : Nat → Int32} (hL : L ≤ 3072) (C0 : lw_At p s m meth c b L xs) : W p l e room_1 s m #[Value.ref b] below meth c s.heap [] 0 0 (lw_Z below #[Value.ref b] s) (entryFrame m ([Value.ref b] : List Value).toArray 9) := by
  obtain ⟨hx, hb, hr, hml, hown, hts, hX, hbl, hlocks, hgv⟩ := C0
  have hst : l.stackTraces = false := by
    unfold Launch.stackTraces
    rw [hflags]
    decide +kernel
  have hn : ∀ w ∈ nar, w.before #[Value.ref b] s = true := flat_of_before _ hgv
  have hA : ∀ a : Nat, a < s.heap.size → ¬ (fun q : Nat => s.heap.size ≤ q) a := fun a h q => absurd (show s.heap.size ≤ a from q) (by omega)
  obtain ⟨fS, hS⟩ := Classical.axiomOfChoice (ent_text hn hts hA)
  obtain ⟨fT, hT⟩ := Classical.axiomOfChoice (ent_stat hn hts hA)
  obtain ⟨fC, hC⟩ := Classical.axiomOfChoice (ent_cls hts)
  obtain ⟨c0, a0, b0⟩ := ent_arr (ty := .int) (hts _ (List.mem_of_getElem? (i := 180) (by decide +kernel)))
  obtain ⟨c1, a1, b1⟩ := ent_arr (ty := .byte) (hts _ (List.mem_of_getElem? (i := 762) (by decide +kernel)))
  obtain ⟨c2, a2, b2⟩ := ent_line (hts _ (List.mem_of_getElem? (i := 432) (by decide +kernel)))
  obtain ⟨c3, a3, b3⟩ := ent_arr (ty := .long) (hts _ (List.mem_of_getElem? (i := 2022) (by decide +kernel)))
  obtain ⟨V, hV⟩ : ∃ V : zW, V = ((fun k => (fC k).1, fun k => (fC k).2), fun _ => 0, fun _ => none, fun k => if k = 0 then c0 else if k = 1 then c1 else if k = 2 then c2 else c3, s.heap.size, fun i => (fS i).1, fun i => (fS i).2, fT) := ⟨_, rfl⟩
  have hK : zK V s := by
    subst hV
    refine ⟨⟨fun k q hq => hC k q hq, fun k q hq => ?_⟩, fun i hi => hS i hi, fun t ht => hT t ht, ?_, ?_⟩
    · match k, hq with
      | 0, hq => cases hq; exact ⟨a0, b0⟩
      | 1, hq => cases hq; exact ⟨a1, b1⟩
      | 2, hq => cases hq; exact ⟨a2, b2⟩
      | 3, hq => cases hq; exact ⟨a3, b3⟩
      | k + 4, hq => cases (show (none : Option (ClassId × FieldType)) = some q from hq)
    · exact va_Zof (hts _ (List.mem_of_getElem? (i := 554) (by decide +kernel))) (hts _ (List.mem_of_getElem? (i := 124) (by decide +kernel))) (va_eqi (hn _ (List.mem_of_getElem? (i := 4) (by decide +kernel)))) hA
    · exact va_Zqof (hts _ (List.mem_of_getElem? (i := 570) (by decide +kernel))) (hts _ (List.mem_of_getElem? (i := 126) (by decide +kernel))) (hn _ (List.mem_of_getElem? (i := 5) (by decide +kernel))) hA
  have hKX : zKX V s s.heap := by
    subst hV
    exact ⟨vx_Zqof (hts _ (List.mem_of_getElem? (i := 1120) (by decide +kernel))) (hts _ (List.mem_of_getElem? (i := 130) (by decide +kernel))) (hn _ (List.mem_of_getElem? (i := 36) (by decide +kernel))) hA, vx_Zqof (hts _ (List.mem_of_getElem? (i := 1122) (by decide +kernel))) (hts _ (List.mem_of_getElem? (i := 130) (by decide +kernel))) (hn _ (List.mem_of_getElem? (i := 37) (by decide +kernel))) hA, fun w hw => va_Nw.of (zXB_ok w hw).1 (hts _ (zXB_in w hw))⟩
  have hN : zN s := ⟨fun q hq => va_Nw.of rfl (hts _ (zNl_in q hq)), va_AO.of (A := #[Value.ref b]) (hts _ (List.mem_of_getElem? (i := 432) (by decide +kernel)))⟩
  have hNC : zNC s := fun i j hi hj hij => va_Nc.of (hn _ (List.mem_of_getElem? (nar_x i hi j hj hij)))
  have hz : zsz V = s.heap.size := by rw [hV]
  have hu : ∀ k, zsh V k = none := fun k => by rw [hV]
  have wf : zWf V := fun k y hy => by rw [hu k] at hy; cases hy
  have hP : zRep V zd0 s.heap := ⟨fun a y hy => (by rw [hu a] at hy; cases hy), fun a q h1 => (by rw [hu a] at h1; cases h1), fun a k => by show -2147483648 ≤ (0 : Int) ∧ (0 : Int) ≤ 2147483647; omega⟩
  have main := law_from (V := V) (X := (p, l, e, room_1, s, m, #[Value.ref b], below, meth, c, lw_Z below #[Value.ref b] s)) (b := b) (N := L) (xs := xs) ⟨hx, hb, hml, hown, fun w hw => hts w (List.mem_filter.mp hw).1, hK, hlocks, rfl, hr, Nat.le_of_eq hz⟩ ⟨hst, hKX, hN, hNC, hX, hbl, hz, rfl, rfl⟩ (by omega) wf hu
  have hl := lv_entry ([.ref b]) (n := 9) (Nat.le_of_ble_eq_true rfl)
  rw [lg_entry_eq]
  generalize (lg_sl ([.ref b]) ++ List.replicate (9 - (lg_sl ([.ref b])).length) Slot.unset).toArray = ls at hl ⊢
  exact main ls s.heap [] hl hP va_S.rf
