/-! The walk over the pure heap: a judgement, and a rule an instruction. -/
/-- the texts that the code names: whose, at which entry, its letters -/
def zTab : List (String × Nat × String × List Nat) := [
  ("PolledLine", 87, "terminal a; terminal b; list a b;", [116, 101, 114, 109, 105, 110, 97, 108, 32, 97, 59, 32, 116, 101, 114, 109, 105, 110, 97, 108, 32, 98, 59, 32, 108, 105, 115, 116, 32, 97, 32, 98, 59]),

  ("PolledLine$SetupReader", 70, "terminal", [116, 101, 114, 109, 105, 110, 97, 108]),
  ("PolledLine$SetupReader", 79, "list", [108, 105, 115, 116]),
  ("PolledLine$SetupReader", 86, "line", [108, 105, 110, 101]),
  ("PolledLine$SetupReader", 92, "burst", [98, 117, 114, 115, 116]),
  ("PolledLine$SetupReader", 94, "noise", [110, 111, 105, 115, 101]),
  ("PolledLine$SetupReader", 114, "delay", [100, 101, 108, 97, 121]),
  ("PolledLine$SetupReader", 123, "room", [114, 111, 111, 109]),
  ("PolledLine$SetupReader", 128, "print", [112, 114, 105, 110, 116]),
  ("PolledLine$Script", 62, "post", [112, 111, 115, 116]),
  ("PolledLine$Script", 68, "kill", [107, 105, 108, 108]),
  ("PolledLine$Script", 70, "wake", [119, 97, 107, 101]),
  ("PolledLine$Script", 72, "turns", [116, 117, 114, 110, 115]),
  ("PolledLine$Script", 74, "add", [97, 100, 100]),
  ("PolledLine$Script", 76, "drop", [100, 114, 111, 112]),
  ("PolledLine$Script", 85, "host", [104, 111, 115, 116]),
  ("PolledLine$Tokens", 50, "host", [104, 111, 115, 116]),
  ("PolledLineModel", 233, "host", [104, 111, 115, 116]),
  ("PolledLineModel", 247, "delay", [100, 101, 108, 97, 121]),
  ("PolledLineModel", 253, "room", [114, 111, 111, 109]),
  ("PolledLineModel", 255, "print", [112, 114, 105, 110, 116]),
  ("PolledLineModel", 266, "terminal", [116, 101, 114, 109, 105, 110, 97, 108]),
  ("PolledLineModel", 271, "list", [108, 105, 115, 116]),
  ("PolledLineModel", 276, "line", [108, 105, 110, 101]),
  ("PolledLineModel", 281, "burst", [98, 117, 114, 115, 116]),
  ("PolledLineModel", 283, "noise", [110, 111, 105, 115, 101]),
  ("PolledLineModel", 304, "post", [112, 111, 115, 116]),
  ("PolledLineModel", 306, "kill", [107, 105, 108, 108]),
  ("PolledLineModel", 308, "wake", [119, 97, 107, 101]),
  ("PolledLineModel", 310, "turns", [116, 117, 114, 110, 115]),
  ("PolledLineModel", 311, "add", [97, 100, 100]),
  ("PolledLineModel", 313, "drop", [100, 114, 111, 112]),
  ("PolledLineLaw", 45, "terminal ", [116, 101, 114, 109, 105, 110, 97, 108, 32]),
  ("PolledLineLaw", 57, " delay ", [32, 100, 101, 108, 97, 121, 32]),
  ("PolledLineLaw", 66, " room ", [32, 114, 111, 111, 109, 32]),
  ("PolledLineLaw", 68, " print ", [32, 112, 114, 105, 110, 116, 32]),
  ("PolledLineLaw", 70, "list", [108, 105, 115, 116]),
  ("PolledLineLaw", 72, ";line ", [59, 108, 105, 110, 101, 32]),
  ("PolledLineLaw", 74, ";burst ", [59, 98, 117, 114, 115, 116, 32]),
  ("PolledLineLaw", 76, ";noise ", [59, 110, 111, 105, 115, 101, 32])]

/-- the tables' words that stay true as the machine warms -/
def zT : List Cond := lw_tbl.filter goodWord
theorem zin {w : Cond} (i : Nat) (h : lw_tbl[i]? = some w) (hg : goodWord w = true) : w ∈ zT := List.mem_filter.mpr ⟨List.mem_of_getElem? h, hg⟩
theorem zTg : GoodIn zT zT := fun w h => ⟨h, good_of_word (List.mem_filter.mp h).2⟩
/-- the texts that this law reaches -/
def zbad (i : Nat) : Nat := if i ∈ ([0, 1, 2, 3, 4, 5, 6, 7, 8, 16, 32, 33, 34, 35, 36, 37, 38, 39] : List Nat) then 0 else 1
def zt1 (i : Nat) : String × Nat × String × List Nat := zTab.getD i ("", 0, "", [])
def zslen (i : Nat) : Nat := (zt1 i).2.2.2.length
def zsch (i j : Nat) : Int := (((zt1 i).2.2.2.getD j 0 : Nat) : Int)
/-- the static rows: the least, the greatest, the usual value of a setting -/
def ztab (t j : Nat) : Int := match t with
  | 0 => ([1, 1, 1, 0, 0, 0] : List Int).getD j 0
  | 1 => ([20, 5, 5, 20, 5, 99] : List Int).getD j 0
  | _ => ([5, 3, 2, 8, 1, 0] : List Int).getD j 0
def ztn (t : Nat) : String := match t with
  | 0 => "SMALLEST"
  | 1 => "GREATEST"
  | _ => "USUAL"
/-- the two rows of digits -/
def zdn (t : Nat) : String := match t with
  | 0 => "DigitOnes"
  | _ => "DigitTens"
def zdg (t j : Nat) : Int := match t with
  | 0 => ((48 + j % 10 : Nat) : Int)
  | _ => ((48 + j / 10 : Nat) : Int)
/-- where SetupReader's pool names it -/
def zsx (t : Nat) : Nat := match t with
  | 0 => 137
  | 1 => 140
  | _ => 42
theorem zbad_lt {i : Nat} (h : zbad i < 1) : i < 40 := by
  unfold zbad at h
  split at h
  · rename_i hm
    simp only [List.mem_cons, List.not_mem_nil, or_false] at hm
    omega
  · omega
/-- a text: its letters -/
def zTX (V : zW) (U : State) (H : Heap) (r : Nat × Nat × Nat × (Nat → Int)) : Prop := va_O "java/lang/String" r.1 (zA V) U H ∧ va_OF "java/lang/String" "coder" "B" (.int 0) r.1 (zA V) U H ∧ va_OF "java/lang/String" "value" "[B" (.ref r.2.1) r.1 (zA V) U H ∧ va_T .byte r.2.1 r.2.2.1 (fun j => .int (zI (r.2.2.2 j))) (zA V) U H
/-- what stands outside the system's own cells, and stays: texts, static rows, the JDK's statics that charAt asks -/
def zRO (V : zW) (U : State) (H : Heap) : Prop :=
  (∀ i, zbad i < 1 → va_O "java/lang/String" (zsa V i) (zA V) U H ∧ va_OF "java/lang/String" "coder" "B" (.int 0) (zsa V i) (zA V) U H ∧ va_OF "java/lang/String" "value" "[B" (.ref (zsv V i)) (zsa V i) (zA V) U H ∧ va_T .byte (zsv V i) (zslen i) (fun j => .int (zI (zsch i j))) (zA V) U H ∧ vk_R (zt1 i).1 (zt1 i).2.1 (zt1 i).2.2.1 (zsa V i) U) ∧
  (∀ t, t < 3 → va_Z "PolledLine" (ztn t) "[I" (.ref (zst V t)) (zA V) U H ∧ va_T .int (zst V t) 6 (fun j => .int (zI (ztab t j))) (zA V) U H ∧ va_Nw (.fieldLinkNest "PolledLine$SetupReader" (zsx t) "PolledLine" (ztn t) "[I" "PolledLine") U) ∧
  va_Z "java/lang/String" "COMPACT_STRINGS" "Z" (.int 1) (zA V) U H ∧ va_Zq "jdk/internal/util/Preconditions" "SIOOBE_FORMATTER" "Ljava/util/function/BiFunction;" (zA V) U H ∧
  (∀ t, t < 2 → va_Z "java/lang/Integer" (zdn t) "[B" (.ref (zst V (3 + t))) (zA V) U H ∧ va_T .byte (zst V (3 + t)) 100 (fun j => .int (zI (zdg t j))) (zA V) U H) ∧ va_T .int (zqa V) (zqn V) (fun j => .int (zI (zqf V j))) (zA V) U H ∧ (∀ j, zR (zqf V j)) ∧ ∀ r, zdr V = some r → zTX V U H r
theorem vk_R.alike {own tx : String} {k a : Nat} {u U : State} (hW : u.WarmedH U.vm) (h : vk_R own k tx a u) : vk_R own k tx a U := h.warm hW
theorem zRO.go {V : zW} {u U : State} {H H1 : Heap} (hW : u.WarmedH U.vm) (h : zRO V u H) (hq : ∀ a : Nat, a < H.size → ¬ zA V a → H1[a]? = H[a]?) : zRO V U H1 := by
  obtain ⟨h1, h2, h3, h4, h5, h6, h7⟩ := h
  refine ⟨fun i hi => ?_, fun t ht => ?_, (h3.moved hW.alike).kept hq, (h4.moved hW.alike).kept hq, fun t ht => ⟨((h5 t ht).1.moved hW.alike).kept hq, ((h5 t ht).2.moved hW.alike).kept hq⟩, (h6.moved hW.alike).kept hq, h7.1, fun r hr => ?_⟩
  · obtain ⟨g1, g2, g3, g4, g5⟩ := h1 i hi
    exact ⟨(g1.moved hW.alike).kept hq, (g2.moved hW.alike).kept hq, (g3.moved hW.alike).kept hq, (g4.moved hW.alike).kept hq, g5.warm hW⟩
  · obtain ⟨g1, g2, g3⟩ := h2 t ht
    exact ⟨(g1.moved hW.alike).kept hq, (g2.moved hW.alike).kept hq, g3.warmF hW⟩
  · obtain ⟨g1, g2, g3, g4⟩ := h7.2 r hr
    exact ⟨(g1.moved hW.alike).kept hq, (g2.moved hW.alike).kept hq, (g3.moved hW.alike).kept hq, (g4.moved hW.alike).kept hq⟩
def zK (V : zW) (U : State) : Prop := va_K (zDD V) vwCl (zty V) U ∧ zRO V U U.heap
/-- locals by their places -/
def zLp : Nat → List (Option Value) → List (Nat × Value)
  | _, [] => []
  | i, some v :: L => (i, v) :: zLp (i + 1) L
  | i, none :: L => zLp (i + 1) L
theorem zLp_mem {L : List (Option Value)} {i k : Nat} {v : Value} (h : L[k]? = some (some v)) : (i + k, v) ∈ zLp i L := by
  induction L generalizing i k with
  | nil => simp at h
  | cons o L ih =>
    match k with
    | 0 =>
      simp at h
      subst h
      simp [zLp]
    | k + 1 =>
      simp at h
      have h1 := ih (i := i + 1) h
      rw [show i + 1 + k = i + (k + 1) by omega] at h1
      cases o with
      | none => simpa [zLp] using h1
      | some w => simp only [zLp]; exact List.mem_cons_of_mem _ h1
theorem zLp_of {L : List (Option Value)} {i j : Nat} {v : Value} (h : (j, v) ∈ zLp i L) : i ≤ j ∧ L[j - i]? = some (some v) := by
  induction L generalizing i with
  | nil => simp [zLp] at h
  | cons o L ih =>
    cases o with
    | none =>
      simp only [zLp] at h
      obtain ⟨h1, h2⟩ := ih h
      refine ⟨by omega, ?_⟩
      rw [show j - i = (j - (i + 1)) + 1 by omega]
      simpa using h2
    | some w =>
      simp only [zLp] at h
      rcases List.mem_cons.mp h with e | h
      · cases e
        exact ⟨Nat.le_refl _, by simp⟩
      · obtain ⟨h1, h2⟩ := ih h
        refine ⟨by omega, ?_⟩
        rw [show j - i = (j - (i + 1)) + 1 by omega]
        simpa using h2
def zLs (ls : Array Slot) (nL : Nat) (L : List (Option Value)) : Prop := lv_has ls nL (zLp 0 L)
theorem zLs.at {ls : Array Slot} {nL : Nat} {L : List (Option Value)} (h : zLs ls nL L) {i : Nat} {v : Value} (hk : L[i]? = some (some v)) : ls[i]? = some (.val v) := by
  have h1 := zLp_mem (i := 0) hk
  rw [Nat.zero_add] at h1
  exact h.2.2 (i, v) h1
def zcat (L : List (Option Value)) : Bool := L.all fun o => match o with
  | some v => v.category == 1
  | none => true
theorem zLs.of {ls : Array Slot} {nL : Nat} {L L' : List (Option Value)} {lv : List (Nat × Value)} {i : Nat} {v : Value} (h : lv_has ls nL ((i, v) :: lv)) (hlv : ∀ j w, L[j]? = some (some w) → j ≠ i → (j, w) ∈ lv) (hL : L.set i (some v) = L') : zLs ls nL L' := by
  subst hL
  refine ⟨h.1, h.2.1, fun q hq => ?_⟩
  obtain ⟨-, h2⟩ := zLp_of (i := 0) (j := q.1) (v := q.2) hq
  rw [Nat.sub_zero] at h2
  by_cases hi : i = q.1
  · rw [List.getElem?_set] at h2
    rw [if_pos hi] at h2
    split at h2
    · have e2 : v = q.2 := by simpa using h2
      exact h.2.2 q (by rw [show q = (i, v) from Prod.ext hi.symm e2.symm]; exact List.mem_cons_self)
    · cases h2
  · rw [List.getElem?_set_ne hi] at h2
    exact h.2.2 q (List.mem_cons_of_mem _ (hlv _ _ h2 (fun e => hi e.symm)))
theorem zLs.filt {L : List (Option Value)} (hc : zcat L = true) {i j : Nat} {w : Value} (h : L[j]? = some (some w)) (hj : j ≠ i) : (j, w) ∈ (zLp 0 L).filter (fun q => !(q.1 == i) && !(q.1 + 1 == i && q.2.category == 2)) := by
  have h1 := zLp_mem (i := 0) h
  rw [Nat.zero_add] at h1
  have h2 := List.all_eq_true.mp hc (some w) (List.mem_of_getElem? h)
  simp only [beq_iff_eq] at h2
  refine List.mem_filter.mpr ⟨h1, ?_⟩
  simp [hj, h2]
theorem zLs.drop {ls : Array Slot} {nL : Nat} {L : List (Option Value)} (h : zLs ls nL L) (i : Nat) : zLs ls nL (L.set i none) := by
  refine ⟨h.1, h.2.1, fun q hq => ?_⟩
  obtain ⟨-, h2⟩ := zLp_of (i := 0) (j := q.1) (v := q.2) hq
  rw [Nat.sub_zero] at h2
  by_cases hi : i = q.1
  · rw [List.getElem?_set, if_pos hi] at h2
    split at h2 <;> cases h2
  · rw [List.getElem?_set_ne hi] at h2
    have h3 := zLp_mem (i := 0) h2
    rw [Nat.zero_add] at h3
    exact h.2.2 q h3
/-- where a walk stands: the program and its frame, and what is to be reached -/
abbrev zX : Type := Program × Launch × Env × Room × State × MethodId × Array Value × List Frame × Method × Code × (State → Prop)
def zP (V : zW) (X : zX) (nL k n pc : Nat) (L : List (Option Value)) (st : List Value) (d : zD) : Prop :=
  match X with
  | (p, l, e, R, s, m, args, below, meth, c, Q) => ∀ (ls : Array Slot) (H : Heap) (locs : List Loc), zLs ls nL L → zRep V d H → va_S (zA V) s.heap H locs → W p l e R s m args below meth c H locs k n Q (F0 m pc ls st)
/-- what holds all through a method: its code, its class, the tables' words, what stays -/
def zOk (V : zW) (X : zX) (cc : ByteArray) (own : String) (nL : Nat) (R0 : Room) (ret : Option FieldType) : Prop :=
  match X with
  | (p, _, _, R, s, m, args, _, meth, c, _) => p.tables.exec = Jvm.exec ∧ c.code = cc ∧ c.maxLocals = nL ∧ s.vm.findClass own = some m.cls ∧ (∀ w ∈ zT, w.before args s = true) ∧ zK V s ∧ meth.locks = false ∧ R = R0 ∧ meth.sig.returnType = ret ∧ ∀ q, s.heap.size ≤ q → zA V q

section RULES
variable {V : zW} {X : zX} {cc : ByteArray} {own : String} {nL k n pc : Nat} {R0 : Room} {ret : Option FieldType} {L L' : List (Option Value)} {st : List Value} {d : zD} {β : Type} {r : β}

theorem zP_iconst (C : zOk V X cc own nL R0 ret) {z : Int} (hdg : decode cc pc = .ok (.iconst z, 1)) (kk : zP V X nL k n (pc + 1) L (.int (zI z) :: st) d) : zP V X nL k n pc L (st) d := by
  obtain ⟨p, l, e, R, s, m, args, below, meth, c, Q⟩ := X
  obtain ⟨hx, hb, hml, hown, hts, hK, hlk, hR, hret, hsz⟩ := C
  intro ls H locs hl hP hS
  exact lv_iconst hx hb hdg rfl (kk ls H locs hl hP hS)

theorem zP_bipush (C : zOk V X cc own nL R0 ret) {z : Int} (hdg : decode cc pc = .ok (.bipush z, 2)) (hz : (Int8.ofInt z).toInt32 = zI z) (kk : zP V X nL k n (pc + 2) L (.int (zI z) :: st) d) : zP V X nL k n pc L (st) d := by
  obtain ⟨p, l, e, R, s, m, args, below, meth, c, Q⟩ := X
  obtain ⟨hx, hb, hml, hown, hts, hK, hlk, hR, hret, hsz⟩ := C
  intro ls H locs hl hP hS
  exact lv_bipush hx hb hdg hz (kk ls H locs hl hP hS)

theorem zP_sipush (C : zOk V X cc own nL R0 ret) {z : Int} (hdg : decode cc pc = .ok (.sipush z, 3)) (hz : (Int16.ofInt z).toInt32 = zI z) (kk : zP V X nL k n (pc + 3) L (.int (zI z) :: st) d) : zP V X nL k n pc L (st) d := by
  obtain ⟨p, l, e, R, s, m, args, below, meth, c, Q⟩ := X
  obtain ⟨hx, hb, hml, hown, hts, hK, hlk, hR, hret, hsz⟩ := C
  intro ls H locs hl hP hS
  exact lv_sipush hx hb hdg hz (kk ls H locs hl hP hS)

theorem zP_ldc (C : zOk V X cc own nL R0 ret) {z : Int} {ix : Nat} (hdg : decode cc pc = .ok (.ldc ix, 2)) (hw : Cond.constant own ix (zI z) ∈ zT) (kk : zP V X nL k n (pc + 2) L (.int (zI z) :: st) d) : zP V X nL k n pc L (st) d := by
  obtain ⟨p, l, e, R, s, m, args, below, meth, c, Q⟩ := X
  obtain ⟨hx, hb, hml, hown, hts, hK, hlk, hR, hret, hsz⟩ := C
  intro ls H locs hl hP hS
  exact lv_ldc hx hb hown (hts _ hw) hdg (kk ls H locs hl hP hS)

theorem zP_ldcw (C : zOk V X cc own nL R0 ret) {z : Int} {ix : Nat} (hdg : decode cc pc = .ok (.ldc_w ix, 3)) (hw : Cond.constant own ix (zI z) ∈ zT) (kk : zP V X nL k n (pc + 3) L (.int (zI z) :: st) d) : zP V X nL k n pc L (st) d := by
  obtain ⟨p, l, e, R, s, m, args, below, meth, c, Q⟩ := X
  obtain ⟨hx, hb, hml, hown, hts, hK, hlk, hR, hret, hsz⟩ := C
  intro ls H locs hl hP hS
  exact lv_ldcw hx hb hown (hts _ hw) hdg (kk ls H locs hl hP hS)

theorem zP_iload (C : zOk V X cc own nL R0 ret) {i : Nat} {x : Int32} (hdg : decode cc pc = .ok (.iload i, 2)) (hv : L[i]? = some (some (.int x))) (kk : zP V X nL k n (pc + 2) L (.int x :: st) d) : zP V X nL k n pc L (st) d := by
  obtain ⟨p, l, e, R, s, m, args, below, meth, c, Q⟩ := X
  obtain ⟨hx, hb, hml, hown, hts, hK, hlk, hR, hret, hsz⟩ := C
  intro ls H locs hl hP hS
  exact lv_iload hx hb hdg (hl.at hv) (kk ls H locs hl hP hS)

theorem zP_iload_n (C : zOk V X cc own nL R0 ret) {j : Fin 4} {i : Nat} {x : Int32} (hdg : decode cc pc = .ok (.iload_n j, 1)) (hi : (j : Nat) = i) (hv : L[i]? = some (some (.int x))) (kk : zP V X nL k n (pc + 1) L (.int x :: st) d) : zP V X nL k n pc L (st) d := by
  obtain ⟨p, l, e, R, s, m, args, below, meth, c, Q⟩ := X
  obtain ⟨hx, hb, hml, hown, hts, hK, hlk, hR, hret, hsz⟩ := C
  intro ls H locs hl hP hS
  exact lv_iload_n hx hb hdg hi (hl.at hv) (kk ls H locs hl hP hS)

theorem zP_istore (C : zOk V X cc own nL R0 ret) {i : Nat} {x : Int32} (hdg : decode cc pc = .ok (.istore i, 2)) (hn : i < nL) (hc : zcat L = true) (hL : L.set i (some (.int x)) = L') (kk : zP V X nL k n (pc + 2) L' (st) d) : zP V X nL k n pc L (.int x :: st) d := by
  obtain ⟨p, l, e, R, s, m, args, below, meth, c, Q⟩ := X
  obtain ⟨hx, hb, hml, hown, hts, hK, hlk, hR, hret, hsz⟩ := C
  intro ls H locs hl hP hS
  exact lv_istore hx hb hdg hl hn rfl fun ls' h' => kk ls' H locs (zLs.of h' (fun j w hj hne => zLs.filt hc hj hne) hL) hP hS

theorem zP_istore_n (C : zOk V X cc own nL R0 ret) {j : Fin 4} {i : Nat} {x : Int32} (hdg : decode cc pc = .ok (.istore_n j, 1)) (hi : (j : Nat) = i) (hn : i < nL) (hc : zcat L = true) (hL : L.set i (some (.int x)) = L') (kk : zP V X nL k n (pc + 1) L' (st) d) : zP V X nL k n pc L (.int x :: st) d := by
  obtain ⟨p, l, e, R, s, m, args, below, meth, c, Q⟩ := X
  obtain ⟨hx, hb, hml, hown, hts, hK, hlk, hR, hret, hsz⟩ := C
  intro ls H locs hl hP hS
  exact lv_istore_n hx hb hdg hi hl hn rfl fun ls' h' => kk ls' H locs (zLs.of h' (fun j w hj hne => zLs.filt hc hj hne) hL) hP hS

theorem zP_aload (C : zOk V X cc own nL R0 ret) {i : Nat} {x : Nat} (hdg : decode cc pc = .ok (.aload i, 2)) (hv : L[i]? = some (some (.ref x))) (kk : zP V X nL k n (pc + 2) L (.ref x :: st) d) : zP V X nL k n pc L (st) d := by
  obtain ⟨p, l, e, R, s, m, args, below, meth, c, Q⟩ := X
  obtain ⟨hx, hb, hml, hown, hts, hK, hlk, hR, hret, hsz⟩ := C
  intro ls H locs hl hP hS
  exact lv_aload hx hb hdg (hl.at hv) (kk ls H locs hl hP hS)

theorem zP_aload_n (C : zOk V X cc own nL R0 ret) {j : Fin 4} {i : Nat} {x : Nat} (hdg : decode cc pc = .ok (.aload_n j, 1)) (hi : (j : Nat) = i) (hv : L[i]? = some (some (.ref x))) (kk : zP V X nL k n (pc + 1) L (.ref x :: st) d) : zP V X nL k n pc L (st) d := by
  obtain ⟨p, l, e, R, s, m, args, below, meth, c, Q⟩ := X
  obtain ⟨hx, hb, hml, hown, hts, hK, hlk, hR, hret, hsz⟩ := C
  intro ls H locs hl hP hS
  exact lv_aload_n hx hb hdg hi (hl.at hv) (kk ls H locs hl hP hS)

theorem zP_astore (C : zOk V X cc own nL R0 ret) {i : Nat} {x : Nat} (hdg : decode cc pc = .ok (.astore i, 2)) (hn : i < nL) (hc : zcat L = true) (hL : L.set i (some (.ref x)) = L') (kk : zP V X nL k n (pc + 2) L' (st) d) : zP V X nL k n pc L (.ref x :: st) d := by
  obtain ⟨p, l, e, R, s, m, args, below, meth, c, Q⟩ := X
  obtain ⟨hx, hb, hml, hown, hts, hK, hlk, hR, hret, hsz⟩ := C
  intro ls H locs hl hP hS
  exact lv_astore hx hb hdg hl hn rfl fun ls' h' => kk ls' H locs (zLs.of h' (fun j w hj hne => zLs.filt hc hj hne) hL) hP hS

theorem zP_astore_n (C : zOk V X cc own nL R0 ret) {j : Fin 4} {i : Nat} {x : Nat} (hdg : decode cc pc = .ok (.astore_n j, 1)) (hi : (j : Nat) = i) (hn : i < nL) (hc : zcat L = true) (hL : L.set i (some (.ref x)) = L') (kk : zP V X nL k n (pc + 1) L' (st) d) : zP V X nL k n pc L (.ref x :: st) d := by
  obtain ⟨p, l, e, R, s, m, args, below, meth, c, Q⟩ := X
  obtain ⟨hx, hb, hml, hown, hts, hK, hlk, hR, hret, hsz⟩ := C
  intro ls H locs hl hP hS
  exact lv_astore_n hx hb hdg hi hl hn rfl fun ls' h' => kk ls' H locs (zLs.of h' (fun j w hj hne => zLs.filt hc hj hne) hL) hP hS

theorem zP_iinc (C : zOk V X cc own nL R0 ret) {i : Nat} {z x : Int} {K : Int → Option β} (hdg : decode cc pc = .ok (.iinc i z, 3)) (hv : L[i]? = some (some (.int (zI x)))) (hn : i < nL) (hc : zcat L = true) (h : zl (zw (x + z)) K = some r) (kk : ∀ v, zR v → K v = some r → zP V X nL k n (pc + 3) (L.set i (some (.int (zI v)))) (st) d) : zP V X nL k n pc L (st) d := by
  obtain ⟨p, l, e, R, s, m, args, below, meth, c, Q⟩ := X
  obtain ⟨hx, hb, hml, hown, hts, hK, hlk, hR, hret, hsz⟩ := C
  intro ls H locs hl hP hS
  have hm := zLp_mem (i := 0) hv
  rw [Nat.zero_add] at hm
  obtain ⟨q, hq⟩ := List.getElem?_of_mem hm
  exact lv_iinc hx hb hdg hl hq rfl hn rfl fun ls' h' => kk _ (zw_R _) h ls' H locs (zLs.of h' (fun j w hj hne => zLs.filt hc hj hne) (by rw [← zI_add]; rfl)) hP hS

theorem zP_iadd (C : zOk V X cc own nL R0 ret) {x y : Int} {K : Int → Option β} (hdg : decode cc pc = .ok (.iadd, 1)) (h : zl (zw (x + y)) K = some r) (kk : ∀ v, zR v → K v = some r → zP V X nL k n (pc + 1) L (.int (zI v) :: st) d) : zP V X nL k n pc L (.int (zI y) :: .int (zI x) :: st) d := by
  obtain ⟨p, l, e, R, s, m, args, below, meth, c, Q⟩ := X
  obtain ⟨hx, hb, hml, hown, hts, hK, hlk, hR, hret, hsz⟩ := C
  intro ls H locs hl hP hS
  refine lv_iadd hx hb hdg ?_
  rw [zI_add]
  exact kk _ (zw_R _) h ls H locs hl hP hS

theorem zP_isub (C : zOk V X cc own nL R0 ret) {x y : Int} {K : Int → Option β} (hdg : decode cc pc = .ok (.isub, 1)) (h : zl (zw (x - y)) K = some r) (kk : ∀ v, zR v → K v = some r → zP V X nL k n (pc + 1) L (.int (zI v) :: st) d) : zP V X nL k n pc L (.int (zI y) :: .int (zI x) :: st) d := by
  obtain ⟨p, l, e, R, s, m, args, below, meth, c, Q⟩ := X
  obtain ⟨hx, hb, hml, hown, hts, hK, hlk, hR, hret, hsz⟩ := C
  intro ls H locs hl hP hS
  refine lv_isub hx hb hdg ?_
  rw [zI_sub]
  exact kk _ (zw_R _) h ls H locs hl hP hS

theorem zP_imul (C : zOk V X cc own nL R0 ret) {x y : Int} {K : Int → Option β} (hdg : decode cc pc = .ok (.imul, 1)) (h : zl (zw (x * y)) K = some r) (kk : ∀ v, zR v → K v = some r → zP V X nL k n (pc + 1) L (.int (zI v) :: st) d) : zP V X nL k n pc L (.int (zI y) :: .int (zI x) :: st) d := by
  obtain ⟨p, l, e, R, s, m, args, below, meth, c, Q⟩ := X
  obtain ⟨hx, hb, hml, hown, hts, hK, hlk, hR, hret, hsz⟩ := C
  intro ls H locs hl hP hS
  refine lv_imul hx hb hdg ?_
  rw [zI_mul]
  exact kk _ (zw_R _) h ls H locs hl hP hS

theorem zP_iand (C : zOk V X cc own nL R0 ret) {x y : Int} {K : Int → Option β} (hdg : decode cc pc = .ok (.iand, 1)) (h : zl (zand x y) K = some r) (kk : ∀ v, zR v → K v = some r → zP V X nL k n (pc + 1) L (.int (zI v) :: st) d) : zP V X nL k n pc L (.int (zI y) :: .int (zI x) :: st) d := by
  obtain ⟨p, l, e, R, s, m, args, below, meth, c, Q⟩ := X
  obtain ⟨hx, hb, hml, hown, hts, hK, hlk, hR, hret, hsz⟩ := C
  intro ls H locs hl hP hS
  have q := kk (zand x y) (zR_of _) h ls H locs hl hP hS
  rw [show zI (zand x y) = _ from zI_of _] at q
  exact lv_iand hx hb hdg q

theorem zP_ior (C : zOk V X cc own nL R0 ret) {x y : Int} {K : Int → Option β} (hdg : decode cc pc = .ok (.ior, 1)) (h : zl (zor x y) K = some r) (kk : ∀ v, zR v → K v = some r → zP V X nL k n (pc + 1) L (.int (zI v) :: st) d) : zP V X nL k n pc L (.int (zI y) :: .int (zI x) :: st) d := by
  obtain ⟨p, l, e, R, s, m, args, below, meth, c, Q⟩ := X
  obtain ⟨hx, hb, hml, hown, hts, hK, hlk, hR, hret, hsz⟩ := C
  intro ls H locs hl hP hS
  have q := kk (zor x y) (zR_of _) h ls H locs hl hP hS
  rw [show zI (zor x y) = _ from zI_of _] at q
  exact lv_ior hx hb hdg q

theorem zP_ixor (C : zOk V X cc own nL R0 ret) {x y : Int} {K : Int → Option β} (hdg : decode cc pc = .ok (.ixor, 1)) (h : zl (zxor x y) K = some r) (kk : ∀ v, zR v → K v = some r → zP V X nL k n (pc + 1) L (.int (zI v) :: st) d) : zP V X nL k n pc L (.int (zI y) :: .int (zI x) :: st) d := by
  obtain ⟨p, l, e, R, s, m, args, below, meth, c, Q⟩ := X
  obtain ⟨hx, hb, hml, hown, hts, hK, hlk, hR, hret, hsz⟩ := C
  intro ls H locs hl hP hS
  have q := kk (zxor x y) (zR_of _) h ls H locs hl hP hS
  rw [show zI (zxor x y) = _ from zI_of _] at q
  exact lv_ixor hx hb hdg q

theorem zP_ishl (C : zOk V X cc own nL R0 ret) {x y : Int} {K : Int → Option β} (hdg : decode cc pc = .ok (.ishl, 1)) (h : zl (zshl x y) K = some r) (kk : ∀ v, zR v → K v = some r → zP V X nL k n (pc + 1) L (.int (zI v) :: st) d) : zP V X nL k n pc L (.int (zI y) :: .int (zI x) :: st) d := by
  obtain ⟨p, l, e, R, s, m, args, below, meth, c, Q⟩ := X
  obtain ⟨hx, hb, hml, hown, hts, hK, hlk, hR, hret, hsz⟩ := C
  intro ls H locs hl hP hS
  have q := kk (zshl x y) (zR_of _) h ls H locs hl hP hS
  rw [show zI (zshl x y) = _ from zI_of _] at q
  exact lv_ishl hx hb hdg q

theorem zP_ishr (C : zOk V X cc own nL R0 ret) {x y : Int} {K : Int → Option β} (hdg : decode cc pc = .ok (.ishr, 1)) (h : zl (zshr x y) K = some r) (kk : ∀ v, zR v → K v = some r → zP V X nL k n (pc + 1) L (.int (zI v) :: st) d) : zP V X nL k n pc L (.int (zI y) :: .int (zI x) :: st) d := by
  obtain ⟨p, l, e, R, s, m, args, below, meth, c, Q⟩ := X
  obtain ⟨hx, hb, hml, hown, hts, hK, hlk, hR, hret, hsz⟩ := C
  intro ls H locs hl hP hS
  have q := kk (zshr x y) (zR_of _) h ls H locs hl hP hS
  rw [show zI (zshr x y) = _ from zI_of _] at q
  exact lv_ishr hx hb hdg q

theorem zP_idiv (C : zOk V X cc own nL R0 ret) {x y : Int} {K : Int → Option β} (hdg : decode cc pc = .ok (.idiv, 1)) (hy : zR y) (h : zn y (zl (zdiv x y) K) = some r) (kk : ∀ v, zR v → K v = some r → zP V X nL k n (pc + 1) L (.int (zI v) :: st) d) : zP V X nL k n pc L (.int (zI y) :: .int (zI x) :: st) d := by
  obtain ⟨p, l, e, R, s, m, args, below, meth, c, Q⟩ := X
  obtain ⟨hx, hb, hml, hown, hts, hK, hlk, hR, hret, hsz⟩ := C
  intro ls H locs hl hP hS
  obtain ⟨h0, h⟩ := zn_h h
  have q := kk (zdiv x y) (zR_of _) h ls H locs hl hP hS
  rw [show zI (zdiv x y) = _ from zI_of _] at q
  exact lv_idiv hx hb hdg (fun e => h0 ((zI_eq hy (y := 0) ⟨by omega, by omega⟩).mp e)) q

theorem zP_irem (C : zOk V X cc own nL R0 ret) {x y : Int} {K : Int → Option β} (hdg : decode cc pc = .ok (.irem, 1)) (hy : zR y) (h : zn y (zl (zrem x y) K) = some r) (kk : ∀ v, zR v → K v = some r → zP V X nL k n (pc + 1) L (.int (zI v) :: st) d) : zP V X nL k n pc L (.int (zI y) :: .int (zI x) :: st) d := by
  obtain ⟨p, l, e, R, s, m, args, below, meth, c, Q⟩ := X
  obtain ⟨hx, hb, hml, hown, hts, hK, hlk, hR, hret, hsz⟩ := C
  intro ls H locs hl hP hS
  obtain ⟨h0, h⟩ := zn_h h
  have q := kk (zrem x y) (zR_of _) h ls H locs hl hP hS
  rw [show zI (zrem x y) = _ from zI_of _] at q
  exact lv_irem hx hb hdg (fun e => h0 ((zI_eq hy (y := 0) ⟨by omega, by omega⟩).mp e)) q

theorem zP_i2b (C : zOk V X cc own nL R0 ret) {x : Int} {K : Int → Option β} (hdg : decode cc pc = .ok (.i2b, 1)) (h : zl (zb8 x) K = some r) (kk : ∀ v, zR v → K v = some r → zP V X nL k n (pc + 1) L (.int (zI v) :: st) d) : zP V X nL k n pc L (.int (zI x) :: st) d := by
  obtain ⟨p, l, e, R, s, m, args, below, meth, c, Q⟩ := X
  obtain ⟨hx, hb, hml, hown, hts, hK, hlk, hR, hret, hsz⟩ := C
  intro ls H locs hl hP hS
  have q := kk (zb8 x) (zR_of _) h ls H locs hl hP hS
  exact lv_i2b hx hb hdg (zI_of _).symm q

theorem zP_dup (C : zOk V X cc own nL R0 ret) {v : Value} (hdg : decode cc pc = .ok (.dup, 1)) (hc : v.category = 1) (kk : zP V X nL k n (pc + 1) L (v :: v :: st) d) : zP V X nL k n pc L (v :: st) d := by
  obtain ⟨p, l, e, R, s, m, args, below, meth, c, Q⟩ := X
  obtain ⟨hx, hb, hml, hown, hts, hK, hlk, hR, hret, hsz⟩ := C
  intro ls H locs hl hP hS
  exact lv_dup hx hb hdg hc (kk ls H locs hl hP hS)

theorem zP_dup2 (C : zOk V X cc own nL R0 ret) {v w : Value} (hdg : decode cc pc = .ok (.dup2, 1)) (hc : v.category = 1) (hc2 : w.category = 1) (kk : zP V X nL k n (pc + 1) L (v :: w :: v :: w :: st) d) : zP V X nL k n pc L (v :: w :: st) d := by
  obtain ⟨p, l, e, R, s, m, args, below, meth, c, Q⟩ := X
  obtain ⟨hx, hb, hml, hown, hts, hK, hlk, hR, hret, hsz⟩ := C
  intro ls H locs hl hP hS
  exact lv_dup2_11 hx hb hdg hc hc2 (kk ls H locs hl hP hS)

theorem zP_pop (C : zOk V X cc own nL R0 ret) {v : Value} (hdg : decode cc pc = .ok (.pop, 1)) (hc : v.category = 1) (kk : zP V X nL k n (pc + 1) L (st) d) : zP V X nL k n pc L (v :: st) d := by
  obtain ⟨p, l, e, R, s, m, args, below, meth, c, Q⟩ := X
  obtain ⟨hx, hb, hml, hown, hts, hK, hlk, hR, hret, hsz⟩ := C
  intro ls H locs hl hP hS
  exact lv_pop hx hb hdg hc (kk ls H locs hl hP hS)

theorem zP_goto (C : zOk V X cc own nL R0 ret) {off : Int} {tgt : Nat} (hdg : decode cc pc = .ok (.goto off, 3)) (ht : (pc : Int) + off = (tgt : Int)) (kk : zP V X nL k n tgt L (st) d) : zP V X nL k n pc L (st) d := by
  obtain ⟨p, l, e, R, s, m, args, below, meth, c, Q⟩ := X
  obtain ⟨hx, hb, hml, hown, hts, hK, hlk, hR, hret, hsz⟩ := C
  intro ls H locs hl hP hS
  exact lv_goto hx hb hdg ht (kk ls H locs hl hP hS)

theorem zP_icmp_eq (C : zOk V X cc own nL R0 ret) {x y : Int} {off : Int} {tgt : Nat} {A B : Option β} (hdg : decode cc pc = .ok (.if_icmp .eq off, 3)) (ht : (pc : Int) + off = (tgt : Int)) (hX : zR x) (hY : zR y) (h : (if x = y then A else B) = some r) (kt : x = y → A = some r → zP V X nL k n tgt L st d) (kf : ¬ x = y → B = some r → zP V X nL k n (pc + 3) L st d) : zP V X nL k n pc L (.int (zI y) :: .int (zI x) :: st) d := by
  obtain ⟨p, l, e, R, s, m, args, below, meth, c, Q⟩ := X
  obtain ⟨hx, hb, hml, hown, hts, hK, hlk, hR, hret, hsz⟩ := C
  intro ls H locs hl hP hS
  have E := zI_eq hX hY
  refine lv_icmp_eq hx hb hdg ht (fun q => ?_) (fun q => ?_)
  · have q := E.mp q
    rw [if_pos q] at h
    exact kt q h ls H locs hl hP hS
  · have q := fun z => q (E.mpr z)
    rw [if_neg q] at h
    exact kf q h ls H locs hl hP hS

theorem zP_if_eq (C : zOk V X cc own nL R0 ret) {x : Int} {off : Int} {tgt : Nat} {A B : Option β} (hdg : decode cc pc = .ok (.ifCond .eq off, 3)) (ht : (pc : Int) + off = (tgt : Int)) (hX : zR x) (h : (if x = 0 then A else B) = some r) (kt : x = 0 → A = some r → zP V X nL k n tgt L st d) (kf : ¬ x = 0 → B = some r → zP V X nL k n (pc + 3) L st d) : zP V X nL k n pc L (.int (zI x) :: st) d := by
  obtain ⟨p, l, e, R, s, m, args, below, meth, c, Q⟩ := X
  obtain ⟨hx, hb, hml, hown, hts, hK, hlk, hR, hret, hsz⟩ := C
  intro ls H locs hl hP hS
  have hY : zR 0 := ⟨by omega, by omega⟩
  have E := zI_eq hX hY
  refine lv_if_eq hx hb hdg ht (fun q => ?_) (fun q => ?_)
  · have q := E.mp q
    rw [if_pos q] at h
    exact kt q h ls H locs hl hP hS
  · have q := fun z => q (E.mpr z)
    rw [if_neg q] at h
    exact kf q h ls H locs hl hP hS

theorem zP_icmp_ne (C : zOk V X cc own nL R0 ret) {x y : Int} {off : Int} {tgt : Nat} {A B : Option β} (hdg : decode cc pc = .ok (.if_icmp .ne off, 3)) (ht : (pc : Int) + off = (tgt : Int)) (hX : zR x) (hY : zR y) (h : (if x = y then A else B) = some r) (kt : ¬ x = y → B = some r → zP V X nL k n tgt L st d) (kf : x = y → A = some r → zP V X nL k n (pc + 3) L st d) : zP V X nL k n pc L (.int (zI y) :: .int (zI x) :: st) d := by
  obtain ⟨p, l, e, R, s, m, args, below, meth, c, Q⟩ := X
  obtain ⟨hx, hb, hml, hown, hts, hK, hlk, hR, hret, hsz⟩ := C
  intro ls H locs hl hP hS
  have E := zI_eq hX hY
  refine lv_icmp_ne hx hb hdg ht (fun q => ?_) (fun q => ?_)
  · have q := fun z => q (E.mpr z)
    rw [if_neg q] at h
    exact kt q h ls H locs hl hP hS
  · have q := E.mp q
    rw [if_pos q] at h
    exact kf q h ls H locs hl hP hS

theorem zP_if_ne (C : zOk V X cc own nL R0 ret) {x : Int} {off : Int} {tgt : Nat} {A B : Option β} (hdg : decode cc pc = .ok (.ifCond .ne off, 3)) (ht : (pc : Int) + off = (tgt : Int)) (hX : zR x) (h : (if x = 0 then A else B) = some r) (kt : ¬ x = 0 → B = some r → zP V X nL k n tgt L st d) (kf : x = 0 → A = some r → zP V X nL k n (pc + 3) L st d) : zP V X nL k n pc L (.int (zI x) :: st) d := by
  obtain ⟨p, l, e, R, s, m, args, below, meth, c, Q⟩ := X
  obtain ⟨hx, hb, hml, hown, hts, hK, hlk, hR, hret, hsz⟩ := C
  intro ls H locs hl hP hS
  have hY : zR 0 := ⟨by omega, by omega⟩
  have E := zI_eq hX hY
  refine lv_if_ne hx hb hdg ht (fun q => ?_) (fun q => ?_)
  · have q := fun z => q (E.mpr z)
    rw [if_neg q] at h
    exact kt q h ls H locs hl hP hS
  · have q := E.mp q
    rw [if_pos q] at h
    exact kf q h ls H locs hl hP hS

theorem zP_icmp_lt (C : zOk V X cc own nL R0 ret) {x y : Int} {off : Int} {tgt : Nat} {A B : Option β} (hdg : decode cc pc = .ok (.if_icmp .lt off, 3)) (ht : (pc : Int) + off = (tgt : Int)) (hX : zR x) (hY : zR y) (h : (if x < y then A else B) = some r) (kt : x < y → A = some r → zP V X nL k n tgt L st d) (kf : ¬ x < y → B = some r → zP V X nL k n (pc + 3) L st d) : zP V X nL k n pc L (.int (zI y) :: .int (zI x) :: st) d := by
  obtain ⟨p, l, e, R, s, m, args, below, meth, c, Q⟩ := X
  obtain ⟨hx, hb, hml, hown, hts, hK, hlk, hR, hret, hsz⟩ := C
  intro ls H locs hl hP hS
  have E := zI_lt hX hY
  refine lv_icmp_lt hx hb hdg ht (fun q => ?_) (fun q => ?_)
  · have q := E.mp q
    rw [if_pos q] at h
    exact kt q h ls H locs hl hP hS
  · have q := fun z => q (E.mpr z)
    rw [if_neg q] at h
    exact kf q h ls H locs hl hP hS

theorem zP_if_lt (C : zOk V X cc own nL R0 ret) {x : Int} {off : Int} {tgt : Nat} {A B : Option β} (hdg : decode cc pc = .ok (.ifCond .lt off, 3)) (ht : (pc : Int) + off = (tgt : Int)) (hX : zR x) (h : (if x < 0 then A else B) = some r) (kt : x < 0 → A = some r → zP V X nL k n tgt L st d) (kf : ¬ x < 0 → B = some r → zP V X nL k n (pc + 3) L st d) : zP V X nL k n pc L (.int (zI x) :: st) d := by
  obtain ⟨p, l, e, R, s, m, args, below, meth, c, Q⟩ := X
  obtain ⟨hx, hb, hml, hown, hts, hK, hlk, hR, hret, hsz⟩ := C
  intro ls H locs hl hP hS
  have hY : zR 0 := ⟨by omega, by omega⟩
  have E := zI_lt hX hY
  refine lv_if_lt hx hb hdg ht (fun q => ?_) (fun q => ?_)
  · have q := E.mp q
    rw [if_pos q] at h
    exact kt q h ls H locs hl hP hS
  · have q := fun z => q (E.mpr z)
    rw [if_neg q] at h
    exact kf q h ls H locs hl hP hS

theorem zP_icmp_ge (C : zOk V X cc own nL R0 ret) {x y : Int} {off : Int} {tgt : Nat} {A B : Option β} (hdg : decode cc pc = .ok (.if_icmp .ge off, 3)) (ht : (pc : Int) + off = (tgt : Int)) (hX : zR x) (hY : zR y) (h : (if y ≤ x then A else B) = some r) (kt : y ≤ x → A = some r → zP V X nL k n tgt L st d) (kf : ¬ y ≤ x → B = some r → zP V X nL k n (pc + 3) L st d) : zP V X nL k n pc L (.int (zI y) :: .int (zI x) :: st) d := by
  obtain ⟨p, l, e, R, s, m, args, below, meth, c, Q⟩ := X
  obtain ⟨hx, hb, hml, hown, hts, hK, hlk, hR, hret, hsz⟩ := C
  intro ls H locs hl hP hS
  have E := zI_le hY hX
  refine lv_icmp_ge hx hb hdg ht (fun q => ?_) (fun q => ?_)
  · have q := E.mp q
    rw [if_pos q] at h
    exact kt q h ls H locs hl hP hS
  · have q := fun z => q (E.mpr z)
    rw [if_neg q] at h
    exact kf q h ls H locs hl hP hS

theorem zP_if_ge (C : zOk V X cc own nL R0 ret) {x : Int} {off : Int} {tgt : Nat} {A B : Option β} (hdg : decode cc pc = .ok (.ifCond .ge off, 3)) (ht : (pc : Int) + off = (tgt : Int)) (hX : zR x) (h : (if 0 ≤ x then A else B) = some r) (kt : 0 ≤ x → A = some r → zP V X nL k n tgt L st d) (kf : ¬ 0 ≤ x → B = some r → zP V X nL k n (pc + 3) L st d) : zP V X nL k n pc L (.int (zI x) :: st) d := by
  obtain ⟨p, l, e, R, s, m, args, below, meth, c, Q⟩ := X
  obtain ⟨hx, hb, hml, hown, hts, hK, hlk, hR, hret, hsz⟩ := C
  intro ls H locs hl hP hS
  have hY : zR 0 := ⟨by omega, by omega⟩
  have E := zI_le hY hX
  refine lv_if_ge hx hb hdg ht (fun q => ?_) (fun q => ?_)
  · have q := E.mp q
    rw [if_pos q] at h
    exact kt q h ls H locs hl hP hS
  · have q := fun z => q (E.mpr z)
    rw [if_neg q] at h
    exact kf q h ls H locs hl hP hS

theorem zP_icmp_gt (C : zOk V X cc own nL R0 ret) {x y : Int} {off : Int} {tgt : Nat} {A B : Option β} (hdg : decode cc pc = .ok (.if_icmp .gt off, 3)) (ht : (pc : Int) + off = (tgt : Int)) (hX : zR x) (hY : zR y) (h : (if y < x then A else B) = some r) (kt : y < x → A = some r → zP V X nL k n tgt L st d) (kf : ¬ y < x → B = some r → zP V X nL k n (pc + 3) L st d) : zP V X nL k n pc L (.int (zI y) :: .int (zI x) :: st) d := by
  obtain ⟨p, l, e, R, s, m, args, below, meth, c, Q⟩ := X
  obtain ⟨hx, hb, hml, hown, hts, hK, hlk, hR, hret, hsz⟩ := C
  intro ls H locs hl hP hS
  have E := zI_lt hY hX
  refine lv_icmp_gt hx hb hdg ht (fun q => ?_) (fun q => ?_)
  · have q := E.mp q
    rw [if_pos q] at h
    exact kt q h ls H locs hl hP hS
  · have q := fun z => q (E.mpr z)
    rw [if_neg q] at h
    exact kf q h ls H locs hl hP hS

theorem zP_if_gt (C : zOk V X cc own nL R0 ret) {x : Int} {off : Int} {tgt : Nat} {A B : Option β} (hdg : decode cc pc = .ok (.ifCond .gt off, 3)) (ht : (pc : Int) + off = (tgt : Int)) (hX : zR x) (h : (if 0 < x then A else B) = some r) (kt : 0 < x → A = some r → zP V X nL k n tgt L st d) (kf : ¬ 0 < x → B = some r → zP V X nL k n (pc + 3) L st d) : zP V X nL k n pc L (.int (zI x) :: st) d := by
  obtain ⟨p, l, e, R, s, m, args, below, meth, c, Q⟩ := X
  obtain ⟨hx, hb, hml, hown, hts, hK, hlk, hR, hret, hsz⟩ := C
  intro ls H locs hl hP hS
  have hY : zR 0 := ⟨by omega, by omega⟩
  have E := zI_lt hY hX
  refine lv_if_gt hx hb hdg ht (fun q => ?_) (fun q => ?_)
  · have q := E.mp q
    rw [if_pos q] at h
    exact kt q h ls H locs hl hP hS
  · have q := fun z => q (E.mpr z)
    rw [if_neg q] at h
    exact kf q h ls H locs hl hP hS

theorem zP_icmp_le (C : zOk V X cc own nL R0 ret) {x y : Int} {off : Int} {tgt : Nat} {A B : Option β} (hdg : decode cc pc = .ok (.if_icmp .le off, 3)) (ht : (pc : Int) + off = (tgt : Int)) (hX : zR x) (hY : zR y) (h : (if x ≤ y then A else B) = some r) (kt : x ≤ y → A = some r → zP V X nL k n tgt L st d) (kf : ¬ x ≤ y → B = some r → zP V X nL k n (pc + 3) L st d) : zP V X nL k n pc L (.int (zI y) :: .int (zI x) :: st) d := by
  obtain ⟨p, l, e, R, s, m, args, below, meth, c, Q⟩ := X
  obtain ⟨hx, hb, hml, hown, hts, hK, hlk, hR, hret, hsz⟩ := C
  intro ls H locs hl hP hS
  have E := zI_le hX hY
  refine lv_icmp_le hx hb hdg ht (fun q => ?_) (fun q => ?_)
  · have q := E.mp q
    rw [if_pos q] at h
    exact kt q h ls H locs hl hP hS
  · have q := fun z => q (E.mpr z)
    rw [if_neg q] at h
    exact kf q h ls H locs hl hP hS

theorem zP_if_le (C : zOk V X cc own nL R0 ret) {x : Int} {off : Int} {tgt : Nat} {A B : Option β} (hdg : decode cc pc = .ok (.ifCond .le off, 3)) (ht : (pc : Int) + off = (tgt : Int)) (hX : zR x) (h : (if x ≤ 0 then A else B) = some r) (kt : x ≤ 0 → A = some r → zP V X nL k n tgt L st d) (kf : ¬ x ≤ 0 → B = some r → zP V X nL k n (pc + 3) L st d) : zP V X nL k n pc L (.int (zI x) :: st) d := by
  obtain ⟨p, l, e, R, s, m, args, below, meth, c, Q⟩ := X
  obtain ⟨hx, hb, hml, hown, hts, hK, hlk, hR, hret, hsz⟩ := C
  intro ls H locs hl hP hS
  have hY : zR 0 := ⟨by omega, by omega⟩
  have E := zI_le hX hY
  refine lv_if_le hx hb hdg ht (fun q => ?_) (fun q => ?_)
  · have q := E.mp q
    rw [if_pos q] at h
    exact kt q h ls H locs hl hP hS
  · have q := fun z => q (E.mpr z)
    rw [if_neg q] at h
    exact kf q h ls H locs hl hP hS

theorem zP_drop (i : Nat) (kk : zP V X nL k n pc (L.set i none) st d) : zP V X nL k n pc L st d := by
  obtain ⟨p, l, e, R, s, m, args, below, meth, c, Q⟩ := X
  intro ls H locs hl hP hS
  exact kk ls H locs (hl.drop i) hP hS
end RULES
