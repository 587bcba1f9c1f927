/-! Methods that may throw: their contracts over the pure heap; what is thrown is told by a number beyond the ints. -/
def zXn (k : Nat) : String := match k with
  | 0 => "java/lang/IllegalArgumentException"
  | 1 => "java/lang/IndexOutOfBoundsException"
  | 2 => "java/lang/IllegalStateException"
  | _ => "java/util/NoSuchElementException"
def zXi (k : Nat) : Nat := match k with
  | 0 => 217
  | 1 => 229
  | 2 => 350
  | _ => 353
def zXo (k : Nat) : Nat := match k with
  | 0 => 215
  | 1 => 227
  | 2 => 348
  | _ => 351
abbrev zXs : List String := ["java/lang/RuntimeException", "java/lang/Exception"]
def zXl (k : Nat) : List Cond := vx_at0 RX11 (zXi k) (zXn k) zXs
/-- the words of a throw that a table's row doesn't keep by itself -/
def zXB : List Cond := [.declares (Bundle.init0 "java/lang/RuntimeException"), .declares (Bundle.init0 "java/lang/Exception"), .declares (Bundle.init0 Bundle.tN), .castable (zXn 0) (zXn 0), .castable (zXn 1) (zXn 1), .castable (zXn 2) (zXn 2), .castable (zXn 3) (zXn 3)]
theorem zXB_ok : ∀ w ∈ zXB, w.onTables = true ∧ ((∃ x, w = .declares x) ∨ ∃ a b, w = .castable a b) := by
  intro w hw
  simp only [zXB, List.mem_cons, List.not_mem_nil, or_false] at hw
  rcases hw with rfl | rfl | rfl | rfl | rfl | rfl | rfl
  · exact ⟨rfl, Or.inl ⟨_, rfl⟩⟩
  · exact ⟨rfl, Or.inl ⟨_, rfl⟩⟩
  · exact ⟨rfl, Or.inl ⟨_, rfl⟩⟩
  · exact ⟨rfl, Or.inr ⟨_, _, rfl⟩⟩
  · exact ⟨rfl, Or.inr ⟨_, _, rfl⟩⟩
  · exact ⟨rfl, Or.inr ⟨_, _, rfl⟩⟩
  · exact ⟨rfl, Or.inr ⟨_, _, rfl⟩⟩
theorem zX_n : ∀ k, k < 4 → ∀ w ∈ (zXl k).filter (fun w => !goodWord w), w ∈ zXB := by decide +kernel
theorem zX_t : ∀ k, k < 4 → ∀ w ∈ (zXl k).filter goodWord, w ∈ lw_tbl := by decide +kernel
theorem zX_o : ∀ k, k < 4 → vx_ot (Cond.classLink RX11 (zXo k) (zXn k)) = true ∧ vx_ot (Cond.initialized (zXn k)) = true ∧ Bundle.fit (zXn k) = true ∧ (zXl k).all vx_ot = true := by decide +kernel
theorem zX_f : ∀ n ∈ zXs, Bundle.fit n = true := by decide +kernel
theorem zX_l0 : Cond.classLink RX11 215 "java/lang/IllegalArgumentException" ∈ zT := zin 1093 (by decide +kernel) (by decide +kernel)
theorem zX_l1 : Cond.classLink RX11 227 "java/lang/IndexOutOfBoundsException" ∈ zT := zin 1180 (by decide +kernel) (by decide +kernel)
theorem zX_l2 : Cond.classLink RX11 348 "java/lang/IllegalStateException" ∈ zT := zin 1313 (by decide +kernel) (by decide +kernel)
theorem zX_l3 : Cond.classLink RX11 351 "java/util/NoSuchElementException" ∈ zT := zin 1378 (by decide +kernel) (by decide +kernel)
theorem zX_i0 : Cond.initialized "java/lang/IllegalArgumentException" ∈ zT := zin 133 (by decide +kernel) (by decide +kernel)
theorem zX_i1 : Cond.initialized "java/lang/IndexOutOfBoundsException" ∈ zT := zin 134 (by decide +kernel) (by decide +kernel)
theorem zX_i2 : Cond.initialized "java/lang/IllegalStateException" ∈ zT := zin 135 (by decide +kernel) (by decide +kernel)
theorem zX_i3 : Cond.initialized "java/util/NoSuchElementException" ∈ zT := zin 136 (by decide +kernel) (by decide +kernel)
theorem zX_l : ∀ k, k < 4 → Cond.classLink RX11 (zXo k) (zXn k) ∈ zT ∧ Cond.initialized (zXn k) ∈ zT
  | 0, _ => ⟨zX_l0, zX_i0⟩
  | 1, _ => ⟨zX_l1, zX_i1⟩
  | 2, _ => ⟨zX_l2, zX_i2⟩
  | 3, _ => ⟨zX_l3, zX_i3⟩
  | k + 4, h => absurd h (by omega)
/-- what a throw asks of the machine beside the tables -/
def zKX (V : zW) (U : State) (H : Heap) : Prop := vx_Zq Bundle.tN "UNASSIGNED_STACK" Bundle.steD (zA V) U H ∧ vx_Zq Bundle.tN "SUPPRESSED_SENTINEL" Bundle.listD (zA V) U H ∧ ∀ w ∈ zXB, va_Nw w U
theorem zKX.go {V : zW} {u U : State} {H H1 : Heap} (hW : u.WarmedH U.vm) (h : zKX V u H) (hq : ∀ a : Nat, a < H.size → ¬ zA V a → H1[a]? = H[a]?) : zKX V U H1 := by
  refine ⟨(vx_Zq.moved hW.alike h.1).kept hq, (vx_Zq.moved hW.alike h.2.1).kept hq, fun w hw => ?_⟩
  have h1 := h.2.2 w hw
  rcases (zXB_ok w hw).2 with ⟨x, rfl⟩ | ⟨a, b, rfl⟩
  · exact h1.warmD hW
  · exact h1.warmC hW
theorem zKX.same {V : zW} {u U : State} {H : Heap} (hv : U.vm = u.vm) (h : zKX V u H) : zKX V U H := by
  have al : u.vm.Alike U.vm := by rw [hv]; exact Vm.Alike.refl _
  exact ⟨vx_Zq.moved al h.1, vx_Zq.moved al h.2.1, fun w hw => (h.2.2 w hw).same (zXB_ok w hw).1 hv.symm⟩
def zPreX (V : zW) (d : zD) (U : State) : Prop := zPre V d U ∧ zKX V U U.heap
def zrmX (dp : Nat) : Room := { frames := dp, cells := 1, slots := 6, locals := 40 * dp }
/-- how it throws -/
def zXC (V : zW) (d' : zD) (rv : Int) : String → State → State → Prop := fun E st t => (∃ k : Nat, k < 4 ∧ E = zXn k ∧ rv = 4294967296 + (k : Int)) ∧ zRep V d' t.heap ∧ va_F (zA V) st t
def zMetX (V : zW) (dp : Nat) (y : MethodName) (b : ByteArray) (nn : Nat) (ret : Option FieldType) (av : List Value) (d : zD) (ov : Option Value) (φ : Prop) (rv : Int) (d' : zD) : Prop :=
  ∀ l : Launch, l.stackTraces = false → vx_Met l y (zwsU y b nn ret) (zrmX dp) (va_Pc av (zPreX V d)) (zPost V ov φ d') (zXC V d' rv) 1 6 (zA V)
theorem zPreX_blind {V : zW} {d : zD} {av : List Value} : FrameBlind (va_Pc av (zPreX V d)) := fun a U g mk q => by
  obtain ⟨q0, q1, q2⟩ := q
  obtain ⟨r0, r1⟩ := zPre_blind (V := V) (d := d) (av := av) a U g mk ⟨q0, q1⟩
  exact ⟨r0, r1, zKX.same (u := U) rfl q2⟩
def zEndX (V : zW) (X : zX) (ov : Option Value) (φ : Prop) (rv : Int) (d' : zD) : Prop := match X with
  | (_, l, _, _, s, _, args, below, _, c, Q) => (l.stackTraces = false ∧ (∀ x ∈ c.exceptionTable.toList, False) ∧ zKX V s s.heap) ∧ Q = vx_MQ below (zPost V ov φ d') (zXC V d' rv) args s 1 6 (zA V)
theorem zMetX_by {V : zW} {dp nn : Nat} {y : MethodName} {b : ByteArray} {rt : Option FieldType} {av : List Value} {d d' : zD} {ov : Option Value} {φ : Prop} {rv : Int} (own : String) (hy : plainName y.cls = true) (hyo : y.cls = own) (hle : (lg_sl av).length ≤ nn) (L0 : List (Option Value)) (hL0 : lv_args 0 av = zLp 0 L0)
    (body : ∀ (X : zX), zOk V X b own nn (zrmX dp) rt → zEndX V X ov φ rv d' → zP V X nn 0 0 0 L0 [] d) : zMetX V dp y b nn rt av d ov φ rv d' := by
  intro l hst
  refine vx_ofW (cc := b) (maxL := nn) (ret := rt) hy rfl ?_
  intro p e s m args below meth c s₁ B hml hex hv
  obtain ⟨rfl, ⟨hP, hK, hsz⟩, hX⟩ := hv
  have hts := atoms_spec (ws := zwsU y b nn rt) B.pre
  have hl := lv_entry av (n := nn) hle
  rw [lg_entry_eq]
  generalize (lg_sl av ++ List.replicate (nn - (lg_sl av).length) Slot.unset).toArray = ls at hl ⊢
  exact body (p, l, e, (headSpec (zwsU y b nn rt) (zrmX dp)).room, s, m, av.toArray, below, meth, c, vx_MQ below (zPost V ov φ d') (zXC V d' rv) av.toArray s 1 6 (zA V)) ⟨B.exec, B.bytes, hml, by rw [← hyo]; exact findClass_of_methodNamed B.named, fun w hw => hts w (List.mem_cons_of_mem _ hw), hK, B.notSynchronized, rfl, B.returns, hsz⟩ ⟨⟨hst, hex, hX⟩, rfl⟩ ls s.heap [] (by unfold zLs; rw [← hL0]; exact hl) hP va_S.rf
section THROW
variable {V : zW} {X : zX} {cc : ByteArray} {own : String} {nL k n pc : Nat} {R0 : Room} {ret : Option FieldType} {L L' : List (Option Value)} {st : List Value} {d d' : zD} {φ : Prop} {β : Type} {r : β}
theorem zP_iretX (C : zOk V X cc own nL R0 (some .int)) {x rv : Int} (E : zEndX V X (some (.int (zI rv))) (zR rv) rv d') (hdg : decode cc pc = .ok (.ireturn, 1)) (hx : zR x) (h : (some (x, d) : Option (Int × zD)) = some (rv, d')) : zP V X nL 0 0 pc L [.int (zI x)] d := by
  obtain ⟨p, l, e, R, s, m, args, below, meth, c, Q⟩ := X
  obtain ⟨hxx, hb, hml, hown, hts, hK, hlk, hR, hret, hsz⟩ := C
  cases h
  obtain ⟨-, E⟩ := E
  change Q = _ at E
  subst E
  intro ls H locs hl hP hS T hT Y
  exact vx_ret (W.iret hxx hb hret (fun t ht hW => ⟨⟨rfl, hx, by rw [ht]; exact hP⟩, by rw [ht]; exact hS.1, fun q h1 h2 => by rw [ht]; exact hS.2.1 q h1 h2⟩) hS.2.2 hdg hlk) T hT (stand_widen Y (Nat.zero_le _) (Nat.zero_le _))
theorem zP_zretX (C : zOk V X cc own nL R0 (some .boolean)) {x rv : Int} (E : zEndX V X (some (.int (zI rv))) (rv = 0 ∨ rv = 1) rv d') (hdg : decode cc pc = .ok (.ireturn, 1)) (h01 : x = 0 ∨ x = 1) (h : (some (x, d) : Option (Int × zD)) = some (rv, d')) : zP V X nL 0 0 pc L [.int (zI x)] d := by
  obtain ⟨p, l, e, R, s, m, args, below, meth, c, Q⟩ := X
  obtain ⟨hxx, hb, hml, hown, hts, hK, hlk, hR, hret, hsz⟩ := C
  cases h
  obtain ⟨-, E⟩ := E
  change Q = _ at E
  subst E
  intro ls H locs hl hP hS T hT Y
  exact vx_ret (W.zret hxx hb hret (by rcases h01 with rfl | rfl <;> rfl) (fun t ht hW => ⟨⟨rfl, h01, by rw [ht]; exact hP⟩, by rw [ht]; exact hS.1, fun q h1 h2 => by rw [ht]; exact hS.2.1 q h1 h2⟩) hS.2.2 hdg hlk) T hT (stand_widen Y (Nat.zero_le _) (Nat.zero_le _))
theorem zP_vretX (C : zOk V X cc own nL R0 none) {rv : Int} (E : zEndX V X none (rv = 0) rv d') (hdg : decode cc pc = .ok (.return_, 1)) (h : (some (0, d) : Option (Int × zD)) = some (rv, d')) : zP V X nL 0 0 pc L [] d := by
  obtain ⟨p, l, e, R, s, m, args, below, meth, c, Q⟩ := X
  obtain ⟨hxx, hb, hml, hown, hts, hK, hlk, hR, hret, hsz⟩ := C
  cases h
  obtain ⟨-, E⟩ := E
  change Q = _ at E
  subst E
  intro ls H locs hl hP hS T hT Y
  exact vx_ret (W.vret hxx hb hret (fun t ht hW => ⟨⟨rfl, rfl, by rw [ht]; exact hP⟩, by rw [ht]; exact hS.1, fun q h1 h2 => by rw [ht]; exact hS.2.1 q h1 h2⟩) hS.2.2 hdg hlk) T hT (stand_widen Y (Nat.zero_le _) (Nat.zero_le _))
theorem zP_throw {dp : Nat} (C : zOk V X cc RX11 nL (zrmX dp) ret) {ov : Option Value} {rv : Int} (E : zEndX V X ov φ rv d') (k : Nat) (hk : k < 4) (hdp : 6 ≤ dp) {ik ic : Nat} (h1 : zXo k = ik) (h2 : zXi k = ic) (d0 : decode cc pc = .ok (.new ik, 3)) (d3 : decode cc (pc + 3) = .ok (.dup, 1)) (d4 : decode cc (pc + 4) = .ok (.invokespecial ic, 3)) (d7 : decode cc (pc + 7) = .ok (.athrow, 1)) (h : (some (4294967296 + (k : Int), d) : Option (Int × zD)) = some (rv, d')) : zP V X nL 0 0 pc L [] d := by
  obtain ⟨p, l, e, R, s, m, args, below, meth, c, Q⟩ := X
  obtain ⟨hxx, hb, hml, hown, hts, hK, hlk, hR, hret, hsz⟩ := C
  obtain ⟨⟨e1, e2, e3⟩, E⟩ := E
  change Q = _ at E
  subst E
  subst hR
  obtain ⟨hv, hd⟩ := Prod.mk.inj (Option.some.inj h)
  subst hv
  subst hd
  subst h1
  subst h2
  obtain ⟨o1, o2, o3, o4⟩ := zX_o k hk
  have hat : ∀ w ∈ zXl k, w.before args s = true := vx_hat (fun w hw => hts w (List.mem_filter.mpr ⟨zX_t k hk w hw, (List.mem_filter.mp hw).2⟩)) (zX_n k hk) (fun w hw => (e3.2.2 w hw).use (zXB_ok w hw).1)
  intro ls H locs hl hP hS
  refine vx_throw0 (names := zXs) (A := zA V) (own := RX11) (cls := zXn k) (ik := zXo k) (ic := zXi k) hxx hb e1 hown o3 zX_f (hts _ (zX_l k hk).1) (hts _ (zX_l k hk).2) hat (fun w hw => ?_) e3.1 e3.2.1 hS (by rw [hml]; exact hl.1) d0 d3 d4 d7 (fun x hx => (e2 x hx).elim) ?_ ?_ (Nat.le_refl _) (Nat.le_refl _) hlk (fun t ht hs hq => ?_) hS.2.2 (Nat.le_refl _) (Nat.le_refl _)
  · rcases List.mem_cons.mp hw with rfl | hw
    · exact o1
    · rcases List.mem_cons.mp hw with rfl | hw
      · exact o2
      · exact List.all_eq_true.mp o4 w hw
  · show 2 + 3 < dp
    omega
  · show 0 + (13 * (2 + 1) + 42) ≤ 40 * dp
    omega
  · refine ⟨⟨k, hk, rfl, rfl⟩, hP.kept (fun q h1 _ => hq q h1), Nat.le_trans hS.1 hs, fun q h1 h2 => ?_⟩
    rw [hq q (Nat.lt_of_lt_of_le h1 hS.1)]
    exact hS.2.1 q h1 h2
end THROW
