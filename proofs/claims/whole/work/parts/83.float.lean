/-! Floats and doubles: the rules, the methods but for the reference's mean. -/
theorem zP_i2d {V : zW} {X : zX} {cc : ByteArray} {own : String} {nL k n pc : Nat} {R0 : Room} {ret : Option FieldType} {L : List (Option Value)} {st : List Value} {d : zD} (C : zOk V X cc own nL R0 ret) {x : Int} (hdg : decode cc pc = .ok (.i2d, 1)) (kk : zP V X nL k n (pc + 1) L (.double (FP.i2d (zI x)) :: st) d) : zP V X nL k n pc L (.int (zI x) :: st) d := by
  obtain ⟨p, l, e, R, s, m, args, below, meth, c, Q⟩ := X
  obtain ⟨hx, hb, hml, hown, hts, hK, hlk, hR, hret, hsz⟩ := C
  intro ls H locs hl hP hS
  exact lv_i2d hx hb hdg (kk ls H locs hl hP hS)
theorem zP_i2f {V : zW} {X : zX} {cc : ByteArray} {own : String} {nL k n pc : Nat} {R0 : Room} {ret : Option FieldType} {L : List (Option Value)} {st : List Value} {d : zD} (C : zOk V X cc own nL R0 ret) {x : Int} (hdg : decode cc pc = .ok (.i2f, 1)) (kk : zP V X nL k n (pc + 1) L (.float (FP.i2f (zI x)) :: st) d) : zP V X nL k n pc L (.int (zI x) :: st) d := by
  obtain ⟨p, l, e, R, s, m, args, below, meth, c, Q⟩ := X
  obtain ⟨hx, hb, hml, hown, hts, hK, hlk, hR, hret, hsz⟩ := C
  intro ls H locs hl hP hS
  exact lv_i2f hx hb hdg (kk ls H locs hl hP hS)
theorem zP_dconst0 {V : zW} {X : zX} {cc : ByteArray} {own : String} {nL k n pc : Nat} {R0 : Room} {ret : Option FieldType} {L : List (Option Value)} {st : List Value} {d : zD} (C : zOk V X cc own nL R0 ret) (hdg : decode cc pc = .ok (.dconst 0, 1)) (kk : zP V X nL k n (pc + 1) L (.double FP.dconst0 :: st) d) : zP V X nL k n pc L st d := by
  obtain ⟨p, l, e, R, s, m, args, below, meth, c, Q⟩ := X
  obtain ⟨hx, hb, hml, hown, hts, hK, hlk, hR, hret, hsz⟩ := C
  intro ls H locs hl hP hS
  exact lv_dconst0 hx hb hdg (kk ls H locs hl hP hS)
theorem zP_fconst1 {V : zW} {X : zX} {cc : ByteArray} {own : String} {nL k n pc : Nat} {R0 : Room} {ret : Option FieldType} {L : List (Option Value)} {st : List Value} {d : zD} (C : zOk V X cc own nL R0 ret) (hdg : decode cc pc = .ok (.fconst 1, 1)) (kk : zP V X nL k n (pc + 1) L (.float FP.fconst1 :: st) d) : zP V X nL k n pc L st d := by
  obtain ⟨p, l, e, R, s, m, args, below, meth, c, Q⟩ := X
  obtain ⟨hx, hb, hml, hown, hts, hK, hlk, hR, hret, hsz⟩ := C
  intro ls H locs hl hP hS
  exact lv_fconst1 hx hb hdg (kk ls H locs hl hP hS)
theorem zP_ddiv {V : zW} {X : zX} {cc : ByteArray} {own : String} {nL k n pc : Nat} {R0 : Room} {ret : Option FieldType} {L : List (Option Value)} {st : List Value} {d : zD} (C : zOk V X cc own nL R0 ret) {x y : UInt64} (hdg : decode cc pc = .ok (.ddiv, 1)) (hne : vf_n64 (FP.ddiv x y)) (kk : zP V X nL k n (pc + 1) L (.double (FP.ddiv x y) :: st) d) : zP V X nL k n pc L (.double y :: .double x :: st) d := by
  obtain ⟨p, l, e, R, s, m, args, below, meth, c, Q⟩ := X
  obtain ⟨hx, hb, hml, hown, hts, hK, hlk, hR, hret, hsz⟩ := C
  intro ls H locs hl hP hS
  exact lv_ddiv hx hb hdg hne (kk ls H locs hl hP hS)
theorem zP_fdiv {V : zW} {X : zX} {cc : ByteArray} {own : String} {nL k n pc : Nat} {R0 : Room} {ret : Option FieldType} {L : List (Option Value)} {st : List Value} {d : zD} (C : zOk V X cc own nL R0 ret) {x y : UInt32} (hdg : decode cc pc = .ok (.fdiv, 1)) (hne : vf_n32 (FP.fdiv x y)) (kk : zP V X nL k n (pc + 1) L (.float (FP.fdiv x y) :: st) d) : zP V X nL k n pc L (.float y :: .float x :: st) d := by
  obtain ⟨p, l, e, R, s, m, args, below, meth, c, Q⟩ := X
  obtain ⟨hx, hb, hml, hown, hts, hK, hlk, hR, hret, hsz⟩ := C
  intro ls H locs hl hP hS
  exact lv_fdiv hx hb hdg hne (kk ls H locs hl hP hS)
theorem zP_dret {V : zW} {X : zX} {cc : ByteArray} {own : String} {nL pc : Nat} {R0 : Room} {L : List (Option Value)} {d : zD} (C : zOk V X cc own nL R0 (some .double)) {x : UInt64} (E : zEnd V X (some (.double x)) True d) (hdg : decode cc pc = .ok (.dreturn, 1)) : zP V X nL 0 0 pc L [.double x] d := by
  obtain ⟨p, l, e, R, s, m, args, below, meth, c, Q⟩ := X
  obtain ⟨hxx, hb, hml, hown, hts, hK, hlk, hR, hret, hsz⟩ := C
  change Q = _ at E
  subst E
  intro ls H locs hl hP hS
  refine W.dret hxx hb hret (fun t ht hW => ⟨⟨rfl, trivial, by rw [ht]; exact hP⟩, by rw [ht]; exact hS.1, fun q h1 h2 => by rw [ht]; exact hS.2.1 q h1 h2⟩) hS.2.2 hdg hlk
theorem zP_fret {V : zW} {X : zX} {cc : ByteArray} {own : String} {nL pc : Nat} {R0 : Room} {L : List (Option Value)} {d : zD} (C : zOk V X cc own nL R0 (some .float)) {x : UInt32} (E : zEnd V X (some (.float x)) True d) (hdg : decode cc pc = .ok (.freturn, 1)) : zP V X nL 0 0 pc L [.float x] d := by
  obtain ⟨p, l, e, R, s, m, args, below, meth, c, Q⟩ := X
  obtain ⟨hxx, hb, hml, hown, hts, hK, hlk, hR, hret, hsz⟩ := C
  change Q = _ at E
  subst E
  intro ls H locs hl hP hS
  refine W.fret hxx hb hret (fun t ht hW => ⟨⟨rfl, trivial, by rw [ht]; exact hP⟩, by rw [ht]; exact hS.1, fun q h1 h2 => by rw [ht]; exact hS.2.1 q h1 h2⟩) hS.2.2 hdg hlk
/-- a quotient of two ints, the divisor not nought, is a number -/
def NN64 : Prop := ∀ x y : Int, zR y → y ≠ 0 → vf_n64 (FP.ddiv (FP.i2d (zI x)) (FP.i2d (zI y)))
def NN32 : Prop := ∀ x y : Int, zR y → y ≠ 0 → vf_n32 (FP.fdiv (FP.i2f (zI x)) (FP.i2f (zI y)))
def zdv (t n : Int) : UInt64 := if n = 0 then FP.dconst0 else FP.ddiv (FP.i2d (zI t)) (FP.i2d (zI n))
def zflt (t n : Int) : UInt32 := if n = 0 then FP.fconst1 else FP.fdiv (FP.i2f (zI t)) (FP.i2f (zI n))
theorem t_X11_meanTime {V : zW} (hT : zo11 V) (hN : NN64) {d d1 dz : zD} {nv tv : Int} (h1 : f_X2_delivered 30 d = some (nv, d1)) (h2 : nv = 0 ∧ dz = d1 ∨ nv ≠ 0 ∧ f_X3_sumOfTimes 30 d1 = some (tv, dz)) : zMet V 2 yX11_meanTime cX11_meanTime 2 (some .double) [.ref (zad V 0)] d (some (.double (zdv tv nv))) True dz := by
  refine zMet_by RX11 pn11 rfl (Nat.le_of_ble_eq_true rfl) [some (.ref (zad V 0)), none] rfl fun X C E => ?_
  refine zP_aload_n (pc := 0) C (x := zad V 0) dX11_meanTime_0 rfl rfl ?_
  refine zP_getR (pc := 1) (a := 0) (t := 30) C g11_21 dX11_meanTime_1 (s_X11 hT) rfl ?_
  refine zP_callV (pc := 4) (As := []) (st := []) C m11_324 dX11_meanTime_4 (s_X2 (o_X11_line hT)) rfl (t_X2_delivered (o_X11_line hT) h1) ⟨Nat.le_of_ble_eq_true rfl, Nat.le_of_ble_eq_true rfl⟩ rfl (Nat.le_of_ble_eq_true rfl) ⟨Nat.zero_le _, Nat.zero_le _⟩ fun hw => ?_
  have hnv := hw
  refine zP_istore_n (pc := 7) C (L' := [some (.ref (zad V 0)), some (.int (zI nv))]) dX11_meanTime_7 rfl (Nat.le_of_ble_eq_true rfl) rfl rfl ?_
  refine zP_iload_n (pc := 8) C (x := zI nv) dX11_meanTime_8 rfl rfl ?_
  have hc : (if nv = 0 then some (0 : Int) else some 1) = some (if nv = 0 then 0 else 1) := by split <;> rfl
  refine zP_if_ne (pc := 9) (tgt := 14) C dX11_meanTime_9 rfl hnv hc (fun hn _ => ?_) (fun hn _ => ?_)
  · rcases h2 with ⟨e, -⟩ | ⟨-, h2⟩
    · exact absurd e hn
    · have ez : zdv tv nv = FP.ddiv (FP.i2d (zI tv)) (FP.i2d (zI nv)) := if_neg hn
      rw [ez] at E
      refine zP_aload_n (pc := 14) C (x := zad V 0) dX11_meanTime_14 rfl rfl ?_
      refine zP_getR (pc := 15) (a := 0) (t := 30) C g11_21 dX11_meanTime_15 (s_X11 hT) rfl ?_
      refine zP_getR (pc := 18) (a := 30) (t := 30 + 1) C g11_144 dX11_meanTime_18 (s_X2 (o_X11_line hT)) rfl ?_
      refine zP_callV (pc := 21) (As := []) (st := []) C m11_342 dX11_meanTime_21 (s_X3 (o_X11_line hT)) rfl (t_X3_sumOfTimes (o_X11_line hT) h2) ⟨Nat.le_of_ble_eq_true rfl, Nat.le_of_ble_eq_true rfl⟩ rfl (Nat.le_of_ble_eq_true rfl) ⟨Nat.zero_le _, Nat.zero_le _⟩ fun hw2 => ?_
      refine zP_i2d (pc := 24) C dX11_meanTime_24 ?_
      refine zP_iload_n (pc := 25) C (x := zI nv) dX11_meanTime_25 rfl rfl ?_
      refine zP_i2d (pc := 26) C dX11_meanTime_26 ?_
      refine zP_ddiv (pc := 27) C dX11_meanTime_27 (hN tv nv hnv hn) ?_
      exact zP_dret (pc := 28) C E dX11_meanTime_28
  · rcases h2 with ⟨e, e2⟩ | ⟨e, -⟩
    · have ez : zdv tv nv = FP.dconst0 := if_pos hn
      rw [ez] at E
      subst e2
      refine zP_dconst0 (pc := 12) C dX11_meanTime_12 ?_
      exact zP_dret (pc := 13) C E dX11_meanTime_13
    · exact absurd hn e
theorem zP_ld {V : zW} {X : zX} {cc : ByteArray} {own : String} {nL k n pc : Nat} {R0 : Room} {ret : Option FieldType} {L : List (Option Value)} {st : List Value} {d : zD} (C : zOk V X cc own nL R0 ret) {a N : Nat} {i : Int} {fk : Nat → Nat} (hdg : decode cc pc = .ok (.iaload, 1)) (hs : zsh V a = some (1, N, fk)) (hi : zR i) (h : 0 ≤ i ∧ i < N) (kk : zR (d a i.toNat) → zP V X nL k n (pc + 1) L (.int (zI (d a i.toNat)) :: st) d) : zP V X nL k n pc L (.int (zI i) :: .ref (zad V a) :: st) d :=
  zP_iald (K := fun v => some v) (r := d a i.toNat) C hdg hs hi (by rw [zg_t h, zl_n]) fun v hv e => by
    cases e
    exact kk hv
theorem zP_sub {V : zW} {X : zX} {cc : ByteArray} {own : String} {nL k n pc : Nat} {R0 : Room} {ret : Option FieldType} {L : List (Option Value)} {st : List Value} {d : zD} (C : zOk V X cc own nL R0 ret) {x y : Int} (hdg : decode cc pc = .ok (.isub, 1)) (kk : zP V X nL k n (pc + 1) L (.int (zI (zw (x - y))) :: st) d) : zP V X nL k n pc L (.int (zI y) :: .int (zI x) :: st) d :=
  zP_isub (K := fun v => some v) (r := zw (x - y)) C hdg (by rw [zl_n]) fun v hv e => by
    cases e
    exact kk
theorem t_X11_clearShare {V : zW} (hT : zo11 V) (hN : NN32) {d : zD} : zMet V 0 yX11_clearShare cX11_clearShare 2 (some .float) [.ref (zad V 0)] d (some (.float (zflt (zw (d 58 0 - d 58 1)) (d 58 0)))) True d := by
  refine zMet_by RX11 pn11 rfl (Nat.le_of_ble_eq_true rfl) [some (.ref (zad V 0)), none] rfl fun X C E => ?_
  refine zP_aload_n (pc := 0) C (x := zad V 0) dX11_clearShare_0 rfl rfl ?_
  refine zP_getR (pc := 1) (a := 0) (t := 30) C g11_21 dX11_clearShare_1 (s_X11 hT) rfl ?_
  refine zP_getR (pc := 4) (a := 30) (t := 30 + 28) C g11_218 dX11_clearShare_4 (s_X2 (o_X11_line hT)) rfl ?_
  refine zP_iconst (pc := 7) C dX11_clearShare_7 ?_
  refine zP_ld (pc := 8) (a := 30 + 28) (i := 0) C dX11_clearShare_8 (s_X2_accounts (o_X11_line hT)) (zRk rfl) (by omega) fun hv => ?_
  show zP V X 2 0 0 9 _ [.int (zI (d 58 0))] d
  have hv' : zR (d 58 0) := hv
  generalize hx : d 58 0 = x at hv' E
  refine zP_istore_n (pc := 9) C (L' := [some (.ref (zad V 0)), some (.int (zI x))]) dX11_clearShare_9 rfl (Nat.le_of_ble_eq_true rfl) rfl rfl ?_
  refine zP_iload_n (pc := 10) C (x := zI x) dX11_clearShare_10 rfl rfl ?_
  have hc : (if x = 0 then some (0 : Int) else some 1) = some (if x = 0 then 0 else 1) := by split <;> rfl
  refine zP_if_ne (pc := 11) (tgt := 16) C dX11_clearShare_11 rfl hv' hc (fun hn _ => ?_) (fun hn _ => ?_)
  · have ez : zflt (zw (x - d 58 1)) x = FP.fdiv (FP.i2f (zI (zw (x - d 58 1)))) (FP.i2f (zI x)) := if_neg hn
    rw [ez] at E
    refine zP_iload_n (pc := 16) C (x := zI x) dX11_clearShare_16 rfl rfl ?_
    refine zP_aload_n (pc := 17) C (x := zad V 0) dX11_clearShare_17 rfl rfl ?_
    refine zP_getR (pc := 18) (a := 0) (t := 30) C g11_21 dX11_clearShare_18 (s_X11 hT) rfl ?_
    refine zP_getR (pc := 21) (a := 30) (t := 30 + 28) C g11_218 dX11_clearShare_21 (s_X2 (o_X11_line hT)) rfl ?_
    refine zP_iconst (pc := 24) C dX11_clearShare_24 ?_
    refine zP_ld (pc := 25) (a := 30 + 28) (i := 1) C dX11_clearShare_25 (s_X2_accounts (o_X11_line hT)) (zRk rfl) (by omega) fun hv2 => ?_
    show zP V X 2 0 0 26 _ [.int (zI (d 58 1)), .int (zI x)] d
    refine zP_sub (pc := 26) C dX11_clearShare_26 ?_
    refine zP_i2f (pc := 27) C dX11_clearShare_27 ?_
    refine zP_iload_n (pc := 28) C (x := zI x) dX11_clearShare_28 rfl rfl ?_
    refine zP_i2f (pc := 29) C dX11_clearShare_29 ?_
    refine zP_fdiv (pc := 30) C dX11_clearShare_30 (hN _ x hv' hn) ?_
    exact zP_fret (pc := 31) C E dX11_clearShare_31
  · have ez : zflt (zw (x - d 58 1)) x = FP.fconst1 := if_pos hn
    rw [ez] at E
    refine zP_fconst1 (pc := 14) C dX11_clearShare_14 ?_
    exact zP_fret (pc := 15) C E dX11_clearShare_15
theorem t_X12_clearShare {V : zW} (hT : zo12 V) (hN : NN32) {d : zD} : zMet V 0 yX12_clearShare cX12_clearShare 2 (some .float) [.ref (zad V 400)] d (some (.float (zflt (zw (d 401 12 - d 401 13)) (d 401 12)))) True (zu d 400 0 0) := by
  refine zMet_by RX12 pn12 rfl (Nat.le_of_ble_eq_true rfl) [some (.ref (zad V 400)), none] rfl fun X C E => ?_
  refine zP_aload_n (pc := 0) C (x := zad V 400) dX12_clearShare_0 rfl rfl ?_
  refine zP_iconst (pc := 1) C dX12_clearShare_1 ?_
  refine zP_putI (K := fun q => some q) (r := zu d 400 0 0) (pc := 2) (a := 400) C p12_1 dX12_clearShare_2 (s_X12 hT) rfl (zRk rfl) (by rw [zl_n]) fun d' h => ?_
  cases h
  refine zP_aload_n (pc := 5) C (x := zad V 400) dX12_clearShare_5 rfl rfl ?_
  refine zP_getR (pc := 6) (a := 400) (t := 401) C g12_13 dX12_clearShare_6 (s_X12 hT) rfl ?_
  refine zP_bipush (pc := 9) C dX12_clearShare_9 rfl ?_
  refine zP_ld (pc := 11) (a := 401) (i := 12) C dX12_clearShare_11 (s_X12_s hT) (zRk rfl) (by omega) fun hv => ?_
  have e1 : zu d 400 0 0 401 (12 : Int).toNat = d 401 12 := zu_ne (by omega)
  rw [e1] at hv ⊢
  show zP V X 2 0 0 12 _ [.int (zI (d 401 12))] (zu d 400 0 0)
  generalize hx : d 401 12 = x at hv E
  refine zP_istore_n (pc := 12) C (L' := [some (.ref (zad V 400)), some (.int (zI x))]) dX12_clearShare_12 rfl (Nat.le_of_ble_eq_true rfl) rfl rfl ?_
  refine zP_iload_n (pc := 13) C (x := zI x) dX12_clearShare_13 rfl rfl ?_
  have hc : (if x = 0 then some (0 : Int) else some 1) = some (if x = 0 then 0 else 1) := by split <;> rfl
  refine zP_if_ne (pc := 14) (tgt := 21) C dX12_clearShare_14 rfl hv hc (fun hn _ => ?_) (fun hn _ => ?_)
  · have ez : zflt (zw (x - d 401 13)) x = FP.fdiv (FP.i2f (zI (zw (x - d 401 13)))) (FP.i2f (zI x)) := if_neg hn
    rw [ez] at E
    refine zP_iload_n (pc := 21) C (x := zI x) dX12_clearShare_21 rfl rfl ?_
    refine zP_aload_n (pc := 22) C (x := zad V 400) dX12_clearShare_22 rfl rfl ?_
    refine zP_getR (pc := 23) (a := 400) (t := 401) C g12_13 dX12_clearShare_23 (s_X12 hT) rfl ?_
    refine zP_bipush (pc := 26) C dX12_clearShare_26 rfl ?_
    refine zP_ld (pc := 28) (a := 401) (i := 13) C dX12_clearShare_28 (s_X12_s hT) (zRk rfl) (by omega) fun hv2 => ?_
    have e2 : zu d 400 0 0 401 (13 : Int).toNat = d 401 13 := zu_ne (by omega)
    rw [e2]
    show zP V X 2 0 0 29 _ [.int (zI (d 401 13)), .int (zI x)] (zu d 400 0 0)
    refine zP_sub (pc := 29) C dX12_clearShare_29 ?_
    refine zP_i2f (pc := 30) C dX12_clearShare_30 ?_
    refine zP_iload_n (pc := 31) C (x := zI x) dX12_clearShare_31 rfl rfl ?_
    refine zP_i2f (pc := 32) C dX12_clearShare_32 ?_
    refine zP_fdiv (pc := 33) C dX12_clearShare_33 (hN _ x hv hn) ?_
    exact zP_fret (pc := 34) C E dX12_clearShare_34
  · have ez : zflt (zw (x - d 401 13)) x = FP.fconst1 := if_pos hn
    rw [ez] at E
    refine zP_fconst1 (pc := 17) C dX12_clearShare_17 ?_
    refine zP_goto (pc := 18) (tgt := 34) C dX12_clearShare_18 rfl ?_
    exact zP_fret (pc := 34) C E dX12_clearShare_34
