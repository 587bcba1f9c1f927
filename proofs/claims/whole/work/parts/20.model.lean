/-! The reference's methods over the pure heap. -/
def f_X12_thrown  (d : zD) : Option (Int × zD) :=
  zl (d 400 0) fun v1 =>
  some (v1, d)
theorem t_X12_thrown {V : zW}  (hT : zo12 V)   {d dz : zD} {rv : Int} (h : f_X12_thrown   d = some (rv, dz)) : zMet V 0 yX12_thrown cX12_thrown 1 (some .int) [.ref (zad V 400)] d (some (.int (zI rv))) (zR rv) dz := by
  refine zMet_by RX12 pn12 rfl (Nat.le_of_ble_eq_true rfl) [some (.ref (zad V 400))] rfl fun X C E => ?_
  refine zP_aload_n (pc := 0) C (x := zad V 400) dX12_thrown_0 rfl rfl ?_
  refine zP_getI (pc := 1) (a := 400) C g12_1 dX12_thrown_1 (s_X12 hT) rfl h fun v1 hv1 h => ?_
  exact zP_iret (pc := 4) C E dX12_thrown_4 hv1 h
def f_X12_isIn  (x0 x1 x2 : Int) (d : zD) : Option (Int × zD) :=
  if (x0 : Int) < x1 then (
    some (0, d))
  else (
    if (x2 : Int) < x0 then (
      some (0, d))
    else (
      some (1, d)))
theorem t_X12_isIn {V : zW}   {x0 x1 x2 : Int} (hx0 : zR x0) (hx1 : zR x1) (hx2 : zR x2) {d dz : zD} {rv : Int} (h : f_X12_isIn  x0 x1 x2 d = some (rv, dz)) : zMet V 0 yX12_isIn cX12_isIn 3 (some .boolean) [.int (zI x0), .int (zI x1), .int (zI x2)] d (some (.int (zI rv))) (rv = 0 ∨ rv = 1) dz := by
  refine zMet_by RX12 pn12 rfl (Nat.le_of_ble_eq_true rfl) [some (.int (zI x0)), some (.int (zI x1)), some (.int (zI x2))] rfl fun X C E => ?_
  refine zP_iload_n (pc := 0) C (x := zI x0) dX12_isIn_0 rfl rfl ?_
  refine zP_iload_n (pc := 1) C (x := zI x1) dX12_isIn_1 rfl rfl ?_
  refine zP_icmp_lt (pc := 2) (tgt := 14) C dX12_isIn_2 rfl hx0 hx1 h (fun _ h => ?_) (fun _ h => ?_)
  · refine zP_iconst (pc := 14) C dX12_isIn_14 ?_
    exact zP_zret (pc := 15) C E dX12_isIn_15 (Or.inl rfl) h
  · refine zP_iload_n (pc := 5) C (x := zI x0) dX12_isIn_5 rfl rfl ?_
    refine zP_iload_n (pc := 6) C (x := zI x2) dX12_isIn_6 rfl rfl ?_
    refine zP_icmp_gt (pc := 7) (tgt := 14) C dX12_isIn_7 rfl hx0 hx2 h (fun _ h => ?_) (fun _ h => ?_)
    · refine zP_iconst (pc := 14) C dX12_isIn_14 ?_
      exact zP_zret (pc := 15) C E dX12_isIn_15 (Or.inl rfl) h
    · refine zP_iconst (pc := 10) C dX12_isIn_10 ?_
      refine zP_goto (pc := 11) (tgt := 15) C dX12_isIn_11 rfl ?_
      exact zP_zret (pc := 15) C E dX12_isIn_15 (Or.inr rfl) h
def l_X12_copies_3F (a0 : Nat) (n0 : Nat) (a2 : Nat) (n2 : Nat) (r3 : Int → Int → Int → Int → zD → Option (Int × zD)) (x1 x3 x4 x5 : Int) (d : zD) : Option (Int × zD) :=
  if (x4 : Int) ≤ x5 then (
    some (0, d))
  else (
    zl (zw (x3 + x5)) fun v14 =>
    zl (zw (x1 + x5)) fun v19 =>
    zg n0 v19 <| zl (d a0 (v19 : Int).toNat) fun v20 =>
    zg n2 v14 <| zl (zu d a2 (v14 : Int).toNat v20) fun d =>
    zl (zw (x5 + 1)) fun v22 =>
    r3 x1 x3 x4 v22 d)
theorem wl_X12_copies_3F {V : zW} {X : zX} {a0 : Nat} {n0 : Nat} {a2 : Nat} {n2 : Nat} (ha0 : zsh V a0 = some (1, n0, zk0)) (ha2 : zsh V a2 = some (1, n2, zk0)) (C : zOk V X cX12_copies RX12 6 (zrm 0) none) {rv : Int} {dz : zD} (E : zEnd V X none (rv = 0) dz) {r3 : Int → Int → Int → Int → zD → Option (Int × zD)} (hr3 : ∀ {x1 x3 x4 x5 : Int} {d : zD}, zR x1 → zR x3 → zR x4 → zR x5 → r3 x1 x3 x4 x5 d = some (rv, dz) → zP V X 6 0 0 3 [some (.ref (zad V a0)), some (.int (zI x1)), some (.ref (zad V a2)), some (.int (zI x3)), some (.int (zI x4)), some (.int (zI x5))] [] d) {x1 x3 x4 x5 : Int} (hx1 : zR x1) (hx3 : zR x3) (hx4 : zR x4) (hx5 : zR x5) {d : zD} (h : l_X12_copies_3F a0 n0 a2 n2 r3 x1 x3 x4 x5 d = some (rv, dz)) : zP V X 6 0 0 3 [some (.ref (zad V a0)), some (.int (zI x1)), some (.ref (zad V a2)), some (.int (zI x3)), some (.int (zI x4)), some (.int (zI x5))] [] d := by
  refine zP_iload (pc := 3) C (x := zI x5) dX12_copies_3 rfl ?_
  refine zP_iload (pc := 5) C (x := zI x4) dX12_copies_5 rfl ?_
  refine zP_icmp_ge (pc := 7) (tgt := 28) C dX12_copies_7 rfl hx5 hx4 h (fun _ h => ?_) (fun _ h => ?_)
  · exact zP_vret (pc := 28) C E dX12_copies_28 h
  · refine zP_aload_n (pc := 10) C (x := zad V a2) dX12_copies_10 rfl rfl ?_
    refine zP_iload_n (pc := 11) C (x := zI x3) dX12_copies_11 rfl rfl ?_
    refine zP_iload (pc := 12) C (x := zI x5) dX12_copies_12 rfl ?_
    refine zP_iadd (pc := 14) C dX12_copies_14 h fun v14 hv14 h => ?_
    refine zP_aload_n (pc := 15) C (x := zad V a0) dX12_copies_15 rfl rfl ?_
    refine zP_iload_n (pc := 16) C (x := zI x1) dX12_copies_16 rfl rfl ?_
    refine zP_iload (pc := 17) C (x := zI x5) dX12_copies_17 rfl ?_
    refine zP_iadd (pc := 19) C dX12_copies_19 h fun v19 hv19 h => ?_
    refine zP_iald (pc := 20) (a := a0) C dX12_copies_20 ha0 hv19 h fun v20 hv20 h => ?_
    refine zP_iast (pc := 21) (a := a2) C dX12_copies_21 ha2 hv14 hv20 h fun d h => ?_
    refine zP_iinc (pc := 22) C (x := x5) dX12_copies_22 rfl (Nat.le_of_ble_eq_true rfl) rfl h fun v22 hv22 h => ?_
    show zP V X 6 0 0 25 [some (.ref (zad V a0)), some (.int (zI x1)), some (.ref (zad V a2)), some (.int (zI x3)), some (.int (zI x4)), some (.int (zI v22))] _ _
    refine zP_goto (pc := 25) (tgt := 3) C dX12_copies_25 rfl ?_
    exact zP_mask [true, true, true, true, true, true] (hr3 hx1 hx3 hx4 hv22 h)
def l_X12_copies_3 (a0 : Nat) (n0 : Nat) (a2 : Nat) (n2 : Nat)  : Nat → Int → Int → Int → Int → zD → Option (Int × zD)
  | 0, _, _, _, _, _ => none
  | q + 1, x1, x3, x4, x5, d => l_X12_copies_3F a0 n0 a2 n2  (l_X12_copies_3 a0 n0 a2 n2  q) x1 x3 x4 x5 d
theorem wl_X12_copies_3 {V : zW} {X : zX} {a0 : Nat} {n0 : Nat} {a2 : Nat} {n2 : Nat} (ha0 : zsh V a0 = some (1, n0, zk0)) (ha2 : zsh V a2 = some (1, n2, zk0)) (C : zOk V X cX12_copies RX12 6 (zrm 0) none) {rv : Int} {dz : zD} (E : zEnd V X none (rv = 0) dz)  : ∀ (q : Nat) {x1 x3 x4 x5 : Int} (hx1 : zR x1) (hx3 : zR x3) (hx4 : zR x4) (hx5 : zR x5) {d : zD} (h : l_X12_copies_3 a0 n0 a2 n2  q x1 x3 x4 x5 d = some (rv, dz)), zP V X 6 0 0 3 [some (.ref (zad V a0)), some (.int (zI x1)), some (.ref (zad V a2)), some (.int (zI x3)), some (.int (zI x4)), some (.int (zI x5))] [] d := by
  intro q
  induction q with
  | zero => intro x1 x3 x4 x5 hx1 hx3 hx4 hx5 d h; cases (show (none : Option (Int × zD)) = some (rv, dz) from h)
  | succ q ih =>
    intro x1 x3 x4 x5 hx1 hx3 hx4 hx5 d h
    exact wl_X12_copies_3F ha0 ha2 C E  (fun  hx1 hx3 hx4 hx5 h => ih hx1 hx3 hx4 hx5 h) hx1 hx3 hx4 hx5 h
def f_X12_copies (a0 : Nat) (n0 : Nat) (a2 : Nat) (n2 : Nat) (x1 x3 x4 : Int) (d : zD) : Option (Int × zD) :=
  l_X12_copies_3 a0 n0 a2 n2  zF x1 x3 x4 0 d
theorem t_X12_copies {V : zW} {a0 : Nat} {n0 : Nat} {a2 : Nat} {n2 : Nat} (ha0 : zsh V a0 = some (1, n0, zk0)) (ha2 : zsh V a2 = some (1, n2, zk0)) {x1 x3 x4 : Int} (hx1 : zR x1) (hx3 : zR x3) (hx4 : zR x4) {d dz : zD} {rv : Int} (h : f_X12_copies a0 n0 a2 n2 x1 x3 x4 d = some (rv, dz)) : zMet V 0 yX12_copies cX12_copies 6 none [.ref (zad V a0), .int (zI x1), .ref (zad V a2), .int (zI x3), .int (zI x4)] d none (rv = 0) dz := by
  refine zMet_by RX12 pn12 rfl (Nat.le_of_ble_eq_true rfl) [some (.ref (zad V a0)), some (.int (zI x1)), some (.ref (zad V a2)), some (.int (zI x3)), some (.int (zI x4)), none] rfl fun X C E => ?_
  refine zP_iconst (pc := 0) C dX12_copies_0 ?_
  refine zP_istore (pc := 1) C (L' := [some (.ref (zad V a0)), some (.int (zI x1)), some (.ref (zad V a2)), some (.int (zI x3)), some (.int (zI x4)), some (.int (zI 0))]) dX12_copies_1 (Nat.le_of_ble_eq_true rfl) rfl rfl ?_
  exact zP_mask [true, true, true, true, true, true] (wl_X12_copies_3 ha0 ha2 C E  zF hx1 hx3 hx4 (zRk rfl) h)
def l_X12_begins_2F  (r2 : Int → zD → Option (Int × zD)) (x1 : Int) (d : zD) : Option (Int × zD) :=
  if (800 : Int) ≤ x1 then (
    zg 800 5 <| zl (zu d 401 (5 : Int).toNat 1) fun d =>
    zg 800 6 <| zl (zu d 401 (6 : Int).toNat 5) fun d =>
    zg 800 7 <| zl (zu d 401 (7 : Int).toNat 3) fun d =>
    zg 800 8 <| zl (zu d 401 (8 : Int).toNat 2) fun d =>
    zg 800 9 <| zl (zu d 401 (9 : Int).toNat 8) fun d =>
    zg 800 10 <| zl (zu d 401 (10 : Int).toNat 1) fun d =>
    zg 800 26 <| zl (zu d 401 (26 : Int).toNat (-1)) fun d =>
    zg 800 27 <| zl (zu d 401 (27 : Int).toNat (-1)) fun d =>
    zg 800 28 <| zl (zu d 401 (28 : Int).toNat (-1)) fun d =>
    some (0, d))
  else (
    zg 800 x1 <| zl (zu d 401 (x1 : Int).toNat 0) fun d =>
    zl (zw (x1 + 1)) fun v16 =>
    r2 v16 d)
theorem wl_X12_begins_2F {V : zW} {X : zX}  (hT : zo12 V) (C : zOk V X cX12_begins RX12 2 (zrm 0) none) {rv : Int} {dz : zD} (E : zEnd V X none (rv = 0) dz) {r2 : Int → zD → Option (Int × zD)} (hr2 : ∀ {x1 : Int} {d : zD}, zR x1 → r2 x1 d = some (rv, dz) → zP V X 2 0 0 2 [some (.ref (zad V 400)), some (.int (zI x1))] [] d) {x1 : Int} (hx1 : zR x1) {d : zD} (h : l_X12_begins_2F  r2 x1 d = some (rv, dz)) : zP V X 2 0 0 2 [some (.ref (zad V 400)), some (.int (zI x1))] [] d := by
  refine zP_iload_n (pc := 2) C (x := zI x1) dX12_begins_2 rfl rfl ?_
  refine zP_sipush (pc := 3) C dX12_begins_3 rfl ?_
  refine zP_icmp_ge (pc := 6) (tgt := 22) C dX12_begins_6 rfl hx1 (zRk rfl) h (fun _ h => ?_) (fun _ h => ?_)
  · refine zP_aload_n (pc := 22) C (x := zad V 400) dX12_begins_22 rfl rfl ?_
    refine zP_getR (pc := 23) (a := 400) (t := 401) C g12_13 dX12_begins_23 (s_X12 hT) rfl ?_
    refine zP_iconst (pc := 26) C dX12_begins_26 ?_
    refine zP_iconst (pc := 27) C dX12_begins_27 ?_
    refine zP_iast (pc := 28) (a := 401) C dX12_begins_28 (s_X12_s hT) (zRk rfl) (zRk rfl) h fun d h => ?_
    refine zP_aload_n (pc := 29) C (x := zad V 400) dX12_begins_29 rfl rfl ?_
    refine zP_getR (pc := 30) (a := 400) (t := 401) C g12_13 dX12_begins_30 (s_X12 hT) rfl ?_
    refine zP_bipush (pc := 33) C dX12_begins_33 rfl ?_
    refine zP_iconst (pc := 35) C dX12_begins_35 ?_
    refine zP_iast (pc := 36) (a := 401) C dX12_begins_36 (s_X12_s hT) (zRk rfl) (zRk rfl) h fun d h => ?_
    refine zP_aload_n (pc := 37) C (x := zad V 400) dX12_begins_37 rfl rfl ?_
    refine zP_getR (pc := 38) (a := 400) (t := 401) C g12_13 dX12_begins_38 (s_X12 hT) rfl ?_
    refine zP_bipush (pc := 41) C dX12_begins_41 rfl ?_
    refine zP_iconst (pc := 43) C dX12_begins_43 ?_
    refine zP_iast (pc := 44) (a := 401) C dX12_begins_44 (s_X12_s hT) (zRk rfl) (zRk rfl) h fun d h => ?_
    refine zP_aload_n (pc := 45) C (x := zad V 400) dX12_begins_45 rfl rfl ?_
    refine zP_getR (pc := 46) (a := 400) (t := 401) C g12_13 dX12_begins_46 (s_X12 hT) rfl ?_
    refine zP_bipush (pc := 49) C dX12_begins_49 rfl ?_
    refine zP_iconst (pc := 51) C dX12_begins_51 ?_
    refine zP_iast (pc := 52) (a := 401) C dX12_begins_52 (s_X12_s hT) (zRk rfl) (zRk rfl) h fun d h => ?_
    refine zP_aload_n (pc := 53) C (x := zad V 400) dX12_begins_53 rfl rfl ?_
    refine zP_getR (pc := 54) (a := 400) (t := 401) C g12_13 dX12_begins_54 (s_X12 hT) rfl ?_
    refine zP_bipush (pc := 57) C dX12_begins_57 rfl ?_
    refine zP_bipush (pc := 59) C dX12_begins_59 rfl ?_
    refine zP_iast (pc := 61) (a := 401) C dX12_begins_61 (s_X12_s hT) (zRk rfl) (zRk rfl) h fun d h => ?_
    refine zP_aload_n (pc := 62) C (x := zad V 400) dX12_begins_62 rfl rfl ?_
    refine zP_getR (pc := 63) (a := 400) (t := 401) C g12_13 dX12_begins_63 (s_X12 hT) rfl ?_
    refine zP_bipush (pc := 66) C dX12_begins_66 rfl ?_
    refine zP_iconst (pc := 68) C dX12_begins_68 ?_
    refine zP_iast (pc := 69) (a := 401) C dX12_begins_69 (s_X12_s hT) (zRk rfl) (zRk rfl) h fun d h => ?_
    refine zP_aload_n (pc := 70) C (x := zad V 400) dX12_begins_70 rfl rfl ?_
    refine zP_getR (pc := 71) (a := 400) (t := 401) C g12_13 dX12_begins_71 (s_X12 hT) rfl ?_
    refine zP_bipush (pc := 74) C dX12_begins_74 rfl ?_
    refine zP_iconst (pc := 76) C dX12_begins_76 ?_
    refine zP_iast (pc := 77) (a := 401) C dX12_begins_77 (s_X12_s hT) (zRk rfl) (zRk rfl) h fun d h => ?_
    refine zP_aload_n (pc := 78) C (x := zad V 400) dX12_begins_78 rfl rfl ?_
    refine zP_getR (pc := 79) (a := 400) (t := 401) C g12_13 dX12_begins_79 (s_X12 hT) rfl ?_
    refine zP_bipush (pc := 82) C dX12_begins_82 rfl ?_
    refine zP_iconst (pc := 84) C dX12_begins_84 ?_
    refine zP_iast (pc := 85) (a := 401) C dX12_begins_85 (s_X12_s hT) (zRk rfl) (zRk rfl) h fun d h => ?_
    refine zP_aload_n (pc := 86) C (x := zad V 400) dX12_begins_86 rfl rfl ?_
    refine zP_getR (pc := 87) (a := 400) (t := 401) C g12_13 dX12_begins_87 (s_X12 hT) rfl ?_
    refine zP_bipush (pc := 90) C dX12_begins_90 rfl ?_
    refine zP_iconst (pc := 92) C dX12_begins_92 ?_
    refine zP_iast (pc := 93) (a := 401) C dX12_begins_93 (s_X12_s hT) (zRk rfl) (zRk rfl) h fun d h => ?_
    exact zP_vret (pc := 94) C E dX12_begins_94 h
  · refine zP_aload_n (pc := 9) C (x := zad V 400) dX12_begins_9 rfl rfl ?_
    refine zP_getR (pc := 10) (a := 400) (t := 401) C g12_13 dX12_begins_10 (s_X12 hT) rfl ?_
    refine zP_iload_n (pc := 13) C (x := zI x1) dX12_begins_13 rfl rfl ?_
    refine zP_iconst (pc := 14) C dX12_begins_14 ?_
    refine zP_iast (pc := 15) (a := 401) C dX12_begins_15 (s_X12_s hT) hx1 (zRk rfl) h fun d h => ?_
    refine zP_iinc (pc := 16) C (x := x1) dX12_begins_16 rfl (Nat.le_of_ble_eq_true rfl) rfl h fun v16 hv16 h => ?_
    show zP V X 2 0 0 19 [some (.ref (zad V 400)), some (.int (zI v16))] _ _
    refine zP_goto (pc := 19) (tgt := 2) C dX12_begins_19 rfl ?_
    exact zP_mask [true, true] (hr2 hv16 h)
def l_X12_begins_2   : Nat → Int → zD → Option (Int × zD)
  | 0, _, _ => none
  | q + 1, x1, d => l_X12_begins_2F   (l_X12_begins_2   q) x1 d
theorem wl_X12_begins_2 {V : zW} {X : zX}  (hT : zo12 V) (C : zOk V X cX12_begins RX12 2 (zrm 0) none) {rv : Int} {dz : zD} (E : zEnd V X none (rv = 0) dz)  : ∀ (q : Nat) {x1 : Int} (hx1 : zR x1) {d : zD} (h : l_X12_begins_2   q x1 d = some (rv, dz)), zP V X 2 0 0 2 [some (.ref (zad V 400)), some (.int (zI x1))] [] d := by
  intro q
  induction q with
  | zero => intro x1 hx1 d h; cases (show (none : Option (Int × zD)) = some (rv, dz) from h)
  | succ q ih =>
    intro x1 hx1 d h
    exact wl_X12_begins_2F hT C E  (fun  hx1 h => ih hx1 h) hx1 h
def f_X12_begins  (d : zD) : Option (Int × zD) :=
  l_X12_begins_2   zF 0 d
theorem t_X12_begins {V : zW}  (hT : zo12 V)   {d dz : zD} {rv : Int} (h : f_X12_begins   d = some (rv, dz)) : zMet V 0 yX12_begins cX12_begins 2 none [.ref (zad V 400)] d none (rv = 0) dz := by
  refine zMet_by RX12 pn12 rfl (Nat.le_of_ble_eq_true rfl) [some (.ref (zad V 400)), none] rfl fun X C E => ?_
  refine zP_iconst (pc := 0) C dX12_begins_0 ?_
  refine zP_istore_n (pc := 1) C (L' := [some (.ref (zad V 400)), some (.int (zI 0))]) dX12_begins_1 rfl (Nat.le_of_ble_eq_true rfl) rfl rfl ?_
  exact zP_mask [true, true] (wl_X12_begins_2 hT C E  zF (zRk rfl) h)
def f_X12_least  (x0 : Int) (d : zD) : Option (Int × zD) :=
  if (3 : Int) ≤ x0 then (
    some (0, d))
  else (
    some (1, d))
theorem t_X12_least {V : zW}   {x0 : Int} (hx0 : zR x0) {d dz : zD} {rv : Int} (h : f_X12_least  x0 d = some (rv, dz)) : zMet V 0 yX12_least cX12_least 1 (some .int) [.int (zI x0)] d (some (.int (zI rv))) (zR rv) dz := by
  refine zMet_by RX12 pn12 rfl (Nat.le_of_ble_eq_true rfl) [some (.int (zI x0))] rfl fun X C E => ?_
  refine zP_iload_n (pc := 0) C (x := zI x0) dX12_least_0 rfl rfl ?_
  refine zP_iconst (pc := 1) C dX12_least_1 ?_
  refine zP_icmp_ge (pc := 2) (tgt := 9) C dX12_least_2 rfl hx0 (zRk rfl) h (fun _ h => ?_) (fun _ h => ?_)
  · refine zP_iconst (pc := 9) C dX12_least_9 ?_
    exact zP_iret (pc := 10) C E dX12_least_10 (zRk rfl) h
  · refine zP_iconst (pc := 5) C dX12_least_5 ?_
    refine zP_goto (pc := 6) (tgt := 10) C dX12_least_6 rfl ?_
    exact zP_iret (pc := 10) C E dX12_least_10 (zRk rfl) h
def f_X12_greatest  (x0 : Int) (d : zD) : Option (Int × zD) :=
  if (x0 : Int) = 0 then (
    some (20, d))
  else (
    if (x0 : Int) = 3 then (
      some (20, d))
    else (
      if (x0 : Int) = 5 then (
        some (99, d))
      else (
        some (5, d))))
theorem t_X12_greatest {V : zW}   {x0 : Int} (hx0 : zR x0) {d dz : zD} {rv : Int} (h : f_X12_greatest  x0 d = some (rv, dz)) : zMet V 0 yX12_greatest cX12_greatest 1 (some .int) [.int (zI x0)] d (some (.int (zI rv))) (zR rv) dz := by
  refine zMet_by RX12 pn12 rfl (Nat.le_of_ble_eq_true rfl) [some (.int (zI x0))] rfl fun X C E => ?_
  refine zP_iload_n (pc := 0) C (x := zI x0) dX12_greatest_0 rfl rfl ?_
  refine zP_if_eq (pc := 1) (tgt := 9) C dX12_greatest_1 rfl hx0 h (fun _ h => ?_) (fun _ h => ?_)
  · refine zP_bipush (pc := 9) C dX12_greatest_9 rfl ?_
    refine zP_goto (pc := 11) (tgt := 25) C dX12_greatest_11 rfl ?_
    exact zP_iret (pc := 25) C E dX12_greatest_25 (zRk rfl) h
  · refine zP_iload_n (pc := 4) C (x := zI x0) dX12_greatest_4 rfl rfl ?_
    refine zP_iconst (pc := 5) C dX12_greatest_5 ?_
    refine zP_icmp_ne (pc := 6) (tgt := 14) C dX12_greatest_6 rfl hx0 (zRk rfl) h (fun _ h => ?_) (fun _ h => ?_)
    · refine zP_iload_n (pc := 14) C (x := zI x0) dX12_greatest_14 rfl rfl ?_
      refine zP_iconst (pc := 15) C dX12_greatest_15 ?_
      refine zP_icmp_ne (pc := 16) (tgt := 24) C dX12_greatest_16 rfl hx0 (zRk rfl) h (fun _ h => ?_) (fun _ h => ?_)
      · refine zP_iconst (pc := 24) C dX12_greatest_24 ?_
        exact zP_iret (pc := 25) C E dX12_greatest_25 (zRk rfl) h
      · refine zP_bipush (pc := 19) C dX12_greatest_19 rfl ?_
        refine zP_goto (pc := 21) (tgt := 25) C dX12_greatest_21 rfl ?_
        exact zP_iret (pc := 25) C E dX12_greatest_25 (zRk rfl) h
    · refine zP_bipush (pc := 9) C dX12_greatest_9 rfl ?_
      refine zP_goto (pc := 11) (tgt := 25) C dX12_greatest_11 rfl ?_
      exact zP_iret (pc := 25) C E dX12_greatest_25 (zRk rfl) h
def f_X12_many  (d : zD) : Option (Int × zD) :=
  zg 800 0 <| zl (d 401 (0 : Int).toNat) fun v5 =>
  some (v5, d)
theorem t_X12_many {V : zW}  (hT : zo12 V)   {d dz : zD} {rv : Int} (h : f_X12_many   d = some (rv, dz)) : zMet V 0 yX12_many cX12_many 1 (some .int) [.ref (zad V 400)] d (some (.int (zI rv))) (zR rv) dz := by
  refine zMet_by RX12 pn12 rfl (Nat.le_of_ble_eq_true rfl) [some (.ref (zad V 400))] rfl fun X C E => ?_
  refine zP_aload_n (pc := 0) C (x := zad V 400) dX12_many_0 rfl rfl ?_
  refine zP_getR (pc := 1) (a := 400) (t := 401) C g12_13 dX12_many_1 (s_X12 hT) rfl ?_
  refine zP_iconst (pc := 4) C dX12_many_4 ?_
  refine zP_iald (pc := 5) (a := 401) C dX12_many_5 (s_X12_s hT) (zRk rfl) h fun v5 hv5 h => ?_
  exact zP_iret (pc := 6) C E dX12_many_6 hv5 h
def f_X12_isTerminal  (x1 : Int) (d : zD) : Option (Int × zD) :=
  zc (f_X12_many   d) fun v3 d =>
  zl (zw (v3 - 1)) fun v7 =>
  zc (f_X12_isIn  x1 0 v7 d) fun v8 d =>
  some (v8, d)
theorem t_X12_isTerminal {V : zW}  (hT : zo12 V) {x1 : Int} (hx1 : zR x1) {d dz : zD} {rv : Int} (h : f_X12_isTerminal  x1 d = some (rv, dz)) : zMet V 1 yX12_isTerminal cX12_isTerminal 2 (some .boolean) [.ref (zad V 400), .int (zI x1)] d (some (.int (zI rv))) (rv = 0 ∨ rv = 1) dz := by
  refine zMet_by RX12 pn12 rfl (Nat.le_of_ble_eq_true rfl) [some (.ref (zad V 400)), some (.int (zI x1))] rfl fun X C E => ?_
  refine zP_iload_n (pc := 0) C (x := zI x1) dX12_isTerminal_0 rfl rfl ?_
  refine zP_iconst (pc := 1) C dX12_isTerminal_1 ?_
  refine zP_aload_n (pc := 2) C (x := zad V 400) dX12_isTerminal_2 rfl rfl ?_
  obtain ⟨v3, d1, hc, h⟩ := zc_h h
  refine zP_callV (pc := 3) (As := []) (st := [.int (zI 0), .int (zI x1)]) C m12_49 dX12_isTerminal_3 (s_X12 hT) rfl (t_X12_many hT  hc) ⟨Nat.le_of_ble_eq_true rfl, Nat.le_of_ble_eq_true rfl⟩ rfl (Nat.le_of_ble_eq_true rfl) ⟨Nat.zero_le _, Nat.zero_le _⟩ fun hw => ?_
  have hv3 := hw
  clear hc hw
  show zP V X 2 0 0 6 _ [.int (zI v3), .int (zI 0), .int (zI x1)] d1
  revert h
  generalize d1 = d
  intro h
  refine zP_iconst (pc := 6) C dX12_isTerminal_6 ?_
  refine zP_isub (pc := 7) C dX12_isTerminal_7 h fun v7 hv7 h => ?_
  obtain ⟨v8, d1, hc, h⟩ := zc_h h
  refine zP_callS (pc := 8) (As := [.int (zI x1), .int (zI 0), .int (zI v7)]) (st := []) C m12_53 dX12_isTerminal_8 (t_X12_isIn  hx1 (zRk rfl) hv7 hc) ⟨Nat.le_of_ble_eq_true rfl, Nat.le_of_ble_eq_true rfl⟩ rfl (Nat.le_of_ble_eq_true rfl) ⟨Nat.zero_le _, Nat.zero_le _⟩ fun hw => ?_
  have hbv8 := hw
  have hv8 := z01 hw
  clear hc hw
  show zP V X 2 0 0 11 _ [.int (zI v8)] d1
  revert h
  generalize d1 = d
  intro h
  exact zP_zret (pc := 11) C E dX12_isTerminal_11 hbv8 h
def f_X12_of  (x1 x2 : Int) (d : zD) : Option (Int × zD) :=
  zl (zw (16 * x1)) fun v9 =>
  zl (zw (50 + v9)) fun v10 =>
  zl (zw (v10 + x2)) fun v12 =>
  zg 800 v12 <| zl (d 401 (v12 : Int).toNat) fun v13 =>
  some (v13, d)
theorem t_X12_of {V : zW}  (hT : zo12 V) {x1 x2 : Int} (hx1 : zR x1) (hx2 : zR x2) {d dz : zD} {rv : Int} (h : f_X12_of  x1 x2 d = some (rv, dz)) : zMet V 0 yX12_of cX12_of 3 (some .int) [.ref (zad V 400), .int (zI x1), .int (zI x2)] d (some (.int (zI rv))) (zR rv) dz := by
  refine zMet_by RX12 pn12 rfl (Nat.le_of_ble_eq_true rfl) [some (.ref (zad V 400)), some (.int (zI x1)), some (.int (zI x2))] rfl fun X C E => ?_
  refine zP_aload_n (pc := 0) C (x := zad V 400) dX12_of_0 rfl rfl ?_
  refine zP_getR (pc := 1) (a := 400) (t := 401) C g12_13 dX12_of_1 (s_X12 hT) rfl ?_
  refine zP_bipush (pc := 4) C dX12_of_4 rfl ?_
  refine zP_bipush (pc := 6) C dX12_of_6 rfl ?_
  refine zP_iload_n (pc := 8) C (x := zI x1) dX12_of_8 rfl rfl ?_
  refine zP_imul (pc := 9) C dX12_of_9 h fun v9 hv9 h => ?_
  refine zP_iadd (pc := 10) C dX12_of_10 h fun v10 hv10 h => ?_
  refine zP_iload_n (pc := 11) C (x := zI x2) dX12_of_11 rfl rfl ?_
  refine zP_iadd (pc := 12) C dX12_of_12 h fun v12 hv12 h => ?_
  refine zP_iald (pc := 13) (a := 401) C dX12_of_13 (s_X12_s hT) hv12 h fun v13 hv13 h => ?_
  exact zP_iret (pc := 14) C E dX12_of_14 hv13 h
def f_X12_puts  (x1 x2 x3 : Int) (d : zD) : Option (Int × zD) :=
  zl (zw (16 * x1)) fun v9 =>
  zl (zw (50 + v9)) fun v10 =>
  zl (zw (v10 + x2)) fun v12 =>
  zg 800 v12 <| zl (zu d 401 (v12 : Int).toNat x3) fun d =>
  some (0, d)
theorem t_X12_puts {V : zW}  (hT : zo12 V) {x1 x2 x3 : Int} (hx1 : zR x1) (hx2 : zR x2) (hx3 : zR x3) {d dz : zD} {rv : Int} (h : f_X12_puts  x1 x2 x3 d = some (rv, dz)) : zMet V 0 yX12_puts cX12_puts 4 none [.ref (zad V 400), .int (zI x1), .int (zI x2), .int (zI x3)] d none (rv = 0) dz := by
  refine zMet_by RX12 pn12 rfl (Nat.le_of_ble_eq_true rfl) [some (.ref (zad V 400)), some (.int (zI x1)), some (.int (zI x2)), some (.int (zI x3))] rfl fun X C E => ?_
  refine zP_aload_n (pc := 0) C (x := zad V 400) dX12_puts_0 rfl rfl ?_
  refine zP_getR (pc := 1) (a := 400) (t := 401) C g12_13 dX12_puts_1 (s_X12 hT) rfl ?_
  refine zP_bipush (pc := 4) C dX12_puts_4 rfl ?_
  refine zP_bipush (pc := 6) C dX12_puts_6 rfl ?_
  refine zP_iload_n (pc := 8) C (x := zI x1) dX12_puts_8 rfl rfl ?_
  refine zP_imul (pc := 9) C dX12_puts_9 h fun v9 hv9 h => ?_
  refine zP_iadd (pc := 10) C dX12_puts_10 h fun v10 hv10 h => ?_
  refine zP_iload_n (pc := 11) C (x := zI x2) dX12_puts_11 rfl rfl ?_
  refine zP_iadd (pc := 12) C dX12_puts_12 h fun v12 hv12 h => ?_
  refine zP_iload_n (pc := 13) C (x := zI x3) dX12_puts_13 rfl rfl ?_
  refine zP_iast (pc := 14) (a := 401) C dX12_puts_14 (s_X12_s hT) hv12 hx3 h fun d h => ?_
  exact zP_vret (pc := 15) C E dX12_puts_15 h
def f_X12_turnsBit  (x1 x2 : Int) (d : zD) : Option (Int × zD) :=
  zc (f_X12_of  x1 x2 d) fun v7 d =>
  zl (zw (1 - v7)) fun v10 =>
  zc (f_X12_puts  x1 x2 v10 d) fun _ d =>
  some (0, d)
theorem t_X12_turnsBit {V : zW}  (hT : zo12 V) {x1 x2 : Int} (hx1 : zR x1) (hx2 : zR x2) {d dz : zD} {rv : Int} (h : f_X12_turnsBit  x1 x2 d = some (rv, dz)) : zMet V 1 yX12_turnsBit cX12_turnsBit 3 none [.ref (zad V 400), .int (zI x1), .int (zI x2)] d none (rv = 0) dz := by
  refine zMet_by RX12 pn12 rfl (Nat.le_of_ble_eq_true rfl) [some (.ref (zad V 400)), some (.int (zI x1)), some (.int (zI x2))] rfl fun X C E => ?_
  refine zP_aload_n (pc := 0) C (x := zad V 400) dX12_turnsBit_0 rfl rfl ?_
  refine zP_iload_n (pc := 1) C (x := zI x1) dX12_turnsBit_1 rfl rfl ?_
  refine zP_iload_n (pc := 2) C (x := zI x2) dX12_turnsBit_2 rfl rfl ?_
  refine zP_iconst (pc := 3) C dX12_turnsBit_3 ?_
  refine zP_aload_n (pc := 4) C (x := zad V 400) dX12_turnsBit_4 rfl rfl ?_
  refine zP_iload_n (pc := 5) C (x := zI x1) dX12_turnsBit_5 rfl rfl ?_
  refine zP_iload_n (pc := 6) C (x := zI x2) dX12_turnsBit_6 rfl rfl ?_
  obtain ⟨v7, d1, hc, h⟩ := zc_h h
  refine zP_callV (pc := 7) (As := [.int (zI x1), .int (zI x2)]) (st := [.int (zI 1), .int (zI x2), .int (zI x1), .ref (zad V 400)]) C m12_57 dX12_turnsBit_7 (s_X12 hT) rfl (t_X12_of hT hx1 hx2 hc) ⟨Nat.le_of_ble_eq_true rfl, Nat.le_of_ble_eq_true rfl⟩ rfl (Nat.le_of_ble_eq_true rfl) ⟨Nat.zero_le _, Nat.zero_le _⟩ fun hw => ?_
  have hv7 := hw
  clear hc hw
  show zP V X 3 0 0 10 _ [.int (zI v7), .int (zI 1), .int (zI x2), .int (zI x1), .ref (zad V 400)] d1
  revert h
  generalize d1 = d
  intro h
  refine zP_isub (pc := 10) C dX12_turnsBit_10 h fun v10 hv10 h => ?_
  obtain ⟨_, d1, hc, h⟩ := zc_h h
  refine zP_callV (pc := 11) (As := [.int (zI x1), .int (zI x2), .int (zI v10)]) (st := []) C m12_61 dX12_turnsBit_11 (s_X12 hT) rfl (t_X12_puts hT hx1 hx2 hv10 hc) ⟨Nat.le_of_ble_eq_true rfl, Nat.le_of_ble_eq_true rfl⟩ rfl (Nat.le_of_ble_eq_true rfl) ⟨Nat.zero_le _, Nat.zero_le _⟩ fun hw => ?_
  clear hc hw
  show zP V X 3 0 0 14 _ [] d1
  revert h
  generalize d1 = d
  intro h
  exact zP_vret (pc := 14) C E dX12_turnsBit_14 h
def f_X12_grows  (x1 x2 : Int) (d : zD) : Option (Int × zD) :=
  zc (f_X12_of  x1 x2 d) fun v6 d =>
  zl (zw (v6 + 1)) fun v10 =>
  zc (f_X12_puts  x1 x2 v10 d) fun _ d =>
  some (0, d)
theorem t_X12_grows {V : zW}  (hT : zo12 V) {x1 x2 : Int} (hx1 : zR x1) (hx2 : zR x2) {d dz : zD} {rv : Int} (h : f_X12_grows  x1 x2 d = some (rv, dz)) : zMet V 1 yX12_grows cX12_grows 3 none [.ref (zad V 400), .int (zI x1), .int (zI x2)] d none (rv = 0) dz := by
  refine zMet_by RX12 pn12 rfl (Nat.le_of_ble_eq_true rfl) [some (.ref (zad V 400)), some (.int (zI x1)), some (.int (zI x2))] rfl fun X C E => ?_
  refine zP_aload_n (pc := 0) C (x := zad V 400) dX12_grows_0 rfl rfl ?_
  refine zP_iload_n (pc := 1) C (x := zI x1) dX12_grows_1 rfl rfl ?_
  refine zP_iload_n (pc := 2) C (x := zI x2) dX12_grows_2 rfl rfl ?_
  refine zP_aload_n (pc := 3) C (x := zad V 400) dX12_grows_3 rfl rfl ?_
  refine zP_iload_n (pc := 4) C (x := zI x1) dX12_grows_4 rfl rfl ?_
  refine zP_iload_n (pc := 5) C (x := zI x2) dX12_grows_5 rfl rfl ?_
  obtain ⟨v6, d1, hc, h⟩ := zc_h h
  refine zP_callV (pc := 6) (As := [.int (zI x1), .int (zI x2)]) (st := [.int (zI x2), .int (zI x1), .ref (zad V 400)]) C m12_57 dX12_grows_6 (s_X12 hT) rfl (t_X12_of hT hx1 hx2 hc) ⟨Nat.le_of_ble_eq_true rfl, Nat.le_of_ble_eq_true rfl⟩ rfl (Nat.le_of_ble_eq_true rfl) ⟨Nat.zero_le _, Nat.zero_le _⟩ fun hw => ?_
  have hv6 := hw
  clear hc hw
  show zP V X 3 0 0 9 _ [.int (zI v6), .int (zI x2), .int (zI x1), .ref (zad V 400)] d1
  revert h
  generalize d1 = d
  intro h
  refine zP_iconst (pc := 9) C dX12_grows_9 ?_
  refine zP_iadd (pc := 10) C dX12_grows_10 h fun v10 hv10 h => ?_
  obtain ⟨_, d1, hc, h⟩ := zc_h h
  refine zP_callV (pc := 11) (As := [.int (zI x1), .int (zI x2), .int (zI v10)]) (st := []) C m12_61 dX12_grows_11 (s_X12 hT) rfl (t_X12_puts hT hx1 hx2 hv10 hc) ⟨Nat.le_of_ble_eq_true rfl, Nat.le_of_ble_eq_true rfl⟩ rfl (Nat.le_of_ble_eq_true rfl) ⟨Nat.zero_le _, Nat.zero_le _⟩ fun hw => ?_
  clear hc hw
  show zP V X 3 0 0 14 _ [] d1
  revert h
  generalize d1 = d
  intro h
  exact zP_vret (pc := 14) C E dX12_grows_14 h
def f_X12_message0  (x1 x2 : Int) (d : zD) : Option (Int × zD) :=
  zl (zw (12 * x1)) fun v10 =>
  zl (zw (200 + v10)) fun v11 =>
  zl (zw (v11 + x2)) fun v13 =>
  zg 800 v13 <| zl (d 401 (v13 : Int).toNat) fun v14 =>
  some (v14, d)
theorem t_X12_message0 {V : zW}  (hT : zo12 V) {x1 x2 : Int} (hx1 : zR x1) (hx2 : zR x2) {d dz : zD} {rv : Int} (h : f_X12_message0  x1 x2 d = some (rv, dz)) : zMet V 0 yX12_message0 cX12_message0 3 (some .int) [.ref (zad V 400), .int (zI x1), .int (zI x2)] d (some (.int (zI rv))) (zR rv) dz := by
  refine zMet_by RX12 pn12 rfl (Nat.le_of_ble_eq_true rfl) [some (.ref (zad V 400)), some (.int (zI x1)), some (.int (zI x2))] rfl fun X C E => ?_
  refine zP_aload_n (pc := 0) C (x := zad V 400) dX12_message0_0 rfl rfl ?_
  refine zP_getR (pc := 1) (a := 400) (t := 401) C g12_13 dX12_message0_1 (s_X12 hT) rfl ?_
  refine zP_sipush (pc := 4) C dX12_message0_4 rfl ?_
  refine zP_bipush (pc := 7) C dX12_message0_7 rfl ?_
  refine zP_iload_n (pc := 9) C (x := zI x1) dX12_message0_9 rfl rfl ?_
  refine zP_imul (pc := 10) C dX12_message0_10 h fun v10 hv10 h => ?_
  refine zP_iadd (pc := 11) C dX12_message0_11 h fun v11 hv11 h => ?_
  refine zP_iload_n (pc := 12) C (x := zI x2) dX12_message0_12 rfl rfl ?_
  refine zP_iadd (pc := 13) C dX12_message0_13 h fun v13 hv13 h => ?_
  refine zP_iald (pc := 14) (a := 401) C dX12_message0_14 (s_X12_s hT) hv13 h fun v14 hv14 h => ?_
  exact zP_iret (pc := 15) C E dX12_message0_15 hv14 h
def f_X12_tells  (x1 x2 x3 : Int) (d : zD) : Option (Int × zD) :=
  zl (zw (12 * x1)) fun v10 =>
  zl (zw (200 + v10)) fun v11 =>
  zl (zw (v11 + x2)) fun v13 =>
  zg 800 v13 <| zl (zu d 401 (v13 : Int).toNat x3) fun d =>
  some (0, d)
theorem t_X12_tells {V : zW}  (hT : zo12 V) {x1 x2 x3 : Int} (hx1 : zR x1) (hx2 : zR x2) (hx3 : zR x3) {d dz : zD} {rv : Int} (h : f_X12_tells  x1 x2 x3 d = some (rv, dz)) : zMet V 0 yX12_tells cX12_tells 4 none [.ref (zad V 400), .int (zI x1), .int (zI x2), .int (zI x3)] d none (rv = 0) dz := by
  refine zMet_by RX12 pn12 rfl (Nat.le_of_ble_eq_true rfl) [some (.ref (zad V 400)), some (.int (zI x1)), some (.int (zI x2)), some (.int (zI x3))] rfl fun X C E => ?_
  refine zP_aload_n (pc := 0) C (x := zad V 400) dX12_tells_0 rfl rfl ?_
  refine zP_getR (pc := 1) (a := 400) (t := 401) C g12_13 dX12_tells_1 (s_X12 hT) rfl ?_
  refine zP_sipush (pc := 4) C dX12_tells_4 rfl ?_
  refine zP_bipush (pc := 7) C dX12_tells_7 rfl ?_
  refine zP_iload_n (pc := 9) C (x := zI x1) dX12_tells_9 rfl rfl ?_
  refine zP_imul (pc := 10) C dX12_tells_10 h fun v10 hv10 h => ?_
  refine zP_iadd (pc := 11) C dX12_tells_11 h fun v11 hv11 h => ?_
  refine zP_iload_n (pc := 12) C (x := zI x2) dX12_tells_12 rfl rfl ?_
  refine zP_iadd (pc := 13) C dX12_tells_13 h fun v13 hv13 h => ?_
  refine zP_iload_n (pc := 14) C (x := zI x3) dX12_tells_14 rfl rfl ?_
  refine zP_iast (pc := 15) (a := 401) C dX12_tells_15 (s_X12_s hT) hv13 hx3 h fun d h => ?_
  exact zP_vret (pc := 16) C E dX12_tells_16 h
def f_X12_counts  (x1 : Int) (d : zD) : Option (Int × zD) :=
  zl (zw (12 + x1)) fun v7 =>
  zl (zw (12 + x1)) fun v15 =>
  zg 800 v15 <| zl (d 401 (v15 : Int).toNat) fun v16 =>
  zl (zw (v16 + 1)) fun v18 =>
  zg 800 v7 <| zl (zu d 401 (v7 : Int).toNat v18) fun d =>
  some (0, d)
theorem t_X12_counts {V : zW}  (hT : zo12 V) {x1 : Int} (hx1 : zR x1) {d dz : zD} {rv : Int} (h : f_X12_counts  x1 d = some (rv, dz)) : zMet V 0 yX12_counts cX12_counts 2 none [.ref (zad V 400), .int (zI x1)] d none (rv = 0) dz := by
  refine zMet_by RX12 pn12 rfl (Nat.le_of_ble_eq_true rfl) [some (.ref (zad V 400)), some (.int (zI x1))] rfl fun X C E => ?_
  refine zP_aload_n (pc := 0) C (x := zad V 400) dX12_counts_0 rfl rfl ?_
  refine zP_getR (pc := 1) (a := 400) (t := 401) C g12_13 dX12_counts_1 (s_X12 hT) rfl ?_
  refine zP_bipush (pc := 4) C dX12_counts_4 rfl ?_
  refine zP_iload_n (pc := 6) C (x := zI x1) dX12_counts_6 rfl rfl ?_
  refine zP_iadd (pc := 7) C dX12_counts_7 h fun v7 hv7 h => ?_
  refine zP_aload_n (pc := 8) C (x := zad V 400) dX12_counts_8 rfl rfl ?_
  refine zP_getR (pc := 9) (a := 400) (t := 401) C g12_13 dX12_counts_9 (s_X12 hT) rfl ?_
  refine zP_bipush (pc := 12) C dX12_counts_12 rfl ?_
  refine zP_iload_n (pc := 14) C (x := zI x1) dX12_counts_14 rfl rfl ?_
  refine zP_iadd (pc := 15) C dX12_counts_15 h fun v15 hv15 h => ?_
  refine zP_iald (pc := 16) (a := 401) C dX12_counts_16 (s_X12_s hT) hv15 h fun v16 hv16 h => ?_
  refine zP_iconst (pc := 17) C dX12_counts_17 ?_
  refine zP_iadd (pc := 18) C dX12_counts_18 h fun v18 hv18 h => ?_
  refine zP_iast (pc := 19) (a := 401) C dX12_counts_19 (s_X12_s hT) hv7 hv18 h fun d h => ?_
  exact zP_vret (pc := 20) C E dX12_counts_20 h
def f_X12_nextNumber  (d : zD) : Option (Int × zD) :=
  zg 800 46 <| zl (d 401 (46 : Int).toNat) fun v12 =>
  zl (zw (v12 + 1)) fun v14 =>
  zg 800 46 <| zl (zu d 401 (46 : Int).toNat v14) fun d =>
  zg 800 46 <| zl (d 401 (46 : Int).toNat) fun v22 =>
  some (v22, d)
theorem t_X12_nextNumber {V : zW}  (hT : zo12 V)   {d dz : zD} {rv : Int} (h : f_X12_nextNumber   d = some (rv, dz)) : zMet V 0 yX12_nextNumber cX12_nextNumber 1 (some .int) [.ref (zad V 400)] d (some (.int (zI rv))) (zR rv) dz := by
  refine zMet_by RX12 pn12 rfl (Nat.le_of_ble_eq_true rfl) [some (.ref (zad V 400))] rfl fun X C E => ?_
  refine zP_aload_n (pc := 0) C (x := zad V 400) dX12_nextNumber_0 rfl rfl ?_
  refine zP_getR (pc := 1) (a := 400) (t := 401) C g12_13 dX12_nextNumber_1 (s_X12 hT) rfl ?_
  refine zP_bipush (pc := 4) C dX12_nextNumber_4 rfl ?_
  refine zP_aload_n (pc := 6) C (x := zad V 400) dX12_nextNumber_6 rfl rfl ?_
  refine zP_getR (pc := 7) (a := 400) (t := 401) C g12_13 dX12_nextNumber_7 (s_X12 hT) rfl ?_
  refine zP_bipush (pc := 10) C dX12_nextNumber_10 rfl ?_
  refine zP_iald (pc := 12) (a := 401) C dX12_nextNumber_12 (s_X12_s hT) (zRk rfl) h fun v12 hv12 h => ?_
  refine zP_iconst (pc := 13) C dX12_nextNumber_13 ?_
  refine zP_iadd (pc := 14) C dX12_nextNumber_14 h fun v14 hv14 h => ?_
  refine zP_iast (pc := 15) (a := 401) C dX12_nextNumber_15 (s_X12_s hT) (zRk rfl) hv14 h fun d h => ?_
  refine zP_aload_n (pc := 16) C (x := zad V 400) dX12_nextNumber_16 rfl rfl ?_
  refine zP_getR (pc := 17) (a := 400) (t := 401) C g12_13 dX12_nextNumber_17 (s_X12 hT) rfl ?_
  refine zP_bipush (pc := 20) C dX12_nextNumber_20 rfl ?_
  refine zP_iald (pc := 22) (a := 401) C dX12_nextNumber_22 (s_X12_s hT) (zRk rfl) h fun v22 hv22 h => ?_
  exact zP_iret (pc := 23) C E dX12_nextNumber_23 hv22 h
def f_X12_lays  (x1 x2 x3 x4 : Int) (d : zD) : Option (Int × zD) :=
  zc (f_X12_many   d) fun v1 d =>
  zc (f_X12_puts  v1 0 x2 d) fun _ d =>
  zc (f_X12_puts  v1 1 x3 d) fun _ d =>
  zc (f_X12_puts  v1 2 x4 d) fun _ d =>
  zc (f_X12_puts  v1 3 1 d) fun _ d =>
  zc (f_X12_puts  v1 4 1 d) fun _ d =>
  zc (f_X12_puts  v1 15 x1 d) fun _ d =>
  zl (zw (v1 + 1)) fun v64 =>
  zg 800 0 <| zl (zu d 401 (0 : Int).toNat v64) fun d =>
  some (0, d)
theorem t_X12_lays {V : zW}  (hT : zo12 V) {x1 x2 x3 x4 : Int} (hx1 : zR x1) (hx2 : zR x2) (hx3 : zR x3) (hx4 : zR x4) {d dz : zD} {rv : Int} (h : f_X12_lays  x1 x2 x3 x4 d = some (rv, dz)) : zMet V 1 yX12_lays cX12_lays 6 none [.ref (zad V 400), .int (zI x1), .int (zI x2), .int (zI x3), .int (zI x4)] d none (rv = 0) dz := by
  refine zMet_by RX12 pn12 rfl (Nat.le_of_ble_eq_true rfl) [some (.ref (zad V 400)), some (.int (zI x1)), some (.int (zI x2)), some (.int (zI x3)), some (.int (zI x4)), none] rfl fun X C E => ?_
  refine zP_aload_n (pc := 0) C (x := zad V 400) dX12_lays_0 rfl rfl ?_
  obtain ⟨v1, d1, hc, h⟩ := zc_h h
  refine zP_callV (pc := 1) (As := []) (st := []) C m12_49 dX12_lays_1 (s_X12 hT) rfl (t_X12_many hT  hc) ⟨Nat.le_of_ble_eq_true rfl, Nat.le_of_ble_eq_true rfl⟩ rfl (Nat.le_of_ble_eq_true rfl) ⟨Nat.zero_le _, Nat.zero_le _⟩ fun hw => ?_
  have hv1 := hw
  clear hc hw
  show zP V X 6 0 0 4 _ [.int (zI v1)] d1
  revert h
  generalize d1 = d
  intro h
  refine zP_istore (pc := 4) C (L' := [some (.ref (zad V 400)), some (.int (zI x1)), some (.int (zI x2)), some (.int (zI x3)), some (.int (zI x4)), some (.int (zI v1))]) dX12_lays_4 (Nat.le_of_ble_eq_true rfl) rfl rfl ?_
  refine zP_aload_n (pc := 6) C (x := zad V 400) dX12_lays_6 rfl rfl ?_
  refine zP_iload (pc := 7) C (x := zI v1) dX12_lays_7 rfl ?_
  refine zP_iconst (pc := 9) C dX12_lays_9 ?_
  refine zP_iload_n (pc := 10) C (x := zI x2) dX12_lays_10 rfl rfl ?_
  obtain ⟨_, d1, hc, h⟩ := zc_h h
  refine zP_callV (pc := 11) (As := [.int (zI v1), .int (zI 0), .int (zI x2)]) (st := []) C m12_61 dX12_lays_11 (s_X12 hT) rfl (t_X12_puts hT hv1 (zRk rfl) hx2 hc) ⟨Nat.le_of_ble_eq_true rfl, Nat.le_of_ble_eq_true rfl⟩ rfl (Nat.le_of_ble_eq_true rfl) ⟨Nat.zero_le _, Nat.zero_le _⟩ fun hw => ?_
  clear hc hw
  show zP V X 6 0 0 14 _ [] d1
  revert h
  generalize d1 = d
  intro h
  refine zP_aload_n (pc := 14) C (x := zad V 400) dX12_lays_14 rfl rfl ?_
  refine zP_iload (pc := 15) C (x := zI v1) dX12_lays_15 rfl ?_
  refine zP_iconst (pc := 17) C dX12_lays_17 ?_
  refine zP_iload_n (pc := 18) C (x := zI x3) dX12_lays_18 rfl rfl ?_
  obtain ⟨_, d1, hc, h⟩ := zc_h h
  refine zP_callV (pc := 19) (As := [.int (zI v1), .int (zI 1), .int (zI x3)]) (st := []) C m12_61 dX12_lays_19 (s_X12 hT) rfl (t_X12_puts hT hv1 (zRk rfl) hx3 hc) ⟨Nat.le_of_ble_eq_true rfl, Nat.le_of_ble_eq_true rfl⟩ rfl (Nat.le_of_ble_eq_true rfl) ⟨Nat.zero_le _, Nat.zero_le _⟩ fun hw => ?_
  clear hc hw
  show zP V X 6 0 0 22 _ [] d1
  revert h
  generalize d1 = d
  intro h
  refine zP_aload_n (pc := 22) C (x := zad V 400) dX12_lays_22 rfl rfl ?_
  refine zP_iload (pc := 23) C (x := zI v1) dX12_lays_23 rfl ?_
  refine zP_iconst (pc := 25) C dX12_lays_25 ?_
  refine zP_iload (pc := 26) C (x := zI x4) dX12_lays_26 rfl ?_
  obtain ⟨_, d1, hc, h⟩ := zc_h h
  refine zP_callV (pc := 28) (As := [.int (zI v1), .int (zI 2), .int (zI x4)]) (st := []) C m12_61 dX12_lays_28 (s_X12 hT) rfl (t_X12_puts hT hv1 (zRk rfl) hx4 hc) ⟨Nat.le_of_ble_eq_true rfl, Nat.le_of_ble_eq_true rfl⟩ rfl (Nat.le_of_ble_eq_true rfl) ⟨Nat.zero_le _, Nat.zero_le _⟩ fun hw => ?_
  clear hc hw
  show zP V X 6 0 0 31 _ [] d1
  revert h
  generalize d1 = d
  intro h
  refine zP_aload_n (pc := 31) C (x := zad V 400) dX12_lays_31 rfl rfl ?_
  refine zP_iload (pc := 32) C (x := zI v1) dX12_lays_32 rfl ?_
  refine zP_iconst (pc := 34) C dX12_lays_34 ?_
  refine zP_iconst (pc := 35) C dX12_lays_35 ?_
  obtain ⟨_, d1, hc, h⟩ := zc_h h
  refine zP_callV (pc := 36) (As := [.int (zI v1), .int (zI 3), .int (zI 1)]) (st := []) C m12_61 dX12_lays_36 (s_X12 hT) rfl (t_X12_puts hT hv1 (zRk rfl) (zRk rfl) hc) ⟨Nat.le_of_ble_eq_true rfl, Nat.le_of_ble_eq_true rfl⟩ rfl (Nat.le_of_ble_eq_true rfl) ⟨Nat.zero_le _, Nat.zero_le _⟩ fun hw => ?_
  clear hc hw
  show zP V X 6 0 0 39 _ [] d1
  revert h
  generalize d1 = d
  intro h
  refine zP_aload_n (pc := 39) C (x := zad V 400) dX12_lays_39 rfl rfl ?_
  refine zP_iload (pc := 40) C (x := zI v1) dX12_lays_40 rfl ?_
  refine zP_iconst (pc := 42) C dX12_lays_42 ?_
  refine zP_iconst (pc := 43) C dX12_lays_43 ?_
  obtain ⟨_, d1, hc, h⟩ := zc_h h
  refine zP_callV (pc := 44) (As := [.int (zI v1), .int (zI 4), .int (zI 1)]) (st := []) C m12_61 dX12_lays_44 (s_X12 hT) rfl (t_X12_puts hT hv1 (zRk rfl) (zRk rfl) hc) ⟨Nat.le_of_ble_eq_true rfl, Nat.le_of_ble_eq_true rfl⟩ rfl (Nat.le_of_ble_eq_true rfl) ⟨Nat.zero_le _, Nat.zero_le _⟩ fun hw => ?_
  clear hc hw
  show zP V X 6 0 0 47 _ [] d1
  revert h
  generalize d1 = d
  intro h
  refine zP_aload_n (pc := 47) C (x := zad V 400) dX12_lays_47 rfl rfl ?_
  refine zP_iload (pc := 48) C (x := zI v1) dX12_lays_48 rfl ?_
  refine zP_bipush (pc := 50) C dX12_lays_50 rfl ?_
  refine zP_iload_n (pc := 52) C (x := zI x1) dX12_lays_52 rfl rfl ?_
  obtain ⟨_, d1, hc, h⟩ := zc_h h
  refine zP_callV (pc := 53) (As := [.int (zI v1), .int (zI 15), .int (zI x1)]) (st := []) C m12_61 dX12_lays_53 (s_X12 hT) rfl (t_X12_puts hT hv1 (zRk rfl) hx1 hc) ⟨Nat.le_of_ble_eq_true rfl, Nat.le_of_ble_eq_true rfl⟩ rfl (Nat.le_of_ble_eq_true rfl) ⟨Nat.zero_le _, Nat.zero_le _⟩ fun hw => ?_
  clear hc hw
  show zP V X 6 0 0 56 _ [] d1
  revert h
  generalize d1 = d
  intro h
  refine zP_aload_n (pc := 56) C (x := zad V 400) dX12_lays_56 rfl rfl ?_
  refine zP_getR (pc := 57) (a := 400) (t := 401) C g12_13 dX12_lays_57 (s_X12 hT) rfl ?_
  refine zP_iconst (pc := 60) C dX12_lays_60 ?_
  refine zP_iload (pc := 61) C (x := zI v1) dX12_lays_61 rfl ?_
  refine zP_iconst (pc := 63) C dX12_lays_63 ?_
  refine zP_iadd (pc := 64) C dX12_lays_64 h fun v64 hv64 h => ?_
  refine zP_iast (pc := 65) (a := 401) C dX12_lays_65 (s_X12_s hT) (zRk rfl) hv64 h fun d h => ?_
  exact zP_vret (pc := 66) C E dX12_lays_66 h
def j_X12_orderIn_59   (s0 s1 : Int) (d : zD) : Option (Int × zD) :=
  zc (f_X12_message0  s1 s0 d) fun v59 d =>
  some (v59, d)
theorem wj_X12_orderIn_59 {V : zW} {X : zX}  (hT : zo12 V) (C : zOk V X cX12_orderIn RX12 4 (zrm 1) (some .int)) {rv : Int} {dz : zD} (E : zEnd V X (some (.int (zI rv))) (zR rv) dz)  {s0 s1 : Int} (hs0 : zR s0) (hs1 : zR s1) {d : zD} (h : j_X12_orderIn_59   s0 s1 d = some (rv, dz)) : zP V X 4 0 0 59 [none, none, none, none] [.int (zI s0), .int (zI s1), .ref (zad V 400)] d := by
  obtain ⟨v59, d1, hc, h⟩ := zc_h h
  refine zP_callV (pc := 59) (As := [.int (zI s1), .int (zI s0)]) (st := []) C m12_65 dX12_orderIn_59 (s_X12 hT) rfl (t_X12_message0 hT hs1 hs0 hc) ⟨Nat.le_of_ble_eq_true rfl, Nat.le_of_ble_eq_true rfl⟩ rfl (Nat.le_of_ble_eq_true rfl) ⟨Nat.zero_le _, Nat.zero_le _⟩ fun hw => ?_
  have hv59 := hw
  clear hc hw
  show zP V X 4 0 0 62 _ [.int (zI v59)] d1
  revert h
  generalize d1 = d
  intro h
  exact zP_iret (pc := 62) C E dX12_orderIn_62 hv59 h
def f_X12_orderIn  (x1 x2 x3 : Int) (d : zD) : Option (Int × zD) :=
  if (x3 : Int) = 0 then (
    zc (f_X12_message0  x1 0 d) fun v7 d =>
    if (v7 : Int) = x2 then (
      zc (f_X12_message0  x1 8 d) fun v18 d =>
      if (v18 : Int) = 1 then (
        zl (zw (x1 + 1)) fun v27 =>
        some (v27, d))
      else (
        some (0, d)))
    else (
      some (0, d)))
  else (
    zc (f_X12_message0  x1 1 d) fun v36 d =>
    if (v36 : Int) = x2 then (
      if (x3 : Int) = 1 then (
        j_X12_orderIn_59   9 x1 d)
      else (
        j_X12_orderIn_59   10 x1 d))
    else (
      some (0, d)))
theorem t_X12_orderIn {V : zW}  (hT : zo12 V) {x1 x2 x3 : Int} (hx1 : zR x1) (hx2 : zR x2) (hx3 : zR x3) {d dz : zD} {rv : Int} (h : f_X12_orderIn  x1 x2 x3 d = some (rv, dz)) : zMet V 1 yX12_orderIn cX12_orderIn 4 (some .int) [.ref (zad V 400), .int (zI x1), .int (zI x2), .int (zI x3)] d (some (.int (zI rv))) (zR rv) dz := by
  refine zMet_by RX12 pn12 rfl (Nat.le_of_ble_eq_true rfl) [some (.ref (zad V 400)), some (.int (zI x1)), some (.int (zI x2)), some (.int (zI x3))] rfl fun X C E => ?_
  refine zP_iload_n (pc := 0) C (x := zI x3) dX12_orderIn_0 rfl rfl ?_
  refine zP_if_ne (pc := 1) (tgt := 33) C dX12_orderIn_1 rfl hx3 h (fun _ h => ?_) (fun _ h => ?_)
  · refine zP_aload_n (pc := 33) C (x := zad V 400) dX12_orderIn_33 rfl rfl ?_
    refine zP_iload_n (pc := 34) C (x := zI x1) dX12_orderIn_34 rfl rfl ?_
    refine zP_iconst (pc := 35) C dX12_orderIn_35 ?_
    obtain ⟨v36, d1, hc, h⟩ := zc_h h
    refine zP_callV (pc := 36) (As := [.int (zI x1), .int (zI 1)]) (st := []) C m12_65 dX12_orderIn_36 (s_X12 hT) rfl (t_X12_message0 hT hx1 (zRk rfl) hc) ⟨Nat.le_of_ble_eq_true rfl, Nat.le_of_ble_eq_true rfl⟩ rfl (Nat.le_of_ble_eq_true rfl) ⟨Nat.zero_le _, Nat.zero_le _⟩ fun hw => ?_
    have hv36 := hw
    clear hc hw
    show zP V X 4 0 0 39 _ [.int (zI v36)] d1
    revert h
    generalize d1 = d
    intro h
    refine zP_iload_n (pc := 39) C (x := zI x2) dX12_orderIn_39 rfl rfl ?_
    refine zP_icmp_eq (pc := 40) (tgt := 45) C dX12_orderIn_40 rfl hv36 hx2 h (fun _ h => ?_) (fun _ h => ?_)
    · refine zP_aload_n (pc := 45) C (x := zad V 400) dX12_orderIn_45 rfl rfl ?_
      refine zP_iload_n (pc := 46) C (x := zI x1) dX12_orderIn_46 rfl rfl ?_
      refine zP_iload_n (pc := 47) C (x := zI x3) dX12_orderIn_47 rfl rfl ?_
      refine zP_iconst (pc := 48) C dX12_orderIn_48 ?_
      refine zP_icmp_ne (pc := 49) (tgt := 57) C dX12_orderIn_49 rfl hx3 (zRk rfl) h (fun _ h => ?_) (fun _ h => ?_)
      · refine zP_bipush (pc := 57) C dX12_orderIn_57 rfl ?_
        exact zP_mask [false, false, false, false] (wj_X12_orderIn_59 hT C E  (zRk rfl) hx1 h)
      · refine zP_bipush (pc := 52) C dX12_orderIn_52 rfl ?_
        refine zP_goto (pc := 54) (tgt := 59) C dX12_orderIn_54 rfl ?_
        exact zP_mask [false, false, false, false] (wj_X12_orderIn_59 hT C E  (zRk rfl) hx1 h)
    · refine zP_iconst (pc := 43) C dX12_orderIn_43 ?_
      exact zP_iret (pc := 44) C E dX12_orderIn_44 (zRk rfl) h
  · refine zP_aload_n (pc := 4) C (x := zad V 400) dX12_orderIn_4 rfl rfl ?_
    refine zP_iload_n (pc := 5) C (x := zI x1) dX12_orderIn_5 rfl rfl ?_
    refine zP_iconst (pc := 6) C dX12_orderIn_6 ?_
    obtain ⟨v7, d1, hc, h⟩ := zc_h h
    refine zP_callV (pc := 7) (As := [.int (zI x1), .int (zI 0)]) (st := []) C m12_65 dX12_orderIn_7 (s_X12 hT) rfl (t_X12_message0 hT hx1 (zRk rfl) hc) ⟨Nat.le_of_ble_eq_true rfl, Nat.le_of_ble_eq_true rfl⟩ rfl (Nat.le_of_ble_eq_true rfl) ⟨Nat.zero_le _, Nat.zero_le _⟩ fun hw => ?_
    have hv7 := hw
    clear hc hw
    show zP V X 4 0 0 10 _ [.int (zI v7)] d1
    revert h
    generalize d1 = d
    intro h
    refine zP_iload_n (pc := 10) C (x := zI x2) dX12_orderIn_10 rfl rfl ?_
    refine zP_icmp_ne (pc := 11) (tgt := 31) C dX12_orderIn_11 rfl hv7 hx2 h (fun _ h => ?_) (fun _ h => ?_)
    · refine zP_iconst (pc := 31) C dX12_orderIn_31 ?_
      exact zP_iret (pc := 32) C E dX12_orderIn_32 (zRk rfl) h
    · refine zP_aload_n (pc := 14) C (x := zad V 400) dX12_orderIn_14 rfl rfl ?_
      refine zP_iload_n (pc := 15) C (x := zI x1) dX12_orderIn_15 rfl rfl ?_
      refine zP_bipush (pc := 16) C dX12_orderIn_16 rfl ?_
      obtain ⟨v18, d1, hc, h⟩ := zc_h h
      refine zP_callV (pc := 18) (As := [.int (zI x1), .int (zI 8)]) (st := []) C m12_65 dX12_orderIn_18 (s_X12 hT) rfl (t_X12_message0 hT hx1 (zRk rfl) hc) ⟨Nat.le_of_ble_eq_true rfl, Nat.le_of_ble_eq_true rfl⟩ rfl (Nat.le_of_ble_eq_true rfl) ⟨Nat.zero_le _, Nat.zero_le _⟩ fun hw => ?_
      have hv18 := hw
      clear hc hw
      show zP V X 4 0 0 21 _ [.int (zI v18)] d1
      revert h
      generalize d1 = d
      intro h
      refine zP_iconst (pc := 21) C dX12_orderIn_21 ?_
      refine zP_icmp_ne (pc := 22) (tgt := 31) C dX12_orderIn_22 rfl hv18 (zRk rfl) h (fun _ h => ?_) (fun _ h => ?_)
      · refine zP_iconst (pc := 31) C dX12_orderIn_31 ?_
        exact zP_iret (pc := 32) C E dX12_orderIn_32 (zRk rfl) h
      · refine zP_iload_n (pc := 25) C (x := zI x1) dX12_orderIn_25 rfl rfl ?_
        refine zP_iconst (pc := 26) C dX12_orderIn_26 ?_
        refine zP_iadd (pc := 27) C dX12_orderIn_27 h fun v27 hv27 h => ?_
        refine zP_goto (pc := 28) (tgt := 32) C dX12_orderIn_28 rfl ?_
        exact zP_iret (pc := 32) C E dX12_orderIn_32 hv27 h
def l_X12_inRowMany_5F  (r5 : Int → Int → Int → Int → zD → Option (Int × zD)) (x1 x2 x3 x4 : Int) (d : zD) : Option (Int × zD) :=
  zg 800 2 <| zl (d 401 (2 : Int).toNat) fun v12 =>
  if (v12 : Int) ≤ x4 then (
    some (x3, d))
  else (
    zc (f_X12_orderIn  x4 x1 x2 d) fun v21 d =>
    if (v21 : Int) ≤ 0 then (
      zl (zw (x4 + 1)) fun v31 =>
      r5 x1 x2 x3 v31 d)
    else (
      zl (zw (x3 + 1)) fun v29 =>
      zl (zw (x4 + 1)) fun v31 =>
      r5 x1 x2 v29 v31 d))
theorem wl_X12_inRowMany_5F {V : zW} {X : zX}  (hT : zo12 V) (C : zOk V X cX12_inRowMany RX12 5 (zrm 2) (some .int)) {rv : Int} {dz : zD} (E : zEnd V X (some (.int (zI rv))) (zR rv) dz) {r5 : Int → Int → Int → Int → zD → Option (Int × zD)} (hr5 : ∀ {x1 x2 x3 x4 : Int} {d : zD}, zR x1 → zR x2 → zR x3 → zR x4 → r5 x1 x2 x3 x4 d = some (rv, dz) → zP V X 5 0 0 5 [some (.ref (zad V 400)), some (.int (zI x1)), some (.int (zI x2)), some (.int (zI x3)), some (.int (zI x4))] [] d) {x1 x2 x3 x4 : Int} (hx1 : zR x1) (hx2 : zR x2) (hx3 : zR x3) (hx4 : zR x4) {d : zD} (h : l_X12_inRowMany_5F  r5 x1 x2 x3 x4 d = some (rv, dz)) : zP V X 5 0 0 5 [some (.ref (zad V 400)), some (.int (zI x1)), some (.int (zI x2)), some (.int (zI x3)), some (.int (zI x4))] [] d := by
  refine zP_iload (pc := 5) C (x := zI x4) dX12_inRowMany_5 rfl ?_
  refine zP_aload_n (pc := 7) C (x := zad V 400) dX12_inRowMany_7 rfl rfl ?_
  refine zP_getR (pc := 8) (a := 400) (t := 401) C g12_13 dX12_inRowMany_8 (s_X12 hT) rfl ?_
  refine zP_iconst (pc := 11) C dX12_inRowMany_11 ?_
  refine zP_iald (pc := 12) (a := 401) C dX12_inRowMany_12 (s_X12_s hT) (zRk rfl) h fun v12 hv12 h => ?_
  refine zP_icmp_ge (pc := 13) (tgt := 37) C dX12_inRowMany_13 rfl hx4 hv12 h (fun _ h => ?_) (fun _ h => ?_)
  · refine zP_iload_n (pc := 37) C (x := zI x3) dX12_inRowMany_37 rfl rfl ?_
    exact zP_iret (pc := 38) C E dX12_inRowMany_38 hx3 h
  · refine zP_aload_n (pc := 16) C (x := zad V 400) dX12_inRowMany_16 rfl rfl ?_
    refine zP_iload (pc := 17) C (x := zI x4) dX12_inRowMany_17 rfl ?_
    refine zP_iload_n (pc := 19) C (x := zI x1) dX12_inRowMany_19 rfl rfl ?_
    refine zP_iload_n (pc := 20) C (x := zI x2) dX12_inRowMany_20 rfl rfl ?_
    obtain ⟨v21, d1, hc, h⟩ := zc_h h
    refine zP_callV (pc := 21) (As := [.int (zI x4), .int (zI x1), .int (zI x2)]) (st := []) C m12_68 dX12_inRowMany_21 (s_X12 hT) rfl (t_X12_orderIn hT hx4 hx1 hx2 hc) ⟨Nat.le_of_ble_eq_true rfl, Nat.le_of_ble_eq_true rfl⟩ rfl (Nat.le_of_ble_eq_true rfl) ⟨Nat.zero_le _, Nat.zero_le _⟩ fun hw => ?_
    have hv21 := hw
    clear hc hw
    show zP V X 5 0 0 24 _ [.int (zI v21)] d1
    revert h
    generalize d1 = d
    intro h
    refine zP_if_le (pc := 24) (tgt := 31) C dX12_inRowMany_24 rfl hv21 h (fun _ h => ?_) (fun _ h => ?_)
    · refine zP_iinc (pc := 31) C (x := x4) dX12_inRowMany_31 rfl (Nat.le_of_ble_eq_true rfl) rfl h fun v31 hv31 h => ?_
      show zP V X 5 0 0 34 [some (.ref (zad V 400)), some (.int (zI x1)), some (.int (zI x2)), some (.int (zI x3)), some (.int (zI v31))] _ _
      refine zP_goto (pc := 34) (tgt := 5) C dX12_inRowMany_34 rfl ?_
      exact zP_mask [true, true, true, true, true] (hr5 hx1 hx2 hx3 hv31 h)
    · refine zP_iload_n (pc := 27) C (x := zI x3) dX12_inRowMany_27 rfl rfl ?_
      refine zP_iconst (pc := 28) C dX12_inRowMany_28 ?_
      refine zP_iadd (pc := 29) C dX12_inRowMany_29 h fun v29 hv29 h => ?_
      refine zP_istore_n (pc := 30) C (L' := [some (.ref (zad V 400)), some (.int (zI x1)), some (.int (zI x2)), some (.int (zI v29)), some (.int (zI x4))]) dX12_inRowMany_30 rfl (Nat.le_of_ble_eq_true rfl) rfl rfl ?_
      refine zP_iinc (pc := 31) C (x := x4) dX12_inRowMany_31 rfl (Nat.le_of_ble_eq_true rfl) rfl h fun v31 hv31 h => ?_
      show zP V X 5 0 0 34 [some (.ref (zad V 400)), some (.int (zI x1)), some (.int (zI x2)), some (.int (zI v29)), some (.int (zI v31))] _ _
      refine zP_goto (pc := 34) (tgt := 5) C dX12_inRowMany_34 rfl ?_
      exact zP_mask [true, true, true, true, true] (hr5 hx1 hx2 hv29 hv31 h)
def l_X12_inRowMany_5   : Nat → Int → Int → Int → Int → zD → Option (Int × zD)
  | 0, _, _, _, _, _ => none
  | q + 1, x1, x2, x3, x4, d => l_X12_inRowMany_5F   (l_X12_inRowMany_5   q) x1 x2 x3 x4 d
theorem wl_X12_inRowMany_5 {V : zW} {X : zX}  (hT : zo12 V) (C : zOk V X cX12_inRowMany RX12 5 (zrm 2) (some .int)) {rv : Int} {dz : zD} (E : zEnd V X (some (.int (zI rv))) (zR rv) dz)  : ∀ (q : Nat) {x1 x2 x3 x4 : Int} (hx1 : zR x1) (hx2 : zR x2) (hx3 : zR x3) (hx4 : zR x4) {d : zD} (h : l_X12_inRowMany_5   q x1 x2 x3 x4 d = some (rv, dz)), zP V X 5 0 0 5 [some (.ref (zad V 400)), some (.int (zI x1)), some (.int (zI x2)), some (.int (zI x3)), some (.int (zI x4))] [] d := by
  intro q
  induction q with
  | zero => intro x1 x2 x3 x4 hx1 hx2 hx3 hx4 d h; cases (show (none : Option (Int × zD)) = some (rv, dz) from h)
  | succ q ih =>
    intro x1 x2 x3 x4 hx1 hx2 hx3 hx4 d h
    exact wl_X12_inRowMany_5F hT C E  (fun  hx1 hx2 hx3 hx4 h => ih hx1 hx2 hx3 hx4 h) hx1 hx2 hx3 hx4 h
def f_X12_inRowMany  (x1 x2 : Int) (d : zD) : Option (Int × zD) :=
  l_X12_inRowMany_5   zF x1 x2 0 0 d
theorem t_X12_inRowMany {V : zW}  (hT : zo12 V) {x1 x2 : Int} (hx1 : zR x1) (hx2 : zR x2) {d dz : zD} {rv : Int} (h : f_X12_inRowMany  x1 x2 d = some (rv, dz)) : zMet V 2 yX12_inRowMany cX12_inRowMany 5 (some .int) [.ref (zad V 400), .int (zI x1), .int (zI x2)] d (some (.int (zI rv))) (zR rv) dz := by
  refine zMet_by RX12 pn12 rfl (Nat.le_of_ble_eq_true rfl) [some (.ref (zad V 400)), some (.int (zI x1)), some (.int (zI x2)), none, none] rfl fun X C E => ?_
  refine zP_iconst (pc := 0) C dX12_inRowMany_0 ?_
  refine zP_istore_n (pc := 1) C (L' := [some (.ref (zad V 400)), some (.int (zI x1)), some (.int (zI x2)), some (.int (zI 0)), none]) dX12_inRowMany_1 rfl (Nat.le_of_ble_eq_true rfl) rfl rfl ?_
  refine zP_iconst (pc := 2) C dX12_inRowMany_2 ?_
  refine zP_istore (pc := 3) C (L' := [some (.ref (zad V 400)), some (.int (zI x1)), some (.int (zI x2)), some (.int (zI 0)), some (.int (zI 0))]) dX12_inRowMany_3 (Nat.le_of_ble_eq_true rfl) rfl rfl ?_
  exact zP_mask [true, true, true, true, true] (wl_X12_inRowMany_5 hT C E  zF hx1 hx2 (zRk rfl) (zRk rfl) h)
def l_X12_aheadOf_6F  (r6 : Int → Int → Int → Int → Int → zD → Option (Int × zD)) (x1 x2 x3 x4 x5 : Int) (d : zD) : Option (Int × zD) :=
  zg 800 2 <| zl (d 401 (2 : Int).toNat) fun v13 =>
  if (v13 : Int) ≤ x5 then (
    some (x4, d))
  else (
    zc (f_X12_orderIn  x5 x2 x3 d) fun v22 d =>
    if (v22 : Int) ≤ 0 then (
      zl (zw (x5 + 1)) fun v52 =>
      r6 x1 x2 x3 x4 v52 d)
    else (
      zc (f_X12_orderIn  x5 x2 x3 d) fun v33 d =>
      zc (f_X12_orderIn  x1 x2 x3 d) fun v40 d =>
      if (v40 : Int) ≤ v33 then (
        zl (zw (x5 + 1)) fun v52 =>
        r6 x1 x2 x3 x4 v52 d)
      else (
        zl (zw (x4 + 1)) fun v49 =>
        zl (zw (x5 + 1)) fun v52 =>
        r6 x1 x2 x3 v49 v52 d)))
theorem wl_X12_aheadOf_6F {V : zW} {X : zX}  (hT : zo12 V) (C : zOk V X cX12_aheadOf RX12 6 (zrm 2) (some .int)) {rv : Int} {dz : zD} (E : zEnd V X (some (.int (zI rv))) (zR rv) dz) {r6 : Int → Int → Int → Int → Int → zD → Option (Int × zD)} (hr6 : ∀ {x1 x2 x3 x4 x5 : Int} {d : zD}, zR x1 → zR x2 → zR x3 → zR x4 → zR x5 → r6 x1 x2 x3 x4 x5 d = some (rv, dz) → zP V X 6 0 0 6 [some (.ref (zad V 400)), some (.int (zI x1)), some (.int (zI x2)), some (.int (zI x3)), some (.int (zI x4)), some (.int (zI x5))] [] d) {x1 x2 x3 x4 x5 : Int} (hx1 : zR x1) (hx2 : zR x2) (hx3 : zR x3) (hx4 : zR x4) (hx5 : zR x5) {d : zD} (h : l_X12_aheadOf_6F  r6 x1 x2 x3 x4 x5 d = some (rv, dz)) : zP V X 6 0 0 6 [some (.ref (zad V 400)), some (.int (zI x1)), some (.int (zI x2)), some (.int (zI x3)), some (.int (zI x4)), some (.int (zI x5))] [] d := by
  refine zP_iload (pc := 6) C (x := zI x5) dX12_aheadOf_6 rfl ?_
  refine zP_aload_n (pc := 8) C (x := zad V 400) dX12_aheadOf_8 rfl rfl ?_
  refine zP_getR (pc := 9) (a := 400) (t := 401) C g12_13 dX12_aheadOf_9 (s_X12 hT) rfl ?_
  refine zP_iconst (pc := 12) C dX12_aheadOf_12 ?_
  refine zP_iald (pc := 13) (a := 401) C dX12_aheadOf_13 (s_X12_s hT) (zRk rfl) h fun v13 hv13 h => ?_
  refine zP_icmp_ge (pc := 14) (tgt := 58) C dX12_aheadOf_14 rfl hx5 hv13 h (fun _ h => ?_) (fun _ h => ?_)
  · refine zP_iload (pc := 58) C (x := zI x4) dX12_aheadOf_58 rfl ?_
    exact zP_iret (pc := 60) C E dX12_aheadOf_60 hx4 h
  · refine zP_aload_n (pc := 17) C (x := zad V 400) dX12_aheadOf_17 rfl rfl ?_
    refine zP_iload (pc := 18) C (x := zI x5) dX12_aheadOf_18 rfl ?_
    refine zP_iload_n (pc := 20) C (x := zI x2) dX12_aheadOf_20 rfl rfl ?_
    refine zP_iload_n (pc := 21) C (x := zI x3) dX12_aheadOf_21 rfl rfl ?_
    obtain ⟨v22, d1, hc, h⟩ := zc_h h
    refine zP_callV (pc := 22) (As := [.int (zI x5), .int (zI x2), .int (zI x3)]) (st := []) C m12_68 dX12_aheadOf_22 (s_X12 hT) rfl (t_X12_orderIn hT hx5 hx2 hx3 hc) ⟨Nat.le_of_ble_eq_true rfl, Nat.le_of_ble_eq_true rfl⟩ rfl (Nat.le_of_ble_eq_true rfl) ⟨Nat.zero_le _, Nat.zero_le _⟩ fun hw => ?_
    have hv22 := hw
    clear hc hw
    show zP V X 6 0 0 25 _ [.int (zI v22)] d1
    revert h
    generalize d1 = d
    intro h
    refine zP_if_le (pc := 25) (tgt := 52) C dX12_aheadOf_25 rfl hv22 h (fun _ h => ?_) (fun _ h => ?_)
    · refine zP_iinc (pc := 52) C (x := x5) dX12_aheadOf_52 rfl (Nat.le_of_ble_eq_true rfl) rfl h fun v52 hv52 h => ?_
      show zP V X 6 0 0 55 [some (.ref (zad V 400)), some (.int (zI x1)), some (.int (zI x2)), some (.int (zI x3)), some (.int (zI x4)), some (.int (zI v52))] _ _
      refine zP_goto (pc := 55) (tgt := 6) C dX12_aheadOf_55 rfl ?_
      exact zP_mask [true, true, true, true, true, true] (hr6 hx1 hx2 hx3 hx4 hv52 h)
    · refine zP_aload_n (pc := 28) C (x := zad V 400) dX12_aheadOf_28 rfl rfl ?_
      refine zP_iload (pc := 29) C (x := zI x5) dX12_aheadOf_29 rfl ?_
      refine zP_iload_n (pc := 31) C (x := zI x2) dX12_aheadOf_31 rfl rfl ?_
      refine zP_iload_n (pc := 32) C (x := zI x3) dX12_aheadOf_32 rfl rfl ?_
      obtain ⟨v33, d1, hc, h⟩ := zc_h h
      refine zP_callV (pc := 33) (As := [.int (zI x5), .int (zI x2), .int (zI x3)]) (st := []) C m12_68 dX12_aheadOf_33 (s_X12 hT) rfl (t_X12_orderIn hT hx5 hx2 hx3 hc) ⟨Nat.le_of_ble_eq_true rfl, Nat.le_of_ble_eq_true rfl⟩ rfl (Nat.le_of_ble_eq_true rfl) ⟨Nat.zero_le _, Nat.zero_le _⟩ fun hw => ?_
      have hv33 := hw
      clear hc hw
      show zP V X 6 0 0 36 _ [.int (zI v33)] d1
      revert h
      generalize d1 = d
      intro h
      refine zP_aload_n (pc := 36) C (x := zad V 400) dX12_aheadOf_36 rfl rfl ?_
      refine zP_iload_n (pc := 37) C (x := zI x1) dX12_aheadOf_37 rfl rfl ?_
      refine zP_iload_n (pc := 38) C (x := zI x2) dX12_aheadOf_38 rfl rfl ?_
      refine zP_iload_n (pc := 39) C (x := zI x3) dX12_aheadOf_39 rfl rfl ?_
      obtain ⟨v40, d1, hc, h⟩ := zc_h h
      refine zP_callV (pc := 40) (As := [.int (zI x1), .int (zI x2), .int (zI x3)]) (st := [.int (zI v33)]) C m12_68 dX12_aheadOf_40 (s_X12 hT) rfl (t_X12_orderIn hT hx1 hx2 hx3 hc) ⟨Nat.le_of_ble_eq_true rfl, Nat.le_of_ble_eq_true rfl⟩ rfl (Nat.le_of_ble_eq_true rfl) ⟨Nat.zero_le _, Nat.zero_le _⟩ fun hw => ?_
      have hv40 := hw
      clear hc hw
      show zP V X 6 0 0 43 _ [.int (zI v40), .int (zI v33)] d1
      revert h
      generalize d1 = d
      intro h
      refine zP_icmp_ge (pc := 43) (tgt := 52) C dX12_aheadOf_43 rfl hv33 hv40 h (fun _ h => ?_) (fun _ h => ?_)
      · refine zP_iinc (pc := 52) C (x := x5) dX12_aheadOf_52 rfl (Nat.le_of_ble_eq_true rfl) rfl h fun v52 hv52 h => ?_
        show zP V X 6 0 0 55 [some (.ref (zad V 400)), some (.int (zI x1)), some (.int (zI x2)), some (.int (zI x3)), some (.int (zI x4)), some (.int (zI v52))] _ _
        refine zP_goto (pc := 55) (tgt := 6) C dX12_aheadOf_55 rfl ?_
        exact zP_mask [true, true, true, true, true, true] (hr6 hx1 hx2 hx3 hx4 hv52 h)
      · refine zP_iload (pc := 46) C (x := zI x4) dX12_aheadOf_46 rfl ?_
        refine zP_iconst (pc := 48) C dX12_aheadOf_48 ?_
        refine zP_iadd (pc := 49) C dX12_aheadOf_49 h fun v49 hv49 h => ?_
        refine zP_istore (pc := 50) C (L' := [some (.ref (zad V 400)), some (.int (zI x1)), some (.int (zI x2)), some (.int (zI x3)), some (.int (zI v49)), some (.int (zI x5))]) dX12_aheadOf_50 (Nat.le_of_ble_eq_true rfl) rfl rfl ?_
        refine zP_iinc (pc := 52) C (x := x5) dX12_aheadOf_52 rfl (Nat.le_of_ble_eq_true rfl) rfl h fun v52 hv52 h => ?_
        show zP V X 6 0 0 55 [some (.ref (zad V 400)), some (.int (zI x1)), some (.int (zI x2)), some (.int (zI x3)), some (.int (zI v49)), some (.int (zI v52))] _ _
        refine zP_goto (pc := 55) (tgt := 6) C dX12_aheadOf_55 rfl ?_
        exact zP_mask [true, true, true, true, true, true] (hr6 hx1 hx2 hx3 hv49 hv52 h)
def l_X12_aheadOf_6   : Nat → Int → Int → Int → Int → Int → zD → Option (Int × zD)
  | 0, _, _, _, _, _, _ => none
  | q + 1, x1, x2, x3, x4, x5, d => l_X12_aheadOf_6F   (l_X12_aheadOf_6   q) x1 x2 x3 x4 x5 d
theorem wl_X12_aheadOf_6 {V : zW} {X : zX}  (hT : zo12 V) (C : zOk V X cX12_aheadOf RX12 6 (zrm 2) (some .int)) {rv : Int} {dz : zD} (E : zEnd V X (some (.int (zI rv))) (zR rv) dz)  : ∀ (q : Nat) {x1 x2 x3 x4 x5 : Int} (hx1 : zR x1) (hx2 : zR x2) (hx3 : zR x3) (hx4 : zR x4) (hx5 : zR x5) {d : zD} (h : l_X12_aheadOf_6   q x1 x2 x3 x4 x5 d = some (rv, dz)), zP V X 6 0 0 6 [some (.ref (zad V 400)), some (.int (zI x1)), some (.int (zI x2)), some (.int (zI x3)), some (.int (zI x4)), some (.int (zI x5))] [] d := by
  intro q
  induction q with
  | zero => intro x1 x2 x3 x4 x5 hx1 hx2 hx3 hx4 hx5 d h; cases (show (none : Option (Int × zD)) = some (rv, dz) from h)
  | succ q ih =>
    intro x1 x2 x3 x4 x5 hx1 hx2 hx3 hx4 hx5 d h
    exact wl_X12_aheadOf_6F hT C E  (fun  hx1 hx2 hx3 hx4 hx5 h => ih hx1 hx2 hx3 hx4 hx5 h) hx1 hx2 hx3 hx4 hx5 h
def f_X12_aheadOf  (x1 x2 x3 : Int) (d : zD) : Option (Int × zD) :=
  l_X12_aheadOf_6   zF x1 x2 x3 0 0 d
theorem t_X12_aheadOf {V : zW}  (hT : zo12 V) {x1 x2 x3 : Int} (hx1 : zR x1) (hx2 : zR x2) (hx3 : zR x3) {d dz : zD} {rv : Int} (h : f_X12_aheadOf  x1 x2 x3 d = some (rv, dz)) : zMet V 2 yX12_aheadOf cX12_aheadOf 6 (some .int) [.ref (zad V 400), .int (zI x1), .int (zI x2), .int (zI x3)] d (some (.int (zI rv))) (zR rv) dz := by
  refine zMet_by RX12 pn12 rfl (Nat.le_of_ble_eq_true rfl) [some (.ref (zad V 400)), some (.int (zI x1)), some (.int (zI x2)), some (.int (zI x3)), none, none] rfl fun X C E => ?_
  refine zP_iconst (pc := 0) C dX12_aheadOf_0 ?_
  refine zP_istore (pc := 1) C (L' := [some (.ref (zad V 400)), some (.int (zI x1)), some (.int (zI x2)), some (.int (zI x3)), some (.int (zI 0)), none]) dX12_aheadOf_1 (Nat.le_of_ble_eq_true rfl) rfl rfl ?_
  refine zP_iconst (pc := 3) C dX12_aheadOf_3 ?_
  refine zP_istore (pc := 4) C (L' := [some (.ref (zad V 400)), some (.int (zI x1)), some (.int (zI x2)), some (.int (zI x3)), some (.int (zI 0)), some (.int (zI 0))]) dX12_aheadOf_4 (Nat.le_of_ble_eq_true rfl) rfl rfl ?_
  exact zP_mask [true, true, true, true, true, true] (wl_X12_aheadOf_6 hT C E  zF hx1 hx2 hx3 (zRk rfl) (zRk rfl) h)
def l_X12_rowAt_3F  (r3 : Int → Int → Int → Int → zD → Option (Int × zD)) (x1 x2 x3 x4 : Int) (d : zD) : Option (Int × zD) :=
  zg 800 2 <| zl (d 401 (2 : Int).toNat) fun v10 =>
  if (v10 : Int) ≤ x4 then (
    some ((-1), d))
  else (
    zc (f_X12_orderIn  x4 x1 x2 d) fun v19 d =>
    if (v19 : Int) ≤ 0 then (
      zl (zw (x4 + 1)) fun v40 =>
      r3 x1 x2 x3 v40 d)
    else (
      zc (f_X12_aheadOf  x4 x1 x2 d) fun v30 d =>
      if (v30 : Int) = x3 then (
        some (x4, d))
      else (
        zl (zw (x4 + 1)) fun v40 =>
        r3 x1 x2 x3 v40 d)))
theorem wl_X12_rowAt_3F {V : zW} {X : zX}  (hT : zo12 V) (C : zOk V X cX12_rowAt RX12 5 (zrm 3) (some .int)) {rv : Int} {dz : zD} (E : zEnd V X (some (.int (zI rv))) (zR rv) dz) {r3 : Int → Int → Int → Int → zD → Option (Int × zD)} (hr3 : ∀ {x1 x2 x3 x4 : Int} {d : zD}, zR x1 → zR x2 → zR x3 → zR x4 → r3 x1 x2 x3 x4 d = some (rv, dz) → zP V X 5 0 0 3 [some (.ref (zad V 400)), some (.int (zI x1)), some (.int (zI x2)), some (.int (zI x3)), some (.int (zI x4))] [] d) {x1 x2 x3 x4 : Int} (hx1 : zR x1) (hx2 : zR x2) (hx3 : zR x3) (hx4 : zR x4) {d : zD} (h : l_X12_rowAt_3F  r3 x1 x2 x3 x4 d = some (rv, dz)) : zP V X 5 0 0 3 [some (.ref (zad V 400)), some (.int (zI x1)), some (.int (zI x2)), some (.int (zI x3)), some (.int (zI x4))] [] d := by
  refine zP_iload (pc := 3) C (x := zI x4) dX12_rowAt_3 rfl ?_
  refine zP_aload_n (pc := 5) C (x := zad V 400) dX12_rowAt_5 rfl rfl ?_
  refine zP_getR (pc := 6) (a := 400) (t := 401) C g12_13 dX12_rowAt_6 (s_X12 hT) rfl ?_
  refine zP_iconst (pc := 9) C dX12_rowAt_9 ?_
  refine zP_iald (pc := 10) (a := 401) C dX12_rowAt_10 (s_X12_s hT) (zRk rfl) h fun v10 hv10 h => ?_
  refine zP_icmp_ge (pc := 11) (tgt := 46) C dX12_rowAt_11 rfl hx4 hv10 h (fun _ h => ?_) (fun _ h => ?_)
  · refine zP_iconst (pc := 46) C dX12_rowAt_46 ?_
    exact zP_iret (pc := 47) C E dX12_rowAt_47 (zRk rfl) h
  · refine zP_aload_n (pc := 14) C (x := zad V 400) dX12_rowAt_14 rfl rfl ?_
    refine zP_iload (pc := 15) C (x := zI x4) dX12_rowAt_15 rfl ?_
    refine zP_iload_n (pc := 17) C (x := zI x1) dX12_rowAt_17 rfl rfl ?_
    refine zP_iload_n (pc := 18) C (x := zI x2) dX12_rowAt_18 rfl rfl ?_
    obtain ⟨v19, d1, hc, h⟩ := zc_h h
    refine zP_callV (pc := 19) (As := [.int (zI x4), .int (zI x1), .int (zI x2)]) (st := []) C m12_68 dX12_rowAt_19 (s_X12 hT) rfl (t_X12_orderIn hT hx4 hx1 hx2 hc) ⟨Nat.le_of_ble_eq_true rfl, Nat.le_of_ble_eq_true rfl⟩ rfl (Nat.le_of_ble_eq_true rfl) ⟨Nat.zero_le _, Nat.zero_le _⟩ fun hw => ?_
    have hv19 := hw
    clear hc hw
    show zP V X 5 0 0 22 _ [.int (zI v19)] d1
    revert h
    generalize d1 = d
    intro h
    refine zP_if_le (pc := 22) (tgt := 40) C dX12_rowAt_22 rfl hv19 h (fun _ h => ?_) (fun _ h => ?_)
    · refine zP_iinc (pc := 40) C (x := x4) dX12_rowAt_40 rfl (Nat.le_of_ble_eq_true rfl) rfl h fun v40 hv40 h => ?_
      show zP V X 5 0 0 43 [some (.ref (zad V 400)), some (.int (zI x1)), some (.int (zI x2)), some (.int (zI x3)), some (.int (zI v40))] _ _
      refine zP_goto (pc := 43) (tgt := 3) C dX12_rowAt_43 rfl ?_
      exact zP_mask [true, true, true, true, true] (hr3 hx1 hx2 hx3 hv40 h)
    · refine zP_aload_n (pc := 25) C (x := zad V 400) dX12_rowAt_25 rfl rfl ?_
      refine zP_iload (pc := 26) C (x := zI x4) dX12_rowAt_26 rfl ?_
      refine zP_iload_n (pc := 28) C (x := zI x1) dX12_rowAt_28 rfl rfl ?_
      refine zP_iload_n (pc := 29) C (x := zI x2) dX12_rowAt_29 rfl rfl ?_
      obtain ⟨v30, d1, hc, h⟩ := zc_h h
      refine zP_callV (pc := 30) (As := [.int (zI x4), .int (zI x1), .int (zI x2)]) (st := []) C m12_72 dX12_rowAt_30 (s_X12 hT) rfl (t_X12_aheadOf hT hx4 hx1 hx2 hc) ⟨Nat.le_of_ble_eq_true rfl, Nat.le_of_ble_eq_true rfl⟩ rfl (Nat.le_of_ble_eq_true rfl) ⟨Nat.zero_le _, Nat.zero_le _⟩ fun hw => ?_
      have hv30 := hw
      clear hc hw
      show zP V X 5 0 0 33 _ [.int (zI v30)] d1
      revert h
      generalize d1 = d
      intro h
      refine zP_iload_n (pc := 33) C (x := zI x3) dX12_rowAt_33 rfl rfl ?_
      refine zP_icmp_ne (pc := 34) (tgt := 40) C dX12_rowAt_34 rfl hv30 hx3 h (fun _ h => ?_) (fun _ h => ?_)
      · refine zP_iinc (pc := 40) C (x := x4) dX12_rowAt_40 rfl (Nat.le_of_ble_eq_true rfl) rfl h fun v40 hv40 h => ?_
        show zP V X 5 0 0 43 [some (.ref (zad V 400)), some (.int (zI x1)), some (.int (zI x2)), some (.int (zI x3)), some (.int (zI v40))] _ _
        refine zP_goto (pc := 43) (tgt := 3) C dX12_rowAt_43 rfl ?_
        exact zP_mask [true, true, true, true, true] (hr3 hx1 hx2 hx3 hv40 h)
      · refine zP_iload (pc := 37) C (x := zI x4) dX12_rowAt_37 rfl ?_
        exact zP_iret (pc := 39) C E dX12_rowAt_39 hx4 h
def l_X12_rowAt_3   : Nat → Int → Int → Int → Int → zD → Option (Int × zD)
  | 0, _, _, _, _, _ => none
  | q + 1, x1, x2, x3, x4, d => l_X12_rowAt_3F   (l_X12_rowAt_3   q) x1 x2 x3 x4 d
theorem wl_X12_rowAt_3 {V : zW} {X : zX}  (hT : zo12 V) (C : zOk V X cX12_rowAt RX12 5 (zrm 3) (some .int)) {rv : Int} {dz : zD} (E : zEnd V X (some (.int (zI rv))) (zR rv) dz)  : ∀ (q : Nat) {x1 x2 x3 x4 : Int} (hx1 : zR x1) (hx2 : zR x2) (hx3 : zR x3) (hx4 : zR x4) {d : zD} (h : l_X12_rowAt_3   q x1 x2 x3 x4 d = some (rv, dz)), zP V X 5 0 0 3 [some (.ref (zad V 400)), some (.int (zI x1)), some (.int (zI x2)), some (.int (zI x3)), some (.int (zI x4))] [] d := by
  intro q
  induction q with
  | zero => intro x1 x2 x3 x4 hx1 hx2 hx3 hx4 d h; cases (show (none : Option (Int × zD)) = some (rv, dz) from h)
  | succ q ih =>
    intro x1 x2 x3 x4 hx1 hx2 hx3 hx4 d h
    exact wl_X12_rowAt_3F hT C E  (fun  hx1 hx2 hx3 hx4 h => ih hx1 hx2 hx3 hx4 h) hx1 hx2 hx3 hx4 h
def f_X12_rowAt  (x1 x2 x3 : Int) (d : zD) : Option (Int × zD) :=
  l_X12_rowAt_3   zF x1 x2 x3 0 d
theorem t_X12_rowAt {V : zW}  (hT : zo12 V) {x1 x2 x3 : Int} (hx1 : zR x1) (hx2 : zR x2) (hx3 : zR x3) {d dz : zD} {rv : Int} (h : f_X12_rowAt  x1 x2 x3 d = some (rv, dz)) : zMet V 3 yX12_rowAt cX12_rowAt 5 (some .int) [.ref (zad V 400), .int (zI x1), .int (zI x2), .int (zI x3)] d (some (.int (zI rv))) (zR rv) dz := by
  refine zMet_by RX12 pn12 rfl (Nat.le_of_ble_eq_true rfl) [some (.ref (zad V 400)), some (.int (zI x1)), some (.int (zI x2)), some (.int (zI x3)), none] rfl fun X C E => ?_
  refine zP_iconst (pc := 0) C dX12_rowAt_0 ?_
  refine zP_istore (pc := 1) C (L' := [some (.ref (zad V 400)), some (.int (zI x1)), some (.int (zI x2)), some (.int (zI x3)), some (.int (zI 0))]) dX12_rowAt_1 (Nat.le_of_ble_eq_true rfl) rfl rfl ?_
  exact zP_mask [true, true, true, true, true] (wl_X12_rowAt_3 hT C E  zF hx1 hx2 hx3 (zRk rfl) h)
def f_X12_delivers  (x1 x2 : Int) (d : zD) : Option (Int × zD) :=
  zc (f_X12_tells  x1 3 3 d) fun _ d =>
  zc (f_X12_tells  x1 7 x2 d) fun _ d =>
  some (0, d)
theorem t_X12_delivers {V : zW}  (hT : zo12 V) {x1 x2 : Int} (hx1 : zR x1) (hx2 : zR x2) {d dz : zD} {rv : Int} (h : f_X12_delivers  x1 x2 d = some (rv, dz)) : zMet V 1 yX12_delivers cX12_delivers 3 none [.ref (zad V 400), .int (zI x1), .int (zI x2)] d none (rv = 0) dz := by
  refine zMet_by RX12 pn12 rfl (Nat.le_of_ble_eq_true rfl) [some (.ref (zad V 400)), some (.int (zI x1)), some (.int (zI x2))] rfl fun X C E => ?_
  refine zP_aload_n (pc := 0) C (x := zad V 400) dX12_delivers_0 rfl rfl ?_
  refine zP_iload_n (pc := 1) C (x := zI x1) dX12_delivers_1 rfl rfl ?_
  refine zP_iconst (pc := 2) C dX12_delivers_2 ?_
  refine zP_iconst (pc := 3) C dX12_delivers_3 ?_
  obtain ⟨_, d1, hc, h⟩ := zc_h h
  refine zP_callV (pc := 4) (As := [.int (zI x1), .int (zI 3), .int (zI 3)]) (st := []) C m12_75 dX12_delivers_4 (s_X12 hT) rfl (t_X12_tells hT hx1 (zRk rfl) (zRk rfl) hc) ⟨Nat.le_of_ble_eq_true rfl, Nat.le_of_ble_eq_true rfl⟩ rfl (Nat.le_of_ble_eq_true rfl) ⟨Nat.zero_le _, Nat.zero_le _⟩ fun hw => ?_
  clear hc hw
  show zP V X 3 0 0 7 _ [] d1
  revert h
  generalize d1 = d
  intro h
  refine zP_aload_n (pc := 7) C (x := zad V 400) dX12_delivers_7 rfl rfl ?_
  refine zP_iload_n (pc := 8) C (x := zI x1) dX12_delivers_8 rfl rfl ?_
  refine zP_bipush (pc := 9) C dX12_delivers_9 rfl ?_
  refine zP_iload_n (pc := 11) C (x := zI x2) dX12_delivers_11 rfl rfl ?_
  obtain ⟨_, d1, hc, h⟩ := zc_h h
  refine zP_callV (pc := 12) (As := [.int (zI x1), .int (zI 7), .int (zI x2)]) (st := []) C m12_75 dX12_delivers_12 (s_X12 hT) rfl (t_X12_tells hT hx1 (zRk rfl) hx2 hc) ⟨Nat.le_of_ble_eq_true rfl, Nat.le_of_ble_eq_true rfl⟩ rfl (Nat.le_of_ble_eq_true rfl) ⟨Nat.zero_le _, Nat.zero_le _⟩ fun hw => ?_
  clear hc hw
  show zP V X 3 0 0 15 _ [] d1
  revert h
  generalize d1 = d
  intro h
  exact zP_vret (pc := 15) C E dX12_delivers_15 h
def l_X12_settles_8F  (r8 : Int → Int → zD → Option (Int × zD)) (x1 x2 : Int) (d : zD) : Option (Int × zD) :=
  if (x2 : Int) = (-1) then (
    some (0, d))
  else (
    zc (f_X12_of  x1 10 d) fun v17 d =>
    zc (f_X12_of  x1 2 d) fun v23 d =>
    zl (zw (v17 + v23)) fun v26 =>
    zg 800 3 <| zl (d 401 (3 : Int).toNat) fun v32 =>
    if (v32 : Int) < v26 then (
      some (0, d))
    else (
      zc (f_X12_of  x1 10 d) fun v44 d =>
      zc (f_X12_of  x1 2 d) fun v50 d =>
      zl (zw (v44 + v50)) fun v53 =>
      zc (f_X12_puts  x1 10 v53 d) fun _ d =>
      zc (f_X12_of  x1 10 d) fun v63 d =>
      zc (f_X12_delivers  x2 v63 d) fun _ d =>
      zc (f_X12_tells  x2 10 0 d) fun _ d =>
      zc (f_X12_rowAt  x1 2 0 d) fun v81 d =>
      r8 x1 v81 d))
theorem wl_X12_settles_8F {V : zW} {X : zX}  (hT : zo12 V) (C : zOk V X cX12_settles RX12 3 (zrm 4) none) {rv : Int} {dz : zD} (E : zEnd V X none (rv = 0) dz) {r8 : Int → Int → zD → Option (Int × zD)} (hr8 : ∀ {x1 x2 : Int} {d : zD}, zR x1 → zR x2 → r8 x1 x2 d = some (rv, dz) → zP V X 3 0 0 8 [some (.ref (zad V 400)), some (.int (zI x1)), some (.int (zI x2))] [] d) {x1 x2 : Int} (hx1 : zR x1) (hx2 : zR x2) {d : zD} (h : l_X12_settles_8F  r8 x1 x2 d = some (rv, dz)) : zP V X 3 0 0 8 [some (.ref (zad V 400)), some (.int (zI x1)), some (.int (zI x2))] [] d := by
  refine zP_iload_n (pc := 8) C (x := zI x2) dX12_settles_8 rfl rfl ?_
  refine zP_iconst (pc := 9) C dX12_settles_9 ?_
  refine zP_icmp_eq (pc := 10) (tgt := 88) C dX12_settles_10 rfl hx2 (zRk rfl) h (fun _ h => ?_) (fun _ h => ?_)
  · exact zP_vret (pc := 88) C E dX12_settles_88 h
  · refine zP_aload_n (pc := 13) C (x := zad V 400) dX12_settles_13 rfl rfl ?_
    refine zP_iload_n (pc := 14) C (x := zI x1) dX12_settles_14 rfl rfl ?_
    refine zP_bipush (pc := 15) C dX12_settles_15 rfl ?_
    obtain ⟨v17, d1, hc, h⟩ := zc_h h
    refine zP_callV (pc := 17) (As := [.int (zI x1), .int (zI 10)]) (st := []) C m12_57 dX12_settles_17 (s_X12 hT) rfl (t_X12_of hT hx1 (zRk rfl) hc) ⟨Nat.le_of_ble_eq_true rfl, Nat.le_of_ble_eq_true rfl⟩ rfl (Nat.le_of_ble_eq_true rfl) ⟨Nat.zero_le _, Nat.zero_le _⟩ fun hw => ?_
    have hv17 := hw
    clear hc hw
    show zP V X 3 0 0 20 _ [.int (zI v17)] d1
    revert h
    generalize d1 = d
    intro h
    refine zP_aload_n (pc := 20) C (x := zad V 400) dX12_settles_20 rfl rfl ?_
    refine zP_iload_n (pc := 21) C (x := zI x1) dX12_settles_21 rfl rfl ?_
    refine zP_iconst (pc := 22) C dX12_settles_22 ?_
    obtain ⟨v23, d1, hc, h⟩ := zc_h h
    refine zP_callV (pc := 23) (As := [.int (zI x1), .int (zI 2)]) (st := [.int (zI v17)]) C m12_57 dX12_settles_23 (s_X12 hT) rfl (t_X12_of hT hx1 (zRk rfl) hc) ⟨Nat.le_of_ble_eq_true rfl, Nat.le_of_ble_eq_true rfl⟩ rfl (Nat.le_of_ble_eq_true rfl) ⟨Nat.zero_le _, Nat.zero_le _⟩ fun hw => ?_
    have hv23 := hw
    clear hc hw
    show zP V X 3 0 0 26 _ [.int (zI v23), .int (zI v17)] d1
    revert h
    generalize d1 = d
    intro h
    refine zP_iadd (pc := 26) C dX12_settles_26 h fun v26 hv26 h => ?_
    refine zP_aload_n (pc := 27) C (x := zad V 400) dX12_settles_27 rfl rfl ?_
    refine zP_getR (pc := 28) (a := 400) (t := 401) C g12_13 dX12_settles_28 (s_X12 hT) rfl ?_
    refine zP_iconst (pc := 31) C dX12_settles_31 ?_
    refine zP_iald (pc := 32) (a := 401) C dX12_settles_32 (s_X12_s hT) (zRk rfl) h fun v32 hv32 h => ?_
    refine zP_icmp_gt (pc := 33) (tgt := 88) C dX12_settles_33 rfl hv26 hv32 h (fun _ h => ?_) (fun _ h => ?_)
    · exact zP_vret (pc := 88) C E dX12_settles_88 h
    · refine zP_aload_n (pc := 36) C (x := zad V 400) dX12_settles_36 rfl rfl ?_
      refine zP_iload_n (pc := 37) C (x := zI x1) dX12_settles_37 rfl rfl ?_
      refine zP_bipush (pc := 38) C dX12_settles_38 rfl ?_
      refine zP_aload_n (pc := 40) C (x := zad V 400) dX12_settles_40 rfl rfl ?_
      refine zP_iload_n (pc := 41) C (x := zI x1) dX12_settles_41 rfl rfl ?_
      refine zP_bipush (pc := 42) C dX12_settles_42 rfl ?_
      obtain ⟨v44, d1, hc, h⟩ := zc_h h
      refine zP_callV (pc := 44) (As := [.int (zI x1), .int (zI 10)]) (st := [.int (zI 10), .int (zI x1), .ref (zad V 400)]) C m12_57 dX12_settles_44 (s_X12 hT) rfl (t_X12_of hT hx1 (zRk rfl) hc) ⟨Nat.le_of_ble_eq_true rfl, Nat.le_of_ble_eq_true rfl⟩ rfl (Nat.le_of_ble_eq_true rfl) ⟨Nat.zero_le _, Nat.zero_le _⟩ fun hw => ?_
      have hv44 := hw
      clear hc hw
      show zP V X 3 0 0 47 _ [.int (zI v44), .int (zI 10), .int (zI x1), .ref (zad V 400)] d1
      revert h
      generalize d1 = d
      intro h
      refine zP_aload_n (pc := 47) C (x := zad V 400) dX12_settles_47 rfl rfl ?_
      refine zP_iload_n (pc := 48) C (x := zI x1) dX12_settles_48 rfl rfl ?_
      refine zP_iconst (pc := 49) C dX12_settles_49 ?_
      obtain ⟨v50, d1, hc, h⟩ := zc_h h
      refine zP_callV (pc := 50) (As := [.int (zI x1), .int (zI 2)]) (st := [.int (zI v44), .int (zI 10), .int (zI x1), .ref (zad V 400)]) C m12_57 dX12_settles_50 (s_X12 hT) rfl (t_X12_of hT hx1 (zRk rfl) hc) ⟨Nat.le_of_ble_eq_true rfl, Nat.le_of_ble_eq_true rfl⟩ rfl (Nat.le_of_ble_eq_true rfl) ⟨Nat.zero_le _, Nat.zero_le _⟩ fun hw => ?_
      have hv50 := hw
      clear hc hw
      show zP V X 3 0 0 53 _ [.int (zI v50), .int (zI v44), .int (zI 10), .int (zI x1), .ref (zad V 400)] d1
      revert h
      generalize d1 = d
      intro h
      refine zP_iadd (pc := 53) C dX12_settles_53 h fun v53 hv53 h => ?_
      obtain ⟨_, d1, hc, h⟩ := zc_h h
      refine zP_callV (pc := 54) (As := [.int (zI x1), .int (zI 10), .int (zI v53)]) (st := []) C m12_61 dX12_settles_54 (s_X12 hT) rfl (t_X12_puts hT hx1 (zRk rfl) hv53 hc) ⟨Nat.le_of_ble_eq_true rfl, Nat.le_of_ble_eq_true rfl⟩ rfl (Nat.le_of_ble_eq_true rfl) ⟨Nat.zero_le _, Nat.zero_le _⟩ fun hw => ?_
      clear hc hw
      show zP V X 3 0 0 57 _ [] d1
      revert h
      generalize d1 = d
      intro h
      refine zP_aload_n (pc := 57) C (x := zad V 400) dX12_settles_57 rfl rfl ?_
      refine zP_iload_n (pc := 58) C (x := zI x2) dX12_settles_58 rfl rfl ?_
      refine zP_aload_n (pc := 59) C (x := zad V 400) dX12_settles_59 rfl rfl ?_
      refine zP_iload_n (pc := 60) C (x := zI x1) dX12_settles_60 rfl rfl ?_
      refine zP_bipush (pc := 61) C dX12_settles_61 rfl ?_
      obtain ⟨v63, d1, hc, h⟩ := zc_h h
      refine zP_callV (pc := 63) (As := [.int (zI x1), .int (zI 10)]) (st := [.int (zI x2), .ref (zad V 400)]) C m12_57 dX12_settles_63 (s_X12 hT) rfl (t_X12_of hT hx1 (zRk rfl) hc) ⟨Nat.le_of_ble_eq_true rfl, Nat.le_of_ble_eq_true rfl⟩ rfl (Nat.le_of_ble_eq_true rfl) ⟨Nat.zero_le _, Nat.zero_le _⟩ fun hw => ?_
      have hv63 := hw
      clear hc hw
      show zP V X 3 0 0 66 _ [.int (zI v63), .int (zI x2), .ref (zad V 400)] d1
      revert h
      generalize d1 = d
      intro h
      obtain ⟨_, d1, hc, h⟩ := zc_h h
      refine zP_callV (pc := 66) (As := [.int (zI x2), .int (zI v63)]) (st := []) C m12_81 dX12_settles_66 (s_X12 hT) rfl (t_X12_delivers hT hx2 hv63 hc) ⟨Nat.le_of_ble_eq_true rfl, Nat.le_of_ble_eq_true rfl⟩ rfl (Nat.le_of_ble_eq_true rfl) ⟨Nat.zero_le _, Nat.zero_le _⟩ fun hw => ?_
      clear hc hw
      show zP V X 3 0 0 69 _ [] d1
      revert h
      generalize d1 = d
      intro h
      refine zP_aload_n (pc := 69) C (x := zad V 400) dX12_settles_69 rfl rfl ?_
      refine zP_iload_n (pc := 70) C (x := zI x2) dX12_settles_70 rfl rfl ?_
      refine zP_bipush (pc := 71) C dX12_settles_71 rfl ?_
      refine zP_iconst (pc := 73) C dX12_settles_73 ?_
      obtain ⟨_, d1, hc, h⟩ := zc_h h
      refine zP_callV (pc := 74) (As := [.int (zI x2), .int (zI 10), .int (zI 0)]) (st := []) C m12_75 dX12_settles_74 (s_X12 hT) rfl (t_X12_tells hT hx2 (zRk rfl) (zRk rfl) hc) ⟨Nat.le_of_ble_eq_true rfl, Nat.le_of_ble_eq_true rfl⟩ rfl (Nat.le_of_ble_eq_true rfl) ⟨Nat.zero_le _, Nat.zero_le _⟩ fun hw => ?_
      clear hc hw
      show zP V X 3 0 0 77 _ [] d1
      revert h
      generalize d1 = d
      intro h
      refine zP_aload_n (pc := 77) C (x := zad V 400) dX12_settles_77 rfl rfl ?_
      refine zP_iload_n (pc := 78) C (x := zI x1) dX12_settles_78 rfl rfl ?_
      refine zP_iconst (pc := 79) C dX12_settles_79 ?_
      refine zP_iconst (pc := 80) C dX12_settles_80 ?_
      obtain ⟨v81, d1, hc, h⟩ := zc_h h
      refine zP_callV (pc := 81) (As := [.int (zI x1), .int (zI 2), .int (zI 0)]) (st := []) C m12_78 dX12_settles_81 (s_X12 hT) rfl (t_X12_rowAt hT hx1 (zRk rfl) (zRk rfl) hc) ⟨Nat.le_of_ble_eq_true rfl, Nat.le_of_ble_eq_true rfl⟩ rfl (Nat.le_of_ble_eq_true rfl) ⟨Nat.zero_le _, Nat.zero_le _⟩ fun hw => ?_
      have hv81 := hw
      clear hc hw
      show zP V X 3 0 0 84 _ [.int (zI v81)] d1
      revert h
      generalize d1 = d
      intro h
      refine zP_istore_n (pc := 84) C (L' := [some (.ref (zad V 400)), some (.int (zI x1)), some (.int (zI v81))]) dX12_settles_84 rfl (Nat.le_of_ble_eq_true rfl) rfl rfl ?_
      refine zP_goto (pc := 85) (tgt := 8) C dX12_settles_85 rfl ?_
      exact zP_mask [true, true, true] (hr8 hx1 hv81 h)
def l_X12_settles_8   : Nat → Int → Int → zD → Option (Int × zD)
  | 0, _, _, _ => none
  | q + 1, x1, x2, d => l_X12_settles_8F   (l_X12_settles_8   q) x1 x2 d
theorem wl_X12_settles_8 {V : zW} {X : zX}  (hT : zo12 V) (C : zOk V X cX12_settles RX12 3 (zrm 4) none) {rv : Int} {dz : zD} (E : zEnd V X none (rv = 0) dz)  : ∀ (q : Nat) {x1 x2 : Int} (hx1 : zR x1) (hx2 : zR x2) {d : zD} (h : l_X12_settles_8   q x1 x2 d = some (rv, dz)), zP V X 3 0 0 8 [some (.ref (zad V 400)), some (.int (zI x1)), some (.int (zI x2))] [] d := by
  intro q
  induction q with
  | zero => intro x1 x2 hx1 hx2 d h; cases (show (none : Option (Int × zD)) = some (rv, dz) from h)
  | succ q ih =>
    intro x1 x2 hx1 hx2 d h
    exact wl_X12_settles_8F hT C E  (fun  hx1 hx2 h => ih hx1 hx2 h) hx1 hx2 h
def f_X12_settles  (x1 : Int) (d : zD) : Option (Int × zD) :=
  zc (f_X12_rowAt  x1 2 0 d) fun v4 d =>
  l_X12_settles_8   zF x1 v4 d
theorem t_X12_settles {V : zW}  (hT : zo12 V) {x1 : Int} (hx1 : zR x1) {d dz : zD} {rv : Int} (h : f_X12_settles  x1 d = some (rv, dz)) : zMet V 4 yX12_settles cX12_settles 3 none [.ref (zad V 400), .int (zI x1)] d none (rv = 0) dz := by
  refine zMet_by RX12 pn12 rfl (Nat.le_of_ble_eq_true rfl) [some (.ref (zad V 400)), some (.int (zI x1)), none] rfl fun X C E => ?_
  refine zP_aload_n (pc := 0) C (x := zad V 400) dX12_settles_0 rfl rfl ?_
  refine zP_iload_n (pc := 1) C (x := zI x1) dX12_settles_1 rfl rfl ?_
  refine zP_iconst (pc := 2) C dX12_settles_2 ?_
  refine zP_iconst (pc := 3) C dX12_settles_3 ?_
  obtain ⟨v4, d1, hc, h⟩ := zc_h h
  refine zP_callV (pc := 4) (As := [.int (zI x1), .int (zI 2), .int (zI 0)]) (st := []) C m12_78 dX12_settles_4 (s_X12 hT) rfl (t_X12_rowAt hT hx1 (zRk rfl) (zRk rfl) hc) ⟨Nat.le_of_ble_eq_true rfl, Nat.le_of_ble_eq_true rfl⟩ rfl (Nat.le_of_ble_eq_true rfl) ⟨Nat.zero_le _, Nat.zero_le _⟩ fun hw => ?_
  have hv4 := hw
  clear hc hw
  show zP V X 3 0 0 7 _ [.int (zI v4)] d1
  revert h
  generalize d1 = d
  intro h
  refine zP_istore_n (pc := 7) C (L' := [some (.ref (zad V 400)), some (.int (zI x1)), some (.int (zI v4))]) dX12_settles_7 rfl (Nat.le_of_ble_eq_true rfl) rfl rfl ?_
  exact zP_mask [true, true, true] (wl_X12_settles_8 hT C E  zF hx1 hv4 h)
def l_X12_passes_16F  (r16 : Int → zD → Option (Int × zD)) (x2 : Int) (d : zD) : Option (Int × zD) :=
  zc (f_X12_many   d) fun v18 d =>
  if (v18 : Int) ≤ x2 then (
    some (0, d))
  else (
    zc (f_X12_settles  x2 d) fun _ d =>
    zl (zw (x2 + 1)) fun v29 =>
    r16 v29 d)
theorem wl_X12_passes_16F {V : zW} {X : zX}  (hT : zo12 V) (C : zOk V X cX12_passes RX12 3 (zrm 5) none) {rv : Int} {dz : zD} (E : zEnd V X none (rv = 0) dz) {r16 : Int → zD → Option (Int × zD)} (hr16 : ∀ {x2 : Int} {d : zD}, zR x2 → r16 x2 d = some (rv, dz) → zP V X 3 0 0 16 [some (.ref (zad V 400)), none, some (.int (zI x2))] [] d) {x2 : Int} (hx2 : zR x2) {d : zD} (h : l_X12_passes_16F  r16 x2 d = some (rv, dz)) : zP V X 3 0 0 16 [some (.ref (zad V 400)), none, some (.int (zI x2))] [] d := by
  refine zP_iload_n (pc := 16) C (x := zI x2) dX12_passes_16 rfl rfl ?_
  refine zP_aload_n (pc := 17) C (x := zad V 400) dX12_passes_17 rfl rfl ?_
  obtain ⟨v18, d1, hc, h⟩ := zc_h h
  refine zP_callV (pc := 18) (As := []) (st := [.int (zI x2)]) C m12_49 dX12_passes_18 (s_X12 hT) rfl (t_X12_many hT  hc) ⟨Nat.le_of_ble_eq_true rfl, Nat.le_of_ble_eq_true rfl⟩ rfl (Nat.le_of_ble_eq_true rfl) ⟨Nat.zero_le _, Nat.zero_le _⟩ fun hw => ?_
  have hv18 := hw
  clear hc hw
  show zP V X 3 0 0 21 _ [.int (zI v18), .int (zI x2)] d1
  revert h
  generalize d1 = d
  intro h
  refine zP_icmp_ge (pc := 21) (tgt := 35) C dX12_passes_21 rfl hx2 hv18 h (fun _ h => ?_) (fun _ h => ?_)
  · exact zP_vret (pc := 35) C E dX12_passes_35 h
  · refine zP_aload_n (pc := 24) C (x := zad V 400) dX12_passes_24 rfl rfl ?_
    refine zP_iload_n (pc := 25) C (x := zI x2) dX12_passes_25 rfl rfl ?_
    obtain ⟨_, d1, hc, h⟩ := zc_h h
    refine zP_callV (pc := 26) (As := [.int (zI x2)]) (st := []) C m12_85 dX12_passes_26 (s_X12 hT) rfl (t_X12_settles hT hx2 hc) ⟨Nat.le_of_ble_eq_true rfl, Nat.le_of_ble_eq_true rfl⟩ rfl (Nat.le_of_ble_eq_true rfl) ⟨Nat.zero_le _, Nat.zero_le _⟩ fun hw => ?_
    clear hc hw
    show zP V X 3 0 0 29 _ [] d1
    revert h
    generalize d1 = d
    intro h
    refine zP_iinc (pc := 29) C (x := x2) dX12_passes_29 rfl (Nat.le_of_ble_eq_true rfl) rfl h fun v29 hv29 h => ?_
    show zP V X 3 0 0 32 [some (.ref (zad V 400)), none, some (.int (zI v29))] _ _
    refine zP_goto (pc := 32) (tgt := 16) C dX12_passes_32 rfl ?_
    exact zP_mask [true, false, true] (hr16 hv29 h)
def l_X12_passes_16   : Nat → Int → zD → Option (Int × zD)
  | 0, _, _ => none
  | q + 1, x2, d => l_X12_passes_16F   (l_X12_passes_16   q) x2 d
theorem wl_X12_passes_16 {V : zW} {X : zX}  (hT : zo12 V) (C : zOk V X cX12_passes RX12 3 (zrm 5) none) {rv : Int} {dz : zD} (E : zEnd V X none (rv = 0) dz)  : ∀ (q : Nat) {x2 : Int} (hx2 : zR x2) {d : zD} (h : l_X12_passes_16   q x2 d = some (rv, dz)), zP V X 3 0 0 16 [some (.ref (zad V 400)), none, some (.int (zI x2))] [] d := by
  intro q
  induction q with
  | zero => intro x2 hx2 d h; cases (show (none : Option (Int × zD)) = some (rv, dz) from h)
  | succ q ih =>
    intro x2 hx2 d h
    exact wl_X12_passes_16F hT C E  (fun  hx2 h => ih hx2 h) hx2 h
def f_X12_passes  (x1 : Int) (d : zD) : Option (Int × zD) :=
  zg 800 3 <| zl (d 401 (3 : Int).toNat) fun v10 =>
  zl (zw (v10 + x1)) fun v12 =>
  zg 800 3 <| zl (zu d 401 (3 : Int).toNat v12) fun d =>
  l_X12_passes_16   zF 0 d
theorem t_X12_passes {V : zW}  (hT : zo12 V) {x1 : Int} (hx1 : zR x1) {d dz : zD} {rv : Int} (h : f_X12_passes  x1 d = some (rv, dz)) : zMet V 5 yX12_passes cX12_passes 3 none [.ref (zad V 400), .int (zI x1)] d none (rv = 0) dz := by
  refine zMet_by RX12 pn12 rfl (Nat.le_of_ble_eq_true rfl) [some (.ref (zad V 400)), some (.int (zI x1)), none] rfl fun X C E => ?_
  refine zP_aload_n (pc := 0) C (x := zad V 400) dX12_passes_0 rfl rfl ?_
  refine zP_getR (pc := 1) (a := 400) (t := 401) C g12_13 dX12_passes_1 (s_X12 hT) rfl ?_
  refine zP_iconst (pc := 4) C dX12_passes_4 ?_
  refine zP_aload_n (pc := 5) C (x := zad V 400) dX12_passes_5 rfl rfl ?_
  refine zP_getR (pc := 6) (a := 400) (t := 401) C g12_13 dX12_passes_6 (s_X12 hT) rfl ?_
  refine zP_iconst (pc := 9) C dX12_passes_9 ?_
  refine zP_iald (pc := 10) (a := 401) C dX12_passes_10 (s_X12_s hT) (zRk rfl) h fun v10 hv10 h => ?_
  refine zP_iload_n (pc := 11) C (x := zI x1) dX12_passes_11 rfl rfl ?_
  refine zP_iadd (pc := 12) C dX12_passes_12 h fun v12 hv12 h => ?_
  refine zP_iast (pc := 13) (a := 401) C dX12_passes_13 (s_X12_s hT) (zRk rfl) hv12 h fun d h => ?_
  refine zP_iconst (pc := 14) C dX12_passes_14 ?_
  refine zP_istore_n (pc := 15) C (L' := [some (.ref (zad V 400)), some (.int (zI x1)), some (.int (zI 0))]) dX12_passes_15 rfl (Nat.le_of_ble_eq_true rfl) rfl rfl ?_
  exact zP_mask [true, false, true] (wl_X12_passes_16 hT C E  zF (zRk rfl) h)
def j_X12_sends_55   (s0 : Int) (d : zD) : Option (Int × zD) :=
  if (s0 : Int) = 0 then (
    zz s0 <|
    some (s0, d))
  else (
    zc (f_X12_counts  1 d) fun _ d =>
    zz s0 <|
    some (s0, d))
theorem wj_X12_sends_55 {V : zW} {X : zX}  (hT : zo12 V) (C : zOk V X cX12_sends RX12 3 (zrm 6) (some .boolean)) {rv : Int} {dz : zD} (E : zEnd V X (some (.int (zI rv))) (rv = 0 ∨ rv = 1) dz)  {s0 : Int} (hs0 : zR s0) {d : zD} (h : j_X12_sends_55   s0 d = some (rv, dz)) : zP V X 3 0 0 55 [some (.ref (zad V 400)), none, none] [.int (zI s0)] d := by
  refine zP_istore_n (pc := 55) C (L' := [some (.ref (zad V 400)), none, some (.int (zI s0))]) dX12_sends_55 rfl (Nat.le_of_ble_eq_true rfl) rfl rfl ?_
  refine zP_iload_n (pc := 56) C (x := zI s0) dX12_sends_56 rfl rfl ?_
  refine zP_if_eq (pc := 57) (tgt := 65) C dX12_sends_57 rfl hs0 h (fun _ h => ?_) (fun _ h => ?_)
  · refine zP_iload_n (pc := 65) C (x := zI s0) dX12_sends_65 rfl rfl ?_
    obtain ⟨hz66, h⟩ := zz_h h
    exact zP_zret (pc := 66) C E dX12_sends_66 hz66 h
  · refine zP_aload_n (pc := 60) C (x := zad V 400) dX12_sends_60 rfl rfl ?_
    refine zP_iconst (pc := 61) C dX12_sends_61 ?_
    obtain ⟨_, d1, hc, h⟩ := zc_h h
    refine zP_callV (pc := 62) (As := [.int (zI 1)]) (st := []) C m12_89 dX12_sends_62 (s_X12 hT) rfl (t_X12_counts hT (zRk rfl) hc) ⟨Nat.le_of_ble_eq_true rfl, Nat.le_of_ble_eq_true rfl⟩ rfl (Nat.le_of_ble_eq_true rfl) ⟨Nat.zero_le _, Nat.zero_le _⟩ fun hw => ?_
    clear hc hw
    show zP V X 3 0 0 65 _ [] d1
    revert h
    generalize d1 = d
    intro h
    refine zP_iload_n (pc := 65) C (x := zI s0) dX12_sends_65 rfl rfl ?_
    obtain ⟨hz66, h⟩ := zz_h h
    exact zP_zret (pc := 66) C E dX12_sends_66 hz66 h
def f_X12_sends  (x1 : Int) (d : zD) : Option (Int × zD) :=
  zc (f_X12_counts  0 d) fun _ d =>
  zc (f_X12_passes  x1 d) fun _ d =>
  zg 800 5 <| zl (d 401 (5 : Int).toNat) fun v22 =>
  zl (zw (75 * v22)) fun v23 =>
  zl (zw (v23 + 74)) fun v26 =>
  zn 65537 <| zl (zrem v26 65537) fun v29 =>
  zg 800 5 <| zl (zu d 401 (5 : Int).toNat v29) fun d =>
  zg 800 5 <| zl (d 401 (5 : Int).toNat) fun v36 =>
  zn 100 <| zl (zrem v36 100) fun v39 =>
  zg 800 11 <| zl (d 401 (11 : Int).toNat) fun v46 =>
  if (v46 : Int) ≤ v39 then (
    j_X12_sends_55   0 d)
  else (
    j_X12_sends_55   1 d)
theorem t_X12_sends {V : zW}  (hT : zo12 V) {x1 : Int} (hx1 : zR x1) {d dz : zD} {rv : Int} (h : f_X12_sends  x1 d = some (rv, dz)) : zMet V 6 yX12_sends cX12_sends 3 (some .boolean) [.ref (zad V 400), .int (zI x1)] d (some (.int (zI rv))) (rv = 0 ∨ rv = 1) dz := by
  refine zMet_by RX12 pn12 rfl (Nat.le_of_ble_eq_true rfl) [some (.ref (zad V 400)), some (.int (zI x1)), none] rfl fun X C E => ?_
  refine zP_aload_n (pc := 0) C (x := zad V 400) dX12_sends_0 rfl rfl ?_
  refine zP_iconst (pc := 1) C dX12_sends_1 ?_
  obtain ⟨_, d1, hc, h⟩ := zc_h h
  refine zP_callV (pc := 2) (As := [.int (zI 0)]) (st := []) C m12_89 dX12_sends_2 (s_X12 hT) rfl (t_X12_counts hT (zRk rfl) hc) ⟨Nat.le_of_ble_eq_true rfl, Nat.le_of_ble_eq_true rfl⟩ rfl (Nat.le_of_ble_eq_true rfl) ⟨Nat.zero_le _, Nat.zero_le _⟩ fun hw => ?_
  clear hc hw
  show zP V X 3 0 0 5 _ [] d1
  revert h
  generalize d1 = d
  intro h
  refine zP_aload_n (pc := 5) C (x := zad V 400) dX12_sends_5 rfl rfl ?_
  refine zP_iload_n (pc := 6) C (x := zI x1) dX12_sends_6 rfl rfl ?_
  obtain ⟨_, d1, hc, h⟩ := zc_h h
  refine zP_callV (pc := 7) (As := [.int (zI x1)]) (st := []) C m12_92 dX12_sends_7 (s_X12 hT) rfl (t_X12_passes hT hx1 hc) ⟨Nat.le_of_ble_eq_true rfl, Nat.le_of_ble_eq_true rfl⟩ rfl (Nat.le_of_ble_eq_true rfl) ⟨Nat.zero_le _, Nat.zero_le _⟩ fun hw => ?_
  clear hc hw
  show zP V X 3 0 0 10 _ [] d1
  revert h
  generalize d1 = d
  intro h
  refine zP_aload_n (pc := 10) C (x := zad V 400) dX12_sends_10 rfl rfl ?_
  refine zP_getR (pc := 11) (a := 400) (t := 401) C g12_13 dX12_sends_11 (s_X12 hT) rfl ?_
  refine zP_iconst (pc := 14) C dX12_sends_14 ?_
  refine zP_bipush (pc := 15) C dX12_sends_15 rfl ?_
  refine zP_aload_n (pc := 17) C (x := zad V 400) dX12_sends_17 rfl rfl ?_
  refine zP_getR (pc := 18) (a := 400) (t := 401) C g12_13 dX12_sends_18 (s_X12 hT) rfl ?_
  refine zP_iconst (pc := 21) C dX12_sends_21 ?_
  refine zP_iald (pc := 22) (a := 401) C dX12_sends_22 (s_X12_s hT) (zRk rfl) h fun v22 hv22 h => ?_
  refine zP_imul (pc := 23) C dX12_sends_23 h fun v23 hv23 h => ?_
  refine zP_bipush (pc := 24) C dX12_sends_24 rfl ?_
  refine zP_iadd (pc := 26) C dX12_sends_26 h fun v26 hv26 h => ?_
  refine zP_ldc (pc := 27) C dX12_sends_27 q1781 ?_
  refine zP_irem (pc := 29) C dX12_sends_29 (zRk rfl) h fun v29 hv29 h => ?_
  refine zP_iast (pc := 30) (a := 401) C dX12_sends_30 (s_X12_s hT) (zRk rfl) hv29 h fun d h => ?_
  refine zP_aload_n (pc := 31) C (x := zad V 400) dX12_sends_31 rfl rfl ?_
  refine zP_getR (pc := 32) (a := 400) (t := 401) C g12_13 dX12_sends_32 (s_X12 hT) rfl ?_
  refine zP_iconst (pc := 35) C dX12_sends_35 ?_
  refine zP_iald (pc := 36) (a := 401) C dX12_sends_36 (s_X12_s hT) (zRk rfl) h fun v36 hv36 h => ?_
  refine zP_bipush (pc := 37) C dX12_sends_37 rfl ?_
  refine zP_irem (pc := 39) C dX12_sends_39 (zRk rfl) h fun v39 hv39 h => ?_
  refine zP_aload_n (pc := 40) C (x := zad V 400) dX12_sends_40 rfl rfl ?_
  refine zP_getR (pc := 41) (a := 400) (t := 401) C g12_13 dX12_sends_41 (s_X12 hT) rfl ?_
  refine zP_bipush (pc := 44) C dX12_sends_44 rfl ?_
  refine zP_iald (pc := 46) (a := 401) C dX12_sends_46 (s_X12_s hT) (zRk rfl) h fun v46 hv46 h => ?_
  refine zP_icmp_ge (pc := 47) (tgt := 54) C dX12_sends_47 rfl hv39 hv46 h (fun _ h => ?_) (fun _ h => ?_)
  · refine zP_iconst (pc := 54) C dX12_sends_54 ?_
    exact zP_mask [true, false, false] (wj_X12_sends_55 hT C E  (zRk rfl) h)
  · refine zP_iconst (pc := 50) C dX12_sends_50 ?_
    refine zP_goto (pc := 51) (tgt := 55) C dX12_sends_51 rfl ?_
    exact zP_mask [true, false, false] (wj_X12_sends_55 hT C E  (zRk rfl) h)
def f_X12_refuses  (d : zD) : Option (Int × zD) :=
  zc (f_X12_sends  1 d) fun v2 d =>
  zc (f_X12_counts  10 d) fun _ d =>
  some (0, d)
theorem t_X12_refuses {V : zW}  (hT : zo12 V)   {d dz : zD} {rv : Int} (h : f_X12_refuses   d = some (rv, dz)) : zMet V 7 yX12_refuses cX12_refuses 2 none [.ref (zad V 400)] d none (rv = 0) dz := by
  refine zMet_by RX12 pn12 rfl (Nat.le_of_ble_eq_true rfl) [some (.ref (zad V 400)), none] rfl fun X C E => ?_
  refine zP_aload_n (pc := 0) C (x := zad V 400) dX12_refuses_0 rfl rfl ?_
  refine zP_iconst (pc := 1) C dX12_refuses_1 ?_
  obtain ⟨v2, d1, hc, h⟩ := zc_h h
  refine zP_callV (pc := 2) (As := [.int (zI 1)]) (st := []) C m12_96 dX12_refuses_2 (s_X12 hT) rfl (t_X12_sends hT (zRk rfl) hc) ⟨Nat.le_of_ble_eq_true rfl, Nat.le_of_ble_eq_true rfl⟩ rfl (Nat.le_of_ble_eq_true rfl) ⟨Nat.zero_le _, Nat.zero_le _⟩ fun hw => ?_
  have hbv2 := hw
  have hv2 := z01 hw
  clear hc hw
  show zP V X 2 0 0 5 _ [.int (zI v2)] d1
  revert h
  generalize d1 = d
  intro h
  refine zP_istore_n (pc := 5) C (L' := [some (.ref (zad V 400)), some (.int (zI v2))]) dX12_refuses_5 rfl (Nat.le_of_ble_eq_true rfl) rfl rfl ?_
  refine zP_aload_n (pc := 6) C (x := zad V 400) dX12_refuses_6 rfl rfl ?_
  refine zP_bipush (pc := 7) C dX12_refuses_7 rfl ?_
  obtain ⟨_, d1, hc, h⟩ := zc_h h
  refine zP_callV (pc := 9) (As := [.int (zI 10)]) (st := []) C m12_89 dX12_refuses_9 (s_X12 hT) rfl (t_X12_counts hT (zRk rfl) hc) ⟨Nat.le_of_ble_eq_true rfl, Nat.le_of_ble_eq_true rfl⟩ rfl (Nat.le_of_ble_eq_true rfl) ⟨Nat.zero_le _, Nat.zero_le _⟩ fun hw => ?_
  clear hc hw
  show zP V X 2 0 0 12 _ [] d1
  revert h
  generalize d1 = d
  intro h
  exact zP_vret (pc := 12) C E dX12_refuses_12 h
def f_X12_hostTakes  (x1 : Int) (d : zD) : Option (Int × zD) :=
  zc (f_X12_counts  3 d) fun _ d =>
  zg 800 3 <| zl (d 401 (3 : Int).toNat) fun v13 =>
  zc (f_X12_tells  x1 5 v13 d) fun _ d =>
  zc (f_X12_message0  x1 1 d) fun v20 d =>
  if (v20 : Int) = (-1) then (
    zg 800 3 <| zl (d 401 (3 : Int).toNat) fun v34 =>
    zc (f_X12_delivers  x1 v34 d) fun _ d =>
    some (0, d))
  else (
    zc (f_X12_tells  x1 3 1 d) fun _ d =>
    zc (f_X12_nextNumber   d) fun v51 d =>
    zc (f_X12_tells  x1 9 v51 d) fun _ d =>
    some (0, d))
theorem t_X12_hostTakes {V : zW}  (hT : zo12 V) {x1 : Int} (hx1 : zR x1) {d dz : zD} {rv : Int} (h : f_X12_hostTakes  x1 d = some (rv, dz)) : zMet V 2 yX12_hostTakes cX12_hostTakes 2 none [.ref (zad V 400), .int (zI x1)] d none (rv = 0) dz := by
  refine zMet_by RX12 pn12 rfl (Nat.le_of_ble_eq_true rfl) [some (.ref (zad V 400)), some (.int (zI x1))] rfl fun X C E => ?_
  refine zP_aload_n (pc := 0) C (x := zad V 400) dX12_hostTakes_0 rfl rfl ?_
  refine zP_iconst (pc := 1) C dX12_hostTakes_1 ?_
  obtain ⟨_, d1, hc, h⟩ := zc_h h
  refine zP_callV (pc := 2) (As := [.int (zI 3)]) (st := []) C m12_89 dX12_hostTakes_2 (s_X12 hT) rfl (t_X12_counts hT (zRk rfl) hc) ⟨Nat.le_of_ble_eq_true rfl, Nat.le_of_ble_eq_true rfl⟩ rfl (Nat.le_of_ble_eq_true rfl) ⟨Nat.zero_le _, Nat.zero_le _⟩ fun hw => ?_
  clear hc hw
  show zP V X 2 0 0 5 _ [] d1
  revert h
  generalize d1 = d
  intro h
  refine zP_aload_n (pc := 5) C (x := zad V 400) dX12_hostTakes_5 rfl rfl ?_
  refine zP_iload_n (pc := 6) C (x := zI x1) dX12_hostTakes_6 rfl rfl ?_
  refine zP_iconst (pc := 7) C dX12_hostTakes_7 ?_
  refine zP_aload_n (pc := 8) C (x := zad V 400) dX12_hostTakes_8 rfl rfl ?_
  refine zP_getR (pc := 9) (a := 400) (t := 401) C g12_13 dX12_hostTakes_9 (s_X12 hT) rfl ?_
  refine zP_iconst (pc := 12) C dX12_hostTakes_12 ?_
  refine zP_iald (pc := 13) (a := 401) C dX12_hostTakes_13 (s_X12_s hT) (zRk rfl) h fun v13 hv13 h => ?_
  obtain ⟨_, d1, hc, h⟩ := zc_h h
  refine zP_callV (pc := 14) (As := [.int (zI x1), .int (zI 5), .int (zI v13)]) (st := []) C m12_75 dX12_hostTakes_14 (s_X12 hT) rfl (t_X12_tells hT hx1 (zRk rfl) hv13 hc) ⟨Nat.le_of_ble_eq_true rfl, Nat.le_of_ble_eq_true rfl⟩ rfl (Nat.le_of_ble_eq_true rfl) ⟨Nat.zero_le _, Nat.zero_le _⟩ fun hw => ?_
  clear hc hw
  show zP V X 2 0 0 17 _ [] d1
  revert h
  generalize d1 = d
  intro h
  refine zP_aload_n (pc := 17) C (x := zad V 400) dX12_hostTakes_17 rfl rfl ?_
  refine zP_iload_n (pc := 18) C (x := zI x1) dX12_hostTakes_18 rfl rfl ?_
  refine zP_iconst (pc := 19) C dX12_hostTakes_19 ?_
  obtain ⟨v20, d1, hc, h⟩ := zc_h h
  refine zP_callV (pc := 20) (As := [.int (zI x1), .int (zI 1)]) (st := []) C m12_65 dX12_hostTakes_20 (s_X12 hT) rfl (t_X12_message0 hT hx1 (zRk rfl) hc) ⟨Nat.le_of_ble_eq_true rfl, Nat.le_of_ble_eq_true rfl⟩ rfl (Nat.le_of_ble_eq_true rfl) ⟨Nat.zero_le _, Nat.zero_le _⟩ fun hw => ?_
  have hv20 := hw
  clear hc hw
  show zP V X 2 0 0 23 _ [.int (zI v20)] d1
  revert h
  generalize d1 = d
  intro h
  refine zP_iconst (pc := 23) C dX12_hostTakes_23 ?_
  refine zP_icmp_ne (pc := 24) (tgt := 39) C dX12_hostTakes_24 rfl hv20 (zRk rfl) h (fun _ h => ?_) (fun _ h => ?_)
  · refine zP_aload_n (pc := 39) C (x := zad V 400) dX12_hostTakes_39 rfl rfl ?_
    refine zP_iload_n (pc := 40) C (x := zI x1) dX12_hostTakes_40 rfl rfl ?_
    refine zP_iconst (pc := 41) C dX12_hostTakes_41 ?_
    refine zP_iconst (pc := 42) C dX12_hostTakes_42 ?_
    obtain ⟨_, d1, hc, h⟩ := zc_h h
    refine zP_callV (pc := 43) (As := [.int (zI x1), .int (zI 3), .int (zI 1)]) (st := []) C m12_75 dX12_hostTakes_43 (s_X12 hT) rfl (t_X12_tells hT hx1 (zRk rfl) (zRk rfl) hc) ⟨Nat.le_of_ble_eq_true rfl, Nat.le_of_ble_eq_true rfl⟩ rfl (Nat.le_of_ble_eq_true rfl) ⟨Nat.zero_le _, Nat.zero_le _⟩ fun hw => ?_
    clear hc hw
    show zP V X 2 0 0 46 _ [] d1
    revert h
    generalize d1 = d
    intro h
    refine zP_aload_n (pc := 46) C (x := zad V 400) dX12_hostTakes_46 rfl rfl ?_
    refine zP_iload_n (pc := 47) C (x := zI x1) dX12_hostTakes_47 rfl rfl ?_
    refine zP_bipush (pc := 48) C dX12_hostTakes_48 rfl ?_
    refine zP_aload_n (pc := 50) C (x := zad V 400) dX12_hostTakes_50 rfl rfl ?_
    obtain ⟨v51, d1, hc, h⟩ := zc_h h
    refine zP_callV (pc := 51) (As := []) (st := [.int (zI 9), .int (zI x1), .ref (zad V 400)]) C m12_100 dX12_hostTakes_51 (s_X12 hT) rfl (t_X12_nextNumber hT  hc) ⟨Nat.le_of_ble_eq_true rfl, Nat.le_of_ble_eq_true rfl⟩ rfl (Nat.le_of_ble_eq_true rfl) ⟨Nat.zero_le _, Nat.zero_le _⟩ fun hw => ?_
    have hv51 := hw
    clear hc hw
    show zP V X 2 0 0 54 _ [.int (zI v51), .int (zI 9), .int (zI x1), .ref (zad V 400)] d1
    revert h
    generalize d1 = d
    intro h
    obtain ⟨_, d1, hc, h⟩ := zc_h h
    refine zP_callV (pc := 54) (As := [.int (zI x1), .int (zI 9), .int (zI v51)]) (st := []) C m12_75 dX12_hostTakes_54 (s_X12 hT) rfl (t_X12_tells hT hx1 (zRk rfl) hv51 hc) ⟨Nat.le_of_ble_eq_true rfl, Nat.le_of_ble_eq_true rfl⟩ rfl (Nat.le_of_ble_eq_true rfl) ⟨Nat.zero_le _, Nat.zero_le _⟩ fun hw => ?_
    clear hc hw
    show zP V X 2 0 0 57 _ [] d1
    revert h
    generalize d1 = d
    intro h
    exact zP_vret (pc := 57) C E dX12_hostTakes_57 h
  · refine zP_aload_n (pc := 27) C (x := zad V 400) dX12_hostTakes_27 rfl rfl ?_
    refine zP_iload_n (pc := 28) C (x := zI x1) dX12_hostTakes_28 rfl rfl ?_
    refine zP_aload_n (pc := 29) C (x := zad V 400) dX12_hostTakes_29 rfl rfl ?_
    refine zP_getR (pc := 30) (a := 400) (t := 401) C g12_13 dX12_hostTakes_30 (s_X12 hT) rfl ?_
    refine zP_iconst (pc := 33) C dX12_hostTakes_33 ?_
    refine zP_iald (pc := 34) (a := 401) C dX12_hostTakes_34 (s_X12_s hT) (zRk rfl) h fun v34 hv34 h => ?_
    obtain ⟨_, d1, hc, h⟩ := zc_h h
    refine zP_callV (pc := 35) (As := [.int (zI x1), .int (zI v34)]) (st := []) C m12_81 dX12_hostTakes_35 (s_X12 hT) rfl (t_X12_delivers hT hx1 hv34 hc) ⟨Nat.le_of_ble_eq_true rfl, Nat.le_of_ble_eq_true rfl⟩ rfl (Nat.le_of_ble_eq_true rfl) ⟨Nat.zero_le _, Nat.zero_le _⟩ fun hw => ?_
    clear hc hw
    show zP V X 2 0 0 38 _ [] d1
    revert h
    generalize d1 = d
    intro h
    exact zP_vret (pc := 38) C E dX12_hostTakes_38 h
def j_X12_calls_47   (x3 s0 : Int) (d : zD) : Option (Int × zD) :=
  zc (f_X12_passes  s0 d) fun _ d =>
  zz x3 <|
  some (x3, d)
theorem wj_X12_calls_47 {V : zW} {X : zX}  (hT : zo12 V) (C : zOk V X cX12_calls RX12 4 (zrm 7) (some .boolean)) {rv : Int} {dz : zD} (E : zEnd V X (some (.int (zI rv))) (rv = 0 ∨ rv = 1) dz)  {x3 s0 : Int} (hx3 : zR x3) (hs0 : zR s0) {d : zD} (h : j_X12_calls_47   x3 s0 d = some (rv, dz)) : zP V X 4 0 0 47 [none, none, none, some (.int (zI x3))] [.int (zI s0), .ref (zad V 400)] d := by
  obtain ⟨_, d1, hc, h⟩ := zc_h h
  refine zP_callV (pc := 47) (As := [.int (zI s0)]) (st := []) C m12_92 dX12_calls_47 (s_X12 hT) rfl (t_X12_passes hT hs0 hc) ⟨Nat.le_of_ble_eq_true rfl, Nat.le_of_ble_eq_true rfl⟩ rfl (Nat.le_of_ble_eq_true rfl) ⟨Nat.zero_le _, Nat.zero_le _⟩ fun hw => ?_
  clear hc hw
  show zP V X 4 0 0 50 _ [] d1
  revert h
  generalize d1 = d
  intro h
  refine zP_iload_n (pc := 50) C (x := zI x3) dX12_calls_50 rfl rfl ?_
  obtain ⟨hz51, h⟩ := zz_h h
  exact zP_zret (pc := 51) C E dX12_calls_51 hz51 h
def j_X12_calls_25   (x1 s0 : Int) (d : zD) : Option (Int × zD) :=
  if (s0 : Int) = 0 then (
    zg 800 6 <| zl (d 401 (6 : Int).toNat) fun v46 =>
    j_X12_calls_47   s0 v46 d)
  else (
    zc (f_X12_of  x1 0 d) fun v34 d =>
    j_X12_calls_47   s0 v34 d)
theorem wj_X12_calls_25 {V : zW} {X : zX}  (hT : zo12 V) (C : zOk V X cX12_calls RX12 4 (zrm 7) (some .boolean)) {rv : Int} {dz : zD} (E : zEnd V X (some (.int (zI rv))) (rv = 0 ∨ rv = 1) dz)  {x1 s0 : Int} (hx1 : zR x1) (hs0 : zR s0) {d : zD} (h : j_X12_calls_25   x1 s0 d = some (rv, dz)) : zP V X 4 0 0 25 [some (.ref (zad V 400)), some (.int (zI x1)), none, none] [.int (zI s0)] d := by
  refine zP_istore_n (pc := 25) C (L' := [some (.ref (zad V 400)), some (.int (zI x1)), none, some (.int (zI s0))]) dX12_calls_25 rfl (Nat.le_of_ble_eq_true rfl) rfl rfl ?_
  refine zP_aload_n (pc := 26) C (x := zad V 400) dX12_calls_26 rfl rfl ?_
  refine zP_iload_n (pc := 27) C (x := zI s0) dX12_calls_27 rfl rfl ?_
  refine zP_if_eq (pc := 28) (tgt := 40) C dX12_calls_28 rfl hs0 h (fun _ h => ?_) (fun _ h => ?_)
  · refine zP_aload_n (pc := 40) C (x := zad V 400) dX12_calls_40 rfl rfl ?_
    refine zP_getR (pc := 41) (a := 400) (t := 401) C g12_13 dX12_calls_41 (s_X12 hT) rfl ?_
    refine zP_bipush (pc := 44) C dX12_calls_44 rfl ?_
    refine zP_iald (pc := 46) (a := 401) C dX12_calls_46 (s_X12_s hT) (zRk rfl) h fun v46 hv46 h => ?_
    exact zP_mask [false, false, false, true] (wj_X12_calls_47 hT C E  hs0 hv46 h)
  · refine zP_aload_n (pc := 31) C (x := zad V 400) dX12_calls_31 rfl rfl ?_
    refine zP_iload_n (pc := 32) C (x := zI x1) dX12_calls_32 rfl rfl ?_
    refine zP_iconst (pc := 33) C dX12_calls_33 ?_
    obtain ⟨v34, d1, hc, h⟩ := zc_h h
    refine zP_callV (pc := 34) (As := [.int (zI x1), .int (zI 0)]) (st := [.ref (zad V 400)]) C m12_57 dX12_calls_34 (s_X12 hT) rfl (t_X12_of hT hx1 (zRk rfl) hc) ⟨Nat.le_of_ble_eq_true rfl, Nat.le_of_ble_eq_true rfl⟩ rfl (Nat.le_of_ble_eq_true rfl) ⟨Nat.zero_le _, Nat.zero_le _⟩ fun hw => ?_
    have hv34 := hw
    clear hc hw
    show zP V X 4 0 0 37 _ [.int (zI v34), .ref (zad V 400)] d1
    revert h
    generalize d1 = d
    intro h
    refine zP_goto (pc := 37) (tgt := 47) C dX12_calls_37 rfl ?_
    exact zP_mask [false, false, false, true] (wj_X12_calls_47 hT C E  hs0 hv34 h)
def j_X12_calls_24   (x1 : Int) (d : zD) : Option (Int × zD) :=
  j_X12_calls_25   x1 0 d
theorem wj_X12_calls_24 {V : zW} {X : zX}  (hT : zo12 V) (C : zOk V X cX12_calls RX12 4 (zrm 7) (some .boolean)) {rv : Int} {dz : zD} (E : zEnd V X (some (.int (zI rv))) (rv = 0 ∨ rv = 1) dz)  {x1 : Int} (hx1 : zR x1) {d : zD} (h : j_X12_calls_24   x1 d = some (rv, dz)) : zP V X 4 0 0 24 [some (.ref (zad V 400)), some (.int (zI x1)), none, none] [] d := by
  refine zP_iconst (pc := 24) C dX12_calls_24 ?_
  exact zP_mask [true, true, false, false] (wj_X12_calls_25 hT C E  hx1 (zRk rfl) h)
def f_X12_calls  (x1 : Int) (d : zD) : Option (Int × zD) :=
  zc (f_X12_sends  1 d) fun v2 d =>
  if (v2 : Int) = 0 then (
    zc (f_X12_of  x1 3 d) fun v13 d =>
    if (v13 : Int) = 1 then (
      j_X12_calls_25   x1 1 d)
    else (
      j_X12_calls_24   x1 d))
  else (
    j_X12_calls_24   x1 d)
theorem t_X12_calls {V : zW}  (hT : zo12 V) {x1 : Int} (hx1 : zR x1) {d dz : zD} {rv : Int} (h : f_X12_calls  x1 d = some (rv, dz)) : zMet V 7 yX12_calls cX12_calls 4 (some .boolean) [.ref (zad V 400), .int (zI x1)] d (some (.int (zI rv))) (rv = 0 ∨ rv = 1) dz := by
  refine zMet_by RX12 pn12 rfl (Nat.le_of_ble_eq_true rfl) [some (.ref (zad V 400)), some (.int (zI x1)), none, none] rfl fun X C E => ?_
  refine zP_aload_n (pc := 0) C (x := zad V 400) dX12_calls_0 rfl rfl ?_
  refine zP_iconst (pc := 1) C dX12_calls_1 ?_
  obtain ⟨v2, d1, hc, h⟩ := zc_h h
  refine zP_callV (pc := 2) (As := [.int (zI 1)]) (st := []) C m12_96 dX12_calls_2 (s_X12 hT) rfl (t_X12_sends hT (zRk rfl) hc) ⟨Nat.le_of_ble_eq_true rfl, Nat.le_of_ble_eq_true rfl⟩ rfl (Nat.le_of_ble_eq_true rfl) ⟨Nat.zero_le _, Nat.zero_le _⟩ fun hw => ?_
  have hbv2 := hw
  have hv2 := z01 hw
  clear hc hw
  show zP V X 4 0 0 5 _ [.int (zI v2)] d1
  revert h
  generalize d1 = d
  intro h
  refine zP_istore_n (pc := 5) C (L' := [some (.ref (zad V 400)), some (.int (zI x1)), some (.int (zI v2)), none]) dX12_calls_5 rfl (Nat.le_of_ble_eq_true rfl) rfl rfl ?_
  refine zP_iload_n (pc := 6) C (x := zI v2) dX12_calls_6 rfl rfl ?_
  refine zP_if_ne (pc := 7) (tgt := 24) C dX12_calls_7 rfl hv2 h (fun _ h => ?_) (fun _ h => ?_)
  · exact zP_mask [true, true, false, false] (wj_X12_calls_24 hT C E  hx1 h)
  · refine zP_aload_n (pc := 10) C (x := zad V 400) dX12_calls_10 rfl rfl ?_
    refine zP_iload_n (pc := 11) C (x := zI x1) dX12_calls_11 rfl rfl ?_
    refine zP_iconst (pc := 12) C dX12_calls_12 ?_
    obtain ⟨v13, d1, hc, h⟩ := zc_h h
    refine zP_callV (pc := 13) (As := [.int (zI x1), .int (zI 3)]) (st := []) C m12_57 dX12_calls_13 (s_X12 hT) rfl (t_X12_of hT hx1 (zRk rfl) hc) ⟨Nat.le_of_ble_eq_true rfl, Nat.le_of_ble_eq_true rfl⟩ rfl (Nat.le_of_ble_eq_true rfl) ⟨Nat.zero_le _, Nat.zero_le _⟩ fun hw => ?_
    have hv13 := hw
    clear hc hw
    show zP V X 4 0 0 16 _ [.int (zI v13)] d1
    revert h
    generalize d1 = d
    intro h
    refine zP_iconst (pc := 16) C dX12_calls_16 ?_
    refine zP_icmp_ne (pc := 17) (tgt := 24) C dX12_calls_17 rfl hv13 (zRk rfl) h (fun _ h => ?_) (fun _ h => ?_)
    · exact zP_mask [true, true, false, false] (wj_X12_calls_24 hT C E  hx1 h)
    · refine zP_iconst (pc := 20) C dX12_calls_20 ?_
      refine zP_goto (pc := 21) (tgt := 25) C dX12_calls_21 rfl ?_
      exact zP_mask [true, true, false, false] (wj_X12_calls_25 hT C E  hx1 (zRk rfl) h)
def j_X12_pollTry_129   (x3 : Int) (d : zD) : Option (Int × zD) :=
  if (x3 : Int) = 0 then (
    some (3, d))
  else (
    some (2, d))
theorem wj_X12_pollTry_129 {V : zW} {X : zX}  (hT : zo12 V) (C : zOk V X cX12_pollTry RX12 4 (zrm 8) (some .int)) {rv : Int} {dz : zD} (E : zEnd V X (some (.int (zI rv))) (zR rv) dz)  {x3 : Int} (hx3 : zR x3) {d : zD} (h : j_X12_pollTry_129   x3 d = some (rv, dz)) : zP V X 4 0 0 129 [none, none, none, some (.int (zI x3))] [] d := by
  refine zP_iload_n (pc := 129) C (x := zI x3) dX12_pollTry_129 rfl rfl ?_
  refine zP_if_eq (pc := 130) (tgt := 137) C dX12_pollTry_130 rfl hx3 h (fun _ h => ?_) (fun _ h => ?_)
  · refine zP_iconst (pc := 137) C dX12_pollTry_137 ?_
    exact zP_iret (pc := 138) C E dX12_pollTry_138 (zRk rfl) h
  · refine zP_iconst (pc := 133) C dX12_pollTry_133 ?_
    refine zP_goto (pc := 134) (tgt := 138) C dX12_pollTry_134 rfl ?_
    exact zP_iret (pc := 138) C E dX12_pollTry_138 (zRk rfl) h
def j_X12_pollTry_106   (x1 x2 x3 : Int) (d : zD) : Option (Int × zD) :=
  zc (f_X12_sends  1 d) fun v108 d =>
  if (v108 : Int) = 0 then (
    zc (f_X12_tells  x2 8 0 d) fun _ d =>
    zc (f_X12_turnsBit  x1 6 d) fun _ d =>
    j_X12_pollTry_129   x3 d)
  else (
    j_X12_pollTry_129   x3 d)
theorem wj_X12_pollTry_106 {V : zW} {X : zX}  (hT : zo12 V) (C : zOk V X cX12_pollTry RX12 4 (zrm 8) (some .int)) {rv : Int} {dz : zD} (E : zEnd V X (some (.int (zI rv))) (zR rv) dz)  {x1 x2 x3 : Int} (hx1 : zR x1) (hx2 : zR x2) (hx3 : zR x3) {d : zD} (h : j_X12_pollTry_106   x1 x2 x3 d = some (rv, dz)) : zP V X 4 0 0 106 [some (.ref (zad V 400)), some (.int (zI x1)), some (.int (zI x2)), some (.int (zI x3))] [] d := by
  refine zP_aload_n (pc := 106) C (x := zad V 400) dX12_pollTry_106 rfl rfl ?_
  refine zP_iconst (pc := 107) C dX12_pollTry_107 ?_
  obtain ⟨v108, d1, hc, h⟩ := zc_h h
  refine zP_callV (pc := 108) (As := [.int (zI 1)]) (st := []) C m12_96 dX12_pollTry_108 (s_X12 hT) rfl (t_X12_sends hT (zRk rfl) hc) ⟨Nat.le_of_ble_eq_true rfl, Nat.le_of_ble_eq_true rfl⟩ rfl (Nat.le_of_ble_eq_true rfl) ⟨Nat.zero_le _, Nat.zero_le _⟩ fun hw => ?_
  have hbv108 := hw
  have hv108 := z01 hw
  clear hc hw
  show zP V X 4 0 0 111 _ [.int (zI v108)] d1
  revert h
  generalize d1 = d
  intro h
  refine zP_if_ne (pc := 111) (tgt := 129) C dX12_pollTry_111 rfl hv108 h (fun _ h => ?_) (fun _ h => ?_)
  · exact zP_mask [false, false, false, true] (wj_X12_pollTry_129 hT C E  hx3 h)
  · refine zP_aload_n (pc := 114) C (x := zad V 400) dX12_pollTry_114 rfl rfl ?_
    refine zP_iload_n (pc := 115) C (x := zI x2) dX12_pollTry_115 rfl rfl ?_
    refine zP_bipush (pc := 116) C dX12_pollTry_116 rfl ?_
    refine zP_iconst (pc := 118) C dX12_pollTry_118 ?_
    obtain ⟨_, d1, hc, h⟩ := zc_h h
    refine zP_callV (pc := 119) (As := [.int (zI x2), .int (zI 8), .int (zI 0)]) (st := []) C m12_75 dX12_pollTry_119 (s_X12 hT) rfl (t_X12_tells hT hx2 (zRk rfl) (zRk rfl) hc) ⟨Nat.le_of_ble_eq_true rfl, Nat.le_of_ble_eq_true rfl⟩ rfl (Nat.le_of_ble_eq_true rfl) ⟨Nat.zero_le _, Nat.zero_le _⟩ fun hw => ?_
    clear hc hw
    show zP V X 4 0 0 122 _ [] d1
    revert h
    generalize d1 = d
    intro h
    refine zP_aload_n (pc := 122) C (x := zad V 400) dX12_pollTry_122 rfl rfl ?_
    refine zP_iload_n (pc := 123) C (x := zI x1) dX12_pollTry_123 rfl rfl ?_
    refine zP_bipush (pc := 124) C dX12_pollTry_124 rfl ?_
    obtain ⟨_, d1, hc, h⟩ := zc_h h
    refine zP_callV (pc := 126) (As := [.int (zI x1), .int (zI 6)]) (st := []) C m12_112 dX12_pollTry_126 (s_X12 hT) rfl (t_X12_turnsBit hT hx1 (zRk rfl) hc) ⟨Nat.le_of_ble_eq_true rfl, Nat.le_of_ble_eq_true rfl⟩ rfl (Nat.le_of_ble_eq_true rfl) ⟨Nat.zero_le _, Nat.zero_le _⟩ fun hw => ?_
    clear hc hw
    show zP V X 4 0 0 129 _ [] d1
    revert h
    generalize d1 = d
    intro h
    exact zP_mask [false, false, false, true] (wj_X12_pollTry_129 hT C E  hx3 h)
def j_X12_pollTry_81   (x1 x2 s0 : Int) (d : zD) : Option (Int × zD) :=
  if (s0 : Int) = 0 then (
    zc (f_X12_counts  4 d) fun _ d =>
    j_X12_pollTry_106   x1 x2 s0 d)
  else (
    zc (f_X12_hostTakes  x2 d) fun _ d =>
    zc (f_X12_turnsBit  x1 9 d) fun _ d =>
    j_X12_pollTry_106   x1 x2 s0 d)
theorem wj_X12_pollTry_81 {V : zW} {X : zX}  (hT : zo12 V) (C : zOk V X cX12_pollTry RX12 4 (zrm 8) (some .int)) {rv : Int} {dz : zD} (E : zEnd V X (some (.int (zI rv))) (zR rv) dz)  {x1 x2 s0 : Int} (hx1 : zR x1) (hx2 : zR x2) (hs0 : zR s0) {d : zD} (h : j_X12_pollTry_81   x1 x2 s0 d = some (rv, dz)) : zP V X 4 0 0 81 [some (.ref (zad V 400)), some (.int (zI x1)), some (.int (zI x2)), none] [.int (zI s0)] d := by
  refine zP_istore_n (pc := 81) C (L' := [some (.ref (zad V 400)), some (.int (zI x1)), some (.int (zI x2)), some (.int (zI s0))]) dX12_pollTry_81 rfl (Nat.le_of_ble_eq_true rfl) rfl rfl ?_
  refine zP_iload_n (pc := 82) C (x := zI s0) dX12_pollTry_82 rfl rfl ?_
  refine zP_if_eq (pc := 83) (tgt := 101) C dX12_pollTry_83 rfl hs0 h (fun _ h => ?_) (fun _ h => ?_)
  · refine zP_aload_n (pc := 101) C (x := zad V 400) dX12_pollTry_101 rfl rfl ?_
    refine zP_iconst (pc := 102) C dX12_pollTry_102 ?_
    obtain ⟨_, d1, hc, h⟩ := zc_h h
    refine zP_callV (pc := 103) (As := [.int (zI 4)]) (st := []) C m12_89 dX12_pollTry_103 (s_X12 hT) rfl (t_X12_counts hT (zRk rfl) hc) ⟨Nat.le_of_ble_eq_true rfl, Nat.le_of_ble_eq_true rfl⟩ rfl (Nat.le_of_ble_eq_true rfl) ⟨Nat.zero_le _, Nat.zero_le _⟩ fun hw => ?_
    clear hc hw
    show zP V X 4 0 0 106 _ [] d1
    revert h
    generalize d1 = d
    intro h
    exact zP_mask [true, true, true, true] (wj_X12_pollTry_106 hT C E  hx1 hx2 hs0 h)
  · refine zP_aload_n (pc := 86) C (x := zad V 400) dX12_pollTry_86 rfl rfl ?_
    refine zP_iload_n (pc := 87) C (x := zI x2) dX12_pollTry_87 rfl rfl ?_
    obtain ⟨_, d1, hc, h⟩ := zc_h h
    refine zP_callV (pc := 88) (As := [.int (zI x2)]) (st := []) C m12_109 dX12_pollTry_88 (s_X12 hT) rfl (t_X12_hostTakes hT hx2 hc) ⟨Nat.le_of_ble_eq_true rfl, Nat.le_of_ble_eq_true rfl⟩ rfl (Nat.le_of_ble_eq_true rfl) ⟨Nat.zero_le _, Nat.zero_le _⟩ fun hw => ?_
    clear hc hw
    show zP V X 4 0 0 91 _ [] d1
    revert h
    generalize d1 = d
    intro h
    refine zP_aload_n (pc := 91) C (x := zad V 400) dX12_pollTry_91 rfl rfl ?_
    refine zP_iload_n (pc := 92) C (x := zI x1) dX12_pollTry_92 rfl rfl ?_
    refine zP_bipush (pc := 93) C dX12_pollTry_93 rfl ?_
    obtain ⟨_, d1, hc, h⟩ := zc_h h
    refine zP_callV (pc := 95) (As := [.int (zI x1), .int (zI 9)]) (st := []) C m12_112 dX12_pollTry_95 (s_X12 hT) rfl (t_X12_turnsBit hT hx1 (zRk rfl) hc) ⟨Nat.le_of_ble_eq_true rfl, Nat.le_of_ble_eq_true rfl⟩ rfl (Nat.le_of_ble_eq_true rfl) ⟨Nat.zero_le _, Nat.zero_le _⟩ fun hw => ?_
    clear hc hw
    show zP V X 4 0 0 98 _ [] d1
    revert h
    generalize d1 = d
    intro h
    refine zP_goto (pc := 98) (tgt := 106) C dX12_pollTry_98 rfl ?_
    exact zP_mask [true, true, true, true] (wj_X12_pollTry_106 hT C E  hx1 hx2 hs0 h)
def f_X12_pollTry  (x1 : Int) (d : zD) : Option (Int × zD) :=
  zc (f_X12_calls  x1 d) fun v2 d =>
  if (v2 : Int) = 0 then (
    some (0, d))
  else (
    zc (f_X12_rowAt  x1 0 0 d) fun v14 d =>
    if (v14 : Int) = (-1) then (
      zc (f_X12_sends  1 d) fun v25 d =>
      if (v25 : Int) = 0 then (
        zc (f_X12_counts  2 d) fun _ d =>
        some (1, d))
      else (
        some (0, d)))
    else (
      zc (f_X12_message0  v14 2 d) fun v44 d =>
      zc (f_X12_sends  v44 d) fun v47 d =>
      if (v47 : Int) = 0 then (
        zc (f_X12_of  x1 6 d) fun v63 d =>
        zc (f_X12_of  x1 9 d) fun v70 d =>
        if (v63 : Int) = v70 then (
          j_X12_pollTry_81   x1 v14 1 d)
        else (
          j_X12_pollTry_81   x1 v14 0 d))
      else (
        zc (f_X12_refuses   d) fun _ d =>
        some (0, d))))
theorem t_X12_pollTry {V : zW}  (hT : zo12 V) {x1 : Int} (hx1 : zR x1) {d dz : zD} {rv : Int} (h : f_X12_pollTry  x1 d = some (rv, dz)) : zMet V 8 yX12_pollTry cX12_pollTry 4 (some .int) [.ref (zad V 400), .int (zI x1)] d (some (.int (zI rv))) (zR rv) dz := by
  refine zMet_by RX12 pn12 rfl (Nat.le_of_ble_eq_true rfl) [some (.ref (zad V 400)), some (.int (zI x1)), none, none] rfl fun X C E => ?_
  refine zP_aload_n (pc := 0) C (x := zad V 400) dX12_pollTry_0 rfl rfl ?_
  refine zP_iload_n (pc := 1) C (x := zI x1) dX12_pollTry_1 rfl rfl ?_
  obtain ⟨v2, d1, hc, h⟩ := zc_h h
  refine zP_callV (pc := 2) (As := [.int (zI x1)]) (st := []) C m12_103 dX12_pollTry_2 (s_X12 hT) rfl (t_X12_calls hT hx1 hc) ⟨Nat.le_of_ble_eq_true rfl, Nat.le_of_ble_eq_true rfl⟩ rfl (Nat.le_of_ble_eq_true rfl) ⟨Nat.zero_le _, Nat.zero_le _⟩ fun hw => ?_
  have hbv2 := hw
  have hv2 := z01 hw
  clear hc hw
  show zP V X 4 0 0 5 _ [.int (zI v2)] d1
  revert h
  generalize d1 = d
  intro h
  refine zP_if_ne (pc := 5) (tgt := 10) C dX12_pollTry_5 rfl hv2 h (fun _ h => ?_) (fun _ h => ?_)
  · refine zP_aload_n (pc := 10) C (x := zad V 400) dX12_pollTry_10 rfl rfl ?_
    refine zP_iload_n (pc := 11) C (x := zI x1) dX12_pollTry_11 rfl rfl ?_
    refine zP_iconst (pc := 12) C dX12_pollTry_12 ?_
    refine zP_iconst (pc := 13) C dX12_pollTry_13 ?_
    obtain ⟨v14, d1, hc, h⟩ := zc_h h
    refine zP_callV (pc := 14) (As := [.int (zI x1), .int (zI 0), .int (zI 0)]) (st := []) C m12_78 dX12_pollTry_14 (s_X12 hT) rfl (t_X12_rowAt hT hx1 (zRk rfl) (zRk rfl) hc) ⟨Nat.le_of_ble_eq_true rfl, Nat.le_of_ble_eq_true rfl⟩ rfl (Nat.le_of_ble_eq_true rfl) ⟨Nat.zero_le _, Nat.zero_le _⟩ fun hw => ?_
    have hv14 := hw
    clear hc hw
    show zP V X 4 0 0 17 _ [.int (zI v14)] d1
    revert h
    generalize d1 = d
    intro h
    refine zP_istore_n (pc := 17) C (L' := [some (.ref (zad V 400)), some (.int (zI x1)), some (.int (zI v14)), none]) dX12_pollTry_17 rfl (Nat.le_of_ble_eq_true rfl) rfl rfl ?_
    refine zP_iload_n (pc := 18) C (x := zI v14) dX12_pollTry_18 rfl rfl ?_
    refine zP_iconst (pc := 19) C dX12_pollTry_19 ?_
    refine zP_icmp_ne (pc := 20) (tgt := 40) C dX12_pollTry_20 rfl hv14 (zRk rfl) h (fun _ h => ?_) (fun _ h => ?_)
    · refine zP_aload_n (pc := 40) C (x := zad V 400) dX12_pollTry_40 rfl rfl ?_
      refine zP_aload_n (pc := 41) C (x := zad V 400) dX12_pollTry_41 rfl rfl ?_
      refine zP_iload_n (pc := 42) C (x := zI v14) dX12_pollTry_42 rfl rfl ?_
      refine zP_iconst (pc := 43) C dX12_pollTry_43 ?_
      obtain ⟨v44, d1, hc, h⟩ := zc_h h
      refine zP_callV (pc := 44) (As := [.int (zI v14), .int (zI 2)]) (st := [.ref (zad V 400)]) C m12_65 dX12_pollTry_44 (s_X12 hT) rfl (t_X12_message0 hT hv14 (zRk rfl) hc) ⟨Nat.le_of_ble_eq_true rfl, Nat.le_of_ble_eq_true rfl⟩ rfl (Nat.le_of_ble_eq_true rfl) ⟨Nat.zero_le _, Nat.zero_le _⟩ fun hw => ?_
      have hv44 := hw
      clear hc hw
      show zP V X 4 0 0 47 _ [.int (zI v44), .ref (zad V 400)] d1
      revert h
      generalize d1 = d
      intro h
      obtain ⟨v47, d1, hc, h⟩ := zc_h h
      refine zP_callV (pc := 47) (As := [.int (zI v44)]) (st := []) C m12_96 dX12_pollTry_47 (s_X12 hT) rfl (t_X12_sends hT hv44 hc) ⟨Nat.le_of_ble_eq_true rfl, Nat.le_of_ble_eq_true rfl⟩ rfl (Nat.le_of_ble_eq_true rfl) ⟨Nat.zero_le _, Nat.zero_le _⟩ fun hw => ?_
      have hbv47 := hw
      have hv47 := z01 hw
      clear hc hw
      show zP V X 4 0 0 50 _ [.int (zI v47)] d1
      revert h
      generalize d1 = d
      intro h
      refine zP_if_eq (pc := 50) (tgt := 59) C dX12_pollTry_50 rfl hv47 h (fun _ h => ?_) (fun _ h => ?_)
      · refine zP_aload_n (pc := 59) C (x := zad V 400) dX12_pollTry_59 rfl rfl ?_
        refine zP_iload_n (pc := 60) C (x := zI x1) dX12_pollTry_60 rfl rfl ?_
        refine zP_bipush (pc := 61) C dX12_pollTry_61 rfl ?_
        obtain ⟨v63, d1, hc, h⟩ := zc_h h
        refine zP_callV (pc := 63) (As := [.int (zI x1), .int (zI 6)]) (st := []) C m12_57 dX12_pollTry_63 (s_X12 hT) rfl (t_X12_of hT hx1 (zRk rfl) hc) ⟨Nat.le_of_ble_eq_true rfl, Nat.le_of_ble_eq_true rfl⟩ rfl (Nat.le_of_ble_eq_true rfl) ⟨Nat.zero_le _, Nat.zero_le _⟩ fun hw => ?_
        have hv63 := hw
        clear hc hw
        show zP V X 4 0 0 66 _ [.int (zI v63)] d1
        revert h
        generalize d1 = d
        intro h
        refine zP_aload_n (pc := 66) C (x := zad V 400) dX12_pollTry_66 rfl rfl ?_
        refine zP_iload_n (pc := 67) C (x := zI x1) dX12_pollTry_67 rfl rfl ?_
        refine zP_bipush (pc := 68) C dX12_pollTry_68 rfl ?_
        obtain ⟨v70, d1, hc, h⟩ := zc_h h
        refine zP_callV (pc := 70) (As := [.int (zI x1), .int (zI 9)]) (st := [.int (zI v63)]) C m12_57 dX12_pollTry_70 (s_X12 hT) rfl (t_X12_of hT hx1 (zRk rfl) hc) ⟨Nat.le_of_ble_eq_true rfl, Nat.le_of_ble_eq_true rfl⟩ rfl (Nat.le_of_ble_eq_true rfl) ⟨Nat.zero_le _, Nat.zero_le _⟩ fun hw => ?_
        have hv70 := hw
        clear hc hw
        show zP V X 4 0 0 73 _ [.int (zI v70), .int (zI v63)] d1
        revert h
        generalize d1 = d
        intro h
        refine zP_icmp_ne (pc := 73) (tgt := 80) C dX12_pollTry_73 rfl hv63 hv70 h (fun _ h => ?_) (fun _ h => ?_)
        · refine zP_iconst (pc := 80) C dX12_pollTry_80 ?_
          exact zP_mask [true, true, true, false] (wj_X12_pollTry_81 hT C E  hx1 hv14 (zRk rfl) h)
        · refine zP_iconst (pc := 76) C dX12_pollTry_76 ?_
          refine zP_goto (pc := 77) (tgt := 81) C dX12_pollTry_77 rfl ?_
          exact zP_mask [true, true, true, false] (wj_X12_pollTry_81 hT C E  hx1 hv14 (zRk rfl) h)
      · refine zP_aload_n (pc := 53) C (x := zad V 400) dX12_pollTry_53 rfl rfl ?_
        obtain ⟨_, d1, hc, h⟩ := zc_h h
        refine zP_callV (pc := 54) (As := []) (st := []) C m12_106 dX12_pollTry_54 (s_X12 hT) rfl (t_X12_refuses hT  hc) ⟨Nat.le_of_ble_eq_true rfl, Nat.le_of_ble_eq_true rfl⟩ rfl (Nat.le_of_ble_eq_true rfl) ⟨Nat.zero_le _, Nat.zero_le _⟩ fun hw => ?_
        clear hc hw
        show zP V X 4 0 0 57 _ [] d1
        revert h
        generalize d1 = d
        intro h
        refine zP_iconst (pc := 57) C dX12_pollTry_57 ?_
        exact zP_iret (pc := 58) C E dX12_pollTry_58 (zRk rfl) h
    · refine zP_aload_n (pc := 23) C (x := zad V 400) dX12_pollTry_23 rfl rfl ?_
      refine zP_iconst (pc := 24) C dX12_pollTry_24 ?_
      obtain ⟨v25, d1, hc, h⟩ := zc_h h
      refine zP_callV (pc := 25) (As := [.int (zI 1)]) (st := []) C m12_96 dX12_pollTry_25 (s_X12 hT) rfl (t_X12_sends hT (zRk rfl) hc) ⟨Nat.le_of_ble_eq_true rfl, Nat.le_of_ble_eq_true rfl⟩ rfl (Nat.le_of_ble_eq_true rfl) ⟨Nat.zero_le _, Nat.zero_le _⟩ fun hw => ?_
      have hbv25 := hw
      have hv25 := z01 hw
      clear hc hw
      show zP V X 4 0 0 28 _ [.int (zI v25)] d1
      revert h
      generalize d1 = d
      intro h
      refine zP_if_eq (pc := 28) (tgt := 33) C dX12_pollTry_28 rfl hv25 h (fun _ h => ?_) (fun _ h => ?_)
      · refine zP_aload_n (pc := 33) C (x := zad V 400) dX12_pollTry_33 rfl rfl ?_
        refine zP_iconst (pc := 34) C dX12_pollTry_34 ?_
        obtain ⟨_, d1, hc, h⟩ := zc_h h
        refine zP_callV (pc := 35) (As := [.int (zI 2)]) (st := []) C m12_89 dX12_pollTry_35 (s_X12 hT) rfl (t_X12_counts hT (zRk rfl) hc) ⟨Nat.le_of_ble_eq_true rfl, Nat.le_of_ble_eq_true rfl⟩ rfl (Nat.le_of_ble_eq_true rfl) ⟨Nat.zero_le _, Nat.zero_le _⟩ fun hw => ?_
        clear hc hw
        show zP V X 4 0 0 38 _ [] d1
        revert h
        generalize d1 = d
        intro h
        refine zP_iconst (pc := 38) C dX12_pollTry_38 ?_
        exact zP_iret (pc := 39) C E dX12_pollTry_39 (zRk rfl) h
      · refine zP_iconst (pc := 31) C dX12_pollTry_31 ?_
        exact zP_iret (pc := 32) C E dX12_pollTry_32 (zRk rfl) h
  · refine zP_iconst (pc := 8) C dX12_pollTry_8 ?_
    exact zP_iret (pc := 9) C E dX12_pollTry_9 (zRk rfl) h
def j_X12_comesIntoBuffer_22   (x1 x2 : Int) (d : zD) : Option (Int × zD) :=
  zg 800 3 <| zl (d 401 (3 : Int).toNat) fun v31 =>
  zc (f_X12_tells  x1 6 v31 d) fun _ d =>
  zc (f_X12_tells  x1 3 2 d) fun _ d =>
  zc (f_X12_nextNumber   d) fun v47 d =>
  zc (f_X12_tells  x1 10 v47 d) fun _ d =>
  zc (f_X12_turnsBit  x2 7 d) fun _ d =>
  zc (f_X12_settles  x2 d) fun _ d =>
  some (0, d)
theorem wj_X12_comesIntoBuffer_22 {V : zW} {X : zX}  (hT : zo12 V) (C : zOk V X cX12_comesIntoBuffer RX12 3 (zrm 5) none) {rv : Int} {dz : zD} (E : zEnd V X none (rv = 0) dz)  {x1 x2 : Int} (hx1 : zR x1) (hx2 : zR x2) {d : zD} (h : j_X12_comesIntoBuffer_22   x1 x2 d = some (rv, dz)) : zP V X 3 0 0 22 [some (.ref (zad V 400)), some (.int (zI x1)), some (.int (zI x2))] [] d := by
  refine zP_aload_n (pc := 22) C (x := zad V 400) dX12_comesIntoBuffer_22 rfl rfl ?_
  refine zP_iload_n (pc := 23) C (x := zI x1) dX12_comesIntoBuffer_23 rfl rfl ?_
  refine zP_bipush (pc := 24) C dX12_comesIntoBuffer_24 rfl ?_
  refine zP_aload_n (pc := 26) C (x := zad V 400) dX12_comesIntoBuffer_26 rfl rfl ?_
  refine zP_getR (pc := 27) (a := 400) (t := 401) C g12_13 dX12_comesIntoBuffer_27 (s_X12 hT) rfl ?_
  refine zP_iconst (pc := 30) C dX12_comesIntoBuffer_30 ?_
  refine zP_iald (pc := 31) (a := 401) C dX12_comesIntoBuffer_31 (s_X12_s hT) (zRk rfl) h fun v31 hv31 h => ?_
  obtain ⟨_, d1, hc, h⟩ := zc_h h
  refine zP_callV (pc := 32) (As := [.int (zI x1), .int (zI 6), .int (zI v31)]) (st := []) C m12_75 dX12_comesIntoBuffer_32 (s_X12 hT) rfl (t_X12_tells hT hx1 (zRk rfl) hv31 hc) ⟨Nat.le_of_ble_eq_true rfl, Nat.le_of_ble_eq_true rfl⟩ rfl (Nat.le_of_ble_eq_true rfl) ⟨Nat.zero_le _, Nat.zero_le _⟩ fun hw => ?_
  clear hc hw
  show zP V X 3 0 0 35 _ [] d1
  revert h
  generalize d1 = d
  intro h
  refine zP_aload_n (pc := 35) C (x := zad V 400) dX12_comesIntoBuffer_35 rfl rfl ?_
  refine zP_iload_n (pc := 36) C (x := zI x1) dX12_comesIntoBuffer_36 rfl rfl ?_
  refine zP_iconst (pc := 37) C dX12_comesIntoBuffer_37 ?_
  refine zP_iconst (pc := 38) C dX12_comesIntoBuffer_38 ?_
  obtain ⟨_, d1, hc, h⟩ := zc_h h
  refine zP_callV (pc := 39) (As := [.int (zI x1), .int (zI 3), .int (zI 2)]) (st := []) C m12_75 dX12_comesIntoBuffer_39 (s_X12 hT) rfl (t_X12_tells hT hx1 (zRk rfl) (zRk rfl) hc) ⟨Nat.le_of_ble_eq_true rfl, Nat.le_of_ble_eq_true rfl⟩ rfl (Nat.le_of_ble_eq_true rfl) ⟨Nat.zero_le _, Nat.zero_le _⟩ fun hw => ?_
  clear hc hw
  show zP V X 3 0 0 42 _ [] d1
  revert h
  generalize d1 = d
  intro h
  refine zP_aload_n (pc := 42) C (x := zad V 400) dX12_comesIntoBuffer_42 rfl rfl ?_
  refine zP_iload_n (pc := 43) C (x := zI x1) dX12_comesIntoBuffer_43 rfl rfl ?_
  refine zP_bipush (pc := 44) C dX12_comesIntoBuffer_44 rfl ?_
  refine zP_aload_n (pc := 46) C (x := zad V 400) dX12_comesIntoBuffer_46 rfl rfl ?_
  obtain ⟨v47, d1, hc, h⟩ := zc_h h
  refine zP_callV (pc := 47) (As := []) (st := [.int (zI 10), .int (zI x1), .ref (zad V 400)]) C m12_100 dX12_comesIntoBuffer_47 (s_X12 hT) rfl (t_X12_nextNumber hT  hc) ⟨Nat.le_of_ble_eq_true rfl, Nat.le_of_ble_eq_true rfl⟩ rfl (Nat.le_of_ble_eq_true rfl) ⟨Nat.zero_le _, Nat.zero_le _⟩ fun hw => ?_
  have hv47 := hw
  clear hc hw
  show zP V X 3 0 0 50 _ [.int (zI v47), .int (zI 10), .int (zI x1), .ref (zad V 400)] d1
  revert h
  generalize d1 = d
  intro h
  obtain ⟨_, d1, hc, h⟩ := zc_h h
  refine zP_callV (pc := 50) (As := [.int (zI x1), .int (zI 10), .int (zI v47)]) (st := []) C m12_75 dX12_comesIntoBuffer_50 (s_X12 hT) rfl (t_X12_tells hT hx1 (zRk rfl) hv47 hc) ⟨Nat.le_of_ble_eq_true rfl, Nat.le_of_ble_eq_true rfl⟩ rfl (Nat.le_of_ble_eq_true rfl) ⟨Nat.zero_le _, Nat.zero_le _⟩ fun hw => ?_
  clear hc hw
  show zP V X 3 0 0 53 _ [] d1
  revert h
  generalize d1 = d
  intro h
  refine zP_aload_n (pc := 53) C (x := zad V 400) dX12_comesIntoBuffer_53 rfl rfl ?_
  refine zP_iload_n (pc := 54) C (x := zI x2) dX12_comesIntoBuffer_54 rfl rfl ?_
  refine zP_bipush (pc := 55) C dX12_comesIntoBuffer_55 rfl ?_
  obtain ⟨_, d1, hc, h⟩ := zc_h h
  refine zP_callV (pc := 57) (As := [.int (zI x2), .int (zI 7)]) (st := []) C m12_112 dX12_comesIntoBuffer_57 (s_X12 hT) rfl (t_X12_turnsBit hT hx2 (zRk rfl) hc) ⟨Nat.le_of_ble_eq_true rfl, Nat.le_of_ble_eq_true rfl⟩ rfl (Nat.le_of_ble_eq_true rfl) ⟨Nat.zero_le _, Nat.zero_le _⟩ fun hw => ?_
  clear hc hw
  show zP V X 3 0 0 60 _ [] d1
  revert h
  generalize d1 = d
  intro h
  refine zP_aload_n (pc := 60) C (x := zad V 400) dX12_comesIntoBuffer_60 rfl rfl ?_
  refine zP_iload_n (pc := 61) C (x := zI x2) dX12_comesIntoBuffer_61 rfl rfl ?_
  obtain ⟨_, d1, hc, h⟩ := zc_h h
  refine zP_callV (pc := 62) (As := [.int (zI x2)]) (st := []) C m12_85 dX12_comesIntoBuffer_62 (s_X12 hT) rfl (t_X12_settles hT hx2 hc) ⟨Nat.le_of_ble_eq_true rfl, Nat.le_of_ble_eq_true rfl⟩ rfl (Nat.le_of_ble_eq_true rfl) ⟨Nat.zero_le _, Nat.zero_le _⟩ fun hw => ?_
  clear hc hw
  show zP V X 3 0 0 65 _ [] d1
  revert h
  generalize d1 = d
  intro h
  exact zP_vret (pc := 65) C E dX12_comesIntoBuffer_65 h
def f_X12_comesIntoBuffer  (x1 x2 : Int) (d : zD) : Option (Int × zD) :=
  zc (f_X12_inRowMany  x2 2 d) fun v3 d =>
  if (v3 : Int) = 0 then (
    zg 800 3 <| zl (d 401 (3 : Int).toNat) fun v18 =>
    zc (f_X12_puts  x2 10 v18 d) fun _ d =>
    j_X12_comesIntoBuffer_22   x1 x2 d)
  else (
    j_X12_comesIntoBuffer_22   x1 x2 d)
theorem t_X12_comesIntoBuffer {V : zW}  (hT : zo12 V) {x1 x2 : Int} (hx1 : zR x1) (hx2 : zR x2) {d dz : zD} {rv : Int} (h : f_X12_comesIntoBuffer  x1 x2 d = some (rv, dz)) : zMet V 5 yX12_comesIntoBuffer cX12_comesIntoBuffer 3 none [.ref (zad V 400), .int (zI x1), .int (zI x2)] d none (rv = 0) dz := by
  refine zMet_by RX12 pn12 rfl (Nat.le_of_ble_eq_true rfl) [some (.ref (zad V 400)), some (.int (zI x1)), some (.int (zI x2))] rfl fun X C E => ?_
  refine zP_aload_n (pc := 0) C (x := zad V 400) dX12_comesIntoBuffer_0 rfl rfl ?_
  refine zP_iload_n (pc := 1) C (x := zI x2) dX12_comesIntoBuffer_1 rfl rfl ?_
  refine zP_iconst (pc := 2) C dX12_comesIntoBuffer_2 ?_
  obtain ⟨v3, d1, hc, h⟩ := zc_h h
  refine zP_callV (pc := 3) (As := [.int (zI x2), .int (zI 2)]) (st := []) C m12_115 dX12_comesIntoBuffer_3 (s_X12 hT) rfl (t_X12_inRowMany hT hx2 (zRk rfl) hc) ⟨Nat.le_of_ble_eq_true rfl, Nat.le_of_ble_eq_true rfl⟩ rfl (Nat.le_of_ble_eq_true rfl) ⟨Nat.zero_le _, Nat.zero_le _⟩ fun hw => ?_
  have hv3 := hw
  clear hc hw
  show zP V X 3 0 0 6 _ [.int (zI v3)] d1
  revert h
  generalize d1 = d
  intro h
  refine zP_if_ne (pc := 6) (tgt := 22) C dX12_comesIntoBuffer_6 rfl hv3 h (fun _ h => ?_) (fun _ h => ?_)
  · exact zP_mask [true, true, true] (wj_X12_comesIntoBuffer_22 hT C E  hx1 hx2 h)
  · refine zP_aload_n (pc := 9) C (x := zad V 400) dX12_comesIntoBuffer_9 rfl rfl ?_
    refine zP_iload_n (pc := 10) C (x := zI x2) dX12_comesIntoBuffer_10 rfl rfl ?_
    refine zP_bipush (pc := 11) C dX12_comesIntoBuffer_11 rfl ?_
    refine zP_aload_n (pc := 13) C (x := zad V 400) dX12_comesIntoBuffer_13 rfl rfl ?_
    refine zP_getR (pc := 14) (a := 400) (t := 401) C g12_13 dX12_comesIntoBuffer_14 (s_X12 hT) rfl ?_
    refine zP_iconst (pc := 17) C dX12_comesIntoBuffer_17 ?_
    refine zP_iald (pc := 18) (a := 401) C dX12_comesIntoBuffer_18 (s_X12_s hT) (zRk rfl) h fun v18 hv18 h => ?_
    obtain ⟨_, d1, hc, h⟩ := zc_h h
    refine zP_callV (pc := 19) (As := [.int (zI x2), .int (zI 10), .int (zI v18)]) (st := []) C m12_61 dX12_comesIntoBuffer_19 (s_X12 hT) rfl (t_X12_puts hT hx2 (zRk rfl) hv18 hc) ⟨Nat.le_of_ble_eq_true rfl, Nat.le_of_ble_eq_true rfl⟩ rfl (Nat.le_of_ble_eq_true rfl) ⟨Nat.zero_le _, Nat.zero_le _⟩ fun hw => ?_
    clear hc hw
    show zP V X 3 0 0 22 _ [] d1
    revert h
    generalize d1 = d
    intro h
    exact zP_mask [true, true, true] (wj_X12_comesIntoBuffer_22 hT C E  hx1 hx2 h)
def j_X12_selectTry_111   (x1 x2 : Int) (d : zD) : Option (Int × zD) :=
  zc (f_X12_sends  1 d) fun v113 d =>
  if (v113 : Int) = 0 then (
    zc (f_X12_tells  x2 9 0 d) fun _ d =>
    zc (f_X12_turnsBit  x1 8 d) fun _ d =>
    zc (f_X12_counts  5 d) fun _ d =>
    some (2, d))
  else (
    some (0, d))
theorem wj_X12_selectTry_111 {V : zW} {X : zX}  (hT : zo12 V) (C : zOk V X cX12_selectTry RX12 4 (zrm 8) (some .int)) {rv : Int} {dz : zD} (E : zEnd V X (some (.int (zI rv))) (zR rv) dz)  {x1 x2 : Int} (hx1 : zR x1) (hx2 : zR x2) {d : zD} (h : j_X12_selectTry_111   x1 x2 d = some (rv, dz)) : zP V X 4 0 0 111 [some (.ref (zad V 400)), some (.int (zI x1)), some (.int (zI x2)), none] [] d := by
  refine zP_aload_n (pc := 111) C (x := zad V 400) dX12_selectTry_111 rfl rfl ?_
  refine zP_iconst (pc := 112) C dX12_selectTry_112 ?_
  obtain ⟨v113, d1, hc, h⟩ := zc_h h
  refine zP_callV (pc := 113) (As := [.int (zI 1)]) (st := []) C m12_96 dX12_selectTry_113 (s_X12 hT) rfl (t_X12_sends hT (zRk rfl) hc) ⟨Nat.le_of_ble_eq_true rfl, Nat.le_of_ble_eq_true rfl⟩ rfl (Nat.le_of_ble_eq_true rfl) ⟨Nat.zero_le _, Nat.zero_le _⟩ fun hw => ?_
  have hbv113 := hw
  have hv113 := z01 hw
  clear hc hw
  show zP V X 4 0 0 116 _ [.int (zI v113)] d1
  revert h
  generalize d1 = d
  intro h
  refine zP_if_eq (pc := 116) (tgt := 121) C dX12_selectTry_116 rfl hv113 h (fun _ h => ?_) (fun _ h => ?_)
  · refine zP_aload_n (pc := 121) C (x := zad V 400) dX12_selectTry_121 rfl rfl ?_
    refine zP_iload_n (pc := 122) C (x := zI x2) dX12_selectTry_122 rfl rfl ?_
    refine zP_bipush (pc := 123) C dX12_selectTry_123 rfl ?_
    refine zP_iconst (pc := 125) C dX12_selectTry_125 ?_
    obtain ⟨_, d1, hc, h⟩ := zc_h h
    refine zP_callV (pc := 126) (As := [.int (zI x2), .int (zI 9), .int (zI 0)]) (st := []) C m12_75 dX12_selectTry_126 (s_X12 hT) rfl (t_X12_tells hT hx2 (zRk rfl) (zRk rfl) hc) ⟨Nat.le_of_ble_eq_true rfl, Nat.le_of_ble_eq_true rfl⟩ rfl (Nat.le_of_ble_eq_true rfl) ⟨Nat.zero_le _, Nat.zero_le _⟩ fun hw => ?_
    clear hc hw
    show zP V X 4 0 0 129 _ [] d1
    revert h
    generalize d1 = d
    intro h
    refine zP_aload_n (pc := 129) C (x := zad V 400) dX12_selectTry_129 rfl rfl ?_
    refine zP_iload_n (pc := 130) C (x := zI x1) dX12_selectTry_130 rfl rfl ?_
    refine zP_bipush (pc := 131) C dX12_selectTry_131 rfl ?_
    obtain ⟨_, d1, hc, h⟩ := zc_h h
    refine zP_callV (pc := 133) (As := [.int (zI x1), .int (zI 8)]) (st := []) C m12_112 dX12_selectTry_133 (s_X12 hT) rfl (t_X12_turnsBit hT hx1 (zRk rfl) hc) ⟨Nat.le_of_ble_eq_true rfl, Nat.le_of_ble_eq_true rfl⟩ rfl (Nat.le_of_ble_eq_true rfl) ⟨Nat.zero_le _, Nat.zero_le _⟩ fun hw => ?_
    clear hc hw
    show zP V X 4 0 0 136 _ [] d1
    revert h
    generalize d1 = d
    intro h
    refine zP_aload_n (pc := 136) C (x := zad V 400) dX12_selectTry_136 rfl rfl ?_
    refine zP_iconst (pc := 137) C dX12_selectTry_137 ?_
    obtain ⟨_, d1, hc, h⟩ := zc_h h
    refine zP_callV (pc := 138) (As := [.int (zI 5)]) (st := []) C m12_89 dX12_selectTry_138 (s_X12 hT) rfl (t_X12_counts hT (zRk rfl) hc) ⟨Nat.le_of_ble_eq_true rfl, Nat.le_of_ble_eq_true rfl⟩ rfl (Nat.le_of_ble_eq_true rfl) ⟨Nat.zero_le _, Nat.zero_le _⟩ fun hw => ?_
    clear hc hw
    show zP V X 4 0 0 141 _ [] d1
    revert h
    generalize d1 = d
    intro h
    refine zP_iconst (pc := 141) C dX12_selectTry_141 ?_
    exact zP_iret (pc := 142) C E dX12_selectTry_142 (zRk rfl) h
  · refine zP_iconst (pc := 119) C dX12_selectTry_119 ?_
    exact zP_iret (pc := 120) C E dX12_selectTry_120 (zRk rfl) h
def j_X12_selectTry_38   (x1 x2 s0 : Int) (d : zD) : Option (Int × zD) :=
  zc (f_X12_sends  1 d) fun v41 d =>
  if (v41 : Int) = 0 then (
    if (s0 : Int) = 0 then (
      zc (f_X12_counts  6 d) fun _ d =>
      some (4, d))
    else (
      zc (f_X12_message0  x2 2 d) fun v65 d =>
      zc (f_X12_sends  v65 d) fun v68 d =>
      if (v68 : Int) = 0 then (
        zc (f_X12_of  x1 8 d) fun v84 d =>
        zc (f_X12_of  x1 7 d) fun v91 d =>
        if (v84 : Int) = v91 then (
          zc (f_X12_comesIntoBuffer  x2 x1 d) fun _ d =>
          j_X12_selectTry_111   x1 x2 d)
        else (
          zc (f_X12_counts  4 d) fun _ d =>
          j_X12_selectTry_111   x1 x2 d))
      else (
        zc (f_X12_refuses   d) fun _ d =>
        some (0, d))))
  else (
    some (0, d))
theorem wj_X12_selectTry_38 {V : zW} {X : zX}  (hT : zo12 V) (C : zOk V X cX12_selectTry RX12 4 (zrm 8) (some .int)) {rv : Int} {dz : zD} (E : zEnd V X (some (.int (zI rv))) (zR rv) dz)  {x1 x2 s0 : Int} (hx1 : zR x1) (hx2 : zR x2) (hs0 : zR s0) {d : zD} (h : j_X12_selectTry_38   x1 x2 s0 d = some (rv, dz)) : zP V X 4 0 0 38 [some (.ref (zad V 400)), some (.int (zI x1)), some (.int (zI x2)), none] [.int (zI s0)] d := by
  refine zP_istore_n (pc := 38) C (L' := [some (.ref (zad V 400)), some (.int (zI x1)), some (.int (zI x2)), some (.int (zI s0))]) dX12_selectTry_38 rfl (Nat.le_of_ble_eq_true rfl) rfl rfl ?_
  refine zP_aload_n (pc := 39) C (x := zad V 400) dX12_selectTry_39 rfl rfl ?_
  refine zP_iconst (pc := 40) C dX12_selectTry_40 ?_
  obtain ⟨v41, d1, hc, h⟩ := zc_h h
  refine zP_callV (pc := 41) (As := [.int (zI 1)]) (st := []) C m12_96 dX12_selectTry_41 (s_X12 hT) rfl (t_X12_sends hT (zRk rfl) hc) ⟨Nat.le_of_ble_eq_true rfl, Nat.le_of_ble_eq_true rfl⟩ rfl (Nat.le_of_ble_eq_true rfl) ⟨Nat.zero_le _, Nat.zero_le _⟩ fun hw => ?_
  have hbv41 := hw
  have hv41 := z01 hw
  clear hc hw
  show zP V X 4 0 0 44 _ [.int (zI v41)] d1
  revert h
  generalize d1 = d
  intro h
  refine zP_if_eq (pc := 44) (tgt := 49) C dX12_selectTry_44 rfl hv41 h (fun _ h => ?_) (fun _ h => ?_)
  · refine zP_iload_n (pc := 49) C (x := zI s0) dX12_selectTry_49 rfl rfl ?_
    refine zP_if_ne (pc := 50) (tgt := 61) C dX12_selectTry_50 rfl hs0 h (fun _ h => ?_) (fun _ h => ?_)
    · refine zP_aload_n (pc := 61) C (x := zad V 400) dX12_selectTry_61 rfl rfl ?_
      refine zP_aload_n (pc := 62) C (x := zad V 400) dX12_selectTry_62 rfl rfl ?_
      refine zP_iload_n (pc := 63) C (x := zI x2) dX12_selectTry_63 rfl rfl ?_
      refine zP_iconst (pc := 64) C dX12_selectTry_64 ?_
      obtain ⟨v65, d1, hc, h⟩ := zc_h h
      refine zP_callV (pc := 65) (As := [.int (zI x2), .int (zI 2)]) (st := [.ref (zad V 400)]) C m12_65 dX12_selectTry_65 (s_X12 hT) rfl (t_X12_message0 hT hx2 (zRk rfl) hc) ⟨Nat.le_of_ble_eq_true rfl, Nat.le_of_ble_eq_true rfl⟩ rfl (Nat.le_of_ble_eq_true rfl) ⟨Nat.zero_le _, Nat.zero_le _⟩ fun hw => ?_
      have hv65 := hw
      clear hc hw
      show zP V X 4 0 0 68 _ [.int (zI v65), .ref (zad V 400)] d1
      revert h
      generalize d1 = d
      intro h
      obtain ⟨v68, d1, hc, h⟩ := zc_h h
      refine zP_callV (pc := 68) (As := [.int (zI v65)]) (st := []) C m12_96 dX12_selectTry_68 (s_X12 hT) rfl (t_X12_sends hT hv65 hc) ⟨Nat.le_of_ble_eq_true rfl, Nat.le_of_ble_eq_true rfl⟩ rfl (Nat.le_of_ble_eq_true rfl) ⟨Nat.zero_le _, Nat.zero_le _⟩ fun hw => ?_
      have hbv68 := hw
      have hv68 := z01 hw
      clear hc hw
      show zP V X 4 0 0 71 _ [.int (zI v68)] d1
      revert h
      generalize d1 = d
      intro h
      refine zP_if_eq (pc := 71) (tgt := 80) C dX12_selectTry_71 rfl hv68 h (fun _ h => ?_) (fun _ h => ?_)
      · refine zP_aload_n (pc := 80) C (x := zad V 400) dX12_selectTry_80 rfl rfl ?_
        refine zP_iload_n (pc := 81) C (x := zI x1) dX12_selectTry_81 rfl rfl ?_
        refine zP_bipush (pc := 82) C dX12_selectTry_82 rfl ?_
        obtain ⟨v84, d1, hc, h⟩ := zc_h h
        refine zP_callV (pc := 84) (As := [.int (zI x1), .int (zI 8)]) (st := []) C m12_57 dX12_selectTry_84 (s_X12 hT) rfl (t_X12_of hT hx1 (zRk rfl) hc) ⟨Nat.le_of_ble_eq_true rfl, Nat.le_of_ble_eq_true rfl⟩ rfl (Nat.le_of_ble_eq_true rfl) ⟨Nat.zero_le _, Nat.zero_le _⟩ fun hw => ?_
        have hv84 := hw
        clear hc hw
        show zP V X 4 0 0 87 _ [.int (zI v84)] d1
        revert h
        generalize d1 = d
        intro h
        refine zP_aload_n (pc := 87) C (x := zad V 400) dX12_selectTry_87 rfl rfl ?_
        refine zP_iload_n (pc := 88) C (x := zI x1) dX12_selectTry_88 rfl rfl ?_
        refine zP_bipush (pc := 89) C dX12_selectTry_89 rfl ?_
        obtain ⟨v91, d1, hc, h⟩ := zc_h h
        refine zP_callV (pc := 91) (As := [.int (zI x1), .int (zI 7)]) (st := [.int (zI v84)]) C m12_57 dX12_selectTry_91 (s_X12 hT) rfl (t_X12_of hT hx1 (zRk rfl) hc) ⟨Nat.le_of_ble_eq_true rfl, Nat.le_of_ble_eq_true rfl⟩ rfl (Nat.le_of_ble_eq_true rfl) ⟨Nat.zero_le _, Nat.zero_le _⟩ fun hw => ?_
        have hv91 := hw
        clear hc hw
        show zP V X 4 0 0 94 _ [.int (zI v91), .int (zI v84)] d1
        revert h
        generalize d1 = d
        intro h
        refine zP_icmp_ne (pc := 94) (tgt := 106) C dX12_selectTry_94 rfl hv84 hv91 h (fun _ h => ?_) (fun _ h => ?_)
        · refine zP_aload_n (pc := 106) C (x := zad V 400) dX12_selectTry_106 rfl rfl ?_
          refine zP_iconst (pc := 107) C dX12_selectTry_107 ?_
          obtain ⟨_, d1, hc, h⟩ := zc_h h
          refine zP_callV (pc := 108) (As := [.int (zI 4)]) (st := []) C m12_89 dX12_selectTry_108 (s_X12 hT) rfl (t_X12_counts hT (zRk rfl) hc) ⟨Nat.le_of_ble_eq_true rfl, Nat.le_of_ble_eq_true rfl⟩ rfl (Nat.le_of_ble_eq_true rfl) ⟨Nat.zero_le _, Nat.zero_le _⟩ fun hw => ?_
          clear hc hw
          show zP V X 4 0 0 111 _ [] d1
          revert h
          generalize d1 = d
          intro h
          exact zP_mask [true, true, true, false] (wj_X12_selectTry_111 hT C E  hx1 hx2 h)
        · refine zP_aload_n (pc := 97) C (x := zad V 400) dX12_selectTry_97 rfl rfl ?_
          refine zP_iload_n (pc := 98) C (x := zI x2) dX12_selectTry_98 rfl rfl ?_
          refine zP_iload_n (pc := 99) C (x := zI x1) dX12_selectTry_99 rfl rfl ?_
          obtain ⟨_, d1, hc, h⟩ := zc_h h
          refine zP_callV (pc := 100) (As := [.int (zI x2), .int (zI x1)]) (st := []) C m12_118 dX12_selectTry_100 (s_X12 hT) rfl (t_X12_comesIntoBuffer hT hx2 hx1 hc) ⟨Nat.le_of_ble_eq_true rfl, Nat.le_of_ble_eq_true rfl⟩ rfl (Nat.le_of_ble_eq_true rfl) ⟨Nat.zero_le _, Nat.zero_le _⟩ fun hw => ?_
          clear hc hw
          show zP V X 4 0 0 103 _ [] d1
          revert h
          generalize d1 = d
          intro h
          refine zP_goto (pc := 103) (tgt := 111) C dX12_selectTry_103 rfl ?_
          exact zP_mask [true, true, true, false] (wj_X12_selectTry_111 hT C E  hx1 hx2 h)
      · refine zP_aload_n (pc := 74) C (x := zad V 400) dX12_selectTry_74 rfl rfl ?_
        obtain ⟨_, d1, hc, h⟩ := zc_h h
        refine zP_callV (pc := 75) (As := []) (st := []) C m12_106 dX12_selectTry_75 (s_X12 hT) rfl (t_X12_refuses hT  hc) ⟨Nat.le_of_ble_eq_true rfl, Nat.le_of_ble_eq_true rfl⟩ rfl (Nat.le_of_ble_eq_true rfl) ⟨Nat.zero_le _, Nat.zero_le _⟩ fun hw => ?_
        clear hc hw
        show zP V X 4 0 0 78 _ [] d1
        revert h
        generalize d1 = d
        intro h
        refine zP_iconst (pc := 78) C dX12_selectTry_78 ?_
        exact zP_iret (pc := 79) C E dX12_selectTry_79 (zRk rfl) h
    · refine zP_aload_n (pc := 53) C (x := zad V 400) dX12_selectTry_53 rfl rfl ?_
      refine zP_bipush (pc := 54) C dX12_selectTry_54 rfl ?_
      obtain ⟨_, d1, hc, h⟩ := zc_h h
      refine zP_callV (pc := 56) (As := [.int (zI 6)]) (st := []) C m12_89 dX12_selectTry_56 (s_X12 hT) rfl (t_X12_counts hT (zRk rfl) hc) ⟨Nat.le_of_ble_eq_true rfl, Nat.le_of_ble_eq_true rfl⟩ rfl (Nat.le_of_ble_eq_true rfl) ⟨Nat.zero_le _, Nat.zero_le _⟩ fun hw => ?_
      clear hc hw
      show zP V X 4 0 0 59 _ [] d1
      revert h
      generalize d1 = d
      intro h
      refine zP_iconst (pc := 59) C dX12_selectTry_59 ?_
      exact zP_iret (pc := 60) C E dX12_selectTry_60 (zRk rfl) h
  · refine zP_iconst (pc := 47) C dX12_selectTry_47 ?_
    exact zP_iret (pc := 48) C E dX12_selectTry_48 (zRk rfl) h
def f_X12_selectTry  (x1 : Int) (d : zD) : Option (Int × zD) :=
  zc (f_X12_rowAt  x1 1 0 d) fun v4 d =>
  zc (f_X12_calls  x1 d) fun v10 d =>
  if (v10 : Int) = 0 then (
    some (0, d))
  else (
    zc (f_X12_inRowMany  x1 2 d) fun v21 d =>
    zc (f_X12_of  x1 1 d) fun v27 d =>
    if (v27 : Int) ≤ v21 then (
      j_X12_selectTry_38   x1 v4 0 d)
    else (
      j_X12_selectTry_38   x1 v4 1 d))
theorem t_X12_selectTry {V : zW}  (hT : zo12 V) {x1 : Int} (hx1 : zR x1) {d dz : zD} {rv : Int} (h : f_X12_selectTry  x1 d = some (rv, dz)) : zMet V 8 yX12_selectTry cX12_selectTry 4 (some .int) [.ref (zad V 400), .int (zI x1)] d (some (.int (zI rv))) (zR rv) dz := by
  refine zMet_by RX12 pn12 rfl (Nat.le_of_ble_eq_true rfl) [some (.ref (zad V 400)), some (.int (zI x1)), none, none] rfl fun X C E => ?_
  refine zP_aload_n (pc := 0) C (x := zad V 400) dX12_selectTry_0 rfl rfl ?_
  refine zP_iload_n (pc := 1) C (x := zI x1) dX12_selectTry_1 rfl rfl ?_
  refine zP_iconst (pc := 2) C dX12_selectTry_2 ?_
  refine zP_iconst (pc := 3) C dX12_selectTry_3 ?_
  obtain ⟨v4, d1, hc, h⟩ := zc_h h
  refine zP_callV (pc := 4) (As := [.int (zI x1), .int (zI 1), .int (zI 0)]) (st := []) C m12_78 dX12_selectTry_4 (s_X12 hT) rfl (t_X12_rowAt hT hx1 (zRk rfl) (zRk rfl) hc) ⟨Nat.le_of_ble_eq_true rfl, Nat.le_of_ble_eq_true rfl⟩ rfl (Nat.le_of_ble_eq_true rfl) ⟨Nat.zero_le _, Nat.zero_le _⟩ fun hw => ?_
  have hv4 := hw
  clear hc hw
  show zP V X 4 0 0 7 _ [.int (zI v4)] d1
  revert h
  generalize d1 = d
  intro h
  refine zP_istore_n (pc := 7) C (L' := [some (.ref (zad V 400)), some (.int (zI x1)), some (.int (zI v4)), none]) dX12_selectTry_7 rfl (Nat.le_of_ble_eq_true rfl) rfl rfl ?_
  refine zP_aload_n (pc := 8) C (x := zad V 400) dX12_selectTry_8 rfl rfl ?_
  refine zP_iload_n (pc := 9) C (x := zI x1) dX12_selectTry_9 rfl rfl ?_
  obtain ⟨v10, d1, hc, h⟩ := zc_h h
  refine zP_callV (pc := 10) (As := [.int (zI x1)]) (st := []) C m12_103 dX12_selectTry_10 (s_X12 hT) rfl (t_X12_calls hT hx1 hc) ⟨Nat.le_of_ble_eq_true rfl, Nat.le_of_ble_eq_true rfl⟩ rfl (Nat.le_of_ble_eq_true rfl) ⟨Nat.zero_le _, Nat.zero_le _⟩ fun hw => ?_
  have hbv10 := hw
  have hv10 := z01 hw
  clear hc hw
  show zP V X 4 0 0 13 _ [.int (zI v10)] d1
  revert h
  generalize d1 = d
  intro h
  refine zP_if_ne (pc := 13) (tgt := 18) C dX12_selectTry_13 rfl hv10 h (fun _ h => ?_) (fun _ h => ?_)
  · refine zP_aload_n (pc := 18) C (x := zad V 400) dX12_selectTry_18 rfl rfl ?_
    refine zP_iload_n (pc := 19) C (x := zI x1) dX12_selectTry_19 rfl rfl ?_
    refine zP_iconst (pc := 20) C dX12_selectTry_20 ?_
    obtain ⟨v21, d1, hc, h⟩ := zc_h h
    refine zP_callV (pc := 21) (As := [.int (zI x1), .int (zI 2)]) (st := []) C m12_115 dX12_selectTry_21 (s_X12 hT) rfl (t_X12_inRowMany hT hx1 (zRk rfl) hc) ⟨Nat.le_of_ble_eq_true rfl, Nat.le_of_ble_eq_true rfl⟩ rfl (Nat.le_of_ble_eq_true rfl) ⟨Nat.zero_le _, Nat.zero_le _⟩ fun hw => ?_
    have hv21 := hw
    clear hc hw
    show zP V X 4 0 0 24 _ [.int (zI v21)] d1
    revert h
    generalize d1 = d
    intro h
    refine zP_aload_n (pc := 24) C (x := zad V 400) dX12_selectTry_24 rfl rfl ?_
    refine zP_iload_n (pc := 25) C (x := zI x1) dX12_selectTry_25 rfl rfl ?_
    refine zP_iconst (pc := 26) C dX12_selectTry_26 ?_
    obtain ⟨v27, d1, hc, h⟩ := zc_h h
    refine zP_callV (pc := 27) (As := [.int (zI x1), .int (zI 1)]) (st := [.int (zI v21)]) C m12_57 dX12_selectTry_27 (s_X12 hT) rfl (t_X12_of hT hx1 (zRk rfl) hc) ⟨Nat.le_of_ble_eq_true rfl, Nat.le_of_ble_eq_true rfl⟩ rfl (Nat.le_of_ble_eq_true rfl) ⟨Nat.zero_le _, Nat.zero_le _⟩ fun hw => ?_
    have hv27 := hw
    clear hc hw
    show zP V X 4 0 0 30 _ [.int (zI v27), .int (zI v21)] d1
    revert h
    generalize d1 = d
    intro h
    refine zP_icmp_ge (pc := 30) (tgt := 37) C dX12_selectTry_30 rfl hv21 hv27 h (fun _ h => ?_) (fun _ h => ?_)
    · refine zP_iconst (pc := 37) C dX12_selectTry_37 ?_
      exact zP_mask [true, true, true, false] (wj_X12_selectTry_38 hT C E  hx1 hv4 (zRk rfl) h)
    · refine zP_iconst (pc := 33) C dX12_selectTry_33 ?_
      refine zP_goto (pc := 34) (tgt := 38) C dX12_selectTry_34 rfl ?_
      exact zP_mask [true, true, true, false] (wj_X12_selectTry_38 hT C E  hx1 hv4 (zRk rfl) h)
  · refine zP_iconst (pc := 16) C dX12_selectTry_16 ?_
    exact zP_iret (pc := 17) C E dX12_selectTry_17 (zRk rfl) h
def j_X12_tries_66  (r25 : Int → Int → Int → Int → zD → Option (Int × zD)) (x1 x2 x3 s0 : Int) (d : zD) : Option (Int × zD) :=
  if (s0 : Int) = 0 then (
    zc (f_X12_counts  7 d) fun _ d =>
    r25 x1 x2 x3 s0 d)
  else (
    r25 x1 x2 x3 s0 d)
theorem wj_X12_tries_66 {V : zW} {X : zX}  (hT : zo12 V) (C : zOk V X cX12_tries RX12 5 (zrm 9) (some .int)) {rv : Int} {dz : zD} (E : zEnd V X (some (.int (zI rv))) (zR rv) dz) {r25 : Int → Int → Int → Int → zD → Option (Int × zD)} (hr25 : ∀ {x1 x2 x3 x4 : Int} {d : zD}, zR x1 → zR x2 → zR x3 → zR x4 → r25 x1 x2 x3 x4 d = some (rv, dz) → zP V X 5 0 0 25 [some (.ref (zad V 400)), some (.int (zI x1)), some (.int (zI x2)), some (.int (zI x3)), some (.int (zI x4))] [] d) {x1 x2 x3 s0 : Int} (hx1 : zR x1) (hx2 : zR x2) (hx3 : zR x3) (hs0 : zR s0) {d : zD} (h : j_X12_tries_66  r25 x1 x2 x3 s0 d = some (rv, dz)) : zP V X 5 0 0 66 [some (.ref (zad V 400)), some (.int (zI x1)), some (.int (zI x2)), some (.int (zI x3)), none] [.int (zI s0)] d := by
  refine zP_istore (pc := 66) C (L' := [some (.ref (zad V 400)), some (.int (zI x1)), some (.int (zI x2)), some (.int (zI x3)), some (.int (zI s0))]) dX12_tries_66 (Nat.le_of_ble_eq_true rfl) rfl rfl ?_
  refine zP_iload (pc := 68) C (x := zI s0) dX12_tries_68 rfl ?_
  refine zP_if_ne (pc := 70) (tgt := 25) C dX12_tries_70 rfl hs0 h (fun _ h => ?_) (fun _ h => ?_)
  · exact zP_mask [true, true, true, true, true] (hr25 hx1 hx2 hx3 hs0 h)
  · refine zP_aload_n (pc := 73) C (x := zad V 400) dX12_tries_73 rfl rfl ?_
    refine zP_bipush (pc := 74) C dX12_tries_74 rfl ?_
    obtain ⟨_, d1, hc, h⟩ := zc_h h
    refine zP_callV (pc := 76) (As := [.int (zI 7)]) (st := []) C m12_89 dX12_tries_76 (s_X12 hT) rfl (t_X12_counts hT (zRk rfl) hc) ⟨Nat.le_of_ble_eq_true rfl, Nat.le_of_ble_eq_true rfl⟩ rfl (Nat.le_of_ble_eq_true rfl) ⟨Nat.zero_le _, Nat.zero_le _⟩ fun hw => ?_
    clear hc hw
    show zP V X 5 0 0 79 _ [] d1
    revert h
    generalize d1 = d
    intro h
    refine zP_goto (pc := 79) (tgt := 25) C dX12_tries_79 rfl ?_
    exact zP_mask [true, true, true, true, true] (hr25 hx1 hx2 hx3 hs0 h)
def l_X12_tries_25F  (r25 : Int → Int → Int → Int → zD → Option (Int × zD)) (x1 x2 x3 x4 : Int) (d : zD) : Option (Int × zD) :=
  if (x4 : Int) = 0 then (
    zl (d 400 7) fun v31 =>
    if (x3 : Int) ≤ v31 then (
      some (x4, d))
    else (
      zl (d 400 7) fun v40 =>
      zl (zw (v40 + 1)) fun v44 =>
      zl (zu d 400 7 v44) fun d =>
      if (x2 : Int) = 1 then (
        zc (f_X12_selectTry  x1 d) fun v55 d =>
        j_X12_tries_66  r25 x1 x2 x3 v55 d)
      else (
        zc (f_X12_pollTry  x1 d) fun v63 d =>
        j_X12_tries_66  r25 x1 x2 x3 v63 d)))
  else (
    some (x4, d))
theorem wl_X12_tries_25F {V : zW} {X : zX}  (hT : zo12 V) (C : zOk V X cX12_tries RX12 5 (zrm 9) (some .int)) {rv : Int} {dz : zD} (E : zEnd V X (some (.int (zI rv))) (zR rv) dz) {r25 : Int → Int → Int → Int → zD → Option (Int × zD)} (hr25 : ∀ {x1 x2 x3 x4 : Int} {d : zD}, zR x1 → zR x2 → zR x3 → zR x4 → r25 x1 x2 x3 x4 d = some (rv, dz) → zP V X 5 0 0 25 [some (.ref (zad V 400)), some (.int (zI x1)), some (.int (zI x2)), some (.int (zI x3)), some (.int (zI x4))] [] d) {x1 x2 x3 x4 : Int} (hx1 : zR x1) (hx2 : zR x2) (hx3 : zR x3) (hx4 : zR x4) {d : zD} (h : l_X12_tries_25F  r25 x1 x2 x3 x4 d = some (rv, dz)) : zP V X 5 0 0 25 [some (.ref (zad V 400)), some (.int (zI x1)), some (.int (zI x2)), some (.int (zI x3)), some (.int (zI x4))] [] d := by
  refine zP_iload (pc := 25) C (x := zI x4) dX12_tries_25 rfl ?_
  refine zP_if_ne (pc := 27) (tgt := 82) C dX12_tries_27 rfl hx4 h (fun _ h => ?_) (fun _ h => ?_)
  · refine zP_iload (pc := 82) C (x := zI x4) dX12_tries_82 rfl ?_
    exact zP_iret (pc := 84) C E dX12_tries_84 hx4 h
  · refine zP_aload_n (pc := 30) C (x := zad V 400) dX12_tries_30 rfl rfl ?_
    refine zP_getI (pc := 31) (a := 400) C g12_121 dX12_tries_31 (s_X12 hT) rfl h fun v31 hv31 h => ?_
    refine zP_iload_n (pc := 34) C (x := zI x3) dX12_tries_34 rfl rfl ?_
    refine zP_icmp_ge (pc := 35) (tgt := 82) C dX12_tries_35 rfl hv31 hx3 h (fun _ h => ?_) (fun _ h => ?_)
    · refine zP_iload (pc := 82) C (x := zI x4) dX12_tries_82 rfl ?_
      exact zP_iret (pc := 84) C E dX12_tries_84 hx4 h
    · refine zP_aload_n (pc := 38) C (x := zad V 400) dX12_tries_38 rfl rfl ?_
      refine zP_aload_n (pc := 39) C (x := zad V 400) dX12_tries_39 rfl rfl ?_
      refine zP_getI (pc := 40) (a := 400) C g12_121 dX12_tries_40 (s_X12 hT) rfl h fun v40 hv40 h => ?_
      refine zP_iconst (pc := 43) C dX12_tries_43 ?_
      refine zP_iadd (pc := 44) C dX12_tries_44 h fun v44 hv44 h => ?_
      refine zP_putI (pc := 45) (a := 400) C p12_121 dX12_tries_45 (s_X12 hT) rfl hv44 h fun d h => ?_
      refine zP_iload_n (pc := 48) C (x := zI x2) dX12_tries_48 rfl rfl ?_
      refine zP_iconst (pc := 49) C dX12_tries_49 ?_
      refine zP_icmp_ne (pc := 50) (tgt := 61) C dX12_tries_50 rfl hx2 (zRk rfl) h (fun _ h => ?_) (fun _ h => ?_)
      · refine zP_aload_n (pc := 61) C (x := zad V 400) dX12_tries_61 rfl rfl ?_
        refine zP_iload_n (pc := 62) C (x := zI x1) dX12_tries_62 rfl rfl ?_
        obtain ⟨v63, d1, hc, h⟩ := zc_h h
        refine zP_callV (pc := 63) (As := [.int (zI x1)]) (st := []) C m12_128 dX12_tries_63 (s_X12 hT) rfl (t_X12_pollTry hT hx1 hc) ⟨Nat.le_of_ble_eq_true rfl, Nat.le_of_ble_eq_true rfl⟩ rfl (Nat.le_of_ble_eq_true rfl) ⟨Nat.zero_le _, Nat.zero_le _⟩ fun hw => ?_
        have hv63 := hw
        clear hc hw
        show zP V X 5 0 0 66 _ [.int (zI v63)] d1
        revert h
        generalize d1 = d
        intro h
        exact zP_mask [true, true, true, true, false] (wj_X12_tries_66 hT C E hr25 hx1 hx2 hx3 hv63 h)
      · refine zP_aload_n (pc := 53) C (x := zad V 400) dX12_tries_53 rfl rfl ?_
        refine zP_iload_n (pc := 54) C (x := zI x1) dX12_tries_54 rfl rfl ?_
        obtain ⟨v55, d1, hc, h⟩ := zc_h h
        refine zP_callV (pc := 55) (As := [.int (zI x1)]) (st := []) C m12_124 dX12_tries_55 (s_X12 hT) rfl (t_X12_selectTry hT hx1 hc) ⟨Nat.le_of_ble_eq_true rfl, Nat.le_of_ble_eq_true rfl⟩ rfl (Nat.le_of_ble_eq_true rfl) ⟨Nat.zero_le _, Nat.zero_le _⟩ fun hw => ?_
        have hv55 := hw
        clear hc hw
        show zP V X 5 0 0 58 _ [.int (zI v55)] d1
        revert h
        generalize d1 = d
        intro h
        refine zP_goto (pc := 58) (tgt := 66) C dX12_tries_58 rfl ?_
        exact zP_mask [true, true, true, true, false] (wj_X12_tries_66 hT C E hr25 hx1 hx2 hx3 hv55 h)
def l_X12_tries_25   : Nat → Int → Int → Int → Int → zD → Option (Int × zD)
  | 0, _, _, _, _, _ => none
  | q + 1, x1, x2, x3, x4, d => l_X12_tries_25F   (l_X12_tries_25   q) x1 x2 x3 x4 d
theorem wl_X12_tries_25 {V : zW} {X : zX}  (hT : zo12 V) (C : zOk V X cX12_tries RX12 5 (zrm 9) (some .int)) {rv : Int} {dz : zD} (E : zEnd V X (some (.int (zI rv))) (zR rv) dz)  : ∀ (q : Nat) {x1 x2 x3 x4 : Int} (hx1 : zR x1) (hx2 : zR x2) (hx3 : zR x3) (hx4 : zR x4) {d : zD} (h : l_X12_tries_25   q x1 x2 x3 x4 d = some (rv, dz)), zP V X 5 0 0 25 [some (.ref (zad V 400)), some (.int (zI x1)), some (.int (zI x2)), some (.int (zI x3)), some (.int (zI x4))] [] d := by
  intro q
  induction q with
  | zero => intro x1 x2 x3 x4 hx1 hx2 hx3 hx4 d h; cases (show (none : Option (Int × zD)) = some (rv, dz) from h)
  | succ q ih =>
    intro x1 x2 x3 x4 hx1 hx2 hx3 hx4 d h
    exact wl_X12_tries_25F hT C E  (fun  hx1 hx2 hx3 hx4 h => ih hx1 hx2 hx3 hx4 h) hx1 hx2 hx3 hx4 h
def j_X12_tries_16   (x1 x2 s0 : Int) (d : zD) : Option (Int × zD) :=
  zl (zu d 400 7 0) fun d =>
  l_X12_tries_25   zF x1 x2 s0 0 d
theorem wj_X12_tries_16 {V : zW} {X : zX}  (hT : zo12 V) (C : zOk V X cX12_tries RX12 5 (zrm 9) (some .int)) {rv : Int} {dz : zD} (E : zEnd V X (some (.int (zI rv))) (zR rv) dz)  {x1 x2 s0 : Int} (hx1 : zR x1) (hx2 : zR x2) (hs0 : zR s0) {d : zD} (h : j_X12_tries_16   x1 x2 s0 d = some (rv, dz)) : zP V X 5 0 0 16 [some (.ref (zad V 400)), some (.int (zI x1)), some (.int (zI x2)), none, none] [.int (zI s0)] d := by
  refine zP_istore_n (pc := 16) C (L' := [some (.ref (zad V 400)), some (.int (zI x1)), some (.int (zI x2)), some (.int (zI s0)), none]) dX12_tries_16 rfl (Nat.le_of_ble_eq_true rfl) rfl rfl ?_
  refine zP_iconst (pc := 17) C dX12_tries_17 ?_
  refine zP_istore (pc := 18) C (L' := [some (.ref (zad V 400)), some (.int (zI x1)), some (.int (zI x2)), some (.int (zI s0)), some (.int (zI 0))]) dX12_tries_18 (Nat.le_of_ble_eq_true rfl) rfl rfl ?_
  refine zP_aload_n (pc := 20) C (x := zad V 400) dX12_tries_20 rfl rfl ?_
  refine zP_iconst (pc := 21) C dX12_tries_21 ?_
  refine zP_putI (pc := 22) (a := 400) C p12_121 dX12_tries_22 (s_X12 hT) rfl (zRk rfl) h fun d h => ?_
  exact zP_mask [true, true, true, true, true] (wl_X12_tries_25 hT C E  zF hx1 hx2 hs0 (zRk rfl) h)
def f_X12_tries  (x1 x2 : Int) (d : zD) : Option (Int × zD) :=
  if (x2 : Int) = 2 then (
    j_X12_tries_16   x1 x2 1 d)
  else (
    zg 800 7 <| zl (d 401 (7 : Int).toNat) fun v15 =>
    j_X12_tries_16   x1 x2 v15 d)
theorem t_X12_tries {V : zW}  (hT : zo12 V) {x1 x2 : Int} (hx1 : zR x1) (hx2 : zR x2) {d dz : zD} {rv : Int} (h : f_X12_tries  x1 x2 d = some (rv, dz)) : zMet V 9 yX12_tries cX12_tries 5 (some .int) [.ref (zad V 400), .int (zI x1), .int (zI x2)] d (some (.int (zI rv))) (zR rv) dz := by
  refine zMet_by RX12 pn12 rfl (Nat.le_of_ble_eq_true rfl) [some (.ref (zad V 400)), some (.int (zI x1)), some (.int (zI x2)), none, none] rfl fun X C E => ?_
  refine zP_iload_n (pc := 0) C (x := zI x2) dX12_tries_0 rfl rfl ?_
  refine zP_iconst (pc := 1) C dX12_tries_1 ?_
  refine zP_icmp_ne (pc := 2) (tgt := 9) C dX12_tries_2 rfl hx2 (zRk rfl) h (fun _ h => ?_) (fun _ h => ?_)
  · refine zP_aload_n (pc := 9) C (x := zad V 400) dX12_tries_9 rfl rfl ?_
    refine zP_getR (pc := 10) (a := 400) (t := 401) C g12_13 dX12_tries_10 (s_X12 hT) rfl ?_
    refine zP_bipush (pc := 13) C dX12_tries_13 rfl ?_
    refine zP_iald (pc := 15) (a := 401) C dX12_tries_15 (s_X12_s hT) (zRk rfl) h fun v15 hv15 h => ?_
    exact zP_mask [true, true, true, false, false] (wj_X12_tries_16 hT C E  hx1 hx2 hv15 h)
  · refine zP_iconst (pc := 5) C dX12_tries_5 ?_
    refine zP_goto (pc := 6) (tgt := 16) C dX12_tries_6 rfl ?_
    exact zP_mask [true, true, true, false, false] (wj_X12_tries_16 hT C E  hx1 hx2 (zRk rfl) h)
def f_X12_isMissed  (x1 : Int) (d : zD) : Option (Int × zD) :=
  zc (f_X12_counts  8 d) fun _ d =>
  zc (f_X12_grows  x1 14 d) fun _ d =>
  zc (f_X12_grows  x1 5 d) fun _ d =>
  zc (f_X12_of  x1 5 d) fun v22 d =>
  zg 800 8 <| zl (d 401 (8 : Int).toNat) fun v31 =>
  if (v22 : Int) < v31 then (
    some (0, d))
  else (
    zc (f_X12_of  x1 4 d) fun v38 d =>
    if (v38 : Int) = 0 then (
      some (0, d))
    else (
      zc (f_X12_puts  x1 4 0 d) fun _ d =>
      zc (f_X12_counts  9 d) fun _ d =>
      some (0, d)))
theorem t_X12_isMissed {V : zW}  (hT : zo12 V) {x1 : Int} (hx1 : zR x1) {d dz : zD} {rv : Int} (h : f_X12_isMissed  x1 d = some (rv, dz)) : zMet V 2 yX12_isMissed cX12_isMissed 2 none [.ref (zad V 400), .int (zI x1)] d none (rv = 0) dz := by
  refine zMet_by RX12 pn12 rfl (Nat.le_of_ble_eq_true rfl) [some (.ref (zad V 400)), some (.int (zI x1))] rfl fun X C E => ?_
  refine zP_aload_n (pc := 0) C (x := zad V 400) dX12_isMissed_0 rfl rfl ?_
  refine zP_bipush (pc := 1) C dX12_isMissed_1 rfl ?_
  obtain ⟨_, d1, hc, h⟩ := zc_h h
  refine zP_callV (pc := 3) (As := [.int (zI 8)]) (st := []) C m12_89 dX12_isMissed_3 (s_X12 hT) rfl (t_X12_counts hT (zRk rfl) hc) ⟨Nat.le_of_ble_eq_true rfl, Nat.le_of_ble_eq_true rfl⟩ rfl (Nat.le_of_ble_eq_true rfl) ⟨Nat.zero_le _, Nat.zero_le _⟩ fun hw => ?_
  clear hc hw
  show zP V X 2 0 0 6 _ [] d1
  revert h
  generalize d1 = d
  intro h
  refine zP_aload_n (pc := 6) C (x := zad V 400) dX12_isMissed_6 rfl rfl ?_
  refine zP_iload_n (pc := 7) C (x := zI x1) dX12_isMissed_7 rfl rfl ?_
  refine zP_bipush (pc := 8) C dX12_isMissed_8 rfl ?_
  obtain ⟨_, d1, hc, h⟩ := zc_h h
  refine zP_callV (pc := 10) (As := [.int (zI x1), .int (zI 14)]) (st := []) C m12_131 dX12_isMissed_10 (s_X12 hT) rfl (t_X12_grows hT hx1 (zRk rfl) hc) ⟨Nat.le_of_ble_eq_true rfl, Nat.le_of_ble_eq_true rfl⟩ rfl (Nat.le_of_ble_eq_true rfl) ⟨Nat.zero_le _, Nat.zero_le _⟩ fun hw => ?_
  clear hc hw
  show zP V X 2 0 0 13 _ [] d1
  revert h
  generalize d1 = d
  intro h
  refine zP_aload_n (pc := 13) C (x := zad V 400) dX12_isMissed_13 rfl rfl ?_
  refine zP_iload_n (pc := 14) C (x := zI x1) dX12_isMissed_14 rfl rfl ?_
  refine zP_iconst (pc := 15) C dX12_isMissed_15 ?_
  obtain ⟨_, d1, hc, h⟩ := zc_h h
  refine zP_callV (pc := 16) (As := [.int (zI x1), .int (zI 5)]) (st := []) C m12_131 dX12_isMissed_16 (s_X12 hT) rfl (t_X12_grows hT hx1 (zRk rfl) hc) ⟨Nat.le_of_ble_eq_true rfl, Nat.le_of_ble_eq_true rfl⟩ rfl (Nat.le_of_ble_eq_true rfl) ⟨Nat.zero_le _, Nat.zero_le _⟩ fun hw => ?_
  clear hc hw
  show zP V X 2 0 0 19 _ [] d1
  revert h
  generalize d1 = d
  intro h
  refine zP_aload_n (pc := 19) C (x := zad V 400) dX12_isMissed_19 rfl rfl ?_
  refine zP_iload_n (pc := 20) C (x := zI x1) dX12_isMissed_20 rfl rfl ?_
  refine zP_iconst (pc := 21) C dX12_isMissed_21 ?_
  obtain ⟨v22, d1, hc, h⟩ := zc_h h
  refine zP_callV (pc := 22) (As := [.int (zI x1), .int (zI 5)]) (st := []) C m12_57 dX12_isMissed_22 (s_X12 hT) rfl (t_X12_of hT hx1 (zRk rfl) hc) ⟨Nat.le_of_ble_eq_true rfl, Nat.le_of_ble_eq_true rfl⟩ rfl (Nat.le_of_ble_eq_true rfl) ⟨Nat.zero_le _, Nat.zero_le _⟩ fun hw => ?_
  have hv22 := hw
  clear hc hw
  show zP V X 2 0 0 25 _ [.int (zI v22)] d1
  revert h
  generalize d1 = d
  intro h
  refine zP_aload_n (pc := 25) C (x := zad V 400) dX12_isMissed_25 rfl rfl ?_
  refine zP_getR (pc := 26) (a := 400) (t := 401) C g12_13 dX12_isMissed_26 (s_X12 hT) rfl ?_
  refine zP_bipush (pc := 29) C dX12_isMissed_29 rfl ?_
  refine zP_iald (pc := 31) (a := 401) C dX12_isMissed_31 (s_X12_s hT) (zRk rfl) h fun v31 hv31 h => ?_
  refine zP_icmp_lt (pc := 32) (tgt := 44) C dX12_isMissed_32 rfl hv22 hv31 h (fun _ h => ?_) (fun _ h => ?_)
  · exact zP_vret (pc := 44) C E dX12_isMissed_44 h
  · refine zP_aload_n (pc := 35) C (x := zad V 400) dX12_isMissed_35 rfl rfl ?_
    refine zP_iload_n (pc := 36) C (x := zI x1) dX12_isMissed_36 rfl rfl ?_
    refine zP_iconst (pc := 37) C dX12_isMissed_37 ?_
    obtain ⟨v38, d1, hc, h⟩ := zc_h h
    refine zP_callV (pc := 38) (As := [.int (zI x1), .int (zI 4)]) (st := []) C m12_57 dX12_isMissed_38 (s_X12 hT) rfl (t_X12_of hT hx1 (zRk rfl) hc) ⟨Nat.le_of_ble_eq_true rfl, Nat.le_of_ble_eq_true rfl⟩ rfl (Nat.le_of_ble_eq_true rfl) ⟨Nat.zero_le _, Nat.zero_le _⟩ fun hw => ?_
    have hv38 := hw
    clear hc hw
    show zP V X 2 0 0 41 _ [.int (zI v38)] d1
    revert h
    generalize d1 = d
    intro h
    refine zP_if_ne (pc := 41) (tgt := 45) C dX12_isMissed_41 rfl hv38 h (fun _ h => ?_) (fun _ h => ?_)
    · refine zP_aload_n (pc := 45) C (x := zad V 400) dX12_isMissed_45 rfl rfl ?_
      refine zP_iload_n (pc := 46) C (x := zI x1) dX12_isMissed_46 rfl rfl ?_
      refine zP_iconst (pc := 47) C dX12_isMissed_47 ?_
      refine zP_iconst (pc := 48) C dX12_isMissed_48 ?_
      obtain ⟨_, d1, hc, h⟩ := zc_h h
      refine zP_callV (pc := 49) (As := [.int (zI x1), .int (zI 4), .int (zI 0)]) (st := []) C m12_61 dX12_isMissed_49 (s_X12 hT) rfl (t_X12_puts hT hx1 (zRk rfl) (zRk rfl) hc) ⟨Nat.le_of_ble_eq_true rfl, Nat.le_of_ble_eq_true rfl⟩ rfl (Nat.le_of_ble_eq_true rfl) ⟨Nat.zero_le _, Nat.zero_le _⟩ fun hw => ?_
      clear hc hw
      show zP V X 2 0 0 52 _ [] d1
      revert h
      generalize d1 = d
      intro h
      refine zP_aload_n (pc := 52) C (x := zad V 400) dX12_isMissed_52 rfl rfl ?_
      refine zP_bipush (pc := 53) C dX12_isMissed_53 rfl ?_
      obtain ⟨_, d1, hc, h⟩ := zc_h h
      refine zP_callV (pc := 55) (As := [.int (zI 9)]) (st := []) C m12_89 dX12_isMissed_55 (s_X12 hT) rfl (t_X12_counts hT (zRk rfl) hc) ⟨Nat.le_of_ble_eq_true rfl, Nat.le_of_ble_eq_true rfl⟩ rfl (Nat.le_of_ble_eq_true rfl) ⟨Nat.zero_le _, Nat.zero_le _⟩ fun hw => ?_
      clear hc hw
      show zP V X 2 0 0 58 _ [] d1
      revert h
      generalize d1 = d
      intro h
      exact zP_vret (pc := 58) C E dX12_isMissed_58 h
    · exact zP_vret (pc := 44) C E dX12_isMissed_44 h
def l_X12_nextOff_2F  (r2 : Int → zD → Option (Int × zD)) (x1 : Int) (d : zD) : Option (Int × zD) :=
  zc (f_X12_many   d) fun v4 d =>
  if (v4 : Int) < x1 then (
    some ((-1), d))
  else (
    zg 800 28 <| zl (d 401 (28 : Int).toNat) fun v16 =>
    zl (zw (v16 + x1)) fun v18 =>
    zc (f_X12_many   d) fun v20 d =>
    zn v20 <| zl (zrem v18 v20) fun v23 =>
    zc (f_X12_of  v23 4 d) fun v28 d =>
    if (v28 : Int) = 0 then (
      some (v23, d))
    else (
      zl (zw (x1 + 1)) fun v36 =>
      r2 v36 d))
theorem wl_X12_nextOff_2F {V : zW} {X : zX}  (hT : zo12 V) (C : zOk V X cX12_nextOff RX12 3 (zrm 1) (some .int)) {rv : Int} {dz : zD} (E : zEnd V X (some (.int (zI rv))) (zR rv) dz) {r2 : Int → zD → Option (Int × zD)} (hr2 : ∀ {x1 : Int} {d : zD}, zR x1 → r2 x1 d = some (rv, dz) → zP V X 3 0 0 2 [some (.ref (zad V 400)), some (.int (zI x1)), none] [] d) {x1 : Int} (hx1 : zR x1) {d : zD} (h : l_X12_nextOff_2F  r2 x1 d = some (rv, dz)) : zP V X 3 0 0 2 [some (.ref (zad V 400)), some (.int (zI x1)), none] [] d := by
  refine zP_iload_n (pc := 2) C (x := zI x1) dX12_nextOff_2 rfl rfl ?_
  refine zP_aload_n (pc := 3) C (x := zad V 400) dX12_nextOff_3 rfl rfl ?_
  obtain ⟨v4, d1, hc, h⟩ := zc_h h
  refine zP_callV (pc := 4) (As := []) (st := [.int (zI x1)]) C m12_49 dX12_nextOff_4 (s_X12 hT) rfl (t_X12_many hT  hc) ⟨Nat.le_of_ble_eq_true rfl, Nat.le_of_ble_eq_true rfl⟩ rfl (Nat.le_of_ble_eq_true rfl) ⟨Nat.zero_le _, Nat.zero_le _⟩ fun hw => ?_
  have hv4 := hw
  clear hc hw
  show zP V X 3 0 0 7 _ [.int (zI v4), .int (zI x1)] d1
  revert h
  generalize d1 = d
  intro h
  refine zP_icmp_gt (pc := 7) (tgt := 42) C dX12_nextOff_7 rfl hx1 hv4 h (fun _ h => ?_) (fun _ h => ?_)
  · refine zP_iconst (pc := 42) C dX12_nextOff_42 ?_
    exact zP_iret (pc := 43) C E dX12_nextOff_43 (zRk rfl) h
  · refine zP_aload_n (pc := 10) C (x := zad V 400) dX12_nextOff_10 rfl rfl ?_
    refine zP_getR (pc := 11) (a := 400) (t := 401) C g12_13 dX12_nextOff_11 (s_X12 hT) rfl ?_
    refine zP_bipush (pc := 14) C dX12_nextOff_14 rfl ?_
    refine zP_iald (pc := 16) (a := 401) C dX12_nextOff_16 (s_X12_s hT) (zRk rfl) h fun v16 hv16 h => ?_
    refine zP_iload_n (pc := 17) C (x := zI x1) dX12_nextOff_17 rfl rfl ?_
    refine zP_iadd (pc := 18) C dX12_nextOff_18 h fun v18 hv18 h => ?_
    refine zP_aload_n (pc := 19) C (x := zad V 400) dX12_nextOff_19 rfl rfl ?_
    obtain ⟨v20, d1, hc, h⟩ := zc_h h
    refine zP_callV (pc := 20) (As := []) (st := [.int (zI v18)]) C m12_49 dX12_nextOff_20 (s_X12 hT) rfl (t_X12_many hT  hc) ⟨Nat.le_of_ble_eq_true rfl, Nat.le_of_ble_eq_true rfl⟩ rfl (Nat.le_of_ble_eq_true rfl) ⟨Nat.zero_le _, Nat.zero_le _⟩ fun hw => ?_
    have hv20 := hw
    clear hc hw
    show zP V X 3 0 0 23 _ [.int (zI v20), .int (zI v18)] d1
    revert h
    generalize d1 = d
    intro h
    refine zP_irem (pc := 23) C dX12_nextOff_23 hv20 h fun v23 hv23 h => ?_
    refine zP_istore_n (pc := 24) C (L' := [some (.ref (zad V 400)), some (.int (zI x1)), some (.int (zI v23))]) dX12_nextOff_24 rfl (Nat.le_of_ble_eq_true rfl) rfl rfl ?_
    refine zP_aload_n (pc := 25) C (x := zad V 400) dX12_nextOff_25 rfl rfl ?_
    refine zP_iload_n (pc := 26) C (x := zI v23) dX12_nextOff_26 rfl rfl ?_
    refine zP_iconst (pc := 27) C dX12_nextOff_27 ?_
    obtain ⟨v28, d1, hc, h⟩ := zc_h h
    refine zP_callV (pc := 28) (As := [.int (zI v23), .int (zI 4)]) (st := []) C m12_57 dX12_nextOff_28 (s_X12 hT) rfl (t_X12_of hT hv23 (zRk rfl) hc) ⟨Nat.le_of_ble_eq_true rfl, Nat.le_of_ble_eq_true rfl⟩ rfl (Nat.le_of_ble_eq_true rfl) ⟨Nat.zero_le _, Nat.zero_le _⟩ fun hw => ?_
    have hv28 := hw
    clear hc hw
    show zP V X 3 0 0 31 _ [.int (zI v28)] d1
    revert h
    generalize d1 = d
    intro h
    refine zP_if_ne (pc := 31) (tgt := 36) C dX12_nextOff_31 rfl hv28 h (fun _ h => ?_) (fun _ h => ?_)
    · refine zP_iinc (pc := 36) C (x := x1) dX12_nextOff_36 rfl (Nat.le_of_ble_eq_true rfl) rfl h fun v36 hv36 h => ?_
      show zP V X 3 0 0 39 [some (.ref (zad V 400)), some (.int (zI v36)), some (.int (zI v23))] _ _
      refine zP_goto (pc := 39) (tgt := 2) C dX12_nextOff_39 rfl ?_
      exact zP_mask [true, true, false] (hr2 hv36 h)
    · refine zP_iload_n (pc := 34) C (x := zI v23) dX12_nextOff_34 rfl rfl ?_
      exact zP_iret (pc := 35) C E dX12_nextOff_35 hv23 h
def l_X12_nextOff_2   : Nat → Int → zD → Option (Int × zD)
  | 0, _, _ => none
  | q + 1, x1, d => l_X12_nextOff_2F   (l_X12_nextOff_2   q) x1 d
theorem wl_X12_nextOff_2 {V : zW} {X : zX}  (hT : zo12 V) (C : zOk V X cX12_nextOff RX12 3 (zrm 1) (some .int)) {rv : Int} {dz : zD} (E : zEnd V X (some (.int (zI rv))) (zR rv) dz)  : ∀ (q : Nat) {x1 : Int} (hx1 : zR x1) {d : zD} (h : l_X12_nextOff_2   q x1 d = some (rv, dz)), zP V X 3 0 0 2 [some (.ref (zad V 400)), some (.int (zI x1)), none] [] d := by
  intro q
  induction q with
  | zero => intro x1 hx1 d h; cases (show (none : Option (Int × zD)) = some (rv, dz) from h)
  | succ q ih =>
    intro x1 hx1 d h
    exact wl_X12_nextOff_2F hT C E  (fun  hx1 h => ih hx1 h) hx1 h
def f_X12_nextOff  (d : zD) : Option (Int × zD) :=
  l_X12_nextOff_2   zF 1 d
theorem t_X12_nextOff {V : zW}  (hT : zo12 V)   {d dz : zD} {rv : Int} (h : f_X12_nextOff   d = some (rv, dz)) : zMet V 1 yX12_nextOff cX12_nextOff 3 (some .int) [.ref (zad V 400)] d (some (.int (zI rv))) (zR rv) dz := by
  refine zMet_by RX12 pn12 rfl (Nat.le_of_ble_eq_true rfl) [some (.ref (zad V 400)), none, none] rfl fun X C E => ?_
  refine zP_iconst (pc := 0) C dX12_nextOff_0 ?_
  refine zP_istore_n (pc := 1) C (L' := [some (.ref (zad V 400)), some (.int (zI 1)), none]) dX12_nextOff_1 rfl (Nat.le_of_ble_eq_true rfl) rfl rfl ?_
  exact zP_mask [true, true, false] (wl_X12_nextOff_2 hT C E  zF (zRk rfl) h)
def l_X12_nextSelected_2F  (r2 : Int → zD → Option (Int × zD)) (x1 : Int) (d : zD) : Option (Int × zD) :=
  zc (f_X12_many   d) fun v4 d =>
  if (v4 : Int) < x1 then (
    some ((-1), d))
  else (
    zg 800 27 <| zl (d 401 (27 : Int).toNat) fun v16 =>
    zl (zw (v16 + x1)) fun v18 =>
    zc (f_X12_many   d) fun v20 d =>
    zn v20 <| zl (zrem v18 v20) fun v23 =>
    zc (f_X12_of  v23 4 d) fun v28 d =>
    if (v28 : Int) = 1 then (
      zc (f_X12_inRowMany  v23 1 d) fun v38 d =>
      if (v38 : Int) ≤ 0 then (
        zl (zw (x1 + 1)) fun v46 =>
        r2 v46 d)
      else (
        some (v23, d)))
    else (
      zl (zw (x1 + 1)) fun v46 =>
      r2 v46 d))
theorem wl_X12_nextSelected_2F {V : zW} {X : zX}  (hT : zo12 V) (C : zOk V X cX12_nextSelected RX12 3 (zrm 3) (some .int)) {rv : Int} {dz : zD} (E : zEnd V X (some (.int (zI rv))) (zR rv) dz) {r2 : Int → zD → Option (Int × zD)} (hr2 : ∀ {x1 : Int} {d : zD}, zR x1 → r2 x1 d = some (rv, dz) → zP V X 3 0 0 2 [some (.ref (zad V 400)), some (.int (zI x1)), none] [] d) {x1 : Int} (hx1 : zR x1) {d : zD} (h : l_X12_nextSelected_2F  r2 x1 d = some (rv, dz)) : zP V X 3 0 0 2 [some (.ref (zad V 400)), some (.int (zI x1)), none] [] d := by
  refine zP_iload_n (pc := 2) C (x := zI x1) dX12_nextSelected_2 rfl rfl ?_
  refine zP_aload_n (pc := 3) C (x := zad V 400) dX12_nextSelected_3 rfl rfl ?_
  obtain ⟨v4, d1, hc, h⟩ := zc_h h
  refine zP_callV (pc := 4) (As := []) (st := [.int (zI x1)]) C m12_49 dX12_nextSelected_4 (s_X12 hT) rfl (t_X12_many hT  hc) ⟨Nat.le_of_ble_eq_true rfl, Nat.le_of_ble_eq_true rfl⟩ rfl (Nat.le_of_ble_eq_true rfl) ⟨Nat.zero_le _, Nat.zero_le _⟩ fun hw => ?_
  have hv4 := hw
  clear hc hw
  show zP V X 3 0 0 7 _ [.int (zI v4), .int (zI x1)] d1
  revert h
  generalize d1 = d
  intro h
  refine zP_icmp_gt (pc := 7) (tgt := 52) C dX12_nextSelected_7 rfl hx1 hv4 h (fun _ h => ?_) (fun _ h => ?_)
  · refine zP_iconst (pc := 52) C dX12_nextSelected_52 ?_
    exact zP_iret (pc := 53) C E dX12_nextSelected_53 (zRk rfl) h
  · refine zP_aload_n (pc := 10) C (x := zad V 400) dX12_nextSelected_10 rfl rfl ?_
    refine zP_getR (pc := 11) (a := 400) (t := 401) C g12_13 dX12_nextSelected_11 (s_X12 hT) rfl ?_
    refine zP_bipush (pc := 14) C dX12_nextSelected_14 rfl ?_
    refine zP_iald (pc := 16) (a := 401) C dX12_nextSelected_16 (s_X12_s hT) (zRk rfl) h fun v16 hv16 h => ?_
    refine zP_iload_n (pc := 17) C (x := zI x1) dX12_nextSelected_17 rfl rfl ?_
    refine zP_iadd (pc := 18) C dX12_nextSelected_18 h fun v18 hv18 h => ?_
    refine zP_aload_n (pc := 19) C (x := zad V 400) dX12_nextSelected_19 rfl rfl ?_
    obtain ⟨v20, d1, hc, h⟩ := zc_h h
    refine zP_callV (pc := 20) (As := []) (st := [.int (zI v18)]) C m12_49 dX12_nextSelected_20 (s_X12 hT) rfl (t_X12_many hT  hc) ⟨Nat.le_of_ble_eq_true rfl, Nat.le_of_ble_eq_true rfl⟩ rfl (Nat.le_of_ble_eq_true rfl) ⟨Nat.zero_le _, Nat.zero_le _⟩ fun hw => ?_
    have hv20 := hw
    clear hc hw
    show zP V X 3 0 0 23 _ [.int (zI v20), .int (zI v18)] d1
    revert h
    generalize d1 = d
    intro h
    refine zP_irem (pc := 23) C dX12_nextSelected_23 hv20 h fun v23 hv23 h => ?_
    refine zP_istore_n (pc := 24) C (L' := [some (.ref (zad V 400)), some (.int (zI x1)), some (.int (zI v23))]) dX12_nextSelected_24 rfl (Nat.le_of_ble_eq_true rfl) rfl rfl ?_
    refine zP_aload_n (pc := 25) C (x := zad V 400) dX12_nextSelected_25 rfl rfl ?_
    refine zP_iload_n (pc := 26) C (x := zI v23) dX12_nextSelected_26 rfl rfl ?_
    refine zP_iconst (pc := 27) C dX12_nextSelected_27 ?_
    obtain ⟨v28, d1, hc, h⟩ := zc_h h
    refine zP_callV (pc := 28) (As := [.int (zI v23), .int (zI 4)]) (st := []) C m12_57 dX12_nextSelected_28 (s_X12 hT) rfl (t_X12_of hT hv23 (zRk rfl) hc) ⟨Nat.le_of_ble_eq_true rfl, Nat.le_of_ble_eq_true rfl⟩ rfl (Nat.le_of_ble_eq_true rfl) ⟨Nat.zero_le _, Nat.zero_le _⟩ fun hw => ?_
    have hv28 := hw
    clear hc hw
    show zP V X 3 0 0 31 _ [.int (zI v28)] d1
    revert h
    generalize d1 = d
    intro h
    refine zP_iconst (pc := 31) C dX12_nextSelected_31 ?_
    refine zP_icmp_ne (pc := 32) (tgt := 46) C dX12_nextSelected_32 rfl hv28 (zRk rfl) h (fun _ h => ?_) (fun _ h => ?_)
    · refine zP_iinc (pc := 46) C (x := x1) dX12_nextSelected_46 rfl (Nat.le_of_ble_eq_true rfl) rfl h fun v46 hv46 h => ?_
      show zP V X 3 0 0 49 [some (.ref (zad V 400)), some (.int (zI v46)), some (.int (zI v23))] _ _
      refine zP_goto (pc := 49) (tgt := 2) C dX12_nextSelected_49 rfl ?_
      exact zP_mask [true, true, false] (hr2 hv46 h)
    · refine zP_aload_n (pc := 35) C (x := zad V 400) dX12_nextSelected_35 rfl rfl ?_
      refine zP_iload_n (pc := 36) C (x := zI v23) dX12_nextSelected_36 rfl rfl ?_
      refine zP_iconst (pc := 37) C dX12_nextSelected_37 ?_
      obtain ⟨v38, d1, hc, h⟩ := zc_h h
      refine zP_callV (pc := 38) (As := [.int (zI v23), .int (zI 1)]) (st := []) C m12_115 dX12_nextSelected_38 (s_X12 hT) rfl (t_X12_inRowMany hT hv23 (zRk rfl) hc) ⟨Nat.le_of_ble_eq_true rfl, Nat.le_of_ble_eq_true rfl⟩ rfl (Nat.le_of_ble_eq_true rfl) ⟨Nat.zero_le _, Nat.zero_le _⟩ fun hw => ?_
      have hv38 := hw
      clear hc hw
      show zP V X 3 0 0 41 _ [.int (zI v38)] d1
      revert h
      generalize d1 = d
      intro h
      refine zP_if_le (pc := 41) (tgt := 46) C dX12_nextSelected_41 rfl hv38 h (fun _ h => ?_) (fun _ h => ?_)
      · refine zP_iinc (pc := 46) C (x := x1) dX12_nextSelected_46 rfl (Nat.le_of_ble_eq_true rfl) rfl h fun v46 hv46 h => ?_
        show zP V X 3 0 0 49 [some (.ref (zad V 400)), some (.int (zI v46)), some (.int (zI v23))] _ _
        refine zP_goto (pc := 49) (tgt := 2) C dX12_nextSelected_49 rfl ?_
        exact zP_mask [true, true, false] (hr2 hv46 h)
      · refine zP_iload_n (pc := 44) C (x := zI v23) dX12_nextSelected_44 rfl rfl ?_
        exact zP_iret (pc := 45) C E dX12_nextSelected_45 hv23 h
def l_X12_nextSelected_2   : Nat → Int → zD → Option (Int × zD)
  | 0, _, _ => none
  | q + 1, x1, d => l_X12_nextSelected_2F   (l_X12_nextSelected_2   q) x1 d
theorem wl_X12_nextSelected_2 {V : zW} {X : zX}  (hT : zo12 V) (C : zOk V X cX12_nextSelected RX12 3 (zrm 3) (some .int)) {rv : Int} {dz : zD} (E : zEnd V X (some (.int (zI rv))) (zR rv) dz)  : ∀ (q : Nat) {x1 : Int} (hx1 : zR x1) {d : zD} (h : l_X12_nextSelected_2   q x1 d = some (rv, dz)), zP V X 3 0 0 2 [some (.ref (zad V 400)), some (.int (zI x1)), none] [] d := by
  intro q
  induction q with
  | zero => intro x1 hx1 d h; cases (show (none : Option (Int × zD)) = some (rv, dz) from h)
  | succ q ih =>
    intro x1 hx1 d h
    exact wl_X12_nextSelected_2F hT C E  (fun  hx1 h => ih hx1 h) hx1 h
def f_X12_nextSelected  (d : zD) : Option (Int × zD) :=
  l_X12_nextSelected_2   zF 1 d
theorem t_X12_nextSelected {V : zW}  (hT : zo12 V)   {d dz : zD} {rv : Int} (h : f_X12_nextSelected   d = some (rv, dz)) : zMet V 3 yX12_nextSelected cX12_nextSelected 3 (some .int) [.ref (zad V 400)] d (some (.int (zI rv))) (zR rv) dz := by
  refine zMet_by RX12 pn12 rfl (Nat.le_of_ble_eq_true rfl) [some (.ref (zad V 400)), none, none] rfl fun X C E => ?_
  refine zP_iconst (pc := 0) C dX12_nextSelected_0 ?_
  refine zP_istore_n (pc := 1) C (L' := [some (.ref (zad V 400)), some (.int (zI 1)), none]) dX12_nextSelected_1 rfl (Nat.le_of_ble_eq_true rfl) rfl rfl ?_
  exact zP_mask [true, true, false] (wl_X12_nextSelected_2 hT C E  zF (zRk rfl) h)
def l_X12_nextPlace_34F  (r34 : Int → Int → Int → zD → Option (Int × zD)) (x1 x2 x3 : Int) (d : zD) : Option (Int × zD) :=
  if (x1 : Int) < x3 then (
    some ((-1), d))
  else (
    zl (zw (x2 + x3)) fun v41 =>
    zn x1 <| zl (zrem v41 x1) fun v43 =>
    zl (zw (30 + v43)) fun v55 =>
    zg 800 v55 <| zl (d 401 (v55 : Int).toNat) fun v56 =>
    zc (f_X12_of  v56 4 d) fun v58 d =>
    if (v58 : Int) = 1 then (
      some (v43, d))
    else (
      zl (zw (x3 + 1)) fun v68 =>
      r34 x1 x2 v68 d))
theorem wl_X12_nextPlace_34F {V : zW} {X : zX}  (hT : zo12 V) (C : zOk V X cX12_nextPlace RX12 5 (zrm 1) (some .int)) {rv : Int} {dz : zD} (E : zEnd V X (some (.int (zI rv))) (zR rv) dz) {r34 : Int → Int → Int → zD → Option (Int × zD)} (hr34 : ∀ {x1 x2 x3 : Int} {d : zD}, zR x1 → zR x2 → zR x3 → r34 x1 x2 x3 d = some (rv, dz) → zP V X 5 0 0 34 [some (.ref (zad V 400)), some (.int (zI x1)), some (.int (zI x2)), some (.int (zI x3)), none] [] d) {x1 x2 x3 : Int} (hx1 : zR x1) (hx2 : zR x2) (hx3 : zR x3) {d : zD} (h : l_X12_nextPlace_34F  r34 x1 x2 x3 d = some (rv, dz)) : zP V X 5 0 0 34 [some (.ref (zad V 400)), some (.int (zI x1)), some (.int (zI x2)), some (.int (zI x3)), none] [] d := by
  refine zP_iload_n (pc := 34) C (x := zI x3) dX12_nextPlace_34 rfl rfl ?_
  refine zP_iload_n (pc := 35) C (x := zI x1) dX12_nextPlace_35 rfl rfl ?_
  refine zP_icmp_gt (pc := 36) (tgt := 74) C dX12_nextPlace_36 rfl hx3 hx1 h (fun _ h => ?_) (fun _ h => ?_)
  · refine zP_iconst (pc := 74) C dX12_nextPlace_74 ?_
    exact zP_iret (pc := 75) C E dX12_nextPlace_75 (zRk rfl) h
  · refine zP_iload_n (pc := 39) C (x := zI x2) dX12_nextPlace_39 rfl rfl ?_
    refine zP_iload_n (pc := 40) C (x := zI x3) dX12_nextPlace_40 rfl rfl ?_
    refine zP_iadd (pc := 41) C dX12_nextPlace_41 h fun v41 hv41 h => ?_
    refine zP_iload_n (pc := 42) C (x := zI x1) dX12_nextPlace_42 rfl rfl ?_
    refine zP_irem (pc := 43) C dX12_nextPlace_43 hx1 h fun v43 hv43 h => ?_
    refine zP_istore (pc := 44) C (L' := [some (.ref (zad V 400)), some (.int (zI x1)), some (.int (zI x2)), some (.int (zI x3)), some (.int (zI v43))]) dX12_nextPlace_44 (Nat.le_of_ble_eq_true rfl) rfl rfl ?_
    refine zP_aload_n (pc := 46) C (x := zad V 400) dX12_nextPlace_46 rfl rfl ?_
    refine zP_aload_n (pc := 47) C (x := zad V 400) dX12_nextPlace_47 rfl rfl ?_
    refine zP_getR (pc := 48) (a := 400) (t := 401) C g12_13 dX12_nextPlace_48 (s_X12 hT) rfl ?_
    refine zP_bipush (pc := 51) C dX12_nextPlace_51 rfl ?_
    refine zP_iload (pc := 53) C (x := zI v43) dX12_nextPlace_53 rfl ?_
    refine zP_iadd (pc := 55) C dX12_nextPlace_55 h fun v55 hv55 h => ?_
    refine zP_iald (pc := 56) (a := 401) C dX12_nextPlace_56 (s_X12_s hT) hv55 h fun v56 hv56 h => ?_
    refine zP_iconst (pc := 57) C dX12_nextPlace_57 ?_
    obtain ⟨v58, d1, hc, h⟩ := zc_h h
    refine zP_callV (pc := 58) (As := [.int (zI v56), .int (zI 4)]) (st := []) C m12_57 dX12_nextPlace_58 (s_X12 hT) rfl (t_X12_of hT hv56 (zRk rfl) hc) ⟨Nat.le_of_ble_eq_true rfl, Nat.le_of_ble_eq_true rfl⟩ rfl (Nat.le_of_ble_eq_true rfl) ⟨Nat.zero_le _, Nat.zero_le _⟩ fun hw => ?_
    have hv58 := hw
    clear hc hw
    show zP V X 5 0 0 61 _ [.int (zI v58)] d1
    revert h
    generalize d1 = d
    intro h
    refine zP_iconst (pc := 61) C dX12_nextPlace_61 ?_
    refine zP_icmp_ne (pc := 62) (tgt := 68) C dX12_nextPlace_62 rfl hv58 (zRk rfl) h (fun _ h => ?_) (fun _ h => ?_)
    · refine zP_iinc (pc := 68) C (x := x3) dX12_nextPlace_68 rfl (Nat.le_of_ble_eq_true rfl) rfl h fun v68 hv68 h => ?_
      show zP V X 5 0 0 71 [some (.ref (zad V 400)), some (.int (zI x1)), some (.int (zI x2)), some (.int (zI v68)), some (.int (zI v43))] _ _
      refine zP_goto (pc := 71) (tgt := 34) C dX12_nextPlace_71 rfl ?_
      exact zP_mask [true, true, true, true, false] (hr34 hx1 hx2 hv68 h)
    · refine zP_iload (pc := 65) C (x := zI v43) dX12_nextPlace_65 rfl ?_
      exact zP_iret (pc := 67) C E dX12_nextPlace_67 hv43 h
def l_X12_nextPlace_34   : Nat → Int → Int → Int → zD → Option (Int × zD)
  | 0, _, _, _, _ => none
  | q + 1, x1, x2, x3, d => l_X12_nextPlace_34F   (l_X12_nextPlace_34   q) x1 x2 x3 d
theorem wl_X12_nextPlace_34 {V : zW} {X : zX}  (hT : zo12 V) (C : zOk V X cX12_nextPlace RX12 5 (zrm 1) (some .int)) {rv : Int} {dz : zD} (E : zEnd V X (some (.int (zI rv))) (zR rv) dz)  : ∀ (q : Nat) {x1 x2 x3 : Int} (hx1 : zR x1) (hx2 : zR x2) (hx3 : zR x3) {d : zD} (h : l_X12_nextPlace_34   q x1 x2 x3 d = some (rv, dz)), zP V X 5 0 0 34 [some (.ref (zad V 400)), some (.int (zI x1)), some (.int (zI x2)), some (.int (zI x3)), none] [] d := by
  intro q
  induction q with
  | zero => intro x1 x2 x3 hx1 hx2 hx3 d h; cases (show (none : Option (Int × zD)) = some (rv, dz) from h)
  | succ q ih =>
    intro x1 x2 x3 hx1 hx2 hx3 d h
    exact wl_X12_nextPlace_34F hT C E  (fun  hx1 hx2 hx3 h => ih hx1 hx2 hx3 h) hx1 hx2 hx3 h
def j_X12_nextPlace_31   (x1 s0 : Int) (d : zD) : Option (Int × zD) :=
  l_X12_nextPlace_34   zF x1 s0 1 d
theorem wj_X12_nextPlace_31 {V : zW} {X : zX}  (hT : zo12 V) (C : zOk V X cX12_nextPlace RX12 5 (zrm 1) (some .int)) {rv : Int} {dz : zD} (E : zEnd V X (some (.int (zI rv))) (zR rv) dz)  {x1 s0 : Int} (hx1 : zR x1) (hs0 : zR s0) {d : zD} (h : j_X12_nextPlace_31   x1 s0 d = some (rv, dz)) : zP V X 5 0 0 31 [some (.ref (zad V 400)), some (.int (zI x1)), none, none, none] [.int (zI s0)] d := by
  refine zP_istore_n (pc := 31) C (L' := [some (.ref (zad V 400)), some (.int (zI x1)), some (.int (zI s0)), none, none]) dX12_nextPlace_31 rfl (Nat.le_of_ble_eq_true rfl) rfl rfl ?_
  refine zP_iconst (pc := 32) C dX12_nextPlace_32 ?_
  refine zP_istore_n (pc := 33) C (L' := [some (.ref (zad V 400)), some (.int (zI x1)), some (.int (zI s0)), some (.int (zI 1)), none]) dX12_nextPlace_33 rfl (Nat.le_of_ble_eq_true rfl) rfl rfl ?_
  exact zP_mask [true, true, true, true, false] (wl_X12_nextPlace_34 hT C E  zF hx1 hs0 (zRk rfl) h)
def f_X12_nextPlace  (d : zD) : Option (Int × zD) :=
  zg 800 1 <| zl (d 401 (1 : Int).toNat) fun v5 =>
  zg 800 26 <| zl (d 401 (26 : Int).toNat) fun v13 =>
  if (v5 : Int) ≤ v13 then (
    zl (zw (v5 - 1)) fun v30 =>
    j_X12_nextPlace_31   v5 v30 d)
  else (
    zg 800 26 <| zl (d 401 (26 : Int).toNat) fun v24 =>
    j_X12_nextPlace_31   v5 v24 d)
theorem t_X12_nextPlace {V : zW}  (hT : zo12 V)   {d dz : zD} {rv : Int} (h : f_X12_nextPlace   d = some (rv, dz)) : zMet V 1 yX12_nextPlace cX12_nextPlace 5 (some .int) [.ref (zad V 400)] d (some (.int (zI rv))) (zR rv) dz := by
  refine zMet_by RX12 pn12 rfl (Nat.le_of_ble_eq_true rfl) [some (.ref (zad V 400)), none, none, none, none] rfl fun X C E => ?_
  refine zP_aload_n (pc := 0) C (x := zad V 400) dX12_nextPlace_0 rfl rfl ?_
  refine zP_getR (pc := 1) (a := 400) (t := 401) C g12_13 dX12_nextPlace_1 (s_X12 hT) rfl ?_
  refine zP_iconst (pc := 4) C dX12_nextPlace_4 ?_
  refine zP_iald (pc := 5) (a := 401) C dX12_nextPlace_5 (s_X12_s hT) (zRk rfl) h fun v5 hv5 h => ?_
  refine zP_istore_n (pc := 6) C (L' := [some (.ref (zad V 400)), some (.int (zI v5)), none, none, none]) dX12_nextPlace_6 rfl (Nat.le_of_ble_eq_true rfl) rfl rfl ?_
  refine zP_aload_n (pc := 7) C (x := zad V 400) dX12_nextPlace_7 rfl rfl ?_
  refine zP_getR (pc := 8) (a := 400) (t := 401) C g12_13 dX12_nextPlace_8 (s_X12 hT) rfl ?_
  refine zP_bipush (pc := 11) C dX12_nextPlace_11 rfl ?_
  refine zP_iald (pc := 13) (a := 401) C dX12_nextPlace_13 (s_X12_s hT) (zRk rfl) h fun v13 hv13 h => ?_
  refine zP_iload_n (pc := 14) C (x := zI v5) dX12_nextPlace_14 rfl rfl ?_
  refine zP_icmp_ge (pc := 15) (tgt := 28) C dX12_nextPlace_15 rfl hv13 hv5 h (fun _ h => ?_) (fun _ h => ?_)
  · refine zP_iload_n (pc := 28) C (x := zI v5) dX12_nextPlace_28 rfl rfl ?_
    refine zP_iconst (pc := 29) C dX12_nextPlace_29 ?_
    refine zP_isub (pc := 30) C dX12_nextPlace_30 h fun v30 hv30 h => ?_
    exact zP_mask [true, true, false, false, false] (wj_X12_nextPlace_31 hT C E  hv5 hv30 h)
  · refine zP_aload_n (pc := 18) C (x := zad V 400) dX12_nextPlace_18 rfl rfl ?_
    refine zP_getR (pc := 19) (a := 400) (t := 401) C g12_13 dX12_nextPlace_19 (s_X12 hT) rfl ?_
    refine zP_bipush (pc := 22) C dX12_nextPlace_22 rfl ?_
    refine zP_iald (pc := 24) (a := 401) C dX12_nextPlace_24 (s_X12_s hT) (zRk rfl) h fun v24 hv24 h => ?_
    refine zP_goto (pc := 25) (tgt := 31) C dX12_nextPlace_25 rfl ?_
    exact zP_mask [true, true, false, false, false] (wj_X12_nextPlace_31 hT C E  hv5 hv24 h)
def j_X12_next_88   (x3 : Int) (d : zD) : Option (Int × zD) :=
  zc (f_X12_nextPlace   d) fun v90 d =>
  zl (zu d 400 9 v90) fun d =>
  zl (d 400 9) fun v97 =>
  if (v97 : Int) = (-1) then (
    if (x3 : Int) = (-1) then (
      some (3, d))
    else (
      some (1, d)))
  else (
    zl (d 400 9) fun v112 =>
    zl (zw (30 + v112)) fun v115 =>
    zg 800 v115 <| zl (d 401 (v115 : Int).toNat) fun v116 =>
    zl (zu d 400 8 v116) fun d =>
    some (0, d))
theorem wj_X12_next_88 {V : zW} {X : zX}  (hT : zo12 V) (C : zOk V X cX12_next RX12 4 (zrm 4) (some .int)) {rv : Int} {dz : zD} (E : zEnd V X (some (.int (zI rv))) (zR rv) dz)  {x3 : Int} (hx3 : zR x3) {d : zD} (h : j_X12_next_88   x3 d = some (rv, dz)) : zP V X 4 0 0 88 [some (.ref (zad V 400)), none, none, some (.int (zI x3))] [] d := by
  refine zP_aload_n (pc := 88) C (x := zad V 400) dX12_next_88 rfl rfl ?_
  refine zP_aload_n (pc := 89) C (x := zad V 400) dX12_next_89 rfl rfl ?_
  obtain ⟨v90, d1, hc, h⟩ := zc_h h
  refine zP_callV (pc := 90) (As := []) (st := [.ref (zad V 400)]) C m12_146 dX12_next_90 (s_X12 hT) rfl (t_X12_nextPlace hT  hc) ⟨Nat.le_of_ble_eq_true rfl, Nat.le_of_ble_eq_true rfl⟩ rfl (Nat.le_of_ble_eq_true rfl) ⟨Nat.zero_le _, Nat.zero_le _⟩ fun hw => ?_
  have hv90 := hw
  clear hc hw
  show zP V X 4 0 0 93 _ [.int (zI v90), .ref (zad V 400)] d1
  revert h
  generalize d1 = d
  intro h
  refine zP_putI (pc := 93) (a := 400) C p12_134 dX12_next_93 (s_X12 hT) rfl hv90 h fun d h => ?_
  refine zP_aload_n (pc := 96) C (x := zad V 400) dX12_next_96 rfl rfl ?_
  refine zP_getI (pc := 97) (a := 400) C g12_134 dX12_next_97 (s_X12 hT) rfl h fun v97 hv97 h => ?_
  refine zP_iconst (pc := 100) C dX12_next_100 ?_
  refine zP_icmp_eq (pc := 101) (tgt := 122) C dX12_next_101 rfl hv97 (zRk rfl) h (fun _ h => ?_) (fun _ h => ?_)
  · refine zP_iload_n (pc := 122) C (x := zI x3) dX12_next_122 rfl rfl ?_
    refine zP_iconst (pc := 123) C dX12_next_123 ?_
    refine zP_icmp_eq (pc := 124) (tgt := 131) C dX12_next_124 rfl hx3 (zRk rfl) h (fun _ h => ?_) (fun _ h => ?_)
    · refine zP_iconst (pc := 131) C dX12_next_131 ?_
      exact zP_iret (pc := 132) C E dX12_next_132 (zRk rfl) h
    · refine zP_iconst (pc := 127) C dX12_next_127 ?_
      refine zP_goto (pc := 128) (tgt := 132) C dX12_next_128 rfl ?_
      exact zP_iret (pc := 132) C E dX12_next_132 (zRk rfl) h
  · refine zP_aload_n (pc := 104) C (x := zad V 400) dX12_next_104 rfl rfl ?_
    refine zP_aload_n (pc := 105) C (x := zad V 400) dX12_next_105 rfl rfl ?_
    refine zP_getR (pc := 106) (a := 400) (t := 401) C g12_13 dX12_next_106 (s_X12 hT) rfl ?_
    refine zP_bipush (pc := 109) C dX12_next_109 rfl ?_
    refine zP_aload_n (pc := 111) C (x := zad V 400) dX12_next_111 rfl rfl ?_
    refine zP_getI (pc := 112) (a := 400) C g12_134 dX12_next_112 (s_X12 hT) rfl h fun v112 hv112 h => ?_
    refine zP_iadd (pc := 115) C dX12_next_115 h fun v115 hv115 h => ?_
    refine zP_iald (pc := 116) (a := 401) C dX12_next_116 (s_X12_s hT) hv115 h fun v116 hv116 h => ?_
    refine zP_putI (pc := 117) (a := 400) C p12_140 dX12_next_117 (s_X12 hT) rfl hv116 h fun d h => ?_
    refine zP_iconst (pc := 120) C dX12_next_120 ?_
    exact zP_iret (pc := 121) C E dX12_next_121 (zRk rfl) h
def j_X12_next_41   (s0 : Int) (d : zD) : Option (Int × zD) :=
  zl (zu d 400 8 s0) fun d =>
  zl (d 400 8) fun v45 =>
  if (v45 : Int) = (-1) then (
    zc (f_X12_nextSelected   d) fun v55 d =>
    zl (zu d 400 8 v55) fun d =>
    if (v55 : Int) = (-1) then (
      j_X12_next_88   v55 d)
    else (
      zg 800 25 <| zl (d 401 (25 : Int).toNat) fun v75 =>
      zg 800 10 <| zl (d 401 (10 : Int).toNat) fun v82 =>
      if (v82 : Int) ≤ v75 then (
        j_X12_next_88   v55 d)
      else (
        some (1, d))))
  else (
    some (2, d))
theorem wj_X12_next_41 {V : zW} {X : zX}  (hT : zo12 V) (C : zOk V X cX12_next RX12 4 (zrm 4) (some .int)) {rv : Int} {dz : zD} (E : zEnd V X (some (.int (zI rv))) (zR rv) dz)  {s0 : Int} (hs0 : zR s0) {d : zD} (h : j_X12_next_41   s0 d = some (rv, dz)) : zP V X 4 0 0 41 [some (.ref (zad V 400)), none, none, none] [.int (zI s0), .ref (zad V 400)] d := by
  refine zP_putI (pc := 41) (a := 400) C p12_140 dX12_next_41 (s_X12 hT) rfl hs0 h fun d h => ?_
  refine zP_aload_n (pc := 44) C (x := zad V 400) dX12_next_44 rfl rfl ?_
  refine zP_getI (pc := 45) (a := 400) C g12_140 dX12_next_45 (s_X12 hT) rfl h fun v45 hv45 h => ?_
  refine zP_iconst (pc := 48) C dX12_next_48 ?_
  refine zP_icmp_eq (pc := 49) (tgt := 54) C dX12_next_49 rfl hv45 (zRk rfl) h (fun _ h => ?_) (fun _ h => ?_)
  · refine zP_aload_n (pc := 54) C (x := zad V 400) dX12_next_54 rfl rfl ?_
    obtain ⟨v55, d1, hc, h⟩ := zc_h h
    refine zP_callV (pc := 55) (As := []) (st := []) C m12_143 dX12_next_55 (s_X12 hT) rfl (t_X12_nextSelected hT  hc) ⟨Nat.le_of_ble_eq_true rfl, Nat.le_of_ble_eq_true rfl⟩ rfl (Nat.le_of_ble_eq_true rfl) ⟨Nat.zero_le _, Nat.zero_le _⟩ fun hw => ?_
    have hv55 := hw
    clear hc hw
    show zP V X 4 0 0 58 _ [.int (zI v55)] d1
    revert h
    generalize d1 = d
    intro h
    refine zP_istore_n (pc := 58) C (L' := [some (.ref (zad V 400)), none, none, some (.int (zI v55))]) dX12_next_58 rfl (Nat.le_of_ble_eq_true rfl) rfl rfl ?_
    refine zP_aload_n (pc := 59) C (x := zad V 400) dX12_next_59 rfl rfl ?_
    refine zP_iload_n (pc := 60) C (x := zI v55) dX12_next_60 rfl rfl ?_
    refine zP_putI (pc := 61) (a := 400) C p12_140 dX12_next_61 (s_X12 hT) rfl hv55 h fun d h => ?_
    refine zP_iload_n (pc := 64) C (x := zI v55) dX12_next_64 rfl rfl ?_
    refine zP_iconst (pc := 65) C dX12_next_65 ?_
    refine zP_icmp_eq (pc := 66) (tgt := 88) C dX12_next_66 rfl hv55 (zRk rfl) h (fun _ h => ?_) (fun _ h => ?_)
    · exact zP_mask [true, false, false, true] (wj_X12_next_88 hT C E  hv55 h)
    · refine zP_aload_n (pc := 69) C (x := zad V 400) dX12_next_69 rfl rfl ?_
      refine zP_getR (pc := 70) (a := 400) (t := 401) C g12_13 dX12_next_70 (s_X12 hT) rfl ?_
      refine zP_bipush (pc := 73) C dX12_next_73 rfl ?_
      refine zP_iald (pc := 75) (a := 401) C dX12_next_75 (s_X12_s hT) (zRk rfl) h fun v75 hv75 h => ?_
      refine zP_aload_n (pc := 76) C (x := zad V 400) dX12_next_76 rfl rfl ?_
      refine zP_getR (pc := 77) (a := 400) (t := 401) C g12_13 dX12_next_77 (s_X12 hT) rfl ?_
      refine zP_bipush (pc := 80) C dX12_next_80 rfl ?_
      refine zP_iald (pc := 82) (a := 401) C dX12_next_82 (s_X12_s hT) (zRk rfl) h fun v82 hv82 h => ?_
      refine zP_icmp_ge (pc := 83) (tgt := 88) C dX12_next_83 rfl hv75 hv82 h (fun _ h => ?_) (fun _ h => ?_)
      · exact zP_mask [true, false, false, true] (wj_X12_next_88 hT C E  hv55 h)
      · refine zP_iconst (pc := 86) C dX12_next_86 ?_
        exact zP_iret (pc := 87) C E dX12_next_87 (zRk rfl) h
  · refine zP_iconst (pc := 52) C dX12_next_52 ?_
    exact zP_iret (pc := 53) C E dX12_next_53 (zRk rfl) h
def j_X12_next_40   (d : zD) : Option (Int × zD) :=
  j_X12_next_41   (-1) d
theorem wj_X12_next_40 {V : zW} {X : zX}  (hT : zo12 V) (C : zOk V X cX12_next RX12 4 (zrm 4) (some .int)) {rv : Int} {dz : zD} (E : zEnd V X (some (.int (zI rv))) (zR rv) dz)    {d : zD} (h : j_X12_next_40    d = some (rv, dz)) : zP V X 4 0 0 40 [some (.ref (zad V 400)), none, none, none] [.ref (zad V 400)] d := by
  refine zP_iconst (pc := 40) C dX12_next_40 ?_
  exact zP_mask [true, false, false, false] (wj_X12_next_41 hT C E  (zRk rfl) h)
def f_X12_next  (d : zD) : Option (Int × zD) :=
  zg 800 4 <| zl (d 401 (4 : Int).toNat) fun v5 =>
  zl (zw (v5 + 1)) fun v7 =>
  zg 800 9 <| zl (d 401 (9 : Int).toNat) fun v15 =>
  zl (zu d 400 9 (-1)) fun d =>
  if (v15 : Int) ≤ 0 then (
    j_X12_next_40    d)
  else (
    zn v15 <| zl (zrem v7 v15) fun v29 =>
    if (v29 : Int) = 0 then (
      zc (f_X12_nextOff   d) fun v34 d =>
      j_X12_next_41   v34 d)
    else (
      j_X12_next_40    d))
theorem t_X12_next {V : zW}  (hT : zo12 V)   {d dz : zD} {rv : Int} (h : f_X12_next   d = some (rv, dz)) : zMet V 4 yX12_next cX12_next 4 (some .int) [.ref (zad V 400)] d (some (.int (zI rv))) (zR rv) dz := by
  refine zMet_by RX12 pn12 rfl (Nat.le_of_ble_eq_true rfl) [some (.ref (zad V 400)), none, none, none] rfl fun X C E => ?_
  refine zP_aload_n (pc := 0) C (x := zad V 400) dX12_next_0 rfl rfl ?_
  refine zP_getR (pc := 1) (a := 400) (t := 401) C g12_13 dX12_next_1 (s_X12 hT) rfl ?_
  refine zP_iconst (pc := 4) C dX12_next_4 ?_
  refine zP_iald (pc := 5) (a := 401) C dX12_next_5 (s_X12_s hT) (zRk rfl) h fun v5 hv5 h => ?_
  refine zP_iconst (pc := 6) C dX12_next_6 ?_
  refine zP_iadd (pc := 7) C dX12_next_7 h fun v7 hv7 h => ?_
  refine zP_istore_n (pc := 8) C (L' := [some (.ref (zad V 400)), some (.int (zI v7)), none, none]) dX12_next_8 rfl (Nat.le_of_ble_eq_true rfl) rfl rfl ?_
  refine zP_aload_n (pc := 9) C (x := zad V 400) dX12_next_9 rfl rfl ?_
  refine zP_getR (pc := 10) (a := 400) (t := 401) C g12_13 dX12_next_10 (s_X12 hT) rfl ?_
  refine zP_bipush (pc := 13) C dX12_next_13 rfl ?_
  refine zP_iald (pc := 15) (a := 401) C dX12_next_15 (s_X12_s hT) (zRk rfl) h fun v15 hv15 h => ?_
  refine zP_istore_n (pc := 16) C (L' := [some (.ref (zad V 400)), some (.int (zI v7)), some (.int (zI v15)), none]) dX12_next_16 rfl (Nat.le_of_ble_eq_true rfl) rfl rfl ?_
  refine zP_aload_n (pc := 17) C (x := zad V 400) dX12_next_17 rfl rfl ?_
  refine zP_iconst (pc := 18) C dX12_next_18 ?_
  refine zP_putI (pc := 19) (a := 400) C p12_134 dX12_next_19 (s_X12 hT) rfl (zRk rfl) h fun d h => ?_
  refine zP_aload_n (pc := 22) C (x := zad V 400) dX12_next_22 rfl rfl ?_
  refine zP_iload_n (pc := 23) C (x := zI v15) dX12_next_23 rfl rfl ?_
  refine zP_if_le (pc := 24) (tgt := 40) C dX12_next_24 rfl hv15 h (fun _ h => ?_) (fun _ h => ?_)
  · exact zP_mask [true, false, false, false] (wj_X12_next_40 hT C E   h)
  · refine zP_iload_n (pc := 27) C (x := zI v7) dX12_next_27 rfl rfl ?_
    refine zP_iload_n (pc := 28) C (x := zI v15) dX12_next_28 rfl rfl ?_
    refine zP_irem (pc := 29) C dX12_next_29 hv15 h fun v29 hv29 h => ?_
    refine zP_if_ne (pc := 30) (tgt := 40) C dX12_next_30 rfl hv29 h (fun _ h => ?_) (fun _ h => ?_)
    · exact zP_mask [true, false, false, false] (wj_X12_next_40 hT C E   h)
    · refine zP_aload_n (pc := 33) C (x := zad V 400) dX12_next_33 rfl rfl ?_
      obtain ⟨v34, d1, hc, h⟩ := zc_h h
      refine zP_callV (pc := 34) (As := []) (st := [.ref (zad V 400)]) C m12_137 dX12_next_34 (s_X12 hT) rfl (t_X12_nextOff hT  hc) ⟨Nat.le_of_ble_eq_true rfl, Nat.le_of_ble_eq_true rfl⟩ rfl (Nat.le_of_ble_eq_true rfl) ⟨Nat.zero_le _, Nat.zero_le _⟩ fun hw => ?_
      have hv34 := hw
      clear hc hw
      show zP V X 4 0 0 37 _ [.int (zI v34), .ref (zad V 400)] d1
      revert h
      generalize d1 = d
      intro h
      refine zP_goto (pc := 37) (tgt := 41) C dX12_next_37 rfl ?_
      exact zP_mask [true, false, false, false] (wj_X12_next_41 hT C E  hv34 h)
def f_X12_remembers  (x1 x2 : Int) (d : zD) : Option (Int × zD) :=
  zl (zw (11 + x1)) fun v5 =>
  zc (f_X12_grows  x2 v5 d) fun _ d =>
  if (x1 : Int) = 2 then (
    zc (f_X12_counts  11 d) fun _ d =>
    zg 800 28 <| zl (zu d 401 (28 : Int).toNat x2) fun d =>
    some (0, d))
  else (
    if (x1 : Int) = 1 then (
      zg 800 25 <| zl (d 401 (25 : Int).toNat) fun v48 =>
      zl (zw (v48 + 1)) fun v50 =>
      zg 800 25 <| zl (zu d 401 (25 : Int).toNat v50) fun d =>
      zg 800 27 <| zl (zu d 401 (27 : Int).toNat x2) fun d =>
      some (0, d))
    else (
      zg 800 25 <| zl (zu d 401 (25 : Int).toNat 0) fun d =>
      zl (d 400 9) fun v78 =>
      zg 800 26 <| zl (zu d 401 (26 : Int).toNat v78) fun d =>
      some (0, d)))
theorem t_X12_remembers {V : zW}  (hT : zo12 V) {x1 x2 : Int} (hx1 : zR x1) (hx2 : zR x2) {d dz : zD} {rv : Int} (h : f_X12_remembers  x1 x2 d = some (rv, dz)) : zMet V 2 yX12_remembers cX12_remembers 3 none [.ref (zad V 400), .int (zI x1), .int (zI x2)] d none (rv = 0) dz := by
  refine zMet_by RX12 pn12 rfl (Nat.le_of_ble_eq_true rfl) [some (.ref (zad V 400)), some (.int (zI x1)), some (.int (zI x2))] rfl fun X C E => ?_
  refine zP_aload_n (pc := 0) C (x := zad V 400) dX12_remembers_0 rfl rfl ?_
  refine zP_iload_n (pc := 1) C (x := zI x2) dX12_remembers_1 rfl rfl ?_
  refine zP_bipush (pc := 2) C dX12_remembers_2 rfl ?_
  refine zP_iload_n (pc := 4) C (x := zI x1) dX12_remembers_4 rfl rfl ?_
  refine zP_iadd (pc := 5) C dX12_remembers_5 h fun v5 hv5 h => ?_
  obtain ⟨_, d1, hc, h⟩ := zc_h h
  refine zP_callV (pc := 6) (As := [.int (zI x2), .int (zI v5)]) (st := []) C m12_131 dX12_remembers_6 (s_X12 hT) rfl (t_X12_grows hT hx2 hv5 hc) ⟨Nat.le_of_ble_eq_true rfl, Nat.le_of_ble_eq_true rfl⟩ rfl (Nat.le_of_ble_eq_true rfl) ⟨Nat.zero_le _, Nat.zero_le _⟩ fun hw => ?_
  clear hc hw
  show zP V X 3 0 0 9 _ [] d1
  revert h
  generalize d1 = d
  intro h
  refine zP_iload_n (pc := 9) C (x := zI x1) dX12_remembers_9 rfl rfl ?_
  refine zP_iconst (pc := 10) C dX12_remembers_10 ?_
  refine zP_icmp_ne (pc := 11) (tgt := 31) C dX12_remembers_11 rfl hx1 (zRk rfl) h (fun _ h => ?_) (fun _ h => ?_)
  · refine zP_iload_n (pc := 31) C (x := zI x1) dX12_remembers_31 rfl rfl ?_
    refine zP_iconst (pc := 32) C dX12_remembers_32 ?_
    refine zP_icmp_ne (pc := 33) (tgt := 63) C dX12_remembers_33 rfl hx1 (zRk rfl) h (fun _ h => ?_) (fun _ h => ?_)
    · refine zP_aload_n (pc := 63) C (x := zad V 400) dX12_remembers_63 rfl rfl ?_
      refine zP_getR (pc := 64) (a := 400) (t := 401) C g12_13 dX12_remembers_64 (s_X12 hT) rfl ?_
      refine zP_bipush (pc := 67) C dX12_remembers_67 rfl ?_
      refine zP_iconst (pc := 69) C dX12_remembers_69 ?_
      refine zP_iast (pc := 70) (a := 401) C dX12_remembers_70 (s_X12_s hT) (zRk rfl) (zRk rfl) h fun d h => ?_
      refine zP_aload_n (pc := 71) C (x := zad V 400) dX12_remembers_71 rfl rfl ?_
      refine zP_getR (pc := 72) (a := 400) (t := 401) C g12_13 dX12_remembers_72 (s_X12 hT) rfl ?_
      refine zP_bipush (pc := 75) C dX12_remembers_75 rfl ?_
      refine zP_aload_n (pc := 77) C (x := zad V 400) dX12_remembers_77 rfl rfl ?_
      refine zP_getI (pc := 78) (a := 400) C g12_134 dX12_remembers_78 (s_X12 hT) rfl h fun v78 hv78 h => ?_
      refine zP_iast (pc := 81) (a := 401) C dX12_remembers_81 (s_X12_s hT) (zRk rfl) hv78 h fun d h => ?_
      exact zP_vret (pc := 82) C E dX12_remembers_82 h
    · refine zP_aload_n (pc := 36) C (x := zad V 400) dX12_remembers_36 rfl rfl ?_
      refine zP_getR (pc := 37) (a := 400) (t := 401) C g12_13 dX12_remembers_37 (s_X12 hT) rfl ?_
      refine zP_bipush (pc := 40) C dX12_remembers_40 rfl ?_
      refine zP_aload_n (pc := 42) C (x := zad V 400) dX12_remembers_42 rfl rfl ?_
      refine zP_getR (pc := 43) (a := 400) (t := 401) C g12_13 dX12_remembers_43 (s_X12 hT) rfl ?_
      refine zP_bipush (pc := 46) C dX12_remembers_46 rfl ?_
      refine zP_iald (pc := 48) (a := 401) C dX12_remembers_48 (s_X12_s hT) (zRk rfl) h fun v48 hv48 h => ?_
      refine zP_iconst (pc := 49) C dX12_remembers_49 ?_
      refine zP_iadd (pc := 50) C dX12_remembers_50 h fun v50 hv50 h => ?_
      refine zP_iast (pc := 51) (a := 401) C dX12_remembers_51 (s_X12_s hT) (zRk rfl) hv50 h fun d h => ?_
      refine zP_aload_n (pc := 52) C (x := zad V 400) dX12_remembers_52 rfl rfl ?_
      refine zP_getR (pc := 53) (a := 400) (t := 401) C g12_13 dX12_remembers_53 (s_X12 hT) rfl ?_
      refine zP_bipush (pc := 56) C dX12_remembers_56 rfl ?_
      refine zP_iload_n (pc := 58) C (x := zI x2) dX12_remembers_58 rfl rfl ?_
      refine zP_iast (pc := 59) (a := 401) C dX12_remembers_59 (s_X12_s hT) (zRk rfl) hx2 h fun d h => ?_
      refine zP_goto (pc := 60) (tgt := 82) C dX12_remembers_60 rfl ?_
      exact zP_vret (pc := 82) C E dX12_remembers_82 h
  · refine zP_aload_n (pc := 14) C (x := zad V 400) dX12_remembers_14 rfl rfl ?_
    refine zP_bipush (pc := 15) C dX12_remembers_15 rfl ?_
    obtain ⟨_, d1, hc, h⟩ := zc_h h
    refine zP_callV (pc := 17) (As := [.int (zI 11)]) (st := []) C m12_89 dX12_remembers_17 (s_X12 hT) rfl (t_X12_counts hT (zRk rfl) hc) ⟨Nat.le_of_ble_eq_true rfl, Nat.le_of_ble_eq_true rfl⟩ rfl (Nat.le_of_ble_eq_true rfl) ⟨Nat.zero_le _, Nat.zero_le _⟩ fun hw => ?_
    clear hc hw
    show zP V X 3 0 0 20 _ [] d1
    revert h
    generalize d1 = d
    intro h
    refine zP_aload_n (pc := 20) C (x := zad V 400) dX12_remembers_20 rfl rfl ?_
    refine zP_getR (pc := 21) (a := 400) (t := 401) C g12_13 dX12_remembers_21 (s_X12 hT) rfl ?_
    refine zP_bipush (pc := 24) C dX12_remembers_24 rfl ?_
    refine zP_iload_n (pc := 26) C (x := zI x2) dX12_remembers_26 rfl rfl ?_
    refine zP_iast (pc := 27) (a := 401) C dX12_remembers_27 (s_X12_s hT) (zRk rfl) hx2 h fun d h => ?_
    refine zP_goto (pc := 28) (tgt := 82) C dX12_remembers_28 rfl ?_
    exact zP_vret (pc := 82) C E dX12_remembers_82 h
def j_X12_keepsTurn_47   (x1 x2 x3 x4 : Int) (d : zD) : Option (Int × zD) :=
  zg 800 29 <| zl (d 401 (29 : Int).toNat) fun v57 =>
  zl (zw (5 * v57)) fun v58 =>
  zl (zw (700 + v58)) fun v59 =>
  zg 800 v59 <| zl (zu d 401 (v59 : Int).toNat x1) fun d =>
  zl (zw (v59 + 1)) fun v77 =>
  zg 800 v77 <| zl (zu d 401 (v77 : Int).toNat x2) fun d =>
  zl (zw (v59 + 2)) fun v87 =>
  zg 800 v87 <| zl (zu d 401 (v87 : Int).toNat x3) fun d =>
  zl (zw (v59 + 3)) fun v97 =>
  zg 800 v97 <| zl (zu d 401 (v97 : Int).toNat x4) fun d =>
  zl (zw (v59 + 4)) fun v108 =>
  zg 800 3 <| zl (d 401 (3 : Int).toNat) fun v114 =>
  zg 800 v108 <| zl (zu d 401 (v108 : Int).toNat v114) fun d =>
  zg 800 29 <| zl (d 401 (29 : Int).toNat) fun v128 =>
  zl (zw (v128 + 1)) fun v130 =>
  zg 800 29 <| zl (zu d 401 (29 : Int).toNat v130) fun d =>
  some (0, d)
theorem wj_X12_keepsTurn_47 {V : zW} {X : zX}  (hT : zo12 V) (C : zOk V X cX12_keepsTurn RX12 6 (zrm 1) none) {rv : Int} {dz : zD} (E : zEnd V X none (rv = 0) dz)  {x1 x2 x3 x4 : Int} (hx1 : zR x1) (hx2 : zR x2) (hx3 : zR x3) (hx4 : zR x4) {d : zD} (h : j_X12_keepsTurn_47   x1 x2 x3 x4 d = some (rv, dz)) : zP V X 6 0 0 47 [some (.ref (zad V 400)), some (.int (zI x1)), some (.int (zI x2)), some (.int (zI x3)), some (.int (zI x4)), none] [] d := by
  refine zP_sipush (pc := 47) C dX12_keepsTurn_47 rfl ?_
  refine zP_iconst (pc := 50) C dX12_keepsTurn_50 ?_
  refine zP_aload_n (pc := 51) C (x := zad V 400) dX12_keepsTurn_51 rfl rfl ?_
  refine zP_getR (pc := 52) (a := 400) (t := 401) C g12_13 dX12_keepsTurn_52 (s_X12 hT) rfl ?_
  refine zP_bipush (pc := 55) C dX12_keepsTurn_55 rfl ?_
  refine zP_iald (pc := 57) (a := 401) C dX12_keepsTurn_57 (s_X12_s hT) (zRk rfl) h fun v57 hv57 h => ?_
  refine zP_imul (pc := 58) C dX12_keepsTurn_58 h fun v58 hv58 h => ?_
  refine zP_iadd (pc := 59) C dX12_keepsTurn_59 h fun v59 hv59 h => ?_
  refine zP_istore (pc := 60) C (L' := [some (.ref (zad V 400)), some (.int (zI x1)), some (.int (zI x2)), some (.int (zI x3)), some (.int (zI x4)), some (.int (zI v59))]) dX12_keepsTurn_60 (Nat.le_of_ble_eq_true rfl) rfl rfl ?_
  refine zP_aload_n (pc := 62) C (x := zad V 400) dX12_keepsTurn_62 rfl rfl ?_
  refine zP_getR (pc := 63) (a := 400) (t := 401) C g12_13 dX12_keepsTurn_63 (s_X12 hT) rfl ?_
  refine zP_iload (pc := 66) C (x := zI v59) dX12_keepsTurn_66 rfl ?_
  refine zP_iload_n (pc := 68) C (x := zI x1) dX12_keepsTurn_68 rfl rfl ?_
  refine zP_iast (pc := 69) (a := 401) C dX12_keepsTurn_69 (s_X12_s hT) hv59 hx1 h fun d h => ?_
  refine zP_aload_n (pc := 70) C (x := zad V 400) dX12_keepsTurn_70 rfl rfl ?_
  refine zP_getR (pc := 71) (a := 400) (t := 401) C g12_13 dX12_keepsTurn_71 (s_X12 hT) rfl ?_
  refine zP_iload (pc := 74) C (x := zI v59) dX12_keepsTurn_74 rfl ?_
  refine zP_iconst (pc := 76) C dX12_keepsTurn_76 ?_
  refine zP_iadd (pc := 77) C dX12_keepsTurn_77 h fun v77 hv77 h => ?_
  refine zP_iload_n (pc := 78) C (x := zI x2) dX12_keepsTurn_78 rfl rfl ?_
  refine zP_iast (pc := 79) (a := 401) C dX12_keepsTurn_79 (s_X12_s hT) hv77 hx2 h fun d h => ?_
  refine zP_aload_n (pc := 80) C (x := zad V 400) dX12_keepsTurn_80 rfl rfl ?_
  refine zP_getR (pc := 81) (a := 400) (t := 401) C g12_13 dX12_keepsTurn_81 (s_X12 hT) rfl ?_
  refine zP_iload (pc := 84) C (x := zI v59) dX12_keepsTurn_84 rfl ?_
  refine zP_iconst (pc := 86) C dX12_keepsTurn_86 ?_
  refine zP_iadd (pc := 87) C dX12_keepsTurn_87 h fun v87 hv87 h => ?_
  refine zP_iload_n (pc := 88) C (x := zI x3) dX12_keepsTurn_88 rfl rfl ?_
  refine zP_iast (pc := 89) (a := 401) C dX12_keepsTurn_89 (s_X12_s hT) hv87 hx3 h fun d h => ?_
  refine zP_aload_n (pc := 90) C (x := zad V 400) dX12_keepsTurn_90 rfl rfl ?_
  refine zP_getR (pc := 91) (a := 400) (t := 401) C g12_13 dX12_keepsTurn_91 (s_X12 hT) rfl ?_
  refine zP_iload (pc := 94) C (x := zI v59) dX12_keepsTurn_94 rfl ?_
  refine zP_iconst (pc := 96) C dX12_keepsTurn_96 ?_
  refine zP_iadd (pc := 97) C dX12_keepsTurn_97 h fun v97 hv97 h => ?_
  refine zP_iload (pc := 98) C (x := zI x4) dX12_keepsTurn_98 rfl ?_
  refine zP_iast (pc := 100) (a := 401) C dX12_keepsTurn_100 (s_X12_s hT) hv97 hx4 h fun d h => ?_
  refine zP_aload_n (pc := 101) C (x := zad V 400) dX12_keepsTurn_101 rfl rfl ?_
  refine zP_getR (pc := 102) (a := 400) (t := 401) C g12_13 dX12_keepsTurn_102 (s_X12 hT) rfl ?_
  refine zP_iload (pc := 105) C (x := zI v59) dX12_keepsTurn_105 rfl ?_
  refine zP_iconst (pc := 107) C dX12_keepsTurn_107 ?_
  refine zP_iadd (pc := 108) C dX12_keepsTurn_108 h fun v108 hv108 h => ?_
  refine zP_aload_n (pc := 109) C (x := zad V 400) dX12_keepsTurn_109 rfl rfl ?_
  refine zP_getR (pc := 110) (a := 400) (t := 401) C g12_13 dX12_keepsTurn_110 (s_X12 hT) rfl ?_
  refine zP_iconst (pc := 113) C dX12_keepsTurn_113 ?_
  refine zP_iald (pc := 114) (a := 401) C dX12_keepsTurn_114 (s_X12_s hT) (zRk rfl) h fun v114 hv114 h => ?_
  refine zP_iast (pc := 115) (a := 401) C dX12_keepsTurn_115 (s_X12_s hT) hv108 hv114 h fun d h => ?_
  refine zP_aload_n (pc := 116) C (x := zad V 400) dX12_keepsTurn_116 rfl rfl ?_
  refine zP_getR (pc := 117) (a := 400) (t := 401) C g12_13 dX12_keepsTurn_117 (s_X12 hT) rfl ?_
  refine zP_bipush (pc := 120) C dX12_keepsTurn_120 rfl ?_
  refine zP_aload_n (pc := 122) C (x := zad V 400) dX12_keepsTurn_122 rfl rfl ?_
  refine zP_getR (pc := 123) (a := 400) (t := 401) C g12_13 dX12_keepsTurn_123 (s_X12 hT) rfl ?_
  refine zP_bipush (pc := 126) C dX12_keepsTurn_126 rfl ?_
  refine zP_iald (pc := 128) (a := 401) C dX12_keepsTurn_128 (s_X12_s hT) (zRk rfl) h fun v128 hv128 h => ?_
  refine zP_iconst (pc := 129) C dX12_keepsTurn_129 ?_
  refine zP_iadd (pc := 130) C dX12_keepsTurn_130 h fun v130 hv130 h => ?_
  refine zP_iast (pc := 131) (a := 401) C dX12_keepsTurn_131 (s_X12_s hT) (zRk rfl) hv130 h fun d h => ?_
  exact zP_vret (pc := 132) C E dX12_keepsTurn_132 h
def f_X12_keepsTurn  (x1 x2 x3 x4 : Int) (d : zD) : Option (Int × zD) :=
  zg 800 29 <| zl (d 401 (29 : Int).toNat) fun v6 =>
  if (v6 : Int) = 20 then (
    zc (f_X12_copies 401 800 401 800 705 700 95 d) fun _ d =>
    zg 800 29 <| zl (d 401 (29 : Int).toNat) fun v43 =>
    zl (zw (v43 - 1)) fun v45 =>
    zg 800 29 <| zl (zu d 401 (29 : Int).toNat v45) fun d =>
    j_X12_keepsTurn_47   x1 x2 x3 x4 d)
  else (
    j_X12_keepsTurn_47   x1 x2 x3 x4 d)
theorem t_X12_keepsTurn {V : zW}  (hT : zo12 V) {x1 x2 x3 x4 : Int} (hx1 : zR x1) (hx2 : zR x2) (hx3 : zR x3) (hx4 : zR x4) {d dz : zD} {rv : Int} (h : f_X12_keepsTurn  x1 x2 x3 x4 d = some (rv, dz)) : zMet V 1 yX12_keepsTurn cX12_keepsTurn 6 none [.ref (zad V 400), .int (zI x1), .int (zI x2), .int (zI x3), .int (zI x4)] d none (rv = 0) dz := by
  refine zMet_by RX12 pn12 rfl (Nat.le_of_ble_eq_true rfl) [some (.ref (zad V 400)), some (.int (zI x1)), some (.int (zI x2)), some (.int (zI x3)), some (.int (zI x4)), none] rfl fun X C E => ?_
  refine zP_aload_n (pc := 0) C (x := zad V 400) dX12_keepsTurn_0 rfl rfl ?_
  refine zP_getR (pc := 1) (a := 400) (t := 401) C g12_13 dX12_keepsTurn_1 (s_X12 hT) rfl ?_
  refine zP_bipush (pc := 4) C dX12_keepsTurn_4 rfl ?_
  refine zP_iald (pc := 6) (a := 401) C dX12_keepsTurn_6 (s_X12_s hT) (zRk rfl) h fun v6 hv6 h => ?_
  refine zP_bipush (pc := 7) C dX12_keepsTurn_7 rfl ?_
  refine zP_icmp_ne (pc := 9) (tgt := 47) C dX12_keepsTurn_9 rfl hv6 (zRk rfl) h (fun _ h => ?_) (fun _ h => ?_)
  · exact zP_mask [true, true, true, true, true, false] (wj_X12_keepsTurn_47 hT C E  hx1 hx2 hx3 hx4 h)
  · refine zP_aload_n (pc := 12) C (x := zad V 400) dX12_keepsTurn_12 rfl rfl ?_
    refine zP_getR (pc := 13) (a := 400) (t := 401) C g12_13 dX12_keepsTurn_13 (s_X12 hT) rfl ?_
    refine zP_sipush (pc := 16) C dX12_keepsTurn_16 rfl ?_
    refine zP_aload_n (pc := 19) C (x := zad V 400) dX12_keepsTurn_19 rfl rfl ?_
    refine zP_getR (pc := 20) (a := 400) (t := 401) C g12_13 dX12_keepsTurn_20 (s_X12 hT) rfl ?_
    refine zP_sipush (pc := 23) C dX12_keepsTurn_23 rfl ?_
    refine zP_bipush (pc := 26) C dX12_keepsTurn_26 rfl ?_
    obtain ⟨_, d1, hc, h⟩ := zc_h h
    refine zP_callS (pc := 28) (As := [.ref (zad V 401), .int (zI 705), .ref (zad V 401), .int (zI 700), .int (zI 95)]) (st := []) C m12_149 dX12_keepsTurn_28 (t_X12_copies (s_X12_s hT) (s_X12_s hT) (zRk rfl) (zRk rfl) (zRk rfl) hc) ⟨Nat.le_of_ble_eq_true rfl, Nat.le_of_ble_eq_true rfl⟩ rfl (Nat.le_of_ble_eq_true rfl) ⟨Nat.zero_le _, Nat.zero_le _⟩ fun hw => ?_
    clear hc hw
    show zP V X 6 0 0 31 _ [] d1
    revert h
    generalize d1 = d
    intro h
    refine zP_aload_n (pc := 31) C (x := zad V 400) dX12_keepsTurn_31 rfl rfl ?_
    refine zP_getR (pc := 32) (a := 400) (t := 401) C g12_13 dX12_keepsTurn_32 (s_X12 hT) rfl ?_
    refine zP_bipush (pc := 35) C dX12_keepsTurn_35 rfl ?_
    refine zP_aload_n (pc := 37) C (x := zad V 400) dX12_keepsTurn_37 rfl rfl ?_
    refine zP_getR (pc := 38) (a := 400) (t := 401) C g12_13 dX12_keepsTurn_38 (s_X12 hT) rfl ?_
    refine zP_bipush (pc := 41) C dX12_keepsTurn_41 rfl ?_
    refine zP_iald (pc := 43) (a := 401) C dX12_keepsTurn_43 (s_X12_s hT) (zRk rfl) h fun v43 hv43 h => ?_
    refine zP_iconst (pc := 44) C dX12_keepsTurn_44 ?_
    refine zP_isub (pc := 45) C dX12_keepsTurn_45 h fun v45 hv45 h => ?_
    refine zP_iast (pc := 46) (a := 401) C dX12_keepsTurn_46 (s_X12_s hT) (zRk rfl) hv45 h fun d h => ?_
    exact zP_mask [true, true, true, true, true, false] (wj_X12_keepsTurn_47 hT C E  hx1 hx2 hx3 hx4 h)
def j_X12_turns_93   (x1 x2 x3 : Int) (d : zD) : Option (Int × zD) :=
  zl (d 400 7) fun v98 =>
  zc (f_X12_keepsTurn  x1 x2 x3 v98 d) fun _ d =>
  some (0, d)
theorem wj_X12_turns_93 {V : zW} {X : zX}  (hT : zo12 V) (C : zOk V X cX12_turns RX12 4 (zrm 10) none) {rv : Int} {dz : zD} (E : zEnd V X none (rv = 0) dz)  {x1 x2 x3 : Int} (hx1 : zR x1) (hx2 : zR x2) (hx3 : zR x3) {d : zD} (h : j_X12_turns_93   x1 x2 x3 d = some (rv, dz)) : zP V X 4 0 0 93 [some (.ref (zad V 400)), some (.int (zI x1)), some (.int (zI x2)), some (.int (zI x3))] [] d := by
  refine zP_aload_n (pc := 93) C (x := zad V 400) dX12_turns_93 rfl rfl ?_
  refine zP_iload_n (pc := 94) C (x := zI x1) dX12_turns_94 rfl rfl ?_
  refine zP_iload_n (pc := 95) C (x := zI x2) dX12_turns_95 rfl rfl ?_
  refine zP_iload_n (pc := 96) C (x := zI x3) dX12_turns_96 rfl rfl ?_
  refine zP_aload_n (pc := 97) C (x := zad V 400) dX12_turns_97 rfl rfl ?_
  refine zP_getI (pc := 98) (a := 400) C g12_121 dX12_turns_98 (s_X12 hT) rfl h fun v98 hv98 h => ?_
  obtain ⟨_, d1, hc, h⟩ := zc_h h
  refine zP_callV (pc := 101) (As := [.int (zI x1), .int (zI x2), .int (zI x3), .int (zI v98)]) (st := []) C m12_156 dX12_turns_101 (s_X12 hT) rfl (t_X12_keepsTurn hT hx1 hx2 hx3 hv98 hc) ⟨Nat.le_of_ble_eq_true rfl, Nat.le_of_ble_eq_true rfl⟩ rfl (Nat.le_of_ble_eq_true rfl) ⟨Nat.zero_le _, Nat.zero_le _⟩ fun hw => ?_
  clear hc hw
  show zP V X 4 0 0 104 _ [] d1
  revert h
  generalize d1 = d
  intro h
  exact zP_vret (pc := 104) C E dX12_turns_104 h
def f_X12_turns  (d : zD) : Option (Int × zD) :=
  zc (f_X12_next   d) fun v1 d =>
  zl (d 400 8) fun v6 =>
  zg 800 4 <| zl (d 401 (4 : Int).toNat) fun v20 =>
  zl (zw (v20 + 1)) fun v22 =>
  zg 800 4 <| zl (zu d 401 (4 : Int).toNat v22) fun d =>
  if (v1 : Int) = 3 then (
    zc (f_X12_counts  12 d) fun _ d =>
    zc (f_X12_passes  1 d) fun _ d =>
    zc (f_X12_keepsTurn  3 (-1) 0 0 d) fun _ d =>
    some (0, d))
  else (
    zc (f_X12_remembers  v1 v6 d) fun _ d =>
    zc (f_X12_tries  v6 v1 d) fun v58 d =>
    if (v58 : Int) = 0 then (
      if (v1 : Int) = 2 then (
        j_X12_turns_93   v1 v6 v58 d)
      else (
        zc (f_X12_isMissed  v6 d) fun _ d =>
        j_X12_turns_93   v1 v6 v58 d))
    else (
      zc (f_X12_puts  v6 5 0 d) fun _ d =>
      zc (f_X12_puts  v6 4 1 d) fun _ d =>
      j_X12_turns_93   v1 v6 v58 d))
theorem t_X12_turns {V : zW}  (hT : zo12 V)   {d dz : zD} {rv : Int} (h : f_X12_turns   d = some (rv, dz)) : zMet V 10 yX12_turns cX12_turns 4 none [.ref (zad V 400)] d none (rv = 0) dz := by
  refine zMet_by RX12 pn12 rfl (Nat.le_of_ble_eq_true rfl) [some (.ref (zad V 400)), none, none, none] rfl fun X C E => ?_
  refine zP_aload_n (pc := 0) C (x := zad V 400) dX12_turns_0 rfl rfl ?_
  obtain ⟨v1, d1, hc, h⟩ := zc_h h
  refine zP_callV (pc := 1) (As := []) (st := []) C m12_153 dX12_turns_1 (s_X12 hT) rfl (t_X12_next hT  hc) ⟨Nat.le_of_ble_eq_true rfl, Nat.le_of_ble_eq_true rfl⟩ rfl (Nat.le_of_ble_eq_true rfl) ⟨Nat.zero_le _, Nat.zero_le _⟩ fun hw => ?_
  have hv1 := hw
  clear hc hw
  show zP V X 4 0 0 4 _ [.int (zI v1)] d1
  revert h
  generalize d1 = d
  intro h
  refine zP_istore_n (pc := 4) C (L' := [some (.ref (zad V 400)), some (.int (zI v1)), none, none]) dX12_turns_4 rfl (Nat.le_of_ble_eq_true rfl) rfl rfl ?_
  refine zP_aload_n (pc := 5) C (x := zad V 400) dX12_turns_5 rfl rfl ?_
  refine zP_getI (pc := 6) (a := 400) C g12_140 dX12_turns_6 (s_X12 hT) rfl h fun v6 hv6 h => ?_
  refine zP_istore_n (pc := 9) C (L' := [some (.ref (zad V 400)), some (.int (zI v1)), some (.int (zI v6)), none]) dX12_turns_9 rfl (Nat.le_of_ble_eq_true rfl) rfl rfl ?_
  refine zP_aload_n (pc := 10) C (x := zad V 400) dX12_turns_10 rfl rfl ?_
  refine zP_getR (pc := 11) (a := 400) (t := 401) C g12_13 dX12_turns_11 (s_X12 hT) rfl ?_
  refine zP_iconst (pc := 14) C dX12_turns_14 ?_
  refine zP_aload_n (pc := 15) C (x := zad V 400) dX12_turns_15 rfl rfl ?_
  refine zP_getR (pc := 16) (a := 400) (t := 401) C g12_13 dX12_turns_16 (s_X12 hT) rfl ?_
  refine zP_iconst (pc := 19) C dX12_turns_19 ?_
  refine zP_iald (pc := 20) (a := 401) C dX12_turns_20 (s_X12_s hT) (zRk rfl) h fun v20 hv20 h => ?_
  refine zP_iconst (pc := 21) C dX12_turns_21 ?_
  refine zP_iadd (pc := 22) C dX12_turns_22 h fun v22 hv22 h => ?_
  refine zP_iast (pc := 23) (a := 401) C dX12_turns_23 (s_X12_s hT) (zRk rfl) hv22 h fun d h => ?_
  refine zP_iload_n (pc := 24) C (x := zI v1) dX12_turns_24 rfl rfl ?_
  refine zP_iconst (pc := 25) C dX12_turns_25 ?_
  refine zP_icmp_ne (pc := 26) (tgt := 49) C dX12_turns_26 rfl hv1 (zRk rfl) h (fun _ h => ?_) (fun _ h => ?_)
  · refine zP_aload_n (pc := 49) C (x := zad V 400) dX12_turns_49 rfl rfl ?_
    refine zP_iload_n (pc := 50) C (x := zI v1) dX12_turns_50 rfl rfl ?_
    refine zP_iload_n (pc := 51) C (x := zI v6) dX12_turns_51 rfl rfl ?_
    obtain ⟨_, d1, hc, h⟩ := zc_h h
    refine zP_callV (pc := 52) (As := [.int (zI v1), .int (zI v6)]) (st := []) C m12_159 dX12_turns_52 (s_X12 hT) rfl (t_X12_remembers hT hv1 hv6 hc) ⟨Nat.le_of_ble_eq_true rfl, Nat.le_of_ble_eq_true rfl⟩ rfl (Nat.le_of_ble_eq_true rfl) ⟨Nat.zero_le _, Nat.zero_le _⟩ fun hw => ?_
    clear hc hw
    show zP V X 4 0 0 55 _ [] d1
    revert h
    generalize d1 = d
    intro h
    refine zP_aload_n (pc := 55) C (x := zad V 400) dX12_turns_55 rfl rfl ?_
    refine zP_iload_n (pc := 56) C (x := zI v6) dX12_turns_56 rfl rfl ?_
    refine zP_iload_n (pc := 57) C (x := zI v1) dX12_turns_57 rfl rfl ?_
    obtain ⟨v58, d1, hc, h⟩ := zc_h h
    refine zP_callV (pc := 58) (As := [.int (zI v6), .int (zI v1)]) (st := []) C m12_162 dX12_turns_58 (s_X12 hT) rfl (t_X12_tries hT hv6 hv1 hc) ⟨Nat.le_of_ble_eq_true rfl, Nat.le_of_ble_eq_true rfl⟩ rfl (Nat.le_of_ble_eq_true rfl) ⟨Nat.zero_le _, Nat.zero_le _⟩ fun hw => ?_
    have hv58 := hw
    clear hc hw
    show zP V X 4 0 0 61 _ [.int (zI v58)] d1
    revert h
    generalize d1 = d
    intro h
    refine zP_istore_n (pc := 61) C (L' := [some (.ref (zad V 400)), some (.int (zI v1)), some (.int (zI v6)), some (.int (zI v58))]) dX12_turns_61 rfl (Nat.le_of_ble_eq_true rfl) rfl rfl ?_
    refine zP_iload_n (pc := 62) C (x := zI v58) dX12_turns_62 rfl rfl ?_
    refine zP_if_eq (pc := 63) (tgt := 83) C dX12_turns_63 rfl hv58 h (fun _ h => ?_) (fun _ h => ?_)
    · refine zP_iload_n (pc := 83) C (x := zI v1) dX12_turns_83 rfl rfl ?_
      refine zP_iconst (pc := 84) C dX12_turns_84 ?_
      refine zP_icmp_eq (pc := 85) (tgt := 93) C dX12_turns_85 rfl hv1 (zRk rfl) h (fun _ h => ?_) (fun _ h => ?_)
      · exact zP_mask [true, true, true, true] (wj_X12_turns_93 hT C E  hv1 hv6 hv58 h)
      · refine zP_aload_n (pc := 88) C (x := zad V 400) dX12_turns_88 rfl rfl ?_
        refine zP_iload_n (pc := 89) C (x := zI v6) dX12_turns_89 rfl rfl ?_
        obtain ⟨_, d1, hc, h⟩ := zc_h h
        refine zP_callV (pc := 90) (As := [.int (zI v6)]) (st := []) C m12_165 dX12_turns_90 (s_X12 hT) rfl (t_X12_isMissed hT hv6 hc) ⟨Nat.le_of_ble_eq_true rfl, Nat.le_of_ble_eq_true rfl⟩ rfl (Nat.le_of_ble_eq_true rfl) ⟨Nat.zero_le _, Nat.zero_le _⟩ fun hw => ?_
        clear hc hw
        show zP V X 4 0 0 93 _ [] d1
        revert h
        generalize d1 = d
        intro h
        exact zP_mask [true, true, true, true] (wj_X12_turns_93 hT C E  hv1 hv6 hv58 h)
    · refine zP_aload_n (pc := 66) C (x := zad V 400) dX12_turns_66 rfl rfl ?_
      refine zP_iload_n (pc := 67) C (x := zI v6) dX12_turns_67 rfl rfl ?_
      refine zP_iconst (pc := 68) C dX12_turns_68 ?_
      refine zP_iconst (pc := 69) C dX12_turns_69 ?_
      obtain ⟨_, d1, hc, h⟩ := zc_h h
      refine zP_callV (pc := 70) (As := [.int (zI v6), .int (zI 5), .int (zI 0)]) (st := []) C m12_61 dX12_turns_70 (s_X12 hT) rfl (t_X12_puts hT hv6 (zRk rfl) (zRk rfl) hc) ⟨Nat.le_of_ble_eq_true rfl, Nat.le_of_ble_eq_true rfl⟩ rfl (Nat.le_of_ble_eq_true rfl) ⟨Nat.zero_le _, Nat.zero_le _⟩ fun hw => ?_
      clear hc hw
      show zP V X 4 0 0 73 _ [] d1
      revert h
      generalize d1 = d
      intro h
      refine zP_aload_n (pc := 73) C (x := zad V 400) dX12_turns_73 rfl rfl ?_
      refine zP_iload_n (pc := 74) C (x := zI v6) dX12_turns_74 rfl rfl ?_
      refine zP_iconst (pc := 75) C dX12_turns_75 ?_
      refine zP_iconst (pc := 76) C dX12_turns_76 ?_
      obtain ⟨_, d1, hc, h⟩ := zc_h h
      refine zP_callV (pc := 77) (As := [.int (zI v6), .int (zI 4), .int (zI 1)]) (st := []) C m12_61 dX12_turns_77 (s_X12 hT) rfl (t_X12_puts hT hv6 (zRk rfl) (zRk rfl) hc) ⟨Nat.le_of_ble_eq_true rfl, Nat.le_of_ble_eq_true rfl⟩ rfl (Nat.le_of_ble_eq_true rfl) ⟨Nat.zero_le _, Nat.zero_le _⟩ fun hw => ?_
      clear hc hw
      show zP V X 4 0 0 80 _ [] d1
      revert h
      generalize d1 = d
      intro h
      refine zP_goto (pc := 80) (tgt := 93) C dX12_turns_80 rfl ?_
      exact zP_mask [true, true, true, true] (wj_X12_turns_93 hT C E  hv1 hv6 hv58 h)
  · refine zP_aload_n (pc := 29) C (x := zad V 400) dX12_turns_29 rfl rfl ?_
    refine zP_bipush (pc := 30) C dX12_turns_30 rfl ?_
    obtain ⟨_, d1, hc, h⟩ := zc_h h
    refine zP_callV (pc := 32) (As := [.int (zI 12)]) (st := []) C m12_89 dX12_turns_32 (s_X12 hT) rfl (t_X12_counts hT (zRk rfl) hc) ⟨Nat.le_of_ble_eq_true rfl, Nat.le_of_ble_eq_true rfl⟩ rfl (Nat.le_of_ble_eq_true rfl) ⟨Nat.zero_le _, Nat.zero_le _⟩ fun hw => ?_
    clear hc hw
    show zP V X 4 0 0 35 _ [] d1
    revert h
    generalize d1 = d
    intro h
    refine zP_aload_n (pc := 35) C (x := zad V 400) dX12_turns_35 rfl rfl ?_
    refine zP_iconst (pc := 36) C dX12_turns_36 ?_
    obtain ⟨_, d1, hc, h⟩ := zc_h h
    refine zP_callV (pc := 37) (As := [.int (zI 1)]) (st := []) C m12_92 dX12_turns_37 (s_X12 hT) rfl (t_X12_passes hT (zRk rfl) hc) ⟨Nat.le_of_ble_eq_true rfl, Nat.le_of_ble_eq_true rfl⟩ rfl (Nat.le_of_ble_eq_true rfl) ⟨Nat.zero_le _, Nat.zero_le _⟩ fun hw => ?_
    clear hc hw
    show zP V X 4 0 0 40 _ [] d1
    revert h
    generalize d1 = d
    intro h
    refine zP_aload_n (pc := 40) C (x := zad V 400) dX12_turns_40 rfl rfl ?_
    refine zP_iconst (pc := 41) C dX12_turns_41 ?_
    refine zP_iconst (pc := 42) C dX12_turns_42 ?_
    refine zP_iconst (pc := 43) C dX12_turns_43 ?_
    refine zP_iconst (pc := 44) C dX12_turns_44 ?_
    obtain ⟨_, d1, hc, h⟩ := zc_h h
    refine zP_callV (pc := 45) (As := [.int (zI 3), .int (zI (-1)), .int (zI 0), .int (zI 0)]) (st := []) C m12_156 dX12_turns_45 (s_X12 hT) rfl (t_X12_keepsTurn hT (zRk rfl) (zRk rfl) (zRk rfl) (zRk rfl) hc) ⟨Nat.le_of_ble_eq_true rfl, Nat.le_of_ble_eq_true rfl⟩ rfl (Nat.le_of_ble_eq_true rfl) ⟨Nat.zero_le _, Nat.zero_le _⟩ fun hw => ?_
    clear hc hw
    show zP V X 4 0 0 48 _ [] d1
    revert h
    generalize d1 = d
    intro h
    exact zP_vret (pc := 48) C E dX12_turns_48 h
def l_X12_inState_4F  (r4 : Int → Int → Int → zD → Option (Int × zD)) (x1 x2 x3 : Int) (d : zD) : Option (Int × zD) :=
  zg 800 2 <| zl (d 401 (2 : Int).toNat) fun v10 =>
  if (v10 : Int) ≤ x3 then (
    some (x2, d))
  else (
    zc (f_X12_message0  x3 3 d) fun v17 d =>
    if (v17 : Int) = x1 then (
      zl (zw (x2 + 1)) fun v26 =>
      zl (zw (x3 + 1)) fun v28 =>
      r4 x1 v26 v28 d)
    else (
      zl (zw (x3 + 1)) fun v28 =>
      r4 x1 x2 v28 d))
theorem wl_X12_inState_4F {V : zW} {X : zX}  (hT : zo12 V) (C : zOk V X cX12_inState RX12 4 (zrm 1) (some .int)) {rv : Int} {dz : zD} (E : zEnd V X (some (.int (zI rv))) (zR rv) dz) {r4 : Int → Int → Int → zD → Option (Int × zD)} (hr4 : ∀ {x1 x2 x3 : Int} {d : zD}, zR x1 → zR x2 → zR x3 → r4 x1 x2 x3 d = some (rv, dz) → zP V X 4 0 0 4 [some (.ref (zad V 400)), some (.int (zI x1)), some (.int (zI x2)), some (.int (zI x3))] [] d) {x1 x2 x3 : Int} (hx1 : zR x1) (hx2 : zR x2) (hx3 : zR x3) {d : zD} (h : l_X12_inState_4F  r4 x1 x2 x3 d = some (rv, dz)) : zP V X 4 0 0 4 [some (.ref (zad V 400)), some (.int (zI x1)), some (.int (zI x2)), some (.int (zI x3))] [] d := by
  refine zP_iload_n (pc := 4) C (x := zI x3) dX12_inState_4 rfl rfl ?_
  refine zP_aload_n (pc := 5) C (x := zad V 400) dX12_inState_5 rfl rfl ?_
  refine zP_getR (pc := 6) (a := 400) (t := 401) C g12_13 dX12_inState_6 (s_X12 hT) rfl ?_
  refine zP_iconst (pc := 9) C dX12_inState_9 ?_
  refine zP_iald (pc := 10) (a := 401) C dX12_inState_10 (s_X12_s hT) (zRk rfl) h fun v10 hv10 h => ?_
  refine zP_icmp_ge (pc := 11) (tgt := 34) C dX12_inState_11 rfl hx3 hv10 h (fun _ h => ?_) (fun _ h => ?_)
  · refine zP_iload_n (pc := 34) C (x := zI x2) dX12_inState_34 rfl rfl ?_
    exact zP_iret (pc := 35) C E dX12_inState_35 hx2 h
  · refine zP_aload_n (pc := 14) C (x := zad V 400) dX12_inState_14 rfl rfl ?_
    refine zP_iload_n (pc := 15) C (x := zI x3) dX12_inState_15 rfl rfl ?_
    refine zP_iconst (pc := 16) C dX12_inState_16 ?_
    obtain ⟨v17, d1, hc, h⟩ := zc_h h
    refine zP_callV (pc := 17) (As := [.int (zI x3), .int (zI 3)]) (st := []) C m12_65 dX12_inState_17 (s_X12 hT) rfl (t_X12_message0 hT hx3 (zRk rfl) hc) ⟨Nat.le_of_ble_eq_true rfl, Nat.le_of_ble_eq_true rfl⟩ rfl (Nat.le_of_ble_eq_true rfl) ⟨Nat.zero_le _, Nat.zero_le _⟩ fun hw => ?_
    have hv17 := hw
    clear hc hw
    show zP V X 4 0 0 20 _ [.int (zI v17)] d1
    revert h
    generalize d1 = d
    intro h
    refine zP_iload_n (pc := 20) C (x := zI x1) dX12_inState_20 rfl rfl ?_
    refine zP_icmp_ne (pc := 21) (tgt := 28) C dX12_inState_21 rfl hv17 hx1 h (fun _ h => ?_) (fun _ h => ?_)
    · refine zP_iinc (pc := 28) C (x := x3) dX12_inState_28 rfl (Nat.le_of_ble_eq_true rfl) rfl h fun v28 hv28 h => ?_
      show zP V X 4 0 0 31 [some (.ref (zad V 400)), some (.int (zI x1)), some (.int (zI x2)), some (.int (zI v28))] _ _
      refine zP_goto (pc := 31) (tgt := 4) C dX12_inState_31 rfl ?_
      exact zP_mask [true, true, true, true] (hr4 hx1 hx2 hv28 h)
    · refine zP_iload_n (pc := 24) C (x := zI x2) dX12_inState_24 rfl rfl ?_
      refine zP_iconst (pc := 25) C dX12_inState_25 ?_
      refine zP_iadd (pc := 26) C dX12_inState_26 h fun v26 hv26 h => ?_
      refine zP_istore_n (pc := 27) C (L' := [some (.ref (zad V 400)), some (.int (zI x1)), some (.int (zI v26)), some (.int (zI x3))]) dX12_inState_27 rfl (Nat.le_of_ble_eq_true rfl) rfl rfl ?_
      refine zP_iinc (pc := 28) C (x := x3) dX12_inState_28 rfl (Nat.le_of_ble_eq_true rfl) rfl h fun v28 hv28 h => ?_
      show zP V X 4 0 0 31 [some (.ref (zad V 400)), some (.int (zI x1)), some (.int (zI v26)), some (.int (zI v28))] _ _
      refine zP_goto (pc := 31) (tgt := 4) C dX12_inState_31 rfl ?_
      exact zP_mask [true, true, true, true] (hr4 hx1 hv26 hv28 h)
def l_X12_inState_4   : Nat → Int → Int → Int → zD → Option (Int × zD)
  | 0, _, _, _, _ => none
  | q + 1, x1, x2, x3, d => l_X12_inState_4F   (l_X12_inState_4   q) x1 x2 x3 d
theorem wl_X12_inState_4 {V : zW} {X : zX}  (hT : zo12 V) (C : zOk V X cX12_inState RX12 4 (zrm 1) (some .int)) {rv : Int} {dz : zD} (E : zEnd V X (some (.int (zI rv))) (zR rv) dz)  : ∀ (q : Nat) {x1 x2 x3 : Int} (hx1 : zR x1) (hx2 : zR x2) (hx3 : zR x3) {d : zD} (h : l_X12_inState_4   q x1 x2 x3 d = some (rv, dz)), zP V X 4 0 0 4 [some (.ref (zad V 400)), some (.int (zI x1)), some (.int (zI x2)), some (.int (zI x3))] [] d := by
  intro q
  induction q with
  | zero => intro x1 x2 x3 hx1 hx2 hx3 d h; cases (show (none : Option (Int × zD)) = some (rv, dz) from h)
  | succ q ih =>
    intro x1 x2 x3 hx1 hx2 hx3 d h
    exact wl_X12_inState_4F hT C E  (fun  hx1 hx2 hx3 h => ih hx1 hx2 hx3 h) hx1 hx2 hx3 h
def f_X12_inState  (x1 : Int) (d : zD) : Option (Int × zD) :=
  l_X12_inState_4   zF x1 0 0 d
theorem t_X12_inState {V : zW}  (hT : zo12 V) {x1 : Int} (hx1 : zR x1) {d dz : zD} {rv : Int} (h : f_X12_inState  x1 d = some (rv, dz)) : zMet V 1 yX12_inState cX12_inState 4 (some .int) [.ref (zad V 400), .int (zI x1)] d (some (.int (zI rv))) (zR rv) dz := by
  refine zMet_by RX12 pn12 rfl (Nat.le_of_ble_eq_true rfl) [some (.ref (zad V 400)), some (.int (zI x1)), none, none] rfl fun X C E => ?_
  refine zP_iconst (pc := 0) C dX12_inState_0 ?_
  refine zP_istore_n (pc := 1) C (L' := [some (.ref (zad V 400)), some (.int (zI x1)), some (.int (zI 0)), none]) dX12_inState_1 rfl (Nat.le_of_ble_eq_true rfl) rfl rfl ?_
  refine zP_iconst (pc := 2) C dX12_inState_2 ?_
  refine zP_istore_n (pc := 3) C (L' := [some (.ref (zad V 400)), some (.int (zI x1)), some (.int (zI 0)), some (.int (zI 0))]) dX12_inState_3 rfl (Nat.le_of_ble_eq_true rfl) rfl rfl ?_
  exact zP_mask [true, true, true, true] (wl_X12_inState_4 hT C E  zF hx1 (zRk rfl) (zRk rfl) h)
def l_X12_runsNow_8F  (r8 : Int → Int → Int → zD → Option (Int × zD)) (x1 x2 x3 : Int) (d : zD) : Option (Int × zD) :=
  if (x1 : Int) ≤ x3 then (
    zc (f_X12_inState  3 d) fun v25 d =>
    zl (zw (v25 - x2)) fun v29 =>
    some (v29, d))
  else (
    zc (f_X12_turns   d) fun _ d =>
    zl (zw (x3 + 1)) fun v17 =>
    r8 x1 x2 v17 d)
theorem wl_X12_runsNow_8F {V : zW} {X : zX}  (hT : zo12 V) (C : zOk V X cX12_runsNow RX12 4 (zrm 11) (some .int)) {rv : Int} {dz : zD} (E : zEnd V X (some (.int (zI rv))) (zR rv) dz) {r8 : Int → Int → Int → zD → Option (Int × zD)} (hr8 : ∀ {x1 x2 x3 : Int} {d : zD}, zR x1 → zR x2 → zR x3 → r8 x1 x2 x3 d = some (rv, dz) → zP V X 4 0 0 8 [some (.ref (zad V 400)), some (.int (zI x1)), some (.int (zI x2)), some (.int (zI x3))] [] d) {x1 x2 x3 : Int} (hx1 : zR x1) (hx2 : zR x2) (hx3 : zR x3) {d : zD} (h : l_X12_runsNow_8F  r8 x1 x2 x3 d = some (rv, dz)) : zP V X 4 0 0 8 [some (.ref (zad V 400)), some (.int (zI x1)), some (.int (zI x2)), some (.int (zI x3))] [] d := by
  refine zP_iload_n (pc := 8) C (x := zI x3) dX12_runsNow_8 rfl rfl ?_
  refine zP_iload_n (pc := 9) C (x := zI x1) dX12_runsNow_9 rfl rfl ?_
  refine zP_icmp_ge (pc := 10) (tgt := 23) C dX12_runsNow_10 rfl hx3 hx1 h (fun _ h => ?_) (fun _ h => ?_)
  · refine zP_aload_n (pc := 23) C (x := zad V 400) dX12_runsNow_23 rfl rfl ?_
    refine zP_iconst (pc := 24) C dX12_runsNow_24 ?_
    obtain ⟨v25, d1, hc, h⟩ := zc_h h
    refine zP_callV (pc := 25) (As := [.int (zI 3)]) (st := []) C m12_168 dX12_runsNow_25 (s_X12 hT) rfl (t_X12_inState hT (zRk rfl) hc) ⟨Nat.le_of_ble_eq_true rfl, Nat.le_of_ble_eq_true rfl⟩ rfl (Nat.le_of_ble_eq_true rfl) ⟨Nat.zero_le _, Nat.zero_le _⟩ fun hw => ?_
    have hv25 := hw
    clear hc hw
    show zP V X 4 0 0 28 _ [.int (zI v25)] d1
    revert h
    generalize d1 = d
    intro h
    refine zP_iload_n (pc := 28) C (x := zI x2) dX12_runsNow_28 rfl rfl ?_
    refine zP_isub (pc := 29) C dX12_runsNow_29 h fun v29 hv29 h => ?_
    exact zP_iret (pc := 30) C E dX12_runsNow_30 hv29 h
  · refine zP_aload_n (pc := 13) C (x := zad V 400) dX12_runsNow_13 rfl rfl ?_
    obtain ⟨_, d1, hc, h⟩ := zc_h h
    refine zP_callV (pc := 14) (As := []) (st := []) C m12_171 dX12_runsNow_14 (s_X12 hT) rfl (t_X12_turns hT  hc) ⟨Nat.le_of_ble_eq_true rfl, Nat.le_of_ble_eq_true rfl⟩ rfl (Nat.le_of_ble_eq_true rfl) ⟨Nat.zero_le _, Nat.zero_le _⟩ fun hw => ?_
    clear hc hw
    show zP V X 4 0 0 17 _ [] d1
    revert h
    generalize d1 = d
    intro h
    refine zP_iinc (pc := 17) C (x := x3) dX12_runsNow_17 rfl (Nat.le_of_ble_eq_true rfl) rfl h fun v17 hv17 h => ?_
    show zP V X 4 0 0 20 [some (.ref (zad V 400)), some (.int (zI x1)), some (.int (zI x2)), some (.int (zI v17))] _ _
    refine zP_goto (pc := 20) (tgt := 8) C dX12_runsNow_20 rfl ?_
    exact zP_mask [true, true, true, true] (hr8 hx1 hx2 hv17 h)
def l_X12_runsNow_8   : Nat → Int → Int → Int → zD → Option (Int × zD)
  | 0, _, _, _, _ => none
  | q + 1, x1, x2, x3, d => l_X12_runsNow_8F   (l_X12_runsNow_8   q) x1 x2 x3 d
theorem wl_X12_runsNow_8 {V : zW} {X : zX}  (hT : zo12 V) (C : zOk V X cX12_runsNow RX12 4 (zrm 11) (some .int)) {rv : Int} {dz : zD} (E : zEnd V X (some (.int (zI rv))) (zR rv) dz)  : ∀ (q : Nat) {x1 x2 x3 : Int} (hx1 : zR x1) (hx2 : zR x2) (hx3 : zR x3) {d : zD} (h : l_X12_runsNow_8   q x1 x2 x3 d = some (rv, dz)), zP V X 4 0 0 8 [some (.ref (zad V 400)), some (.int (zI x1)), some (.int (zI x2)), some (.int (zI x3))] [] d := by
  intro q
  induction q with
  | zero => intro x1 x2 x3 hx1 hx2 hx3 d h; cases (show (none : Option (Int × zD)) = some (rv, dz) from h)
  | succ q ih =>
    intro x1 x2 x3 hx1 hx2 hx3 d h
    exact wl_X12_runsNow_8F hT C E  (fun  hx1 hx2 hx3 h => ih hx1 hx2 hx3 h) hx1 hx2 hx3 h
def f_X12_runsNow  (x1 : Int) (d : zD) : Option (Int × zD) :=
  zc (f_X12_inState  3 d) fun v2 d =>
  l_X12_runsNow_8   zF x1 v2 0 d
theorem t_X12_runsNow {V : zW}  (hT : zo12 V) {x1 : Int} (hx1 : zR x1) {d dz : zD} {rv : Int} (h : f_X12_runsNow  x1 d = some (rv, dz)) : zMet V 11 yX12_runsNow cX12_runsNow 4 (some .int) [.ref (zad V 400), .int (zI x1)] d (some (.int (zI rv))) (zR rv) dz := by
  refine zMet_by RX12 pn12 rfl (Nat.le_of_ble_eq_true rfl) [some (.ref (zad V 400)), some (.int (zI x1)), none, none] rfl fun X C E => ?_
  refine zP_aload_n (pc := 0) C (x := zad V 400) dX12_runsNow_0 rfl rfl ?_
  refine zP_iconst (pc := 1) C dX12_runsNow_1 ?_
  obtain ⟨v2, d1, hc, h⟩ := zc_h h
  refine zP_callV (pc := 2) (As := [.int (zI 3)]) (st := []) C m12_168 dX12_runsNow_2 (s_X12 hT) rfl (t_X12_inState hT (zRk rfl) hc) ⟨Nat.le_of_ble_eq_true rfl, Nat.le_of_ble_eq_true rfl⟩ rfl (Nat.le_of_ble_eq_true rfl) ⟨Nat.zero_le _, Nat.zero_le _⟩ fun hw => ?_
  have hv2 := hw
  clear hc hw
  show zP V X 4 0 0 5 _ [.int (zI v2)] d1
  revert h
  generalize d1 = d
  intro h
  refine zP_istore_n (pc := 5) C (L' := [some (.ref (zad V 400)), some (.int (zI x1)), some (.int (zI v2)), none]) dX12_runsNow_5 rfl (Nat.le_of_ble_eq_true rfl) rfl rfl ?_
  refine zP_iconst (pc := 6) C dX12_runsNow_6 ?_
  refine zP_istore_n (pc := 7) C (L' := [some (.ref (zad V 400)), some (.int (zI x1)), some (.int (zI v2)), some (.int (zI 0))]) dX12_runsNow_7 rfl (Nat.le_of_ble_eq_true rfl) rfl rfl ?_
  exact zP_mask [true, true, true, true] (wl_X12_runsNow_8 hT C E  zF hx1 hv2 (zRk rfl) h)
def l_X12_puts4_3F  (r3 : Int → Int → zD → Option (Int × zD)) (x1 x2 : Int) (d : zD) : Option (Int × zD) :=
  if (x2 : Int) < 0 then (
    some (0, d))
  else (
    zl (d 400 11) fun v12 =>
    zl (zshr x1 x2) fun v17 =>
    zl (zb8 v17) fun v18 =>
    zg 600 v12 <| zl (zu d 405 (v12 : Int).toNat (zb8 v18)) fun d =>
    zl (d 400 11) fun v22 =>
    zl (zw (v22 + 1)) fun v26 =>
    zl (zu d 400 11 v26) fun d =>
    zl (zw (x2 + (-8))) fun v30 =>
    r3 x1 v30 d)
theorem wl_X12_puts4_3F {V : zW} {X : zX}  (hT : zo12 V) (C : zOk V X cX12_puts4 RX12 3 (zrm 0) none) {rv : Int} {dz : zD} (E : zEnd V X none (rv = 0) dz) {r3 : Int → Int → zD → Option (Int × zD)} (hr3 : ∀ {x1 x2 : Int} {d : zD}, zR x1 → zR x2 → r3 x1 x2 d = some (rv, dz) → zP V X 3 0 0 3 [some (.ref (zad V 400)), some (.int (zI x1)), some (.int (zI x2))] [] d) {x1 x2 : Int} (hx1 : zR x1) (hx2 : zR x2) {d : zD} (h : l_X12_puts4_3F  r3 x1 x2 d = some (rv, dz)) : zP V X 3 0 0 3 [some (.ref (zad V 400)), some (.int (zI x1)), some (.int (zI x2))] [] d := by
  refine zP_iload_n (pc := 3) C (x := zI x2) dX12_puts4_3 rfl rfl ?_
  refine zP_if_lt (pc := 4) (tgt := 36) C dX12_puts4_4 rfl hx2 h (fun _ h => ?_) (fun _ h => ?_)
  · exact zP_vret (pc := 36) C E dX12_puts4_36 h
  · refine zP_aload_n (pc := 7) C (x := zad V 400) dX12_puts4_7 rfl rfl ?_
    refine zP_getR (pc := 8) (a := 400) (t := 405) C g12_26 dX12_puts4_8 (s_X12 hT) rfl ?_
    refine zP_aload_n (pc := 11) C (x := zad V 400) dX12_puts4_11 rfl rfl ?_
    refine zP_getI (pc := 12) (a := 400) C g12_174 dX12_puts4_12 (s_X12 hT) rfl h fun v12 hv12 h => ?_
    refine zP_iload_n (pc := 15) C (x := zI x1) dX12_puts4_15 rfl rfl ?_
    refine zP_iload_n (pc := 16) C (x := zI x2) dX12_puts4_16 rfl rfl ?_
    refine zP_ishr (pc := 17) C dX12_puts4_17 h fun v17 hv17 h => ?_
    refine zP_i2b (pc := 18) C dX12_puts4_18 h fun v18 hv18 h => ?_
    refine zP_bast (pc := 19) (a := 405) C dX12_puts4_19 (s_X12_input hT) hv12 h fun d h => ?_
    refine zP_aload_n (pc := 20) C (x := zad V 400) dX12_puts4_20 rfl rfl ?_
    refine zP_aload_n (pc := 21) C (x := zad V 400) dX12_puts4_21 rfl rfl ?_
    refine zP_getI (pc := 22) (a := 400) C g12_174 dX12_puts4_22 (s_X12 hT) rfl h fun v22 hv22 h => ?_
    refine zP_iconst (pc := 25) C dX12_puts4_25 ?_
    refine zP_iadd (pc := 26) C dX12_puts4_26 h fun v26 hv26 h => ?_
    refine zP_putI (pc := 27) (a := 400) C p12_174 dX12_puts4_27 (s_X12 hT) rfl hv26 h fun d h => ?_
    refine zP_iinc (pc := 30) C (x := x2) dX12_puts4_30 rfl (Nat.le_of_ble_eq_true rfl) rfl h fun v30 hv30 h => ?_
    show zP V X 3 0 0 33 [some (.ref (zad V 400)), some (.int (zI x1)), some (.int (zI v30))] _ _
    refine zP_goto (pc := 33) (tgt := 3) C dX12_puts4_33 rfl ?_
    exact zP_mask [true, true, true] (hr3 hx1 hv30 h)
def l_X12_puts4_3   : Nat → Int → Int → zD → Option (Int × zD)
  | 0, _, _, _ => none
  | q + 1, x1, x2, d => l_X12_puts4_3F   (l_X12_puts4_3   q) x1 x2 d
theorem wl_X12_puts4_3 {V : zW} {X : zX}  (hT : zo12 V) (C : zOk V X cX12_puts4 RX12 3 (zrm 0) none) {rv : Int} {dz : zD} (E : zEnd V X none (rv = 0) dz)  : ∀ (q : Nat) {x1 x2 : Int} (hx1 : zR x1) (hx2 : zR x2) {d : zD} (h : l_X12_puts4_3   q x1 x2 d = some (rv, dz)), zP V X 3 0 0 3 [some (.ref (zad V 400)), some (.int (zI x1)), some (.int (zI x2))] [] d := by
  intro q
  induction q with
  | zero => intro x1 x2 hx1 hx2 d h; cases (show (none : Option (Int × zD)) = some (rv, dz) from h)
  | succ q ih =>
    intro x1 x2 hx1 hx2 d h
    exact wl_X12_puts4_3F hT C E  (fun  hx1 hx2 h => ih hx1 hx2 h) hx1 hx2 h
def f_X12_puts4  (x1 : Int) (d : zD) : Option (Int × zD) :=
  l_X12_puts4_3   zF x1 24 d
theorem t_X12_puts4 {V : zW}  (hT : zo12 V) {x1 : Int} (hx1 : zR x1) {d dz : zD} {rv : Int} (h : f_X12_puts4  x1 d = some (rv, dz)) : zMet V 0 yX12_puts4 cX12_puts4 3 none [.ref (zad V 400), .int (zI x1)] d none (rv = 0) dz := by
  refine zMet_by RX12 pn12 rfl (Nat.le_of_ble_eq_true rfl) [some (.ref (zad V 400)), some (.int (zI x1)), none] rfl fun X C E => ?_
  refine zP_bipush (pc := 0) C dX12_puts4_0 rfl ?_
  refine zP_istore_n (pc := 2) C (L' := [some (.ref (zad V 400)), some (.int (zI x1)), some (.int (zI 24))]) dX12_puts4_2 rfl (Nat.le_of_ble_eq_true rfl) rfl rfl ?_
  exact zP_mask [true, true, true] (wl_X12_puts4_3 hT C E  zF hx1 (zRk rfl) h)
def f_X12_appendInput  (x1 x2 x3 x4 x5 : Int) (d : zD) : Option (Int × zD) :=
  zl (zu d 400 0 0) fun d =>
  zl (d 400 11) fun v6 =>
  if (v6 : Int) ≤ 580 then (
    zc (f_X12_puts4  x1 d) fun _ d =>
    zc (f_X12_puts4  x2 d) fun _ d =>
    zc (f_X12_puts4  x3 d) fun _ d =>
    zc (f_X12_puts4  x4 d) fun _ d =>
    zc (f_X12_puts4  x5 d) fun _ d =>
    zl (d 400 11) fun v45 =>
    some (v45, d))
  else (
    some ((-1), d))
theorem t_X12_appendInput {V : zW}  (hT : zo12 V) {x1 x2 x3 x4 x5 : Int} (hx1 : zR x1) (hx2 : zR x2) (hx3 : zR x3) (hx4 : zR x4) (hx5 : zR x5) {d dz : zD} {rv : Int} (h : f_X12_appendInput  x1 x2 x3 x4 x5 d = some (rv, dz)) : zMet V 1 yX12_appendInput cX12_appendInput 6 (some .int) [.ref (zad V 400), .int (zI x1), .int (zI x2), .int (zI x3), .int (zI x4), .int (zI x5)] d (some (.int (zI rv))) (zR rv) dz := by
  refine zMet_by RX12 pn12 rfl (Nat.le_of_ble_eq_true rfl) [some (.ref (zad V 400)), some (.int (zI x1)), some (.int (zI x2)), some (.int (zI x3)), some (.int (zI x4)), some (.int (zI x5))] rfl fun X C E => ?_
  refine zP_aload_n (pc := 0) C (x := zad V 400) dX12_appendInput_0 rfl rfl ?_
  refine zP_iconst (pc := 1) C dX12_appendInput_1 ?_
  refine zP_putI (pc := 2) (a := 400) C p12_1 dX12_appendInput_2 (s_X12 hT) rfl (zRk rfl) h fun d h => ?_
  refine zP_aload_n (pc := 5) C (x := zad V 400) dX12_appendInput_5 rfl rfl ?_
  refine zP_getI (pc := 6) (a := 400) C g12_174 dX12_appendInput_6 (s_X12 hT) rfl h fun v6 hv6 h => ?_
  refine zP_sipush (pc := 9) C dX12_appendInput_9 rfl ?_
  refine zP_icmp_le (pc := 12) (tgt := 17) C dX12_appendInput_12 rfl hv6 (zRk rfl) h (fun _ h => ?_) (fun _ h => ?_)
  · refine zP_aload_n (pc := 17) C (x := zad V 400) dX12_appendInput_17 rfl rfl ?_
    refine zP_iload_n (pc := 18) C (x := zI x1) dX12_appendInput_18 rfl rfl ?_
    obtain ⟨_, d1, hc, h⟩ := zc_h h
    refine zP_callV (pc := 19) (As := [.int (zI x1)]) (st := []) C m12_177 dX12_appendInput_19 (s_X12 hT) rfl (t_X12_puts4 hT hx1 hc) ⟨Nat.le_of_ble_eq_true rfl, Nat.le_of_ble_eq_true rfl⟩ rfl (Nat.le_of_ble_eq_true rfl) ⟨Nat.zero_le _, Nat.zero_le _⟩ fun hw => ?_
    clear hc hw
    show zP V X 6 0 0 22 _ [] d1
    revert h
    generalize d1 = d
    intro h
    refine zP_aload_n (pc := 22) C (x := zad V 400) dX12_appendInput_22 rfl rfl ?_
    refine zP_iload_n (pc := 23) C (x := zI x2) dX12_appendInput_23 rfl rfl ?_
    obtain ⟨_, d1, hc, h⟩ := zc_h h
    refine zP_callV (pc := 24) (As := [.int (zI x2)]) (st := []) C m12_177 dX12_appendInput_24 (s_X12 hT) rfl (t_X12_puts4 hT hx2 hc) ⟨Nat.le_of_ble_eq_true rfl, Nat.le_of_ble_eq_true rfl⟩ rfl (Nat.le_of_ble_eq_true rfl) ⟨Nat.zero_le _, Nat.zero_le _⟩ fun hw => ?_
    clear hc hw
    show zP V X 6 0 0 27 _ [] d1
    revert h
    generalize d1 = d
    intro h
    refine zP_aload_n (pc := 27) C (x := zad V 400) dX12_appendInput_27 rfl rfl ?_
    refine zP_iload_n (pc := 28) C (x := zI x3) dX12_appendInput_28 rfl rfl ?_
    obtain ⟨_, d1, hc, h⟩ := zc_h h
    refine zP_callV (pc := 29) (As := [.int (zI x3)]) (st := []) C m12_177 dX12_appendInput_29 (s_X12 hT) rfl (t_X12_puts4 hT hx3 hc) ⟨Nat.le_of_ble_eq_true rfl, Nat.le_of_ble_eq_true rfl⟩ rfl (Nat.le_of_ble_eq_true rfl) ⟨Nat.zero_le _, Nat.zero_le _⟩ fun hw => ?_
    clear hc hw
    show zP V X 6 0 0 32 _ [] d1
    revert h
    generalize d1 = d
    intro h
    refine zP_aload_n (pc := 32) C (x := zad V 400) dX12_appendInput_32 rfl rfl ?_
    refine zP_iload (pc := 33) C (x := zI x4) dX12_appendInput_33 rfl ?_
    obtain ⟨_, d1, hc, h⟩ := zc_h h
    refine zP_callV (pc := 35) (As := [.int (zI x4)]) (st := []) C m12_177 dX12_appendInput_35 (s_X12 hT) rfl (t_X12_puts4 hT hx4 hc) ⟨Nat.le_of_ble_eq_true rfl, Nat.le_of_ble_eq_true rfl⟩ rfl (Nat.le_of_ble_eq_true rfl) ⟨Nat.zero_le _, Nat.zero_le _⟩ fun hw => ?_
    clear hc hw
    show zP V X 6 0 0 38 _ [] d1
    revert h
    generalize d1 = d
    intro h
    refine zP_aload_n (pc := 38) C (x := zad V 400) dX12_appendInput_38 rfl rfl ?_
    refine zP_iload (pc := 39) C (x := zI x5) dX12_appendInput_39 rfl ?_
    obtain ⟨_, d1, hc, h⟩ := zc_h h
    refine zP_callV (pc := 41) (As := [.int (zI x5)]) (st := []) C m12_177 dX12_appendInput_41 (s_X12 hT) rfl (t_X12_puts4 hT hx5 hc) ⟨Nat.le_of_ble_eq_true rfl, Nat.le_of_ble_eq_true rfl⟩ rfl (Nat.le_of_ble_eq_true rfl) ⟨Nat.zero_le _, Nat.zero_le _⟩ fun hw => ?_
    clear hc hw
    show zP V X 6 0 0 44 _ [] d1
    revert h
    generalize d1 = d
    intro h
    refine zP_aload_n (pc := 44) C (x := zad V 400) dX12_appendInput_44 rfl rfl ?_
    refine zP_getI (pc := 45) (a := 400) C g12_174 dX12_appendInput_45 (s_X12 hT) rfl h fun v45 hv45 h => ?_
    exact zP_iret (pc := 48) C E dX12_appendInput_48 hv45 h
  · refine zP_iconst (pc := 15) C dX12_appendInput_15 ?_
    exact zP_iret (pc := 16) C E dX12_appendInput_16 (zRk rfl) h
def f_X12_truncateInput  (x1 : Int) (d : zD) : Option (Int × zD) :=
  zl (zu d 400 0 0) fun d =>
  zl (d 400 11) fun v8 =>
  zc (f_X12_isIn  x1 0 v8 d) fun v11 d =>
  if (v11 : Int) = 0 then (
    some (0, d))
  else (
    zl (zu d 400 11 x1) fun d =>
    some (1, d))
theorem t_X12_truncateInput {V : zW}  (hT : zo12 V) {x1 : Int} (hx1 : zR x1) {d dz : zD} {rv : Int} (h : f_X12_truncateInput  x1 d = some (rv, dz)) : zMet V 1 yX12_truncateInput cX12_truncateInput 2 (some .boolean) [.ref (zad V 400), .int (zI x1)] d (some (.int (zI rv))) (rv = 0 ∨ rv = 1) dz := by
  refine zMet_by RX12 pn12 rfl (Nat.le_of_ble_eq_true rfl) [some (.ref (zad V 400)), some (.int (zI x1))] rfl fun X C E => ?_
  refine zP_aload_n (pc := 0) C (x := zad V 400) dX12_truncateInput_0 rfl rfl ?_
  refine zP_iconst (pc := 1) C dX12_truncateInput_1 ?_
  refine zP_putI (pc := 2) (a := 400) C p12_1 dX12_truncateInput_2 (s_X12 hT) rfl (zRk rfl) h fun d h => ?_
  refine zP_iload_n (pc := 5) C (x := zI x1) dX12_truncateInput_5 rfl rfl ?_
  refine zP_iconst (pc := 6) C dX12_truncateInput_6 ?_
  refine zP_aload_n (pc := 7) C (x := zad V 400) dX12_truncateInput_7 rfl rfl ?_
  refine zP_getI (pc := 8) (a := 400) C g12_174 dX12_truncateInput_8 (s_X12 hT) rfl h fun v8 hv8 h => ?_
  obtain ⟨v11, d1, hc, h⟩ := zc_h h
  refine zP_callS (pc := 11) (As := [.int (zI x1), .int (zI 0), .int (zI v8)]) (st := []) C m12_53 dX12_truncateInput_11 (t_X12_isIn  hx1 (zRk rfl) hv8 hc) ⟨Nat.le_of_ble_eq_true rfl, Nat.le_of_ble_eq_true rfl⟩ rfl (Nat.le_of_ble_eq_true rfl) ⟨Nat.zero_le _, Nat.zero_le _⟩ fun hw => ?_
  have hbv11 := hw
  have hv11 := z01 hw
  clear hc hw
  show zP V X 2 0 0 14 _ [.int (zI v11)] d1
  revert h
  generalize d1 = d
  intro h
  refine zP_if_ne (pc := 14) (tgt := 19) C dX12_truncateInput_14 rfl hv11 h (fun _ h => ?_) (fun _ h => ?_)
  · refine zP_aload_n (pc := 19) C (x := zad V 400) dX12_truncateInput_19 rfl rfl ?_
    refine zP_iload_n (pc := 20) C (x := zI x1) dX12_truncateInput_20 rfl rfl ?_
    refine zP_putI (pc := 21) (a := 400) C p12_174 dX12_truncateInput_21 (s_X12 hT) rfl hx1 h fun d h => ?_
    refine zP_iconst (pc := 24) C dX12_truncateInput_24 ?_
    exact zP_zret (pc := 25) C E dX12_truncateInput_25 (Or.inr rfl) h
  · refine zP_iconst (pc := 17) C dX12_truncateInput_17 ?_
    exact zP_zret (pc := 18) C E dX12_truncateInput_18 (Or.inl rfl) h
def f_X12_errorCode  (d : zD) : Option (Int × zD) :=
  zl (zu d 400 0 0) fun d =>
  zl (d 400 12) fun v6 =>
  some (v6, d)
theorem t_X12_errorCode {V : zW}  (hT : zo12 V)   {d dz : zD} {rv : Int} (h : f_X12_errorCode   d = some (rv, dz)) : zMet V 0 yX12_errorCode cX12_errorCode 1 (some .int) [.ref (zad V 400)] d (some (.int (zI rv))) (zR rv) dz := by
  refine zMet_by RX12 pn12 rfl (Nat.le_of_ble_eq_true rfl) [some (.ref (zad V 400))] rfl fun X C E => ?_
  refine zP_aload_n (pc := 0) C (x := zad V 400) dX12_errorCode_0 rfl rfl ?_
  refine zP_iconst (pc := 1) C dX12_errorCode_1 ?_
  refine zP_putI (pc := 2) (a := 400) C p12_1 dX12_errorCode_2 (s_X12 hT) rfl (zRk rfl) h fun d h => ?_
  refine zP_aload_n (pc := 5) C (x := zad V 400) dX12_errorCode_5 rfl rfl ?_
  refine zP_getI (pc := 6) (a := 400) C g12_180 dX12_errorCode_6 (s_X12 hT) rfl h fun v6 hv6 h => ?_
  exact zP_iret (pc := 9) C E dX12_errorCode_9 hv6 h
def f_X12_errorOffset  (d : zD) : Option (Int × zD) :=
  zl (zu d 400 0 0) fun d =>
  zl (d 400 13) fun v6 =>
  some (v6, d)
theorem t_X12_errorOffset {V : zW}  (hT : zo12 V)   {d dz : zD} {rv : Int} (h : f_X12_errorOffset   d = some (rv, dz)) : zMet V 0 yX12_errorOffset cX12_errorOffset 1 (some .int) [.ref (zad V 400)] d (some (.int (zI rv))) (zR rv) dz := by
  refine zMet_by RX12 pn12 rfl (Nat.le_of_ble_eq_true rfl) [some (.ref (zad V 400))] rfl fun X C E => ?_
  refine zP_aload_n (pc := 0) C (x := zad V 400) dX12_errorOffset_0 rfl rfl ?_
  refine zP_iconst (pc := 1) C dX12_errorOffset_1 ?_
  refine zP_putI (pc := 2) (a := 400) C p12_1 dX12_errorOffset_2 (s_X12 hT) rfl (zRk rfl) h fun d h => ?_
  refine zP_aload_n (pc := 5) C (x := zad V 400) dX12_errorOffset_5 rfl rfl ?_
  refine zP_getI (pc := 6) (a := 400) C g12_30 dX12_errorOffset_6 (s_X12 hT) rfl h fun v6 hv6 h => ?_
  exact zP_iret (pc := 9) C E dX12_errorOffset_9 hv6 h
def f_X12_byteAt  (x1 : Int) (d : zD) : Option (Int × zD) :=
  zl (d 400 11) fun v2 =>
  if (v2 : Int) ≤ x1 then (
    some ((-1), d))
  else (
    zg 600 x1 <| zl (d 405 (x1 : Int).toNat) fun v13 =>
    zl (zand v13 255) fun v17 =>
    some (v17, d))
theorem t_X12_byteAt {V : zW}  (hT : zo12 V) {x1 : Int} (hx1 : zR x1) {d dz : zD} {rv : Int} (h : f_X12_byteAt  x1 d = some (rv, dz)) : zMet V 0 yX12_byteAt cX12_byteAt 2 (some .int) [.ref (zad V 400), .int (zI x1)] d (some (.int (zI rv))) (zR rv) dz := by
  refine zMet_by RX12 pn12 rfl (Nat.le_of_ble_eq_true rfl) [some (.ref (zad V 400)), some (.int (zI x1))] rfl fun X C E => ?_
  refine zP_iload_n (pc := 0) C (x := zI x1) dX12_byteAt_0 rfl rfl ?_
  refine zP_aload_n (pc := 1) C (x := zad V 400) dX12_byteAt_1 rfl rfl ?_
  refine zP_getI (pc := 2) (a := 400) C g12_174 dX12_byteAt_2 (s_X12 hT) rfl h fun v2 hv2 h => ?_
  refine zP_icmp_ge (pc := 5) (tgt := 21) C dX12_byteAt_5 rfl hx1 hv2 h (fun _ h => ?_) (fun _ h => ?_)
  · refine zP_iconst (pc := 21) C dX12_byteAt_21 ?_
    exact zP_iret (pc := 22) C E dX12_byteAt_22 (zRk rfl) h
  · refine zP_aload_n (pc := 8) C (x := zad V 400) dX12_byteAt_8 rfl rfl ?_
    refine zP_getR (pc := 9) (a := 400) (t := 405) C g12_26 dX12_byteAt_9 (s_X12 hT) rfl ?_
    refine zP_iload_n (pc := 12) C (x := zI x1) dX12_byteAt_12 rfl rfl ?_
    refine zP_bald (pc := 13) (a := 405) C dX12_byteAt_13 (s_X12_input hT) hx1 h fun v13 hv13 h => ?_
    refine zP_sipush (pc := 14) C dX12_byteAt_14 rfl ?_
    refine zP_iand (pc := 17) C dX12_byteAt_17 h fun v17 hv17 h => ?_
    refine zP_goto (pc := 18) (tgt := 22) C dX12_byteAt_18 rfl ?_
    exact zP_iret (pc := 22) C E dX12_byteAt_22 hv17 h
def j_X12_scans_26  (r0 : zD → Option (Int × zD)) (d : zD) : Option (Int × zD) :=
  zl (d 400 15) fun v28 =>
  zl (zw (v28 + 1)) fun v32 =>
  zl (zu d 400 15 v32) fun d =>
  r0  d
theorem wj_X12_scans_26 {V : zW} {X : zX}  (hT : zo12 V) (C : zOk V X cX12_scans RX12 2 (zrm 1) none) {rv : Int} {dz : zD} (E : zEnd V X none (rv = 0) dz) {r0 : zD → Option (Int × zD)} (hr0 : ∀ {d : zD}, r0  d = some (rv, dz) → zP V X 2 0 0 0 [some (.ref (zad V 400)), none] [] d)   {d : zD} (h : j_X12_scans_26  r0  d = some (rv, dz)) : zP V X 2 0 0 26 [some (.ref (zad V 400)), none] [] d := by
  refine zP_aload_n (pc := 26) C (x := zad V 400) dX12_scans_26 rfl rfl ?_
  refine zP_aload_n (pc := 27) C (x := zad V 400) dX12_scans_27 rfl rfl ?_
  refine zP_getI (pc := 28) (a := 400) C g12_183 dX12_scans_28 (s_X12 hT) rfl h fun v28 hv28 h => ?_
  refine zP_iconst (pc := 31) C dX12_scans_31 ?_
  refine zP_iadd (pc := 32) C dX12_scans_32 h fun v32 hv32 h => ?_
  refine zP_putI (pc := 33) (a := 400) C p12_183 dX12_scans_33 (s_X12 hT) rfl hv32 h fun d h => ?_
  refine zP_goto (pc := 36) (tgt := 0) C dX12_scans_36 rfl ?_
  exact zP_mask [true, false] (hr0  h)
def j_X12_scans_283   (s0 : Int) (d : zD) : Option (Int × zD) :=
  zl (zu d 400 16 s0) fun d =>
  zl (d 400 15) fun v288 =>
  zl (zw (v288 + 1)) fun v292 =>
  zl (zu d 400 15 v292) fun d =>
  some (0, d)
theorem wj_X12_scans_283 {V : zW} {X : zX}  (hT : zo12 V) (C : zOk V X cX12_scans RX12 2 (zrm 1) none) {rv : Int} {dz : zD} (E : zEnd V X none (rv = 0) dz)  {s0 : Int} (hs0 : zR s0) {d : zD} (h : j_X12_scans_283   s0 d = some (rv, dz)) : zP V X 2 0 0 283 [some (.ref (zad V 400)), none] [.int (zI s0), .ref (zad V 400)] d := by
  refine zP_putI (pc := 283) (a := 400) C p12_198 dX12_scans_283 (s_X12 hT) rfl hs0 h fun d h => ?_
  refine zP_aload_n (pc := 286) C (x := zad V 400) dX12_scans_286 rfl rfl ?_
  refine zP_aload_n (pc := 287) C (x := zad V 400) dX12_scans_287 rfl rfl ?_
  refine zP_getI (pc := 288) (a := 400) C g12_183 dX12_scans_288 (s_X12 hT) rfl h fun v288 hv288 h => ?_
  refine zP_iconst (pc := 291) C dX12_scans_291 ?_
  refine zP_iadd (pc := 292) C dX12_scans_292 h fun v292 hv292 h => ?_
  refine zP_putI (pc := 293) (a := 400) C p12_183 dX12_scans_293 (s_X12 hT) rfl hv292 h fun d h => ?_
  exact zP_vret (pc := 296) C E dX12_scans_296 h
def j_X12_scans_233  (r179 : zD → Option (Int × zD)) (d : zD) : Option (Int × zD) :=
  zl (d 400 15) fun v235 =>
  zl (zw (v235 + 1)) fun v239 =>
  zl (zu d 400 15 v239) fun d =>
  r179  d
theorem wj_X12_scans_233 {V : zW} {X : zX}  (hT : zo12 V) (C : zOk V X cX12_scans RX12 2 (zrm 1) none) {rv : Int} {dz : zD} (E : zEnd V X none (rv = 0) dz) {r179 : zD → Option (Int × zD)} (hr179 : ∀ {d : zD}, r179  d = some (rv, dz) → zP V X 2 0 0 179 [some (.ref (zad V 400)), none] [] d)   {d : zD} (h : j_X12_scans_233  r179  d = some (rv, dz)) : zP V X 2 0 0 233 [some (.ref (zad V 400)), none] [] d := by
  refine zP_aload_n (pc := 233) C (x := zad V 400) dX12_scans_233 rfl rfl ?_
  refine zP_aload_n (pc := 234) C (x := zad V 400) dX12_scans_234 rfl rfl ?_
  refine zP_getI (pc := 235) (a := 400) C g12_183 dX12_scans_235 (s_X12 hT) rfl h fun v235 hv235 h => ?_
  refine zP_iconst (pc := 238) C dX12_scans_238 ?_
  refine zP_iadd (pc := 239) C dX12_scans_239 h fun v239 hv239 h => ?_
  refine zP_putI (pc := 240) (a := 400) C p12_183 dX12_scans_240 (s_X12 hT) rfl hv239 h fun d h => ?_
  refine zP_goto (pc := 243) (tgt := 179) C dX12_scans_243 rfl ?_
  exact zP_mask [true, false] (hr179  h)
def l_X12_scans_179F  (r179 : zD → Option (Int × zD)) (d : zD) : Option (Int × zD) :=
  zl (d 400 15) fun v181 =>
  zc (f_X12_byteAt  v181 d) fun v184 d =>
  zc (f_X12_isIn  v184 48 57 d) fun v191 d =>
  if (v191 : Int) = 0 then (
    zl (d 400 15) fun v248 =>
    zl (d 400 14) fun v252 =>
    zl (zw (v248 - v252)) fun v255 =>
    if (v255 : Int) ≤ 4 then (
      zl (zu d 400 16 2) fun d =>
      some (0, d))
    else (
      zl (zu d 400 16 4) fun d =>
      some (0, d)))
  else (
    zl (d 400 15) fun v198 =>
    zl (d 400 14) fun v202 =>
    zl (zw (v198 - v202)) fun v205 =>
    if (4 : Int) ≤ v205 then (
      j_X12_scans_233  r179  d)
    else (
      zl (d 400 17) fun v214 =>
      zl (zw (10 * v214)) fun v217 =>
      zl (d 400 15) fun v220 =>
      zc (f_X12_byteAt  v220 d) fun v223 d =>
      zl (zw (v217 + v223)) fun v226 =>
      zl (zw (v226 - 48)) fun v229 =>
      zl (zu d 400 17 v229) fun d =>
      j_X12_scans_233  r179  d))
theorem wl_X12_scans_179F {V : zW} {X : zX}  (hT : zo12 V) (C : zOk V X cX12_scans RX12 2 (zrm 1) none) {rv : Int} {dz : zD} (E : zEnd V X none (rv = 0) dz) {r179 : zD → Option (Int × zD)} (hr179 : ∀ {d : zD}, r179  d = some (rv, dz) → zP V X 2 0 0 179 [some (.ref (zad V 400)), none] [] d)   {d : zD} (h : l_X12_scans_179F  r179  d = some (rv, dz)) : zP V X 2 0 0 179 [some (.ref (zad V 400)), none] [] d := by
  refine zP_aload_n (pc := 179) C (x := zad V 400) dX12_scans_179 rfl rfl ?_
  refine zP_aload_n (pc := 180) C (x := zad V 400) dX12_scans_180 rfl rfl ?_
  refine zP_getI (pc := 181) (a := 400) C g12_183 dX12_scans_181 (s_X12 hT) rfl h fun v181 hv181 h => ?_
  obtain ⟨v184, d1, hc, h⟩ := zc_h h
  refine zP_callV (pc := 184) (As := [.int (zI v181)]) (st := []) C m12_186 dX12_scans_184 (s_X12 hT) rfl (t_X12_byteAt hT hv181 hc) ⟨Nat.le_of_ble_eq_true rfl, Nat.le_of_ble_eq_true rfl⟩ rfl (Nat.le_of_ble_eq_true rfl) ⟨Nat.zero_le _, Nat.zero_le _⟩ fun hw => ?_
  have hv184 := hw
  clear hc hw
  show zP V X 2 0 0 187 _ [.int (zI v184)] d1
  revert h
  generalize d1 = d
  intro h
  refine zP_bipush (pc := 187) C dX12_scans_187 rfl ?_
  refine zP_bipush (pc := 189) C dX12_scans_189 rfl ?_
  obtain ⟨v191, d1, hc, h⟩ := zc_h h
  refine zP_callS (pc := 191) (As := [.int (zI v184), .int (zI 48), .int (zI 57)]) (st := []) C m12_53 dX12_scans_191 (t_X12_isIn  hv184 (zRk rfl) (zRk rfl) hc) ⟨Nat.le_of_ble_eq_true rfl, Nat.le_of_ble_eq_true rfl⟩ rfl (Nat.le_of_ble_eq_true rfl) ⟨Nat.zero_le _, Nat.zero_le _⟩ fun hw => ?_
  have hbv191 := hw
  have hv191 := z01 hw
  clear hc hw
  show zP V X 2 0 0 194 _ [.int (zI v191)] d1
  revert h
  generalize d1 = d
  intro h
  refine zP_if_eq (pc := 194) (tgt := 246) C dX12_scans_194 rfl hv191 h (fun _ h => ?_) (fun _ h => ?_)
  · refine zP_aload_n (pc := 246) C (x := zad V 400) dX12_scans_246 rfl rfl ?_
    refine zP_aload_n (pc := 247) C (x := zad V 400) dX12_scans_247 rfl rfl ?_
    refine zP_getI (pc := 248) (a := 400) C g12_183 dX12_scans_248 (s_X12 hT) rfl h fun v248 hv248 h => ?_
    refine zP_aload_n (pc := 251) C (x := zad V 400) dX12_scans_251 rfl rfl ?_
    refine zP_getI (pc := 252) (a := 400) C g12_189 dX12_scans_252 (s_X12 hT) rfl h fun v252 hv252 h => ?_
    refine zP_isub (pc := 255) C dX12_scans_255 h fun v255 hv255 h => ?_
    refine zP_iconst (pc := 256) C dX12_scans_256 ?_
    refine zP_icmp_le (pc := 257) (tgt := 264) C dX12_scans_257 rfl hv255 (zRk rfl) h (fun _ h => ?_) (fun _ h => ?_)
    · refine zP_iconst (pc := 264) C dX12_scans_264 ?_
      refine zP_putI (pc := 265) (a := 400) C p12_198 dX12_scans_265 (s_X12 hT) rfl (zRk rfl) h fun d h => ?_
      refine zP_goto (pc := 268) (tgt := 296) C dX12_scans_268 rfl ?_
      exact zP_vret (pc := 296) C E dX12_scans_296 h
    · refine zP_iconst (pc := 260) C dX12_scans_260 ?_
      refine zP_goto (pc := 261) (tgt := 265) C dX12_scans_261 rfl ?_
      refine zP_putI (pc := 265) (a := 400) C p12_198 dX12_scans_265 (s_X12 hT) rfl (zRk rfl) h fun d h => ?_
      refine zP_goto (pc := 268) (tgt := 296) C dX12_scans_268 rfl ?_
      exact zP_vret (pc := 296) C E dX12_scans_296 h
  · refine zP_aload_n (pc := 197) C (x := zad V 400) dX12_scans_197 rfl rfl ?_
    refine zP_getI (pc := 198) (a := 400) C g12_183 dX12_scans_198 (s_X12 hT) rfl h fun v198 hv198 h => ?_
    refine zP_aload_n (pc := 201) C (x := zad V 400) dX12_scans_201 rfl rfl ?_
    refine zP_getI (pc := 202) (a := 400) C g12_189 dX12_scans_202 (s_X12 hT) rfl h fun v202 hv202 h => ?_
    refine zP_isub (pc := 205) C dX12_scans_205 h fun v205 hv205 h => ?_
    refine zP_iconst (pc := 206) C dX12_scans_206 ?_
    refine zP_icmp_ge (pc := 207) (tgt := 233) C dX12_scans_207 rfl hv205 (zRk rfl) h (fun _ h => ?_) (fun _ h => ?_)
    · exact zP_mask [true, false] (wj_X12_scans_233 hT C E hr179  h)
    · refine zP_aload_n (pc := 210) C (x := zad V 400) dX12_scans_210 rfl rfl ?_
      refine zP_bipush (pc := 211) C dX12_scans_211 rfl ?_
      refine zP_aload_n (pc := 213) C (x := zad V 400) dX12_scans_213 rfl rfl ?_
      refine zP_getI (pc := 214) (a := 400) C g12_192 dX12_scans_214 (s_X12 hT) rfl h fun v214 hv214 h => ?_
      refine zP_imul (pc := 217) C dX12_scans_217 h fun v217 hv217 h => ?_
      refine zP_aload_n (pc := 218) C (x := zad V 400) dX12_scans_218 rfl rfl ?_
      refine zP_aload_n (pc := 219) C (x := zad V 400) dX12_scans_219 rfl rfl ?_
      refine zP_getI (pc := 220) (a := 400) C g12_183 dX12_scans_220 (s_X12 hT) rfl h fun v220 hv220 h => ?_
      obtain ⟨v223, d1, hc, h⟩ := zc_h h
      refine zP_callV (pc := 223) (As := [.int (zI v220)]) (st := [.int (zI v217), .ref (zad V 400)]) C m12_186 dX12_scans_223 (s_X12 hT) rfl (t_X12_byteAt hT hv220 hc) ⟨Nat.le_of_ble_eq_true rfl, Nat.le_of_ble_eq_true rfl⟩ rfl (Nat.le_of_ble_eq_true rfl) ⟨Nat.zero_le _, Nat.zero_le _⟩ fun hw => ?_
      have hv223 := hw
      clear hc hw
      show zP V X 2 0 0 226 _ [.int (zI v223), .int (zI v217), .ref (zad V 400)] d1
      revert h
      generalize d1 = d
      intro h
      refine zP_iadd (pc := 226) C dX12_scans_226 h fun v226 hv226 h => ?_
      refine zP_bipush (pc := 227) C dX12_scans_227 rfl ?_
      refine zP_isub (pc := 229) C dX12_scans_229 h fun v229 hv229 h => ?_
      refine zP_putI (pc := 230) (a := 400) C p12_192 dX12_scans_230 (s_X12 hT) rfl hv229 h fun d h => ?_
      exact zP_mask [true, false] (wj_X12_scans_233 hT C E hr179  h)
def l_X12_scans_179   : Nat → zD → Option (Int × zD)
  | 0, _ => none
  | q + 1, d => l_X12_scans_179F   (l_X12_scans_179   q)  d
theorem wl_X12_scans_179 {V : zW} {X : zX}  (hT : zo12 V) (C : zOk V X cX12_scans RX12 2 (zrm 1) none) {rv : Int} {dz : zD} (E : zEnd V X none (rv = 0) dz)  : ∀ (q : Nat)   {d : zD} (h : l_X12_scans_179   q  d = some (rv, dz)), zP V X 2 0 0 179 [some (.ref (zad V 400)), none] [] d := by
  intro q
  induction q with
  | zero => intro   d h; cases (show (none : Option (Int × zD)) = some (rv, dz) from h)
  | succ q ih =>
    intro   d h
    exact wl_X12_scans_179F hT C E  (fun   h => ih  h)  h
def j_X12_scans_147  (r90 : zD → Option (Int × zD)) (d : zD) : Option (Int × zD) :=
  zl (d 400 15) fun v149 =>
  zl (zw (v149 + 1)) fun v153 =>
  zl (zu d 400 15 v153) fun d =>
  r90  d
theorem wj_X12_scans_147 {V : zW} {X : zX}  (hT : zo12 V) (C : zOk V X cX12_scans RX12 2 (zrm 1) none) {rv : Int} {dz : zD} (E : zEnd V X none (rv = 0) dz) {r90 : zD → Option (Int × zD)} (hr90 : ∀ {d : zD}, r90  d = some (rv, dz) → zP V X 2 0 0 90 [some (.ref (zad V 400)), none] [] d)   {d : zD} (h : j_X12_scans_147  r90  d = some (rv, dz)) : zP V X 2 0 0 147 [some (.ref (zad V 400)), none] [] d := by
  refine zP_aload_n (pc := 147) C (x := zad V 400) dX12_scans_147 rfl rfl ?_
  refine zP_aload_n (pc := 148) C (x := zad V 400) dX12_scans_148 rfl rfl ?_
  refine zP_getI (pc := 149) (a := 400) C g12_183 dX12_scans_149 (s_X12 hT) rfl h fun v149 hv149 h => ?_
  refine zP_iconst (pc := 152) C dX12_scans_152 ?_
  refine zP_iadd (pc := 153) C dX12_scans_153 h fun v153 hv153 h => ?_
  refine zP_putI (pc := 154) (a := 400) C p12_183 dX12_scans_154 (s_X12 hT) rfl hv153 h fun d h => ?_
  refine zP_goto (pc := 157) (tgt := 90) C dX12_scans_157 rfl ?_
  exact zP_mask [true, false] (hr90  h)
def l_X12_scans_90F  (r90 : zD → Option (Int × zD)) (d : zD) : Option (Int × zD) :=
  zl (d 400 15) fun v92 =>
  zc (f_X12_byteAt  v92 d) fun v95 d =>
  zc (f_X12_isIn  v95 97 122 d) fun v102 d =>
  if (v102 : Int) = 0 then (
    zl (zu d 400 16 1) fun d =>
    some (0, d))
  else (
    zl (d 400 15) fun v109 =>
    zl (d 400 14) fun v113 =>
    zl (zw (v109 - v113)) fun v116 =>
    if (6 : Int) ≤ v116 then (
      j_X12_scans_147  r90  d)
    else (
      zl (d 400 18) fun v126 =>
      zl (zw (32 * v126)) fun v129 =>
      zl (d 400 15) fun v132 =>
      zc (f_X12_byteAt  v132 d) fun v135 d =>
      zl (zw (v129 + v135)) fun v138 =>
      zl (zw (v138 - 97)) fun v141 =>
      zl (zw (v141 + 1)) fun v143 =>
      zl (zu d 400 18 v143) fun d =>
      j_X12_scans_147  r90  d))
theorem wl_X12_scans_90F {V : zW} {X : zX}  (hT : zo12 V) (C : zOk V X cX12_scans RX12 2 (zrm 1) none) {rv : Int} {dz : zD} (E : zEnd V X none (rv = 0) dz) {r90 : zD → Option (Int × zD)} (hr90 : ∀ {d : zD}, r90  d = some (rv, dz) → zP V X 2 0 0 90 [some (.ref (zad V 400)), none] [] d)   {d : zD} (h : l_X12_scans_90F  r90  d = some (rv, dz)) : zP V X 2 0 0 90 [some (.ref (zad V 400)), none] [] d := by
  refine zP_aload_n (pc := 90) C (x := zad V 400) dX12_scans_90 rfl rfl ?_
  refine zP_aload_n (pc := 91) C (x := zad V 400) dX12_scans_91 rfl rfl ?_
  refine zP_getI (pc := 92) (a := 400) C g12_183 dX12_scans_92 (s_X12 hT) rfl h fun v92 hv92 h => ?_
  obtain ⟨v95, d1, hc, h⟩ := zc_h h
  refine zP_callV (pc := 95) (As := [.int (zI v92)]) (st := []) C m12_186 dX12_scans_95 (s_X12 hT) rfl (t_X12_byteAt hT hv92 hc) ⟨Nat.le_of_ble_eq_true rfl, Nat.le_of_ble_eq_true rfl⟩ rfl (Nat.le_of_ble_eq_true rfl) ⟨Nat.zero_le _, Nat.zero_le _⟩ fun hw => ?_
  have hv95 := hw
  clear hc hw
  show zP V X 2 0 0 98 _ [.int (zI v95)] d1
  revert h
  generalize d1 = d
  intro h
  refine zP_bipush (pc := 98) C dX12_scans_98 rfl ?_
  refine zP_bipush (pc := 100) C dX12_scans_100 rfl ?_
  obtain ⟨v102, d1, hc, h⟩ := zc_h h
  refine zP_callS (pc := 102) (As := [.int (zI v95), .int (zI 97), .int (zI 122)]) (st := []) C m12_53 dX12_scans_102 (t_X12_isIn  hv95 (zRk rfl) (zRk rfl) hc) ⟨Nat.le_of_ble_eq_true rfl, Nat.le_of_ble_eq_true rfl⟩ rfl (Nat.le_of_ble_eq_true rfl) ⟨Nat.zero_le _, Nat.zero_le _⟩ fun hw => ?_
  have hbv102 := hw
  have hv102 := z01 hw
  clear hc hw
  show zP V X 2 0 0 105 _ [.int (zI v102)] d1
  revert h
  generalize d1 = d
  intro h
  refine zP_if_eq (pc := 105) (tgt := 160) C dX12_scans_105 rfl hv102 h (fun _ h => ?_) (fun _ h => ?_)
  · refine zP_aload_n (pc := 160) C (x := zad V 400) dX12_scans_160 rfl rfl ?_
    refine zP_iconst (pc := 161) C dX12_scans_161 ?_
    refine zP_putI (pc := 162) (a := 400) C p12_198 dX12_scans_162 (s_X12 hT) rfl (zRk rfl) h fun d h => ?_
    refine zP_goto (pc := 165) (tgt := 296) C dX12_scans_165 rfl ?_
    exact zP_vret (pc := 296) C E dX12_scans_296 h
  · refine zP_aload_n (pc := 108) C (x := zad V 400) dX12_scans_108 rfl rfl ?_
    refine zP_getI (pc := 109) (a := 400) C g12_183 dX12_scans_109 (s_X12 hT) rfl h fun v109 hv109 h => ?_
    refine zP_aload_n (pc := 112) C (x := zad V 400) dX12_scans_112 rfl rfl ?_
    refine zP_getI (pc := 113) (a := 400) C g12_189 dX12_scans_113 (s_X12 hT) rfl h fun v113 hv113 h => ?_
    refine zP_isub (pc := 116) C dX12_scans_116 h fun v116 hv116 h => ?_
    refine zP_bipush (pc := 117) C dX12_scans_117 rfl ?_
    refine zP_icmp_ge (pc := 119) (tgt := 147) C dX12_scans_119 rfl hv116 (zRk rfl) h (fun _ h => ?_) (fun _ h => ?_)
    · exact zP_mask [true, false] (wj_X12_scans_147 hT C E hr90  h)
    · refine zP_aload_n (pc := 122) C (x := zad V 400) dX12_scans_122 rfl rfl ?_
      refine zP_bipush (pc := 123) C dX12_scans_123 rfl ?_
      refine zP_aload_n (pc := 125) C (x := zad V 400) dX12_scans_125 rfl rfl ?_
      refine zP_getI (pc := 126) (a := 400) C g12_195 dX12_scans_126 (s_X12 hT) rfl h fun v126 hv126 h => ?_
      refine zP_imul (pc := 129) C dX12_scans_129 h fun v129 hv129 h => ?_
      refine zP_aload_n (pc := 130) C (x := zad V 400) dX12_scans_130 rfl rfl ?_
      refine zP_aload_n (pc := 131) C (x := zad V 400) dX12_scans_131 rfl rfl ?_
      refine zP_getI (pc := 132) (a := 400) C g12_183 dX12_scans_132 (s_X12 hT) rfl h fun v132 hv132 h => ?_
      obtain ⟨v135, d1, hc, h⟩ := zc_h h
      refine zP_callV (pc := 135) (As := [.int (zI v132)]) (st := [.int (zI v129), .ref (zad V 400)]) C m12_186 dX12_scans_135 (s_X12 hT) rfl (t_X12_byteAt hT hv132 hc) ⟨Nat.le_of_ble_eq_true rfl, Nat.le_of_ble_eq_true rfl⟩ rfl (Nat.le_of_ble_eq_true rfl) ⟨Nat.zero_le _, Nat.zero_le _⟩ fun hw => ?_
      have hv135 := hw
      clear hc hw
      show zP V X 2 0 0 138 _ [.int (zI v135), .int (zI v129), .ref (zad V 400)] d1
      revert h
      generalize d1 = d
      intro h
      refine zP_iadd (pc := 138) C dX12_scans_138 h fun v138 hv138 h => ?_
      refine zP_bipush (pc := 139) C dX12_scans_139 rfl ?_
      refine zP_isub (pc := 141) C dX12_scans_141 h fun v141 hv141 h => ?_
      refine zP_iconst (pc := 142) C dX12_scans_142 ?_
      refine zP_iadd (pc := 143) C dX12_scans_143 h fun v143 hv143 h => ?_
      refine zP_putI (pc := 144) (a := 400) C p12_195 dX12_scans_144 (s_X12 hT) rfl hv143 h fun d h => ?_
      exact zP_mask [true, false] (wj_X12_scans_147 hT C E hr90  h)
def l_X12_scans_90   : Nat → zD → Option (Int × zD)
  | 0, _ => none
  | q + 1, d => l_X12_scans_90F   (l_X12_scans_90   q)  d
theorem wl_X12_scans_90 {V : zW} {X : zX}  (hT : zo12 V) (C : zOk V X cX12_scans RX12 2 (zrm 1) none) {rv : Int} {dz : zD} (E : zEnd V X none (rv = 0) dz)  : ∀ (q : Nat)   {d : zD} (h : l_X12_scans_90   q  d = some (rv, dz)), zP V X 2 0 0 90 [some (.ref (zad V 400)), none] [] d := by
  intro q
  induction q with
  | zero => intro   d h; cases (show (none : Option (Int × zD)) = some (rv, dz) from h)
  | succ q ih =>
    intro   d h
    exact wl_X12_scans_90F hT C E  (fun   h => ih  h)  h
def l_X12_scans_0F  (r0 : zD → Option (Int × zD)) (d : zD) : Option (Int × zD) :=
  zl (d 400 15) fun v2 =>
  zc (f_X12_byteAt  v2 d) fun v5 d =>
  if (v5 : Int) = 32 then (
    j_X12_scans_26  r0  d)
  else (
    zl (d 400 15) fun v15 =>
    zc (f_X12_byteAt  v15 d) fun v18 d =>
    if (v18 : Int) = 10 then (
      j_X12_scans_26  r0  d)
    else (
      zl (d 400 15) fun v41 =>
      zl (zu d 400 14 v41) fun d =>
      zl (zu d 400 17 0) fun d =>
      zl (zu d 400 18 0) fun d =>
      zl (d 400 14) fun v59 =>
      zc (f_X12_byteAt  v59 d) fun v62 d =>
      if (v62 : Int) = (-1) then (
        zl (zu d 400 16 0) fun d =>
        some (0, d))
      else (
        zc (f_X12_isIn  v62 97 122 d) fun v84 d =>
        if (v84 : Int) = 0 then (
          zc (f_X12_isIn  v62 48 57 d) fun v173 d =>
          if (v173 : Int) = 0 then (
            if (v62 : Int) = 59 then (
              j_X12_scans_283   3 d)
            else (
              j_X12_scans_283   4 d))
          else (
            l_X12_scans_179   zF  d))
        else (
          l_X12_scans_90   zF  d))))
theorem wl_X12_scans_0F {V : zW} {X : zX}  (hT : zo12 V) (C : zOk V X cX12_scans RX12 2 (zrm 1) none) {rv : Int} {dz : zD} (E : zEnd V X none (rv = 0) dz) {r0 : zD → Option (Int × zD)} (hr0 : ∀ {d : zD}, r0  d = some (rv, dz) → zP V X 2 0 0 0 [some (.ref (zad V 400)), none] [] d)   {d : zD} (h : l_X12_scans_0F  r0  d = some (rv, dz)) : zP V X 2 0 0 0 [some (.ref (zad V 400)), none] [] d := by
  refine zP_aload_n (pc := 0) C (x := zad V 400) dX12_scans_0 rfl rfl ?_
  refine zP_aload_n (pc := 1) C (x := zad V 400) dX12_scans_1 rfl rfl ?_
  refine zP_getI (pc := 2) (a := 400) C g12_183 dX12_scans_2 (s_X12 hT) rfl h fun v2 hv2 h => ?_
  obtain ⟨v5, d1, hc, h⟩ := zc_h h
  refine zP_callV (pc := 5) (As := [.int (zI v2)]) (st := []) C m12_186 dX12_scans_5 (s_X12 hT) rfl (t_X12_byteAt hT hv2 hc) ⟨Nat.le_of_ble_eq_true rfl, Nat.le_of_ble_eq_true rfl⟩ rfl (Nat.le_of_ble_eq_true rfl) ⟨Nat.zero_le _, Nat.zero_le _⟩ fun hw => ?_
  have hv5 := hw
  clear hc hw
  show zP V X 2 0 0 8 _ [.int (zI v5)] d1
  revert h
  generalize d1 = d
  intro h
  refine zP_bipush (pc := 8) C dX12_scans_8 rfl ?_
  refine zP_icmp_eq (pc := 10) (tgt := 26) C dX12_scans_10 rfl hv5 (zRk rfl) h (fun _ h => ?_) (fun _ h => ?_)
  · exact zP_mask [true, false] (wj_X12_scans_26 hT C E hr0  h)
  · refine zP_aload_n (pc := 13) C (x := zad V 400) dX12_scans_13 rfl rfl ?_
    refine zP_aload_n (pc := 14) C (x := zad V 400) dX12_scans_14 rfl rfl ?_
    refine zP_getI (pc := 15) (a := 400) C g12_183 dX12_scans_15 (s_X12 hT) rfl h fun v15 hv15 h => ?_
    obtain ⟨v18, d1, hc, h⟩ := zc_h h
    refine zP_callV (pc := 18) (As := [.int (zI v15)]) (st := []) C m12_186 dX12_scans_18 (s_X12 hT) rfl (t_X12_byteAt hT hv15 hc) ⟨Nat.le_of_ble_eq_true rfl, Nat.le_of_ble_eq_true rfl⟩ rfl (Nat.le_of_ble_eq_true rfl) ⟨Nat.zero_le _, Nat.zero_le _⟩ fun hw => ?_
    have hv18 := hw
    clear hc hw
    show zP V X 2 0 0 21 _ [.int (zI v18)] d1
    revert h
    generalize d1 = d
    intro h
    refine zP_bipush (pc := 21) C dX12_scans_21 rfl ?_
    refine zP_icmp_ne (pc := 23) (tgt := 39) C dX12_scans_23 rfl hv18 (zRk rfl) h (fun _ h => ?_) (fun _ h => ?_)
    · refine zP_aload_n (pc := 39) C (x := zad V 400) dX12_scans_39 rfl rfl ?_
      refine zP_aload_n (pc := 40) C (x := zad V 400) dX12_scans_40 rfl rfl ?_
      refine zP_getI (pc := 41) (a := 400) C g12_183 dX12_scans_41 (s_X12 hT) rfl h fun v41 hv41 h => ?_
      refine zP_putI (pc := 44) (a := 400) C p12_189 dX12_scans_44 (s_X12 hT) rfl hv41 h fun d h => ?_
      refine zP_aload_n (pc := 47) C (x := zad V 400) dX12_scans_47 rfl rfl ?_
      refine zP_iconst (pc := 48) C dX12_scans_48 ?_
      refine zP_putI (pc := 49) (a := 400) C p12_192 dX12_scans_49 (s_X12 hT) rfl (zRk rfl) h fun d h => ?_
      refine zP_aload_n (pc := 52) C (x := zad V 400) dX12_scans_52 rfl rfl ?_
      refine zP_iconst (pc := 53) C dX12_scans_53 ?_
      refine zP_putI (pc := 54) (a := 400) C p12_195 dX12_scans_54 (s_X12 hT) rfl (zRk rfl) h fun d h => ?_
      refine zP_aload_n (pc := 57) C (x := zad V 400) dX12_scans_57 rfl rfl ?_
      refine zP_aload_n (pc := 58) C (x := zad V 400) dX12_scans_58 rfl rfl ?_
      refine zP_getI (pc := 59) (a := 400) C g12_189 dX12_scans_59 (s_X12 hT) rfl h fun v59 hv59 h => ?_
      obtain ⟨v62, d1, hc, h⟩ := zc_h h
      refine zP_callV (pc := 62) (As := [.int (zI v59)]) (st := []) C m12_186 dX12_scans_62 (s_X12 hT) rfl (t_X12_byteAt hT hv59 hc) ⟨Nat.le_of_ble_eq_true rfl, Nat.le_of_ble_eq_true rfl⟩ rfl (Nat.le_of_ble_eq_true rfl) ⟨Nat.zero_le _, Nat.zero_le _⟩ fun hw => ?_
      have hv62 := hw
      clear hc hw
      show zP V X 2 0 0 65 _ [.int (zI v62)] d1
      revert h
      generalize d1 = d
      intro h
      refine zP_istore_n (pc := 65) C (L' := [some (.ref (zad V 400)), some (.int (zI v62))]) dX12_scans_65 rfl (Nat.le_of_ble_eq_true rfl) rfl rfl ?_
      refine zP_iload_n (pc := 66) C (x := zI v62) dX12_scans_66 rfl rfl ?_
      refine zP_iconst (pc := 67) C dX12_scans_67 ?_
      refine zP_icmp_ne (pc := 68) (tgt := 79) C dX12_scans_68 rfl hv62 (zRk rfl) h (fun _ h => ?_) (fun _ h => ?_)
      · refine zP_iload_n (pc := 79) C (x := zI v62) dX12_scans_79 rfl rfl ?_
        refine zP_bipush (pc := 80) C dX12_scans_80 rfl ?_
        refine zP_bipush (pc := 82) C dX12_scans_82 rfl ?_
        obtain ⟨v84, d1, hc, h⟩ := zc_h h
        refine zP_callS (pc := 84) (As := [.int (zI v62), .int (zI 97), .int (zI 122)]) (st := []) C m12_53 dX12_scans_84 (t_X12_isIn  hv62 (zRk rfl) (zRk rfl) hc) ⟨Nat.le_of_ble_eq_true rfl, Nat.le_of_ble_eq_true rfl⟩ rfl (Nat.le_of_ble_eq_true rfl) ⟨Nat.zero_le _, Nat.zero_le _⟩ fun hw => ?_
        have hbv84 := hw
        have hv84 := z01 hw
        clear hc hw
        show zP V X 2 0 0 87 _ [.int (zI v84)] d1
        revert h
        generalize d1 = d
        intro h
        refine zP_if_eq (pc := 87) (tgt := 168) C dX12_scans_87 rfl hv84 h (fun _ h => ?_) (fun _ h => ?_)
        · refine zP_iload_n (pc := 168) C (x := zI v62) dX12_scans_168 rfl rfl ?_
          refine zP_bipush (pc := 169) C dX12_scans_169 rfl ?_
          refine zP_bipush (pc := 171) C dX12_scans_171 rfl ?_
          obtain ⟨v173, d1, hc, h⟩ := zc_h h
          refine zP_callS (pc := 173) (As := [.int (zI v62), .int (zI 48), .int (zI 57)]) (st := []) C m12_53 dX12_scans_173 (t_X12_isIn  hv62 (zRk rfl) (zRk rfl) hc) ⟨Nat.le_of_ble_eq_true rfl, Nat.le_of_ble_eq_true rfl⟩ rfl (Nat.le_of_ble_eq_true rfl) ⟨Nat.zero_le _, Nat.zero_le _⟩ fun hw => ?_
          have hbv173 := hw
          have hv173 := z01 hw
          clear hc hw
          show zP V X 2 0 0 176 _ [.int (zI v173)] d1
          revert h
          generalize d1 = d
          intro h
          refine zP_if_eq (pc := 176) (tgt := 271) C dX12_scans_176 rfl hv173 h (fun _ h => ?_) (fun _ h => ?_)
          · refine zP_aload_n (pc := 271) C (x := zad V 400) dX12_scans_271 rfl rfl ?_
            refine zP_iload_n (pc := 272) C (x := zI v62) dX12_scans_272 rfl rfl ?_
            refine zP_bipush (pc := 273) C dX12_scans_273 rfl ?_
            refine zP_icmp_ne (pc := 275) (tgt := 282) C dX12_scans_275 rfl hv62 (zRk rfl) h (fun _ h => ?_) (fun _ h => ?_)
            · refine zP_iconst (pc := 282) C dX12_scans_282 ?_
              exact zP_mask [true, false] (wj_X12_scans_283 hT C E  (zRk rfl) h)
            · refine zP_iconst (pc := 278) C dX12_scans_278 ?_
              refine zP_goto (pc := 279) (tgt := 283) C dX12_scans_279 rfl ?_
              exact zP_mask [true, false] (wj_X12_scans_283 hT C E  (zRk rfl) h)
          · exact zP_mask [true, false] (wl_X12_scans_179 hT C E  zF  h)
        · exact zP_mask [true, false] (wl_X12_scans_90 hT C E  zF  h)
      · refine zP_aload_n (pc := 71) C (x := zad V 400) dX12_scans_71 rfl rfl ?_
        refine zP_iconst (pc := 72) C dX12_scans_72 ?_
        refine zP_putI (pc := 73) (a := 400) C p12_198 dX12_scans_73 (s_X12 hT) rfl (zRk rfl) h fun d h => ?_
        refine zP_goto (pc := 76) (tgt := 296) C dX12_scans_76 rfl ?_
        exact zP_vret (pc := 296) C E dX12_scans_296 h
    · exact zP_mask [true, false] (wj_X12_scans_26 hT C E hr0  h)
def l_X12_scans_0   : Nat → zD → Option (Int × zD)
  | 0, _ => none
  | q + 1, d => l_X12_scans_0F   (l_X12_scans_0   q)  d
theorem wl_X12_scans_0 {V : zW} {X : zX}  (hT : zo12 V) (C : zOk V X cX12_scans RX12 2 (zrm 1) none) {rv : Int} {dz : zD} (E : zEnd V X none (rv = 0) dz)  : ∀ (q : Nat)   {d : zD} (h : l_X12_scans_0   q  d = some (rv, dz)), zP V X 2 0 0 0 [some (.ref (zad V 400)), none] [] d := by
  intro q
  induction q with
  | zero => intro   d h; cases (show (none : Option (Int × zD)) = some (rv, dz) from h)
  | succ q ih =>
    intro   d h
    exact wl_X12_scans_0F hT C E  (fun   h => ih  h)  h
def f_X12_scans  (d : zD) : Option (Int × zD) :=
  l_X12_scans_0   zF  d
theorem t_X12_scans {V : zW}  (hT : zo12 V)   {d dz : zD} {rv : Int} (h : f_X12_scans   d = some (rv, dz)) : zMet V 1 yX12_scans cX12_scans 2 none [.ref (zad V 400)] d none (rv = 0) dz := by
  refine zMet_by RX12 pn12 rfl (Nat.le_of_ble_eq_true rfl) [some (.ref (zad V 400)), none] rfl fun X C E => ?_
  exact zP_mask [true, false] (wl_X12_scans_0 hT C E  zF  h)
def f_X12_startsText  (d : zD) : Option (Int × zD) :=
  zl (zu d 400 0 0) fun d =>
  zl (zu d 400 12 0) fun d =>
  zl (zu d 400 13 (-1)) fun d =>
  zl (zu d 400 15 0) fun d =>
  zc (f_X12_scans   d) fun _ d =>
  some (0, d)
theorem t_X12_startsText {V : zW}  (hT : zo12 V)   {d dz : zD} {rv : Int} (h : f_X12_startsText   d = some (rv, dz)) : zMet V 2 yX12_startsText cX12_startsText 1 none [.ref (zad V 400)] d none (rv = 0) dz := by
  refine zMet_by RX12 pn12 rfl (Nat.le_of_ble_eq_true rfl) [some (.ref (zad V 400))] rfl fun X C E => ?_
  refine zP_aload_n (pc := 0) C (x := zad V 400) dX12_startsText_0 rfl rfl ?_
  refine zP_iconst (pc := 1) C dX12_startsText_1 ?_
  refine zP_putI (pc := 2) (a := 400) C p12_1 dX12_startsText_2 (s_X12 hT) rfl (zRk rfl) h fun d h => ?_
  refine zP_aload_n (pc := 5) C (x := zad V 400) dX12_startsText_5 rfl rfl ?_
  refine zP_iconst (pc := 6) C dX12_startsText_6 ?_
  refine zP_putI (pc := 7) (a := 400) C p12_180 dX12_startsText_7 (s_X12 hT) rfl (zRk rfl) h fun d h => ?_
  refine zP_aload_n (pc := 10) C (x := zad V 400) dX12_startsText_10 rfl rfl ?_
  refine zP_iconst (pc := 11) C dX12_startsText_11 ?_
  refine zP_putI (pc := 12) (a := 400) C p12_30 dX12_startsText_12 (s_X12 hT) rfl (zRk rfl) h fun d h => ?_
  refine zP_aload_n (pc := 15) C (x := zad V 400) dX12_startsText_15 rfl rfl ?_
  refine zP_iconst (pc := 16) C dX12_startsText_16 ?_
  refine zP_putI (pc := 17) (a := 400) C p12_183 dX12_startsText_17 (s_X12 hT) rfl (zRk rfl) h fun d h => ?_
  refine zP_aload_n (pc := 20) C (x := zad V 400) dX12_startsText_20 rfl rfl ?_
  obtain ⟨_, d1, hc, h⟩ := zc_h h
  refine zP_callV (pc := 21) (As := []) (st := []) C m12_201 dX12_startsText_21 (s_X12 hT) rfl (t_X12_scans hT  hc) ⟨Nat.le_of_ble_eq_true rfl, Nat.le_of_ble_eq_true rfl⟩ rfl (Nat.le_of_ble_eq_true rfl) ⟨Nat.zero_le _, Nat.zero_le _⟩ fun hw => ?_
  clear hc hw
  show zP V X 1 0 0 24 _ [] d1
  revert h
  generalize d1 = d
  intro h
  exact zP_vret (pc := 24) C E dX12_startsText_24 h
def f_X12_isGood  (d : zD) : Option (Int × zD) :=
  zl (d 400 12) fun v1 =>
  if (v1 : Int) = 0 then (
    some (1, d))
  else (
    some (0, d))
theorem t_X12_isGood {V : zW}  (hT : zo12 V)   {d dz : zD} {rv : Int} (h : f_X12_isGood   d = some (rv, dz)) : zMet V 0 yX12_isGood cX12_isGood 1 (some .boolean) [.ref (zad V 400)] d (some (.int (zI rv))) (rv = 0 ∨ rv = 1) dz := by
  refine zMet_by RX12 pn12 rfl (Nat.le_of_ble_eq_true rfl) [some (.ref (zad V 400))] rfl fun X C E => ?_
  refine zP_aload_n (pc := 0) C (x := zad V 400) dX12_isGood_0 rfl rfl ?_
  refine zP_getI (pc := 1) (a := 400) C g12_180 dX12_isGood_1 (s_X12 hT) rfl h fun v1 hv1 h => ?_
  refine zP_if_ne (pc := 4) (tgt := 11) C dX12_isGood_4 rfl hv1 h (fun _ h => ?_) (fun _ h => ?_)
  · refine zP_iconst (pc := 11) C dX12_isGood_11 ?_
    exact zP_zret (pc := 12) C E dX12_isGood_12 (Or.inl rfl) h
  · refine zP_iconst (pc := 7) C dX12_isGood_7 ?_
    refine zP_goto (pc := 8) (tgt := 12) C dX12_isGood_8 rfl ?_
    exact zP_zret (pc := 12) C E dX12_isGood_12 (Or.inr rfl) h
def f_X12_errs  (x1 : Int) (d : zD) : Option (Int × zD) :=
  zc (f_X12_isGood   d) fun v1 d =>
  if (v1 : Int) = 0 then (
    some (0, d))
  else (
    zl (zu d 400 12 x1) fun d =>
    zl (d 400 14) fun v15 =>
    zl (zu d 400 13 v15) fun d =>
    some (0, d))
theorem t_X12_errs {V : zW}  (hT : zo12 V) {x1 : Int} (hx1 : zR x1) {d dz : zD} {rv : Int} (h : f_X12_errs  x1 d = some (rv, dz)) : zMet V 1 yX12_errs cX12_errs 2 none [.ref (zad V 400), .int (zI x1)] d none (rv = 0) dz := by
  refine zMet_by RX12 pn12 rfl (Nat.le_of_ble_eq_true rfl) [some (.ref (zad V 400)), some (.int (zI x1))] rfl fun X C E => ?_
  refine zP_aload_n (pc := 0) C (x := zad V 400) dX12_errs_0 rfl rfl ?_
  obtain ⟨v1, d1, hc, h⟩ := zc_h h
  refine zP_callV (pc := 1) (As := []) (st := []) C m12_204 dX12_errs_1 (s_X12 hT) rfl (t_X12_isGood hT  hc) ⟨Nat.le_of_ble_eq_true rfl, Nat.le_of_ble_eq_true rfl⟩ rfl (Nat.le_of_ble_eq_true rfl) ⟨Nat.zero_le _, Nat.zero_le _⟩ fun hw => ?_
  have hbv1 := hw
  have hv1 := z01 hw
  clear hc hw
  show zP V X 2 0 0 4 _ [.int (zI v1)] d1
  revert h
  generalize d1 = d
  intro h
  refine zP_if_ne (pc := 4) (tgt := 8) C dX12_errs_4 rfl hv1 h (fun _ h => ?_) (fun _ h => ?_)
  · refine zP_aload_n (pc := 8) C (x := zad V 400) dX12_errs_8 rfl rfl ?_
    refine zP_iload_n (pc := 9) C (x := zI x1) dX12_errs_9 rfl rfl ?_
    refine zP_putI (pc := 10) (a := 400) C p12_180 dX12_errs_10 (s_X12 hT) rfl hx1 h fun d h => ?_
    refine zP_aload_n (pc := 13) C (x := zad V 400) dX12_errs_13 rfl rfl ?_
    refine zP_aload_n (pc := 14) C (x := zad V 400) dX12_errs_14 rfl rfl ?_
    refine zP_getI (pc := 15) (a := 400) C g12_189 dX12_errs_15 (s_X12 hT) rfl h fun v15 hv15 h => ?_
    refine zP_putI (pc := 18) (a := 400) C p12_30 dX12_errs_18 (s_X12 hT) rfl hv15 h fun d h => ?_
    exact zP_vret (pc := 21) C E dX12_errs_21 h
  · exact zP_vret (pc := 7) C E dX12_errs_7 h
def f_X12_goesOn  (d : zD) : Option (Int × zD) :=
  zc (f_X12_isGood   d) fun v1 d =>
  if (v1 : Int) = 0 then (
    some (0, d))
  else (
    zc (f_X12_scans   d) fun _ d =>
    some (0, d))
theorem t_X12_goesOn {V : zW}  (hT : zo12 V)   {d dz : zD} {rv : Int} (h : f_X12_goesOn   d = some (rv, dz)) : zMet V 2 yX12_goesOn cX12_goesOn 1 none [.ref (zad V 400)] d none (rv = 0) dz := by
  refine zMet_by RX12 pn12 rfl (Nat.le_of_ble_eq_true rfl) [some (.ref (zad V 400))] rfl fun X C E => ?_
  refine zP_aload_n (pc := 0) C (x := zad V 400) dX12_goesOn_0 rfl rfl ?_
  obtain ⟨v1, d1, hc, h⟩ := zc_h h
  refine zP_callV (pc := 1) (As := []) (st := []) C m12_204 dX12_goesOn_1 (s_X12 hT) rfl (t_X12_isGood hT  hc) ⟨Nat.le_of_ble_eq_true rfl, Nat.le_of_ble_eq_true rfl⟩ rfl (Nat.le_of_ble_eq_true rfl) ⟨Nat.zero_le _, Nat.zero_le _⟩ fun hw => ?_
  have hbv1 := hw
  have hv1 := z01 hw
  clear hc hw
  show zP V X 1 0 0 4 _ [.int (zI v1)] d1
  revert h
  generalize d1 = d
  intro h
  refine zP_if_eq (pc := 4) (tgt := 11) C dX12_goesOn_4 rfl hv1 h (fun _ h => ?_) (fun _ h => ?_)
  · exact zP_vret (pc := 11) C E dX12_goesOn_11 h
  · refine zP_aload_n (pc := 7) C (x := zad V 400) dX12_goesOn_7 rfl rfl ?_
    obtain ⟨_, d1, hc, h⟩ := zc_h h
    refine zP_callV (pc := 8) (As := []) (st := []) C m12_201 dX12_goesOn_8 (s_X12 hT) rfl (t_X12_scans hT  hc) ⟨Nat.le_of_ble_eq_true rfl, Nat.le_of_ble_eq_true rfl⟩ rfl (Nat.le_of_ble_eq_true rfl) ⟨Nat.zero_le _, Nat.zero_le _⟩ fun hw => ?_
    clear hc hw
    show zP V X 1 0 0 11 _ [] d1
    revert h
    generalize d1 = d
    intro h
    exact zP_vret (pc := 11) C E dX12_goesOn_11 h
def l_X12_isWord_35F (t1 : Nat) (r35 : Int → zD → Option (Int × zD)) (x2 : Int) (d : zD) : Option (Int × zD) :=
  zl (zslen t1 : Int) fun v37 =>
  if (v37 : Int) ≤ x2 then (
    some (1, d))
  else (
    zl (d 400 14) fun v45 =>
    zl (zw (v45 + x2)) fun v49 =>
    zc (f_X12_byteAt  v49 d) fun v50 d =>
    zg (zslen t1) x2 <| zl (zsch t1 (x2 : Int).toNat) fun v55 =>
    if (v50 : Int) = v55 then (
      zl (zw (x2 + 1)) fun v63 =>
      r35 v63 d)
    else (
      some (0, d)))
theorem wl_X12_isWord_35F {V : zW} {X : zX} {t1 : Nat} (hT : zo12 V) (ht1 : t1 < 32) (C : zOk V X cX12_isWord RX12 3 (zrm 7) (some .boolean)) {rv : Int} {dz : zD} (E : zEnd V X (some (.int (zI rv))) (rv = 0 ∨ rv = 1) dz) {r35 : Int → zD → Option (Int × zD)} (hr35 : ∀ {x2 : Int} {d : zD}, zR x2 → r35 x2 d = some (rv, dz) → zP V X 3 0 0 35 [some (.ref (zad V 400)), some (.ref (zsa V t1)), some (.int (zI x2))] [] d) {x2 : Int} (hx2 : zR x2) {d : zD} (h : l_X12_isWord_35F t1 r35 x2 d = some (rv, dz)) : zP V X 3 0 0 35 [some (.ref (zad V 400)), some (.ref (zsa V t1)), some (.int (zI x2))] [] d := by
  refine zP_iload_n (pc := 35) C (x := zI x2) dX12_isWord_35 rfl rfl ?_
  refine zP_aload_n (pc := 36) C (x := zsa V t1) dX12_isWord_36 rfl rfl ?_
  refine zP_slen (pc := 37) (t := t1) C sl12_208 ht1 dX12_isWord_37 ⟨Nat.le_of_ble_eq_true rfl, Nat.le_of_ble_eq_true rfl⟩ (Nat.le_of_ble_eq_true rfl) ⟨Nat.zero_le _, Nat.zero_le _⟩ h fun v37 hv37 h => ?_
  refine zP_icmp_ge (pc := 40) (tgt := 69) C dX12_isWord_40 rfl hx2 hv37 h (fun _ h => ?_) (fun _ h => ?_)
  · refine zP_iconst (pc := 69) C dX12_isWord_69 ?_
    exact zP_zret (pc := 70) C E dX12_isWord_70 (Or.inr rfl) h
  · refine zP_aload_n (pc := 43) C (x := zad V 400) dX12_isWord_43 rfl rfl ?_
    refine zP_aload_n (pc := 44) C (x := zad V 400) dX12_isWord_44 rfl rfl ?_
    refine zP_getI (pc := 45) (a := 400) C g12_189 dX12_isWord_45 (s_X12 hT) rfl h fun v45 hv45 h => ?_
    refine zP_iload_n (pc := 48) C (x := zI x2) dX12_isWord_48 rfl rfl ?_
    refine zP_iadd (pc := 49) C dX12_isWord_49 h fun v49 hv49 h => ?_
    obtain ⟨v50, d1, hc, h⟩ := zc_h h
    refine zP_callV (pc := 50) (As := [.int (zI v49)]) (st := []) C m12_186 dX12_isWord_50 (s_X12 hT) rfl (t_X12_byteAt hT hv49 hc) ⟨Nat.le_of_ble_eq_true rfl, Nat.le_of_ble_eq_true rfl⟩ rfl (Nat.le_of_ble_eq_true rfl) ⟨Nat.zero_le _, Nat.zero_le _⟩ fun hw => ?_
    have hv50 := hw
    clear hc hw
    show zP V X 3 0 0 53 _ [.int (zI v50)] d1
    revert h
    generalize d1 = d
    intro h
    refine zP_aload_n (pc := 53) C (x := zsa V t1) dX12_isWord_53 rfl rfl ?_
    refine zP_iload_n (pc := 54) C (x := zI x2) dX12_isWord_54 rfl rfl ?_
    refine zP_sch (pc := 55) (t := t1) C sc12_213 ht1 dX12_isWord_55 hx2 ⟨Nat.le_of_ble_eq_true rfl, Nat.le_of_ble_eq_true rfl⟩ (Nat.le_of_ble_eq_true rfl) ⟨Nat.zero_le _, Nat.zero_le _⟩ h fun v55 hv55 h => ?_
    refine zP_icmp_eq (pc := 58) (tgt := 63) C dX12_isWord_58 rfl hv50 hv55 h (fun _ h => ?_) (fun _ h => ?_)
    · refine zP_iinc (pc := 63) C (x := x2) dX12_isWord_63 rfl (Nat.le_of_ble_eq_true rfl) rfl h fun v63 hv63 h => ?_
      show zP V X 3 0 0 66 [some (.ref (zad V 400)), some (.ref (zsa V t1)), some (.int (zI v63))] _ _
      refine zP_goto (pc := 66) (tgt := 35) C dX12_isWord_66 rfl ?_
      exact zP_mask [true, true, true] (hr35 hv63 h)
    · refine zP_iconst (pc := 61) C dX12_isWord_61 ?_
      exact zP_zret (pc := 62) C E dX12_isWord_62 (Or.inl rfl) h
def l_X12_isWord_35 (t1 : Nat)  : Nat → Int → zD → Option (Int × zD)
  | 0, _, _ => none
  | q + 1, x2, d => l_X12_isWord_35F t1  (l_X12_isWord_35 t1  q) x2 d
theorem wl_X12_isWord_35 {V : zW} {X : zX} {t1 : Nat} (hT : zo12 V) (ht1 : t1 < 32) (C : zOk V X cX12_isWord RX12 3 (zrm 7) (some .boolean)) {rv : Int} {dz : zD} (E : zEnd V X (some (.int (zI rv))) (rv = 0 ∨ rv = 1) dz)  : ∀ (q : Nat) {x2 : Int} (hx2 : zR x2) {d : zD} (h : l_X12_isWord_35 t1  q x2 d = some (rv, dz)), zP V X 3 0 0 35 [some (.ref (zad V 400)), some (.ref (zsa V t1)), some (.int (zI x2))] [] d := by
  intro q
  induction q with
  | zero => intro x2 hx2 d h; cases (show (none : Option (Int × zD)) = some (rv, dz) from h)
  | succ q ih =>
    intro x2 hx2 d h
    exact wl_X12_isWord_35F hT ht1 C E  (fun  hx2 h => ih hx2 h) hx2 h
def f_X12_isWord (t1 : Nat) (d : zD) : Option (Int × zD) :=
  zc (f_X12_isGood   d) fun v1 d =>
  if (v1 : Int) = 0 then (
    some (0, d))
  else (
    zl (d 400 16) fun v8 =>
    if (v8 : Int) = 1 then (
      zl (d 400 15) fun v16 =>
      zl (d 400 14) fun v20 =>
      zl (zw (v16 - v20)) fun v23 =>
      zl (zslen t1 : Int) fun v25 =>
      if (v23 : Int) = v25 then (
        l_X12_isWord_35 t1  zF 0 d)
      else (
        some (0, d)))
    else (
      some (0, d)))
theorem t_X12_isWord {V : zW} {t1 : Nat} (hT : zo12 V) (ht1 : t1 < 32)   {d dz : zD} {rv : Int} (h : f_X12_isWord t1  d = some (rv, dz)) : zMet V 7 yX12_isWord cX12_isWord 3 (some .boolean) [.ref (zad V 400), .ref (zsa V t1)] d (some (.int (zI rv))) (rv = 0 ∨ rv = 1) dz := by
  refine zMet_by RX12 pn12 rfl (Nat.le_of_ble_eq_true rfl) [some (.ref (zad V 400)), some (.ref (zsa V t1)), none] rfl fun X C E => ?_
  refine zP_aload_n (pc := 0) C (x := zad V 400) dX12_isWord_0 rfl rfl ?_
  obtain ⟨v1, d1, hc, h⟩ := zc_h h
  refine zP_callV (pc := 1) (As := []) (st := []) C m12_204 dX12_isWord_1 (s_X12 hT) rfl (t_X12_isGood hT  hc) ⟨Nat.le_of_ble_eq_true rfl, Nat.le_of_ble_eq_true rfl⟩ rfl (Nat.le_of_ble_eq_true rfl) ⟨Nat.zero_le _, Nat.zero_le _⟩ fun hw => ?_
  have hbv1 := hw
  have hv1 := z01 hw
  clear hc hw
  show zP V X 3 0 0 4 _ [.int (zI v1)] d1
  revert h
  generalize d1 = d
  intro h
  refine zP_if_eq (pc := 4) (tgt := 31) C dX12_isWord_4 rfl hv1 h (fun _ h => ?_) (fun _ h => ?_)
  · refine zP_iconst (pc := 31) C dX12_isWord_31 ?_
    exact zP_zret (pc := 32) C E dX12_isWord_32 (Or.inl rfl) h
  · refine zP_aload_n (pc := 7) C (x := zad V 400) dX12_isWord_7 rfl rfl ?_
    refine zP_getI (pc := 8) (a := 400) C g12_198 dX12_isWord_8 (s_X12 hT) rfl h fun v8 hv8 h => ?_
    refine zP_iconst (pc := 11) C dX12_isWord_11 ?_
    refine zP_icmp_ne (pc := 12) (tgt := 31) C dX12_isWord_12 rfl hv8 (zRk rfl) h (fun _ h => ?_) (fun _ h => ?_)
    · refine zP_iconst (pc := 31) C dX12_isWord_31 ?_
      exact zP_zret (pc := 32) C E dX12_isWord_32 (Or.inl rfl) h
    · refine zP_aload_n (pc := 15) C (x := zad V 400) dX12_isWord_15 rfl rfl ?_
      refine zP_getI (pc := 16) (a := 400) C g12_183 dX12_isWord_16 (s_X12 hT) rfl h fun v16 hv16 h => ?_
      refine zP_aload_n (pc := 19) C (x := zad V 400) dX12_isWord_19 rfl rfl ?_
      refine zP_getI (pc := 20) (a := 400) C g12_189 dX12_isWord_20 (s_X12 hT) rfl h fun v20 hv20 h => ?_
      refine zP_isub (pc := 23) C dX12_isWord_23 h fun v23 hv23 h => ?_
      refine zP_aload_n (pc := 24) C (x := zsa V t1) dX12_isWord_24 rfl rfl ?_
      refine zP_slen (pc := 25) (t := t1) C sl12_208 ht1 dX12_isWord_25 ⟨Nat.le_of_ble_eq_true rfl, Nat.le_of_ble_eq_true rfl⟩ (Nat.le_of_ble_eq_true rfl) ⟨Nat.zero_le _, Nat.zero_le _⟩ h fun v25 hv25 h => ?_
      refine zP_icmp_eq (pc := 28) (tgt := 33) C dX12_isWord_28 rfl hv23 hv25 h (fun _ h => ?_) (fun _ h => ?_)
      · refine zP_iconst (pc := 33) C dX12_isWord_33 ?_
        refine zP_istore_n (pc := 34) C (L' := [some (.ref (zad V 400)), some (.ref (zsa V t1)), some (.int (zI 0))]) dX12_isWord_34 rfl (Nat.le_of_ble_eq_true rfl) rfl rfl ?_
        exact zP_mask [true, true, true] (wl_X12_isWord_35 hT ht1 C E  zF (zRk rfl) h)
      · refine zP_iconst (pc := 31) C dX12_isWord_31 ?_
        exact zP_zret (pc := 32) C E dX12_isWord_32 (Or.inl rfl) h
def f_X12_takes (t1 : Nat) (d : zD) : Option (Int × zD) :=
  zc (f_X12_isWord t1  d) fun v2 d =>
  if (v2 : Int) = 0 then (
    some (v2, d))
  else (
    zc (f_X12_scans   d) fun _ d =>
    some (v2, d))
theorem t_X12_takes {V : zW} {t1 : Nat} (hT : zo12 V) (ht1 : t1 < 32)   {d dz : zD} {rv : Int} (h : f_X12_takes t1  d = some (rv, dz)) : zMet V 8 yX12_takes cX12_takes 3 (some .boolean) [.ref (zad V 400), .ref (zsa V t1)] d (some (.int (zI rv))) (rv = 0 ∨ rv = 1) dz := by
  refine zMet_by RX12 pn12 rfl (Nat.le_of_ble_eq_true rfl) [some (.ref (zad V 400)), some (.ref (zsa V t1)), none] rfl fun X C E => ?_
  refine zP_aload_n (pc := 0) C (x := zad V 400) dX12_takes_0 rfl rfl ?_
  refine zP_aload_n (pc := 1) C (x := zsa V t1) dX12_takes_1 rfl rfl ?_
  obtain ⟨v2, d1, hc, h⟩ := zc_h h
  refine zP_callV (pc := 2) (As := [.ref (zsa V t1)]) (st := []) C m12_217 dX12_takes_2 (s_X12 hT) rfl (t_X12_isWord hT ht1  hc) ⟨Nat.le_of_ble_eq_true rfl, Nat.le_of_ble_eq_true rfl⟩ rfl (Nat.le_of_ble_eq_true rfl) ⟨Nat.zero_le _, Nat.zero_le _⟩ fun hw => ?_
  have hbv2 := hw
  have hv2 := z01 hw
  clear hc hw
  show zP V X 3 0 0 5 _ [.int (zI v2)] d1
  revert h
  generalize d1 = d
  intro h
  refine zP_istore_n (pc := 5) C (L' := [some (.ref (zad V 400)), some (.ref (zsa V t1)), some (.int (zI v2))]) dX12_takes_5 rfl (Nat.le_of_ble_eq_true rfl) rfl rfl ?_
  refine zP_iload_n (pc := 6) C (x := zI v2) dX12_takes_6 rfl rfl ?_
  refine zP_if_eq (pc := 7) (tgt := 14) C dX12_takes_7 rfl hv2 h (fun _ h => ?_) (fun _ h => ?_)
  · refine zP_iload_n (pc := 14) C (x := zI v2) dX12_takes_14 rfl rfl ?_
    exact zP_zret (pc := 15) C E dX12_takes_15 hbv2 h
  · refine zP_aload_n (pc := 10) C (x := zad V 400) dX12_takes_10 rfl rfl ?_
    obtain ⟨_, d1, hc, h⟩ := zc_h h
    refine zP_callV (pc := 11) (As := []) (st := []) C m12_201 dX12_takes_11 (s_X12 hT) rfl (t_X12_scans hT  hc) ⟨Nat.le_of_ble_eq_true rfl, Nat.le_of_ble_eq_true rfl⟩ rfl (Nat.le_of_ble_eq_true rfl) ⟨Nat.zero_le _, Nat.zero_le _⟩ fun hw => ?_
    clear hc hw
    show zP V X 3 0 0 14 _ [] d1
    revert h
    generalize d1 = d
    intro h
    refine zP_iload_n (pc := 14) C (x := zI v2) dX12_takes_14 rfl rfl ?_
    exact zP_zret (pc := 15) C E dX12_takes_15 hbv2 h
def j_X12_semicolon_13   (d : zD) : Option (Int × zD) :=
  zc (f_X12_goesOn   d) fun _ d =>
  some (0, d)
theorem wj_X12_semicolon_13 {V : zW} {X : zX}  (hT : zo12 V) (C : zOk V X cX12_semicolon RX12 1 (zrm 3) none) {rv : Int} {dz : zD} (E : zEnd V X none (rv = 0) dz)    {d : zD} (h : j_X12_semicolon_13    d = some (rv, dz)) : zP V X 1 0 0 13 [some (.ref (zad V 400))] [] d := by
  refine zP_aload_n (pc := 13) C (x := zad V 400) dX12_semicolon_13 rfl rfl ?_
  obtain ⟨_, d1, hc, h⟩ := zc_h h
  refine zP_callV (pc := 14) (As := []) (st := []) C m12_224 dX12_semicolon_14 (s_X12 hT) rfl (t_X12_goesOn hT  hc) ⟨Nat.le_of_ble_eq_true rfl, Nat.le_of_ble_eq_true rfl⟩ rfl (Nat.le_of_ble_eq_true rfl) ⟨Nat.zero_le _, Nat.zero_le _⟩ fun hw => ?_
  clear hc hw
  show zP V X 1 0 0 17 _ [] d1
  revert h
  generalize d1 = d
  intro h
  exact zP_vret (pc := 17) C E dX12_semicolon_17 h
def f_X12_semicolon  (d : zD) : Option (Int × zD) :=
  zl (d 400 16) fun v1 =>
  if (v1 : Int) = 3 then (
    j_X12_semicolon_13    d)
  else (
    zc (f_X12_errs  1 d) fun _ d =>
    j_X12_semicolon_13    d)
theorem t_X12_semicolon {V : zW}  (hT : zo12 V)   {d dz : zD} {rv : Int} (h : f_X12_semicolon   d = some (rv, dz)) : zMet V 3 yX12_semicolon cX12_semicolon 1 none [.ref (zad V 400)] d none (rv = 0) dz := by
  refine zMet_by RX12 pn12 rfl (Nat.le_of_ble_eq_true rfl) [some (.ref (zad V 400))] rfl fun X C E => ?_
  refine zP_aload_n (pc := 0) C (x := zad V 400) dX12_semicolon_0 rfl rfl ?_
  refine zP_getI (pc := 1) (a := 400) C g12_198 dX12_semicolon_1 (s_X12 hT) rfl h fun v1 hv1 h => ?_
  refine zP_iconst (pc := 4) C dX12_semicolon_4 ?_
  refine zP_icmp_eq (pc := 5) (tgt := 13) C dX12_semicolon_5 rfl hv1 (zRk rfl) h (fun _ h => ?_) (fun _ h => ?_)
  · exact zP_mask [true] (wj_X12_semicolon_13 hT C E   h)
  · refine zP_aload_n (pc := 8) C (x := zad V 400) dX12_semicolon_8 rfl rfl ?_
    refine zP_iconst (pc := 9) C dX12_semicolon_9 ?_
    obtain ⟨_, d1, hc, h⟩ := zc_h h
    refine zP_callV (pc := 10) (As := [.int (zI 1)]) (st := []) C m12_221 dX12_semicolon_10 (s_X12 hT) rfl (t_X12_errs hT (zRk rfl) hc) ⟨Nat.le_of_ble_eq_true rfl, Nat.le_of_ble_eq_true rfl⟩ rfl (Nat.le_of_ble_eq_true rfl) ⟨Nat.zero_le _, Nat.zero_le _⟩ fun hw => ?_
    clear hc hw
    show zP V X 1 0 0 13 _ [] d1
    revert h
    generalize d1 = d
    intro h
    exact zP_mask [true] (wj_X12_semicolon_13 hT C E   h)
def j_X12_number_48   (s0 : Int) (d : zD) : Option (Int × zD) :=
  zc (f_X12_goesOn   d) fun _ d =>
  some (s0, d)
theorem wj_X12_number_48 {V : zW} {X : zX}  (hT : zo12 V) (C : zOk V X cX12_number RX12 4 (zrm 3) (some .int)) {rv : Int} {dz : zD} (E : zEnd V X (some (.int (zI rv))) (zR rv) dz)  {s0 : Int} (hs0 : zR s0) {d : zD} (h : j_X12_number_48   s0 d = some (rv, dz)) : zP V X 4 0 0 48 [some (.ref (zad V 400)), none, none, none] [.int (zI s0)] d := by
  refine zP_istore_n (pc := 48) C (L' := [some (.ref (zad V 400)), none, none, some (.int (zI s0))]) dX12_number_48 rfl (Nat.le_of_ble_eq_true rfl) rfl rfl ?_
  refine zP_aload_n (pc := 49) C (x := zad V 400) dX12_number_49 rfl rfl ?_
  obtain ⟨_, d1, hc, h⟩ := zc_h h
  refine zP_callV (pc := 50) (As := []) (st := []) C m12_224 dX12_number_50 (s_X12 hT) rfl (t_X12_goesOn hT  hc) ⟨Nat.le_of_ble_eq_true rfl, Nat.le_of_ble_eq_true rfl⟩ rfl (Nat.le_of_ble_eq_true rfl) ⟨Nat.zero_le _, Nat.zero_le _⟩ fun hw => ?_
  clear hc hw
  show zP V X 4 0 0 53 _ [] d1
  revert h
  generalize d1 = d
  intro h
  refine zP_iload_n (pc := 53) C (x := zI s0) dX12_number_53 rfl rfl ?_
  exact zP_iret (pc := 54) C E dX12_number_54 hs0 h
def j_X12_number_33   (x1 : Int) (d : zD) : Option (Int × zD) :=
  zc (f_X12_isGood   d) fun v34 d =>
  if (v34 : Int) = 0 then (
    j_X12_number_48   x1 d)
  else (
    zl (d 400 17) fun v41 =>
    j_X12_number_48   v41 d)
theorem wj_X12_number_33 {V : zW} {X : zX}  (hT : zo12 V) (C : zOk V X cX12_number RX12 4 (zrm 3) (some .int)) {rv : Int} {dz : zD} (E : zEnd V X (some (.int (zI rv))) (zR rv) dz)  {x1 : Int} (hx1 : zR x1) {d : zD} (h : j_X12_number_33   x1 d = some (rv, dz)) : zP V X 4 0 0 33 [some (.ref (zad V 400)), some (.int (zI x1)), none, none] [] d := by
  refine zP_aload_n (pc := 33) C (x := zad V 400) dX12_number_33 rfl rfl ?_
  obtain ⟨v34, d1, hc, h⟩ := zc_h h
  refine zP_callV (pc := 34) (As := []) (st := []) C m12_204 dX12_number_34 (s_X12 hT) rfl (t_X12_isGood hT  hc) ⟨Nat.le_of_ble_eq_true rfl, Nat.le_of_ble_eq_true rfl⟩ rfl (Nat.le_of_ble_eq_true rfl) ⟨Nat.zero_le _, Nat.zero_le _⟩ fun hw => ?_
  have hbv34 := hw
  have hv34 := z01 hw
  clear hc hw
  show zP V X 4 0 0 37 _ [.int (zI v34)] d1
  revert h
  generalize d1 = d
  intro h
  refine zP_if_eq (pc := 37) (tgt := 47) C dX12_number_37 rfl hv34 h (fun _ h => ?_) (fun _ h => ?_)
  · refine zP_iload_n (pc := 47) C (x := zI x1) dX12_number_47 rfl rfl ?_
    exact zP_mask [true, false, false, false] (wj_X12_number_48 hT C E  hx1 h)
  · refine zP_aload_n (pc := 40) C (x := zad V 400) dX12_number_40 rfl rfl ?_
    refine zP_getI (pc := 41) (a := 400) C g12_192 dX12_number_41 (s_X12 hT) rfl h fun v41 hv41 h => ?_
    refine zP_goto (pc := 44) (tgt := 48) C dX12_number_44 rfl ?_
    exact zP_mask [true, false, false, false] (wj_X12_number_48 hT C E  hv41 h)
def f_X12_number  (x1 x2 : Int) (d : zD) : Option (Int × zD) :=
  zl (d 400 16) fun v1 =>
  if (v1 : Int) = 2 then (
    zl (d 400 17) fun v17 =>
    zc (f_X12_isIn  v17 x1 x2 d) fun v22 d =>
    if (v22 : Int) = 0 then (
      zc (f_X12_errs  2 d) fun _ d =>
      j_X12_number_33   x1 d)
    else (
      j_X12_number_33   x1 d))
  else (
    zc (f_X12_errs  1 d) fun _ d =>
    j_X12_number_33   x1 d)
theorem t_X12_number {V : zW}  (hT : zo12 V) {x1 x2 : Int} (hx1 : zR x1) (hx2 : zR x2) {d dz : zD} {rv : Int} (h : f_X12_number  x1 x2 d = some (rv, dz)) : zMet V 3 yX12_number cX12_number 4 (some .int) [.ref (zad V 400), .int (zI x1), .int (zI x2)] d (some (.int (zI rv))) (zR rv) dz := by
  refine zMet_by RX12 pn12 rfl (Nat.le_of_ble_eq_true rfl) [some (.ref (zad V 400)), some (.int (zI x1)), some (.int (zI x2)), none] rfl fun X C E => ?_
  refine zP_aload_n (pc := 0) C (x := zad V 400) dX12_number_0 rfl rfl ?_
  refine zP_getI (pc := 1) (a := 400) C g12_198 dX12_number_1 (s_X12 hT) rfl h fun v1 hv1 h => ?_
  refine zP_iconst (pc := 4) C dX12_number_4 ?_
  refine zP_icmp_eq (pc := 5) (tgt := 16) C dX12_number_5 rfl hv1 (zRk rfl) h (fun _ h => ?_) (fun _ h => ?_)
  · refine zP_aload_n (pc := 16) C (x := zad V 400) dX12_number_16 rfl rfl ?_
    refine zP_getI (pc := 17) (a := 400) C g12_192 dX12_number_17 (s_X12 hT) rfl h fun v17 hv17 h => ?_
    refine zP_iload_n (pc := 20) C (x := zI x1) dX12_number_20 rfl rfl ?_
    refine zP_iload_n (pc := 21) C (x := zI x2) dX12_number_21 rfl rfl ?_
    obtain ⟨v22, d1, hc, h⟩ := zc_h h
    refine zP_callS (pc := 22) (As := [.int (zI v17), .int (zI x1), .int (zI x2)]) (st := []) C m12_53 dX12_number_22 (t_X12_isIn  hv17 hx1 hx2 hc) ⟨Nat.le_of_ble_eq_true rfl, Nat.le_of_ble_eq_true rfl⟩ rfl (Nat.le_of_ble_eq_true rfl) ⟨Nat.zero_le _, Nat.zero_le _⟩ fun hw => ?_
    have hbv22 := hw
    have hv22 := z01 hw
    clear hc hw
    show zP V X 4 0 0 25 _ [.int (zI v22)] d1
    revert h
    generalize d1 = d
    intro h
    refine zP_if_ne (pc := 25) (tgt := 33) C dX12_number_25 rfl hv22 h (fun _ h => ?_) (fun _ h => ?_)
    · exact zP_mask [true, true, false, false] (wj_X12_number_33 hT C E  hx1 h)
    · refine zP_aload_n (pc := 28) C (x := zad V 400) dX12_number_28 rfl rfl ?_
      refine zP_iconst (pc := 29) C dX12_number_29 ?_
      obtain ⟨_, d1, hc, h⟩ := zc_h h
      refine zP_callV (pc := 30) (As := [.int (zI 2)]) (st := []) C m12_221 dX12_number_30 (s_X12 hT) rfl (t_X12_errs hT (zRk rfl) hc) ⟨Nat.le_of_ble_eq_true rfl, Nat.le_of_ble_eq_true rfl⟩ rfl (Nat.le_of_ble_eq_true rfl) ⟨Nat.zero_le _, Nat.zero_le _⟩ fun hw => ?_
      clear hc hw
      show zP V X 4 0 0 33 _ [] d1
      revert h
      generalize d1 = d
      intro h
      exact zP_mask [true, true, false, false] (wj_X12_number_33 hT C E  hx1 h)
  · refine zP_aload_n (pc := 8) C (x := zad V 400) dX12_number_8 rfl rfl ?_
    refine zP_iconst (pc := 9) C dX12_number_9 ?_
    obtain ⟨_, d1, hc, h⟩ := zc_h h
    refine zP_callV (pc := 10) (As := [.int (zI 1)]) (st := []) C m12_221 dX12_number_10 (s_X12 hT) rfl (t_X12_errs hT (zRk rfl) hc) ⟨Nat.le_of_ble_eq_true rfl, Nat.le_of_ble_eq_true rfl⟩ rfl (Nat.le_of_ble_eq_true rfl) ⟨Nat.zero_le _, Nat.zero_le _⟩ fun hw => ?_
    clear hc hw
    show zP V X 4 0 0 13 _ [] d1
    revert h
    generalize d1 = d
    intro h
    refine zP_goto (pc := 13) (tgt := 33) C dX12_number_13 rfl ?_
    exact zP_mask [true, true, false, false] (wj_X12_number_33 hT C E  hx1 h)
def f_X12_optional (t1 : Nat) (x2 x3 x4 : Int) (d : zD) : Option (Int × zD) :=
  zc (f_X12_takes t1  d) fun v2 d =>
  if (v2 : Int) = 0 then (
    some (x4, d))
  else (
    zc (f_X12_number  x2 x3 d) fun v11 d =>
    some (v11, d))
theorem t_X12_optional {V : zW} {t1 : Nat} (hT : zo12 V) (ht1 : t1 < 32) {x2 x3 x4 : Int} (hx2 : zR x2) (hx3 : zR x3) (hx4 : zR x4) {d dz : zD} {rv : Int} (h : f_X12_optional t1 x2 x3 x4 d = some (rv, dz)) : zMet V 9 yX12_optional cX12_optional 5 (some .int) [.ref (zad V 400), .ref (zsa V t1), .int (zI x2), .int (zI x3), .int (zI x4)] d (some (.int (zI rv))) (zR rv) dz := by
  refine zMet_by RX12 pn12 rfl (Nat.le_of_ble_eq_true rfl) [some (.ref (zad V 400)), some (.ref (zsa V t1)), some (.int (zI x2)), some (.int (zI x3)), some (.int (zI x4))] rfl fun X C E => ?_
  refine zP_aload_n (pc := 0) C (x := zad V 400) dX12_optional_0 rfl rfl ?_
  refine zP_aload_n (pc := 1) C (x := zsa V t1) dX12_optional_1 rfl rfl ?_
  obtain ⟨v2, d1, hc, h⟩ := zc_h h
  refine zP_callV (pc := 2) (As := [.ref (zsa V t1)]) (st := []) C m12_227 dX12_optional_2 (s_X12 hT) rfl (t_X12_takes hT ht1  hc) ⟨Nat.le_of_ble_eq_true rfl, Nat.le_of_ble_eq_true rfl⟩ rfl (Nat.le_of_ble_eq_true rfl) ⟨Nat.zero_le _, Nat.zero_le _⟩ fun hw => ?_
  have hbv2 := hw
  have hv2 := z01 hw
  clear hc hw
  show zP V X 5 0 0 5 _ [.int (zI v2)] d1
  revert h
  generalize d1 = d
  intro h
  refine zP_if_eq (pc := 5) (tgt := 17) C dX12_optional_5 rfl hv2 h (fun _ h => ?_) (fun _ h => ?_)
  · refine zP_iload (pc := 17) C (x := zI x4) dX12_optional_17 rfl ?_
    exact zP_iret (pc := 19) C E dX12_optional_19 hx4 h
  · refine zP_aload_n (pc := 8) C (x := zad V 400) dX12_optional_8 rfl rfl ?_
    refine zP_iload_n (pc := 9) C (x := zI x2) dX12_optional_9 rfl rfl ?_
    refine zP_iload_n (pc := 10) C (x := zI x3) dX12_optional_10 rfl rfl ?_
    obtain ⟨v11, d1, hc, h⟩ := zc_h h
    refine zP_callV (pc := 11) (As := [.int (zI x2), .int (zI x3)]) (st := []) C m12_230 dX12_optional_11 (s_X12 hT) rfl (t_X12_number hT hx2 hx3 hc) ⟨Nat.le_of_ble_eq_true rfl, Nat.le_of_ble_eq_true rfl⟩ rfl (Nat.le_of_ble_eq_true rfl) ⟨Nat.zero_le _, Nat.zero_le _⟩ fun hw => ?_
    have hv11 := hw
    clear hc hw
    show zP V X 5 0 0 14 _ [.int (zI v11)] d1
    revert h
    generalize d1 = d
    intro h
    refine zP_goto (pc := 14) (tgt := 19) C dX12_optional_14 rfl ?_
    exact zP_iret (pc := 19) C E dX12_optional_19 hv11 h
def l_X12_named_2F  (r2 : Int → zD → Option (Int × zD)) (x1 : Int) (d : zD) : Option (Int × zD) :=
  zc (f_X12_many   d) fun v4 d =>
  if (v4 : Int) ≤ x1 then (
    some ((-1), d))
  else (
    zc (f_X12_of  x1 15 d) fun v14 d =>
    zl (d 400 18) fun v18 =>
    if (v14 : Int) = v18 then (
      some (x1, d))
    else (
      zl (zw (x1 + 1)) fun v26 =>
      r2 v26 d))
theorem wl_X12_named_2F {V : zW} {X : zX}  (hT : zo12 V) (C : zOk V X cX12_named RX12 2 (zrm 1) (some .int)) {rv : Int} {dz : zD} (E : zEnd V X (some (.int (zI rv))) (zR rv) dz) {r2 : Int → zD → Option (Int × zD)} (hr2 : ∀ {x1 : Int} {d : zD}, zR x1 → r2 x1 d = some (rv, dz) → zP V X 2 0 0 2 [some (.ref (zad V 400)), some (.int (zI x1))] [] d) {x1 : Int} (hx1 : zR x1) {d : zD} (h : l_X12_named_2F  r2 x1 d = some (rv, dz)) : zP V X 2 0 0 2 [some (.ref (zad V 400)), some (.int (zI x1))] [] d := by
  refine zP_iload_n (pc := 2) C (x := zI x1) dX12_named_2 rfl rfl ?_
  refine zP_aload_n (pc := 3) C (x := zad V 400) dX12_named_3 rfl rfl ?_
  obtain ⟨v4, d1, hc, h⟩ := zc_h h
  refine zP_callV (pc := 4) (As := []) (st := [.int (zI x1)]) C m12_49 dX12_named_4 (s_X12 hT) rfl (t_X12_many hT  hc) ⟨Nat.le_of_ble_eq_true rfl, Nat.le_of_ble_eq_true rfl⟩ rfl (Nat.le_of_ble_eq_true rfl) ⟨Nat.zero_le _, Nat.zero_le _⟩ fun hw => ?_
  have hv4 := hw
  clear hc hw
  show zP V X 2 0 0 7 _ [.int (zI v4), .int (zI x1)] d1
  revert h
  generalize d1 = d
  intro h
  refine zP_icmp_ge (pc := 7) (tgt := 32) C dX12_named_7 rfl hx1 hv4 h (fun _ h => ?_) (fun _ h => ?_)
  · refine zP_iconst (pc := 32) C dX12_named_32 ?_
    exact zP_iret (pc := 33) C E dX12_named_33 (zRk rfl) h
  · refine zP_aload_n (pc := 10) C (x := zad V 400) dX12_named_10 rfl rfl ?_
    refine zP_iload_n (pc := 11) C (x := zI x1) dX12_named_11 rfl rfl ?_
    refine zP_bipush (pc := 12) C dX12_named_12 rfl ?_
    obtain ⟨v14, d1, hc, h⟩ := zc_h h
    refine zP_callV (pc := 14) (As := [.int (zI x1), .int (zI 15)]) (st := []) C m12_57 dX12_named_14 (s_X12 hT) rfl (t_X12_of hT hx1 (zRk rfl) hc) ⟨Nat.le_of_ble_eq_true rfl, Nat.le_of_ble_eq_true rfl⟩ rfl (Nat.le_of_ble_eq_true rfl) ⟨Nat.zero_le _, Nat.zero_le _⟩ fun hw => ?_
    have hv14 := hw
    clear hc hw
    show zP V X 2 0 0 17 _ [.int (zI v14)] d1
    revert h
    generalize d1 = d
    intro h
    refine zP_aload_n (pc := 17) C (x := zad V 400) dX12_named_17 rfl rfl ?_
    refine zP_getI (pc := 18) (a := 400) C g12_195 dX12_named_18 (s_X12 hT) rfl h fun v18 hv18 h => ?_
    refine zP_icmp_ne (pc := 21) (tgt := 26) C dX12_named_21 rfl hv14 hv18 h (fun _ h => ?_) (fun _ h => ?_)
    · refine zP_iinc (pc := 26) C (x := x1) dX12_named_26 rfl (Nat.le_of_ble_eq_true rfl) rfl h fun v26 hv26 h => ?_
      show zP V X 2 0 0 29 [some (.ref (zad V 400)), some (.int (zI v26))] _ _
      refine zP_goto (pc := 29) (tgt := 2) C dX12_named_29 rfl ?_
      exact zP_mask [true, true] (hr2 hv26 h)
    · refine zP_iload_n (pc := 24) C (x := zI x1) dX12_named_24 rfl rfl ?_
      exact zP_iret (pc := 25) C E dX12_named_25 hx1 h
def l_X12_named_2   : Nat → Int → zD → Option (Int × zD)
  | 0, _, _ => none
  | q + 1, x1, d => l_X12_named_2F   (l_X12_named_2   q) x1 d
theorem wl_X12_named_2 {V : zW} {X : zX}  (hT : zo12 V) (C : zOk V X cX12_named RX12 2 (zrm 1) (some .int)) {rv : Int} {dz : zD} (E : zEnd V X (some (.int (zI rv))) (zR rv) dz)  : ∀ (q : Nat) {x1 : Int} (hx1 : zR x1) {d : zD} (h : l_X12_named_2   q x1 d = some (rv, dz)), zP V X 2 0 0 2 [some (.ref (zad V 400)), some (.int (zI x1))] [] d := by
  intro q
  induction q with
  | zero => intro x1 hx1 d h; cases (show (none : Option (Int × zD)) = some (rv, dz) from h)
  | succ q ih =>
    intro x1 hx1 d h
    exact wl_X12_named_2F hT C E  (fun  hx1 h => ih hx1 h) hx1 h
def f_X12_named  (d : zD) : Option (Int × zD) :=
  l_X12_named_2   zF 0 d
theorem t_X12_named {V : zW}  (hT : zo12 V)   {d dz : zD} {rv : Int} (h : f_X12_named   d = some (rv, dz)) : zMet V 1 yX12_named cX12_named 2 (some .int) [.ref (zad V 400)] d (some (.int (zI rv))) (zR rv) dz := by
  refine zMet_by RX12 pn12 rfl (Nat.le_of_ble_eq_true rfl) [some (.ref (zad V 400)), none] rfl fun X C E => ?_
  refine zP_iconst (pc := 0) C dX12_named_0 ?_
  refine zP_istore_n (pc := 1) C (L' := [some (.ref (zad V 400)), some (.int (zI 0))]) dX12_named_1 rfl (Nat.le_of_ble_eq_true rfl) rfl rfl ?_
  exact zP_mask [true, true] (wl_X12_named_2 hT C E  zF (zRk rfl) h)
def f_X12_isName  (d : zD) : Option (Int × zD) :=
  zl (d 400 16) fun v1 =>
  if (v1 : Int) = 1 then (
    zl (d 400 15) fun v9 =>
    zl (d 400 14) fun v13 =>
    zl (zw (v9 - v13)) fun v16 =>
    if (6 : Int) < v16 then (
      some (0, d))
    else (
      zc (f_X12_isWord 17  d) fun v25 d =>
      if (v25 : Int) = 0 then (
        some (1, d))
      else (
        some (0, d))))
  else (
    some (0, d))
theorem t_X12_isName {V : zW}  (hT : zo12 V)   {d dz : zD} {rv : Int} (h : f_X12_isName   d = some (rv, dz)) : zMet V 8 yX12_isName cX12_isName 1 (some .boolean) [.ref (zad V 400)] d (some (.int (zI rv))) (rv = 0 ∨ rv = 1) dz := by
  refine zMet_by RX12 pn12 rfl (Nat.le_of_ble_eq_true rfl) [some (.ref (zad V 400))] rfl fun X C E => ?_
  refine zP_aload_n (pc := 0) C (x := zad V 400) dX12_isName_0 rfl rfl ?_
  refine zP_getI (pc := 1) (a := 400) C g12_198 dX12_isName_1 (s_X12 hT) rfl h fun v1 hv1 h => ?_
  refine zP_iconst (pc := 4) C dX12_isName_4 ?_
  refine zP_icmp_ne (pc := 5) (tgt := 35) C dX12_isName_5 rfl hv1 (zRk rfl) h (fun _ h => ?_) (fun _ h => ?_)
  · refine zP_iconst (pc := 35) C dX12_isName_35 ?_
    exact zP_zret (pc := 36) C E dX12_isName_36 (Or.inl rfl) h
  · refine zP_aload_n (pc := 8) C (x := zad V 400) dX12_isName_8 rfl rfl ?_
    refine zP_getI (pc := 9) (a := 400) C g12_183 dX12_isName_9 (s_X12 hT) rfl h fun v9 hv9 h => ?_
    refine zP_aload_n (pc := 12) C (x := zad V 400) dX12_isName_12 rfl rfl ?_
    refine zP_getI (pc := 13) (a := 400) C g12_189 dX12_isName_13 (s_X12 hT) rfl h fun v13 hv13 h => ?_
    refine zP_isub (pc := 16) C dX12_isName_16 h fun v16 hv16 h => ?_
    refine zP_bipush (pc := 17) C dX12_isName_17 rfl ?_
    refine zP_icmp_gt (pc := 19) (tgt := 35) C dX12_isName_19 rfl hv16 (zRk rfl) h (fun _ h => ?_) (fun _ h => ?_)
    · refine zP_iconst (pc := 35) C dX12_isName_35 ?_
      exact zP_zret (pc := 36) C E dX12_isName_36 (Or.inl rfl) h
    · refine zP_aload_n (pc := 22) C (x := zad V 400) dX12_isName_22 rfl rfl ?_
      refine zP_ldcT (pc := 23) C (i := 17) (Nat.le_of_ble_eq_true rfl) rfl rfl dX12_isName_23 ?_
      obtain ⟨v25, d1, hc, h⟩ := zc_h h
      refine zP_callV (pc := 25) (As := [.ref (zsa V 17)]) (st := []) C m12_217 dX12_isName_25 (s_X12 hT) rfl (t_X12_isWord hT (Nat.le_of_ble_eq_true rfl)  hc) ⟨Nat.le_of_ble_eq_true rfl, Nat.le_of_ble_eq_true rfl⟩ rfl (Nat.le_of_ble_eq_true rfl) ⟨Nat.zero_le _, Nat.zero_le _⟩ fun hw => ?_
      have hbv25 := hw
      have hv25 := z01 hw
      clear hc hw
      show zP V X 1 0 0 28 _ [.int (zI v25)] d1
      revert h
      generalize d1 = d
      intro h
      refine zP_if_ne (pc := 28) (tgt := 35) C dX12_isName_28 rfl hv25 h (fun _ h => ?_) (fun _ h => ?_)
      · refine zP_iconst (pc := 35) C dX12_isName_35 ?_
        exact zP_zret (pc := 36) C E dX12_isName_36 (Or.inl rfl) h
      · refine zP_iconst (pc := 31) C dX12_isName_31 ?_
        refine zP_goto (pc := 32) (tgt := 36) C dX12_isName_32 rfl ?_
        exact zP_zret (pc := 36) C E dX12_isName_36 (Or.inr rfl) h
def j_X12_terminalHere_38   (x1 : Int) (d : zD) : Option (Int × zD) :=
  zc (f_X12_isGood   d) fun v39 d =>
  if (v39 : Int) = 0 then (
    some (0, d))
  else (
    some (x1, d))
theorem wj_X12_terminalHere_38 {V : zW} {X : zX}  (hT : zo12 V) (C : zOk V X cX12_terminalHere RX12 2 (zrm 9) (some .int)) {rv : Int} {dz : zD} (E : zEnd V X (some (.int (zI rv))) (zR rv) dz)  {x1 : Int} (hx1 : zR x1) {d : zD} (h : j_X12_terminalHere_38   x1 d = some (rv, dz)) : zP V X 2 0 0 38 [some (.ref (zad V 400)), some (.int (zI x1))] [] d := by
  refine zP_aload_n (pc := 38) C (x := zad V 400) dX12_terminalHere_38 rfl rfl ?_
  obtain ⟨v39, d1, hc, h⟩ := zc_h h
  refine zP_callV (pc := 39) (As := []) (st := []) C m12_204 dX12_terminalHere_39 (s_X12 hT) rfl (t_X12_isGood hT  hc) ⟨Nat.le_of_ble_eq_true rfl, Nat.le_of_ble_eq_true rfl⟩ rfl (Nat.le_of_ble_eq_true rfl) ⟨Nat.zero_le _, Nat.zero_le _⟩ fun hw => ?_
  have hbv39 := hw
  have hv39 := z01 hw
  clear hc hw
  show zP V X 2 0 0 42 _ [.int (zI v39)] d1
  revert h
  generalize d1 = d
  intro h
  refine zP_if_eq (pc := 42) (tgt := 49) C dX12_terminalHere_42 rfl hv39 h (fun _ h => ?_) (fun _ h => ?_)
  · refine zP_iconst (pc := 49) C dX12_terminalHere_49 ?_
    exact zP_iret (pc := 50) C E dX12_terminalHere_50 (zRk rfl) h
  · refine zP_iload_n (pc := 45) C (x := zI x1) dX12_terminalHere_45 rfl rfl ?_
    refine zP_goto (pc := 46) (tgt := 50) C dX12_terminalHere_46 rfl ?_
    exact zP_iret (pc := 50) C E dX12_terminalHere_50 hx1 h
def j_X12_terminalHere_27   (s0 : Int) (d : zD) : Option (Int × zD) :=
  if (s0 : Int) = (-1) then (
    zc (f_X12_errs  3 d) fun _ d =>
    j_X12_terminalHere_38   s0 d)
  else (
    j_X12_terminalHere_38   s0 d)
theorem wj_X12_terminalHere_27 {V : zW} {X : zX}  (hT : zo12 V) (C : zOk V X cX12_terminalHere RX12 2 (zrm 9) (some .int)) {rv : Int} {dz : zD} (E : zEnd V X (some (.int (zI rv))) (zR rv) dz)  {s0 : Int} (hs0 : zR s0) {d : zD} (h : j_X12_terminalHere_27   s0 d = some (rv, dz)) : zP V X 2 0 0 27 [some (.ref (zad V 400)), none] [.int (zI s0)] d := by
  refine zP_istore_n (pc := 27) C (L' := [some (.ref (zad V 400)), some (.int (zI s0))]) dX12_terminalHere_27 rfl (Nat.le_of_ble_eq_true rfl) rfl rfl ?_
  refine zP_iload_n (pc := 28) C (x := zI s0) dX12_terminalHere_28 rfl rfl ?_
  refine zP_iconst (pc := 29) C dX12_terminalHere_29 ?_
  refine zP_icmp_ne (pc := 30) (tgt := 38) C dX12_terminalHere_30 rfl hs0 (zRk rfl) h (fun _ h => ?_) (fun _ h => ?_)
  · exact zP_mask [true, true] (wj_X12_terminalHere_38 hT C E  hs0 h)
  · refine zP_aload_n (pc := 33) C (x := zad V 400) dX12_terminalHere_33 rfl rfl ?_
    refine zP_iconst (pc := 34) C dX12_terminalHere_34 ?_
    obtain ⟨_, d1, hc, h⟩ := zc_h h
    refine zP_callV (pc := 35) (As := [.int (zI 3)]) (st := []) C m12_221 dX12_terminalHere_35 (s_X12 hT) rfl (t_X12_errs hT (zRk rfl) hc) ⟨Nat.le_of_ble_eq_true rfl, Nat.le_of_ble_eq_true rfl⟩ rfl (Nat.le_of_ble_eq_true rfl) ⟨Nat.zero_le _, Nat.zero_le _⟩ fun hw => ?_
    clear hc hw
    show zP V X 2 0 0 38 _ [] d1
    revert h
    generalize d1 = d
    intro h
    exact zP_mask [true, true] (wj_X12_terminalHere_38 hT C E  hs0 h)
def j_X12_terminalHere_12   (d : zD) : Option (Int × zD) :=
  zc (f_X12_isGood   d) fun v13 d =>
  if (v13 : Int) = 0 then (
    j_X12_terminalHere_27   0 d)
  else (
    zc (f_X12_named   d) fun v20 d =>
    j_X12_terminalHere_27   v20 d)
theorem wj_X12_terminalHere_12 {V : zW} {X : zX}  (hT : zo12 V) (C : zOk V X cX12_terminalHere RX12 2 (zrm 9) (some .int)) {rv : Int} {dz : zD} (E : zEnd V X (some (.int (zI rv))) (zR rv) dz)    {d : zD} (h : j_X12_terminalHere_12    d = some (rv, dz)) : zP V X 2 0 0 12 [some (.ref (zad V 400)), none] [] d := by
  refine zP_aload_n (pc := 12) C (x := zad V 400) dX12_terminalHere_12 rfl rfl ?_
  obtain ⟨v13, d1, hc, h⟩ := zc_h h
  refine zP_callV (pc := 13) (As := []) (st := []) C m12_204 dX12_terminalHere_13 (s_X12 hT) rfl (t_X12_isGood hT  hc) ⟨Nat.le_of_ble_eq_true rfl, Nat.le_of_ble_eq_true rfl⟩ rfl (Nat.le_of_ble_eq_true rfl) ⟨Nat.zero_le _, Nat.zero_le _⟩ fun hw => ?_
  have hbv13 := hw
  have hv13 := z01 hw
  clear hc hw
  show zP V X 2 0 0 16 _ [.int (zI v13)] d1
  revert h
  generalize d1 = d
  intro h
  refine zP_if_eq (pc := 16) (tgt := 26) C dX12_terminalHere_16 rfl hv13 h (fun _ h => ?_) (fun _ h => ?_)
  · refine zP_iconst (pc := 26) C dX12_terminalHere_26 ?_
    exact zP_mask [true, false] (wj_X12_terminalHere_27 hT C E  (zRk rfl) h)
  · refine zP_aload_n (pc := 19) C (x := zad V 400) dX12_terminalHere_19 rfl rfl ?_
    obtain ⟨v20, d1, hc, h⟩ := zc_h h
    refine zP_callV (pc := 20) (As := []) (st := []) C m12_238 dX12_terminalHere_20 (s_X12 hT) rfl (t_X12_named hT  hc) ⟨Nat.le_of_ble_eq_true rfl, Nat.le_of_ble_eq_true rfl⟩ rfl (Nat.le_of_ble_eq_true rfl) ⟨Nat.zero_le _, Nat.zero_le _⟩ fun hw => ?_
    have hv20 := hw
    clear hc hw
    show zP V X 2 0 0 23 _ [.int (zI v20)] d1
    revert h
    generalize d1 = d
    intro h
    refine zP_goto (pc := 23) (tgt := 27) C dX12_terminalHere_23 rfl ?_
    exact zP_mask [true, false] (wj_X12_terminalHere_27 hT C E  hv20 h)
def f_X12_terminalHere  (d : zD) : Option (Int × zD) :=
  zc (f_X12_isName   d) fun v1 d =>
  if (v1 : Int) = 0 then (
    zc (f_X12_errs  1 d) fun _ d =>
    j_X12_terminalHere_12    d)
  else (
    j_X12_terminalHere_12    d)
theorem t_X12_terminalHere {V : zW}  (hT : zo12 V)   {d dz : zD} {rv : Int} (h : f_X12_terminalHere   d = some (rv, dz)) : zMet V 9 yX12_terminalHere cX12_terminalHere 2 (some .int) [.ref (zad V 400)] d (some (.int (zI rv))) (zR rv) dz := by
  refine zMet_by RX12 pn12 rfl (Nat.le_of_ble_eq_true rfl) [some (.ref (zad V 400)), none] rfl fun X C E => ?_
  refine zP_aload_n (pc := 0) C (x := zad V 400) dX12_terminalHere_0 rfl rfl ?_
  obtain ⟨v1, d1, hc, h⟩ := zc_h h
  refine zP_callV (pc := 1) (As := []) (st := []) C m12_235 dX12_terminalHere_1 (s_X12 hT) rfl (t_X12_isName hT  hc) ⟨Nat.le_of_ble_eq_true rfl, Nat.le_of_ble_eq_true rfl⟩ rfl (Nat.le_of_ble_eq_true rfl) ⟨Nat.zero_le _, Nat.zero_le _⟩ fun hw => ?_
  have hbv1 := hw
  have hv1 := z01 hw
  clear hc hw
  show zP V X 2 0 0 4 _ [.int (zI v1)] d1
  revert h
  generalize d1 = d
  intro h
  refine zP_if_ne (pc := 4) (tgt := 12) C dX12_terminalHere_4 rfl hv1 h (fun _ h => ?_) (fun _ h => ?_)
  · exact zP_mask [true, false] (wj_X12_terminalHere_12 hT C E   h)
  · refine zP_aload_n (pc := 7) C (x := zad V 400) dX12_terminalHere_7 rfl rfl ?_
    refine zP_iconst (pc := 8) C dX12_terminalHere_8 ?_
    obtain ⟨_, d1, hc, h⟩ := zc_h h
    refine zP_callV (pc := 9) (As := [.int (zI 1)]) (st := []) C m12_221 dX12_terminalHere_9 (s_X12 hT) rfl (t_X12_errs hT (zRk rfl) hc) ⟨Nat.le_of_ble_eq_true rfl, Nat.le_of_ble_eq_true rfl⟩ rfl (Nat.le_of_ble_eq_true rfl) ⟨Nat.zero_le _, Nat.zero_le _⟩ fun hw => ?_
    clear hc hw
    show zP V X 2 0 0 12 _ [] d1
    revert h
    generalize d1 = d
    intro h
    exact zP_mask [true, false] (wj_X12_terminalHere_12 hT C E   h)
def f_X12_terminal0  (d : zD) : Option (Int × zD) :=
  zc (f_X12_terminalHere   d) fun v1 d =>
  zc (f_X12_goesOn   d) fun _ d =>
  some (v1, d)
theorem t_X12_terminal0 {V : zW}  (hT : zo12 V)   {d dz : zD} {rv : Int} (h : f_X12_terminal0   d = some (rv, dz)) : zMet V 10 yX12_terminal0 cX12_terminal0 2 (some .int) [.ref (zad V 400)] d (some (.int (zI rv))) (zR rv) dz := by
  refine zMet_by RX12 pn12 rfl (Nat.le_of_ble_eq_true rfl) [some (.ref (zad V 400)), none] rfl fun X C E => ?_
  refine zP_aload_n (pc := 0) C (x := zad V 400) dX12_terminal0_0 rfl rfl ?_
  obtain ⟨v1, d1, hc, h⟩ := zc_h h
  refine zP_callV (pc := 1) (As := []) (st := []) C m12_241 dX12_terminal0_1 (s_X12 hT) rfl (t_X12_terminalHere hT  hc) ⟨Nat.le_of_ble_eq_true rfl, Nat.le_of_ble_eq_true rfl⟩ rfl (Nat.le_of_ble_eq_true rfl) ⟨Nat.zero_le _, Nat.zero_le _⟩ fun hw => ?_
  have hv1 := hw
  clear hc hw
  show zP V X 2 0 0 4 _ [.int (zI v1)] d1
  revert h
  generalize d1 = d
  intro h
  refine zP_istore_n (pc := 4) C (L' := [some (.ref (zad V 400)), some (.int (zI v1))]) dX12_terminal0_4 rfl (Nat.le_of_ble_eq_true rfl) rfl rfl ?_
  refine zP_aload_n (pc := 5) C (x := zad V 400) dX12_terminal0_5 rfl rfl ?_
  obtain ⟨_, d1, hc, h⟩ := zc_h h
  refine zP_callV (pc := 6) (As := []) (st := []) C m12_224 dX12_terminal0_6 (s_X12 hT) rfl (t_X12_goesOn hT  hc) ⟨Nat.le_of_ble_eq_true rfl, Nat.le_of_ble_eq_true rfl⟩ rfl (Nat.le_of_ble_eq_true rfl) ⟨Nat.zero_le _, Nat.zero_le _⟩ fun hw => ?_
  clear hc hw
  show zP V X 2 0 0 9 _ [] d1
  revert h
  generalize d1 = d
  intro h
  refine zP_iload_n (pc := 9) C (x := zI v1) dX12_terminal0_9 rfl rfl ?_
  exact zP_iret (pc := 10) C E dX12_terminal0_10 hv1 h
def f_X12_whoHere  (d : zD) : Option (Int × zD) :=
  zc (f_X12_isWord 17  d) fun v3 d =>
  if (v3 : Int) = 0 then (
    zc (f_X12_terminalHere   d) fun v14 d =>
    some (v14, d))
  else (
    some ((-1), d))
theorem t_X12_whoHere {V : zW}  (hT : zo12 V)   {d dz : zD} {rv : Int} (h : f_X12_whoHere   d = some (rv, dz)) : zMet V 10 yX12_whoHere cX12_whoHere 1 (some .int) [.ref (zad V 400)] d (some (.int (zI rv))) (zR rv) dz := by
  refine zMet_by RX12 pn12 rfl (Nat.le_of_ble_eq_true rfl) [some (.ref (zad V 400))] rfl fun X C E => ?_
  refine zP_aload_n (pc := 0) C (x := zad V 400) dX12_whoHere_0 rfl rfl ?_
  refine zP_ldcT (pc := 1) C (i := 17) (Nat.le_of_ble_eq_true rfl) rfl rfl dX12_whoHere_1 ?_
  obtain ⟨v3, d1, hc, h⟩ := zc_h h
  refine zP_callV (pc := 3) (As := [.ref (zsa V 17)]) (st := []) C m12_217 dX12_whoHere_3 (s_X12 hT) rfl (t_X12_isWord hT (Nat.le_of_ble_eq_true rfl)  hc) ⟨Nat.le_of_ble_eq_true rfl, Nat.le_of_ble_eq_true rfl⟩ rfl (Nat.le_of_ble_eq_true rfl) ⟨Nat.zero_le _, Nat.zero_le _⟩ fun hw => ?_
  have hbv3 := hw
  have hv3 := z01 hw
  clear hc hw
  show zP V X 1 0 0 6 _ [.int (zI v3)] d1
  revert h
  generalize d1 = d
  intro h
  refine zP_if_eq (pc := 6) (tgt := 13) C dX12_whoHere_6 rfl hv3 h (fun _ h => ?_) (fun _ h => ?_)
  · refine zP_aload_n (pc := 13) C (x := zad V 400) dX12_whoHere_13 rfl rfl ?_
    obtain ⟨v14, d1, hc, h⟩ := zc_h h
    refine zP_callV (pc := 14) (As := []) (st := []) C m12_241 dX12_whoHere_14 (s_X12 hT) rfl (t_X12_terminalHere hT  hc) ⟨Nat.le_of_ble_eq_true rfl, Nat.le_of_ble_eq_true rfl⟩ rfl (Nat.le_of_ble_eq_true rfl) ⟨Nat.zero_le _, Nat.zero_le _⟩ fun hw => ?_
    have hv14 := hw
    clear hc hw
    show zP V X 1 0 0 17 _ [.int (zI v14)] d1
    revert h
    generalize d1 = d
    intro h
    exact zP_iret (pc := 17) C E dX12_whoHere_17 hv14 h
  · refine zP_iconst (pc := 9) C dX12_whoHere_9 ?_
    refine zP_goto (pc := 10) (tgt := 17) C dX12_whoHere_10 rfl ?_
    exact zP_iret (pc := 17) C E dX12_whoHere_17 (zRk rfl) h
def j_X12_once_17   (x1 : Int) (d : zD) : Option (Int × zD) :=
  zl (d 400 19) fun v19 =>
  zl (zshl 1 x1) fun v24 =>
  zl (zor v19 v24) fun v25 =>
  zl (zu d 400 19 v25) fun d =>
  zc (f_X12_goesOn   d) fun _ d =>
  some (0, d)
theorem wj_X12_once_17 {V : zW} {X : zX}  (hT : zo12 V) (C : zOk V X cX12_once RX12 2 (zrm 3) none) {rv : Int} {dz : zD} (E : zEnd V X none (rv = 0) dz)  {x1 : Int} (hx1 : zR x1) {d : zD} (h : j_X12_once_17   x1 d = some (rv, dz)) : zP V X 2 0 0 17 [some (.ref (zad V 400)), some (.int (zI x1))] [] d := by
  refine zP_aload_n (pc := 17) C (x := zad V 400) dX12_once_17 rfl rfl ?_
  refine zP_aload_n (pc := 18) C (x := zad V 400) dX12_once_18 rfl rfl ?_
  refine zP_getI (pc := 19) (a := 400) C g12_244 dX12_once_19 (s_X12 hT) rfl h fun v19 hv19 h => ?_
  refine zP_iconst (pc := 22) C dX12_once_22 ?_
  refine zP_iload_n (pc := 23) C (x := zI x1) dX12_once_23 rfl rfl ?_
  refine zP_ishl (pc := 24) C dX12_once_24 h fun v24 hv24 h => ?_
  refine zP_ior (pc := 25) C dX12_once_25 h fun v25 hv25 h => ?_
  refine zP_putI (pc := 26) (a := 400) C p12_244 dX12_once_26 (s_X12 hT) rfl hv25 h fun d h => ?_
  refine zP_aload_n (pc := 29) C (x := zad V 400) dX12_once_29 rfl rfl ?_
  obtain ⟨_, d1, hc, h⟩ := zc_h h
  refine zP_callV (pc := 30) (As := []) (st := []) C m12_224 dX12_once_30 (s_X12 hT) rfl (t_X12_goesOn hT  hc) ⟨Nat.le_of_ble_eq_true rfl, Nat.le_of_ble_eq_true rfl⟩ rfl (Nat.le_of_ble_eq_true rfl) ⟨Nat.zero_le _, Nat.zero_le _⟩ fun hw => ?_
  clear hc hw
  show zP V X 2 0 0 33 _ [] d1
  revert h
  generalize d1 = d
  intro h
  exact zP_vret (pc := 33) C E dX12_once_33 h
def f_X12_once  (x1 : Int) (d : zD) : Option (Int × zD) :=
  zl (d 400 19) fun v1 =>
  zl (zshr v1 x1) fun v5 =>
  zl (zand v5 1) fun v7 =>
  if (v7 : Int) = 1 then (
    zc (f_X12_errs  4 d) fun _ d =>
    j_X12_once_17   x1 d)
  else (
    j_X12_once_17   x1 d)
theorem t_X12_once {V : zW}  (hT : zo12 V) {x1 : Int} (hx1 : zR x1) {d dz : zD} {rv : Int} (h : f_X12_once  x1 d = some (rv, dz)) : zMet V 3 yX12_once cX12_once 2 none [.ref (zad V 400), .int (zI x1)] d none (rv = 0) dz := by
  refine zMet_by RX12 pn12 rfl (Nat.le_of_ble_eq_true rfl) [some (.ref (zad V 400)), some (.int (zI x1))] rfl fun X C E => ?_
  refine zP_aload_n (pc := 0) C (x := zad V 400) dX12_once_0 rfl rfl ?_
  refine zP_getI (pc := 1) (a := 400) C g12_244 dX12_once_1 (s_X12 hT) rfl h fun v1 hv1 h => ?_
  refine zP_iload_n (pc := 4) C (x := zI x1) dX12_once_4 rfl rfl ?_
  refine zP_ishr (pc := 5) C dX12_once_5 h fun v5 hv5 h => ?_
  refine zP_iconst (pc := 6) C dX12_once_6 ?_
  refine zP_iand (pc := 7) C dX12_once_7 h fun v7 hv7 h => ?_
  refine zP_iconst (pc := 8) C dX12_once_8 ?_
  refine zP_icmp_ne (pc := 9) (tgt := 17) C dX12_once_9 rfl hv7 (zRk rfl) h (fun _ h => ?_) (fun _ h => ?_)
  · exact zP_mask [true, true] (wj_X12_once_17 hT C E  hx1 h)
  · refine zP_aload_n (pc := 12) C (x := zad V 400) dX12_once_12 rfl rfl ?_
    refine zP_iconst (pc := 13) C dX12_once_13 ?_
    obtain ⟨_, d1, hc, h⟩ := zc_h h
    refine zP_callV (pc := 14) (As := [.int (zI 4)]) (st := []) C m12_221 dX12_once_14 (s_X12 hT) rfl (t_X12_errs hT (zRk rfl) hc) ⟨Nat.le_of_ble_eq_true rfl, Nat.le_of_ble_eq_true rfl⟩ rfl (Nat.le_of_ble_eq_true rfl) ⟨Nat.zero_le _, Nat.zero_le _⟩ fun hw => ?_
    clear hc hw
    show zP V X 2 0 0 17 _ [] d1
    revert h
    generalize d1 = d
    intro h
    exact zP_mask [true, true] (wj_X12_once_17 hT C E  hx1 h)
def j_X12_readsTerminal_50   (d : zD) : Option (Int × zD) :=
  zl (d 400 18) fun v51 =>
  zc (f_X12_goesOn   d) fun _ d =>
  zc (f_X12_optional 18 1 9 2 d) fun v66 d =>
  zc (f_X12_optional 19 1 4 2 d) fun v76 d =>
  zc (f_X12_optional 20 0 30 5 d) fun v87 d =>
  zc (f_X12_isGood   d) fun v93 d =>
  if (v93 : Int) = 0 then (
    some (0, d))
  else (
    zc (f_X12_lays  v51 v66 v76 v87 d) fun _ d =>
    some (0, d))
theorem wj_X12_readsTerminal_50 {V : zW} {X : zX}  (hT : zo12 V) (C : zOk V X cX12_readsTerminal RX12 5 (zrm 10) none) {rv : Int} {dz : zD} (E : zEnd V X none (rv = 0) dz)    {d : zD} (h : j_X12_readsTerminal_50    d = some (rv, dz)) : zP V X 5 0 0 50 [some (.ref (zad V 400)), none, none, none, none] [] d := by
  refine zP_aload_n (pc := 50) C (x := zad V 400) dX12_readsTerminal_50 rfl rfl ?_
  refine zP_getI (pc := 51) (a := 400) C g12_195 dX12_readsTerminal_51 (s_X12 hT) rfl h fun v51 hv51 h => ?_
  refine zP_istore_n (pc := 54) C (L' := [some (.ref (zad V 400)), some (.int (zI v51)), none, none, none]) dX12_readsTerminal_54 rfl (Nat.le_of_ble_eq_true rfl) rfl rfl ?_
  refine zP_aload_n (pc := 55) C (x := zad V 400) dX12_readsTerminal_55 rfl rfl ?_
  obtain ⟨_, d1, hc, h⟩ := zc_h h
  refine zP_callV (pc := 56) (As := []) (st := []) C m12_224 dX12_readsTerminal_56 (s_X12 hT) rfl (t_X12_goesOn hT  hc) ⟨Nat.le_of_ble_eq_true rfl, Nat.le_of_ble_eq_true rfl⟩ rfl (Nat.le_of_ble_eq_true rfl) ⟨Nat.zero_le _, Nat.zero_le _⟩ fun hw => ?_
  clear hc hw
  show zP V X 5 0 0 59 _ [] d1
  revert h
  generalize d1 = d
  intro h
  refine zP_aload_n (pc := 59) C (x := zad V 400) dX12_readsTerminal_59 rfl rfl ?_
  refine zP_ldcT (pc := 60) C (i := 18) (Nat.le_of_ble_eq_true rfl) rfl rfl dX12_readsTerminal_60 ?_
  refine zP_iconst (pc := 62) C dX12_readsTerminal_62 ?_
  refine zP_bipush (pc := 63) C dX12_readsTerminal_63 rfl ?_
  refine zP_iconst (pc := 65) C dX12_readsTerminal_65 ?_
  obtain ⟨v66, d1, hc, h⟩ := zc_h h
  refine zP_callV (pc := 66) (As := [.ref (zsa V 18), .int (zI 1), .int (zI 9), .int (zI 2)]) (st := []) C m12_249 dX12_readsTerminal_66 (s_X12 hT) rfl (t_X12_optional hT (Nat.le_of_ble_eq_true rfl) (zRk rfl) (zRk rfl) (zRk rfl) hc) ⟨Nat.le_of_ble_eq_true rfl, Nat.le_of_ble_eq_true rfl⟩ rfl (Nat.le_of_ble_eq_true rfl) ⟨Nat.zero_le _, Nat.zero_le _⟩ fun hw => ?_
  have hv66 := hw
  clear hc hw
  show zP V X 5 0 0 69 _ [.int (zI v66)] d1
  revert h
  generalize d1 = d
  intro h
  refine zP_istore_n (pc := 69) C (L' := [some (.ref (zad V 400)), some (.int (zI v51)), some (.int (zI v66)), none, none]) dX12_readsTerminal_69 rfl (Nat.le_of_ble_eq_true rfl) rfl rfl ?_
  refine zP_aload_n (pc := 70) C (x := zad V 400) dX12_readsTerminal_70 rfl rfl ?_
  refine zP_ldcT (pc := 71) C (i := 19) (Nat.le_of_ble_eq_true rfl) rfl rfl dX12_readsTerminal_71 ?_
  refine zP_iconst (pc := 73) C dX12_readsTerminal_73 ?_
  refine zP_iconst (pc := 74) C dX12_readsTerminal_74 ?_
  refine zP_iconst (pc := 75) C dX12_readsTerminal_75 ?_
  obtain ⟨v76, d1, hc, h⟩ := zc_h h
  refine zP_callV (pc := 76) (As := [.ref (zsa V 19), .int (zI 1), .int (zI 4), .int (zI 2)]) (st := []) C m12_249 dX12_readsTerminal_76 (s_X12 hT) rfl (t_X12_optional hT (Nat.le_of_ble_eq_true rfl) (zRk rfl) (zRk rfl) (zRk rfl) hc) ⟨Nat.le_of_ble_eq_true rfl, Nat.le_of_ble_eq_true rfl⟩ rfl (Nat.le_of_ble_eq_true rfl) ⟨Nat.zero_le _, Nat.zero_le _⟩ fun hw => ?_
  have hv76 := hw
  clear hc hw
  show zP V X 5 0 0 79 _ [.int (zI v76)] d1
  revert h
  generalize d1 = d
  intro h
  refine zP_istore_n (pc := 79) C (L' := [some (.ref (zad V 400)), some (.int (zI v51)), some (.int (zI v66)), some (.int (zI v76)), none]) dX12_readsTerminal_79 rfl (Nat.le_of_ble_eq_true rfl) rfl rfl ?_
  refine zP_aload_n (pc := 80) C (x := zad V 400) dX12_readsTerminal_80 rfl rfl ?_
  refine zP_ldcT (pc := 81) C (i := 20) (Nat.le_of_ble_eq_true rfl) rfl rfl dX12_readsTerminal_81 ?_
  refine zP_iconst (pc := 83) C dX12_readsTerminal_83 ?_
  refine zP_bipush (pc := 84) C dX12_readsTerminal_84 rfl ?_
  refine zP_iconst (pc := 86) C dX12_readsTerminal_86 ?_
  obtain ⟨v87, d1, hc, h⟩ := zc_h h
  refine zP_callV (pc := 87) (As := [.ref (zsa V 20), .int (zI 0), .int (zI 30), .int (zI 5)]) (st := []) C m12_249 dX12_readsTerminal_87 (s_X12 hT) rfl (t_X12_optional hT (Nat.le_of_ble_eq_true rfl) (zRk rfl) (zRk rfl) (zRk rfl) hc) ⟨Nat.le_of_ble_eq_true rfl, Nat.le_of_ble_eq_true rfl⟩ rfl (Nat.le_of_ble_eq_true rfl) ⟨Nat.zero_le _, Nat.zero_le _⟩ fun hw => ?_
  have hv87 := hw
  clear hc hw
  show zP V X 5 0 0 90 _ [.int (zI v87)] d1
  revert h
  generalize d1 = d
  intro h
  refine zP_istore (pc := 90) C (L' := [some (.ref (zad V 400)), some (.int (zI v51)), some (.int (zI v66)), some (.int (zI v76)), some (.int (zI v87))]) dX12_readsTerminal_90 (Nat.le_of_ble_eq_true rfl) rfl rfl ?_
  refine zP_aload_n (pc := 92) C (x := zad V 400) dX12_readsTerminal_92 rfl rfl ?_
  obtain ⟨v93, d1, hc, h⟩ := zc_h h
  refine zP_callV (pc := 93) (As := []) (st := []) C m12_204 dX12_readsTerminal_93 (s_X12 hT) rfl (t_X12_isGood hT  hc) ⟨Nat.le_of_ble_eq_true rfl, Nat.le_of_ble_eq_true rfl⟩ rfl (Nat.le_of_ble_eq_true rfl) ⟨Nat.zero_le _, Nat.zero_le _⟩ fun hw => ?_
  have hbv93 := hw
  have hv93 := z01 hw
  clear hc hw
  show zP V X 5 0 0 96 _ [.int (zI v93)] d1
  revert h
  generalize d1 = d
  intro h
  refine zP_if_eq (pc := 96) (tgt := 108) C dX12_readsTerminal_96 rfl hv93 h (fun _ h => ?_) (fun _ h => ?_)
  · exact zP_vret (pc := 108) C E dX12_readsTerminal_108 h
  · refine zP_aload_n (pc := 99) C (x := zad V 400) dX12_readsTerminal_99 rfl rfl ?_
    refine zP_iload_n (pc := 100) C (x := zI v51) dX12_readsTerminal_100 rfl rfl ?_
    refine zP_iload_n (pc := 101) C (x := zI v66) dX12_readsTerminal_101 rfl rfl ?_
    refine zP_iload_n (pc := 102) C (x := zI v76) dX12_readsTerminal_102 rfl rfl ?_
    refine zP_iload (pc := 103) C (x := zI v87) dX12_readsTerminal_103 rfl ?_
    obtain ⟨_, d1, hc, h⟩ := zc_h h
    refine zP_callV (pc := 105) (As := [.int (zI v51), .int (zI v66), .int (zI v76), .int (zI v87)]) (st := []) C m12_45 dX12_readsTerminal_105 (s_X12 hT) rfl (t_X12_lays hT hv51 hv66 hv76 hv87 hc) ⟨Nat.le_of_ble_eq_true rfl, Nat.le_of_ble_eq_true rfl⟩ rfl (Nat.le_of_ble_eq_true rfl) ⟨Nat.zero_le _, Nat.zero_le _⟩ fun hw => ?_
    clear hc hw
    show zP V X 5 0 0 108 _ [] d1
    revert h
    generalize d1 = d
    intro h
    exact zP_vret (pc := 108) C E dX12_readsTerminal_108 h
def j_X12_readsTerminal_30   (d : zD) : Option (Int × zD) :=
  zc (f_X12_isGood   d) fun v31 d =>
  if (v31 : Int) = 0 then (
    j_X12_readsTerminal_50    d)
  else (
    zc (f_X12_named   d) fun v38 d =>
    if (v38 : Int) = (-1) then (
      j_X12_readsTerminal_50    d)
    else (
      zc (f_X12_errs  4 d) fun _ d =>
      j_X12_readsTerminal_50    d))
theorem wj_X12_readsTerminal_30 {V : zW} {X : zX}  (hT : zo12 V) (C : zOk V X cX12_readsTerminal RX12 5 (zrm 10) none) {rv : Int} {dz : zD} (E : zEnd V X none (rv = 0) dz)    {d : zD} (h : j_X12_readsTerminal_30    d = some (rv, dz)) : zP V X 5 0 0 30 [some (.ref (zad V 400)), none, none, none, none] [] d := by
  refine zP_aload_n (pc := 30) C (x := zad V 400) dX12_readsTerminal_30 rfl rfl ?_
  obtain ⟨v31, d1, hc, h⟩ := zc_h h
  refine zP_callV (pc := 31) (As := []) (st := []) C m12_204 dX12_readsTerminal_31 (s_X12 hT) rfl (t_X12_isGood hT  hc) ⟨Nat.le_of_ble_eq_true rfl, Nat.le_of_ble_eq_true rfl⟩ rfl (Nat.le_of_ble_eq_true rfl) ⟨Nat.zero_le _, Nat.zero_le _⟩ fun hw => ?_
  have hbv31 := hw
  have hv31 := z01 hw
  clear hc hw
  show zP V X 5 0 0 34 _ [.int (zI v31)] d1
  revert h
  generalize d1 = d
  intro h
  refine zP_if_eq (pc := 34) (tgt := 50) C dX12_readsTerminal_34 rfl hv31 h (fun _ h => ?_) (fun _ h => ?_)
  · exact zP_mask [true, false, false, false, false] (wj_X12_readsTerminal_50 hT C E   h)
  · refine zP_aload_n (pc := 37) C (x := zad V 400) dX12_readsTerminal_37 rfl rfl ?_
    obtain ⟨v38, d1, hc, h⟩ := zc_h h
    refine zP_callV (pc := 38) (As := []) (st := []) C m12_238 dX12_readsTerminal_38 (s_X12 hT) rfl (t_X12_named hT  hc) ⟨Nat.le_of_ble_eq_true rfl, Nat.le_of_ble_eq_true rfl⟩ rfl (Nat.le_of_ble_eq_true rfl) ⟨Nat.zero_le _, Nat.zero_le _⟩ fun hw => ?_
    have hv38 := hw
    clear hc hw
    show zP V X 5 0 0 41 _ [.int (zI v38)] d1
    revert h
    generalize d1 = d
    intro h
    refine zP_iconst (pc := 41) C dX12_readsTerminal_41 ?_
    refine zP_icmp_eq (pc := 42) (tgt := 50) C dX12_readsTerminal_42 rfl hv38 (zRk rfl) h (fun _ h => ?_) (fun _ h => ?_)
    · exact zP_mask [true, false, false, false, false] (wj_X12_readsTerminal_50 hT C E   h)
    · refine zP_aload_n (pc := 45) C (x := zad V 400) dX12_readsTerminal_45 rfl rfl ?_
      refine zP_iconst (pc := 46) C dX12_readsTerminal_46 ?_
      obtain ⟨_, d1, hc, h⟩ := zc_h h
      refine zP_callV (pc := 47) (As := [.int (zI 4)]) (st := []) C m12_221 dX12_readsTerminal_47 (s_X12 hT) rfl (t_X12_errs hT (zRk rfl) hc) ⟨Nat.le_of_ble_eq_true rfl, Nat.le_of_ble_eq_true rfl⟩ rfl (Nat.le_of_ble_eq_true rfl) ⟨Nat.zero_le _, Nat.zero_le _⟩ fun hw => ?_
      clear hc hw
      show zP V X 5 0 0 50 _ [] d1
      revert h
      generalize d1 = d
      intro h
      exact zP_mask [true, false, false, false, false] (wj_X12_readsTerminal_50 hT C E   h)
def j_X12_readsTerminal_14   (d : zD) : Option (Int × zD) :=
  zc (f_X12_goesOn   d) fun _ d =>
  zc (f_X12_isName   d) fun v19 d =>
  if (v19 : Int) = 0 then (
    zc (f_X12_errs  1 d) fun _ d =>
    j_X12_readsTerminal_30    d)
  else (
    j_X12_readsTerminal_30    d)
theorem wj_X12_readsTerminal_14 {V : zW} {X : zX}  (hT : zo12 V) (C : zOk V X cX12_readsTerminal RX12 5 (zrm 10) none) {rv : Int} {dz : zD} (E : zEnd V X none (rv = 0) dz)    {d : zD} (h : j_X12_readsTerminal_14    d = some (rv, dz)) : zP V X 5 0 0 14 [some (.ref (zad V 400)), none, none, none, none] [] d := by
  refine zP_aload_n (pc := 14) C (x := zad V 400) dX12_readsTerminal_14 rfl rfl ?_
  obtain ⟨_, d1, hc, h⟩ := zc_h h
  refine zP_callV (pc := 15) (As := []) (st := []) C m12_224 dX12_readsTerminal_15 (s_X12 hT) rfl (t_X12_goesOn hT  hc) ⟨Nat.le_of_ble_eq_true rfl, Nat.le_of_ble_eq_true rfl⟩ rfl (Nat.le_of_ble_eq_true rfl) ⟨Nat.zero_le _, Nat.zero_le _⟩ fun hw => ?_
  clear hc hw
  show zP V X 5 0 0 18 _ [] d1
  revert h
  generalize d1 = d
  intro h
  refine zP_aload_n (pc := 18) C (x := zad V 400) dX12_readsTerminal_18 rfl rfl ?_
  obtain ⟨v19, d1, hc, h⟩ := zc_h h
  refine zP_callV (pc := 19) (As := []) (st := []) C m12_235 dX12_readsTerminal_19 (s_X12 hT) rfl (t_X12_isName hT  hc) ⟨Nat.le_of_ble_eq_true rfl, Nat.le_of_ble_eq_true rfl⟩ rfl (Nat.le_of_ble_eq_true rfl) ⟨Nat.zero_le _, Nat.zero_le _⟩ fun hw => ?_
  have hbv19 := hw
  have hv19 := z01 hw
  clear hc hw
  show zP V X 5 0 0 22 _ [.int (zI v19)] d1
  revert h
  generalize d1 = d
  intro h
  refine zP_if_ne (pc := 22) (tgt := 30) C dX12_readsTerminal_22 rfl hv19 h (fun _ h => ?_) (fun _ h => ?_)
  · exact zP_mask [true, false, false, false, false] (wj_X12_readsTerminal_30 hT C E   h)
  · refine zP_aload_n (pc := 25) C (x := zad V 400) dX12_readsTerminal_25 rfl rfl ?_
    refine zP_iconst (pc := 26) C dX12_readsTerminal_26 ?_
    obtain ⟨_, d1, hc, h⟩ := zc_h h
    refine zP_callV (pc := 27) (As := [.int (zI 1)]) (st := []) C m12_221 dX12_readsTerminal_27 (s_X12 hT) rfl (t_X12_errs hT (zRk rfl) hc) ⟨Nat.le_of_ble_eq_true rfl, Nat.le_of_ble_eq_true rfl⟩ rfl (Nat.le_of_ble_eq_true rfl) ⟨Nat.zero_le _, Nat.zero_le _⟩ fun hw => ?_
    clear hc hw
    show zP V X 5 0 0 30 _ [] d1
    revert h
    generalize d1 = d
    intro h
    exact zP_mask [true, false, false, false, false] (wj_X12_readsTerminal_30 hT C E   h)
def f_X12_readsTerminal  (d : zD) : Option (Int × zD) :=
  zc (f_X12_many   d) fun v1 d =>
  if (v1 : Int) = 8 then (
    zc (f_X12_errs  5 d) fun _ d =>
    j_X12_readsTerminal_14    d)
  else (
    j_X12_readsTerminal_14    d)
theorem t_X12_readsTerminal {V : zW}  (hT : zo12 V)   {d dz : zD} {rv : Int} (h : f_X12_readsTerminal   d = some (rv, dz)) : zMet V 10 yX12_readsTerminal cX12_readsTerminal 5 none [.ref (zad V 400)] d none (rv = 0) dz := by
  refine zMet_by RX12 pn12 rfl (Nat.le_of_ble_eq_true rfl) [some (.ref (zad V 400)), none, none, none, none] rfl fun X C E => ?_
  refine zP_aload_n (pc := 0) C (x := zad V 400) dX12_readsTerminal_0 rfl rfl ?_
  obtain ⟨v1, d1, hc, h⟩ := zc_h h
  refine zP_callV (pc := 1) (As := []) (st := []) C m12_49 dX12_readsTerminal_1 (s_X12 hT) rfl (t_X12_many hT  hc) ⟨Nat.le_of_ble_eq_true rfl, Nat.le_of_ble_eq_true rfl⟩ rfl (Nat.le_of_ble_eq_true rfl) ⟨Nat.zero_le _, Nat.zero_le _⟩ fun hw => ?_
  have hv1 := hw
  clear hc hw
  show zP V X 5 0 0 4 _ [.int (zI v1)] d1
  revert h
  generalize d1 = d
  intro h
  refine zP_bipush (pc := 4) C dX12_readsTerminal_4 rfl ?_
  refine zP_icmp_ne (pc := 6) (tgt := 14) C dX12_readsTerminal_6 rfl hv1 (zRk rfl) h (fun _ h => ?_) (fun _ h => ?_)
  · exact zP_mask [true, false, false, false, false] (wj_X12_readsTerminal_14 hT C E   h)
  · refine zP_aload_n (pc := 9) C (x := zad V 400) dX12_readsTerminal_9 rfl rfl ?_
    refine zP_iconst (pc := 10) C dX12_readsTerminal_10 ?_
    obtain ⟨_, d1, hc, h⟩ := zc_h h
    refine zP_callV (pc := 11) (As := [.int (zI 5)]) (st := []) C m12_221 dX12_readsTerminal_11 (s_X12 hT) rfl (t_X12_errs hT (zRk rfl) hc) ⟨Nat.le_of_ble_eq_true rfl, Nat.le_of_ble_eq_true rfl⟩ rfl (Nat.le_of_ble_eq_true rfl) ⟨Nat.zero_le _, Nat.zero_le _⟩ fun hw => ?_
    clear hc hw
    show zP V X 5 0 0 14 _ [] d1
    revert h
    generalize d1 = d
    intro h
    exact zP_mask [true, false, false, false, false] (wj_X12_readsTerminal_14 hT C E   h)
def j_X12_readsList_71  (r10 : Int → zD → Option (Int × zD)) (d : zD) : Option (Int × zD) :=
  zc (f_X12_goesOn   d) fun _ d =>
  zc (f_X12_isGood   d) fun v76 d =>
  if (v76 : Int) = 0 then (
    r10 0 d)
  else (
    zl (d 400 16) fun v83 =>
    if (v83 : Int) = 1 then (
      r10 1 d)
    else (
      r10 0 d))
theorem wj_X12_readsList_71 {V : zW} {X : zX}  (hT : zo12 V) (C : zOk V X cX12_readsList RX12 3 (zrm 10) none) {rv : Int} {dz : zD} (E : zEnd V X none (rv = 0) dz) {r10 : Int → zD → Option (Int × zD)} (hr10 : ∀ {x1 : Int} {d : zD}, zR x1 → r10 x1 d = some (rv, dz) → zP V X 3 0 0 10 [some (.ref (zad V 400)), some (.int (zI x1)), none] [] d)   {d : zD} (h : j_X12_readsList_71  r10  d = some (rv, dz)) : zP V X 3 0 0 71 [some (.ref (zad V 400)), none, none] [] d := by
  refine zP_aload_n (pc := 71) C (x := zad V 400) dX12_readsList_71 rfl rfl ?_
  obtain ⟨_, d1, hc, h⟩ := zc_h h
  refine zP_callV (pc := 72) (As := []) (st := []) C m12_224 dX12_readsList_72 (s_X12 hT) rfl (t_X12_goesOn hT  hc) ⟨Nat.le_of_ble_eq_true rfl, Nat.le_of_ble_eq_true rfl⟩ rfl (Nat.le_of_ble_eq_true rfl) ⟨Nat.zero_le _, Nat.zero_le _⟩ fun hw => ?_
  clear hc hw
  show zP V X 3 0 0 75 _ [] d1
  revert h
  generalize d1 = d
  intro h
  refine zP_aload_n (pc := 75) C (x := zad V 400) dX12_readsList_75 rfl rfl ?_
  obtain ⟨v76, d1, hc, h⟩ := zc_h h
  refine zP_callV (pc := 76) (As := []) (st := []) C m12_204 dX12_readsList_76 (s_X12 hT) rfl (t_X12_isGood hT  hc) ⟨Nat.le_of_ble_eq_true rfl, Nat.le_of_ble_eq_true rfl⟩ rfl (Nat.le_of_ble_eq_true rfl) ⟨Nat.zero_le _, Nat.zero_le _⟩ fun hw => ?_
  have hbv76 := hw
  have hv76 := z01 hw
  clear hc hw
  show zP V X 3 0 0 79 _ [.int (zI v76)] d1
  revert h
  generalize d1 = d
  intro h
  refine zP_if_eq (pc := 79) (tgt := 94) C dX12_readsList_79 rfl hv76 h (fun _ h => ?_) (fun _ h => ?_)
  · refine zP_iconst (pc := 94) C dX12_readsList_94 ?_
    refine zP_istore_n (pc := 95) C (L' := [some (.ref (zad V 400)), some (.int (zI 0)), none]) dX12_readsList_95 rfl (Nat.le_of_ble_eq_true rfl) rfl rfl ?_
    refine zP_goto (pc := 96) (tgt := 10) C dX12_readsList_96 rfl ?_
    exact zP_mask [true, true, false] (hr10 (zRk rfl) h)
  · refine zP_aload_n (pc := 82) C (x := zad V 400) dX12_readsList_82 rfl rfl ?_
    refine zP_getI (pc := 83) (a := 400) C g12_198 dX12_readsList_83 (s_X12 hT) rfl h fun v83 hv83 h => ?_
    refine zP_iconst (pc := 86) C dX12_readsList_86 ?_
    refine zP_icmp_ne (pc := 87) (tgt := 94) C dX12_readsList_87 rfl hv83 (zRk rfl) h (fun _ h => ?_) (fun _ h => ?_)
    · refine zP_iconst (pc := 94) C dX12_readsList_94 ?_
      refine zP_istore_n (pc := 95) C (L' := [some (.ref (zad V 400)), some (.int (zI 0)), none]) dX12_readsList_95 rfl (Nat.le_of_ble_eq_true rfl) rfl rfl ?_
      refine zP_goto (pc := 96) (tgt := 10) C dX12_readsList_96 rfl ?_
      exact zP_mask [true, true, false] (hr10 (zRk rfl) h)
    · refine zP_iconst (pc := 90) C dX12_readsList_90 ?_
      refine zP_goto (pc := 91) (tgt := 95) C dX12_readsList_91 rfl ?_
      refine zP_istore_n (pc := 95) C (L' := [some (.ref (zad V 400)), some (.int (zI 1)), none]) dX12_readsList_95 rfl (Nat.le_of_ble_eq_true rfl) rfl rfl ?_
      refine zP_goto (pc := 96) (tgt := 10) C dX12_readsList_96 rfl ?_
      exact zP_mask [true, true, false] (hr10 (zRk rfl) h)
def j_X12_readsList_35  (r10 : Int → zD → Option (Int × zD)) (x2 : Int) (d : zD) : Option (Int × zD) :=
  zc (f_X12_isGood   d) fun v36 d =>
  if (v36 : Int) = 0 then (
    j_X12_readsList_71  r10  d)
  else (
    zg 800 1 <| zl (d 401 (1 : Int).toNat) fun v53 =>
    zl (zw (30 + v53)) fun v54 =>
    zg 800 v54 <| zl (zu d 401 (v54 : Int).toNat x2) fun d =>
    zg 800 1 <| zl (d 401 (1 : Int).toNat) fun v67 =>
    zl (zw (v67 + 1)) fun v69 =>
    zg 800 1 <| zl (zu d 401 (1 : Int).toNat v69) fun d =>
    j_X12_readsList_71  r10  d)
theorem wj_X12_readsList_35 {V : zW} {X : zX}  (hT : zo12 V) (C : zOk V X cX12_readsList RX12 3 (zrm 10) none) {rv : Int} {dz : zD} (E : zEnd V X none (rv = 0) dz) {r10 : Int → zD → Option (Int × zD)} (hr10 : ∀ {x1 : Int} {d : zD}, zR x1 → r10 x1 d = some (rv, dz) → zP V X 3 0 0 10 [some (.ref (zad V 400)), some (.int (zI x1)), none] [] d) {x2 : Int} (hx2 : zR x2) {d : zD} (h : j_X12_readsList_35  r10 x2 d = some (rv, dz)) : zP V X 3 0 0 35 [some (.ref (zad V 400)), none, some (.int (zI x2))] [] d := by
  refine zP_aload_n (pc := 35) C (x := zad V 400) dX12_readsList_35 rfl rfl ?_
  obtain ⟨v36, d1, hc, h⟩ := zc_h h
  refine zP_callV (pc := 36) (As := []) (st := []) C m12_204 dX12_readsList_36 (s_X12 hT) rfl (t_X12_isGood hT  hc) ⟨Nat.le_of_ble_eq_true rfl, Nat.le_of_ble_eq_true rfl⟩ rfl (Nat.le_of_ble_eq_true rfl) ⟨Nat.zero_le _, Nat.zero_le _⟩ fun hw => ?_
  have hbv36 := hw
  have hv36 := z01 hw
  clear hc hw
  show zP V X 3 0 0 39 _ [.int (zI v36)] d1
  revert h
  generalize d1 = d
  intro h
  refine zP_if_eq (pc := 39) (tgt := 71) C dX12_readsList_39 rfl hv36 h (fun _ h => ?_) (fun _ h => ?_)
  · exact zP_mask [true, false, false] (wj_X12_readsList_71 hT C E hr10  h)
  · refine zP_aload_n (pc := 42) C (x := zad V 400) dX12_readsList_42 rfl rfl ?_
    refine zP_getR (pc := 43) (a := 400) (t := 401) C g12_13 dX12_readsList_43 (s_X12 hT) rfl ?_
    refine zP_bipush (pc := 46) C dX12_readsList_46 rfl ?_
    refine zP_aload_n (pc := 48) C (x := zad V 400) dX12_readsList_48 rfl rfl ?_
    refine zP_getR (pc := 49) (a := 400) (t := 401) C g12_13 dX12_readsList_49 (s_X12 hT) rfl ?_
    refine zP_iconst (pc := 52) C dX12_readsList_52 ?_
    refine zP_iald (pc := 53) (a := 401) C dX12_readsList_53 (s_X12_s hT) (zRk rfl) h fun v53 hv53 h => ?_
    refine zP_iadd (pc := 54) C dX12_readsList_54 h fun v54 hv54 h => ?_
    refine zP_iload_n (pc := 55) C (x := zI x2) dX12_readsList_55 rfl rfl ?_
    refine zP_iast (pc := 56) (a := 401) C dX12_readsList_56 (s_X12_s hT) hv54 hx2 h fun d h => ?_
    refine zP_aload_n (pc := 57) C (x := zad V 400) dX12_readsList_57 rfl rfl ?_
    refine zP_getR (pc := 58) (a := 400) (t := 401) C g12_13 dX12_readsList_58 (s_X12 hT) rfl ?_
    refine zP_iconst (pc := 61) C dX12_readsList_61 ?_
    refine zP_aload_n (pc := 62) C (x := zad V 400) dX12_readsList_62 rfl rfl ?_
    refine zP_getR (pc := 63) (a := 400) (t := 401) C g12_13 dX12_readsList_63 (s_X12 hT) rfl ?_
    refine zP_iconst (pc := 66) C dX12_readsList_66 ?_
    refine zP_iald (pc := 67) (a := 401) C dX12_readsList_67 (s_X12_s hT) (zRk rfl) h fun v67 hv67 h => ?_
    refine zP_iconst (pc := 68) C dX12_readsList_68 ?_
    refine zP_iadd (pc := 69) C dX12_readsList_69 h fun v69 hv69 h => ?_
    refine zP_iast (pc := 70) (a := 401) C dX12_readsList_70 (s_X12_s hT) (zRk rfl) hv69 h fun d h => ?_
    exact zP_mask [true, false, false] (wj_X12_readsList_71 hT C E hr10  h)
def l_X12_readsList_10F  (r10 : Int → zD → Option (Int × zD)) (x1 : Int) (d : zD) : Option (Int × zD) :=
  if (x1 : Int) = 0 then (
    some (0, d))
  else (
    zc (f_X12_terminalHere   d) fun v15 d =>
    zg 800 1 <| zl (d 401 (1 : Int).toNat) fun v24 =>
    if (v24 : Int) = 16 then (
      zc (f_X12_errs  5 d) fun _ d =>
      j_X12_readsList_35  r10 v15 d)
    else (
      j_X12_readsList_35  r10 v15 d))
theorem wl_X12_readsList_10F {V : zW} {X : zX}  (hT : zo12 V) (C : zOk V X cX12_readsList RX12 3 (zrm 10) none) {rv : Int} {dz : zD} (E : zEnd V X none (rv = 0) dz) {r10 : Int → zD → Option (Int × zD)} (hr10 : ∀ {x1 : Int} {d : zD}, zR x1 → r10 x1 d = some (rv, dz) → zP V X 3 0 0 10 [some (.ref (zad V 400)), some (.int (zI x1)), none] [] d) {x1 : Int} (hx1 : zR x1) {d : zD} (h : l_X12_readsList_10F  r10 x1 d = some (rv, dz)) : zP V X 3 0 0 10 [some (.ref (zad V 400)), some (.int (zI x1)), none] [] d := by
  refine zP_iload_n (pc := 10) C (x := zI x1) dX12_readsList_10 rfl rfl ?_
  refine zP_if_eq (pc := 11) (tgt := 99) C dX12_readsList_11 rfl hx1 h (fun _ h => ?_) (fun _ h => ?_)
  · exact zP_vret (pc := 99) C E dX12_readsList_99 h
  · refine zP_aload_n (pc := 14) C (x := zad V 400) dX12_readsList_14 rfl rfl ?_
    obtain ⟨v15, d1, hc, h⟩ := zc_h h
    refine zP_callV (pc := 15) (As := []) (st := []) C m12_241 dX12_readsList_15 (s_X12 hT) rfl (t_X12_terminalHere hT  hc) ⟨Nat.le_of_ble_eq_true rfl, Nat.le_of_ble_eq_true rfl⟩ rfl (Nat.le_of_ble_eq_true rfl) ⟨Nat.zero_le _, Nat.zero_le _⟩ fun hw => ?_
    have hv15 := hw
    clear hc hw
    show zP V X 3 0 0 18 _ [.int (zI v15)] d1
    revert h
    generalize d1 = d
    intro h
    refine zP_istore_n (pc := 18) C (L' := [some (.ref (zad V 400)), some (.int (zI x1)), some (.int (zI v15))]) dX12_readsList_18 rfl (Nat.le_of_ble_eq_true rfl) rfl rfl ?_
    refine zP_aload_n (pc := 19) C (x := zad V 400) dX12_readsList_19 rfl rfl ?_
    refine zP_getR (pc := 20) (a := 400) (t := 401) C g12_13 dX12_readsList_20 (s_X12 hT) rfl ?_
    refine zP_iconst (pc := 23) C dX12_readsList_23 ?_
    refine zP_iald (pc := 24) (a := 401) C dX12_readsList_24 (s_X12_s hT) (zRk rfl) h fun v24 hv24 h => ?_
    refine zP_bipush (pc := 25) C dX12_readsList_25 rfl ?_
    refine zP_icmp_ne (pc := 27) (tgt := 35) C dX12_readsList_27 rfl hv24 (zRk rfl) h (fun _ h => ?_) (fun _ h => ?_)
    · exact zP_mask [true, false, true] (wj_X12_readsList_35 hT C E hr10 hv15 h)
    · refine zP_aload_n (pc := 30) C (x := zad V 400) dX12_readsList_30 rfl rfl ?_
      refine zP_iconst (pc := 31) C dX12_readsList_31 ?_
      obtain ⟨_, d1, hc, h⟩ := zc_h h
      refine zP_callV (pc := 32) (As := [.int (zI 5)]) (st := []) C m12_221 dX12_readsList_32 (s_X12 hT) rfl (t_X12_errs hT (zRk rfl) hc) ⟨Nat.le_of_ble_eq_true rfl, Nat.le_of_ble_eq_true rfl⟩ rfl (Nat.le_of_ble_eq_true rfl) ⟨Nat.zero_le _, Nat.zero_le _⟩ fun hw => ?_
      clear hc hw
      show zP V X 3 0 0 35 _ [] d1
      revert h
      generalize d1 = d
      intro h
      exact zP_mask [true, false, true] (wj_X12_readsList_35 hT C E hr10 hv15 h)
def l_X12_readsList_10   : Nat → Int → zD → Option (Int × zD)
  | 0, _, _ => none
  | q + 1, x1, d => l_X12_readsList_10F   (l_X12_readsList_10   q) x1 d
theorem wl_X12_readsList_10 {V : zW} {X : zX}  (hT : zo12 V) (C : zOk V X cX12_readsList RX12 3 (zrm 10) none) {rv : Int} {dz : zD} (E : zEnd V X none (rv = 0) dz)  : ∀ (q : Nat) {x1 : Int} (hx1 : zR x1) {d : zD} (h : l_X12_readsList_10   q x1 d = some (rv, dz)), zP V X 3 0 0 10 [some (.ref (zad V 400)), some (.int (zI x1)), none] [] d := by
  intro q
  induction q with
  | zero => intro x1 hx1 d h; cases (show (none : Option (Int × zD)) = some (rv, dz) from h)
  | succ q ih =>
    intro x1 hx1 d h
    exact wl_X12_readsList_10F hT C E  (fun  hx1 h => ih hx1 h) hx1 h
def f_X12_readsList  (d : zD) : Option (Int × zD) :=
  zc (f_X12_once  0 d) fun _ d =>
  zc (f_X12_isGood   d) fun v6 d =>
  l_X12_readsList_10   zF v6 d
theorem t_X12_readsList {V : zW}  (hT : zo12 V)   {d dz : zD} {rv : Int} (h : f_X12_readsList   d = some (rv, dz)) : zMet V 10 yX12_readsList cX12_readsList 3 none [.ref (zad V 400)] d none (rv = 0) dz := by
  refine zMet_by RX12 pn12 rfl (Nat.le_of_ble_eq_true rfl) [some (.ref (zad V 400)), none, none] rfl fun X C E => ?_
  refine zP_aload_n (pc := 0) C (x := zad V 400) dX12_readsList_0 rfl rfl ?_
  refine zP_iconst (pc := 1) C dX12_readsList_1 ?_
  obtain ⟨_, d1, hc, h⟩ := zc_h h
  refine zP_callV (pc := 2) (As := [.int (zI 0)]) (st := []) C m12_257 dX12_readsList_2 (s_X12 hT) rfl (t_X12_once hT (zRk rfl) hc) ⟨Nat.le_of_ble_eq_true rfl, Nat.le_of_ble_eq_true rfl⟩ rfl (Nat.le_of_ble_eq_true rfl) ⟨Nat.zero_le _, Nat.zero_le _⟩ fun hw => ?_
  clear hc hw
  show zP V X 3 0 0 5 _ [] d1
  revert h
  generalize d1 = d
  intro h
  refine zP_aload_n (pc := 5) C (x := zad V 400) dX12_readsList_5 rfl rfl ?_
  obtain ⟨v6, d1, hc, h⟩ := zc_h h
  refine zP_callV (pc := 6) (As := []) (st := []) C m12_204 dX12_readsList_6 (s_X12 hT) rfl (t_X12_isGood hT  hc) ⟨Nat.le_of_ble_eq_true rfl, Nat.le_of_ble_eq_true rfl⟩ rfl (Nat.le_of_ble_eq_true rfl) ⟨Nat.zero_le _, Nat.zero_le _⟩ fun hw => ?_
  have hbv6 := hw
  have hv6 := z01 hw
  clear hc hw
  show zP V X 3 0 0 9 _ [.int (zI v6)] d1
  revert h
  generalize d1 = d
  intro h
  refine zP_istore_n (pc := 9) C (L' := [some (.ref (zad V 400)), some (.int (zI v6)), none]) dX12_readsList_9 rfl (Nat.le_of_ble_eq_true rfl) rfl rfl ?_
  exact zP_mask [true, true, false] (wl_X12_readsList_10 hT C E  zF hv6 h)
def l_X12_readsSettings_2F  (r2 : Int → Int → zD → Option (Int × zD)) (x2 x3 : Int) (d : zD) : Option (Int × zD) :=
  if (x2 : Int) ≤ x3 then (
    some (0, d))
  else (
    zl (zw (6 + x3)) fun v14 =>
    zc (f_X12_least  x3 d) fun v17 d =>
    zc (f_X12_greatest  x3 d) fun v21 d =>
    zc (f_X12_number  v17 v21 d) fun v24 d =>
    zg 800 v14 <| zl (zu d 401 (v14 : Int).toNat v24) fun d =>
    zl (zw (x3 + 1)) fun v28 =>
    r2 x2 v28 d)
theorem wl_X12_readsSettings_2F {V : zW} {X : zX}  (hT : zo12 V) (C : zOk V X cX12_readsSettings RX12 4 (zrm 4) none) {rv : Int} {dz : zD} (E : zEnd V X none (rv = 0) dz) {r2 : Int → Int → zD → Option (Int × zD)} (hr2 : ∀ {x2 x3 : Int} {d : zD}, zR x2 → zR x3 → r2 x2 x3 d = some (rv, dz) → zP V X 4 0 0 2 [some (.ref (zad V 400)), none, some (.int (zI x2)), some (.int (zI x3))] [] d) {x2 x3 : Int} (hx2 : zR x2) (hx3 : zR x3) {d : zD} (h : l_X12_readsSettings_2F  r2 x2 x3 d = some (rv, dz)) : zP V X 4 0 0 2 [some (.ref (zad V 400)), none, some (.int (zI x2)), some (.int (zI x3))] [] d := by
  refine zP_iload_n (pc := 2) C (x := zI x3) dX12_readsSettings_2 rfl rfl ?_
  refine zP_iload_n (pc := 3) C (x := zI x2) dX12_readsSettings_3 rfl rfl ?_
  refine zP_icmp_ge (pc := 4) (tgt := 34) C dX12_readsSettings_4 rfl hx3 hx2 h (fun _ h => ?_) (fun _ h => ?_)
  · exact zP_vret (pc := 34) C E dX12_readsSettings_34 h
  · refine zP_aload_n (pc := 7) C (x := zad V 400) dX12_readsSettings_7 rfl rfl ?_
    refine zP_getR (pc := 8) (a := 400) (t := 401) C g12_13 dX12_readsSettings_8 (s_X12 hT) rfl ?_
    refine zP_bipush (pc := 11) C dX12_readsSettings_11 rfl ?_
    refine zP_iload_n (pc := 13) C (x := zI x3) dX12_readsSettings_13 rfl rfl ?_
    refine zP_iadd (pc := 14) C dX12_readsSettings_14 h fun v14 hv14 h => ?_
    refine zP_aload_n (pc := 15) C (x := zad V 400) dX12_readsSettings_15 rfl rfl ?_
    refine zP_iload_n (pc := 16) C (x := zI x3) dX12_readsSettings_16 rfl rfl ?_
    obtain ⟨v17, d1, hc, h⟩ := zc_h h
    refine zP_callS (pc := 17) (As := [.int (zI x3)]) (st := [.ref (zad V 400), .int (zI v14), .ref (zad V 401)]) C m12_260 dX12_readsSettings_17 (t_X12_least  hx3 hc) ⟨Nat.le_of_ble_eq_true rfl, Nat.le_of_ble_eq_true rfl⟩ rfl (Nat.le_of_ble_eq_true rfl) ⟨Nat.zero_le _, Nat.zero_le _⟩ fun hw => ?_
    have hv17 := hw
    clear hc hw
    show zP V X 4 0 0 20 _ [.int (zI v17), .ref (zad V 400), .int (zI v14), .ref (zad V 401)] d1
    revert h
    generalize d1 = d
    intro h
    refine zP_iload_n (pc := 20) C (x := zI x3) dX12_readsSettings_20 rfl rfl ?_
    obtain ⟨v21, d1, hc, h⟩ := zc_h h
    refine zP_callS (pc := 21) (As := [.int (zI x3)]) (st := [.int (zI v17), .ref (zad V 400), .int (zI v14), .ref (zad V 401)]) C m12_263 dX12_readsSettings_21 (t_X12_greatest  hx3 hc) ⟨Nat.le_of_ble_eq_true rfl, Nat.le_of_ble_eq_true rfl⟩ rfl (Nat.le_of_ble_eq_true rfl) ⟨Nat.zero_le _, Nat.zero_le _⟩ fun hw => ?_
    have hv21 := hw
    clear hc hw
    show zP V X 4 0 0 24 _ [.int (zI v21), .int (zI v17), .ref (zad V 400), .int (zI v14), .ref (zad V 401)] d1
    revert h
    generalize d1 = d
    intro h
    obtain ⟨v24, d1, hc, h⟩ := zc_h h
    refine zP_callV (pc := 24) (As := [.int (zI v17), .int (zI v21)]) (st := [.int (zI v14), .ref (zad V 401)]) C m12_230 dX12_readsSettings_24 (s_X12 hT) rfl (t_X12_number hT hv17 hv21 hc) ⟨Nat.le_of_ble_eq_true rfl, Nat.le_of_ble_eq_true rfl⟩ rfl (Nat.le_of_ble_eq_true rfl) ⟨Nat.zero_le _, Nat.zero_le _⟩ fun hw => ?_
    have hv24 := hw
    clear hc hw
    show zP V X 4 0 0 27 _ [.int (zI v24), .int (zI v14), .ref (zad V 401)] d1
    revert h
    generalize d1 = d
    intro h
    refine zP_iast (pc := 27) (a := 401) C dX12_readsSettings_27 (s_X12_s hT) hv14 hv24 h fun d h => ?_
    refine zP_iinc (pc := 28) C (x := x3) dX12_readsSettings_28 rfl (Nat.le_of_ble_eq_true rfl) rfl h fun v28 hv28 h => ?_
    show zP V X 4 0 0 31 [some (.ref (zad V 400)), none, some (.int (zI x2)), some (.int (zI v28))] _ _
    refine zP_goto (pc := 31) (tgt := 2) C dX12_readsSettings_31 rfl ?_
    exact zP_mask [true, false, true, true] (hr2 hx2 hv28 h)
def l_X12_readsSettings_2   : Nat → Int → Int → zD → Option (Int × zD)
  | 0, _, _, _ => none
  | q + 1, x2, x3, d => l_X12_readsSettings_2F   (l_X12_readsSettings_2   q) x2 x3 d
theorem wl_X12_readsSettings_2 {V : zW} {X : zX}  (hT : zo12 V) (C : zOk V X cX12_readsSettings RX12 4 (zrm 4) none) {rv : Int} {dz : zD} (E : zEnd V X none (rv = 0) dz)  : ∀ (q : Nat) {x2 x3 : Int} (hx2 : zR x2) (hx3 : zR x3) {d : zD} (h : l_X12_readsSettings_2   q x2 x3 d = some (rv, dz)), zP V X 4 0 0 2 [some (.ref (zad V 400)), none, some (.int (zI x2)), some (.int (zI x3))] [] d := by
  intro q
  induction q with
  | zero => intro x2 x3 hx2 hx3 d h; cases (show (none : Option (Int × zD)) = some (rv, dz) from h)
  | succ q ih =>
    intro x2 x3 hx2 hx3 d h
    exact wl_X12_readsSettings_2F hT C E  (fun  hx2 hx3 h => ih hx2 hx3 h) hx2 hx3 h
def f_X12_readsSettings  (x1 x2 : Int) (d : zD) : Option (Int × zD) :=
  l_X12_readsSettings_2   zF x2 x1 d
theorem t_X12_readsSettings {V : zW}  (hT : zo12 V) {x1 x2 : Int} (hx1 : zR x1) (hx2 : zR x2) {d dz : zD} {rv : Int} (h : f_X12_readsSettings  x1 x2 d = some (rv, dz)) : zMet V 4 yX12_readsSettings cX12_readsSettings 4 none [.ref (zad V 400), .int (zI x1), .int (zI x2)] d none (rv = 0) dz := by
  refine zMet_by RX12 pn12 rfl (Nat.le_of_ble_eq_true rfl) [some (.ref (zad V 400)), some (.int (zI x1)), some (.int (zI x2)), none] rfl fun X C E => ?_
  refine zP_iload_n (pc := 0) C (x := zI x1) dX12_readsSettings_0 rfl rfl ?_
  refine zP_istore_n (pc := 1) C (L' := [some (.ref (zad V 400)), some (.int (zI x1)), some (.int (zI x2)), some (.int (zI x1))]) dX12_readsSettings_1 rfl (Nat.le_of_ble_eq_true rfl) rfl rfl ?_
  exact zP_mask [true, false, true, true] (wl_X12_readsSettings_2 hT C E  zF hx2 hx1 h)
def j_X12_readsSetupStatement_126   (d : zD) : Option (Int × zD) :=
  zc (f_X12_semicolon   d) fun _ d =>
  some (0, d)
theorem wj_X12_readsSetupStatement_126 {V : zW} {X : zX}  (hT : zo12 V) (C : zOk V X cX12_readsSetupStatement RX12 1 (zrm 11) none) {rv : Int} {dz : zD} (E : zEnd V X none (rv = 0) dz)    {d : zD} (h : j_X12_readsSetupStatement_126    d = some (rv, dz)) : zP V X 1 0 0 126 [some (.ref (zad V 400))] [] d := by
  refine zP_aload_n (pc := 126) C (x := zad V 400) dX12_readsSetupStatement_126 rfl rfl ?_
  obtain ⟨_, d1, hc, h⟩ := zc_h h
  refine zP_callV (pc := 127) (As := []) (st := []) C m12_285 dX12_readsSetupStatement_127 (s_X12 hT) rfl (t_X12_semicolon hT  hc) ⟨Nat.le_of_ble_eq_true rfl, Nat.le_of_ble_eq_true rfl⟩ rfl (Nat.le_of_ble_eq_true rfl) ⟨Nat.zero_le _, Nat.zero_le _⟩ fun hw => ?_
  clear hc hw
  show zP V X 1 0 0 130 _ [] d1
  revert h
  generalize d1 = d
  intro h
  exact zP_vret (pc := 130) C E dX12_readsSetupStatement_130 h
def f_X12_readsSetupStatement  (d : zD) : Option (Int × zD) :=
  zc (f_X12_isWord 21  d) fun v4 d =>
  if (v4 : Int) = 0 then (
    zc (f_X12_isWord 22  d) fun v21 d =>
    if (v21 : Int) = 0 then (
      zc (f_X12_isWord 23  d) fun v38 d =>
      if (v38 : Int) = 0 then (
        zc (f_X12_isWord 24  d) fun v62 d =>
        if (v62 : Int) = 0 then (
          zc (f_X12_isWord 25  d) fun v86 d =>
          if (v86 : Int) = 0 then (
            zc (f_X12_errs  1 d) fun _ d =>
            j_X12_readsSetupStatement_126    d)
          else (
            zc (f_X12_once  3 d) fun _ d =>
            zc (f_X12_readsSettings  5 6 d) fun _ d =>
            zc (f_X12_number  0 9999 d) fun v114 d =>
            zg 800 5 <| zl (zu d 401 (5 : Int).toNat v114) fun d =>
            j_X12_readsSetupStatement_126    d))
        else (
          zc (f_X12_once  2 d) fun _ d =>
          zc (f_X12_readsSettings  4 5 d) fun _ d =>
          j_X12_readsSetupStatement_126    d))
      else (
        zc (f_X12_once  1 d) fun _ d =>
        zc (f_X12_readsSettings  0 4 d) fun _ d =>
        j_X12_readsSetupStatement_126    d))
    else (
      zc (f_X12_readsList   d) fun _ d =>
      j_X12_readsSetupStatement_126    d))
  else (
    zc (f_X12_readsTerminal   d) fun _ d =>
    j_X12_readsSetupStatement_126    d)
theorem t_X12_readsSetupStatement {V : zW}  (hT : zo12 V)   {d dz : zD} {rv : Int} (h : f_X12_readsSetupStatement   d = some (rv, dz)) : zMet V 11 yX12_readsSetupStatement cX12_readsSetupStatement 1 none [.ref (zad V 400)] d none (rv = 0) dz := by
  refine zMet_by RX12 pn12 rfl (Nat.le_of_ble_eq_true rfl) [some (.ref (zad V 400))] rfl fun X C E => ?_
  refine zP_aload_n (pc := 0) C (x := zad V 400) dX12_readsSetupStatement_0 rfl rfl ?_
  refine zP_ldcwT (pc := 1) C (i := 21) (Nat.le_of_ble_eq_true rfl) rfl rfl dX12_readsSetupStatement_1 ?_
  obtain ⟨v4, d1, hc, h⟩ := zc_h h
  refine zP_callV (pc := 4) (As := [.ref (zsa V 21)]) (st := []) C m12_217 dX12_readsSetupStatement_4 (s_X12 hT) rfl (t_X12_isWord hT (Nat.le_of_ble_eq_true rfl)  hc) ⟨Nat.le_of_ble_eq_true rfl, Nat.le_of_ble_eq_true rfl⟩ rfl (Nat.le_of_ble_eq_true rfl) ⟨Nat.zero_le _, Nat.zero_le _⟩ fun hw => ?_
  have hbv4 := hw
  have hv4 := z01 hw
  clear hc hw
  show zP V X 1 0 0 7 _ [.int (zI v4)] d1
  revert h
  generalize d1 = d
  intro h
  refine zP_if_eq (pc := 7) (tgt := 17) C dX12_readsSetupStatement_7 rfl hv4 h (fun _ h => ?_) (fun _ h => ?_)
  · refine zP_aload_n (pc := 17) C (x := zad V 400) dX12_readsSetupStatement_17 rfl rfl ?_
    refine zP_ldcwT (pc := 18) C (i := 22) (Nat.le_of_ble_eq_true rfl) rfl rfl dX12_readsSetupStatement_18 ?_
    obtain ⟨v21, d1, hc, h⟩ := zc_h h
    refine zP_callV (pc := 21) (As := [.ref (zsa V 22)]) (st := []) C m12_217 dX12_readsSetupStatement_21 (s_X12 hT) rfl (t_X12_isWord hT (Nat.le_of_ble_eq_true rfl)  hc) ⟨Nat.le_of_ble_eq_true rfl, Nat.le_of_ble_eq_true rfl⟩ rfl (Nat.le_of_ble_eq_true rfl) ⟨Nat.zero_le _, Nat.zero_le _⟩ fun hw => ?_
    have hbv21 := hw
    have hv21 := z01 hw
    clear hc hw
    show zP V X 1 0 0 24 _ [.int (zI v21)] d1
    revert h
    generalize d1 = d
    intro h
    refine zP_if_eq (pc := 24) (tgt := 34) C dX12_readsSetupStatement_24 rfl hv21 h (fun _ h => ?_) (fun _ h => ?_)
    · refine zP_aload_n (pc := 34) C (x := zad V 400) dX12_readsSetupStatement_34 rfl rfl ?_
      refine zP_ldcwT (pc := 35) C (i := 23) (Nat.le_of_ble_eq_true rfl) rfl rfl dX12_readsSetupStatement_35 ?_
      obtain ⟨v38, d1, hc, h⟩ := zc_h h
      refine zP_callV (pc := 38) (As := [.ref (zsa V 23)]) (st := []) C m12_217 dX12_readsSetupStatement_38 (s_X12 hT) rfl (t_X12_isWord hT (Nat.le_of_ble_eq_true rfl)  hc) ⟨Nat.le_of_ble_eq_true rfl, Nat.le_of_ble_eq_true rfl⟩ rfl (Nat.le_of_ble_eq_true rfl) ⟨Nat.zero_le _, Nat.zero_le _⟩ fun hw => ?_
      have hbv38 := hw
      have hv38 := z01 hw
      clear hc hw
      show zP V X 1 0 0 41 _ [.int (zI v38)] d1
      revert h
      generalize d1 = d
      intro h
      refine zP_if_eq (pc := 41) (tgt := 58) C dX12_readsSetupStatement_41 rfl hv38 h (fun _ h => ?_) (fun _ h => ?_)
      · refine zP_aload_n (pc := 58) C (x := zad V 400) dX12_readsSetupStatement_58 rfl rfl ?_
        refine zP_ldcwT (pc := 59) C (i := 24) (Nat.le_of_ble_eq_true rfl) rfl rfl dX12_readsSetupStatement_59 ?_
        obtain ⟨v62, d1, hc, h⟩ := zc_h h
        refine zP_callV (pc := 62) (As := [.ref (zsa V 24)]) (st := []) C m12_217 dX12_readsSetupStatement_62 (s_X12 hT) rfl (t_X12_isWord hT (Nat.le_of_ble_eq_true rfl)  hc) ⟨Nat.le_of_ble_eq_true rfl, Nat.le_of_ble_eq_true rfl⟩ rfl (Nat.le_of_ble_eq_true rfl) ⟨Nat.zero_le _, Nat.zero_le _⟩ fun hw => ?_
        have hbv62 := hw
        have hv62 := z01 hw
        clear hc hw
        show zP V X 1 0 0 65 _ [.int (zI v62)] d1
        revert h
        generalize d1 = d
        intro h
        refine zP_if_eq (pc := 65) (tgt := 82) C dX12_readsSetupStatement_65 rfl hv62 h (fun _ h => ?_) (fun _ h => ?_)
        · refine zP_aload_n (pc := 82) C (x := zad V 400) dX12_readsSetupStatement_82 rfl rfl ?_
          refine zP_ldcwT (pc := 83) C (i := 25) (Nat.le_of_ble_eq_true rfl) rfl rfl dX12_readsSetupStatement_83 ?_
          obtain ⟨v86, d1, hc, h⟩ := zc_h h
          refine zP_callV (pc := 86) (As := [.ref (zsa V 25)]) (st := []) C m12_217 dX12_readsSetupStatement_86 (s_X12 hT) rfl (t_X12_isWord hT (Nat.le_of_ble_eq_true rfl)  hc) ⟨Nat.le_of_ble_eq_true rfl, Nat.le_of_ble_eq_true rfl⟩ rfl (Nat.le_of_ble_eq_true rfl) ⟨Nat.zero_le _, Nat.zero_le _⟩ fun hw => ?_
          have hbv86 := hw
          have hv86 := z01 hw
          clear hc hw
          show zP V X 1 0 0 89 _ [.int (zI v86)] d1
          revert h
          generalize d1 = d
          intro h
          refine zP_if_eq (pc := 89) (tgt := 121) C dX12_readsSetupStatement_89 rfl hv86 h (fun _ h => ?_) (fun _ h => ?_)
          · refine zP_aload_n (pc := 121) C (x := zad V 400) dX12_readsSetupStatement_121 rfl rfl ?_
            refine zP_iconst (pc := 122) C dX12_readsSetupStatement_122 ?_
            obtain ⟨_, d1, hc, h⟩ := zc_h h
            refine zP_callV (pc := 123) (As := [.int (zI 1)]) (st := []) C m12_221 dX12_readsSetupStatement_123 (s_X12 hT) rfl (t_X12_errs hT (zRk rfl) hc) ⟨Nat.le_of_ble_eq_true rfl, Nat.le_of_ble_eq_true rfl⟩ rfl (Nat.le_of_ble_eq_true rfl) ⟨Nat.zero_le _, Nat.zero_le _⟩ fun hw => ?_
            clear hc hw
            show zP V X 1 0 0 126 _ [] d1
            revert h
            generalize d1 = d
            intro h
            exact zP_mask [true] (wj_X12_readsSetupStatement_126 hT C E   h)
          · refine zP_aload_n (pc := 92) C (x := zad V 400) dX12_readsSetupStatement_92 rfl rfl ?_
            refine zP_iconst (pc := 93) C dX12_readsSetupStatement_93 ?_
            obtain ⟨_, d1, hc, h⟩ := zc_h h
            refine zP_callV (pc := 94) (As := [.int (zI 3)]) (st := []) C m12_257 dX12_readsSetupStatement_94 (s_X12 hT) rfl (t_X12_once hT (zRk rfl) hc) ⟨Nat.le_of_ble_eq_true rfl, Nat.le_of_ble_eq_true rfl⟩ rfl (Nat.le_of_ble_eq_true rfl) ⟨Nat.zero_le _, Nat.zero_le _⟩ fun hw => ?_
            clear hc hw
            show zP V X 1 0 0 97 _ [] d1
            revert h
            generalize d1 = d
            intro h
            refine zP_aload_n (pc := 97) C (x := zad V 400) dX12_readsSetupStatement_97 rfl rfl ?_
            refine zP_iconst (pc := 98) C dX12_readsSetupStatement_98 ?_
            refine zP_bipush (pc := 99) C dX12_readsSetupStatement_99 rfl ?_
            obtain ⟨_, d1, hc, h⟩ := zc_h h
            refine zP_callV (pc := 101) (As := [.int (zI 5), .int (zI 6)]) (st := []) C m12_278 dX12_readsSetupStatement_101 (s_X12 hT) rfl (t_X12_readsSettings hT (zRk rfl) (zRk rfl) hc) ⟨Nat.le_of_ble_eq_true rfl, Nat.le_of_ble_eq_true rfl⟩ rfl (Nat.le_of_ble_eq_true rfl) ⟨Nat.zero_le _, Nat.zero_le _⟩ fun hw => ?_
            clear hc hw
            show zP V X 1 0 0 104 _ [] d1
            revert h
            generalize d1 = d
            intro h
            refine zP_aload_n (pc := 104) C (x := zad V 400) dX12_readsSetupStatement_104 rfl rfl ?_
            refine zP_getR (pc := 105) (a := 400) (t := 401) C g12_13 dX12_readsSetupStatement_105 (s_X12 hT) rfl ?_
            refine zP_iconst (pc := 108) C dX12_readsSetupStatement_108 ?_
            refine zP_aload_n (pc := 109) C (x := zad V 400) dX12_readsSetupStatement_109 rfl rfl ?_
            refine zP_iconst (pc := 110) C dX12_readsSetupStatement_110 ?_
            refine zP_sipush (pc := 111) C dX12_readsSetupStatement_111 rfl ?_
            obtain ⟨v114, d1, hc, h⟩ := zc_h h
            refine zP_callV (pc := 114) (As := [.int (zI 0), .int (zI 9999)]) (st := [.int (zI 5), .ref (zad V 401)]) C m12_230 dX12_readsSetupStatement_114 (s_X12 hT) rfl (t_X12_number hT (zRk rfl) (zRk rfl) hc) ⟨Nat.le_of_ble_eq_true rfl, Nat.le_of_ble_eq_true rfl⟩ rfl (Nat.le_of_ble_eq_true rfl) ⟨Nat.zero_le _, Nat.zero_le _⟩ fun hw => ?_
            have hv114 := hw
            clear hc hw
            show zP V X 1 0 0 117 _ [.int (zI v114), .int (zI 5), .ref (zad V 401)] d1
            revert h
            generalize d1 = d
            intro h
            refine zP_iast (pc := 117) (a := 401) C dX12_readsSetupStatement_117 (s_X12_s hT) (zRk rfl) hv114 h fun d h => ?_
            refine zP_goto (pc := 118) (tgt := 126) C dX12_readsSetupStatement_118 rfl ?_
            exact zP_mask [true] (wj_X12_readsSetupStatement_126 hT C E   h)
        · refine zP_aload_n (pc := 68) C (x := zad V 400) dX12_readsSetupStatement_68 rfl rfl ?_
          refine zP_iconst (pc := 69) C dX12_readsSetupStatement_69 ?_
          obtain ⟨_, d1, hc, h⟩ := zc_h h
          refine zP_callV (pc := 70) (As := [.int (zI 2)]) (st := []) C m12_257 dX12_readsSetupStatement_70 (s_X12 hT) rfl (t_X12_once hT (zRk rfl) hc) ⟨Nat.le_of_ble_eq_true rfl, Nat.le_of_ble_eq_true rfl⟩ rfl (Nat.le_of_ble_eq_true rfl) ⟨Nat.zero_le _, Nat.zero_le _⟩ fun hw => ?_
          clear hc hw
          show zP V X 1 0 0 73 _ [] d1
          revert h
          generalize d1 = d
          intro h
          refine zP_aload_n (pc := 73) C (x := zad V 400) dX12_readsSetupStatement_73 rfl rfl ?_
          refine zP_iconst (pc := 74) C dX12_readsSetupStatement_74 ?_
          refine zP_iconst (pc := 75) C dX12_readsSetupStatement_75 ?_
          obtain ⟨_, d1, hc, h⟩ := zc_h h
          refine zP_callV (pc := 76) (As := [.int (zI 4), .int (zI 5)]) (st := []) C m12_278 dX12_readsSetupStatement_76 (s_X12 hT) rfl (t_X12_readsSettings hT (zRk rfl) (zRk rfl) hc) ⟨Nat.le_of_ble_eq_true rfl, Nat.le_of_ble_eq_true rfl⟩ rfl (Nat.le_of_ble_eq_true rfl) ⟨Nat.zero_le _, Nat.zero_le _⟩ fun hw => ?_
          clear hc hw
          show zP V X 1 0 0 79 _ [] d1
          revert h
          generalize d1 = d
          intro h
          refine zP_goto (pc := 79) (tgt := 126) C dX12_readsSetupStatement_79 rfl ?_
          exact zP_mask [true] (wj_X12_readsSetupStatement_126 hT C E   h)
      · refine zP_aload_n (pc := 44) C (x := zad V 400) dX12_readsSetupStatement_44 rfl rfl ?_
        refine zP_iconst (pc := 45) C dX12_readsSetupStatement_45 ?_
        obtain ⟨_, d1, hc, h⟩ := zc_h h
        refine zP_callV (pc := 46) (As := [.int (zI 1)]) (st := []) C m12_257 dX12_readsSetupStatement_46 (s_X12 hT) rfl (t_X12_once hT (zRk rfl) hc) ⟨Nat.le_of_ble_eq_true rfl, Nat.le_of_ble_eq_true rfl⟩ rfl (Nat.le_of_ble_eq_true rfl) ⟨Nat.zero_le _, Nat.zero_le _⟩ fun hw => ?_
        clear hc hw
        show zP V X 1 0 0 49 _ [] d1
        revert h
        generalize d1 = d
        intro h
        refine zP_aload_n (pc := 49) C (x := zad V 400) dX12_readsSetupStatement_49 rfl rfl ?_
        refine zP_iconst (pc := 50) C dX12_readsSetupStatement_50 ?_
        refine zP_iconst (pc := 51) C dX12_readsSetupStatement_51 ?_
        obtain ⟨_, d1, hc, h⟩ := zc_h h
        refine zP_callV (pc := 52) (As := [.int (zI 0), .int (zI 4)]) (st := []) C m12_278 dX12_readsSetupStatement_52 (s_X12 hT) rfl (t_X12_readsSettings hT (zRk rfl) (zRk rfl) hc) ⟨Nat.le_of_ble_eq_true rfl, Nat.le_of_ble_eq_true rfl⟩ rfl (Nat.le_of_ble_eq_true rfl) ⟨Nat.zero_le _, Nat.zero_le _⟩ fun hw => ?_
        clear hc hw
        show zP V X 1 0 0 55 _ [] d1
        revert h
        generalize d1 = d
        intro h
        refine zP_goto (pc := 55) (tgt := 126) C dX12_readsSetupStatement_55 rfl ?_
        exact zP_mask [true] (wj_X12_readsSetupStatement_126 hT C E   h)
    · refine zP_aload_n (pc := 27) C (x := zad V 400) dX12_readsSetupStatement_27 rfl rfl ?_
      obtain ⟨_, d1, hc, h⟩ := zc_h h
      refine zP_callV (pc := 28) (As := []) (st := []) C m12_273 dX12_readsSetupStatement_28 (s_X12 hT) rfl (t_X12_readsList hT  hc) ⟨Nat.le_of_ble_eq_true rfl, Nat.le_of_ble_eq_true rfl⟩ rfl (Nat.le_of_ble_eq_true rfl) ⟨Nat.zero_le _, Nat.zero_le _⟩ fun hw => ?_
      clear hc hw
      show zP V X 1 0 0 31 _ [] d1
      revert h
      generalize d1 = d
      intro h
      refine zP_goto (pc := 31) (tgt := 126) C dX12_readsSetupStatement_31 rfl ?_
      exact zP_mask [true] (wj_X12_readsSetupStatement_126 hT C E   h)
  · refine zP_aload_n (pc := 10) C (x := zad V 400) dX12_readsSetupStatement_10 rfl rfl ?_
    obtain ⟨_, d1, hc, h⟩ := zc_h h
    refine zP_callV (pc := 11) (As := []) (st := []) C m12_268 dX12_readsSetupStatement_11 (s_X12 hT) rfl (t_X12_readsTerminal hT  hc) ⟨Nat.le_of_ble_eq_true rfl, Nat.le_of_ble_eq_true rfl⟩ rfl (Nat.le_of_ble_eq_true rfl) ⟨Nat.zero_le _, Nat.zero_le _⟩ fun hw => ?_
    clear hc hw
    show zP V X 1 0 0 14 _ [] d1
    revert h
    generalize d1 = d
    intro h
    refine zP_goto (pc := 14) (tgt := 126) C dX12_readsSetupStatement_14 rfl ?_
    exact zP_mask [true] (wj_X12_readsSetupStatement_126 hT C E   h)
def j_X12_loadLine_62   (d : zD) : Option (Int × zD) :=
  zl (zu d 400 11 0) fun d =>
  zc (f_X12_isGood   d) fun v68 d =>
  if (v68 : Int) = 0 then (
    zc (f_X12_copies 402 800 401 800 0 0 800 d) fun _ d =>
    some ((-1), d))
  else (
    zl (zu d 400 5 0) fun d =>
    zl (zu d 400 6 0) fun d =>
    zc (f_X12_many   d) fun v103 d =>
    some (v103, d))
theorem wj_X12_loadLine_62 {V : zW} {X : zX}  (hT : zo12 V) (C : zOk V X cX12_loadLine RX12 1 (zrm 12) (some .int)) {rv : Int} {dz : zD} (E : zEnd V X (some (.int (zI rv))) (zR rv) dz)    {d : zD} (h : j_X12_loadLine_62    d = some (rv, dz)) : zP V X 1 0 0 62 [some (.ref (zad V 400))] [] d := by
  refine zP_aload_n (pc := 62) C (x := zad V 400) dX12_loadLine_62 rfl rfl ?_
  refine zP_iconst (pc := 63) C dX12_loadLine_63 ?_
  refine zP_putI (pc := 64) (a := 400) C p12_174 dX12_loadLine_64 (s_X12 hT) rfl (zRk rfl) h fun d h => ?_
  refine zP_aload_n (pc := 67) C (x := zad V 400) dX12_loadLine_67 rfl rfl ?_
  obtain ⟨v68, d1, hc, h⟩ := zc_h h
  refine zP_callV (pc := 68) (As := []) (st := []) C m12_204 dX12_loadLine_68 (s_X12 hT) rfl (t_X12_isGood hT  hc) ⟨Nat.le_of_ble_eq_true rfl, Nat.le_of_ble_eq_true rfl⟩ rfl (Nat.le_of_ble_eq_true rfl) ⟨Nat.zero_le _, Nat.zero_le _⟩ fun hw => ?_
  have hbv68 := hw
  have hv68 := z01 hw
  clear hc hw
  show zP V X 1 0 0 71 _ [.int (zI v68)] d1
  revert h
  generalize d1 = d
  intro h
  refine zP_if_ne (pc := 71) (tgt := 92) C dX12_loadLine_71 rfl hv68 h (fun _ h => ?_) (fun _ h => ?_)
  · refine zP_aload_n (pc := 92) C (x := zad V 400) dX12_loadLine_92 rfl rfl ?_
    refine zP_iconst (pc := 93) C dX12_loadLine_93 ?_
    refine zP_putI (pc := 94) (a := 400) C p12_294 dX12_loadLine_94 (s_X12 hT) rfl (zRk rfl) h fun d h => ?_
    refine zP_aload_n (pc := 97) C (x := zad V 400) dX12_loadLine_97 rfl rfl ?_
    refine zP_iconst (pc := 98) C dX12_loadLine_98 ?_
    refine zP_putZ (pc := 99) (a := 400) C p12_297 dX12_loadLine_99 (s_X12 hT) rfl (Or.inl rfl) h fun d h => ?_
    refine zP_aload_n (pc := 102) C (x := zad V 400) dX12_loadLine_102 rfl rfl ?_
    obtain ⟨v103, d1, hc, h⟩ := zc_h h
    refine zP_callV (pc := 103) (As := []) (st := []) C m12_49 dX12_loadLine_103 (s_X12 hT) rfl (t_X12_many hT  hc) ⟨Nat.le_of_ble_eq_true rfl, Nat.le_of_ble_eq_true rfl⟩ rfl (Nat.le_of_ble_eq_true rfl) ⟨Nat.zero_le _, Nat.zero_le _⟩ fun hw => ?_
    have hv103 := hw
    clear hc hw
    show zP V X 1 0 0 106 _ [.int (zI v103)] d1
    revert h
    generalize d1 = d
    intro h
    exact zP_iret (pc := 106) C E dX12_loadLine_106 hv103 h
  · refine zP_aload_n (pc := 74) C (x := zad V 400) dX12_loadLine_74 rfl rfl ?_
    refine zP_getR (pc := 75) (a := 400) (t := 402) C g12_17 dX12_loadLine_75 (s_X12 hT) rfl ?_
    refine zP_iconst (pc := 78) C dX12_loadLine_78 ?_
    refine zP_aload_n (pc := 79) C (x := zad V 400) dX12_loadLine_79 rfl rfl ?_
    refine zP_getR (pc := 80) (a := 400) (t := 401) C g12_13 dX12_loadLine_80 (s_X12 hT) rfl ?_
    refine zP_iconst (pc := 83) C dX12_loadLine_83 ?_
    refine zP_sipush (pc := 84) C dX12_loadLine_84 rfl ?_
    obtain ⟨_, d1, hc, h⟩ := zc_h h
    refine zP_callS (pc := 87) (As := [.ref (zad V 402), .int (zI 0), .ref (zad V 401), .int (zI 0), .int (zI 800)]) (st := []) C m12_149 dX12_loadLine_87 (t_X12_copies (s_X12_draft hT) (s_X12_s hT) (zRk rfl) (zRk rfl) (zRk rfl) hc) ⟨Nat.le_of_ble_eq_true rfl, Nat.le_of_ble_eq_true rfl⟩ rfl (Nat.le_of_ble_eq_true rfl) ⟨Nat.zero_le _, Nat.zero_le _⟩ fun hw => ?_
    clear hc hw
    show zP V X 1 0 0 90 _ [] d1
    revert h
    generalize d1 = d
    intro h
    refine zP_iconst (pc := 90) C dX12_loadLine_90 ?_
    exact zP_iret (pc := 91) C E dX12_loadLine_91 (zRk rfl) h
def j_X12_loadLine_50   (d : zD) : Option (Int × zD) :=
  zc (f_X12_many   d) fun v51 d =>
  if (v51 : Int) = 0 then (
    zc (f_X12_errs  1 d) fun _ d =>
    j_X12_loadLine_62    d)
  else (
    j_X12_loadLine_62    d)
theorem wj_X12_loadLine_50 {V : zW} {X : zX}  (hT : zo12 V) (C : zOk V X cX12_loadLine RX12 1 (zrm 12) (some .int)) {rv : Int} {dz : zD} (E : zEnd V X (some (.int (zI rv))) (zR rv) dz)    {d : zD} (h : j_X12_loadLine_50    d = some (rv, dz)) : zP V X 1 0 0 50 [some (.ref (zad V 400))] [] d := by
  refine zP_aload_n (pc := 50) C (x := zad V 400) dX12_loadLine_50 rfl rfl ?_
  obtain ⟨v51, d1, hc, h⟩ := zc_h h
  refine zP_callV (pc := 51) (As := []) (st := []) C m12_49 dX12_loadLine_51 (s_X12 hT) rfl (t_X12_many hT  hc) ⟨Nat.le_of_ble_eq_true rfl, Nat.le_of_ble_eq_true rfl⟩ rfl (Nat.le_of_ble_eq_true rfl) ⟨Nat.zero_le _, Nat.zero_le _⟩ fun hw => ?_
  have hv51 := hw
  clear hc hw
  show zP V X 1 0 0 54 _ [.int (zI v51)] d1
  revert h
  generalize d1 = d
  intro h
  refine zP_if_ne (pc := 54) (tgt := 62) C dX12_loadLine_54 rfl hv51 h (fun _ h => ?_) (fun _ h => ?_)
  · exact zP_mask [true] (wj_X12_loadLine_62 hT C E   h)
  · refine zP_aload_n (pc := 57) C (x := zad V 400) dX12_loadLine_57 rfl rfl ?_
    refine zP_iconst (pc := 58) C dX12_loadLine_58 ?_
    obtain ⟨_, d1, hc, h⟩ := zc_h h
    refine zP_callV (pc := 59) (As := [.int (zI 1)]) (st := []) C m12_221 dX12_loadLine_59 (s_X12 hT) rfl (t_X12_errs hT (zRk rfl) hc) ⟨Nat.le_of_ble_eq_true rfl, Nat.le_of_ble_eq_true rfl⟩ rfl (Nat.le_of_ble_eq_true rfl) ⟨Nat.zero_le _, Nat.zero_le _⟩ fun hw => ?_
    clear hc hw
    show zP V X 1 0 0 62 _ [] d1
    revert h
    generalize d1 = d
    intro h
    exact zP_mask [true] (wj_X12_loadLine_62 hT C E   h)
def l_X12_loadLine_29F  (r29 : zD → Option (Int × zD)) (d : zD) : Option (Int × zD) :=
  zc (f_X12_isGood   d) fun v30 d =>
  if (v30 : Int) = 0 then (
    j_X12_loadLine_50    d)
  else (
    zl (d 400 16) fun v37 =>
    if (v37 : Int) = 0 then (
      j_X12_loadLine_50    d)
    else (
      zc (f_X12_readsSetupStatement   d) fun _ d =>
      r29  d))
theorem wl_X12_loadLine_29F {V : zW} {X : zX}  (hT : zo12 V) (C : zOk V X cX12_loadLine RX12 1 (zrm 12) (some .int)) {rv : Int} {dz : zD} (E : zEnd V X (some (.int (zI rv))) (zR rv) dz) {r29 : zD → Option (Int × zD)} (hr29 : ∀ {d : zD}, r29  d = some (rv, dz) → zP V X 1 0 0 29 [some (.ref (zad V 400))] [] d)   {d : zD} (h : l_X12_loadLine_29F  r29  d = some (rv, dz)) : zP V X 1 0 0 29 [some (.ref (zad V 400))] [] d := by
  refine zP_aload_n (pc := 29) C (x := zad V 400) dX12_loadLine_29 rfl rfl ?_
  obtain ⟨v30, d1, hc, h⟩ := zc_h h
  refine zP_callV (pc := 30) (As := []) (st := []) C m12_204 dX12_loadLine_30 (s_X12 hT) rfl (t_X12_isGood hT  hc) ⟨Nat.le_of_ble_eq_true rfl, Nat.le_of_ble_eq_true rfl⟩ rfl (Nat.le_of_ble_eq_true rfl) ⟨Nat.zero_le _, Nat.zero_le _⟩ fun hw => ?_
  have hbv30 := hw
  have hv30 := z01 hw
  clear hc hw
  show zP V X 1 0 0 33 _ [.int (zI v30)] d1
  revert h
  generalize d1 = d
  intro h
  refine zP_if_eq (pc := 33) (tgt := 50) C dX12_loadLine_33 rfl hv30 h (fun _ h => ?_) (fun _ h => ?_)
  · exact zP_mask [true] (wj_X12_loadLine_50 hT C E   h)
  · refine zP_aload_n (pc := 36) C (x := zad V 400) dX12_loadLine_36 rfl rfl ?_
    refine zP_getI (pc := 37) (a := 400) C g12_198 dX12_loadLine_37 (s_X12 hT) rfl h fun v37 hv37 h => ?_
    refine zP_if_eq (pc := 40) (tgt := 50) C dX12_loadLine_40 rfl hv37 h (fun _ h => ?_) (fun _ h => ?_)
    · exact zP_mask [true] (wj_X12_loadLine_50 hT C E   h)
    · refine zP_aload_n (pc := 43) C (x := zad V 400) dX12_loadLine_43 rfl rfl ?_
      obtain ⟨_, d1, hc, h⟩ := zc_h h
      refine zP_callV (pc := 44) (As := []) (st := []) C m12_291 dX12_loadLine_44 (s_X12 hT) rfl (t_X12_readsSetupStatement hT  hc) ⟨Nat.le_of_ble_eq_true rfl, Nat.le_of_ble_eq_true rfl⟩ rfl (Nat.le_of_ble_eq_true rfl) ⟨Nat.zero_le _, Nat.zero_le _⟩ fun hw => ?_
      clear hc hw
      show zP V X 1 0 0 47 _ [] d1
      revert h
      generalize d1 = d
      intro h
      refine zP_goto (pc := 47) (tgt := 29) C dX12_loadLine_47 rfl ?_
      exact zP_mask [true] (hr29  h)
def l_X12_loadLine_29   : Nat → zD → Option (Int × zD)
  | 0, _ => none
  | q + 1, d => l_X12_loadLine_29F   (l_X12_loadLine_29   q)  d
theorem wl_X12_loadLine_29 {V : zW} {X : zX}  (hT : zo12 V) (C : zOk V X cX12_loadLine RX12 1 (zrm 12) (some .int)) {rv : Int} {dz : zD} (E : zEnd V X (some (.int (zI rv))) (zR rv) dz)  : ∀ (q : Nat)   {d : zD} (h : l_X12_loadLine_29   q  d = some (rv, dz)), zP V X 1 0 0 29 [some (.ref (zad V 400))] [] d := by
  intro q
  induction q with
  | zero => intro   d h; cases (show (none : Option (Int × zD)) = some (rv, dz) from h)
  | succ q ih =>
    intro   d h
    exact wl_X12_loadLine_29F hT C E  (fun   h => ih  h)  h
def f_X12_loadLine  (d : zD) : Option (Int × zD) :=
  zc (f_X12_copies 401 800 402 800 0 0 800 d) fun _ d =>
  zc (f_X12_begins   d) fun _ d =>
  zl (zu d 400 19 0) fun d =>
  zc (f_X12_startsText   d) fun _ d =>
  l_X12_loadLine_29   zF  d
theorem t_X12_loadLine {V : zW}  (hT : zo12 V)   {d dz : zD} {rv : Int} (h : f_X12_loadLine   d = some (rv, dz)) : zMet V 12 yX12_loadLine cX12_loadLine 1 (some .int) [.ref (zad V 400)] d (some (.int (zI rv))) (zR rv) dz := by
  refine zMet_by RX12 pn12 rfl (Nat.le_of_ble_eq_true rfl) [some (.ref (zad V 400))] rfl fun X C E => ?_
  refine zP_aload_n (pc := 0) C (x := zad V 400) dX12_loadLine_0 rfl rfl ?_
  refine zP_getR (pc := 1) (a := 400) (t := 401) C g12_13 dX12_loadLine_1 (s_X12 hT) rfl ?_
  refine zP_iconst (pc := 4) C dX12_loadLine_4 ?_
  refine zP_aload_n (pc := 5) C (x := zad V 400) dX12_loadLine_5 rfl rfl ?_
  refine zP_getR (pc := 6) (a := 400) (t := 402) C g12_17 dX12_loadLine_6 (s_X12 hT) rfl ?_
  refine zP_iconst (pc := 9) C dX12_loadLine_9 ?_
  refine zP_sipush (pc := 10) C dX12_loadLine_10 rfl ?_
  obtain ⟨_, d1, hc, h⟩ := zc_h h
  refine zP_callS (pc := 13) (As := [.ref (zad V 401), .int (zI 0), .ref (zad V 402), .int (zI 0), .int (zI 800)]) (st := []) C m12_149 dX12_loadLine_13 (t_X12_copies (s_X12_s hT) (s_X12_draft hT) (zRk rfl) (zRk rfl) (zRk rfl) hc) ⟨Nat.le_of_ble_eq_true rfl, Nat.le_of_ble_eq_true rfl⟩ rfl (Nat.le_of_ble_eq_true rfl) ⟨Nat.zero_le _, Nat.zero_le _⟩ fun hw => ?_
  clear hc hw
  show zP V X 1 0 0 16 _ [] d1
  revert h
  generalize d1 = d
  intro h
  refine zP_aload_n (pc := 16) C (x := zad V 400) dX12_loadLine_16 rfl rfl ?_
  obtain ⟨_, d1, hc, h⟩ := zc_h h
  refine zP_callV (pc := 17) (As := []) (st := []) C m12_42 dX12_loadLine_17 (s_X12 hT) rfl (t_X12_begins hT  hc) ⟨Nat.le_of_ble_eq_true rfl, Nat.le_of_ble_eq_true rfl⟩ rfl (Nat.le_of_ble_eq_true rfl) ⟨Nat.zero_le _, Nat.zero_le _⟩ fun hw => ?_
  clear hc hw
  show zP V X 1 0 0 20 _ [] d1
  revert h
  generalize d1 = d
  intro h
  refine zP_aload_n (pc := 20) C (x := zad V 400) dX12_loadLine_20 rfl rfl ?_
  refine zP_iconst (pc := 21) C dX12_loadLine_21 ?_
  refine zP_putI (pc := 22) (a := 400) C p12_244 dX12_loadLine_22 (s_X12 hT) rfl (zRk rfl) h fun d h => ?_
  refine zP_aload_n (pc := 25) C (x := zad V 400) dX12_loadLine_25 rfl rfl ?_
  obtain ⟨_, d1, hc, h⟩ := zc_h h
  refine zP_callV (pc := 26) (As := []) (st := []) C m12_288 dX12_loadLine_26 (s_X12 hT) rfl (t_X12_startsText hT  hc) ⟨Nat.le_of_ble_eq_true rfl, Nat.le_of_ble_eq_true rfl⟩ rfl (Nat.le_of_ble_eq_true rfl) ⟨Nat.zero_le _, Nat.zero_le _⟩ fun hw => ?_
  clear hc hw
  show zP V X 1 0 0 29 _ [] d1
  revert h
  generalize d1 = d
  intro h
  exact zP_mask [true] (wl_X12_loadLine_29 hT C E  zF  h)
def f_X12_adds  (x1 x2 x3 x4 : Int) (d : zD) : Option (Int × zD) :=
  zc (f_X12_isGood   d) fun v1 d =>
  if (v1 : Int) = 0 then (
    some (0, d))
  else (
    zl (d 400 21) fun v10 =>
    zl (zw (4 * v10)) fun v13 =>
    zg 120 v13 <| zl (zu d 406 (v13 : Int).toNat x1) fun d =>
    zl (zw (v13 + 1)) fun v31 =>
    zg 120 v31 <| zl (zu d 406 (v31 : Int).toNat x2) fun d =>
    zl (zw (v13 + 2)) fun v41 =>
    zg 120 v41 <| zl (zu d 406 (v41 : Int).toNat x3) fun d =>
    zl (zw (v13 + 3)) fun v51 =>
    zg 120 v51 <| zl (zu d 406 (v51 : Int).toNat x4) fun d =>
    zl (d 400 21) fun v57 =>
    zl (zw (v57 + 1)) fun v61 =>
    zl (zu d 400 21 v61) fun d =>
    some (0, d))
theorem t_X12_adds {V : zW}  (hT : zo12 V) {x1 x2 x3 x4 : Int} (hx1 : zR x1) (hx2 : zR x2) (hx3 : zR x3) (hx4 : zR x4) {d dz : zD} {rv : Int} (h : f_X12_adds  x1 x2 x3 x4 d = some (rv, dz)) : zMet V 1 yX12_adds cX12_adds 6 none [.ref (zad V 400), .int (zI x1), .int (zI x2), .int (zI x3), .int (zI x4)] d none (rv = 0) dz := by
  refine zMet_by RX12 pn12 rfl (Nat.le_of_ble_eq_true rfl) [some (.ref (zad V 400)), some (.int (zI x1)), some (.int (zI x2)), some (.int (zI x3)), some (.int (zI x4)), none] rfl fun X C E => ?_
  refine zP_aload_n (pc := 0) C (x := zad V 400) dX12_adds_0 rfl rfl ?_
  obtain ⟨v1, d1, hc, h⟩ := zc_h h
  refine zP_callV (pc := 1) (As := []) (st := []) C m12_204 dX12_adds_1 (s_X12 hT) rfl (t_X12_isGood hT  hc) ⟨Nat.le_of_ble_eq_true rfl, Nat.le_of_ble_eq_true rfl⟩ rfl (Nat.le_of_ble_eq_true rfl) ⟨Nat.zero_le _, Nat.zero_le _⟩ fun hw => ?_
  have hbv1 := hw
  have hv1 := z01 hw
  clear hc hw
  show zP V X 6 0 0 4 _ [.int (zI v1)] d1
  revert h
  generalize d1 = d
  intro h
  refine zP_if_ne (pc := 4) (tgt := 8) C dX12_adds_4 rfl hv1 h (fun _ h => ?_) (fun _ h => ?_)
  · refine zP_iconst (pc := 8) C dX12_adds_8 ?_
    refine zP_aload_n (pc := 9) C (x := zad V 400) dX12_adds_9 rfl rfl ?_
    refine zP_getI (pc := 10) (a := 400) C g12_301 dX12_adds_10 (s_X12 hT) rfl h fun v10 hv10 h => ?_
    refine zP_imul (pc := 13) C dX12_adds_13 h fun v13 hv13 h => ?_
    refine zP_istore (pc := 14) C (L' := [some (.ref (zad V 400)), some (.int (zI x1)), some (.int (zI x2)), some (.int (zI x3)), some (.int (zI x4)), some (.int (zI v13))]) dX12_adds_14 (Nat.le_of_ble_eq_true rfl) rfl rfl ?_
    refine zP_aload_n (pc := 16) C (x := zad V 400) dX12_adds_16 rfl rfl ?_
    refine zP_getR (pc := 17) (a := 400) (t := 406) C g12_33 dX12_adds_17 (s_X12 hT) rfl ?_
    refine zP_iload (pc := 20) C (x := zI v13) dX12_adds_20 rfl ?_
    refine zP_iload_n (pc := 22) C (x := zI x1) dX12_adds_22 rfl rfl ?_
    refine zP_iast (pc := 23) (a := 406) C dX12_adds_23 (s_X12_statement hT) hv13 hx1 h fun d h => ?_
    refine zP_aload_n (pc := 24) C (x := zad V 400) dX12_adds_24 rfl rfl ?_
    refine zP_getR (pc := 25) (a := 400) (t := 406) C g12_33 dX12_adds_25 (s_X12 hT) rfl ?_
    refine zP_iload (pc := 28) C (x := zI v13) dX12_adds_28 rfl ?_
    refine zP_iconst (pc := 30) C dX12_adds_30 ?_
    refine zP_iadd (pc := 31) C dX12_adds_31 h fun v31 hv31 h => ?_
    refine zP_iload_n (pc := 32) C (x := zI x2) dX12_adds_32 rfl rfl ?_
    refine zP_iast (pc := 33) (a := 406) C dX12_adds_33 (s_X12_statement hT) hv31 hx2 h fun d h => ?_
    refine zP_aload_n (pc := 34) C (x := zad V 400) dX12_adds_34 rfl rfl ?_
    refine zP_getR (pc := 35) (a := 400) (t := 406) C g12_33 dX12_adds_35 (s_X12 hT) rfl ?_
    refine zP_iload (pc := 38) C (x := zI v13) dX12_adds_38 rfl ?_
    refine zP_iconst (pc := 40) C dX12_adds_40 ?_
    refine zP_iadd (pc := 41) C dX12_adds_41 h fun v41 hv41 h => ?_
    refine zP_iload_n (pc := 42) C (x := zI x3) dX12_adds_42 rfl rfl ?_
    refine zP_iast (pc := 43) (a := 406) C dX12_adds_43 (s_X12_statement hT) hv41 hx3 h fun d h => ?_
    refine zP_aload_n (pc := 44) C (x := zad V 400) dX12_adds_44 rfl rfl ?_
    refine zP_getR (pc := 45) (a := 400) (t := 406) C g12_33 dX12_adds_45 (s_X12 hT) rfl ?_
    refine zP_iload (pc := 48) C (x := zI v13) dX12_adds_48 rfl ?_
    refine zP_iconst (pc := 50) C dX12_adds_50 ?_
    refine zP_iadd (pc := 51) C dX12_adds_51 h fun v51 hv51 h => ?_
    refine zP_iload (pc := 52) C (x := zI x4) dX12_adds_52 rfl ?_
    refine zP_iast (pc := 54) (a := 406) C dX12_adds_54 (s_X12_statement hT) hv51 hx4 h fun d h => ?_
    refine zP_aload_n (pc := 55) C (x := zad V 400) dX12_adds_55 rfl rfl ?_
    refine zP_aload_n (pc := 56) C (x := zad V 400) dX12_adds_56 rfl rfl ?_
    refine zP_getI (pc := 57) (a := 400) C g12_301 dX12_adds_57 (s_X12 hT) rfl h fun v57 hv57 h => ?_
    refine zP_iconst (pc := 60) C dX12_adds_60 ?_
    refine zP_iadd (pc := 61) C dX12_adds_61 h fun v61 hv61 h => ?_
    refine zP_putI (pc := 62) (a := 400) C p12_301 dX12_adds_62 (s_X12 hT) rfl hv61 h fun d h => ?_
    exact zP_vret (pc := 65) C E dX12_adds_65 h
  · exact zP_vret (pc := 7) C E dX12_adds_7 h
def f_X12_kindHere  (d : zD) : Option (Int × zD) :=
  zc (f_X12_isWord 26  d) fun v4 d =>
  if (v4 : Int) = 0 then (
    zc (f_X12_isWord 27  d) fun v18 d =>
    if (v18 : Int) = 0 then (
      zc (f_X12_isWord 28  d) fun v32 d =>
      if (v32 : Int) = 0 then (
        zc (f_X12_isWord 29  d) fun v46 d =>
        if (v46 : Int) = 0 then (
          zc (f_X12_isWord 30  d) fun v60 d =>
          if (v60 : Int) = 0 then (
            zc (f_X12_isWord 31  d) fun v74 d =>
            if (v74 : Int) = 0 then (
              some ((-1), d))
            else (
              some (5, d)))
          else (
            some (4, d)))
        else (
          some (3, d)))
      else (
        some (2, d)))
    else (
      some (1, d)))
  else (
    some (0, d))
theorem t_X12_kindHere {V : zW}  (hT : zo12 V)   {d dz : zD} {rv : Int} (h : f_X12_kindHere   d = some (rv, dz)) : zMet V 8 yX12_kindHere cX12_kindHere 1 (some .int) [.ref (zad V 400)] d (some (.int (zI rv))) (zR rv) dz := by
  refine zMet_by RX12 pn12 rfl (Nat.le_of_ble_eq_true rfl) [some (.ref (zad V 400))] rfl fun X C E => ?_
  refine zP_aload_n (pc := 0) C (x := zad V 400) dX12_kindHere_0 rfl rfl ?_
  refine zP_ldcwT (pc := 1) C (i := 26) (Nat.le_of_ble_eq_true rfl) rfl rfl dX12_kindHere_1 ?_
  obtain ⟨v4, d1, hc, h⟩ := zc_h h
  refine zP_callV (pc := 4) (As := [.ref (zsa V 26)]) (st := []) C m12_217 dX12_kindHere_4 (s_X12 hT) rfl (t_X12_isWord hT (Nat.le_of_ble_eq_true rfl)  hc) ⟨Nat.le_of_ble_eq_true rfl, Nat.le_of_ble_eq_true rfl⟩ rfl (Nat.le_of_ble_eq_true rfl) ⟨Nat.zero_le _, Nat.zero_le _⟩ fun hw => ?_
  have hbv4 := hw
  have hv4 := z01 hw
  clear hc hw
  show zP V X 1 0 0 7 _ [.int (zI v4)] d1
  revert h
  generalize d1 = d
  intro h
  refine zP_if_eq (pc := 7) (tgt := 14) C dX12_kindHere_7 rfl hv4 h (fun _ h => ?_) (fun _ h => ?_)
  · refine zP_aload_n (pc := 14) C (x := zad V 400) dX12_kindHere_14 rfl rfl ?_
    refine zP_ldcwT (pc := 15) C (i := 27) (Nat.le_of_ble_eq_true rfl) rfl rfl dX12_kindHere_15 ?_
    obtain ⟨v18, d1, hc, h⟩ := zc_h h
    refine zP_callV (pc := 18) (As := [.ref (zsa V 27)]) (st := []) C m12_217 dX12_kindHere_18 (s_X12 hT) rfl (t_X12_isWord hT (Nat.le_of_ble_eq_true rfl)  hc) ⟨Nat.le_of_ble_eq_true rfl, Nat.le_of_ble_eq_true rfl⟩ rfl (Nat.le_of_ble_eq_true rfl) ⟨Nat.zero_le _, Nat.zero_le _⟩ fun hw => ?_
    have hbv18 := hw
    have hv18 := z01 hw
    clear hc hw
    show zP V X 1 0 0 21 _ [.int (zI v18)] d1
    revert h
    generalize d1 = d
    intro h
    refine zP_if_eq (pc := 21) (tgt := 28) C dX12_kindHere_21 rfl hv18 h (fun _ h => ?_) (fun _ h => ?_)
    · refine zP_aload_n (pc := 28) C (x := zad V 400) dX12_kindHere_28 rfl rfl ?_
      refine zP_ldcwT (pc := 29) C (i := 28) (Nat.le_of_ble_eq_true rfl) rfl rfl dX12_kindHere_29 ?_
      obtain ⟨v32, d1, hc, h⟩ := zc_h h
      refine zP_callV (pc := 32) (As := [.ref (zsa V 28)]) (st := []) C m12_217 dX12_kindHere_32 (s_X12 hT) rfl (t_X12_isWord hT (Nat.le_of_ble_eq_true rfl)  hc) ⟨Nat.le_of_ble_eq_true rfl, Nat.le_of_ble_eq_true rfl⟩ rfl (Nat.le_of_ble_eq_true rfl) ⟨Nat.zero_le _, Nat.zero_le _⟩ fun hw => ?_
      have hbv32 := hw
      have hv32 := z01 hw
      clear hc hw
      show zP V X 1 0 0 35 _ [.int (zI v32)] d1
      revert h
      generalize d1 = d
      intro h
      refine zP_if_eq (pc := 35) (tgt := 42) C dX12_kindHere_35 rfl hv32 h (fun _ h => ?_) (fun _ h => ?_)
      · refine zP_aload_n (pc := 42) C (x := zad V 400) dX12_kindHere_42 rfl rfl ?_
        refine zP_ldcwT (pc := 43) C (i := 29) (Nat.le_of_ble_eq_true rfl) rfl rfl dX12_kindHere_43 ?_
        obtain ⟨v46, d1, hc, h⟩ := zc_h h
        refine zP_callV (pc := 46) (As := [.ref (zsa V 29)]) (st := []) C m12_217 dX12_kindHere_46 (s_X12 hT) rfl (t_X12_isWord hT (Nat.le_of_ble_eq_true rfl)  hc) ⟨Nat.le_of_ble_eq_true rfl, Nat.le_of_ble_eq_true rfl⟩ rfl (Nat.le_of_ble_eq_true rfl) ⟨Nat.zero_le _, Nat.zero_le _⟩ fun hw => ?_
        have hbv46 := hw
        have hv46 := z01 hw
        clear hc hw
        show zP V X 1 0 0 49 _ [.int (zI v46)] d1
        revert h
        generalize d1 = d
        intro h
        refine zP_if_eq (pc := 49) (tgt := 56) C dX12_kindHere_49 rfl hv46 h (fun _ h => ?_) (fun _ h => ?_)
        · refine zP_aload_n (pc := 56) C (x := zad V 400) dX12_kindHere_56 rfl rfl ?_
          refine zP_ldcwT (pc := 57) C (i := 30) (Nat.le_of_ble_eq_true rfl) rfl rfl dX12_kindHere_57 ?_
          obtain ⟨v60, d1, hc, h⟩ := zc_h h
          refine zP_callV (pc := 60) (As := [.ref (zsa V 30)]) (st := []) C m12_217 dX12_kindHere_60 (s_X12 hT) rfl (t_X12_isWord hT (Nat.le_of_ble_eq_true rfl)  hc) ⟨Nat.le_of_ble_eq_true rfl, Nat.le_of_ble_eq_true rfl⟩ rfl (Nat.le_of_ble_eq_true rfl) ⟨Nat.zero_le _, Nat.zero_le _⟩ fun hw => ?_
          have hbv60 := hw
          have hv60 := z01 hw
          clear hc hw
          show zP V X 1 0 0 63 _ [.int (zI v60)] d1
          revert h
          generalize d1 = d
          intro h
          refine zP_if_eq (pc := 63) (tgt := 70) C dX12_kindHere_63 rfl hv60 h (fun _ h => ?_) (fun _ h => ?_)
          · refine zP_aload_n (pc := 70) C (x := zad V 400) dX12_kindHere_70 rfl rfl ?_
            refine zP_ldcwT (pc := 71) C (i := 31) (Nat.le_of_ble_eq_true rfl) rfl rfl dX12_kindHere_71 ?_
            obtain ⟨v74, d1, hc, h⟩ := zc_h h
            refine zP_callV (pc := 74) (As := [.ref (zsa V 31)]) (st := []) C m12_217 dX12_kindHere_74 (s_X12 hT) rfl (t_X12_isWord hT (Nat.le_of_ble_eq_true rfl)  hc) ⟨Nat.le_of_ble_eq_true rfl, Nat.le_of_ble_eq_true rfl⟩ rfl (Nat.le_of_ble_eq_true rfl) ⟨Nat.zero_le _, Nat.zero_le _⟩ fun hw => ?_
            have hbv74 := hw
            have hv74 := z01 hw
            clear hc hw
            show zP V X 1 0 0 77 _ [.int (zI v74)] d1
            revert h
            generalize d1 = d
            intro h
            refine zP_if_eq (pc := 77) (tgt := 84) C dX12_kindHere_77 rfl hv74 h (fun _ h => ?_) (fun _ h => ?_)
            · refine zP_iconst (pc := 84) C dX12_kindHere_84 ?_
              exact zP_iret (pc := 85) C E dX12_kindHere_85 (zRk rfl) h
            · refine zP_iconst (pc := 80) C dX12_kindHere_80 ?_
              refine zP_goto (pc := 81) (tgt := 85) C dX12_kindHere_81 rfl ?_
              exact zP_iret (pc := 85) C E dX12_kindHere_85 (zRk rfl) h
          · refine zP_iconst (pc := 66) C dX12_kindHere_66 ?_
            refine zP_goto (pc := 67) (tgt := 85) C dX12_kindHere_67 rfl ?_
            exact zP_iret (pc := 85) C E dX12_kindHere_85 (zRk rfl) h
        · refine zP_iconst (pc := 52) C dX12_kindHere_52 ?_
          refine zP_goto (pc := 53) (tgt := 85) C dX12_kindHere_53 rfl ?_
          exact zP_iret (pc := 85) C E dX12_kindHere_85 (zRk rfl) h
      · refine zP_iconst (pc := 38) C dX12_kindHere_38 ?_
        refine zP_goto (pc := 39) (tgt := 85) C dX12_kindHere_39 rfl ?_
        exact zP_iret (pc := 85) C E dX12_kindHere_85 (zRk rfl) h
    · refine zP_iconst (pc := 24) C dX12_kindHere_24 ?_
      refine zP_goto (pc := 25) (tgt := 85) C dX12_kindHere_25 rfl ?_
      exact zP_iret (pc := 85) C E dX12_kindHere_85 (zRk rfl) h
  · refine zP_iconst (pc := 10) C dX12_kindHere_10 ?_
    refine zP_goto (pc := 11) (tgt := 85) C dX12_kindHere_11 rfl ?_
    exact zP_iret (pc := 85) C E dX12_kindHere_85 (zRk rfl) h
def j_X12_readsPost_42   (x1 x2 : Int) (d : zD) : Option (Int × zD) :=
  zc (f_X12_goesOn   d) fun _ d =>
  zc (f_X12_number  1 20 d) fun v50 d =>
  zc (f_X12_adds  0 x1 x2 v50 d) fun _ d =>
  some (0, d)
theorem wj_X12_readsPost_42 {V : zW} {X : zX}  (hT : zo12 V) (C : zOk V X cX12_readsPost RX12 4 (zrm 11) none) {rv : Int} {dz : zD} (E : zEnd V X none (rv = 0) dz)  {x1 x2 : Int} (hx1 : zR x1) (hx2 : zR x2) {d : zD} (h : j_X12_readsPost_42   x1 x2 d = some (rv, dz)) : zP V X 4 0 0 42 [some (.ref (zad V 400)), some (.int (zI x1)), some (.int (zI x2)), none] [] d := by
  refine zP_aload_n (pc := 42) C (x := zad V 400) dX12_readsPost_42 rfl rfl ?_
  obtain ⟨_, d1, hc, h⟩ := zc_h h
  refine zP_callV (pc := 43) (As := []) (st := []) C m12_224 dX12_readsPost_43 (s_X12 hT) rfl (t_X12_goesOn hT  hc) ⟨Nat.le_of_ble_eq_true rfl, Nat.le_of_ble_eq_true rfl⟩ rfl (Nat.le_of_ble_eq_true rfl) ⟨Nat.zero_le _, Nat.zero_le _⟩ fun hw => ?_
  clear hc hw
  show zP V X 4 0 0 46 _ [] d1
  revert h
  generalize d1 = d
  intro h
  refine zP_aload_n (pc := 46) C (x := zad V 400) dX12_readsPost_46 rfl rfl ?_
  refine zP_iconst (pc := 47) C dX12_readsPost_47 ?_
  refine zP_bipush (pc := 48) C dX12_readsPost_48 rfl ?_
  obtain ⟨v50, d1, hc, h⟩ := zc_h h
  refine zP_callV (pc := 50) (As := [.int (zI 1), .int (zI 20)]) (st := []) C m12_230 dX12_readsPost_50 (s_X12 hT) rfl (t_X12_number hT (zRk rfl) (zRk rfl) hc) ⟨Nat.le_of_ble_eq_true rfl, Nat.le_of_ble_eq_true rfl⟩ rfl (Nat.le_of_ble_eq_true rfl) ⟨Nat.zero_le _, Nat.zero_le _⟩ fun hw => ?_
  have hv50 := hw
  clear hc hw
  show zP V X 4 0 0 53 _ [.int (zI v50)] d1
  revert h
  generalize d1 = d
  intro h
  refine zP_istore_n (pc := 53) C (L' := [some (.ref (zad V 400)), some (.int (zI x1)), some (.int (zI x2)), some (.int (zI v50))]) dX12_readsPost_53 rfl (Nat.le_of_ble_eq_true rfl) rfl rfl ?_
  refine zP_aload_n (pc := 54) C (x := zad V 400) dX12_readsPost_54 rfl rfl ?_
  refine zP_iconst (pc := 55) C dX12_readsPost_55 ?_
  refine zP_iload_n (pc := 56) C (x := zI x1) dX12_readsPost_56 rfl rfl ?_
  refine zP_iload_n (pc := 57) C (x := zI x2) dX12_readsPost_57 rfl rfl ?_
  refine zP_iload_n (pc := 58) C (x := zI v50) dX12_readsPost_58 rfl rfl ?_
  obtain ⟨_, d1, hc, h⟩ := zc_h h
  refine zP_callV (pc := 59) (As := [.int (zI 0), .int (zI x1), .int (zI x2), .int (zI v50)]) (st := []) C m12_318 dX12_readsPost_59 (s_X12 hT) rfl (t_X12_adds hT (zRk rfl) hx1 hx2 hv50 hc) ⟨Nat.le_of_ble_eq_true rfl, Nat.le_of_ble_eq_true rfl⟩ rfl (Nat.le_of_ble_eq_true rfl) ⟨Nat.zero_le _, Nat.zero_le _⟩ fun hw => ?_
  clear hc hw
  show zP V X 4 0 0 62 _ [] d1
  revert h
  generalize d1 = d
  intro h
  exact zP_vret (pc := 62) C E dX12_readsPost_62 h
def j_X12_readsPost_24   (x1 s0 : Int) (d : zD) : Option (Int × zD) :=
  zc (f_X12_isGood   d) fun v26 d =>
  if (v26 : Int) = 0 then (
    j_X12_readsPost_42   x1 s0 d)
  else (
    if (s0 : Int) = x1 then (
      zc (f_X12_errs  4 d) fun _ d =>
      j_X12_readsPost_42   x1 s0 d)
    else (
      j_X12_readsPost_42   x1 s0 d))
theorem wj_X12_readsPost_24 {V : zW} {X : zX}  (hT : zo12 V) (C : zOk V X cX12_readsPost RX12 4 (zrm 11) none) {rv : Int} {dz : zD} (E : zEnd V X none (rv = 0) dz)  {x1 s0 : Int} (hx1 : zR x1) (hs0 : zR s0) {d : zD} (h : j_X12_readsPost_24   x1 s0 d = some (rv, dz)) : zP V X 4 0 0 24 [some (.ref (zad V 400)), some (.int (zI x1)), none, none] [.int (zI s0)] d := by
  refine zP_istore_n (pc := 24) C (L' := [some (.ref (zad V 400)), some (.int (zI x1)), some (.int (zI s0)), none]) dX12_readsPost_24 rfl (Nat.le_of_ble_eq_true rfl) rfl rfl ?_
  refine zP_aload_n (pc := 25) C (x := zad V 400) dX12_readsPost_25 rfl rfl ?_
  obtain ⟨v26, d1, hc, h⟩ := zc_h h
  refine zP_callV (pc := 26) (As := []) (st := []) C m12_204 dX12_readsPost_26 (s_X12 hT) rfl (t_X12_isGood hT  hc) ⟨Nat.le_of_ble_eq_true rfl, Nat.le_of_ble_eq_true rfl⟩ rfl (Nat.le_of_ble_eq_true rfl) ⟨Nat.zero_le _, Nat.zero_le _⟩ fun hw => ?_
  have hbv26 := hw
  have hv26 := z01 hw
  clear hc hw
  show zP V X 4 0 0 29 _ [.int (zI v26)] d1
  revert h
  generalize d1 = d
  intro h
  refine zP_if_eq (pc := 29) (tgt := 42) C dX12_readsPost_29 rfl hv26 h (fun _ h => ?_) (fun _ h => ?_)
  · exact zP_mask [true, true, true, false] (wj_X12_readsPost_42 hT C E  hx1 hs0 h)
  · refine zP_iload_n (pc := 32) C (x := zI s0) dX12_readsPost_32 rfl rfl ?_
    refine zP_iload_n (pc := 33) C (x := zI x1) dX12_readsPost_33 rfl rfl ?_
    refine zP_icmp_ne (pc := 34) (tgt := 42) C dX12_readsPost_34 rfl hs0 hx1 h (fun _ h => ?_) (fun _ h => ?_)
    · exact zP_mask [true, true, true, false] (wj_X12_readsPost_42 hT C E  hx1 hs0 h)
    · refine zP_aload_n (pc := 37) C (x := zad V 400) dX12_readsPost_37 rfl rfl ?_
      refine zP_iconst (pc := 38) C dX12_readsPost_38 ?_
      obtain ⟨_, d1, hc, h⟩ := zc_h h
      refine zP_callV (pc := 39) (As := [.int (zI 4)]) (st := []) C m12_221 dX12_readsPost_39 (s_X12 hT) rfl (t_X12_errs hT (zRk rfl) hc) ⟨Nat.le_of_ble_eq_true rfl, Nat.le_of_ble_eq_true rfl⟩ rfl (Nat.le_of_ble_eq_true rfl) ⟨Nat.zero_le _, Nat.zero_le _⟩ fun hw => ?_
      clear hc hw
      show zP V X 4 0 0 42 _ [] d1
      revert h
      generalize d1 = d
      intro h
      exact zP_mask [true, true, true, false] (wj_X12_readsPost_42 hT C E  hx1 hs0 h)
def f_X12_readsPost  (d : zD) : Option (Int × zD) :=
  zc (f_X12_whoHere   d) fun v1 d =>
  zc (f_X12_goesOn   d) fun _ d =>
  zc (f_X12_isGood   d) fun v10 d =>
  if (v10 : Int) = 0 then (
    j_X12_readsPost_24   v1 0 d)
  else (
    zc (f_X12_whoHere   d) fun v17 d =>
    j_X12_readsPost_24   v1 v17 d)
theorem t_X12_readsPost {V : zW}  (hT : zo12 V)   {d dz : zD} {rv : Int} (h : f_X12_readsPost   d = some (rv, dz)) : zMet V 11 yX12_readsPost cX12_readsPost 4 none [.ref (zad V 400)] d none (rv = 0) dz := by
  refine zMet_by RX12 pn12 rfl (Nat.le_of_ble_eq_true rfl) [some (.ref (zad V 400)), none, none, none] rfl fun X C E => ?_
  refine zP_aload_n (pc := 0) C (x := zad V 400) dX12_readsPost_0 rfl rfl ?_
  obtain ⟨v1, d1, hc, h⟩ := zc_h h
  refine zP_callV (pc := 1) (As := []) (st := []) C m12_315 dX12_readsPost_1 (s_X12 hT) rfl (t_X12_whoHere hT  hc) ⟨Nat.le_of_ble_eq_true rfl, Nat.le_of_ble_eq_true rfl⟩ rfl (Nat.le_of_ble_eq_true rfl) ⟨Nat.zero_le _, Nat.zero_le _⟩ fun hw => ?_
  have hv1 := hw
  clear hc hw
  show zP V X 4 0 0 4 _ [.int (zI v1)] d1
  revert h
  generalize d1 = d
  intro h
  refine zP_istore_n (pc := 4) C (L' := [some (.ref (zad V 400)), some (.int (zI v1)), none, none]) dX12_readsPost_4 rfl (Nat.le_of_ble_eq_true rfl) rfl rfl ?_
  refine zP_aload_n (pc := 5) C (x := zad V 400) dX12_readsPost_5 rfl rfl ?_
  obtain ⟨_, d1, hc, h⟩ := zc_h h
  refine zP_callV (pc := 6) (As := []) (st := []) C m12_224 dX12_readsPost_6 (s_X12 hT) rfl (t_X12_goesOn hT  hc) ⟨Nat.le_of_ble_eq_true rfl, Nat.le_of_ble_eq_true rfl⟩ rfl (Nat.le_of_ble_eq_true rfl) ⟨Nat.zero_le _, Nat.zero_le _⟩ fun hw => ?_
  clear hc hw
  show zP V X 4 0 0 9 _ [] d1
  revert h
  generalize d1 = d
  intro h
  refine zP_aload_n (pc := 9) C (x := zad V 400) dX12_readsPost_9 rfl rfl ?_
  obtain ⟨v10, d1, hc, h⟩ := zc_h h
  refine zP_callV (pc := 10) (As := []) (st := []) C m12_204 dX12_readsPost_10 (s_X12 hT) rfl (t_X12_isGood hT  hc) ⟨Nat.le_of_ble_eq_true rfl, Nat.le_of_ble_eq_true rfl⟩ rfl (Nat.le_of_ble_eq_true rfl) ⟨Nat.zero_le _, Nat.zero_le _⟩ fun hw => ?_
  have hbv10 := hw
  have hv10 := z01 hw
  clear hc hw
  show zP V X 4 0 0 13 _ [.int (zI v10)] d1
  revert h
  generalize d1 = d
  intro h
  refine zP_if_eq (pc := 13) (tgt := 23) C dX12_readsPost_13 rfl hv10 h (fun _ h => ?_) (fun _ h => ?_)
  · refine zP_iconst (pc := 23) C dX12_readsPost_23 ?_
    exact zP_mask [true, true, false, false] (wj_X12_readsPost_24 hT C E  hv1 (zRk rfl) h)
  · refine zP_aload_n (pc := 16) C (x := zad V 400) dX12_readsPost_16 rfl rfl ?_
    obtain ⟨v17, d1, hc, h⟩ := zc_h h
    refine zP_callV (pc := 17) (As := []) (st := []) C m12_315 dX12_readsPost_17 (s_X12 hT) rfl (t_X12_whoHere hT  hc) ⟨Nat.le_of_ble_eq_true rfl, Nat.le_of_ble_eq_true rfl⟩ rfl (Nat.le_of_ble_eq_true rfl) ⟨Nat.zero_le _, Nat.zero_le _⟩ fun hw => ?_
    have hv17 := hw
    clear hc hw
    show zP V X 4 0 0 20 _ [.int (zI v17)] d1
    revert h
    generalize d1 = d
    intro h
    refine zP_goto (pc := 20) (tgt := 24) C dX12_readsPost_20 rfl ?_
    exact zP_mask [true, true, false, false] (wj_X12_readsPost_24 hT C E  hv1 hv17 h)
def j_X12_readsStatement_99   (d : zD) : Option (Int × zD) :=
  zc (f_X12_semicolon   d) fun _ d =>
  some (0, d)
theorem wj_X12_readsStatement_99 {V : zW} {X : zX}  (hT : zo12 V) (C : zOk V X cX12_readsStatement RX12 2 (zrm 12) none) {rv : Int} {dz : zD} (E : zEnd V X none (rv = 0) dz)    {d : zD} (h : j_X12_readsStatement_99    d = some (rv, dz)) : zP V X 2 0 0 99 [some (.ref (zad V 400)), none] [] d := by
  refine zP_aload_n (pc := 99) C (x := zad V 400) dX12_readsStatement_99 rfl rfl ?_
  obtain ⟨_, d1, hc, h⟩ := zc_h h
  refine zP_callV (pc := 100) (As := []) (st := []) C m12_285 dX12_readsStatement_100 (s_X12 hT) rfl (t_X12_semicolon hT  hc) ⟨Nat.le_of_ble_eq_true rfl, Nat.le_of_ble_eq_true rfl⟩ rfl (Nat.le_of_ble_eq_true rfl) ⟨Nat.zero_le _, Nat.zero_le _⟩ fun hw => ?_
  clear hc hw
  show zP V X 2 0 0 103 _ [] d1
  revert h
  generalize d1 = d
  intro h
  exact zP_vret (pc := 103) C E dX12_readsStatement_103 h
def j_X12_readsStatement_29   (x1 : Int) (d : zD) : Option (Int × zD) :=
  zc (f_X12_goesOn   d) fun _ d =>
  if (x1 : Int) = 0 then (
    zc (f_X12_readsPost   d) fun _ d =>
    j_X12_readsStatement_99    d)
  else (
    if (x1 : Int) = 3 then (
      zc (f_X12_number  1 50 d) fun v55 d =>
      zc (f_X12_adds  3 v55 0 0 d) fun _ d =>
      j_X12_readsStatement_99    d)
    else (
      if (x1 : Int) = 5 then (
        zc (f_X12_number  0 15 d) fun v77 d =>
        zc (f_X12_adds  5 v77 0 0 d) fun _ d =>
        j_X12_readsStatement_99    d)
      else (
        zc (f_X12_terminal0   d) fun v91 d =>
        zc (f_X12_adds  x1 v91 0 0 d) fun _ d =>
        j_X12_readsStatement_99    d)))
theorem wj_X12_readsStatement_29 {V : zW} {X : zX}  (hT : zo12 V) (C : zOk V X cX12_readsStatement RX12 2 (zrm 12) none) {rv : Int} {dz : zD} (E : zEnd V X none (rv = 0) dz)  {x1 : Int} (hx1 : zR x1) {d : zD} (h : j_X12_readsStatement_29   x1 d = some (rv, dz)) : zP V X 2 0 0 29 [some (.ref (zad V 400)), some (.int (zI x1))] [] d := by
  refine zP_aload_n (pc := 29) C (x := zad V 400) dX12_readsStatement_29 rfl rfl ?_
  obtain ⟨_, d1, hc, h⟩ := zc_h h
  refine zP_callV (pc := 30) (As := []) (st := []) C m12_224 dX12_readsStatement_30 (s_X12 hT) rfl (t_X12_goesOn hT  hc) ⟨Nat.le_of_ble_eq_true rfl, Nat.le_of_ble_eq_true rfl⟩ rfl (Nat.le_of_ble_eq_true rfl) ⟨Nat.zero_le _, Nat.zero_le _⟩ fun hw => ?_
  clear hc hw
  show zP V X 2 0 0 33 _ [] d1
  revert h
  generalize d1 = d
  intro h
  refine zP_iload_n (pc := 33) C (x := zI x1) dX12_readsStatement_33 rfl rfl ?_
  refine zP_if_ne (pc := 34) (tgt := 44) C dX12_readsStatement_34 rfl hx1 h (fun _ h => ?_) (fun _ h => ?_)
  · refine zP_iload_n (pc := 44) C (x := zI x1) dX12_readsStatement_44 rfl rfl ?_
    refine zP_iconst (pc := 45) C dX12_readsStatement_45 ?_
    refine zP_icmp_ne (pc := 46) (tgt := 66) C dX12_readsStatement_46 rfl hx1 (zRk rfl) h (fun _ h => ?_) (fun _ h => ?_)
    · refine zP_iload_n (pc := 66) C (x := zI x1) dX12_readsStatement_66 rfl rfl ?_
      refine zP_iconst (pc := 67) C dX12_readsStatement_67 ?_
      refine zP_icmp_ne (pc := 68) (tgt := 88) C dX12_readsStatement_68 rfl hx1 (zRk rfl) h (fun _ h => ?_) (fun _ h => ?_)
      · refine zP_aload_n (pc := 88) C (x := zad V 400) dX12_readsStatement_88 rfl rfl ?_
        refine zP_iload_n (pc := 89) C (x := zI x1) dX12_readsStatement_89 rfl rfl ?_
        refine zP_aload_n (pc := 90) C (x := zad V 400) dX12_readsStatement_90 rfl rfl ?_
        obtain ⟨v91, d1, hc, h⟩ := zc_h h
        refine zP_callV (pc := 91) (As := []) (st := [.int (zI x1), .ref (zad V 400)]) C m12_327 dX12_readsStatement_91 (s_X12 hT) rfl (t_X12_terminal0 hT  hc) ⟨Nat.le_of_ble_eq_true rfl, Nat.le_of_ble_eq_true rfl⟩ rfl (Nat.le_of_ble_eq_true rfl) ⟨Nat.zero_le _, Nat.zero_le _⟩ fun hw => ?_
        have hv91 := hw
        clear hc hw
        show zP V X 2 0 0 94 _ [.int (zI v91), .int (zI x1), .ref (zad V 400)] d1
        revert h
        generalize d1 = d
        intro h
        refine zP_iconst (pc := 94) C dX12_readsStatement_94 ?_
        refine zP_iconst (pc := 95) C dX12_readsStatement_95 ?_
        obtain ⟨_, d1, hc, h⟩ := zc_h h
        refine zP_callV (pc := 96) (As := [.int (zI x1), .int (zI v91), .int (zI 0), .int (zI 0)]) (st := []) C m12_318 dX12_readsStatement_96 (s_X12 hT) rfl (t_X12_adds hT hx1 hv91 (zRk rfl) (zRk rfl) hc) ⟨Nat.le_of_ble_eq_true rfl, Nat.le_of_ble_eq_true rfl⟩ rfl (Nat.le_of_ble_eq_true rfl) ⟨Nat.zero_le _, Nat.zero_le _⟩ fun hw => ?_
        clear hc hw
        show zP V X 2 0 0 99 _ [] d1
        revert h
        generalize d1 = d
        intro h
        exact zP_mask [true, false] (wj_X12_readsStatement_99 hT C E   h)
      · refine zP_aload_n (pc := 71) C (x := zad V 400) dX12_readsStatement_71 rfl rfl ?_
        refine zP_iconst (pc := 72) C dX12_readsStatement_72 ?_
        refine zP_aload_n (pc := 73) C (x := zad V 400) dX12_readsStatement_73 rfl rfl ?_
        refine zP_iconst (pc := 74) C dX12_readsStatement_74 ?_
        refine zP_bipush (pc := 75) C dX12_readsStatement_75 rfl ?_
        obtain ⟨v77, d1, hc, h⟩ := zc_h h
        refine zP_callV (pc := 77) (As := [.int (zI 0), .int (zI 15)]) (st := [.int (zI 5), .ref (zad V 400)]) C m12_230 dX12_readsStatement_77 (s_X12 hT) rfl (t_X12_number hT (zRk rfl) (zRk rfl) hc) ⟨Nat.le_of_ble_eq_true rfl, Nat.le_of_ble_eq_true rfl⟩ rfl (Nat.le_of_ble_eq_true rfl) ⟨Nat.zero_le _, Nat.zero_le _⟩ fun hw => ?_
        have hv77 := hw
        clear hc hw
        show zP V X 2 0 0 80 _ [.int (zI v77), .int (zI 5), .ref (zad V 400)] d1
        revert h
        generalize d1 = d
        intro h
        refine zP_iconst (pc := 80) C dX12_readsStatement_80 ?_
        refine zP_iconst (pc := 81) C dX12_readsStatement_81 ?_
        obtain ⟨_, d1, hc, h⟩ := zc_h h
        refine zP_callV (pc := 82) (As := [.int (zI 5), .int (zI v77), .int (zI 0), .int (zI 0)]) (st := []) C m12_318 dX12_readsStatement_82 (s_X12 hT) rfl (t_X12_adds hT (zRk rfl) hv77 (zRk rfl) (zRk rfl) hc) ⟨Nat.le_of_ble_eq_true rfl, Nat.le_of_ble_eq_true rfl⟩ rfl (Nat.le_of_ble_eq_true rfl) ⟨Nat.zero_le _, Nat.zero_le _⟩ fun hw => ?_
        clear hc hw
        show zP V X 2 0 0 85 _ [] d1
        revert h
        generalize d1 = d
        intro h
        refine zP_goto (pc := 85) (tgt := 99) C dX12_readsStatement_85 rfl ?_
        exact zP_mask [true, false] (wj_X12_readsStatement_99 hT C E   h)
    · refine zP_aload_n (pc := 49) C (x := zad V 400) dX12_readsStatement_49 rfl rfl ?_
      refine zP_iconst (pc := 50) C dX12_readsStatement_50 ?_
      refine zP_aload_n (pc := 51) C (x := zad V 400) dX12_readsStatement_51 rfl rfl ?_
      refine zP_iconst (pc := 52) C dX12_readsStatement_52 ?_
      refine zP_bipush (pc := 53) C dX12_readsStatement_53 rfl ?_
      obtain ⟨v55, d1, hc, h⟩ := zc_h h
      refine zP_callV (pc := 55) (As := [.int (zI 1), .int (zI 50)]) (st := [.int (zI 3), .ref (zad V 400)]) C m12_230 dX12_readsStatement_55 (s_X12 hT) rfl (t_X12_number hT (zRk rfl) (zRk rfl) hc) ⟨Nat.le_of_ble_eq_true rfl, Nat.le_of_ble_eq_true rfl⟩ rfl (Nat.le_of_ble_eq_true rfl) ⟨Nat.zero_le _, Nat.zero_le _⟩ fun hw => ?_
      have hv55 := hw
      clear hc hw
      show zP V X 2 0 0 58 _ [.int (zI v55), .int (zI 3), .ref (zad V 400)] d1
      revert h
      generalize d1 = d
      intro h
      refine zP_iconst (pc := 58) C dX12_readsStatement_58 ?_
      refine zP_iconst (pc := 59) C dX12_readsStatement_59 ?_
      obtain ⟨_, d1, hc, h⟩ := zc_h h
      refine zP_callV (pc := 60) (As := [.int (zI 3), .int (zI v55), .int (zI 0), .int (zI 0)]) (st := []) C m12_318 dX12_readsStatement_60 (s_X12 hT) rfl (t_X12_adds hT (zRk rfl) hv55 (zRk rfl) (zRk rfl) hc) ⟨Nat.le_of_ble_eq_true rfl, Nat.le_of_ble_eq_true rfl⟩ rfl (Nat.le_of_ble_eq_true rfl) ⟨Nat.zero_le _, Nat.zero_le _⟩ fun hw => ?_
      clear hc hw
      show zP V X 2 0 0 63 _ [] d1
      revert h
      generalize d1 = d
      intro h
      refine zP_goto (pc := 63) (tgt := 99) C dX12_readsStatement_63 rfl ?_
      exact zP_mask [true, false] (wj_X12_readsStatement_99 hT C E   h)
  · refine zP_aload_n (pc := 37) C (x := zad V 400) dX12_readsStatement_37 rfl rfl ?_
    obtain ⟨_, d1, hc, h⟩ := zc_h h
    refine zP_callV (pc := 38) (As := []) (st := []) C m12_324 dX12_readsStatement_38 (s_X12 hT) rfl (t_X12_readsPost hT  hc) ⟨Nat.le_of_ble_eq_true rfl, Nat.le_of_ble_eq_true rfl⟩ rfl (Nat.le_of_ble_eq_true rfl) ⟨Nat.zero_le _, Nat.zero_le _⟩ fun hw => ?_
    clear hc hw
    show zP V X 2 0 0 41 _ [] d1
    revert h
    generalize d1 = d
    intro h
    refine zP_goto (pc := 41) (tgt := 99) C dX12_readsStatement_41 rfl ?_
    exact zP_mask [true, false] (wj_X12_readsStatement_99 hT C E   h)
def j_X12_readsStatement_15   (x1 : Int) (d : zD) : Option (Int × zD) :=
  zl (d 400 21) fun v16 =>
  if (v16 : Int) = 30 then (
    zc (f_X12_errs  5 d) fun _ d =>
    j_X12_readsStatement_29   x1 d)
  else (
    j_X12_readsStatement_29   x1 d)
theorem wj_X12_readsStatement_15 {V : zW} {X : zX}  (hT : zo12 V) (C : zOk V X cX12_readsStatement RX12 2 (zrm 12) none) {rv : Int} {dz : zD} (E : zEnd V X none (rv = 0) dz)  {x1 : Int} (hx1 : zR x1) {d : zD} (h : j_X12_readsStatement_15   x1 d = some (rv, dz)) : zP V X 2 0 0 15 [some (.ref (zad V 400)), some (.int (zI x1))] [] d := by
  refine zP_aload_n (pc := 15) C (x := zad V 400) dX12_readsStatement_15 rfl rfl ?_
  refine zP_getI (pc := 16) (a := 400) C g12_301 dX12_readsStatement_16 (s_X12 hT) rfl h fun v16 hv16 h => ?_
  refine zP_bipush (pc := 19) C dX12_readsStatement_19 rfl ?_
  refine zP_icmp_ne (pc := 21) (tgt := 29) C dX12_readsStatement_21 rfl hv16 (zRk rfl) h (fun _ h => ?_) (fun _ h => ?_)
  · exact zP_mask [true, true] (wj_X12_readsStatement_29 hT C E  hx1 h)
  · refine zP_aload_n (pc := 24) C (x := zad V 400) dX12_readsStatement_24 rfl rfl ?_
    refine zP_iconst (pc := 25) C dX12_readsStatement_25 ?_
    obtain ⟨_, d1, hc, h⟩ := zc_h h
    refine zP_callV (pc := 26) (As := [.int (zI 5)]) (st := []) C m12_221 dX12_readsStatement_26 (s_X12 hT) rfl (t_X12_errs hT (zRk rfl) hc) ⟨Nat.le_of_ble_eq_true rfl, Nat.le_of_ble_eq_true rfl⟩ rfl (Nat.le_of_ble_eq_true rfl) ⟨Nat.zero_le _, Nat.zero_le _⟩ fun hw => ?_
    clear hc hw
    show zP V X 2 0 0 29 _ [] d1
    revert h
    generalize d1 = d
    intro h
    exact zP_mask [true, true] (wj_X12_readsStatement_29 hT C E  hx1 h)
def f_X12_readsStatement  (d : zD) : Option (Int × zD) :=
  zc (f_X12_kindHere   d) fun v1 d =>
  if (v1 : Int) = (-1) then (
    zc (f_X12_errs  1 d) fun _ d =>
    j_X12_readsStatement_15   v1 d)
  else (
    j_X12_readsStatement_15   v1 d)
theorem t_X12_readsStatement {V : zW}  (hT : zo12 V)   {d dz : zD} {rv : Int} (h : f_X12_readsStatement   d = some (rv, dz)) : zMet V 12 yX12_readsStatement cX12_readsStatement 2 none [.ref (zad V 400)] d none (rv = 0) dz := by
  refine zMet_by RX12 pn12 rfl (Nat.le_of_ble_eq_true rfl) [some (.ref (zad V 400)), none] rfl fun X C E => ?_
  refine zP_aload_n (pc := 0) C (x := zad V 400) dX12_readsStatement_0 rfl rfl ?_
  obtain ⟨v1, d1, hc, h⟩ := zc_h h
  refine zP_callV (pc := 1) (As := []) (st := []) C m12_321 dX12_readsStatement_1 (s_X12 hT) rfl (t_X12_kindHere hT  hc) ⟨Nat.le_of_ble_eq_true rfl, Nat.le_of_ble_eq_true rfl⟩ rfl (Nat.le_of_ble_eq_true rfl) ⟨Nat.zero_le _, Nat.zero_le _⟩ fun hw => ?_
  have hv1 := hw
  clear hc hw
  show zP V X 2 0 0 4 _ [.int (zI v1)] d1
  revert h
  generalize d1 = d
  intro h
  refine zP_istore_n (pc := 4) C (L' := [some (.ref (zad V 400)), some (.int (zI v1))]) dX12_readsStatement_4 rfl (Nat.le_of_ble_eq_true rfl) rfl rfl ?_
  refine zP_iload_n (pc := 5) C (x := zI v1) dX12_readsStatement_5 rfl rfl ?_
  refine zP_iconst (pc := 6) C dX12_readsStatement_6 ?_
  refine zP_icmp_ne (pc := 7) (tgt := 15) C dX12_readsStatement_7 rfl hv1 (zRk rfl) h (fun _ h => ?_) (fun _ h => ?_)
  · exact zP_mask [true, true] (wj_X12_readsStatement_15 hT C E  hv1 h)
  · refine zP_aload_n (pc := 10) C (x := zad V 400) dX12_readsStatement_10 rfl rfl ?_
    refine zP_iconst (pc := 11) C dX12_readsStatement_11 ?_
    obtain ⟨_, d1, hc, h⟩ := zc_h h
    refine zP_callV (pc := 12) (As := [.int (zI 1)]) (st := []) C m12_221 dX12_readsStatement_12 (s_X12 hT) rfl (t_X12_errs hT (zRk rfl) hc) ⟨Nat.le_of_ble_eq_true rfl, Nat.le_of_ble_eq_true rfl⟩ rfl (Nat.le_of_ble_eq_true rfl) ⟨Nat.zero_le _, Nat.zero_le _⟩ fun hw => ?_
    clear hc hw
    show zP V X 2 0 0 15 _ [] d1
    revert h
    generalize d1 = d
    intro h
    exact zP_mask [true, true] (wj_X12_readsStatement_15 hT C E  hv1 h)
def l_X12_postsNow_21F  (r21 : Int → Int → Int → Int → Int → zD → Option (Int × zD)) (x1 x2 x3 x4 x5 : Int) (d : zD) : Option (Int × zD) :=
  if (12 : Int) ≤ x5 then (
    zc (f_X12_tells  x4 0 x1 d) fun _ d =>
    zc (f_X12_tells  x4 1 x2 d) fun _ d =>
    zc (f_X12_tells  x4 2 x3 d) fun _ d =>
    zg 800 3 <| zl (d 401 (3 : Int).toNat) fun v76 =>
    zc (f_X12_tells  x4 4 v76 d) fun _ d =>
    zc (f_X12_tells  x4 5 (-1) d) fun _ d =>
    zc (f_X12_tells  x4 6 (-1) d) fun _ d =>
    zc (f_X12_tells  x4 7 (-1) d) fun _ d =>
    if (x1 : Int) = (-1) then (
      zc (f_X12_tells  x4 3 1 d) fun _ d =>
      zg 800 3 <| zl (d 401 (3 : Int).toNat) fun v140 =>
      zc (f_X12_tells  x4 5 v140 d) fun _ d =>
      zc (f_X12_nextNumber   d) fun v150 d =>
      zc (f_X12_tells  x4 9 v150 d) fun _ d =>
      some (x4, d))
    else (
      zc (f_X12_tells  x4 8 1 d) fun _ d =>
      some (x4, d)))
  else (
    zc (f_X12_tells  x4 x5 0 d) fun _ d =>
    zl (zw (x5 + 1)) fun v37 =>
    r21 x1 x2 x3 x4 v37 d)
theorem wl_X12_postsNow_21F {V : zW} {X : zX}  (hT : zo12 V) (C : zOk V X cX12_postsNow RX12 6 (zrm 1) (some .int)) {rv : Int} {dz : zD} (E : zEnd V X (some (.int (zI rv))) (zR rv) dz) {r21 : Int → Int → Int → Int → Int → zD → Option (Int × zD)} (hr21 : ∀ {x1 x2 x3 x4 x5 : Int} {d : zD}, zR x1 → zR x2 → zR x3 → zR x4 → zR x5 → r21 x1 x2 x3 x4 x5 d = some (rv, dz) → zP V X 6 0 0 21 [some (.ref (zad V 400)), some (.int (zI x1)), some (.int (zI x2)), some (.int (zI x3)), some (.int (zI x4)), some (.int (zI x5))] [] d) {x1 x2 x3 x4 x5 : Int} (hx1 : zR x1) (hx2 : zR x2) (hx3 : zR x3) (hx4 : zR x4) (hx5 : zR x5) {d : zD} (h : l_X12_postsNow_21F  r21 x1 x2 x3 x4 x5 d = some (rv, dz)) : zP V X 6 0 0 21 [some (.ref (zad V 400)), some (.int (zI x1)), some (.int (zI x2)), some (.int (zI x3)), some (.int (zI x4)), some (.int (zI x5))] [] d := by
  refine zP_iload (pc := 21) C (x := zI x5) dX12_postsNow_21 rfl ?_
  refine zP_bipush (pc := 23) C dX12_postsNow_23 rfl ?_
  refine zP_icmp_ge (pc := 25) (tgt := 43) C dX12_postsNow_25 rfl hx5 (zRk rfl) h (fun _ h => ?_) (fun _ h => ?_)
  · refine zP_aload_n (pc := 43) C (x := zad V 400) dX12_postsNow_43 rfl rfl ?_
    refine zP_iload (pc := 44) C (x := zI x4) dX12_postsNow_44 rfl ?_
    refine zP_iconst (pc := 46) C dX12_postsNow_46 ?_
    refine zP_iload_n (pc := 47) C (x := zI x1) dX12_postsNow_47 rfl rfl ?_
    obtain ⟨_, d1, hc, h⟩ := zc_h h
    refine zP_callV (pc := 48) (As := [.int (zI x4), .int (zI 0), .int (zI x1)]) (st := []) C m12_75 dX12_postsNow_48 (s_X12 hT) rfl (t_X12_tells hT hx4 (zRk rfl) hx1 hc) ⟨Nat.le_of_ble_eq_true rfl, Nat.le_of_ble_eq_true rfl⟩ rfl (Nat.le_of_ble_eq_true rfl) ⟨Nat.zero_le _, Nat.zero_le _⟩ fun hw => ?_
    clear hc hw
    show zP V X 6 0 0 51 _ [] d1
    revert h
    generalize d1 = d
    intro h
    refine zP_aload_n (pc := 51) C (x := zad V 400) dX12_postsNow_51 rfl rfl ?_
    refine zP_iload (pc := 52) C (x := zI x4) dX12_postsNow_52 rfl ?_
    refine zP_iconst (pc := 54) C dX12_postsNow_54 ?_
    refine zP_iload_n (pc := 55) C (x := zI x2) dX12_postsNow_55 rfl rfl ?_
    obtain ⟨_, d1, hc, h⟩ := zc_h h
    refine zP_callV (pc := 56) (As := [.int (zI x4), .int (zI 1), .int (zI x2)]) (st := []) C m12_75 dX12_postsNow_56 (s_X12 hT) rfl (t_X12_tells hT hx4 (zRk rfl) hx2 hc) ⟨Nat.le_of_ble_eq_true rfl, Nat.le_of_ble_eq_true rfl⟩ rfl (Nat.le_of_ble_eq_true rfl) ⟨Nat.zero_le _, Nat.zero_le _⟩ fun hw => ?_
    clear hc hw
    show zP V X 6 0 0 59 _ [] d1
    revert h
    generalize d1 = d
    intro h
    refine zP_aload_n (pc := 59) C (x := zad V 400) dX12_postsNow_59 rfl rfl ?_
    refine zP_iload (pc := 60) C (x := zI x4) dX12_postsNow_60 rfl ?_
    refine zP_iconst (pc := 62) C dX12_postsNow_62 ?_
    refine zP_iload_n (pc := 63) C (x := zI x3) dX12_postsNow_63 rfl rfl ?_
    obtain ⟨_, d1, hc, h⟩ := zc_h h
    refine zP_callV (pc := 64) (As := [.int (zI x4), .int (zI 2), .int (zI x3)]) (st := []) C m12_75 dX12_postsNow_64 (s_X12 hT) rfl (t_X12_tells hT hx4 (zRk rfl) hx3 hc) ⟨Nat.le_of_ble_eq_true rfl, Nat.le_of_ble_eq_true rfl⟩ rfl (Nat.le_of_ble_eq_true rfl) ⟨Nat.zero_le _, Nat.zero_le _⟩ fun hw => ?_
    clear hc hw
    show zP V X 6 0 0 67 _ [] d1
    revert h
    generalize d1 = d
    intro h
    refine zP_aload_n (pc := 67) C (x := zad V 400) dX12_postsNow_67 rfl rfl ?_
    refine zP_iload (pc := 68) C (x := zI x4) dX12_postsNow_68 rfl ?_
    refine zP_iconst (pc := 70) C dX12_postsNow_70 ?_
    refine zP_aload_n (pc := 71) C (x := zad V 400) dX12_postsNow_71 rfl rfl ?_
    refine zP_getR (pc := 72) (a := 400) (t := 401) C g12_13 dX12_postsNow_72 (s_X12 hT) rfl ?_
    refine zP_iconst (pc := 75) C dX12_postsNow_75 ?_
    refine zP_iald (pc := 76) (a := 401) C dX12_postsNow_76 (s_X12_s hT) (zRk rfl) h fun v76 hv76 h => ?_
    obtain ⟨_, d1, hc, h⟩ := zc_h h
    refine zP_callV (pc := 77) (As := [.int (zI x4), .int (zI 4), .int (zI v76)]) (st := []) C m12_75 dX12_postsNow_77 (s_X12 hT) rfl (t_X12_tells hT hx4 (zRk rfl) hv76 hc) ⟨Nat.le_of_ble_eq_true rfl, Nat.le_of_ble_eq_true rfl⟩ rfl (Nat.le_of_ble_eq_true rfl) ⟨Nat.zero_le _, Nat.zero_le _⟩ fun hw => ?_
    clear hc hw
    show zP V X 6 0 0 80 _ [] d1
    revert h
    generalize d1 = d
    intro h
    refine zP_aload_n (pc := 80) C (x := zad V 400) dX12_postsNow_80 rfl rfl ?_
    refine zP_iload (pc := 81) C (x := zI x4) dX12_postsNow_81 rfl ?_
    refine zP_iconst (pc := 83) C dX12_postsNow_83 ?_
    refine zP_iconst (pc := 84) C dX12_postsNow_84 ?_
    obtain ⟨_, d1, hc, h⟩ := zc_h h
    refine zP_callV (pc := 85) (As := [.int (zI x4), .int (zI 5), .int (zI (-1))]) (st := []) C m12_75 dX12_postsNow_85 (s_X12 hT) rfl (t_X12_tells hT hx4 (zRk rfl) (zRk rfl) hc) ⟨Nat.le_of_ble_eq_true rfl, Nat.le_of_ble_eq_true rfl⟩ rfl (Nat.le_of_ble_eq_true rfl) ⟨Nat.zero_le _, Nat.zero_le _⟩ fun hw => ?_
    clear hc hw
    show zP V X 6 0 0 88 _ [] d1
    revert h
    generalize d1 = d
    intro h
    refine zP_aload_n (pc := 88) C (x := zad V 400) dX12_postsNow_88 rfl rfl ?_
    refine zP_iload (pc := 89) C (x := zI x4) dX12_postsNow_89 rfl ?_
    refine zP_bipush (pc := 91) C dX12_postsNow_91 rfl ?_
    refine zP_iconst (pc := 93) C dX12_postsNow_93 ?_
    obtain ⟨_, d1, hc, h⟩ := zc_h h
    refine zP_callV (pc := 94) (As := [.int (zI x4), .int (zI 6), .int (zI (-1))]) (st := []) C m12_75 dX12_postsNow_94 (s_X12 hT) rfl (t_X12_tells hT hx4 (zRk rfl) (zRk rfl) hc) ⟨Nat.le_of_ble_eq_true rfl, Nat.le_of_ble_eq_true rfl⟩ rfl (Nat.le_of_ble_eq_true rfl) ⟨Nat.zero_le _, Nat.zero_le _⟩ fun hw => ?_
    clear hc hw
    show zP V X 6 0 0 97 _ [] d1
    revert h
    generalize d1 = d
    intro h
    refine zP_aload_n (pc := 97) C (x := zad V 400) dX12_postsNow_97 rfl rfl ?_
    refine zP_iload (pc := 98) C (x := zI x4) dX12_postsNow_98 rfl ?_
    refine zP_bipush (pc := 100) C dX12_postsNow_100 rfl ?_
    refine zP_iconst (pc := 102) C dX12_postsNow_102 ?_
    obtain ⟨_, d1, hc, h⟩ := zc_h h
    refine zP_callV (pc := 103) (As := [.int (zI x4), .int (zI 7), .int (zI (-1))]) (st := []) C m12_75 dX12_postsNow_103 (s_X12 hT) rfl (t_X12_tells hT hx4 (zRk rfl) (zRk rfl) hc) ⟨Nat.le_of_ble_eq_true rfl, Nat.le_of_ble_eq_true rfl⟩ rfl (Nat.le_of_ble_eq_true rfl) ⟨Nat.zero_le _, Nat.zero_le _⟩ fun hw => ?_
    clear hc hw
    show zP V X 6 0 0 106 _ [] d1
    revert h
    generalize d1 = d
    intro h
    refine zP_iload_n (pc := 106) C (x := zI x1) dX12_postsNow_106 rfl rfl ?_
    refine zP_iconst (pc := 107) C dX12_postsNow_107 ?_
    refine zP_icmp_eq (pc := 108) (tgt := 123) C dX12_postsNow_108 rfl hx1 (zRk rfl) h (fun _ h => ?_) (fun _ h => ?_)
    · refine zP_aload_n (pc := 123) C (x := zad V 400) dX12_postsNow_123 rfl rfl ?_
      refine zP_iload (pc := 124) C (x := zI x4) dX12_postsNow_124 rfl ?_
      refine zP_iconst (pc := 126) C dX12_postsNow_126 ?_
      refine zP_iconst (pc := 127) C dX12_postsNow_127 ?_
      obtain ⟨_, d1, hc, h⟩ := zc_h h
      refine zP_callV (pc := 128) (As := [.int (zI x4), .int (zI 3), .int (zI 1)]) (st := []) C m12_75 dX12_postsNow_128 (s_X12 hT) rfl (t_X12_tells hT hx4 (zRk rfl) (zRk rfl) hc) ⟨Nat.le_of_ble_eq_true rfl, Nat.le_of_ble_eq_true rfl⟩ rfl (Nat.le_of_ble_eq_true rfl) ⟨Nat.zero_le _, Nat.zero_le _⟩ fun hw => ?_
      clear hc hw
      show zP V X 6 0 0 131 _ [] d1
      revert h
      generalize d1 = d
      intro h
      refine zP_aload_n (pc := 131) C (x := zad V 400) dX12_postsNow_131 rfl rfl ?_
      refine zP_iload (pc := 132) C (x := zI x4) dX12_postsNow_132 rfl ?_
      refine zP_iconst (pc := 134) C dX12_postsNow_134 ?_
      refine zP_aload_n (pc := 135) C (x := zad V 400) dX12_postsNow_135 rfl rfl ?_
      refine zP_getR (pc := 136) (a := 400) (t := 401) C g12_13 dX12_postsNow_136 (s_X12 hT) rfl ?_
      refine zP_iconst (pc := 139) C dX12_postsNow_139 ?_
      refine zP_iald (pc := 140) (a := 401) C dX12_postsNow_140 (s_X12_s hT) (zRk rfl) h fun v140 hv140 h => ?_
      obtain ⟨_, d1, hc, h⟩ := zc_h h
      refine zP_callV (pc := 141) (As := [.int (zI x4), .int (zI 5), .int (zI v140)]) (st := []) C m12_75 dX12_postsNow_141 (s_X12 hT) rfl (t_X12_tells hT hx4 (zRk rfl) hv140 hc) ⟨Nat.le_of_ble_eq_true rfl, Nat.le_of_ble_eq_true rfl⟩ rfl (Nat.le_of_ble_eq_true rfl) ⟨Nat.zero_le _, Nat.zero_le _⟩ fun hw => ?_
      clear hc hw
      show zP V X 6 0 0 144 _ [] d1
      revert h
      generalize d1 = d
      intro h
      refine zP_aload_n (pc := 144) C (x := zad V 400) dX12_postsNow_144 rfl rfl ?_
      refine zP_iload (pc := 145) C (x := zI x4) dX12_postsNow_145 rfl ?_
      refine zP_bipush (pc := 147) C dX12_postsNow_147 rfl ?_
      refine zP_aload_n (pc := 149) C (x := zad V 400) dX12_postsNow_149 rfl rfl ?_
      obtain ⟨v150, d1, hc, h⟩ := zc_h h
      refine zP_callV (pc := 150) (As := []) (st := [.int (zI 9), .int (zI x4), .ref (zad V 400)]) C m12_100 dX12_postsNow_150 (s_X12 hT) rfl (t_X12_nextNumber hT  hc) ⟨Nat.le_of_ble_eq_true rfl, Nat.le_of_ble_eq_true rfl⟩ rfl (Nat.le_of_ble_eq_true rfl) ⟨Nat.zero_le _, Nat.zero_le _⟩ fun hw => ?_
      have hv150 := hw
      clear hc hw
      show zP V X 6 0 0 153 _ [.int (zI v150), .int (zI 9), .int (zI x4), .ref (zad V 400)] d1
      revert h
      generalize d1 = d
      intro h
      obtain ⟨_, d1, hc, h⟩ := zc_h h
      refine zP_callV (pc := 153) (As := [.int (zI x4), .int (zI 9), .int (zI v150)]) (st := []) C m12_75 dX12_postsNow_153 (s_X12 hT) rfl (t_X12_tells hT hx4 (zRk rfl) hv150 hc) ⟨Nat.le_of_ble_eq_true rfl, Nat.le_of_ble_eq_true rfl⟩ rfl (Nat.le_of_ble_eq_true rfl) ⟨Nat.zero_le _, Nat.zero_le _⟩ fun hw => ?_
      clear hc hw
      show zP V X 6 0 0 156 _ [] d1
      revert h
      generalize d1 = d
      intro h
      refine zP_iload (pc := 156) C (x := zI x4) dX12_postsNow_156 rfl ?_
      exact zP_iret (pc := 158) C E dX12_postsNow_158 hx4 h
    · refine zP_aload_n (pc := 111) C (x := zad V 400) dX12_postsNow_111 rfl rfl ?_
      refine zP_iload (pc := 112) C (x := zI x4) dX12_postsNow_112 rfl ?_
      refine zP_bipush (pc := 114) C dX12_postsNow_114 rfl ?_
      refine zP_iconst (pc := 116) C dX12_postsNow_116 ?_
      obtain ⟨_, d1, hc, h⟩ := zc_h h
      refine zP_callV (pc := 117) (As := [.int (zI x4), .int (zI 8), .int (zI 1)]) (st := []) C m12_75 dX12_postsNow_117 (s_X12 hT) rfl (t_X12_tells hT hx4 (zRk rfl) (zRk rfl) hc) ⟨Nat.le_of_ble_eq_true rfl, Nat.le_of_ble_eq_true rfl⟩ rfl (Nat.le_of_ble_eq_true rfl) ⟨Nat.zero_le _, Nat.zero_le _⟩ fun hw => ?_
      clear hc hw
      show zP V X 6 0 0 120 _ [] d1
      revert h
      generalize d1 = d
      intro h
      refine zP_iload (pc := 120) C (x := zI x4) dX12_postsNow_120 rfl ?_
      exact zP_iret (pc := 122) C E dX12_postsNow_122 hx4 h
  · refine zP_aload_n (pc := 28) C (x := zad V 400) dX12_postsNow_28 rfl rfl ?_
    refine zP_iload (pc := 29) C (x := zI x4) dX12_postsNow_29 rfl ?_
    refine zP_iload (pc := 31) C (x := zI x5) dX12_postsNow_31 rfl ?_
    refine zP_iconst (pc := 33) C dX12_postsNow_33 ?_
    obtain ⟨_, d1, hc, h⟩ := zc_h h
    refine zP_callV (pc := 34) (As := [.int (zI x4), .int (zI x5), .int (zI 0)]) (st := []) C m12_75 dX12_postsNow_34 (s_X12 hT) rfl (t_X12_tells hT hx4 hx5 (zRk rfl) hc) ⟨Nat.le_of_ble_eq_true rfl, Nat.le_of_ble_eq_true rfl⟩ rfl (Nat.le_of_ble_eq_true rfl) ⟨Nat.zero_le _, Nat.zero_le _⟩ fun hw => ?_
    clear hc hw
    show zP V X 6 0 0 37 _ [] d1
    revert h
    generalize d1 = d
    intro h
    refine zP_iinc (pc := 37) C (x := x5) dX12_postsNow_37 rfl (Nat.le_of_ble_eq_true rfl) rfl h fun v37 hv37 h => ?_
    show zP V X 6 0 0 40 [some (.ref (zad V 400)), some (.int (zI x1)), some (.int (zI x2)), some (.int (zI x3)), some (.int (zI x4)), some (.int (zI v37))] _ _
    refine zP_goto (pc := 40) (tgt := 21) C dX12_postsNow_40 rfl ?_
    exact zP_mask [true, true, true, true, true, true] (hr21 hx1 hx2 hx3 hx4 hv37 h)
def l_X12_postsNow_21   : Nat → Int → Int → Int → Int → Int → zD → Option (Int × zD)
  | 0, _, _, _, _, _, _ => none
  | q + 1, x1, x2, x3, x4, x5, d => l_X12_postsNow_21F   (l_X12_postsNow_21   q) x1 x2 x3 x4 x5 d
theorem wl_X12_postsNow_21 {V : zW} {X : zX}  (hT : zo12 V) (C : zOk V X cX12_postsNow RX12 6 (zrm 1) (some .int)) {rv : Int} {dz : zD} (E : zEnd V X (some (.int (zI rv))) (zR rv) dz)  : ∀ (q : Nat) {x1 x2 x3 x4 x5 : Int} (hx1 : zR x1) (hx2 : zR x2) (hx3 : zR x3) (hx4 : zR x4) (hx5 : zR x5) {d : zD} (h : l_X12_postsNow_21   q x1 x2 x3 x4 x5 d = some (rv, dz)), zP V X 6 0 0 21 [some (.ref (zad V 400)), some (.int (zI x1)), some (.int (zI x2)), some (.int (zI x3)), some (.int (zI x4)), some (.int (zI x5))] [] d := by
  intro q
  induction q with
  | zero => intro x1 x2 x3 x4 x5 hx1 hx2 hx3 hx4 hx5 d h; cases (show (none : Option (Int × zD)) = some (rv, dz) from h)
  | succ q ih =>
    intro x1 x2 x3 x4 x5 hx1 hx2 hx3 hx4 hx5 d h
    exact wl_X12_postsNow_21F hT C E  (fun  hx1 hx2 hx3 hx4 hx5 h => ih hx1 hx2 hx3 hx4 hx5 h) hx1 hx2 hx3 hx4 hx5 h
def f_X12_postsNow  (x1 x2 x3 : Int) (d : zD) : Option (Int × zD) :=
  zg 800 2 <| zl (d 401 (2 : Int).toNat) fun v5 =>
  zl (zw (v5 + 1)) fun v16 =>
  zg 800 2 <| zl (zu d 401 (2 : Int).toNat v16) fun d =>
  l_X12_postsNow_21   zF x1 x2 x3 v5 0 d
theorem t_X12_postsNow {V : zW}  (hT : zo12 V) {x1 x2 x3 : Int} (hx1 : zR x1) (hx2 : zR x2) (hx3 : zR x3) {d dz : zD} {rv : Int} (h : f_X12_postsNow  x1 x2 x3 d = some (rv, dz)) : zMet V 1 yX12_postsNow cX12_postsNow 6 (some .int) [.ref (zad V 400), .int (zI x1), .int (zI x2), .int (zI x3)] d (some (.int (zI rv))) (zR rv) dz := by
  refine zMet_by RX12 pn12 rfl (Nat.le_of_ble_eq_true rfl) [some (.ref (zad V 400)), some (.int (zI x1)), some (.int (zI x2)), some (.int (zI x3)), none, none] rfl fun X C E => ?_
  refine zP_aload_n (pc := 0) C (x := zad V 400) dX12_postsNow_0 rfl rfl ?_
  refine zP_getR (pc := 1) (a := 400) (t := 401) C g12_13 dX12_postsNow_1 (s_X12 hT) rfl ?_
  refine zP_iconst (pc := 4) C dX12_postsNow_4 ?_
  refine zP_iald (pc := 5) (a := 401) C dX12_postsNow_5 (s_X12_s hT) (zRk rfl) h fun v5 hv5 h => ?_
  refine zP_istore (pc := 6) C (L' := [some (.ref (zad V 400)), some (.int (zI x1)), some (.int (zI x2)), some (.int (zI x3)), some (.int (zI v5)), none]) dX12_postsNow_6 (Nat.le_of_ble_eq_true rfl) rfl rfl ?_
  refine zP_aload_n (pc := 8) C (x := zad V 400) dX12_postsNow_8 rfl rfl ?_
  refine zP_getR (pc := 9) (a := 400) (t := 401) C g12_13 dX12_postsNow_9 (s_X12 hT) rfl ?_
  refine zP_iconst (pc := 12) C dX12_postsNow_12 ?_
  refine zP_iload (pc := 13) C (x := zI v5) dX12_postsNow_13 rfl ?_
  refine zP_iconst (pc := 15) C dX12_postsNow_15 ?_
  refine zP_iadd (pc := 16) C dX12_postsNow_16 h fun v16 hv16 h => ?_
  refine zP_iast (pc := 17) (a := 401) C dX12_postsNow_17 (s_X12_s hT) (zRk rfl) hv16 h fun d h => ?_
  refine zP_iconst (pc := 18) C dX12_postsNow_18 ?_
  refine zP_istore (pc := 19) C (L' := [some (.ref (zad V 400)), some (.int (zI x1)), some (.int (zI x2)), some (.int (zI x3)), some (.int (zI v5)), some (.int (zI 0))]) dX12_postsNow_19 (Nat.le_of_ble_eq_true rfl) rfl rfl ?_
  exact zP_mask [true, true, true, true, true, true] (wl_X12_postsNow_21 hT C E  zF hx1 hx2 hx3 hv5 (zRk rfl) h)
def f_X12_setsAlive  (x1 x2 : Int) (d : zD) : Option (Int × zD) :=
  zc (f_X12_of  x1 3 d) fun v3 d =>
  zc (f_X12_puts  x1 3 x2 d) fun _ d =>
  some (v3, d)
theorem t_X12_setsAlive {V : zW}  (hT : zo12 V) {x1 x2 : Int} (hx1 : zR x1) (hx2 : zR x2) {d dz : zD} {rv : Int} (h : f_X12_setsAlive  x1 x2 d = some (rv, dz)) : zMet V 1 yX12_setsAlive cX12_setsAlive 4 (some .int) [.ref (zad V 400), .int (zI x1), .int (zI x2)] d (some (.int (zI rv))) (zR rv) dz := by
  refine zMet_by RX12 pn12 rfl (Nat.le_of_ble_eq_true rfl) [some (.ref (zad V 400)), some (.int (zI x1)), some (.int (zI x2)), none] rfl fun X C E => ?_
  refine zP_aload_n (pc := 0) C (x := zad V 400) dX12_setsAlive_0 rfl rfl ?_
  refine zP_iload_n (pc := 1) C (x := zI x1) dX12_setsAlive_1 rfl rfl ?_
  refine zP_iconst (pc := 2) C dX12_setsAlive_2 ?_
  obtain ⟨v3, d1, hc, h⟩ := zc_h h
  refine zP_callV (pc := 3) (As := [.int (zI x1), .int (zI 3)]) (st := []) C m12_57 dX12_setsAlive_3 (s_X12 hT) rfl (t_X12_of hT hx1 (zRk rfl) hc) ⟨Nat.le_of_ble_eq_true rfl, Nat.le_of_ble_eq_true rfl⟩ rfl (Nat.le_of_ble_eq_true rfl) ⟨Nat.zero_le _, Nat.zero_le _⟩ fun hw => ?_
  have hv3 := hw
  clear hc hw
  show zP V X 4 0 0 6 _ [.int (zI v3)] d1
  revert h
  generalize d1 = d
  intro h
  refine zP_istore_n (pc := 6) C (L' := [some (.ref (zad V 400)), some (.int (zI x1)), some (.int (zI x2)), some (.int (zI v3))]) dX12_setsAlive_6 rfl (Nat.le_of_ble_eq_true rfl) rfl rfl ?_
  refine zP_aload_n (pc := 7) C (x := zad V 400) dX12_setsAlive_7 rfl rfl ?_
  refine zP_iload_n (pc := 8) C (x := zI x1) dX12_setsAlive_8 rfl rfl ?_
  refine zP_iconst (pc := 9) C dX12_setsAlive_9 ?_
  refine zP_iload_n (pc := 10) C (x := zI x2) dX12_setsAlive_10 rfl rfl ?_
  obtain ⟨_, d1, hc, h⟩ := zc_h h
  refine zP_callV (pc := 11) (As := [.int (zI x1), .int (zI 3), .int (zI x2)]) (st := []) C m12_61 dX12_setsAlive_11 (s_X12 hT) rfl (t_X12_puts hT hx1 (zRk rfl) hx2 hc) ⟨Nat.le_of_ble_eq_true rfl, Nat.le_of_ble_eq_true rfl⟩ rfl (Nat.le_of_ble_eq_true rfl) ⟨Nat.zero_le _, Nat.zero_le _⟩ fun hw => ?_
  clear hc hw
  show zP V X 4 0 0 14 _ [] d1
  revert h
  generalize d1 = d
  intro h
  refine zP_iload_n (pc := 14) C (x := zI v3) dX12_setsAlive_14 rfl rfl ?_
  exact zP_iret (pc := 15) C E dX12_setsAlive_15 hv3 h
def f_X12_addsPlace  (x1 : Int) (d : zD) : Option (Int × zD) :=
  zg 800 1 <| zl (d 401 (1 : Int).toNat) fun v11 =>
  zl (zw (30 + v11)) fun v12 =>
  zg 800 v12 <| zl (zu d 401 (v12 : Int).toNat x1) fun d =>
  zg 800 1 <| zl (d 401 (1 : Int).toNat) fun v25 =>
  zl (zw (v25 + 1)) fun v27 =>
  zg 800 1 <| zl (zu d 401 (1 : Int).toNat v27) fun d =>
  zg 800 1 <| zl (d 401 (1 : Int).toNat) fun v34 =>
  some (v34, d)
theorem t_X12_addsPlace {V : zW}  (hT : zo12 V) {x1 : Int} (hx1 : zR x1) {d dz : zD} {rv : Int} (h : f_X12_addsPlace  x1 d = some (rv, dz)) : zMet V 0 yX12_addsPlace cX12_addsPlace 2 (some .int) [.ref (zad V 400), .int (zI x1)] d (some (.int (zI rv))) (zR rv) dz := by
  refine zMet_by RX12 pn12 rfl (Nat.le_of_ble_eq_true rfl) [some (.ref (zad V 400)), some (.int (zI x1))] rfl fun X C E => ?_
  refine zP_aload_n (pc := 0) C (x := zad V 400) dX12_addsPlace_0 rfl rfl ?_
  refine zP_getR (pc := 1) (a := 400) (t := 401) C g12_13 dX12_addsPlace_1 (s_X12 hT) rfl ?_
  refine zP_bipush (pc := 4) C dX12_addsPlace_4 rfl ?_
  refine zP_aload_n (pc := 6) C (x := zad V 400) dX12_addsPlace_6 rfl rfl ?_
  refine zP_getR (pc := 7) (a := 400) (t := 401) C g12_13 dX12_addsPlace_7 (s_X12 hT) rfl ?_
  refine zP_iconst (pc := 10) C dX12_addsPlace_10 ?_
  refine zP_iald (pc := 11) (a := 401) C dX12_addsPlace_11 (s_X12_s hT) (zRk rfl) h fun v11 hv11 h => ?_
  refine zP_iadd (pc := 12) C dX12_addsPlace_12 h fun v12 hv12 h => ?_
  refine zP_iload_n (pc := 13) C (x := zI x1) dX12_addsPlace_13 rfl rfl ?_
  refine zP_iast (pc := 14) (a := 401) C dX12_addsPlace_14 (s_X12_s hT) hv12 hx1 h fun d h => ?_
  refine zP_aload_n (pc := 15) C (x := zad V 400) dX12_addsPlace_15 rfl rfl ?_
  refine zP_getR (pc := 16) (a := 400) (t := 401) C g12_13 dX12_addsPlace_16 (s_X12 hT) rfl ?_
  refine zP_iconst (pc := 19) C dX12_addsPlace_19 ?_
  refine zP_aload_n (pc := 20) C (x := zad V 400) dX12_addsPlace_20 rfl rfl ?_
  refine zP_getR (pc := 21) (a := 400) (t := 401) C g12_13 dX12_addsPlace_21 (s_X12 hT) rfl ?_
  refine zP_iconst (pc := 24) C dX12_addsPlace_24 ?_
  refine zP_iald (pc := 25) (a := 401) C dX12_addsPlace_25 (s_X12_s hT) (zRk rfl) h fun v25 hv25 h => ?_
  refine zP_iconst (pc := 26) C dX12_addsPlace_26 ?_
  refine zP_iadd (pc := 27) C dX12_addsPlace_27 h fun v27 hv27 h => ?_
  refine zP_iast (pc := 28) (a := 401) C dX12_addsPlace_28 (s_X12_s hT) (zRk rfl) hv27 h fun d h => ?_
  refine zP_aload_n (pc := 29) C (x := zad V 400) dX12_addsPlace_29 rfl rfl ?_
  refine zP_getR (pc := 30) (a := 400) (t := 401) C g12_13 dX12_addsPlace_30 (s_X12 hT) rfl ?_
  refine zP_iconst (pc := 33) C dX12_addsPlace_33 ?_
  refine zP_iald (pc := 34) (a := 401) C dX12_addsPlace_34 (s_X12_s hT) (zRk rfl) h fun v34 hv34 h => ?_
  exact zP_iret (pc := 35) C E dX12_addsPlace_35 hv34 h
def l_X12_dropsPlace_26F  (r26 : Int → Int → zD → Option (Int × zD)) (x2 x3 : Int) (d : zD) : Option (Int × zD) :=
  zg 800 1 <| zl (d 401 (1 : Int).toNat) fun v32 =>
  if (v32 : Int) ≤ x3 then (
    some (x2, d))
  else (
    zl (zw (30 + x3)) fun v43 =>
    zl (zw (30 + x3)) fun v51 =>
    zl (zw (v51 + 1)) fun v53 =>
    zg 800 v53 <| zl (d 401 (v53 : Int).toNat) fun v54 =>
    zg 800 v43 <| zl (zu d 401 (v43 : Int).toNat v54) fun d =>
    zl (zw (x3 + 1)) fun v56 =>
    r26 x2 v56 d)
theorem wl_X12_dropsPlace_26F {V : zW} {X : zX}  (hT : zo12 V) (C : zOk V X cX12_dropsPlace RX12 4 (zrm 0) (some .int)) {rv : Int} {dz : zD} (E : zEnd V X (some (.int (zI rv))) (zR rv) dz) {r26 : Int → Int → zD → Option (Int × zD)} (hr26 : ∀ {x2 x3 : Int} {d : zD}, zR x2 → zR x3 → r26 x2 x3 d = some (rv, dz) → zP V X 4 0 0 26 [some (.ref (zad V 400)), none, some (.int (zI x2)), some (.int (zI x3))] [] d) {x2 x3 : Int} (hx2 : zR x2) (hx3 : zR x3) {d : zD} (h : l_X12_dropsPlace_26F  r26 x2 x3 d = some (rv, dz)) : zP V X 4 0 0 26 [some (.ref (zad V 400)), none, some (.int (zI x2)), some (.int (zI x3))] [] d := by
  refine zP_iload_n (pc := 26) C (x := zI x3) dX12_dropsPlace_26 rfl rfl ?_
  refine zP_aload_n (pc := 27) C (x := zad V 400) dX12_dropsPlace_27 rfl rfl ?_
  refine zP_getR (pc := 28) (a := 400) (t := 401) C g12_13 dX12_dropsPlace_28 (s_X12 hT) rfl ?_
  refine zP_iconst (pc := 31) C dX12_dropsPlace_31 ?_
  refine zP_iald (pc := 32) (a := 401) C dX12_dropsPlace_32 (s_X12_s hT) (zRk rfl) h fun v32 hv32 h => ?_
  refine zP_icmp_ge (pc := 33) (tgt := 62) C dX12_dropsPlace_33 rfl hx3 hv32 h (fun _ h => ?_) (fun _ h => ?_)
  · refine zP_iload_n (pc := 62) C (x := zI x2) dX12_dropsPlace_62 rfl rfl ?_
    exact zP_iret (pc := 63) C E dX12_dropsPlace_63 hx2 h
  · refine zP_aload_n (pc := 36) C (x := zad V 400) dX12_dropsPlace_36 rfl rfl ?_
    refine zP_getR (pc := 37) (a := 400) (t := 401) C g12_13 dX12_dropsPlace_37 (s_X12 hT) rfl ?_
    refine zP_bipush (pc := 40) C dX12_dropsPlace_40 rfl ?_
    refine zP_iload_n (pc := 42) C (x := zI x3) dX12_dropsPlace_42 rfl rfl ?_
    refine zP_iadd (pc := 43) C dX12_dropsPlace_43 h fun v43 hv43 h => ?_
    refine zP_aload_n (pc := 44) C (x := zad V 400) dX12_dropsPlace_44 rfl rfl ?_
    refine zP_getR (pc := 45) (a := 400) (t := 401) C g12_13 dX12_dropsPlace_45 (s_X12 hT) rfl ?_
    refine zP_bipush (pc := 48) C dX12_dropsPlace_48 rfl ?_
    refine zP_iload_n (pc := 50) C (x := zI x3) dX12_dropsPlace_50 rfl rfl ?_
    refine zP_iadd (pc := 51) C dX12_dropsPlace_51 h fun v51 hv51 h => ?_
    refine zP_iconst (pc := 52) C dX12_dropsPlace_52 ?_
    refine zP_iadd (pc := 53) C dX12_dropsPlace_53 h fun v53 hv53 h => ?_
    refine zP_iald (pc := 54) (a := 401) C dX12_dropsPlace_54 (s_X12_s hT) hv53 h fun v54 hv54 h => ?_
    refine zP_iast (pc := 55) (a := 401) C dX12_dropsPlace_55 (s_X12_s hT) hv43 hv54 h fun d h => ?_
    refine zP_iinc (pc := 56) C (x := x3) dX12_dropsPlace_56 rfl (Nat.le_of_ble_eq_true rfl) rfl h fun v56 hv56 h => ?_
    show zP V X 4 0 0 59 [some (.ref (zad V 400)), none, some (.int (zI x2)), some (.int (zI v56))] _ _
    refine zP_goto (pc := 59) (tgt := 26) C dX12_dropsPlace_59 rfl ?_
    exact zP_mask [true, false, true, true] (hr26 hx2 hv56 h)
def l_X12_dropsPlace_26   : Nat → Int → Int → zD → Option (Int × zD)
  | 0, _, _, _ => none
  | q + 1, x2, x3, d => l_X12_dropsPlace_26F   (l_X12_dropsPlace_26   q) x2 x3 d
theorem wl_X12_dropsPlace_26 {V : zW} {X : zX}  (hT : zo12 V) (C : zOk V X cX12_dropsPlace RX12 4 (zrm 0) (some .int)) {rv : Int} {dz : zD} (E : zEnd V X (some (.int (zI rv))) (zR rv) dz)  : ∀ (q : Nat) {x2 x3 : Int} (hx2 : zR x2) (hx3 : zR x3) {d : zD} (h : l_X12_dropsPlace_26   q x2 x3 d = some (rv, dz)), zP V X 4 0 0 26 [some (.ref (zad V 400)), none, some (.int (zI x2)), some (.int (zI x3))] [] d := by
  intro q
  induction q with
  | zero => intro x2 x3 hx2 hx3 d h; cases (show (none : Option (Int × zD)) = some (rv, dz) from h)
  | succ q ih =>
    intro x2 x3 hx2 hx3 d h
    exact wl_X12_dropsPlace_26F hT C E  (fun  hx2 hx3 h => ih hx2 hx3 h) hx2 hx3 h
def f_X12_dropsPlace  (x1 : Int) (d : zD) : Option (Int × zD) :=
  zl (zw (30 + x1)) fun v7 =>
  zg 800 v7 <| zl (d 401 (v7 : Int).toNat) fun v8 =>
  zg 800 1 <| zl (d 401 (1 : Int).toNat) fun v20 =>
  zl (zw (v20 - 1)) fun v22 =>
  zg 800 1 <| zl (zu d 401 (1 : Int).toNat v22) fun d =>
  l_X12_dropsPlace_26   zF v8 x1 d
theorem t_X12_dropsPlace {V : zW}  (hT : zo12 V) {x1 : Int} (hx1 : zR x1) {d dz : zD} {rv : Int} (h : f_X12_dropsPlace  x1 d = some (rv, dz)) : zMet V 0 yX12_dropsPlace cX12_dropsPlace 4 (some .int) [.ref (zad V 400), .int (zI x1)] d (some (.int (zI rv))) (zR rv) dz := by
  refine zMet_by RX12 pn12 rfl (Nat.le_of_ble_eq_true rfl) [some (.ref (zad V 400)), some (.int (zI x1)), none, none] rfl fun X C E => ?_
  refine zP_aload_n (pc := 0) C (x := zad V 400) dX12_dropsPlace_0 rfl rfl ?_
  refine zP_getR (pc := 1) (a := 400) (t := 401) C g12_13 dX12_dropsPlace_1 (s_X12 hT) rfl ?_
  refine zP_bipush (pc := 4) C dX12_dropsPlace_4 rfl ?_
  refine zP_iload_n (pc := 6) C (x := zI x1) dX12_dropsPlace_6 rfl rfl ?_
  refine zP_iadd (pc := 7) C dX12_dropsPlace_7 h fun v7 hv7 h => ?_
  refine zP_iald (pc := 8) (a := 401) C dX12_dropsPlace_8 (s_X12_s hT) hv7 h fun v8 hv8 h => ?_
  refine zP_istore_n (pc := 9) C (L' := [some (.ref (zad V 400)), some (.int (zI x1)), some (.int (zI v8)), none]) dX12_dropsPlace_9 rfl (Nat.le_of_ble_eq_true rfl) rfl rfl ?_
  refine zP_aload_n (pc := 10) C (x := zad V 400) dX12_dropsPlace_10 rfl rfl ?_
  refine zP_getR (pc := 11) (a := 400) (t := 401) C g12_13 dX12_dropsPlace_11 (s_X12 hT) rfl ?_
  refine zP_iconst (pc := 14) C dX12_dropsPlace_14 ?_
  refine zP_aload_n (pc := 15) C (x := zad V 400) dX12_dropsPlace_15 rfl rfl ?_
  refine zP_getR (pc := 16) (a := 400) (t := 401) C g12_13 dX12_dropsPlace_16 (s_X12 hT) rfl ?_
  refine zP_iconst (pc := 19) C dX12_dropsPlace_19 ?_
  refine zP_iald (pc := 20) (a := 401) C dX12_dropsPlace_20 (s_X12_s hT) (zRk rfl) h fun v20 hv20 h => ?_
  refine zP_iconst (pc := 21) C dX12_dropsPlace_21 ?_
  refine zP_isub (pc := 22) C dX12_dropsPlace_22 h fun v22 hv22 h => ?_
  refine zP_iast (pc := 23) (a := 401) C dX12_dropsPlace_23 (s_X12_s hT) (zRk rfl) hv22 h fun d h => ?_
  refine zP_iload_n (pc := 24) C (x := zI x1) dX12_dropsPlace_24 rfl rfl ?_
  refine zP_istore_n (pc := 25) C (L' := [some (.ref (zad V 400)), some (.int (zI x1)), some (.int (zI v8)), some (.int (zI x1))]) dX12_dropsPlace_25 rfl (Nat.le_of_ble_eq_true rfl) rfl rfl ?_
  exact zP_mask [true, false, true, true] (wl_X12_dropsPlace_26 hT C E  zF hv8 hx1 h)
def f_X12_canRun  (x1 : Int) (d : zD) : Option (Int × zD) :=
  zg 800 4 <| zl (d 401 (4 : Int).toNat) fun v5 =>
  zl (zw (v5 + x1)) fun v7 =>
  if (9999 : Int) < v7 then (
    some (0, d))
  else (
    some (1, d))
theorem t_X12_canRun {V : zW}  (hT : zo12 V) {x1 : Int} (hx1 : zR x1) {d dz : zD} {rv : Int} (h : f_X12_canRun  x1 d = some (rv, dz)) : zMet V 0 yX12_canRun cX12_canRun 2 (some .boolean) [.ref (zad V 400), .int (zI x1)] d (some (.int (zI rv))) (rv = 0 ∨ rv = 1) dz := by
  refine zMet_by RX12 pn12 rfl (Nat.le_of_ble_eq_true rfl) [some (.ref (zad V 400)), some (.int (zI x1))] rfl fun X C E => ?_
  refine zP_aload_n (pc := 0) C (x := zad V 400) dX12_canRun_0 rfl rfl ?_
  refine zP_getR (pc := 1) (a := 400) (t := 401) C g12_13 dX12_canRun_1 (s_X12 hT) rfl ?_
  refine zP_iconst (pc := 4) C dX12_canRun_4 ?_
  refine zP_iald (pc := 5) (a := 401) C dX12_canRun_5 (s_X12_s hT) (zRk rfl) h fun v5 hv5 h => ?_
  refine zP_iload_n (pc := 6) C (x := zI x1) dX12_canRun_6 rfl rfl ?_
  refine zP_iadd (pc := 7) C dX12_canRun_7 h fun v7 hv7 h => ?_
  refine zP_sipush (pc := 8) C dX12_canRun_8 rfl ?_
  refine zP_icmp_gt (pc := 11) (tgt := 18) C dX12_canRun_11 rfl hv7 (zRk rfl) h (fun _ h => ?_) (fun _ h => ?_)
  · refine zP_iconst (pc := 18) C dX12_canRun_18 ?_
    exact zP_zret (pc := 19) C E dX12_canRun_19 (Or.inl rfl) h
  · refine zP_iconst (pc := 14) C dX12_canRun_14 ?_
    refine zP_goto (pc := 15) (tgt := 19) C dX12_canRun_15 rfl ?_
    exact zP_zret (pc := 19) C E dX12_canRun_19 (Or.inr rfl) h
def j_X12_does_173   (s0 s1 : Int) (d : zD) : Option (Int × zD) :=
  zc (f_X12_setsAlive  s1 s0 d) fun v173 d =>
  some (1, d)
theorem wj_X12_does_173 {V : zW} {X : zX}  (hT : zo12 V) (C : zOk V X cX12_does RX12 9 (zrm 12) (some .boolean)) {rv : Int} {dz : zD} (E : zEnd V X (some (.int (zI rv))) (rv = 0 ∨ rv = 1) dz)  {s0 s1 : Int} (hs0 : zR s0) (hs1 : zR s1) {d : zD} (h : j_X12_does_173   s0 s1 d = some (rv, dz)) : zP V X 9 0 0 173 [none, none, none, none, none, none, none, none, none] [.int (zI s0), .int (zI s1), .ref (zad V 400)] d := by
  obtain ⟨v173, d1, hc, h⟩ := zc_h h
  refine zP_callV (pc := 173) (As := [.int (zI s1), .int (zI s0)]) (st := []) C m12_345 dX12_does_173 (s_X12 hT) rfl (t_X12_setsAlive hT hs1 hs0 hc) ⟨Nat.le_of_ble_eq_true rfl, Nat.le_of_ble_eq_true rfl⟩ rfl (Nat.le_of_ble_eq_true rfl) ⟨Nat.zero_le _, Nat.zero_le _⟩ fun hw => ?_
  have hv173 := hw
  clear hc hw
  show zP V X 9 0 0 176 _ [.int (zI v173)] d1
  revert h
  generalize d1 = d
  intro h
  refine zP_istore (pc := 176) C (L' := [none, none, none, none, none, none, none, none, some (.int (zI v173))]) dX12_does_176 (Nat.le_of_ble_eq_true rfl) rfl rfl ?_
  refine zP_iconst (pc := 178) C dX12_does_178 ?_
  exact zP_zret (pc := 179) C E dX12_does_179 (Or.inr rfl) h
def f_X12_does  (x1 : Int) (d : zD) : Option (Int × zD) :=
  zl (zw (4 * x1)) fun v2 =>
  zl (zw (v2 + 1)) fun v10 =>
  zg 120 v10 <| zl (d 406 (v10 : Int).toNat) fun v11 =>
  zg 120 v2 <| zl (d 406 (v2 : Int).toNat) fun v18 =>
  zsw v18 [(0, (
    zg 800 2 <| zl (d 401 (2 : Int).toNat) fun v61 =>
    if (v61 : Int) = 40 then (
      some (0, d))
    else (
      zl (zw (v2 + 2)) fun v77 =>
      zg 120 v77 <| zl (d 406 (v77 : Int).toNat) fun v78 =>
      zl (zw (v2 + 3)) fun v85 =>
      zg 120 v85 <| zl (d 406 (v85 : Int).toNat) fun v86 =>
      zc (f_X12_postsNow  v11 v78 v86 d) fun v87 d =>
      some (1, d)))), (1, (
    zg 120 v2 <| zl (d 406 (v2 : Int).toNat) fun v163 =>
    if (v163 : Int) = 2 then (
      j_X12_does_173   1 v11 d)
    else (
      j_X12_does_173   0 v11 d))), (2, (
    zg 120 v2 <| zl (d 406 (v2 : Int).toNat) fun v163 =>
    if (v163 : Int) = 2 then (
      j_X12_does_173   1 v11 d)
    else (
      j_X12_does_173   0 v11 d))), (3, (
    zc (f_X12_canRun  v11 d) fun v96 d =>
    if (v96 : Int) = 0 then (
      some (0, d))
    else (
      zc (f_X12_runsNow  v11 d) fun v106 d =>
      some (1, d)))), (4, (
    zg 800 1 <| zl (d 401 (1 : Int).toNat) fun v118 =>
    if (v118 : Int) = 16 then (
      some (0, d))
    else (
      zc (f_X12_addsPlace  v11 d) fun v128 d =>
      some (1, d)))), (5, (
    zg 800 1 <| zl (d 401 (1 : Int).toNat) fun v141 =>
    if (v11 : Int) < v141 then (
      zc (f_X12_dropsPlace  v11 d) fun v149 d =>
      some (1, d))
    else (
      some (0, d))))] (
    zg 120 v2 <| zl (d 406 (v2 : Int).toNat) fun v163 =>
    if (v163 : Int) = 2 then (
      j_X12_does_173   1 v11 d)
    else (
      j_X12_does_173   0 v11 d))
theorem t_X12_does {V : zW}  (hT : zo12 V) {x1 : Int} (hx1 : zR x1) {d dz : zD} {rv : Int} (h : f_X12_does  x1 d = some (rv, dz)) : zMet V 12 yX12_does cX12_does 9 (some .boolean) [.ref (zad V 400), .int (zI x1)] d (some (.int (zI rv))) (rv = 0 ∨ rv = 1) dz := by
  refine zMet_by RX12 pn12 rfl (Nat.le_of_ble_eq_true rfl) [some (.ref (zad V 400)), some (.int (zI x1)), none, none, none, none, none, none, none] rfl fun X C E => ?_
  refine zP_iconst (pc := 0) C dX12_does_0 ?_
  refine zP_iload_n (pc := 1) C (x := zI x1) dX12_does_1 rfl rfl ?_
  refine zP_imul (pc := 2) C dX12_does_2 h fun v2 hv2 h => ?_
  refine zP_istore_n (pc := 3) C (L' := [some (.ref (zad V 400)), some (.int (zI x1)), some (.int (zI v2)), none, none, none, none, none, none]) dX12_does_3 rfl (Nat.le_of_ble_eq_true rfl) rfl rfl ?_
  refine zP_aload_n (pc := 4) C (x := zad V 400) dX12_does_4 rfl rfl ?_
  refine zP_getR (pc := 5) (a := 400) (t := 406) C g12_33 dX12_does_5 (s_X12 hT) rfl ?_
  refine zP_iload_n (pc := 8) C (x := zI v2) dX12_does_8 rfl rfl ?_
  refine zP_iconst (pc := 9) C dX12_does_9 ?_
  refine zP_iadd (pc := 10) C dX12_does_10 h fun v10 hv10 h => ?_
  refine zP_iald (pc := 11) (a := 406) C dX12_does_11 (s_X12_statement hT) hv10 h fun v11 hv11 h => ?_
  refine zP_istore_n (pc := 12) C (L' := [some (.ref (zad V 400)), some (.int (zI x1)), some (.int (zI v2)), some (.int (zI v11)), none, none, none, none, none]) dX12_does_12 rfl (Nat.le_of_ble_eq_true rfl) rfl rfl ?_
  refine zP_aload_n (pc := 13) C (x := zad V 400) dX12_does_13 rfl rfl ?_
  refine zP_getR (pc := 14) (a := 400) (t := 406) C g12_33 dX12_does_14 (s_X12 hT) rfl ?_
  refine zP_iload_n (pc := 17) C (x := zI v2) dX12_does_17 rfl rfl ?_
  refine zP_iald (pc := 18) (a := 406) C dX12_does_18 (s_X12_statement hT) hv2 h fun v18 hv18 h => ?_
  refine zP_sw (pc := 19) C dX12_does_19 hv18 rfl rfl h (fun _ h => ⟨156, rfl, ?_⟩) ⟨fun _ h => ⟨56, rfl, ?_⟩, fun _ h => ⟨156, rfl, ?_⟩, fun _ h => ⟨156, rfl, ?_⟩, fun _ h => ⟨94, rfl, ?_⟩, fun _ h => ⟨113, rfl, ?_⟩, fun _ h => ⟨135, rfl, ?_⟩, trivial⟩
  · refine zP_aload_n (pc := 156) C (x := zad V 400) dX12_does_156 rfl rfl ?_
    refine zP_iload_n (pc := 157) C (x := zI v11) dX12_does_157 rfl rfl ?_
    refine zP_aload_n (pc := 158) C (x := zad V 400) dX12_does_158 rfl rfl ?_
    refine zP_getR (pc := 159) (a := 400) (t := 406) C g12_33 dX12_does_159 (s_X12 hT) rfl ?_
    refine zP_iload_n (pc := 162) C (x := zI v2) dX12_does_162 rfl rfl ?_
    refine zP_iald (pc := 163) (a := 406) C dX12_does_163 (s_X12_statement hT) hv2 h fun v163 hv163 h => ?_
    refine zP_iconst (pc := 164) C dX12_does_164 ?_
    refine zP_icmp_ne (pc := 165) (tgt := 172) C dX12_does_165 rfl hv163 (zRk rfl) h (fun _ h => ?_) (fun _ h => ?_)
    · refine zP_iconst (pc := 172) C dX12_does_172 ?_
      exact zP_mask [false, false, false, false, false, false, false, false, false] (wj_X12_does_173 hT C E  (zRk rfl) hv11 h)
    · refine zP_iconst (pc := 168) C dX12_does_168 ?_
      refine zP_goto (pc := 169) (tgt := 173) C dX12_does_169 rfl ?_
      exact zP_mask [false, false, false, false, false, false, false, false, false] (wj_X12_does_173 hT C E  (zRk rfl) hv11 h)
  · refine zP_aload_n (pc := 56) C (x := zad V 400) dX12_does_56 rfl rfl ?_
    refine zP_getR (pc := 57) (a := 400) (t := 401) C g12_13 dX12_does_57 (s_X12 hT) rfl ?_
    refine zP_iconst (pc := 60) C dX12_does_60 ?_
    refine zP_iald (pc := 61) (a := 401) C dX12_does_61 (s_X12_s hT) (zRk rfl) h fun v61 hv61 h => ?_
    refine zP_bipush (pc := 62) C dX12_does_62 rfl ?_
    refine zP_icmp_ne (pc := 64) (tgt := 69) C dX12_does_64 rfl hv61 (zRk rfl) h (fun _ h => ?_) (fun _ h => ?_)
    · refine zP_aload_n (pc := 69) C (x := zad V 400) dX12_does_69 rfl rfl ?_
      refine zP_iload_n (pc := 70) C (x := zI v11) dX12_does_70 rfl rfl ?_
      refine zP_aload_n (pc := 71) C (x := zad V 400) dX12_does_71 rfl rfl ?_
      refine zP_getR (pc := 72) (a := 400) (t := 406) C g12_33 dX12_does_72 (s_X12 hT) rfl ?_
      refine zP_iload_n (pc := 75) C (x := zI v2) dX12_does_75 rfl rfl ?_
      refine zP_iconst (pc := 76) C dX12_does_76 ?_
      refine zP_iadd (pc := 77) C dX12_does_77 h fun v77 hv77 h => ?_
      refine zP_iald (pc := 78) (a := 406) C dX12_does_78 (s_X12_statement hT) hv77 h fun v78 hv78 h => ?_
      refine zP_aload_n (pc := 79) C (x := zad V 400) dX12_does_79 rfl rfl ?_
      refine zP_getR (pc := 80) (a := 400) (t := 406) C g12_33 dX12_does_80 (s_X12 hT) rfl ?_
      refine zP_iload_n (pc := 83) C (x := zI v2) dX12_does_83 rfl rfl ?_
      refine zP_iconst (pc := 84) C dX12_does_84 ?_
      refine zP_iadd (pc := 85) C dX12_does_85 h fun v85 hv85 h => ?_
      refine zP_iald (pc := 86) (a := 406) C dX12_does_86 (s_X12_statement hT) hv85 h fun v86 hv86 h => ?_
      obtain ⟨v87, d1, hc, h⟩ := zc_h h
      refine zP_callV (pc := 87) (As := [.int (zI v11), .int (zI v78), .int (zI v86)]) (st := []) C m12_330 dX12_does_87 (s_X12 hT) rfl (t_X12_postsNow hT hv11 hv78 hv86 hc) ⟨Nat.le_of_ble_eq_true rfl, Nat.le_of_ble_eq_true rfl⟩ rfl (Nat.le_of_ble_eq_true rfl) ⟨Nat.zero_le _, Nat.zero_le _⟩ fun hw => ?_
      have hv87 := hw
      clear hc hw
      show zP V X 9 0 0 90 _ [.int (zI v87)] d1
      revert h
      generalize d1 = d
      intro h
      refine zP_istore (pc := 90) C (L' := [some (.ref (zad V 400)), some (.int (zI x1)), some (.int (zI v2)), some (.int (zI v11)), some (.int (zI v87)), none, none, none, none]) dX12_does_90 (Nat.le_of_ble_eq_true rfl) rfl rfl ?_
      refine zP_iconst (pc := 92) C dX12_does_92 ?_
      exact zP_zret (pc := 93) C E dX12_does_93 (Or.inr rfl) h
    · refine zP_iconst (pc := 67) C dX12_does_67 ?_
      exact zP_zret (pc := 68) C E dX12_does_68 (Or.inl rfl) h
  · refine zP_aload_n (pc := 156) C (x := zad V 400) dX12_does_156 rfl rfl ?_
    refine zP_iload_n (pc := 157) C (x := zI v11) dX12_does_157 rfl rfl ?_
    refine zP_aload_n (pc := 158) C (x := zad V 400) dX12_does_158 rfl rfl ?_
    refine zP_getR (pc := 159) (a := 400) (t := 406) C g12_33 dX12_does_159 (s_X12 hT) rfl ?_
    refine zP_iload_n (pc := 162) C (x := zI v2) dX12_does_162 rfl rfl ?_
    refine zP_iald (pc := 163) (a := 406) C dX12_does_163 (s_X12_statement hT) hv2 h fun v163 hv163 h => ?_
    refine zP_iconst (pc := 164) C dX12_does_164 ?_
    refine zP_icmp_ne (pc := 165) (tgt := 172) C dX12_does_165 rfl hv163 (zRk rfl) h (fun _ h => ?_) (fun _ h => ?_)
    · refine zP_iconst (pc := 172) C dX12_does_172 ?_
      exact zP_mask [false, false, false, false, false, false, false, false, false] (wj_X12_does_173 hT C E  (zRk rfl) hv11 h)
    · refine zP_iconst (pc := 168) C dX12_does_168 ?_
      refine zP_goto (pc := 169) (tgt := 173) C dX12_does_169 rfl ?_
      exact zP_mask [false, false, false, false, false, false, false, false, false] (wj_X12_does_173 hT C E  (zRk rfl) hv11 h)
  · refine zP_aload_n (pc := 156) C (x := zad V 400) dX12_does_156 rfl rfl ?_
    refine zP_iload_n (pc := 157) C (x := zI v11) dX12_does_157 rfl rfl ?_
    refine zP_aload_n (pc := 158) C (x := zad V 400) dX12_does_158 rfl rfl ?_
    refine zP_getR (pc := 159) (a := 400) (t := 406) C g12_33 dX12_does_159 (s_X12 hT) rfl ?_
    refine zP_iload_n (pc := 162) C (x := zI v2) dX12_does_162 rfl rfl ?_
    refine zP_iald (pc := 163) (a := 406) C dX12_does_163 (s_X12_statement hT) hv2 h fun v163 hv163 h => ?_
    refine zP_iconst (pc := 164) C dX12_does_164 ?_
    refine zP_icmp_ne (pc := 165) (tgt := 172) C dX12_does_165 rfl hv163 (zRk rfl) h (fun _ h => ?_) (fun _ h => ?_)
    · refine zP_iconst (pc := 172) C dX12_does_172 ?_
      exact zP_mask [false, false, false, false, false, false, false, false, false] (wj_X12_does_173 hT C E  (zRk rfl) hv11 h)
    · refine zP_iconst (pc := 168) C dX12_does_168 ?_
      refine zP_goto (pc := 169) (tgt := 173) C dX12_does_169 rfl ?_
      exact zP_mask [false, false, false, false, false, false, false, false, false] (wj_X12_does_173 hT C E  (zRk rfl) hv11 h)
  · refine zP_aload_n (pc := 94) C (x := zad V 400) dX12_does_94 rfl rfl ?_
    refine zP_iload_n (pc := 95) C (x := zI v11) dX12_does_95 rfl rfl ?_
    obtain ⟨v96, d1, hc, h⟩ := zc_h h
    refine zP_callV (pc := 96) (As := [.int (zI v11)]) (st := []) C m12_333 dX12_does_96 (s_X12 hT) rfl (t_X12_canRun hT hv11 hc) ⟨Nat.le_of_ble_eq_true rfl, Nat.le_of_ble_eq_true rfl⟩ rfl (Nat.le_of_ble_eq_true rfl) ⟨Nat.zero_le _, Nat.zero_le _⟩ fun hw => ?_
    have hbv96 := hw
    have hv96 := z01 hw
    clear hc hw
    show zP V X 9 0 0 99 _ [.int (zI v96)] d1
    revert h
    generalize d1 = d
    intro h
    refine zP_if_ne (pc := 99) (tgt := 104) C dX12_does_99 rfl hv96 h (fun _ h => ?_) (fun _ h => ?_)
    · refine zP_aload_n (pc := 104) C (x := zad V 400) dX12_does_104 rfl rfl ?_
      refine zP_iload_n (pc := 105) C (x := zI v11) dX12_does_105 rfl rfl ?_
      obtain ⟨v106, d1, hc, h⟩ := zc_h h
      refine zP_callV (pc := 106) (As := [.int (zI v11)]) (st := []) C m12_336 dX12_does_106 (s_X12 hT) rfl (t_X12_runsNow hT hv11 hc) ⟨Nat.le_of_ble_eq_true rfl, Nat.le_of_ble_eq_true rfl⟩ rfl (Nat.le_of_ble_eq_true rfl) ⟨Nat.zero_le _, Nat.zero_le _⟩ fun hw => ?_
      have hv106 := hw
      clear hc hw
      show zP V X 9 0 0 109 _ [.int (zI v106)] d1
      revert h
      generalize d1 = d
      intro h
      refine zP_istore (pc := 109) C (L' := [some (.ref (zad V 400)), some (.int (zI x1)), some (.int (zI v2)), some (.int (zI v11)), none, some (.int (zI v106)), none, none, none]) dX12_does_109 (Nat.le_of_ble_eq_true rfl) rfl rfl ?_
      refine zP_iconst (pc := 111) C dX12_does_111 ?_
      exact zP_zret (pc := 112) C E dX12_does_112 (Or.inr rfl) h
    · refine zP_iconst (pc := 102) C dX12_does_102 ?_
      exact zP_zret (pc := 103) C E dX12_does_103 (Or.inl rfl) h
  · refine zP_aload_n (pc := 113) C (x := zad V 400) dX12_does_113 rfl rfl ?_
    refine zP_getR (pc := 114) (a := 400) (t := 401) C g12_13 dX12_does_114 (s_X12 hT) rfl ?_
    refine zP_iconst (pc := 117) C dX12_does_117 ?_
    refine zP_iald (pc := 118) (a := 401) C dX12_does_118 (s_X12_s hT) (zRk rfl) h fun v118 hv118 h => ?_
    refine zP_bipush (pc := 119) C dX12_does_119 rfl ?_
    refine zP_icmp_ne (pc := 121) (tgt := 126) C dX12_does_121 rfl hv118 (zRk rfl) h (fun _ h => ?_) (fun _ h => ?_)
    · refine zP_aload_n (pc := 126) C (x := zad V 400) dX12_does_126 rfl rfl ?_
      refine zP_iload_n (pc := 127) C (x := zI v11) dX12_does_127 rfl rfl ?_
      obtain ⟨v128, d1, hc, h⟩ := zc_h h
      refine zP_callV (pc := 128) (As := [.int (zI v11)]) (st := []) C m12_339 dX12_does_128 (s_X12 hT) rfl (t_X12_addsPlace hT hv11 hc) ⟨Nat.le_of_ble_eq_true rfl, Nat.le_of_ble_eq_true rfl⟩ rfl (Nat.le_of_ble_eq_true rfl) ⟨Nat.zero_le _, Nat.zero_le _⟩ fun hw => ?_
      have hv128 := hw
      clear hc hw
      show zP V X 9 0 0 131 _ [.int (zI v128)] d1
      revert h
      generalize d1 = d
      intro h
      refine zP_istore (pc := 131) C (L' := [some (.ref (zad V 400)), some (.int (zI x1)), some (.int (zI v2)), some (.int (zI v11)), none, none, some (.int (zI v128)), none, none]) dX12_does_131 (Nat.le_of_ble_eq_true rfl) rfl rfl ?_
      refine zP_iconst (pc := 133) C dX12_does_133 ?_
      exact zP_zret (pc := 134) C E dX12_does_134 (Or.inr rfl) h
    · refine zP_iconst (pc := 124) C dX12_does_124 ?_
      exact zP_zret (pc := 125) C E dX12_does_125 (Or.inl rfl) h
  · refine zP_iload_n (pc := 135) C (x := zI v11) dX12_does_135 rfl rfl ?_
    refine zP_aload_n (pc := 136) C (x := zad V 400) dX12_does_136 rfl rfl ?_
    refine zP_getR (pc := 137) (a := 400) (t := 401) C g12_13 dX12_does_137 (s_X12 hT) rfl ?_
    refine zP_iconst (pc := 140) C dX12_does_140 ?_
    refine zP_iald (pc := 141) (a := 401) C dX12_does_141 (s_X12_s hT) (zRk rfl) h fun v141 hv141 h => ?_
    refine zP_icmp_lt (pc := 142) (tgt := 147) C dX12_does_142 rfl hv11 hv141 h (fun _ h => ?_) (fun _ h => ?_)
    · refine zP_aload_n (pc := 147) C (x := zad V 400) dX12_does_147 rfl rfl ?_
      refine zP_iload_n (pc := 148) C (x := zI v11) dX12_does_148 rfl rfl ?_
      obtain ⟨v149, d1, hc, h⟩ := zc_h h
      refine zP_callV (pc := 149) (As := [.int (zI v11)]) (st := []) C m12_342 dX12_does_149 (s_X12 hT) rfl (t_X12_dropsPlace hT hv11 hc) ⟨Nat.le_of_ble_eq_true rfl, Nat.le_of_ble_eq_true rfl⟩ rfl (Nat.le_of_ble_eq_true rfl) ⟨Nat.zero_le _, Nat.zero_le _⟩ fun hw => ?_
      have hv149 := hw
      clear hc hw
      show zP V X 9 0 0 152 _ [.int (zI v149)] d1
      revert h
      generalize d1 = d
      intro h
      refine zP_istore (pc := 152) C (L' := [some (.ref (zad V 400)), some (.int (zI x1)), some (.int (zI v2)), some (.int (zI v11)), none, none, none, some (.int (zI v149)), none]) dX12_does_152 (Nat.le_of_ble_eq_true rfl) rfl rfl ?_
      refine zP_iconst (pc := 154) C dX12_does_154 ?_
      exact zP_zret (pc := 155) C E dX12_does_155 (Or.inr rfl) h
    · refine zP_iconst (pc := 145) C dX12_does_145 ?_
      exact zP_zret (pc := 146) C E dX12_does_146 (Or.inl rfl) h
def j_X12_keeps_37   (d : zD) : Option (Int × zD) :=
  zl (d 400 5) fun v50 =>
  zl (zw (800 * v50)) fun v53 =>
  zc (f_X12_copies 401 800 404 6400 0 v53 800 d) fun _ d =>
  zl (d 400 5) fun v62 =>
  zl (zw (v62 + 1)) fun v66 =>
  zl (zu d 400 5 v66) fun d =>
  some (0, d)
theorem wj_X12_keeps_37 {V : zW} {X : zX}  (hT : zo12 V) (C : zOk V X cX12_keeps RX12 1 (zrm 1) none) {rv : Int} {dz : zD} (E : zEnd V X none (rv = 0) dz)    {d : zD} (h : j_X12_keeps_37    d = some (rv, dz)) : zP V X 1 0 0 37 [some (.ref (zad V 400))] [] d := by
  refine zP_aload_n (pc := 37) C (x := zad V 400) dX12_keeps_37 rfl rfl ?_
  refine zP_getR (pc := 38) (a := 400) (t := 401) C g12_13 dX12_keeps_38 (s_X12 hT) rfl ?_
  refine zP_iconst (pc := 41) C dX12_keeps_41 ?_
  refine zP_aload_n (pc := 42) C (x := zad V 400) dX12_keeps_42 rfl rfl ?_
  refine zP_getR (pc := 43) (a := 400) (t := 404) C g12_23 dX12_keeps_43 (s_X12 hT) rfl ?_
  refine zP_sipush (pc := 46) C dX12_keeps_46 rfl ?_
  refine zP_aload_n (pc := 49) C (x := zad V 400) dX12_keeps_49 rfl rfl ?_
  refine zP_getI (pc := 50) (a := 400) C g12_294 dX12_keeps_50 (s_X12 hT) rfl h fun v50 hv50 h => ?_
  refine zP_imul (pc := 53) C dX12_keeps_53 h fun v53 hv53 h => ?_
  refine zP_sipush (pc := 54) C dX12_keeps_54 rfl ?_
  obtain ⟨_, d1, hc, h⟩ := zc_h h
  refine zP_callS (pc := 57) (As := [.ref (zad V 401), .int (zI 0), .ref (zad V 404), .int (zI v53), .int (zI 800)]) (st := []) C m12_149 dX12_keeps_57 (t_X12_copies (s_X12_s hT) (s_X12_past hT) (zRk rfl) hv53 (zRk rfl) hc) ⟨Nat.le_of_ble_eq_true rfl, Nat.le_of_ble_eq_true rfl⟩ rfl (Nat.le_of_ble_eq_true rfl) ⟨Nat.zero_le _, Nat.zero_le _⟩ fun hw => ?_
  clear hc hw
  show zP V X 1 0 0 60 _ [] d1
  revert h
  generalize d1 = d
  intro h
  refine zP_aload_n (pc := 60) C (x := zad V 400) dX12_keeps_60 rfl rfl ?_
  refine zP_aload_n (pc := 61) C (x := zad V 400) dX12_keeps_61 rfl rfl ?_
  refine zP_getI (pc := 62) (a := 400) C g12_294 dX12_keeps_62 (s_X12 hT) rfl h fun v62 hv62 h => ?_
  refine zP_iconst (pc := 65) C dX12_keeps_65 ?_
  refine zP_iadd (pc := 66) C dX12_keeps_66 h fun v66 hv66 h => ?_
  refine zP_putI (pc := 67) (a := 400) C p12_294 dX12_keeps_67 (s_X12 hT) rfl hv66 h fun d h => ?_
  exact zP_vret (pc := 70) C E dX12_keeps_70 h
def f_X12_keeps  (d : zD) : Option (Int × zD) :=
  zl (d 400 5) fun v1 =>
  if (v1 : Int) = 8 then (
    zc (f_X12_copies 404 6400 404 6400 800 0 5600 d) fun _ d =>
    zl (d 400 5) fun v29 =>
    zl (zw (v29 - 1)) fun v33 =>
    zl (zu d 400 5 v33) fun d =>
    j_X12_keeps_37    d)
  else (
    j_X12_keeps_37    d)
theorem t_X12_keeps {V : zW}  (hT : zo12 V)   {d dz : zD} {rv : Int} (h : f_X12_keeps   d = some (rv, dz)) : zMet V 1 yX12_keeps cX12_keeps 1 none [.ref (zad V 400)] d none (rv = 0) dz := by
  refine zMet_by RX12 pn12 rfl (Nat.le_of_ble_eq_true rfl) [some (.ref (zad V 400))] rfl fun X C E => ?_
  refine zP_aload_n (pc := 0) C (x := zad V 400) dX12_keeps_0 rfl rfl ?_
  refine zP_getI (pc := 1) (a := 400) C g12_294 dX12_keeps_1 (s_X12 hT) rfl h fun v1 hv1 h => ?_
  refine zP_bipush (pc := 4) C dX12_keeps_4 rfl ?_
  refine zP_icmp_ne (pc := 6) (tgt := 37) C dX12_keeps_6 rfl hv1 (zRk rfl) h (fun _ h => ?_) (fun _ h => ?_)
  · exact zP_mask [true] (wj_X12_keeps_37 hT C E   h)
  · refine zP_aload_n (pc := 9) C (x := zad V 400) dX12_keeps_9 rfl rfl ?_
    refine zP_getR (pc := 10) (a := 400) (t := 404) C g12_23 dX12_keeps_10 (s_X12 hT) rfl ?_
    refine zP_sipush (pc := 13) C dX12_keeps_13 rfl ?_
    refine zP_aload_n (pc := 16) C (x := zad V 400) dX12_keeps_16 rfl rfl ?_
    refine zP_getR (pc := 17) (a := 400) (t := 404) C g12_23 dX12_keeps_17 (s_X12 hT) rfl ?_
    refine zP_iconst (pc := 20) C dX12_keeps_20 ?_
    refine zP_sipush (pc := 21) C dX12_keeps_21 rfl ?_
    obtain ⟨_, d1, hc, h⟩ := zc_h h
    refine zP_callS (pc := 24) (As := [.ref (zad V 404), .int (zI 800), .ref (zad V 404), .int (zI 0), .int (zI 5600)]) (st := []) C m12_149 dX12_keeps_24 (t_X12_copies (s_X12_past hT) (s_X12_past hT) (zRk rfl) (zRk rfl) (zRk rfl) hc) ⟨Nat.le_of_ble_eq_true rfl, Nat.le_of_ble_eq_true rfl⟩ rfl (Nat.le_of_ble_eq_true rfl) ⟨Nat.zero_le _, Nat.zero_le _⟩ fun hw => ?_
    clear hc hw
    show zP V X 1 0 0 27 _ [] d1
    revert h
    generalize d1 = d
    intro h
    refine zP_aload_n (pc := 27) C (x := zad V 400) dX12_keeps_27 rfl rfl ?_
    refine zP_aload_n (pc := 28) C (x := zad V 400) dX12_keeps_28 rfl rfl ?_
    refine zP_getI (pc := 29) (a := 400) C g12_294 dX12_keeps_29 (s_X12 hT) rfl h fun v29 hv29 h => ?_
    refine zP_iconst (pc := 32) C dX12_keeps_32 ?_
    refine zP_isub (pc := 33) C dX12_keeps_33 h fun v33 hv33 h => ?_
    refine zP_putI (pc := 34) (a := 400) C p12_294 dX12_keeps_34 (s_X12 hT) rfl hv33 h fun d h => ?_
    exact zP_mask [true] (wj_X12_keeps_37 hT C E   h)
def l_X12_playScript_50F  (r50 : Int → zD → Option (Int × zD)) (x1 : Int) (d : zD) : Option (Int × zD) :=
  zl (d 400 21) fun v52 =>
  if (v52 : Int) ≤ x1 then (
    some (x1, d))
  else (
    zc (f_X12_does  x1 d) fun v60 d =>
    if (v60 : Int) = 0 then (
      some (x1, d))
    else (
      zl (zw (x1 + 1)) fun v68 =>
      r50 v68 d))
theorem wl_X12_playScript_50F {V : zW} {X : zX}  (hT : zo12 V) (C : zOk V X cX12_playScript RX12 2 (zrm 13) (some .int)) {rv : Int} {dz : zD} (E : zEnd V X (some (.int (zI rv))) (zR rv) dz) {r50 : Int → zD → Option (Int × zD)} (hr50 : ∀ {x1 : Int} {d : zD}, zR x1 → r50 x1 d = some (rv, dz) → zP V X 2 0 0 50 [some (.ref (zad V 400)), some (.int (zI x1))] [] d) {x1 : Int} (hx1 : zR x1) {d : zD} (h : l_X12_playScript_50F  r50 x1 d = some (rv, dz)) : zP V X 2 0 0 50 [some (.ref (zad V 400)), some (.int (zI x1))] [] d := by
  refine zP_iload_n (pc := 50) C (x := zI x1) dX12_playScript_50 rfl rfl ?_
  refine zP_aload_n (pc := 51) C (x := zad V 400) dX12_playScript_51 rfl rfl ?_
  refine zP_getI (pc := 52) (a := 400) C g12_301 dX12_playScript_52 (s_X12 hT) rfl h fun v52 hv52 h => ?_
  refine zP_icmp_ge (pc := 55) (tgt := 73) C dX12_playScript_55 rfl hx1 hv52 h (fun _ h => ?_) (fun _ h => ?_)
  · refine zP_iload_n (pc := 73) C (x := zI x1) dX12_playScript_73 rfl rfl ?_
    exact zP_iret (pc := 74) C E dX12_playScript_74 hx1 h
  · refine zP_aload_n (pc := 58) C (x := zad V 400) dX12_playScript_58 rfl rfl ?_
    refine zP_iload_n (pc := 59) C (x := zI x1) dX12_playScript_59 rfl rfl ?_
    obtain ⟨v60, d1, hc, h⟩ := zc_h h
    refine zP_callV (pc := 60) (As := [.int (zI x1)]) (st := []) C m12_354 dX12_playScript_60 (s_X12 hT) rfl (t_X12_does hT hx1 hc) ⟨Nat.le_of_ble_eq_true rfl, Nat.le_of_ble_eq_true rfl⟩ rfl (Nat.le_of_ble_eq_true rfl) ⟨Nat.zero_le _, Nat.zero_le _⟩ fun hw => ?_
    have hbv60 := hw
    have hv60 := z01 hw
    clear hc hw
    show zP V X 2 0 0 63 _ [.int (zI v60)] d1
    revert h
    generalize d1 = d
    intro h
    refine zP_if_eq (pc := 63) (tgt := 73) C dX12_playScript_63 rfl hv60 h (fun _ h => ?_) (fun _ h => ?_)
    · refine zP_iload_n (pc := 73) C (x := zI x1) dX12_playScript_73 rfl rfl ?_
      exact zP_iret (pc := 74) C E dX12_playScript_74 hx1 h
    · refine zP_iload_n (pc := 66) C (x := zI x1) dX12_playScript_66 rfl rfl ?_
      refine zP_iconst (pc := 67) C dX12_playScript_67 ?_
      refine zP_iadd (pc := 68) C dX12_playScript_68 h fun v68 hv68 h => ?_
      refine zP_istore_n (pc := 69) C (L' := [some (.ref (zad V 400)), some (.int (zI v68))]) dX12_playScript_69 rfl (Nat.le_of_ble_eq_true rfl) rfl rfl ?_
      refine zP_goto (pc := 70) (tgt := 50) C dX12_playScript_70 rfl ?_
      exact zP_mask [true, true] (hr50 hv68 h)
def l_X12_playScript_50   : Nat → Int → zD → Option (Int × zD)
  | 0, _, _ => none
  | q + 1, x1, d => l_X12_playScript_50F   (l_X12_playScript_50   q) x1 d
theorem wl_X12_playScript_50 {V : zW} {X : zX}  (hT : zo12 V) (C : zOk V X cX12_playScript RX12 2 (zrm 13) (some .int)) {rv : Int} {dz : zD} (E : zEnd V X (some (.int (zI rv))) (zR rv) dz)  : ∀ (q : Nat) {x1 : Int} (hx1 : zR x1) {d : zD} (h : l_X12_playScript_50   q x1 d = some (rv, dz)), zP V X 2 0 0 50 [some (.ref (zad V 400)), some (.int (zI x1))] [] d := by
  intro q
  induction q with
  | zero => intro x1 hx1 d h; cases (show (none : Option (Int × zD)) = some (rv, dz) from h)
  | succ q ih =>
    intro x1 hx1 d h
    exact wl_X12_playScript_50F hT C E  (fun  hx1 h => ih hx1 h) hx1 h
def j_X12_playScript_30   (d : zD) : Option (Int × zD) :=
  zl (zu d 400 11 0) fun d =>
  zc (f_X12_isGood   d) fun v36 d =>
  if (v36 : Int) = 0 then (
    some ((-1), d))
  else (
    zc (f_X12_keeps   d) fun _ d =>
    l_X12_playScript_50   zF 0 d)
theorem wj_X12_playScript_30 {V : zW} {X : zX}  (hT : zo12 V) (C : zOk V X cX12_playScript RX12 2 (zrm 13) (some .int)) {rv : Int} {dz : zD} (E : zEnd V X (some (.int (zI rv))) (zR rv) dz)    {d : zD} (h : j_X12_playScript_30    d = some (rv, dz)) : zP V X 2 0 0 30 [some (.ref (zad V 400)), none] [] d := by
  refine zP_aload_n (pc := 30) C (x := zad V 400) dX12_playScript_30 rfl rfl ?_
  refine zP_iconst (pc := 31) C dX12_playScript_31 ?_
  refine zP_putI (pc := 32) (a := 400) C p12_174 dX12_playScript_32 (s_X12 hT) rfl (zRk rfl) h fun d h => ?_
  refine zP_aload_n (pc := 35) C (x := zad V 400) dX12_playScript_35 rfl rfl ?_
  obtain ⟨v36, d1, hc, h⟩ := zc_h h
  refine zP_callV (pc := 36) (As := []) (st := []) C m12_204 dX12_playScript_36 (s_X12 hT) rfl (t_X12_isGood hT  hc) ⟨Nat.le_of_ble_eq_true rfl, Nat.le_of_ble_eq_true rfl⟩ rfl (Nat.le_of_ble_eq_true rfl) ⟨Nat.zero_le _, Nat.zero_le _⟩ fun hw => ?_
  have hbv36 := hw
  have hv36 := z01 hw
  clear hc hw
  show zP V X 2 0 0 39 _ [.int (zI v36)] d1
  revert h
  generalize d1 = d
  intro h
  refine zP_if_ne (pc := 39) (tgt := 44) C dX12_playScript_39 rfl hv36 h (fun _ h => ?_) (fun _ h => ?_)
  · refine zP_aload_n (pc := 44) C (x := zad V 400) dX12_playScript_44 rfl rfl ?_
    obtain ⟨_, d1, hc, h⟩ := zc_h h
    refine zP_callV (pc := 45) (As := []) (st := []) C m12_351 dX12_playScript_45 (s_X12 hT) rfl (t_X12_keeps hT  hc) ⟨Nat.le_of_ble_eq_true rfl, Nat.le_of_ble_eq_true rfl⟩ rfl (Nat.le_of_ble_eq_true rfl) ⟨Nat.zero_le _, Nat.zero_le _⟩ fun hw => ?_
    clear hc hw
    show zP V X 2 0 0 48 _ [] d1
    revert h
    generalize d1 = d
    intro h
    refine zP_iconst (pc := 48) C dX12_playScript_48 ?_
    refine zP_istore_n (pc := 49) C (L' := [some (.ref (zad V 400)), some (.int (zI 0))]) dX12_playScript_49 rfl (Nat.le_of_ble_eq_true rfl) rfl rfl ?_
    exact zP_mask [true, true] (wl_X12_playScript_50 hT C E  zF (zRk rfl) h)
  · refine zP_iconst (pc := 42) C dX12_playScript_42 ?_
    exact zP_iret (pc := 43) C E dX12_playScript_43 (zRk rfl) h
def l_X12_playScript_9F  (r9 : zD → Option (Int × zD)) (d : zD) : Option (Int × zD) :=
  zc (f_X12_isGood   d) fun v10 d =>
  if (v10 : Int) = 0 then (
    j_X12_playScript_30    d)
  else (
    zl (d 400 16) fun v17 =>
    if (v17 : Int) = 0 then (
      j_X12_playScript_30    d)
    else (
      zc (f_X12_readsStatement   d) fun _ d =>
      r9  d))
theorem wl_X12_playScript_9F {V : zW} {X : zX}  (hT : zo12 V) (C : zOk V X cX12_playScript RX12 2 (zrm 13) (some .int)) {rv : Int} {dz : zD} (E : zEnd V X (some (.int (zI rv))) (zR rv) dz) {r9 : zD → Option (Int × zD)} (hr9 : ∀ {d : zD}, r9  d = some (rv, dz) → zP V X 2 0 0 9 [some (.ref (zad V 400)), none] [] d)   {d : zD} (h : l_X12_playScript_9F  r9  d = some (rv, dz)) : zP V X 2 0 0 9 [some (.ref (zad V 400)), none] [] d := by
  refine zP_aload_n (pc := 9) C (x := zad V 400) dX12_playScript_9 rfl rfl ?_
  obtain ⟨v10, d1, hc, h⟩ := zc_h h
  refine zP_callV (pc := 10) (As := []) (st := []) C m12_204 dX12_playScript_10 (s_X12 hT) rfl (t_X12_isGood hT  hc) ⟨Nat.le_of_ble_eq_true rfl, Nat.le_of_ble_eq_true rfl⟩ rfl (Nat.le_of_ble_eq_true rfl) ⟨Nat.zero_le _, Nat.zero_le _⟩ fun hw => ?_
  have hbv10 := hw
  have hv10 := z01 hw
  clear hc hw
  show zP V X 2 0 0 13 _ [.int (zI v10)] d1
  revert h
  generalize d1 = d
  intro h
  refine zP_if_eq (pc := 13) (tgt := 30) C dX12_playScript_13 rfl hv10 h (fun _ h => ?_) (fun _ h => ?_)
  · exact zP_mask [true, false] (wj_X12_playScript_30 hT C E   h)
  · refine zP_aload_n (pc := 16) C (x := zad V 400) dX12_playScript_16 rfl rfl ?_
    refine zP_getI (pc := 17) (a := 400) C g12_198 dX12_playScript_17 (s_X12 hT) rfl h fun v17 hv17 h => ?_
    refine zP_if_eq (pc := 20) (tgt := 30) C dX12_playScript_20 rfl hv17 h (fun _ h => ?_) (fun _ h => ?_)
    · exact zP_mask [true, false] (wj_X12_playScript_30 hT C E   h)
    · refine zP_aload_n (pc := 23) C (x := zad V 400) dX12_playScript_23 rfl rfl ?_
      obtain ⟨_, d1, hc, h⟩ := zc_h h
      refine zP_callV (pc := 24) (As := []) (st := []) C m12_348 dX12_playScript_24 (s_X12 hT) rfl (t_X12_readsStatement hT  hc) ⟨Nat.le_of_ble_eq_true rfl, Nat.le_of_ble_eq_true rfl⟩ rfl (Nat.le_of_ble_eq_true rfl) ⟨Nat.zero_le _, Nat.zero_le _⟩ fun hw => ?_
      clear hc hw
      show zP V X 2 0 0 27 _ [] d1
      revert h
      generalize d1 = d
      intro h
      refine zP_goto (pc := 27) (tgt := 9) C dX12_playScript_27 rfl ?_
      exact zP_mask [true, false] (hr9  h)
def l_X12_playScript_9   : Nat → zD → Option (Int × zD)
  | 0, _ => none
  | q + 1, d => l_X12_playScript_9F   (l_X12_playScript_9   q)  d
theorem wl_X12_playScript_9 {V : zW} {X : zX}  (hT : zo12 V) (C : zOk V X cX12_playScript RX12 2 (zrm 13) (some .int)) {rv : Int} {dz : zD} (E : zEnd V X (some (.int (zI rv))) (zR rv) dz)  : ∀ (q : Nat)   {d : zD} (h : l_X12_playScript_9   q  d = some (rv, dz)), zP V X 2 0 0 9 [some (.ref (zad V 400)), none] [] d := by
  intro q
  induction q with
  | zero => intro   d h; cases (show (none : Option (Int × zD)) = some (rv, dz) from h)
  | succ q ih =>
    intro   d h
    exact wl_X12_playScript_9F hT C E  (fun   h => ih  h)  h
def f_X12_playScript  (d : zD) : Option (Int × zD) :=
  zl (zu d 400 21 0) fun d =>
  zc (f_X12_startsText   d) fun _ d =>
  l_X12_playScript_9   zF  d
theorem t_X12_playScript {V : zW}  (hT : zo12 V)   {d dz : zD} {rv : Int} (h : f_X12_playScript   d = some (rv, dz)) : zMet V 13 yX12_playScript cX12_playScript 2 (some .int) [.ref (zad V 400)] d (some (.int (zI rv))) (zR rv) dz := by
  refine zMet_by RX12 pn12 rfl (Nat.le_of_ble_eq_true rfl) [some (.ref (zad V 400)), none] rfl fun X C E => ?_
  refine zP_aload_n (pc := 0) C (x := zad V 400) dX12_playScript_0 rfl rfl ?_
  refine zP_iconst (pc := 1) C dX12_playScript_1 ?_
  refine zP_putI (pc := 2) (a := 400) C p12_301 dX12_playScript_2 (s_X12 hT) rfl (zRk rfl) h fun d h => ?_
  refine zP_aload_n (pc := 5) C (x := zad V 400) dX12_playScript_5 rfl rfl ?_
  obtain ⟨_, d1, hc, h⟩ := zc_h h
  refine zP_callV (pc := 6) (As := []) (st := []) C m12_288 dX12_playScript_6 (s_X12 hT) rfl (t_X12_startsText hT  hc) ⟨Nat.le_of_ble_eq_true rfl, Nat.le_of_ble_eq_true rfl⟩ rfl (Nat.le_of_ble_eq_true rfl) ⟨Nat.zero_le _, Nat.zero_le _⟩ fun hw => ?_
  clear hc hw
  show zP V X 2 0 0 9 _ [] d1
  revert h
  generalize d1 = d
  intro h
  exact zP_mask [true, false] (wl_X12_playScript_9 hT C E  zF  h)
def l_X12_terminalsWith_5F  (r5 : Int → Int → Int → Int → zD → Option (Int × zD)) (x1 x2 x3 x4 : Int) (d : zD) : Option (Int × zD) :=
  zc (f_X12_many   d) fun v8 d =>
  if (v8 : Int) ≤ x4 then (
    some (x3, d))
  else (
    zc (f_X12_of  x4 x1 d) fun v18 d =>
    if (v18 : Int) = x2 then (
      zl (zw (x3 + 1)) fun v27 =>
      zl (zw (x4 + 1)) fun v29 =>
      r5 x1 x2 v27 v29 d)
    else (
      zl (zw (x4 + 1)) fun v29 =>
      r5 x1 x2 x3 v29 d))
theorem wl_X12_terminalsWith_5F {V : zW} {X : zX}  (hT : zo12 V) (C : zOk V X cX12_terminalsWith RX12 5 (zrm 1) (some .int)) {rv : Int} {dz : zD} (E : zEnd V X (some (.int (zI rv))) (zR rv) dz) {r5 : Int → Int → Int → Int → zD → Option (Int × zD)} (hr5 : ∀ {x1 x2 x3 x4 : Int} {d : zD}, zR x1 → zR x2 → zR x3 → zR x4 → r5 x1 x2 x3 x4 d = some (rv, dz) → zP V X 5 0 0 5 [some (.ref (zad V 400)), some (.int (zI x1)), some (.int (zI x2)), some (.int (zI x3)), some (.int (zI x4))] [] d) {x1 x2 x3 x4 : Int} (hx1 : zR x1) (hx2 : zR x2) (hx3 : zR x3) (hx4 : zR x4) {d : zD} (h : l_X12_terminalsWith_5F  r5 x1 x2 x3 x4 d = some (rv, dz)) : zP V X 5 0 0 5 [some (.ref (zad V 400)), some (.int (zI x1)), some (.int (zI x2)), some (.int (zI x3)), some (.int (zI x4))] [] d := by
  refine zP_iload (pc := 5) C (x := zI x4) dX12_terminalsWith_5 rfl ?_
  refine zP_aload_n (pc := 7) C (x := zad V 400) dX12_terminalsWith_7 rfl rfl ?_
  obtain ⟨v8, d1, hc, h⟩ := zc_h h
  refine zP_callV (pc := 8) (As := []) (st := [.int (zI x4)]) C m12_49 dX12_terminalsWith_8 (s_X12 hT) rfl (t_X12_many hT  hc) ⟨Nat.le_of_ble_eq_true rfl, Nat.le_of_ble_eq_true rfl⟩ rfl (Nat.le_of_ble_eq_true rfl) ⟨Nat.zero_le _, Nat.zero_le _⟩ fun hw => ?_
  have hv8 := hw
  clear hc hw
  show zP V X 5 0 0 11 _ [.int (zI v8), .int (zI x4)] d1
  revert h
  generalize d1 = d
  intro h
  refine zP_icmp_ge (pc := 11) (tgt := 35) C dX12_terminalsWith_11 rfl hx4 hv8 h (fun _ h => ?_) (fun _ h => ?_)
  · refine zP_iload_n (pc := 35) C (x := zI x3) dX12_terminalsWith_35 rfl rfl ?_
    exact zP_iret (pc := 36) C E dX12_terminalsWith_36 hx3 h
  · refine zP_aload_n (pc := 14) C (x := zad V 400) dX12_terminalsWith_14 rfl rfl ?_
    refine zP_iload (pc := 15) C (x := zI x4) dX12_terminalsWith_15 rfl ?_
    refine zP_iload_n (pc := 17) C (x := zI x1) dX12_terminalsWith_17 rfl rfl ?_
    obtain ⟨v18, d1, hc, h⟩ := zc_h h
    refine zP_callV (pc := 18) (As := [.int (zI x4), .int (zI x1)]) (st := []) C m12_57 dX12_terminalsWith_18 (s_X12 hT) rfl (t_X12_of hT hx4 hx1 hc) ⟨Nat.le_of_ble_eq_true rfl, Nat.le_of_ble_eq_true rfl⟩ rfl (Nat.le_of_ble_eq_true rfl) ⟨Nat.zero_le _, Nat.zero_le _⟩ fun hw => ?_
    have hv18 := hw
    clear hc hw
    show zP V X 5 0 0 21 _ [.int (zI v18)] d1
    revert h
    generalize d1 = d
    intro h
    refine zP_iload_n (pc := 21) C (x := zI x2) dX12_terminalsWith_21 rfl rfl ?_
    refine zP_icmp_ne (pc := 22) (tgt := 29) C dX12_terminalsWith_22 rfl hv18 hx2 h (fun _ h => ?_) (fun _ h => ?_)
    · refine zP_iinc (pc := 29) C (x := x4) dX12_terminalsWith_29 rfl (Nat.le_of_ble_eq_true rfl) rfl h fun v29 hv29 h => ?_
      show zP V X 5 0 0 32 [some (.ref (zad V 400)), some (.int (zI x1)), some (.int (zI x2)), some (.int (zI x3)), some (.int (zI v29))] _ _
      refine zP_goto (pc := 32) (tgt := 5) C dX12_terminalsWith_32 rfl ?_
      exact zP_mask [true, true, true, true, true] (hr5 hx1 hx2 hx3 hv29 h)
    · refine zP_iload_n (pc := 25) C (x := zI x3) dX12_terminalsWith_25 rfl rfl ?_
      refine zP_iconst (pc := 26) C dX12_terminalsWith_26 ?_
      refine zP_iadd (pc := 27) C dX12_terminalsWith_27 h fun v27 hv27 h => ?_
      refine zP_istore_n (pc := 28) C (L' := [some (.ref (zad V 400)), some (.int (zI x1)), some (.int (zI x2)), some (.int (zI v27)), some (.int (zI x4))]) dX12_terminalsWith_28 rfl (Nat.le_of_ble_eq_true rfl) rfl rfl ?_
      refine zP_iinc (pc := 29) C (x := x4) dX12_terminalsWith_29 rfl (Nat.le_of_ble_eq_true rfl) rfl h fun v29 hv29 h => ?_
      show zP V X 5 0 0 32 [some (.ref (zad V 400)), some (.int (zI x1)), some (.int (zI x2)), some (.int (zI v27)), some (.int (zI v29))] _ _
      refine zP_goto (pc := 32) (tgt := 5) C dX12_terminalsWith_32 rfl ?_
      exact zP_mask [true, true, true, true, true] (hr5 hx1 hx2 hv27 hv29 h)
def l_X12_terminalsWith_5   : Nat → Int → Int → Int → Int → zD → Option (Int × zD)
  | 0, _, _, _, _, _ => none
  | q + 1, x1, x2, x3, x4, d => l_X12_terminalsWith_5F   (l_X12_terminalsWith_5   q) x1 x2 x3 x4 d
theorem wl_X12_terminalsWith_5 {V : zW} {X : zX}  (hT : zo12 V) (C : zOk V X cX12_terminalsWith RX12 5 (zrm 1) (some .int)) {rv : Int} {dz : zD} (E : zEnd V X (some (.int (zI rv))) (zR rv) dz)  : ∀ (q : Nat) {x1 x2 x3 x4 : Int} (hx1 : zR x1) (hx2 : zR x2) (hx3 : zR x3) (hx4 : zR x4) {d : zD} (h : l_X12_terminalsWith_5   q x1 x2 x3 x4 d = some (rv, dz)), zP V X 5 0 0 5 [some (.ref (zad V 400)), some (.int (zI x1)), some (.int (zI x2)), some (.int (zI x3)), some (.int (zI x4))] [] d := by
  intro q
  induction q with
  | zero => intro x1 x2 x3 x4 hx1 hx2 hx3 hx4 d h; cases (show (none : Option (Int × zD)) = some (rv, dz) from h)
  | succ q ih =>
    intro x1 x2 x3 x4 hx1 hx2 hx3 hx4 d h
    exact wl_X12_terminalsWith_5F hT C E  (fun  hx1 hx2 hx3 hx4 h => ih hx1 hx2 hx3 hx4 h) hx1 hx2 hx3 hx4 h
def f_X12_terminalsWith  (x1 x2 : Int) (d : zD) : Option (Int × zD) :=
  l_X12_terminalsWith_5   zF x1 x2 0 0 d
theorem t_X12_terminalsWith {V : zW}  (hT : zo12 V) {x1 x2 : Int} (hx1 : zR x1) (hx2 : zR x2) {d dz : zD} {rv : Int} (h : f_X12_terminalsWith  x1 x2 d = some (rv, dz)) : zMet V 1 yX12_terminalsWith cX12_terminalsWith 5 (some .int) [.ref (zad V 400), .int (zI x1), .int (zI x2)] d (some (.int (zI rv))) (zR rv) dz := by
  refine zMet_by RX12 pn12 rfl (Nat.le_of_ble_eq_true rfl) [some (.ref (zad V 400)), some (.int (zI x1)), some (.int (zI x2)), none, none] rfl fun X C E => ?_
  refine zP_iconst (pc := 0) C dX12_terminalsWith_0 ?_
  refine zP_istore_n (pc := 1) C (L' := [some (.ref (zad V 400)), some (.int (zI x1)), some (.int (zI x2)), some (.int (zI 0)), none]) dX12_terminalsWith_1 rfl (Nat.le_of_ble_eq_true rfl) rfl rfl ?_
  refine zP_iconst (pc := 2) C dX12_terminalsWith_2 ?_
  refine zP_istore (pc := 3) C (L' := [some (.ref (zad V 400)), some (.int (zI x1)), some (.int (zI x2)), some (.int (zI 0)), some (.int (zI 0))]) dX12_terminalsWith_3 (Nat.le_of_ble_eq_true rfl) rfl rfl ?_
  exact zP_mask [true, true, true, true, true] (wl_X12_terminalsWith_5 hT C E  zF hx1 hx2 (zRk rfl) (zRk rfl) h)
def j_X12_count_16   (x1 s0 : Int) (d : zD) : Option (Int × zD) :=
  zl (zu d 400 0 s0) fun d =>
  zl (d 400 0) fun v20 =>
  if (v20 : Int) = 0 then (
    if (6 : Int) ≤ x1 then (
      if (10 : Int) ≤ x1 then (
        if (x1 : Int) = 10 then (
          zc (f_X12_terminalsWith  4 0 d) fun v65 d =>
          some (v65, d))
        else (
          if (x1 : Int) = 11 then (
            zc (f_X12_terminalsWith  3 0 d) fun v80 d =>
            some (v80, d))
          else (
            zl (d 400 5) fun v87 =>
            some (v87, d))))
      else (
        zl (zw (x1 - 6)) fun v51 =>
        zc (f_X12_inState  v51 d) fun v52 d =>
        some (v52, d)))
    else (
      zg 800 x1 <| zl (d 401 (x1 : Int).toNat) fun v39 =>
      some (v39, d)))
  else (
    some (0, d))
theorem wj_X12_count_16 {V : zW} {X : zX}  (hT : zo12 V) (C : zOk V X cX12_count RX12 2 (zrm 2) (some .int)) {rv : Int} {dz : zD} (E : zEnd V X (some (.int (zI rv))) (zR rv) dz)  {x1 s0 : Int} (hx1 : zR x1) (hs0 : zR s0) {d : zD} (h : j_X12_count_16   x1 s0 d = some (rv, dz)) : zP V X 2 0 0 16 [some (.ref (zad V 400)), some (.int (zI x1))] [.int (zI s0), .ref (zad V 400)] d := by
  refine zP_putI (pc := 16) (a := 400) C p12_1 dX12_count_16 (s_X12 hT) rfl hs0 h fun d h => ?_
  refine zP_aload_n (pc := 19) C (x := zad V 400) dX12_count_19 rfl rfl ?_
  refine zP_getI (pc := 20) (a := 400) C g12_1 dX12_count_20 (s_X12 hT) rfl h fun v20 hv20 h => ?_
  refine zP_if_eq (pc := 23) (tgt := 28) C dX12_count_23 rfl hv20 h (fun _ h => ?_) (fun _ h => ?_)
  · refine zP_iload_n (pc := 28) C (x := zI x1) dX12_count_28 rfl rfl ?_
    refine zP_bipush (pc := 29) C dX12_count_29 rfl ?_
    refine zP_icmp_ge (pc := 31) (tgt := 41) C dX12_count_31 rfl hx1 (zRk rfl) h (fun _ h => ?_) (fun _ h => ?_)
    · refine zP_iload_n (pc := 41) C (x := zI x1) dX12_count_41 rfl rfl ?_
      refine zP_bipush (pc := 42) C dX12_count_42 rfl ?_
      refine zP_icmp_ge (pc := 44) (tgt := 56) C dX12_count_44 rfl hx1 (zRk rfl) h (fun _ h => ?_) (fun _ h => ?_)
      · refine zP_iload_n (pc := 56) C (x := zI x1) dX12_count_56 rfl rfl ?_
        refine zP_bipush (pc := 57) C dX12_count_57 rfl ?_
        refine zP_icmp_ne (pc := 59) (tgt := 71) C dX12_count_59 rfl hx1 (zRk rfl) h (fun _ h => ?_) (fun _ h => ?_)
        · refine zP_iload_n (pc := 71) C (x := zI x1) dX12_count_71 rfl rfl ?_
          refine zP_bipush (pc := 72) C dX12_count_72 rfl ?_
          refine zP_icmp_ne (pc := 74) (tgt := 86) C dX12_count_74 rfl hx1 (zRk rfl) h (fun _ h => ?_) (fun _ h => ?_)
          · refine zP_aload_n (pc := 86) C (x := zad V 400) dX12_count_86 rfl rfl ?_
            refine zP_getI (pc := 87) (a := 400) C g12_294 dX12_count_87 (s_X12 hT) rfl h fun v87 hv87 h => ?_
            exact zP_iret (pc := 90) C E dX12_count_90 hv87 h
          · refine zP_aload_n (pc := 77) C (x := zad V 400) dX12_count_77 rfl rfl ?_
            refine zP_iconst (pc := 78) C dX12_count_78 ?_
            refine zP_iconst (pc := 79) C dX12_count_79 ?_
            obtain ⟨v80, d1, hc, h⟩ := zc_h h
            refine zP_callV (pc := 80) (As := [.int (zI 3), .int (zI 0)]) (st := []) C m12_357 dX12_count_80 (s_X12 hT) rfl (t_X12_terminalsWith hT (zRk rfl) (zRk rfl) hc) ⟨Nat.le_of_ble_eq_true rfl, Nat.le_of_ble_eq_true rfl⟩ rfl (Nat.le_of_ble_eq_true rfl) ⟨Nat.zero_le _, Nat.zero_le _⟩ fun hw => ?_
            have hv80 := hw
            clear hc hw
            show zP V X 2 0 0 83 _ [.int (zI v80)] d1
            revert h
            generalize d1 = d
            intro h
            refine zP_goto (pc := 83) (tgt := 90) C dX12_count_83 rfl ?_
            exact zP_iret (pc := 90) C E dX12_count_90 hv80 h
        · refine zP_aload_n (pc := 62) C (x := zad V 400) dX12_count_62 rfl rfl ?_
          refine zP_iconst (pc := 63) C dX12_count_63 ?_
          refine zP_iconst (pc := 64) C dX12_count_64 ?_
          obtain ⟨v65, d1, hc, h⟩ := zc_h h
          refine zP_callV (pc := 65) (As := [.int (zI 4), .int (zI 0)]) (st := []) C m12_357 dX12_count_65 (s_X12 hT) rfl (t_X12_terminalsWith hT (zRk rfl) (zRk rfl) hc) ⟨Nat.le_of_ble_eq_true rfl, Nat.le_of_ble_eq_true rfl⟩ rfl (Nat.le_of_ble_eq_true rfl) ⟨Nat.zero_le _, Nat.zero_le _⟩ fun hw => ?_
          have hv65 := hw
          clear hc hw
          show zP V X 2 0 0 68 _ [.int (zI v65)] d1
          revert h
          generalize d1 = d
          intro h
          refine zP_goto (pc := 68) (tgt := 90) C dX12_count_68 rfl ?_
          exact zP_iret (pc := 90) C E dX12_count_90 hv65 h
      · refine zP_aload_n (pc := 47) C (x := zad V 400) dX12_count_47 rfl rfl ?_
        refine zP_iload_n (pc := 48) C (x := zI x1) dX12_count_48 rfl rfl ?_
        refine zP_bipush (pc := 49) C dX12_count_49 rfl ?_
        refine zP_isub (pc := 51) C dX12_count_51 h fun v51 hv51 h => ?_
        obtain ⟨v52, d1, hc, h⟩ := zc_h h
        refine zP_callV (pc := 52) (As := [.int (zI v51)]) (st := []) C m12_168 dX12_count_52 (s_X12 hT) rfl (t_X12_inState hT hv51 hc) ⟨Nat.le_of_ble_eq_true rfl, Nat.le_of_ble_eq_true rfl⟩ rfl (Nat.le_of_ble_eq_true rfl) ⟨Nat.zero_le _, Nat.zero_le _⟩ fun hw => ?_
        have hv52 := hw
        clear hc hw
        show zP V X 2 0 0 55 _ [.int (zI v52)] d1
        revert h
        generalize d1 = d
        intro h
        exact zP_iret (pc := 55) C E dX12_count_55 hv52 h
    · refine zP_aload_n (pc := 34) C (x := zad V 400) dX12_count_34 rfl rfl ?_
      refine zP_getR (pc := 35) (a := 400) (t := 401) C g12_13 dX12_count_35 (s_X12 hT) rfl ?_
      refine zP_iload_n (pc := 38) C (x := zI x1) dX12_count_38 rfl rfl ?_
      refine zP_iald (pc := 39) (a := 401) C dX12_count_39 (s_X12_s hT) hx1 h fun v39 hv39 h => ?_
      exact zP_iret (pc := 40) C E dX12_count_40 hv39 h
  · refine zP_iconst (pc := 26) C dX12_count_26 ?_
    exact zP_iret (pc := 27) C E dX12_count_27 (zRk rfl) h
def f_X12_count  (x1 : Int) (d : zD) : Option (Int × zD) :=
  zc (f_X12_isIn  x1 0 12 d) fun v5 d =>
  if (v5 : Int) = 0 then (
    j_X12_count_16   x1 1 d)
  else (
    j_X12_count_16   x1 0 d)
theorem t_X12_count {V : zW}  (hT : zo12 V) {x1 : Int} (hx1 : zR x1) {d dz : zD} {rv : Int} (h : f_X12_count  x1 d = some (rv, dz)) : zMet V 2 yX12_count cX12_count 2 (some .int) [.ref (zad V 400), .int (zI x1)] d (some (.int (zI rv))) (zR rv) dz := by
  refine zMet_by RX12 pn12 rfl (Nat.le_of_ble_eq_true rfl) [some (.ref (zad V 400)), some (.int (zI x1))] rfl fun X C E => ?_
  refine zP_aload_n (pc := 0) C (x := zad V 400) dX12_count_0 rfl rfl ?_
  refine zP_iload_n (pc := 1) C (x := zI x1) dX12_count_1 rfl rfl ?_
  refine zP_iconst (pc := 2) C dX12_count_2 ?_
  refine zP_bipush (pc := 3) C dX12_count_3 rfl ?_
  obtain ⟨v5, d1, hc, h⟩ := zc_h h
  refine zP_callS (pc := 5) (As := [.int (zI x1), .int (zI 0), .int (zI 12)]) (st := [.ref (zad V 400)]) C m12_53 dX12_count_5 (t_X12_isIn  hx1 (zRk rfl) (zRk rfl) hc) ⟨Nat.le_of_ble_eq_true rfl, Nat.le_of_ble_eq_true rfl⟩ rfl (Nat.le_of_ble_eq_true rfl) ⟨Nat.zero_le _, Nat.zero_le _⟩ fun hw => ?_
  have hbv5 := hw
  have hv5 := z01 hw
  clear hc hw
  show zP V X 2 0 0 8 _ [.int (zI v5), .ref (zad V 400)] d1
  revert h
  generalize d1 = d
  intro h
  refine zP_if_eq (pc := 8) (tgt := 15) C dX12_count_8 rfl hv5 h (fun _ h => ?_) (fun _ h => ?_)
  · refine zP_iconst (pc := 15) C dX12_count_15 ?_
    exact zP_mask [true, true] (wj_X12_count_16 hT C E  hx1 (zRk rfl) h)
  · refine zP_iconst (pc := 11) C dX12_count_11 ?_
    refine zP_goto (pc := 12) (tgt := 16) C dX12_count_12 rfl ?_
    exact zP_mask [true, true] (wj_X12_count_16 hT C E  hx1 (zRk rfl) h)
def j_X12_account_16   (x1 s0 : Int) (d : zD) : Option (Int × zD) :=
  zl (zu d 400 0 s0) fun d =>
  zl (d 400 0) fun v20 =>
  if (v20 : Int) = 0 then (
    zl (zw (12 + x1)) fun v33 =>
    zg 800 v33 <| zl (d 401 (v33 : Int).toNat) fun v34 =>
    some (v34, d))
  else (
    some (0, d))
theorem wj_X12_account_16 {V : zW} {X : zX}  (hT : zo12 V) (C : zOk V X cX12_account RX12 2 (zrm 1) (some .int)) {rv : Int} {dz : zD} (E : zEnd V X (some (.int (zI rv))) (zR rv) dz)  {x1 s0 : Int} (hx1 : zR x1) (hs0 : zR s0) {d : zD} (h : j_X12_account_16   x1 s0 d = some (rv, dz)) : zP V X 2 0 0 16 [some (.ref (zad V 400)), some (.int (zI x1))] [.int (zI s0), .ref (zad V 400)] d := by
  refine zP_putI (pc := 16) (a := 400) C p12_1 dX12_account_16 (s_X12 hT) rfl hs0 h fun d h => ?_
  refine zP_aload_n (pc := 19) C (x := zad V 400) dX12_account_19 rfl rfl ?_
  refine zP_getI (pc := 20) (a := 400) C g12_1 dX12_account_20 (s_X12 hT) rfl h fun v20 hv20 h => ?_
  refine zP_if_ne (pc := 23) (tgt := 38) C dX12_account_23 rfl hv20 h (fun _ h => ?_) (fun _ h => ?_)
  · refine zP_iconst (pc := 38) C dX12_account_38 ?_
    exact zP_iret (pc := 39) C E dX12_account_39 (zRk rfl) h
  · refine zP_aload_n (pc := 26) C (x := zad V 400) dX12_account_26 rfl rfl ?_
    refine zP_getR (pc := 27) (a := 400) (t := 401) C g12_13 dX12_account_27 (s_X12 hT) rfl ?_
    refine zP_bipush (pc := 30) C dX12_account_30 rfl ?_
    refine zP_iload_n (pc := 32) C (x := zI x1) dX12_account_32 rfl rfl ?_
    refine zP_iadd (pc := 33) C dX12_account_33 h fun v33 hv33 h => ?_
    refine zP_iald (pc := 34) (a := 401) C dX12_account_34 (s_X12_s hT) hv33 h fun v34 hv34 h => ?_
    refine zP_goto (pc := 35) (tgt := 39) C dX12_account_35 rfl ?_
    exact zP_iret (pc := 39) C E dX12_account_39 hv34 h
def f_X12_account  (x1 : Int) (d : zD) : Option (Int × zD) :=
  zc (f_X12_isIn  x1 0 12 d) fun v5 d =>
  if (v5 : Int) = 0 then (
    j_X12_account_16   x1 1 d)
  else (
    j_X12_account_16   x1 0 d)
theorem t_X12_account {V : zW}  (hT : zo12 V) {x1 : Int} (hx1 : zR x1) {d dz : zD} {rv : Int} (h : f_X12_account  x1 d = some (rv, dz)) : zMet V 1 yX12_account cX12_account 2 (some .int) [.ref (zad V 400), .int (zI x1)] d (some (.int (zI rv))) (zR rv) dz := by
  refine zMet_by RX12 pn12 rfl (Nat.le_of_ble_eq_true rfl) [some (.ref (zad V 400)), some (.int (zI x1))] rfl fun X C E => ?_
  refine zP_aload_n (pc := 0) C (x := zad V 400) dX12_account_0 rfl rfl ?_
  refine zP_iload_n (pc := 1) C (x := zI x1) dX12_account_1 rfl rfl ?_
  refine zP_iconst (pc := 2) C dX12_account_2 ?_
  refine zP_bipush (pc := 3) C dX12_account_3 rfl ?_
  obtain ⟨v5, d1, hc, h⟩ := zc_h h
  refine zP_callS (pc := 5) (As := [.int (zI x1), .int (zI 0), .int (zI 12)]) (st := [.ref (zad V 400)]) C m12_53 dX12_account_5 (t_X12_isIn  hx1 (zRk rfl) (zRk rfl) hc) ⟨Nat.le_of_ble_eq_true rfl, Nat.le_of_ble_eq_true rfl⟩ rfl (Nat.le_of_ble_eq_true rfl) ⟨Nat.zero_le _, Nat.zero_le _⟩ fun hw => ?_
  have hbv5 := hw
  have hv5 := z01 hw
  clear hc hw
  show zP V X 2 0 0 8 _ [.int (zI v5), .ref (zad V 400)] d1
  revert h
  generalize d1 = d
  intro h
  refine zP_if_eq (pc := 8) (tgt := 15) C dX12_account_8 rfl hv5 h (fun _ h => ?_) (fun _ h => ?_)
  · refine zP_iconst (pc := 15) C dX12_account_15 ?_
    exact zP_mask [true, true] (wj_X12_account_16 hT C E  hx1 (zRk rfl) h)
  · refine zP_iconst (pc := 11) C dX12_account_11 ?_
    refine zP_goto (pc := 12) (tgt := 16) C dX12_account_12 rfl ?_
    exact zP_mask [true, true] (wj_X12_account_16 hT C E  hx1 (zRk rfl) h)
def j_X12_setting_15   (x1 s0 : Int) (d : zD) : Option (Int × zD) :=
  zl (zu d 400 0 s0) fun d =>
  zl (d 400 0) fun v19 =>
  if (v19 : Int) = 0 then (
    zl (zw (6 + x1)) fun v32 =>
    zg 800 v32 <| zl (d 401 (v32 : Int).toNat) fun v33 =>
    some (v33, d))
  else (
    some (0, d))
theorem wj_X12_setting_15 {V : zW} {X : zX}  (hT : zo12 V) (C : zOk V X cX12_setting RX12 2 (zrm 1) (some .int)) {rv : Int} {dz : zD} (E : zEnd V X (some (.int (zI rv))) (zR rv) dz)  {x1 s0 : Int} (hx1 : zR x1) (hs0 : zR s0) {d : zD} (h : j_X12_setting_15   x1 s0 d = some (rv, dz)) : zP V X 2 0 0 15 [some (.ref (zad V 400)), some (.int (zI x1))] [.int (zI s0), .ref (zad V 400)] d := by
  refine zP_putI (pc := 15) (a := 400) C p12_1 dX12_setting_15 (s_X12 hT) rfl hs0 h fun d h => ?_
  refine zP_aload_n (pc := 18) C (x := zad V 400) dX12_setting_18 rfl rfl ?_
  refine zP_getI (pc := 19) (a := 400) C g12_1 dX12_setting_19 (s_X12 hT) rfl h fun v19 hv19 h => ?_
  refine zP_if_ne (pc := 22) (tgt := 37) C dX12_setting_22 rfl hv19 h (fun _ h => ?_) (fun _ h => ?_)
  · refine zP_iconst (pc := 37) C dX12_setting_37 ?_
    exact zP_iret (pc := 38) C E dX12_setting_38 (zRk rfl) h
  · refine zP_aload_n (pc := 25) C (x := zad V 400) dX12_setting_25 rfl rfl ?_
    refine zP_getR (pc := 26) (a := 400) (t := 401) C g12_13 dX12_setting_26 (s_X12 hT) rfl ?_
    refine zP_bipush (pc := 29) C dX12_setting_29 rfl ?_
    refine zP_iload_n (pc := 31) C (x := zI x1) dX12_setting_31 rfl rfl ?_
    refine zP_iadd (pc := 32) C dX12_setting_32 h fun v32 hv32 h => ?_
    refine zP_iald (pc := 33) (a := 401) C dX12_setting_33 (s_X12_s hT) hv32 h fun v33 hv33 h => ?_
    refine zP_goto (pc := 34) (tgt := 38) C dX12_setting_34 rfl ?_
    exact zP_iret (pc := 38) C E dX12_setting_38 hv33 h
def f_X12_setting  (x1 : Int) (d : zD) : Option (Int × zD) :=
  zc (f_X12_isIn  x1 0 5 d) fun v4 d =>
  if (v4 : Int) = 0 then (
    j_X12_setting_15   x1 1 d)
  else (
    j_X12_setting_15   x1 0 d)
theorem t_X12_setting {V : zW}  (hT : zo12 V) {x1 : Int} (hx1 : zR x1) {d dz : zD} {rv : Int} (h : f_X12_setting  x1 d = some (rv, dz)) : zMet V 1 yX12_setting cX12_setting 2 (some .int) [.ref (zad V 400), .int (zI x1)] d (some (.int (zI rv))) (zR rv) dz := by
  refine zMet_by RX12 pn12 rfl (Nat.le_of_ble_eq_true rfl) [some (.ref (zad V 400)), some (.int (zI x1))] rfl fun X C E => ?_
  refine zP_aload_n (pc := 0) C (x := zad V 400) dX12_setting_0 rfl rfl ?_
  refine zP_iload_n (pc := 1) C (x := zI x1) dX12_setting_1 rfl rfl ?_
  refine zP_iconst (pc := 2) C dX12_setting_2 ?_
  refine zP_iconst (pc := 3) C dX12_setting_3 ?_
  obtain ⟨v4, d1, hc, h⟩ := zc_h h
  refine zP_callS (pc := 4) (As := [.int (zI x1), .int (zI 0), .int (zI 5)]) (st := [.ref (zad V 400)]) C m12_53 dX12_setting_4 (t_X12_isIn  hx1 (zRk rfl) (zRk rfl) hc) ⟨Nat.le_of_ble_eq_true rfl, Nat.le_of_ble_eq_true rfl⟩ rfl (Nat.le_of_ble_eq_true rfl) ⟨Nat.zero_le _, Nat.zero_le _⟩ fun hw => ?_
  have hbv4 := hw
  have hv4 := z01 hw
  clear hc hw
  show zP V X 2 0 0 7 _ [.int (zI v4), .ref (zad V 400)] d1
  revert h
  generalize d1 = d
  intro h
  refine zP_if_eq (pc := 7) (tgt := 14) C dX12_setting_7 rfl hv4 h (fun _ h => ?_) (fun _ h => ?_)
  · refine zP_iconst (pc := 14) C dX12_setting_14 ?_
    exact zP_mask [true, true] (wj_X12_setting_15 hT C E  hx1 (zRk rfl) h)
  · refine zP_iconst (pc := 10) C dX12_setting_10 ?_
    refine zP_goto (pc := 11) (tgt := 15) C dX12_setting_11 rfl ?_
    exact zP_mask [true, true] (wj_X12_setting_15 hT C E  hx1 (zRk rfl) h)
def l_X12_placesOf_4F  (r4 : Int → Int → Int → zD → Option (Int × zD)) (x1 x2 x3 : Int) (d : zD) : Option (Int × zD) :=
  zg 800 1 <| zl (d 401 (1 : Int).toNat) fun v10 =>
  if (v10 : Int) ≤ x3 then (
    some (x2, d))
  else (
    zl (zw (30 + x3)) fun v21 =>
    zg 800 v21 <| zl (d 401 (v21 : Int).toNat) fun v22 =>
    if (v22 : Int) = x1 then (
      zl (zw (x2 + 1)) fun v29 =>
      zl (zw (x3 + 1)) fun v31 =>
      r4 x1 v29 v31 d)
    else (
      zl (zw (x3 + 1)) fun v31 =>
      r4 x1 x2 v31 d))
theorem wl_X12_placesOf_4F {V : zW} {X : zX}  (hT : zo12 V) (C : zOk V X cX12_placesOf RX12 4 (zrm 0) (some .int)) {rv : Int} {dz : zD} (E : zEnd V X (some (.int (zI rv))) (zR rv) dz) {r4 : Int → Int → Int → zD → Option (Int × zD)} (hr4 : ∀ {x1 x2 x3 : Int} {d : zD}, zR x1 → zR x2 → zR x3 → r4 x1 x2 x3 d = some (rv, dz) → zP V X 4 0 0 4 [some (.ref (zad V 400)), some (.int (zI x1)), some (.int (zI x2)), some (.int (zI x3))] [] d) {x1 x2 x3 : Int} (hx1 : zR x1) (hx2 : zR x2) (hx3 : zR x3) {d : zD} (h : l_X12_placesOf_4F  r4 x1 x2 x3 d = some (rv, dz)) : zP V X 4 0 0 4 [some (.ref (zad V 400)), some (.int (zI x1)), some (.int (zI x2)), some (.int (zI x3))] [] d := by
  refine zP_iload_n (pc := 4) C (x := zI x3) dX12_placesOf_4 rfl rfl ?_
  refine zP_aload_n (pc := 5) C (x := zad V 400) dX12_placesOf_5 rfl rfl ?_
  refine zP_getR (pc := 6) (a := 400) (t := 401) C g12_13 dX12_placesOf_6 (s_X12 hT) rfl ?_
  refine zP_iconst (pc := 9) C dX12_placesOf_9 ?_
  refine zP_iald (pc := 10) (a := 401) C dX12_placesOf_10 (s_X12_s hT) (zRk rfl) h fun v10 hv10 h => ?_
  refine zP_icmp_ge (pc := 11) (tgt := 37) C dX12_placesOf_11 rfl hx3 hv10 h (fun _ h => ?_) (fun _ h => ?_)
  · refine zP_iload_n (pc := 37) C (x := zI x2) dX12_placesOf_37 rfl rfl ?_
    exact zP_iret (pc := 38) C E dX12_placesOf_38 hx2 h
  · refine zP_aload_n (pc := 14) C (x := zad V 400) dX12_placesOf_14 rfl rfl ?_
    refine zP_getR (pc := 15) (a := 400) (t := 401) C g12_13 dX12_placesOf_15 (s_X12 hT) rfl ?_
    refine zP_bipush (pc := 18) C dX12_placesOf_18 rfl ?_
    refine zP_iload_n (pc := 20) C (x := zI x3) dX12_placesOf_20 rfl rfl ?_
    refine zP_iadd (pc := 21) C dX12_placesOf_21 h fun v21 hv21 h => ?_
    refine zP_iald (pc := 22) (a := 401) C dX12_placesOf_22 (s_X12_s hT) hv21 h fun v22 hv22 h => ?_
    refine zP_iload_n (pc := 23) C (x := zI x1) dX12_placesOf_23 rfl rfl ?_
    refine zP_icmp_ne (pc := 24) (tgt := 31) C dX12_placesOf_24 rfl hv22 hx1 h (fun _ h => ?_) (fun _ h => ?_)
    · refine zP_iinc (pc := 31) C (x := x3) dX12_placesOf_31 rfl (Nat.le_of_ble_eq_true rfl) rfl h fun v31 hv31 h => ?_
      show zP V X 4 0 0 34 [some (.ref (zad V 400)), some (.int (zI x1)), some (.int (zI x2)), some (.int (zI v31))] _ _
      refine zP_goto (pc := 34) (tgt := 4) C dX12_placesOf_34 rfl ?_
      exact zP_mask [true, true, true, true] (hr4 hx1 hx2 hv31 h)
    · refine zP_iload_n (pc := 27) C (x := zI x2) dX12_placesOf_27 rfl rfl ?_
      refine zP_iconst (pc := 28) C dX12_placesOf_28 ?_
      refine zP_iadd (pc := 29) C dX12_placesOf_29 h fun v29 hv29 h => ?_
      refine zP_istore_n (pc := 30) C (L' := [some (.ref (zad V 400)), some (.int (zI x1)), some (.int (zI v29)), some (.int (zI x3))]) dX12_placesOf_30 rfl (Nat.le_of_ble_eq_true rfl) rfl rfl ?_
      refine zP_iinc (pc := 31) C (x := x3) dX12_placesOf_31 rfl (Nat.le_of_ble_eq_true rfl) rfl h fun v31 hv31 h => ?_
      show zP V X 4 0 0 34 [some (.ref (zad V 400)), some (.int (zI x1)), some (.int (zI v29)), some (.int (zI v31))] _ _
      refine zP_goto (pc := 34) (tgt := 4) C dX12_placesOf_34 rfl ?_
      exact zP_mask [true, true, true, true] (hr4 hx1 hv29 hv31 h)
def l_X12_placesOf_4   : Nat → Int → Int → Int → zD → Option (Int × zD)
  | 0, _, _, _, _ => none
  | q + 1, x1, x2, x3, d => l_X12_placesOf_4F   (l_X12_placesOf_4   q) x1 x2 x3 d
theorem wl_X12_placesOf_4 {V : zW} {X : zX}  (hT : zo12 V) (C : zOk V X cX12_placesOf RX12 4 (zrm 0) (some .int)) {rv : Int} {dz : zD} (E : zEnd V X (some (.int (zI rv))) (zR rv) dz)  : ∀ (q : Nat) {x1 x2 x3 : Int} (hx1 : zR x1) (hx2 : zR x2) (hx3 : zR x3) {d : zD} (h : l_X12_placesOf_4   q x1 x2 x3 d = some (rv, dz)), zP V X 4 0 0 4 [some (.ref (zad V 400)), some (.int (zI x1)), some (.int (zI x2)), some (.int (zI x3))] [] d := by
  intro q
  induction q with
  | zero => intro x1 x2 x3 hx1 hx2 hx3 d h; cases (show (none : Option (Int × zD)) = some (rv, dz) from h)
  | succ q ih =>
    intro x1 x2 x3 hx1 hx2 hx3 d h
    exact wl_X12_placesOf_4F hT C E  (fun  hx1 hx2 hx3 h => ih hx1 hx2 hx3 h) hx1 hx2 hx3 h
def f_X12_placesOf  (x1 : Int) (d : zD) : Option (Int × zD) :=
  l_X12_placesOf_4   zF x1 0 0 d
theorem t_X12_placesOf {V : zW}  (hT : zo12 V) {x1 : Int} (hx1 : zR x1) {d dz : zD} {rv : Int} (h : f_X12_placesOf  x1 d = some (rv, dz)) : zMet V 0 yX12_placesOf cX12_placesOf 4 (some .int) [.ref (zad V 400), .int (zI x1)] d (some (.int (zI rv))) (zR rv) dz := by
  refine zMet_by RX12 pn12 rfl (Nat.le_of_ble_eq_true rfl) [some (.ref (zad V 400)), some (.int (zI x1)), none, none] rfl fun X C E => ?_
  refine zP_iconst (pc := 0) C dX12_placesOf_0 ?_
  refine zP_istore_n (pc := 1) C (L' := [some (.ref (zad V 400)), some (.int (zI x1)), some (.int (zI 0)), none]) dX12_placesOf_1 rfl (Nat.le_of_ble_eq_true rfl) rfl rfl ?_
  refine zP_iconst (pc := 2) C dX12_placesOf_2 ?_
  refine zP_istore_n (pc := 3) C (L' := [some (.ref (zad V 400)), some (.int (zI x1)), some (.int (zI 0)), some (.int (zI 0))]) dX12_placesOf_3 rfl (Nat.le_of_ble_eq_true rfl) rfl rfl ?_
  exact zP_mask [true, true, true, true] (wl_X12_placesOf_4 hT C E  zF hx1 (zRk rfl) (zRk rfl) h)
def j_X12_may_18   (s0 : Int) (d : zD) : Option (Int × zD) :=
  zl (zu d 400 0 s0) fun d =>
  zl (d 400 0) fun v22 =>
  if (v22 : Int) = 0 then (
    some (1, d))
  else (
    some (0, d))
theorem wj_X12_may_18 {V : zW} {X : zX}  (hT : zo12 V) (C : zOk V X cX12_may RX12 3 (zrm 0) (some .boolean)) {rv : Int} {dz : zD} (E : zEnd V X (some (.int (zI rv))) (rv = 0 ∨ rv = 1) dz)  {s0 : Int} (hs0 : zR s0) {d : zD} (h : j_X12_may_18   s0 d = some (rv, dz)) : zP V X 3 0 0 18 [some (.ref (zad V 400)), none, none] [.int (zI s0), .ref (zad V 400)] d := by
  refine zP_putI (pc := 18) (a := 400) C p12_1 dX12_may_18 (s_X12 hT) rfl hs0 h fun d h => ?_
  refine zP_aload_n (pc := 21) C (x := zad V 400) dX12_may_21 rfl rfl ?_
  refine zP_getI (pc := 22) (a := 400) C g12_1 dX12_may_22 (s_X12 hT) rfl h fun v22 hv22 h => ?_
  refine zP_if_ne (pc := 25) (tgt := 32) C dX12_may_25 rfl hv22 h (fun _ h => ?_) (fun _ h => ?_)
  · refine zP_iconst (pc := 32) C dX12_may_32 ?_
    exact zP_zret (pc := 33) C E dX12_may_33 (Or.inl rfl) h
  · refine zP_iconst (pc := 28) C dX12_may_28 ?_
    refine zP_goto (pc := 29) (tgt := 33) C dX12_may_29 rfl ?_
    exact zP_zret (pc := 33) C E dX12_may_33 (Or.inr rfl) h
def f_X12_may  (x1 x2 : Int) (d : zD) : Option (Int × zD) :=
  if (x1 : Int) = 0 then (
    j_X12_may_18   1 d)
  else (
    if (x2 : Int) = 0 then (
      j_X12_may_18   2 d)
    else (
      j_X12_may_18   0 d))
theorem t_X12_may {V : zW}  (hT : zo12 V) {x1 x2 : Int} (hx1 : zR x1) (hx2 : zR x2) {d dz : zD} {rv : Int} (h : f_X12_may  x1 x2 d = some (rv, dz)) : zMet V 0 yX12_may cX12_may 3 (some .boolean) [.ref (zad V 400), .int (zI x1), .int (zI x2)] d (some (.int (zI rv))) (rv = 0 ∨ rv = 1) dz := by
  refine zMet_by RX12 pn12 rfl (Nat.le_of_ble_eq_true rfl) [some (.ref (zad V 400)), some (.int (zI x1)), some (.int (zI x2))] rfl fun X C E => ?_
  refine zP_aload_n (pc := 0) C (x := zad V 400) dX12_may_0 rfl rfl ?_
  refine zP_iload_n (pc := 1) C (x := zI x1) dX12_may_1 rfl rfl ?_
  refine zP_if_ne (pc := 2) (tgt := 9) C dX12_may_2 rfl hx1 h (fun _ h => ?_) (fun _ h => ?_)
  · refine zP_iload_n (pc := 9) C (x := zI x2) dX12_may_9 rfl rfl ?_
    refine zP_if_eq (pc := 10) (tgt := 17) C dX12_may_10 rfl hx2 h (fun _ h => ?_) (fun _ h => ?_)
    · refine zP_iconst (pc := 17) C dX12_may_17 ?_
      exact zP_mask [true, false, false] (wj_X12_may_18 hT C E  (zRk rfl) h)
    · refine zP_iconst (pc := 13) C dX12_may_13 ?_
      refine zP_goto (pc := 14) (tgt := 18) C dX12_may_14 rfl ?_
      exact zP_mask [true, false, false] (wj_X12_may_18 hT C E  (zRk rfl) h)
  · refine zP_iconst (pc := 5) C dX12_may_5 ?_
    refine zP_goto (pc := 6) (tgt := 18) C dX12_may_6 rfl ?_
    exact zP_mask [true, false, false] (wj_X12_may_18 hT C E  (zRk rfl) h)
def j_X12_terminal_101   (s0 s1 : Int) (d : zD) : Option (Int × zD) :=
  zc (f_X12_of  s1 s0 d) fun v101 d =>
  some (v101, d)
theorem wj_X12_terminal_101 {V : zW} {X : zX}  (hT : zo12 V) (C : zOk V X cX12_terminal RX12 3 (zrm 3) (some .int)) {rv : Int} {dz : zD} (E : zEnd V X (some (.int (zI rv))) (zR rv) dz)  {s0 s1 : Int} (hs0 : zR s0) (hs1 : zR s1) {d : zD} (h : j_X12_terminal_101   s0 s1 d = some (rv, dz)) : zP V X 3 0 0 101 [none, none, none] [.int (zI s0), .int (zI s1), .ref (zad V 400)] d := by
  obtain ⟨v101, d1, hc, h⟩ := zc_h h
  refine zP_callV (pc := 101) (As := [.int (zI s1), .int (zI s0)]) (st := []) C m12_57 dX12_terminal_101 (s_X12 hT) rfl (t_X12_of hT hs1 hs0 hc) ⟨Nat.le_of_ble_eq_true rfl, Nat.le_of_ble_eq_true rfl⟩ rfl (Nat.le_of_ble_eq_true rfl) ⟨Nat.zero_le _, Nat.zero_le _⟩ fun hw => ?_
  have hv101 := hw
  clear hc hw
  show zP V X 3 0 0 104 _ [.int (zI v101)] d1
  revert h
  generalize d1 = d
  intro h
  exact zP_iret (pc := 104) C E dX12_terminal_104 hv101 h
def f_X12_terminal  (x1 x2 : Int) (d : zD) : Option (Int × zD) :=
  zc (f_X12_isTerminal  x1 d) fun v3 d =>
  zc (f_X12_isIn  x2 0 13 d) fun v10 d =>
  zc (f_X12_may  v3 v10 d) fun v13 d =>
  if (v13 : Int) = 0 then (
    some (0, d))
  else (
    if (6 : Int) ≤ x2 then (
      if (9 : Int) ≤ x2 then (
        if (x2 : Int) = 9 then (
          zc (f_X12_placesOf  x1 d) fun v58 d =>
          some (v58, d))
        else (
          if (x2 : Int) = 10 then (
            j_X12_terminal_101   6 x1 d)
          else (
            if (x2 : Int) = 11 then (
              j_X12_terminal_101   7 x1 d)
            else (
              if (x2 : Int) = 12 then (
                j_X12_terminal_101   8 x1 d)
              else (
                j_X12_terminal_101   9 x1 d)))))
      else (
        zl (zw (x2 - 6)) fun v45 =>
        zc (f_X12_inRowMany  x1 v45 d) fun v46 d =>
        some (v46, d)))
    else (
      zc (f_X12_of  x1 x2 d) fun v30 d =>
      some (v30, d)))
theorem t_X12_terminal {V : zW}  (hT : zo12 V) {x1 x2 : Int} (hx1 : zR x1) (hx2 : zR x2) {d dz : zD} {rv : Int} (h : f_X12_terminal  x1 x2 d = some (rv, dz)) : zMet V 3 yX12_terminal cX12_terminal 3 (some .int) [.ref (zad V 400), .int (zI x1), .int (zI x2)] d (some (.int (zI rv))) (zR rv) dz := by
  refine zMet_by RX12 pn12 rfl (Nat.le_of_ble_eq_true rfl) [some (.ref (zad V 400)), some (.int (zI x1)), some (.int (zI x2))] rfl fun X C E => ?_
  refine zP_aload_n (pc := 0) C (x := zad V 400) dX12_terminal_0 rfl rfl ?_
  refine zP_aload_n (pc := 1) C (x := zad V 400) dX12_terminal_1 rfl rfl ?_
  refine zP_iload_n (pc := 2) C (x := zI x1) dX12_terminal_2 rfl rfl ?_
  obtain ⟨v3, d1, hc, h⟩ := zc_h h
  refine zP_callV (pc := 3) (As := [.int (zI x1)]) (st := [.ref (zad V 400)]) C m12_360 dX12_terminal_3 (s_X12 hT) rfl (t_X12_isTerminal hT hx1 hc) ⟨Nat.le_of_ble_eq_true rfl, Nat.le_of_ble_eq_true rfl⟩ rfl (Nat.le_of_ble_eq_true rfl) ⟨Nat.zero_le _, Nat.zero_le _⟩ fun hw => ?_
  have hbv3 := hw
  have hv3 := z01 hw
  clear hc hw
  show zP V X 3 0 0 6 _ [.int (zI v3), .ref (zad V 400)] d1
  revert h
  generalize d1 = d
  intro h
  refine zP_iload_n (pc := 6) C (x := zI x2) dX12_terminal_6 rfl rfl ?_
  refine zP_iconst (pc := 7) C dX12_terminal_7 ?_
  refine zP_bipush (pc := 8) C dX12_terminal_8 rfl ?_
  obtain ⟨v10, d1, hc, h⟩ := zc_h h
  refine zP_callS (pc := 10) (As := [.int (zI x2), .int (zI 0), .int (zI 13)]) (st := [.int (zI v3), .ref (zad V 400)]) C m12_53 dX12_terminal_10 (t_X12_isIn  hx2 (zRk rfl) (zRk rfl) hc) ⟨Nat.le_of_ble_eq_true rfl, Nat.le_of_ble_eq_true rfl⟩ rfl (Nat.le_of_ble_eq_true rfl) ⟨Nat.zero_le _, Nat.zero_le _⟩ fun hw => ?_
  have hbv10 := hw
  have hv10 := z01 hw
  clear hc hw
  show zP V X 3 0 0 13 _ [.int (zI v10), .int (zI v3), .ref (zad V 400)] d1
  revert h
  generalize d1 = d
  intro h
  obtain ⟨v13, d1, hc, h⟩ := zc_h h
  refine zP_callV (pc := 13) (As := [.int (zI v3), .int (zI v10)]) (st := []) C m12_363 dX12_terminal_13 (s_X12 hT) rfl (t_X12_may hT hv3 hv10 hc) ⟨Nat.le_of_ble_eq_true rfl, Nat.le_of_ble_eq_true rfl⟩ rfl (Nat.le_of_ble_eq_true rfl) ⟨Nat.zero_le _, Nat.zero_le _⟩ fun hw => ?_
  have hbv13 := hw
  have hv13 := z01 hw
  clear hc hw
  show zP V X 3 0 0 16 _ [.int (zI v13)] d1
  revert h
  generalize d1 = d
  intro h
  refine zP_if_ne (pc := 16) (tgt := 21) C dX12_terminal_16 rfl hv13 h (fun _ h => ?_) (fun _ h => ?_)
  · refine zP_iload_n (pc := 21) C (x := zI x2) dX12_terminal_21 rfl rfl ?_
    refine zP_bipush (pc := 22) C dX12_terminal_22 rfl ?_
    refine zP_icmp_ge (pc := 24) (tgt := 34) C dX12_terminal_24 rfl hx2 (zRk rfl) h (fun _ h => ?_) (fun _ h => ?_)
    · refine zP_iload_n (pc := 34) C (x := zI x2) dX12_terminal_34 rfl rfl ?_
      refine zP_bipush (pc := 35) C dX12_terminal_35 rfl ?_
      refine zP_icmp_ge (pc := 37) (tgt := 50) C dX12_terminal_37 rfl hx2 (zRk rfl) h (fun _ h => ?_) (fun _ h => ?_)
      · refine zP_iload_n (pc := 50) C (x := zI x2) dX12_terminal_50 rfl rfl ?_
        refine zP_bipush (pc := 51) C dX12_terminal_51 rfl ?_
        refine zP_icmp_ne (pc := 53) (tgt := 64) C dX12_terminal_53 rfl hx2 (zRk rfl) h (fun _ h => ?_) (fun _ h => ?_)
        · refine zP_aload_n (pc := 64) C (x := zad V 400) dX12_terminal_64 rfl rfl ?_
          refine zP_iload_n (pc := 65) C (x := zI x1) dX12_terminal_65 rfl rfl ?_
          refine zP_iload_n (pc := 66) C (x := zI x2) dX12_terminal_66 rfl rfl ?_
          refine zP_bipush (pc := 67) C dX12_terminal_67 rfl ?_
          refine zP_icmp_ne (pc := 69) (tgt := 77) C dX12_terminal_69 rfl hx2 (zRk rfl) h (fun _ h => ?_) (fun _ h => ?_)
          · refine zP_iload_n (pc := 77) C (x := zI x2) dX12_terminal_77 rfl rfl ?_
            refine zP_bipush (pc := 78) C dX12_terminal_78 rfl ?_
            refine zP_icmp_ne (pc := 80) (tgt := 88) C dX12_terminal_80 rfl hx2 (zRk rfl) h (fun _ h => ?_) (fun _ h => ?_)
            · refine zP_iload_n (pc := 88) C (x := zI x2) dX12_terminal_88 rfl rfl ?_
              refine zP_bipush (pc := 89) C dX12_terminal_89 rfl ?_
              refine zP_icmp_ne (pc := 91) (tgt := 99) C dX12_terminal_91 rfl hx2 (zRk rfl) h (fun _ h => ?_) (fun _ h => ?_)
              · refine zP_bipush (pc := 99) C dX12_terminal_99 rfl ?_
                exact zP_mask [false, false, false] (wj_X12_terminal_101 hT C E  (zRk rfl) hx1 h)
              · refine zP_bipush (pc := 94) C dX12_terminal_94 rfl ?_
                refine zP_goto (pc := 96) (tgt := 101) C dX12_terminal_96 rfl ?_
                exact zP_mask [false, false, false] (wj_X12_terminal_101 hT C E  (zRk rfl) hx1 h)
            · refine zP_bipush (pc := 83) C dX12_terminal_83 rfl ?_
              refine zP_goto (pc := 85) (tgt := 101) C dX12_terminal_85 rfl ?_
              exact zP_mask [false, false, false] (wj_X12_terminal_101 hT C E  (zRk rfl) hx1 h)
          · refine zP_bipush (pc := 72) C dX12_terminal_72 rfl ?_
            refine zP_goto (pc := 74) (tgt := 101) C dX12_terminal_74 rfl ?_
            exact zP_mask [false, false, false] (wj_X12_terminal_101 hT C E  (zRk rfl) hx1 h)
        · refine zP_aload_n (pc := 56) C (x := zad V 400) dX12_terminal_56 rfl rfl ?_
          refine zP_iload_n (pc := 57) C (x := zI x1) dX12_terminal_57 rfl rfl ?_
          obtain ⟨v58, d1, hc, h⟩ := zc_h h
          refine zP_callV (pc := 58) (As := [.int (zI x1)]) (st := []) C m12_367 dX12_terminal_58 (s_X12 hT) rfl (t_X12_placesOf hT hx1 hc) ⟨Nat.le_of_ble_eq_true rfl, Nat.le_of_ble_eq_true rfl⟩ rfl (Nat.le_of_ble_eq_true rfl) ⟨Nat.zero_le _, Nat.zero_le _⟩ fun hw => ?_
          have hv58 := hw
          clear hc hw
          show zP V X 3 0 0 61 _ [.int (zI v58)] d1
          revert h
          generalize d1 = d
          intro h
          refine zP_goto (pc := 61) (tgt := 104) C dX12_terminal_61 rfl ?_
          exact zP_iret (pc := 104) C E dX12_terminal_104 hv58 h
      · refine zP_aload_n (pc := 40) C (x := zad V 400) dX12_terminal_40 rfl rfl ?_
        refine zP_iload_n (pc := 41) C (x := zI x1) dX12_terminal_41 rfl rfl ?_
        refine zP_iload_n (pc := 42) C (x := zI x2) dX12_terminal_42 rfl rfl ?_
        refine zP_bipush (pc := 43) C dX12_terminal_43 rfl ?_
        refine zP_isub (pc := 45) C dX12_terminal_45 h fun v45 hv45 h => ?_
        obtain ⟨v46, d1, hc, h⟩ := zc_h h
        refine zP_callV (pc := 46) (As := [.int (zI x1), .int (zI v45)]) (st := []) C m12_115 dX12_terminal_46 (s_X12 hT) rfl (t_X12_inRowMany hT hx1 hv45 hc) ⟨Nat.le_of_ble_eq_true rfl, Nat.le_of_ble_eq_true rfl⟩ rfl (Nat.le_of_ble_eq_true rfl) ⟨Nat.zero_le _, Nat.zero_le _⟩ fun hw => ?_
        have hv46 := hw
        clear hc hw
        show zP V X 3 0 0 49 _ [.int (zI v46)] d1
        revert h
        generalize d1 = d
        intro h
        exact zP_iret (pc := 49) C E dX12_terminal_49 hv46 h
    · refine zP_aload_n (pc := 27) C (x := zad V 400) dX12_terminal_27 rfl rfl ?_
      refine zP_iload_n (pc := 28) C (x := zI x1) dX12_terminal_28 rfl rfl ?_
      refine zP_iload_n (pc := 29) C (x := zI x2) dX12_terminal_29 rfl rfl ?_
      obtain ⟨v30, d1, hc, h⟩ := zc_h h
      refine zP_callV (pc := 30) (As := [.int (zI x1), .int (zI x2)]) (st := []) C m12_57 dX12_terminal_30 (s_X12 hT) rfl (t_X12_of hT hx1 hx2 hc) ⟨Nat.le_of_ble_eq_true rfl, Nat.le_of_ble_eq_true rfl⟩ rfl (Nat.le_of_ble_eq_true rfl) ⟨Nat.zero_le _, Nat.zero_le _⟩ fun hw => ?_
      have hv30 := hw
      clear hc hw
      show zP V X 3 0 0 33 _ [.int (zI v30)] d1
      revert h
      generalize d1 = d
      intro h
      exact zP_iret (pc := 33) C E dX12_terminal_33 hv30 h
  · refine zP_iconst (pc := 19) C dX12_terminal_19 ?_
    exact zP_iret (pc := 20) C E dX12_terminal_20 (zRk rfl) h
def l_X12_lettersOf_4F  (r4 : Int → Int → zD → Option (Int × zD)) (x1 x2 : Int) (d : zD) : Option (Int × zD) :=
  if (x2 : Int) ≤ 0 then (
    some (x1, d))
  else (
    zl (zw (x1 + 1)) fun v10 =>
    zl (zshr x2 5) fun v14 =>
    r4 v10 v14 d)
theorem wl_X12_lettersOf_4F {V : zW} {X : zX}   (C : zOk V X cX12_lettersOf RX12 3 (zrm 0) (some .int)) {rv : Int} {dz : zD} (E : zEnd V X (some (.int (zI rv))) (zR rv) dz) {r4 : Int → Int → zD → Option (Int × zD)} (hr4 : ∀ {x1 x2 : Int} {d : zD}, zR x1 → zR x2 → r4 x1 x2 d = some (rv, dz) → zP V X 3 0 0 4 [none, some (.int (zI x1)), some (.int (zI x2))] [] d) {x1 x2 : Int} (hx1 : zR x1) (hx2 : zR x2) {d : zD} (h : l_X12_lettersOf_4F  r4 x1 x2 d = some (rv, dz)) : zP V X 3 0 0 4 [none, some (.int (zI x1)), some (.int (zI x2))] [] d := by
  refine zP_iload_n (pc := 4) C (x := zI x2) dX12_lettersOf_4 rfl rfl ?_
  refine zP_if_le (pc := 5) (tgt := 19) C dX12_lettersOf_5 rfl hx2 h (fun _ h => ?_) (fun _ h => ?_)
  · refine zP_iload_n (pc := 19) C (x := zI x1) dX12_lettersOf_19 rfl rfl ?_
    exact zP_iret (pc := 20) C E dX12_lettersOf_20 hx1 h
  · refine zP_iload_n (pc := 8) C (x := zI x1) dX12_lettersOf_8 rfl rfl ?_
    refine zP_iconst (pc := 9) C dX12_lettersOf_9 ?_
    refine zP_iadd (pc := 10) C dX12_lettersOf_10 h fun v10 hv10 h => ?_
    refine zP_istore_n (pc := 11) C (L' := [none, some (.int (zI v10)), some (.int (zI x2))]) dX12_lettersOf_11 rfl (Nat.le_of_ble_eq_true rfl) rfl rfl ?_
    refine zP_iload_n (pc := 12) C (x := zI x2) dX12_lettersOf_12 rfl rfl ?_
    refine zP_iconst (pc := 13) C dX12_lettersOf_13 ?_
    refine zP_ishr (pc := 14) C dX12_lettersOf_14 h fun v14 hv14 h => ?_
    refine zP_istore_n (pc := 15) C (L' := [none, some (.int (zI v10)), some (.int (zI v14))]) dX12_lettersOf_15 rfl (Nat.le_of_ble_eq_true rfl) rfl rfl ?_
    refine zP_goto (pc := 16) (tgt := 4) C dX12_lettersOf_16 rfl ?_
    exact zP_mask [false, true, true] (hr4 hv10 hv14 h)
def l_X12_lettersOf_4   : Nat → Int → Int → zD → Option (Int × zD)
  | 0, _, _, _ => none
  | q + 1, x1, x2, d => l_X12_lettersOf_4F   (l_X12_lettersOf_4   q) x1 x2 d
theorem wl_X12_lettersOf_4 {V : zW} {X : zX}   (C : zOk V X cX12_lettersOf RX12 3 (zrm 0) (some .int)) {rv : Int} {dz : zD} (E : zEnd V X (some (.int (zI rv))) (zR rv) dz)  : ∀ (q : Nat) {x1 x2 : Int} (hx1 : zR x1) (hx2 : zR x2) {d : zD} (h : l_X12_lettersOf_4   q x1 x2 d = some (rv, dz)), zP V X 3 0 0 4 [none, some (.int (zI x1)), some (.int (zI x2))] [] d := by
  intro q
  induction q with
  | zero => intro x1 x2 hx1 hx2 d h; cases (show (none : Option (Int × zD)) = some (rv, dz) from h)
  | succ q ih =>
    intro x1 x2 hx1 hx2 d h
    exact wl_X12_lettersOf_4F  C E  (fun  hx1 hx2 h => ih hx1 hx2 h) hx1 hx2 h
def f_X12_lettersOf  (x0 : Int) (d : zD) : Option (Int × zD) :=
  l_X12_lettersOf_4   zF 0 x0 d
theorem t_X12_lettersOf {V : zW}   {x0 : Int} (hx0 : zR x0) {d dz : zD} {rv : Int} (h : f_X12_lettersOf  x0 d = some (rv, dz)) : zMet V 0 yX12_lettersOf cX12_lettersOf 3 (some .int) [.int (zI x0)] d (some (.int (zI rv))) (zR rv) dz := by
  refine zMet_by RX12 pn12 rfl (Nat.le_of_ble_eq_true rfl) [some (.int (zI x0)), none, none] rfl fun X C E => ?_
  refine zP_iconst (pc := 0) C dX12_lettersOf_0 ?_
  refine zP_istore_n (pc := 1) C (L' := [some (.int (zI x0)), some (.int (zI 0)), none]) dX12_lettersOf_1 rfl (Nat.le_of_ble_eq_true rfl) rfl rfl ?_
  refine zP_iload_n (pc := 2) C (x := zI x0) dX12_lettersOf_2 rfl rfl ?_
  refine zP_istore_n (pc := 3) C (L' := [some (.int (zI x0)), some (.int (zI 0)), some (.int (zI x0))]) dX12_lettersOf_3 rfl (Nat.le_of_ble_eq_true rfl) rfl rfl ?_
  exact zP_mask [false, true, true] (wl_X12_lettersOf_4  C E  zF (zRk rfl) hx0 h)
def f_X12_letterOf  (x0 x1 : Int) (d : zD) : Option (Int × zD) :=
  zc (f_X12_lettersOf  x0 d) fun v1 d =>
  zl (zw (v1 - 1)) fun v9 =>
  zc (f_X12_isIn  x1 0 v9 d) fun v10 d =>
  if (v10 : Int) = 0 then (
    some (0, d))
  else (
    zl (zw (v1 - 1)) fun v20 =>
    zl (zw (v20 - x1)) fun v22 =>
    zl (zw (5 * v22)) fun v23 =>
    zl (zshr x0 v23) fun v24 =>
    zl (zand v24 31) fun v27 =>
    some (v27, d))
theorem t_X12_letterOf {V : zW}   {x0 x1 : Int} (hx0 : zR x0) (hx1 : zR x1) {d dz : zD} {rv : Int} (h : f_X12_letterOf  x0 x1 d = some (rv, dz)) : zMet V 1 yX12_letterOf cX12_letterOf 3 (some .int) [.int (zI x0), .int (zI x1)] d (some (.int (zI rv))) (zR rv) dz := by
  refine zMet_by RX12 pn12 rfl (Nat.le_of_ble_eq_true rfl) [some (.int (zI x0)), some (.int (zI x1)), none] rfl fun X C E => ?_
  refine zP_iload_n (pc := 0) C (x := zI x0) dX12_letterOf_0 rfl rfl ?_
  obtain ⟨v1, d1, hc, h⟩ := zc_h h
  refine zP_callS (pc := 1) (As := [.int (zI x0)]) (st := []) C m12_370 dX12_letterOf_1 (t_X12_lettersOf  hx0 hc) ⟨Nat.le_of_ble_eq_true rfl, Nat.le_of_ble_eq_true rfl⟩ rfl (Nat.le_of_ble_eq_true rfl) ⟨Nat.zero_le _, Nat.zero_le _⟩ fun hw => ?_
  have hv1 := hw
  clear hc hw
  show zP V X 3 0 0 4 _ [.int (zI v1)] d1
  revert h
  generalize d1 = d
  intro h
  refine zP_istore_n (pc := 4) C (L' := [some (.int (zI x0)), some (.int (zI x1)), some (.int (zI v1))]) dX12_letterOf_4 rfl (Nat.le_of_ble_eq_true rfl) rfl rfl ?_
  refine zP_iload_n (pc := 5) C (x := zI x1) dX12_letterOf_5 rfl rfl ?_
  refine zP_iconst (pc := 6) C dX12_letterOf_6 ?_
  refine zP_iload_n (pc := 7) C (x := zI v1) dX12_letterOf_7 rfl rfl ?_
  refine zP_iconst (pc := 8) C dX12_letterOf_8 ?_
  refine zP_isub (pc := 9) C dX12_letterOf_9 h fun v9 hv9 h => ?_
  obtain ⟨v10, d1, hc, h⟩ := zc_h h
  refine zP_callS (pc := 10) (As := [.int (zI x1), .int (zI 0), .int (zI v9)]) (st := []) C m12_53 dX12_letterOf_10 (t_X12_isIn  hx1 (zRk rfl) hv9 hc) ⟨Nat.le_of_ble_eq_true rfl, Nat.le_of_ble_eq_true rfl⟩ rfl (Nat.le_of_ble_eq_true rfl) ⟨Nat.zero_le _, Nat.zero_le _⟩ fun hw => ?_
  have hbv10 := hw
  have hv10 := z01 hw
  clear hc hw
  show zP V X 3 0 0 13 _ [.int (zI v10)] d1
  revert h
  generalize d1 = d
  intro h
  refine zP_if_eq (pc := 13) (tgt := 31) C dX12_letterOf_13 rfl hv10 h (fun _ h => ?_) (fun _ h => ?_)
  · refine zP_iconst (pc := 31) C dX12_letterOf_31 ?_
    exact zP_iret (pc := 32) C E dX12_letterOf_32 (zRk rfl) h
  · refine zP_iload_n (pc := 16) C (x := zI x0) dX12_letterOf_16 rfl rfl ?_
    refine zP_iconst (pc := 17) C dX12_letterOf_17 ?_
    refine zP_iload_n (pc := 18) C (x := zI v1) dX12_letterOf_18 rfl rfl ?_
    refine zP_iconst (pc := 19) C dX12_letterOf_19 ?_
    refine zP_isub (pc := 20) C dX12_letterOf_20 h fun v20 hv20 h => ?_
    refine zP_iload_n (pc := 21) C (x := zI x1) dX12_letterOf_21 rfl rfl ?_
    refine zP_isub (pc := 22) C dX12_letterOf_22 h fun v22 hv22 h => ?_
    refine zP_imul (pc := 23) C dX12_letterOf_23 h fun v23 hv23 h => ?_
    refine zP_ishr (pc := 24) C dX12_letterOf_24 h fun v24 hv24 h => ?_
    refine zP_bipush (pc := 25) C dX12_letterOf_25 rfl ?_
    refine zP_iand (pc := 27) C dX12_letterOf_27 h fun v27 hv27 h => ?_
    refine zP_goto (pc := 28) (tgt := 32) C dX12_letterOf_28 rfl ?_
    exact zP_iret (pc := 32) C E dX12_letterOf_32 hv27 h
def f_X12_nameLetter  (x1 x2 : Int) (d : zD) : Option (Int × zD) :=
  zc (f_X12_isTerminal  x1 d) fun v3 d =>
  zc (f_X12_may  v3 1 d) fun v7 d =>
  if (v7 : Int) = 0 then (
    some (0, d))
  else (
    zc (f_X12_of  x1 15 d) fun v17 d =>
    zc (f_X12_letterOf  v17 x2 d) fun v21 d =>
    some (v21, d))
theorem t_X12_nameLetter {V : zW}  (hT : zo12 V) {x1 x2 : Int} (hx1 : zR x1) (hx2 : zR x2) {d dz : zD} {rv : Int} (h : f_X12_nameLetter  x1 x2 d = some (rv, dz)) : zMet V 2 yX12_nameLetter cX12_nameLetter 3 (some .int) [.ref (zad V 400), .int (zI x1), .int (zI x2)] d (some (.int (zI rv))) (zR rv) dz := by
  refine zMet_by RX12 pn12 rfl (Nat.le_of_ble_eq_true rfl) [some (.ref (zad V 400)), some (.int (zI x1)), some (.int (zI x2))] rfl fun X C E => ?_
  refine zP_aload_n (pc := 0) C (x := zad V 400) dX12_nameLetter_0 rfl rfl ?_
  refine zP_aload_n (pc := 1) C (x := zad V 400) dX12_nameLetter_1 rfl rfl ?_
  refine zP_iload_n (pc := 2) C (x := zI x1) dX12_nameLetter_2 rfl rfl ?_
  obtain ⟨v3, d1, hc, h⟩ := zc_h h
  refine zP_callV (pc := 3) (As := [.int (zI x1)]) (st := [.ref (zad V 400)]) C m12_360 dX12_nameLetter_3 (s_X12 hT) rfl (t_X12_isTerminal hT hx1 hc) ⟨Nat.le_of_ble_eq_true rfl, Nat.le_of_ble_eq_true rfl⟩ rfl (Nat.le_of_ble_eq_true rfl) ⟨Nat.zero_le _, Nat.zero_le _⟩ fun hw => ?_
  have hbv3 := hw
  have hv3 := z01 hw
  clear hc hw
  show zP V X 3 0 0 6 _ [.int (zI v3), .ref (zad V 400)] d1
  revert h
  generalize d1 = d
  intro h
  refine zP_iconst (pc := 6) C dX12_nameLetter_6 ?_
  obtain ⟨v7, d1, hc, h⟩ := zc_h h
  refine zP_callV (pc := 7) (As := [.int (zI v3), .int (zI 1)]) (st := []) C m12_363 dX12_nameLetter_7 (s_X12 hT) rfl (t_X12_may hT hv3 (zRk rfl) hc) ⟨Nat.le_of_ble_eq_true rfl, Nat.le_of_ble_eq_true rfl⟩ rfl (Nat.le_of_ble_eq_true rfl) ⟨Nat.zero_le _, Nat.zero_le _⟩ fun hw => ?_
  have hbv7 := hw
  have hv7 := z01 hw
  clear hc hw
  show zP V X 3 0 0 10 _ [.int (zI v7)] d1
  revert h
  generalize d1 = d
  intro h
  refine zP_if_eq (pc := 10) (tgt := 27) C dX12_nameLetter_10 rfl hv7 h (fun _ h => ?_) (fun _ h => ?_)
  · refine zP_iconst (pc := 27) C dX12_nameLetter_27 ?_
    exact zP_iret (pc := 28) C E dX12_nameLetter_28 (zRk rfl) h
  · refine zP_aload_n (pc := 13) C (x := zad V 400) dX12_nameLetter_13 rfl rfl ?_
    refine zP_iload_n (pc := 14) C (x := zI x1) dX12_nameLetter_14 rfl rfl ?_
    refine zP_bipush (pc := 15) C dX12_nameLetter_15 rfl ?_
    obtain ⟨v17, d1, hc, h⟩ := zc_h h
    refine zP_callV (pc := 17) (As := [.int (zI x1), .int (zI 15)]) (st := []) C m12_57 dX12_nameLetter_17 (s_X12 hT) rfl (t_X12_of hT hx1 (zRk rfl) hc) ⟨Nat.le_of_ble_eq_true rfl, Nat.le_of_ble_eq_true rfl⟩ rfl (Nat.le_of_ble_eq_true rfl) ⟨Nat.zero_le _, Nat.zero_le _⟩ fun hw => ?_
    have hv17 := hw
    clear hc hw
    show zP V X 3 0 0 20 _ [.int (zI v17)] d1
    revert h
    generalize d1 = d
    intro h
    refine zP_iload_n (pc := 20) C (x := zI x2) dX12_nameLetter_20 rfl rfl ?_
    obtain ⟨v21, d1, hc, h⟩ := zc_h h
    refine zP_callS (pc := 21) (As := [.int (zI v17), .int (zI x2)]) (st := []) C m12_373 dX12_nameLetter_21 (t_X12_letterOf  hv17 hx2 hc) ⟨Nat.le_of_ble_eq_true rfl, Nat.le_of_ble_eq_true rfl⟩ rfl (Nat.le_of_ble_eq_true rfl) ⟨Nat.zero_le _, Nat.zero_le _⟩ fun hw => ?_
    have hv21 := hw
    clear hc hw
    show zP V X 3 0 0 24 _ [.int (zI v21)] d1
    revert h
    generalize d1 = d
    intro h
    refine zP_goto (pc := 24) (tgt := 28) C dX12_nameLetter_24 rfl ?_
    exact zP_iret (pc := 28) C E dX12_nameLetter_28 hv21 h
def f_X12_message  (x1 x2 : Int) (d : zD) : Option (Int × zD) :=
  zg 800 2 <| zl (d 401 (2 : Int).toNat) fun v8 =>
  zl (zw (v8 - 1)) fun v10 =>
  zc (f_X12_isIn  x1 0 v10 d) fun v11 d =>
  zc (f_X12_isIn  x2 0 7 d) fun v18 d =>
  zc (f_X12_may  v11 v18 d) fun v21 d =>
  if (v21 : Int) = 0 then (
    some (0, d))
  else (
    zc (f_X12_message0  x1 x2 d) fun v30 d =>
    some (v30, d))
theorem t_X12_message {V : zW}  (hT : zo12 V) {x1 x2 : Int} (hx1 : zR x1) (hx2 : zR x2) {d dz : zD} {rv : Int} (h : f_X12_message  x1 x2 d = some (rv, dz)) : zMet V 1 yX12_message cX12_message 3 (some .int) [.ref (zad V 400), .int (zI x1), .int (zI x2)] d (some (.int (zI rv))) (zR rv) dz := by
  refine zMet_by RX12 pn12 rfl (Nat.le_of_ble_eq_true rfl) [some (.ref (zad V 400)), some (.int (zI x1)), some (.int (zI x2))] rfl fun X C E => ?_
  refine zP_aload_n (pc := 0) C (x := zad V 400) dX12_message_0 rfl rfl ?_
  refine zP_iload_n (pc := 1) C (x := zI x1) dX12_message_1 rfl rfl ?_
  refine zP_iconst (pc := 2) C dX12_message_2 ?_
  refine zP_aload_n (pc := 3) C (x := zad V 400) dX12_message_3 rfl rfl ?_
  refine zP_getR (pc := 4) (a := 400) (t := 401) C g12_13 dX12_message_4 (s_X12 hT) rfl ?_
  refine zP_iconst (pc := 7) C dX12_message_7 ?_
  refine zP_iald (pc := 8) (a := 401) C dX12_message_8 (s_X12_s hT) (zRk rfl) h fun v8 hv8 h => ?_
  refine zP_iconst (pc := 9) C dX12_message_9 ?_
  refine zP_isub (pc := 10) C dX12_message_10 h fun v10 hv10 h => ?_
  obtain ⟨v11, d1, hc, h⟩ := zc_h h
  refine zP_callS (pc := 11) (As := [.int (zI x1), .int (zI 0), .int (zI v10)]) (st := [.ref (zad V 400)]) C m12_53 dX12_message_11 (t_X12_isIn  hx1 (zRk rfl) hv10 hc) ⟨Nat.le_of_ble_eq_true rfl, Nat.le_of_ble_eq_true rfl⟩ rfl (Nat.le_of_ble_eq_true rfl) ⟨Nat.zero_le _, Nat.zero_le _⟩ fun hw => ?_
  have hbv11 := hw
  have hv11 := z01 hw
  clear hc hw
  show zP V X 3 0 0 14 _ [.int (zI v11), .ref (zad V 400)] d1
  revert h
  generalize d1 = d
  intro h
  refine zP_iload_n (pc := 14) C (x := zI x2) dX12_message_14 rfl rfl ?_
  refine zP_iconst (pc := 15) C dX12_message_15 ?_
  refine zP_bipush (pc := 16) C dX12_message_16 rfl ?_
  obtain ⟨v18, d1, hc, h⟩ := zc_h h
  refine zP_callS (pc := 18) (As := [.int (zI x2), .int (zI 0), .int (zI 7)]) (st := [.int (zI v11), .ref (zad V 400)]) C m12_53 dX12_message_18 (t_X12_isIn  hx2 (zRk rfl) (zRk rfl) hc) ⟨Nat.le_of_ble_eq_true rfl, Nat.le_of_ble_eq_true rfl⟩ rfl (Nat.le_of_ble_eq_true rfl) ⟨Nat.zero_le _, Nat.zero_le _⟩ fun hw => ?_
  have hbv18 := hw
  have hv18 := z01 hw
  clear hc hw
  show zP V X 3 0 0 21 _ [.int (zI v18), .int (zI v11), .ref (zad V 400)] d1
  revert h
  generalize d1 = d
  intro h
  obtain ⟨v21, d1, hc, h⟩ := zc_h h
  refine zP_callV (pc := 21) (As := [.int (zI v11), .int (zI v18)]) (st := []) C m12_363 dX12_message_21 (s_X12 hT) rfl (t_X12_may hT hv11 hv18 hc) ⟨Nat.le_of_ble_eq_true rfl, Nat.le_of_ble_eq_true rfl⟩ rfl (Nat.le_of_ble_eq_true rfl) ⟨Nat.zero_le _, Nat.zero_le _⟩ fun hw => ?_
  have hbv21 := hw
  have hv21 := z01 hw
  clear hc hw
  show zP V X 3 0 0 24 _ [.int (zI v21)] d1
  revert h
  generalize d1 = d
  intro h
  refine zP_if_eq (pc := 24) (tgt := 36) C dX12_message_24 rfl hv21 h (fun _ h => ?_) (fun _ h => ?_)
  · refine zP_iconst (pc := 36) C dX12_message_36 ?_
    exact zP_iret (pc := 37) C E dX12_message_37 (zRk rfl) h
  · refine zP_aload_n (pc := 27) C (x := zad V 400) dX12_message_27 rfl rfl ?_
    refine zP_iload_n (pc := 28) C (x := zI x1) dX12_message_28 rfl rfl ?_
    refine zP_iload_n (pc := 29) C (x := zI x2) dX12_message_29 rfl rfl ?_
    obtain ⟨v30, d1, hc, h⟩ := zc_h h
    refine zP_callV (pc := 30) (As := [.int (zI x1), .int (zI x2)]) (st := []) C m12_65 dX12_message_30 (s_X12 hT) rfl (t_X12_message0 hT hx1 hx2 hc) ⟨Nat.le_of_ble_eq_true rfl, Nat.le_of_ble_eq_true rfl⟩ rfl (Nat.le_of_ble_eq_true rfl) ⟨Nat.zero_le _, Nat.zero_le _⟩ fun hw => ?_
    have hv30 := hw
    clear hc hw
    show zP V X 3 0 0 33 _ [.int (zI v30)] d1
    revert h
    generalize d1 = d
    intro h
    refine zP_goto (pc := 33) (tgt := 37) C dX12_message_33 rfl ?_
    exact zP_iret (pc := 37) C E dX12_message_37 hv30 h
def f_X12_inRow  (x1 x2 x3 : Int) (d : zD) : Option (Int × zD) :=
  zc (f_X12_isTerminal  x1 d) fun v3 d =>
  zc (f_X12_isIn  x2 0 2 d) fun v9 d =>
  zc (f_X12_may  v3 v9 d) fun v12 d =>
  if (v12 : Int) = 0 then (
    some (0, d))
  else (
    if (0 : Int) ≤ x3 then (
      zc (f_X12_rowAt  x1 x2 x3 d) fun v32 d =>
      some (v32, d))
    else (
      some ((-1), d)))
theorem t_X12_inRow {V : zW}  (hT : zo12 V) {x1 x2 x3 : Int} (hx1 : zR x1) (hx2 : zR x2) (hx3 : zR x3) {d dz : zD} {rv : Int} (h : f_X12_inRow  x1 x2 x3 d = some (rv, dz)) : zMet V 4 yX12_inRow cX12_inRow 4 (some .int) [.ref (zad V 400), .int (zI x1), .int (zI x2), .int (zI x3)] d (some (.int (zI rv))) (zR rv) dz := by
  refine zMet_by RX12 pn12 rfl (Nat.le_of_ble_eq_true rfl) [some (.ref (zad V 400)), some (.int (zI x1)), some (.int (zI x2)), some (.int (zI x3))] rfl fun X C E => ?_
  refine zP_aload_n (pc := 0) C (x := zad V 400) dX12_inRow_0 rfl rfl ?_
  refine zP_aload_n (pc := 1) C (x := zad V 400) dX12_inRow_1 rfl rfl ?_
  refine zP_iload_n (pc := 2) C (x := zI x1) dX12_inRow_2 rfl rfl ?_
  obtain ⟨v3, d1, hc, h⟩ := zc_h h
  refine zP_callV (pc := 3) (As := [.int (zI x1)]) (st := [.ref (zad V 400)]) C m12_360 dX12_inRow_3 (s_X12 hT) rfl (t_X12_isTerminal hT hx1 hc) ⟨Nat.le_of_ble_eq_true rfl, Nat.le_of_ble_eq_true rfl⟩ rfl (Nat.le_of_ble_eq_true rfl) ⟨Nat.zero_le _, Nat.zero_le _⟩ fun hw => ?_
  have hbv3 := hw
  have hv3 := z01 hw
  clear hc hw
  show zP V X 4 0 0 6 _ [.int (zI v3), .ref (zad V 400)] d1
  revert h
  generalize d1 = d
  intro h
  refine zP_iload_n (pc := 6) C (x := zI x2) dX12_inRow_6 rfl rfl ?_
  refine zP_iconst (pc := 7) C dX12_inRow_7 ?_
  refine zP_iconst (pc := 8) C dX12_inRow_8 ?_
  obtain ⟨v9, d1, hc, h⟩ := zc_h h
  refine zP_callS (pc := 9) (As := [.int (zI x2), .int (zI 0), .int (zI 2)]) (st := [.int (zI v3), .ref (zad V 400)]) C m12_53 dX12_inRow_9 (t_X12_isIn  hx2 (zRk rfl) (zRk rfl) hc) ⟨Nat.le_of_ble_eq_true rfl, Nat.le_of_ble_eq_true rfl⟩ rfl (Nat.le_of_ble_eq_true rfl) ⟨Nat.zero_le _, Nat.zero_le _⟩ fun hw => ?_
  have hbv9 := hw
  have hv9 := z01 hw
  clear hc hw
  show zP V X 4 0 0 12 _ [.int (zI v9), .int (zI v3), .ref (zad V 400)] d1
  revert h
  generalize d1 = d
  intro h
  obtain ⟨v12, d1, hc, h⟩ := zc_h h
  refine zP_callV (pc := 12) (As := [.int (zI v3), .int (zI v9)]) (st := []) C m12_363 dX12_inRow_12 (s_X12 hT) rfl (t_X12_may hT hv3 hv9 hc) ⟨Nat.le_of_ble_eq_true rfl, Nat.le_of_ble_eq_true rfl⟩ rfl (Nat.le_of_ble_eq_true rfl) ⟨Nat.zero_le _, Nat.zero_le _⟩ fun hw => ?_
  have hbv12 := hw
  have hv12 := z01 hw
  clear hc hw
  show zP V X 4 0 0 15 _ [.int (zI v12)] d1
  revert h
  generalize d1 = d
  intro h
  refine zP_if_ne (pc := 15) (tgt := 20) C dX12_inRow_15 rfl hv12 h (fun _ h => ?_) (fun _ h => ?_)
  · refine zP_iload_n (pc := 20) C (x := zI x3) dX12_inRow_20 rfl rfl ?_
    refine zP_if_ge (pc := 21) (tgt := 28) C dX12_inRow_21 rfl hx3 h (fun _ h => ?_) (fun _ h => ?_)
    · refine zP_aload_n (pc := 28) C (x := zad V 400) dX12_inRow_28 rfl rfl ?_
      refine zP_iload_n (pc := 29) C (x := zI x1) dX12_inRow_29 rfl rfl ?_
      refine zP_iload_n (pc := 30) C (x := zI x2) dX12_inRow_30 rfl rfl ?_
      refine zP_iload_n (pc := 31) C (x := zI x3) dX12_inRow_31 rfl rfl ?_
      obtain ⟨v32, d1, hc, h⟩ := zc_h h
      refine zP_callV (pc := 32) (As := [.int (zI x1), .int (zI x2), .int (zI x3)]) (st := []) C m12_78 dX12_inRow_32 (s_X12 hT) rfl (t_X12_rowAt hT hx1 hx2 hx3 hc) ⟨Nat.le_of_ble_eq_true rfl, Nat.le_of_ble_eq_true rfl⟩ rfl (Nat.le_of_ble_eq_true rfl) ⟨Nat.zero_le _, Nat.zero_le _⟩ fun hw => ?_
      have hv32 := hw
      clear hc hw
      show zP V X 4 0 0 35 _ [.int (zI v32)] d1
      revert h
      generalize d1 = d
      intro h
      exact zP_iret (pc := 35) C E dX12_inRow_35 hv32 h
    · refine zP_iconst (pc := 24) C dX12_inRow_24 ?_
      refine zP_goto (pc := 25) (tgt := 35) C dX12_inRow_25 rfl ?_
      exact zP_iret (pc := 35) C E dX12_inRow_35 (zRk rfl) h
  · refine zP_iconst (pc := 18) C dX12_inRow_18 ?_
    exact zP_iret (pc := 19) C E dX12_inRow_19 (zRk rfl) h
def f_X12_place  (x1 : Int) (d : zD) : Option (Int × zD) :=
  zg 800 1 <| zl (d 401 (1 : Int).toNat) fun v8 =>
  zl (zw (v8 - 1)) fun v10 =>
  zc (f_X12_isIn  x1 0 v10 d) fun v11 d =>
  zc (f_X12_may  v11 1 d) fun v15 d =>
  if (v15 : Int) = 0 then (
    some (0, d))
  else (
    zl (zw (30 + x1)) fun v28 =>
    zg 800 v28 <| zl (d 401 (v28 : Int).toNat) fun v29 =>
    some (v29, d))
theorem t_X12_place {V : zW}  (hT : zo12 V) {x1 : Int} (hx1 : zR x1) {d dz : zD} {rv : Int} (h : f_X12_place  x1 d = some (rv, dz)) : zMet V 1 yX12_place cX12_place 2 (some .int) [.ref (zad V 400), .int (zI x1)] d (some (.int (zI rv))) (zR rv) dz := by
  refine zMet_by RX12 pn12 rfl (Nat.le_of_ble_eq_true rfl) [some (.ref (zad V 400)), some (.int (zI x1))] rfl fun X C E => ?_
  refine zP_aload_n (pc := 0) C (x := zad V 400) dX12_place_0 rfl rfl ?_
  refine zP_iload_n (pc := 1) C (x := zI x1) dX12_place_1 rfl rfl ?_
  refine zP_iconst (pc := 2) C dX12_place_2 ?_
  refine zP_aload_n (pc := 3) C (x := zad V 400) dX12_place_3 rfl rfl ?_
  refine zP_getR (pc := 4) (a := 400) (t := 401) C g12_13 dX12_place_4 (s_X12 hT) rfl ?_
  refine zP_iconst (pc := 7) C dX12_place_7 ?_
  refine zP_iald (pc := 8) (a := 401) C dX12_place_8 (s_X12_s hT) (zRk rfl) h fun v8 hv8 h => ?_
  refine zP_iconst (pc := 9) C dX12_place_9 ?_
  refine zP_isub (pc := 10) C dX12_place_10 h fun v10 hv10 h => ?_
  obtain ⟨v11, d1, hc, h⟩ := zc_h h
  refine zP_callS (pc := 11) (As := [.int (zI x1), .int (zI 0), .int (zI v10)]) (st := [.ref (zad V 400)]) C m12_53 dX12_place_11 (t_X12_isIn  hx1 (zRk rfl) hv10 hc) ⟨Nat.le_of_ble_eq_true rfl, Nat.le_of_ble_eq_true rfl⟩ rfl (Nat.le_of_ble_eq_true rfl) ⟨Nat.zero_le _, Nat.zero_le _⟩ fun hw => ?_
  have hbv11 := hw
  have hv11 := z01 hw
  clear hc hw
  show zP V X 2 0 0 14 _ [.int (zI v11), .ref (zad V 400)] d1
  revert h
  generalize d1 = d
  intro h
  refine zP_iconst (pc := 14) C dX12_place_14 ?_
  obtain ⟨v15, d1, hc, h⟩ := zc_h h
  refine zP_callV (pc := 15) (As := [.int (zI v11), .int (zI 1)]) (st := []) C m12_363 dX12_place_15 (s_X12 hT) rfl (t_X12_may hT hv11 (zRk rfl) hc) ⟨Nat.le_of_ble_eq_true rfl, Nat.le_of_ble_eq_true rfl⟩ rfl (Nat.le_of_ble_eq_true rfl) ⟨Nat.zero_le _, Nat.zero_le _⟩ fun hw => ?_
  have hbv15 := hw
  have hv15 := z01 hw
  clear hc hw
  show zP V X 2 0 0 18 _ [.int (zI v15)] d1
  revert h
  generalize d1 = d
  intro h
  refine zP_if_eq (pc := 18) (tgt := 33) C dX12_place_18 rfl hv15 h (fun _ h => ?_) (fun _ h => ?_)
  · refine zP_iconst (pc := 33) C dX12_place_33 ?_
    exact zP_iret (pc := 34) C E dX12_place_34 (zRk rfl) h
  · refine zP_aload_n (pc := 21) C (x := zad V 400) dX12_place_21 rfl rfl ?_
    refine zP_getR (pc := 22) (a := 400) (t := 401) C g12_13 dX12_place_22 (s_X12 hT) rfl ?_
    refine zP_bipush (pc := 25) C dX12_place_25 rfl ?_
    refine zP_iload_n (pc := 27) C (x := zI x1) dX12_place_27 rfl rfl ?_
    refine zP_iadd (pc := 28) C dX12_place_28 h fun v28 hv28 h => ?_
    refine zP_iald (pc := 29) (a := 401) C dX12_place_29 (s_X12_s hT) hv28 h fun v29 hv29 h => ?_
    refine zP_goto (pc := 30) (tgt := 34) C dX12_place_30 rfl ?_
    exact zP_iret (pc := 34) C E dX12_place_34 hv29 h
def l_X12_off_9F  (r9 : Int → Int → zD → Option (Int × zD)) (x1 x2 : Int) (d : zD) : Option (Int × zD) :=
  zc (f_X12_many   d) fun v11 d =>
  if (v11 : Int) ≤ x2 then (
    some (x1, d))
  else (
    zc (f_X12_of  x2 4 d) fun v20 d =>
    if (v20 : Int) = 0 then (
      zl (zshl 1 x2) fun v29 =>
      zl (zor x1 v29) fun v30 =>
      zl (zw (x2 + 1)) fun v32 =>
      r9 v30 v32 d)
    else (
      zl (zw (x2 + 1)) fun v32 =>
      r9 x1 v32 d))
theorem wl_X12_off_9F {V : zW} {X : zX}  (hT : zo12 V) (C : zOk V X cX12_off RX12 3 (zrm 1) (some .int)) {rv : Int} {dz : zD} (E : zEnd V X (some (.int (zI rv))) (zR rv) dz) {r9 : Int → Int → zD → Option (Int × zD)} (hr9 : ∀ {x1 x2 : Int} {d : zD}, zR x1 → zR x2 → r9 x1 x2 d = some (rv, dz) → zP V X 3 0 0 9 [some (.ref (zad V 400)), some (.int (zI x1)), some (.int (zI x2))] [] d) {x1 x2 : Int} (hx1 : zR x1) (hx2 : zR x2) {d : zD} (h : l_X12_off_9F  r9 x1 x2 d = some (rv, dz)) : zP V X 3 0 0 9 [some (.ref (zad V 400)), some (.int (zI x1)), some (.int (zI x2))] [] d := by
  refine zP_iload_n (pc := 9) C (x := zI x2) dX12_off_9 rfl rfl ?_
  refine zP_aload_n (pc := 10) C (x := zad V 400) dX12_off_10 rfl rfl ?_
  obtain ⟨v11, d1, hc, h⟩ := zc_h h
  refine zP_callV (pc := 11) (As := []) (st := [.int (zI x2)]) C m12_49 dX12_off_11 (s_X12 hT) rfl (t_X12_many hT  hc) ⟨Nat.le_of_ble_eq_true rfl, Nat.le_of_ble_eq_true rfl⟩ rfl (Nat.le_of_ble_eq_true rfl) ⟨Nat.zero_le _, Nat.zero_le _⟩ fun hw => ?_
  have hv11 := hw
  clear hc hw
  show zP V X 3 0 0 14 _ [.int (zI v11), .int (zI x2)] d1
  revert h
  generalize d1 = d
  intro h
  refine zP_icmp_ge (pc := 14) (tgt := 38) C dX12_off_14 rfl hx2 hv11 h (fun _ h => ?_) (fun _ h => ?_)
  · refine zP_iload_n (pc := 38) C (x := zI x1) dX12_off_38 rfl rfl ?_
    exact zP_iret (pc := 39) C E dX12_off_39 hx1 h
  · refine zP_aload_n (pc := 17) C (x := zad V 400) dX12_off_17 rfl rfl ?_
    refine zP_iload_n (pc := 18) C (x := zI x2) dX12_off_18 rfl rfl ?_
    refine zP_iconst (pc := 19) C dX12_off_19 ?_
    obtain ⟨v20, d1, hc, h⟩ := zc_h h
    refine zP_callV (pc := 20) (As := [.int (zI x2), .int (zI 4)]) (st := []) C m12_57 dX12_off_20 (s_X12 hT) rfl (t_X12_of hT hx2 (zRk rfl) hc) ⟨Nat.le_of_ble_eq_true rfl, Nat.le_of_ble_eq_true rfl⟩ rfl (Nat.le_of_ble_eq_true rfl) ⟨Nat.zero_le _, Nat.zero_le _⟩ fun hw => ?_
    have hv20 := hw
    clear hc hw
    show zP V X 3 0 0 23 _ [.int (zI v20)] d1
    revert h
    generalize d1 = d
    intro h
    refine zP_if_ne (pc := 23) (tgt := 32) C dX12_off_23 rfl hv20 h (fun _ h => ?_) (fun _ h => ?_)
    · refine zP_iinc (pc := 32) C (x := x2) dX12_off_32 rfl (Nat.le_of_ble_eq_true rfl) rfl h fun v32 hv32 h => ?_
      show zP V X 3 0 0 35 [some (.ref (zad V 400)), some (.int (zI x1)), some (.int (zI v32))] _ _
      refine zP_goto (pc := 35) (tgt := 9) C dX12_off_35 rfl ?_
      exact zP_mask [true, true, true] (hr9 hx1 hv32 h)
    · refine zP_iload_n (pc := 26) C (x := zI x1) dX12_off_26 rfl rfl ?_
      refine zP_iconst (pc := 27) C dX12_off_27 ?_
      refine zP_iload_n (pc := 28) C (x := zI x2) dX12_off_28 rfl rfl ?_
      refine zP_ishl (pc := 29) C dX12_off_29 h fun v29 hv29 h => ?_
      refine zP_ior (pc := 30) C dX12_off_30 h fun v30 hv30 h => ?_
      refine zP_istore_n (pc := 31) C (L' := [some (.ref (zad V 400)), some (.int (zI v30)), some (.int (zI x2))]) dX12_off_31 rfl (Nat.le_of_ble_eq_true rfl) rfl rfl ?_
      refine zP_iinc (pc := 32) C (x := x2) dX12_off_32 rfl (Nat.le_of_ble_eq_true rfl) rfl h fun v32 hv32 h => ?_
      show zP V X 3 0 0 35 [some (.ref (zad V 400)), some (.int (zI v30)), some (.int (zI v32))] _ _
      refine zP_goto (pc := 35) (tgt := 9) C dX12_off_35 rfl ?_
      exact zP_mask [true, true, true] (hr9 hv30 hv32 h)
def l_X12_off_9   : Nat → Int → Int → zD → Option (Int × zD)
  | 0, _, _, _ => none
  | q + 1, x1, x2, d => l_X12_off_9F   (l_X12_off_9   q) x1 x2 d
theorem wl_X12_off_9 {V : zW} {X : zX}  (hT : zo12 V) (C : zOk V X cX12_off RX12 3 (zrm 1) (some .int)) {rv : Int} {dz : zD} (E : zEnd V X (some (.int (zI rv))) (zR rv) dz)  : ∀ (q : Nat) {x1 x2 : Int} (hx1 : zR x1) (hx2 : zR x2) {d : zD} (h : l_X12_off_9   q x1 x2 d = some (rv, dz)), zP V X 3 0 0 9 [some (.ref (zad V 400)), some (.int (zI x1)), some (.int (zI x2))] [] d := by
  intro q
  induction q with
  | zero => intro x1 x2 hx1 hx2 d h; cases (show (none : Option (Int × zD)) = some (rv, dz) from h)
  | succ q ih =>
    intro x1 x2 hx1 hx2 d h
    exact wl_X12_off_9F hT C E  (fun  hx1 hx2 h => ih hx1 hx2 h) hx1 hx2 h
def f_X12_off  (d : zD) : Option (Int × zD) :=
  zl (zu d 400 0 0) fun d =>
  l_X12_off_9   zF 0 0 d
theorem t_X12_off {V : zW}  (hT : zo12 V)   {d dz : zD} {rv : Int} (h : f_X12_off   d = some (rv, dz)) : zMet V 1 yX12_off cX12_off 3 (some .int) [.ref (zad V 400)] d (some (.int (zI rv))) (zR rv) dz := by
  refine zMet_by RX12 pn12 rfl (Nat.le_of_ble_eq_true rfl) [some (.ref (zad V 400)), none, none] rfl fun X C E => ?_
  refine zP_aload_n (pc := 0) C (x := zad V 400) dX12_off_0 rfl rfl ?_
  refine zP_iconst (pc := 1) C dX12_off_1 ?_
  refine zP_putI (pc := 2) (a := 400) C p12_1 dX12_off_2 (s_X12 hT) rfl (zRk rfl) h fun d h => ?_
  refine zP_iconst (pc := 5) C dX12_off_5 ?_
  refine zP_istore_n (pc := 6) C (L' := [some (.ref (zad V 400)), some (.int (zI 0)), none]) dX12_off_6 rfl (Nat.le_of_ble_eq_true rfl) rfl rfl ?_
  refine zP_iconst (pc := 7) C dX12_off_7 ?_
  refine zP_istore_n (pc := 8) C (L' := [some (.ref (zad V 400)), some (.int (zI 0)), some (.int (zI 0))]) dX12_off_8 rfl (Nat.le_of_ble_eq_true rfl) rfl rfl ?_
  exact zP_mask [true, true, true] (wl_X12_off_9 hT C E  zF (zRk rfl) (zRk rfl) h)
def f_X12_turn  (x1 x2 : Int) (d : zD) : Option (Int × zD) :=
  zg 800 29 <| zl (d 401 (29 : Int).toNat) fun v9 =>
  zl (zw (v9 - 1)) fun v11 =>
  zc (f_X12_isIn  x1 0 v11 d) fun v12 d =>
  zc (f_X12_isIn  x2 0 4 d) fun v18 d =>
  zc (f_X12_may  v12 v18 d) fun v21 d =>
  if (v21 : Int) = 0 then (
    some (0, d))
  else (
    zg 800 29 <| zl (d 401 (29 : Int).toNat) fun v41 =>
    zl (zw (v41 - 1)) fun v43 =>
    zl (zw (v43 - x1)) fun v45 =>
    zl (zw (5 * v45)) fun v46 =>
    zl (zw (700 + v46)) fun v47 =>
    zl (zw (v47 + x2)) fun v49 =>
    zg 800 v49 <| zl (d 401 (v49 : Int).toNat) fun v50 =>
    some (v50, d))
theorem t_X12_turn {V : zW}  (hT : zo12 V) {x1 x2 : Int} (hx1 : zR x1) (hx2 : zR x2) {d dz : zD} {rv : Int} (h : f_X12_turn  x1 x2 d = some (rv, dz)) : zMet V 1 yX12_turn cX12_turn 3 (some .int) [.ref (zad V 400), .int (zI x1), .int (zI x2)] d (some (.int (zI rv))) (zR rv) dz := by
  refine zMet_by RX12 pn12 rfl (Nat.le_of_ble_eq_true rfl) [some (.ref (zad V 400)), some (.int (zI x1)), some (.int (zI x2))] rfl fun X C E => ?_
  refine zP_aload_n (pc := 0) C (x := zad V 400) dX12_turn_0 rfl rfl ?_
  refine zP_iload_n (pc := 1) C (x := zI x1) dX12_turn_1 rfl rfl ?_
  refine zP_iconst (pc := 2) C dX12_turn_2 ?_
  refine zP_aload_n (pc := 3) C (x := zad V 400) dX12_turn_3 rfl rfl ?_
  refine zP_getR (pc := 4) (a := 400) (t := 401) C g12_13 dX12_turn_4 (s_X12 hT) rfl ?_
  refine zP_bipush (pc := 7) C dX12_turn_7 rfl ?_
  refine zP_iald (pc := 9) (a := 401) C dX12_turn_9 (s_X12_s hT) (zRk rfl) h fun v9 hv9 h => ?_
  refine zP_iconst (pc := 10) C dX12_turn_10 ?_
  refine zP_isub (pc := 11) C dX12_turn_11 h fun v11 hv11 h => ?_
  obtain ⟨v12, d1, hc, h⟩ := zc_h h
  refine zP_callS (pc := 12) (As := [.int (zI x1), .int (zI 0), .int (zI v11)]) (st := [.ref (zad V 400)]) C m12_53 dX12_turn_12 (t_X12_isIn  hx1 (zRk rfl) hv11 hc) ⟨Nat.le_of_ble_eq_true rfl, Nat.le_of_ble_eq_true rfl⟩ rfl (Nat.le_of_ble_eq_true rfl) ⟨Nat.zero_le _, Nat.zero_le _⟩ fun hw => ?_
  have hbv12 := hw
  have hv12 := z01 hw
  clear hc hw
  show zP V X 3 0 0 15 _ [.int (zI v12), .ref (zad V 400)] d1
  revert h
  generalize d1 = d
  intro h
  refine zP_iload_n (pc := 15) C (x := zI x2) dX12_turn_15 rfl rfl ?_
  refine zP_iconst (pc := 16) C dX12_turn_16 ?_
  refine zP_iconst (pc := 17) C dX12_turn_17 ?_
  obtain ⟨v18, d1, hc, h⟩ := zc_h h
  refine zP_callS (pc := 18) (As := [.int (zI x2), .int (zI 0), .int (zI 4)]) (st := [.int (zI v12), .ref (zad V 400)]) C m12_53 dX12_turn_18 (t_X12_isIn  hx2 (zRk rfl) (zRk rfl) hc) ⟨Nat.le_of_ble_eq_true rfl, Nat.le_of_ble_eq_true rfl⟩ rfl (Nat.le_of_ble_eq_true rfl) ⟨Nat.zero_le _, Nat.zero_le _⟩ fun hw => ?_
  have hbv18 := hw
  have hv18 := z01 hw
  clear hc hw
  show zP V X 3 0 0 21 _ [.int (zI v18), .int (zI v12), .ref (zad V 400)] d1
  revert h
  generalize d1 = d
  intro h
  obtain ⟨v21, d1, hc, h⟩ := zc_h h
  refine zP_callV (pc := 21) (As := [.int (zI v12), .int (zI v18)]) (st := []) C m12_363 dX12_turn_21 (s_X12 hT) rfl (t_X12_may hT hv12 hv18 hc) ⟨Nat.le_of_ble_eq_true rfl, Nat.le_of_ble_eq_true rfl⟩ rfl (Nat.le_of_ble_eq_true rfl) ⟨Nat.zero_le _, Nat.zero_le _⟩ fun hw => ?_
  have hbv21 := hw
  have hv21 := z01 hw
  clear hc hw
  show zP V X 3 0 0 24 _ [.int (zI v21)] d1
  revert h
  generalize d1 = d
  intro h
  refine zP_if_eq (pc := 24) (tgt := 54) C dX12_turn_24 rfl hv21 h (fun _ h => ?_) (fun _ h => ?_)
  · refine zP_iconst (pc := 54) C dX12_turn_54 ?_
    exact zP_iret (pc := 55) C E dX12_turn_55 (zRk rfl) h
  · refine zP_aload_n (pc := 27) C (x := zad V 400) dX12_turn_27 rfl rfl ?_
    refine zP_getR (pc := 28) (a := 400) (t := 401) C g12_13 dX12_turn_28 (s_X12 hT) rfl ?_
    refine zP_sipush (pc := 31) C dX12_turn_31 rfl ?_
    refine zP_iconst (pc := 34) C dX12_turn_34 ?_
    refine zP_aload_n (pc := 35) C (x := zad V 400) dX12_turn_35 rfl rfl ?_
    refine zP_getR (pc := 36) (a := 400) (t := 401) C g12_13 dX12_turn_36 (s_X12 hT) rfl ?_
    refine zP_bipush (pc := 39) C dX12_turn_39 rfl ?_
    refine zP_iald (pc := 41) (a := 401) C dX12_turn_41 (s_X12_s hT) (zRk rfl) h fun v41 hv41 h => ?_
    refine zP_iconst (pc := 42) C dX12_turn_42 ?_
    refine zP_isub (pc := 43) C dX12_turn_43 h fun v43 hv43 h => ?_
    refine zP_iload_n (pc := 44) C (x := zI x1) dX12_turn_44 rfl rfl ?_
    refine zP_isub (pc := 45) C dX12_turn_45 h fun v45 hv45 h => ?_
    refine zP_imul (pc := 46) C dX12_turn_46 h fun v46 hv46 h => ?_
    refine zP_iadd (pc := 47) C dX12_turn_47 h fun v47 hv47 h => ?_
    refine zP_iload_n (pc := 48) C (x := zI x2) dX12_turn_48 rfl rfl ?_
    refine zP_iadd (pc := 49) C dX12_turn_49 h fun v49 hv49 h => ?_
    refine zP_iald (pc := 50) (a := 401) C dX12_turn_50 (s_X12_s hT) hv49 h fun v50 hv50 h => ?_
    refine zP_goto (pc := 51) (tgt := 55) C dX12_turn_51 rfl ?_
    exact zP_iret (pc := 55) C E dX12_turn_55 hv50 h
def f_X12_nextKind  (d : zD) : Option (Int × zD) :=
  zl (zu d 400 0 0) fun d =>
  zc (f_X12_next   d) fun v6 d =>
  some (v6, d)
theorem t_X12_nextKind {V : zW}  (hT : zo12 V)   {d dz : zD} {rv : Int} (h : f_X12_nextKind   d = some (rv, dz)) : zMet V 5 yX12_nextKind cX12_nextKind 1 (some .int) [.ref (zad V 400)] d (some (.int (zI rv))) (zR rv) dz := by
  refine zMet_by RX12 pn12 rfl (Nat.le_of_ble_eq_true rfl) [some (.ref (zad V 400))] rfl fun X C E => ?_
  refine zP_aload_n (pc := 0) C (x := zad V 400) dX12_nextKind_0 rfl rfl ?_
  refine zP_iconst (pc := 1) C dX12_nextKind_1 ?_
  refine zP_putI (pc := 2) (a := 400) C p12_1 dX12_nextKind_2 (s_X12 hT) rfl (zRk rfl) h fun d h => ?_
  refine zP_aload_n (pc := 5) C (x := zad V 400) dX12_nextKind_5 rfl rfl ?_
  obtain ⟨v6, d1, hc, h⟩ := zc_h h
  refine zP_callV (pc := 6) (As := []) (st := []) C m12_153 dX12_nextKind_6 (s_X12 hT) rfl (t_X12_next hT  hc) ⟨Nat.le_of_ble_eq_true rfl, Nat.le_of_ble_eq_true rfl⟩ rfl (Nat.le_of_ble_eq_true rfl) ⟨Nat.zero_le _, Nat.zero_le _⟩ fun hw => ?_
  have hv6 := hw
  clear hc hw
  show zP V X 1 0 0 9 _ [.int (zI v6)] d1
  revert h
  generalize d1 = d
  intro h
  exact zP_iret (pc := 9) C E dX12_nextKind_9 hv6 h
def f_X12_nextTerminal  (d : zD) : Option (Int × zD) :=
  zl (zu d 400 0 0) fun d =>
  zc (f_X12_next   d) fun v6 d =>
  if (v6 : Int) = 3 then (
    some ((-1), d))
  else (
    zl (d 400 8) fun v18 =>
    some (v18, d))
theorem t_X12_nextTerminal {V : zW}  (hT : zo12 V)   {d dz : zD} {rv : Int} (h : f_X12_nextTerminal   d = some (rv, dz)) : zMet V 5 yX12_nextTerminal cX12_nextTerminal 1 (some .int) [.ref (zad V 400)] d (some (.int (zI rv))) (zR rv) dz := by
  refine zMet_by RX12 pn12 rfl (Nat.le_of_ble_eq_true rfl) [some (.ref (zad V 400))] rfl fun X C E => ?_
  refine zP_aload_n (pc := 0) C (x := zad V 400) dX12_nextTerminal_0 rfl rfl ?_
  refine zP_iconst (pc := 1) C dX12_nextTerminal_1 ?_
  refine zP_putI (pc := 2) (a := 400) C p12_1 dX12_nextTerminal_2 (s_X12 hT) rfl (zRk rfl) h fun d h => ?_
  refine zP_aload_n (pc := 5) C (x := zad V 400) dX12_nextTerminal_5 rfl rfl ?_
  obtain ⟨v6, d1, hc, h⟩ := zc_h h
  refine zP_callV (pc := 6) (As := []) (st := []) C m12_153 dX12_nextTerminal_6 (s_X12 hT) rfl (t_X12_next hT  hc) ⟨Nat.le_of_ble_eq_true rfl, Nat.le_of_ble_eq_true rfl⟩ rfl (Nat.le_of_ble_eq_true rfl) ⟨Nat.zero_le _, Nat.zero_le _⟩ fun hw => ?_
  have hv6 := hw
  clear hc hw
  show zP V X 1 0 0 9 _ [.int (zI v6)] d1
  revert h
  generalize d1 = d
  intro h
  refine zP_iconst (pc := 9) C dX12_nextTerminal_9 ?_
  refine zP_icmp_ne (pc := 10) (tgt := 17) C dX12_nextTerminal_10 rfl hv6 (zRk rfl) h (fun _ h => ?_) (fun _ h => ?_)
  · refine zP_aload_n (pc := 17) C (x := zad V 400) dX12_nextTerminal_17 rfl rfl ?_
    refine zP_getI (pc := 18) (a := 400) C g12_140 dX12_nextTerminal_18 (s_X12 hT) rfl h fun v18 hv18 h => ?_
    exact zP_iret (pc := 21) C E dX12_nextTerminal_21 hv18 h
  · refine zP_iconst (pc := 13) C dX12_nextTerminal_13 ?_
    refine zP_goto (pc := 14) (tgt := 21) C dX12_nextTerminal_14 rfl ?_
    exact zP_iret (pc := 21) C E dX12_nextTerminal_21 (zRk rfl) h
def f_X12_gap  (d : zD) : Option (Int × zD) :=
  zl (zu d 400 0 0) fun d =>
  zg 800 2 <| zl (d 401 (2 : Int).toNat) fun v10 =>
  zc (f_X12_inState  0 d) fun v13 d =>
  zl (zw (v10 - v13)) fun v16 =>
  zc (f_X12_inState  1 d) fun v19 d =>
  zl (zw (v16 - v19)) fun v22 =>
  zc (f_X12_inState  2 d) fun v25 d =>
  zl (zw (v22 - v25)) fun v28 =>
  zc (f_X12_inState  3 d) fun v31 d =>
  zl (zw (v28 - v31)) fun v34 =>
  some (v34, d)
theorem t_X12_gap {V : zW}  (hT : zo12 V)   {d dz : zD} {rv : Int} (h : f_X12_gap   d = some (rv, dz)) : zMet V 2 yX12_gap cX12_gap 1 (some .int) [.ref (zad V 400)] d (some (.int (zI rv))) (zR rv) dz := by
  refine zMet_by RX12 pn12 rfl (Nat.le_of_ble_eq_true rfl) [some (.ref (zad V 400))] rfl fun X C E => ?_
  refine zP_aload_n (pc := 0) C (x := zad V 400) dX12_gap_0 rfl rfl ?_
  refine zP_iconst (pc := 1) C dX12_gap_1 ?_
  refine zP_putI (pc := 2) (a := 400) C p12_1 dX12_gap_2 (s_X12 hT) rfl (zRk rfl) h fun d h => ?_
  refine zP_aload_n (pc := 5) C (x := zad V 400) dX12_gap_5 rfl rfl ?_
  refine zP_getR (pc := 6) (a := 400) (t := 401) C g12_13 dX12_gap_6 (s_X12 hT) rfl ?_
  refine zP_iconst (pc := 9) C dX12_gap_9 ?_
  refine zP_iald (pc := 10) (a := 401) C dX12_gap_10 (s_X12_s hT) (zRk rfl) h fun v10 hv10 h => ?_
  refine zP_aload_n (pc := 11) C (x := zad V 400) dX12_gap_11 rfl rfl ?_
  refine zP_iconst (pc := 12) C dX12_gap_12 ?_
  obtain ⟨v13, d1, hc, h⟩ := zc_h h
  refine zP_callV (pc := 13) (As := [.int (zI 0)]) (st := [.int (zI v10)]) C m12_168 dX12_gap_13 (s_X12 hT) rfl (t_X12_inState hT (zRk rfl) hc) ⟨Nat.le_of_ble_eq_true rfl, Nat.le_of_ble_eq_true rfl⟩ rfl (Nat.le_of_ble_eq_true rfl) ⟨Nat.zero_le _, Nat.zero_le _⟩ fun hw => ?_
  have hv13 := hw
  clear hc hw
  show zP V X 1 0 0 16 _ [.int (zI v13), .int (zI v10)] d1
  revert h
  generalize d1 = d
  intro h
  refine zP_isub (pc := 16) C dX12_gap_16 h fun v16 hv16 h => ?_
  refine zP_aload_n (pc := 17) C (x := zad V 400) dX12_gap_17 rfl rfl ?_
  refine zP_iconst (pc := 18) C dX12_gap_18 ?_
  obtain ⟨v19, d1, hc, h⟩ := zc_h h
  refine zP_callV (pc := 19) (As := [.int (zI 1)]) (st := [.int (zI v16)]) C m12_168 dX12_gap_19 (s_X12 hT) rfl (t_X12_inState hT (zRk rfl) hc) ⟨Nat.le_of_ble_eq_true rfl, Nat.le_of_ble_eq_true rfl⟩ rfl (Nat.le_of_ble_eq_true rfl) ⟨Nat.zero_le _, Nat.zero_le _⟩ fun hw => ?_
  have hv19 := hw
  clear hc hw
  show zP V X 1 0 0 22 _ [.int (zI v19), .int (zI v16)] d1
  revert h
  generalize d1 = d
  intro h
  refine zP_isub (pc := 22) C dX12_gap_22 h fun v22 hv22 h => ?_
  refine zP_aload_n (pc := 23) C (x := zad V 400) dX12_gap_23 rfl rfl ?_
  refine zP_iconst (pc := 24) C dX12_gap_24 ?_
  obtain ⟨v25, d1, hc, h⟩ := zc_h h
  refine zP_callV (pc := 25) (As := [.int (zI 2)]) (st := [.int (zI v22)]) C m12_168 dX12_gap_25 (s_X12 hT) rfl (t_X12_inState hT (zRk rfl) hc) ⟨Nat.le_of_ble_eq_true rfl, Nat.le_of_ble_eq_true rfl⟩ rfl (Nat.le_of_ble_eq_true rfl) ⟨Nat.zero_le _, Nat.zero_le _⟩ fun hw => ?_
  have hv25 := hw
  clear hc hw
  show zP V X 1 0 0 28 _ [.int (zI v25), .int (zI v22)] d1
  revert h
  generalize d1 = d
  intro h
  refine zP_isub (pc := 28) C dX12_gap_28 h fun v28 hv28 h => ?_
  refine zP_aload_n (pc := 29) C (x := zad V 400) dX12_gap_29 rfl rfl ?_
  refine zP_iconst (pc := 30) C dX12_gap_30 ?_
  obtain ⟨v31, d1, hc, h⟩ := zc_h h
  refine zP_callV (pc := 31) (As := [.int (zI 3)]) (st := [.int (zI v28)]) C m12_168 dX12_gap_31 (s_X12 hT) rfl (t_X12_inState hT (zRk rfl) hc) ⟨Nat.le_of_ble_eq_true rfl, Nat.le_of_ble_eq_true rfl⟩ rfl (Nat.le_of_ble_eq_true rfl) ⟨Nat.zero_le _, Nat.zero_le _⟩ fun hw => ?_
  have hv31 := hw
  clear hc hw
  show zP V X 1 0 0 34 _ [.int (zI v31), .int (zI v28)] d1
  revert h
  generalize d1 = d
  intro h
  refine zP_isub (pc := 34) C dX12_gap_34 h fun v34 hv34 h => ?_
  exact zP_iret (pc := 35) C E dX12_gap_35 hv34 h
def f_X12_trial  (d : zD) : Option (Int × zD) :=
  zc (f_X12_copies 401 800 407 800 0 0 800 d) fun _ d =>
  some (0, d)
theorem t_X12_trial {V : zW}  (hT : zo12 V)   {d dz : zD} {rv : Int} (h : f_X12_trial   d = some (rv, dz)) : zMet V 1 yX12_trial cX12_trial 1 none [.ref (zad V 400)] d none (rv = 0) dz := by
  refine zMet_by RX12 pn12 rfl (Nat.le_of_ble_eq_true rfl) [some (.ref (zad V 400))] rfl fun X C E => ?_
  refine zP_aload_n (pc := 0) C (x := zad V 400) dX12_trial_0 rfl rfl ?_
  refine zP_getR (pc := 1) (a := 400) (t := 401) C g12_13 dX12_trial_1 (s_X12 hT) rfl ?_
  refine zP_iconst (pc := 4) C dX12_trial_4 ?_
  refine zP_aload_n (pc := 5) C (x := zad V 400) dX12_trial_5 rfl rfl ?_
  refine zP_getR (pc := 6) (a := 400) (t := 407) C g12_36 dX12_trial_6 (s_X12 hT) rfl ?_
  refine zP_iconst (pc := 9) C dX12_trial_9 ?_
  refine zP_sipush (pc := 10) C dX12_trial_10 rfl ?_
  obtain ⟨_, d1, hc, h⟩ := zc_h h
  refine zP_callS (pc := 13) (As := [.ref (zad V 401), .int (zI 0), .ref (zad V 407), .int (zI 0), .int (zI 800)]) (st := []) C m12_149 dX12_trial_13 (t_X12_copies (s_X12_s hT) (s_X12_aside hT) (zRk rfl) (zRk rfl) (zRk rfl) hc) ⟨Nat.le_of_ble_eq_true rfl, Nat.le_of_ble_eq_true rfl⟩ rfl (Nat.le_of_ble_eq_true rfl) ⟨Nat.zero_le _, Nat.zero_le _⟩ fun hw => ?_
  clear hc hw
  show zP V X 1 0 0 16 _ [] d1
  revert h
  generalize d1 = d
  intro h
  exact zP_vret (pc := 16) C E dX12_trial_16 h
def f_X12_back  (x1 : Int) (d : zD) : Option (Int × zD) :=
  zc (f_X12_copies 407 800 401 800 0 0 800 d) fun _ d =>
  some (x1, d)
theorem t_X12_back {V : zW}  (hT : zo12 V) {x1 : Int} (hx1 : zR x1) {d dz : zD} {rv : Int} (h : f_X12_back  x1 d = some (rv, dz)) : zMet V 1 yX12_back cX12_back 2 (some .int) [.ref (zad V 400), .int (zI x1)] d (some (.int (zI rv))) (zR rv) dz := by
  refine zMet_by RX12 pn12 rfl (Nat.le_of_ble_eq_true rfl) [some (.ref (zad V 400)), some (.int (zI x1))] rfl fun X C E => ?_
  refine zP_aload_n (pc := 0) C (x := zad V 400) dX12_back_0 rfl rfl ?_
  refine zP_getR (pc := 1) (a := 400) (t := 407) C g12_36 dX12_back_1 (s_X12 hT) rfl ?_
  refine zP_iconst (pc := 4) C dX12_back_4 ?_
  refine zP_aload_n (pc := 5) C (x := zad V 400) dX12_back_5 rfl rfl ?_
  refine zP_getR (pc := 6) (a := 400) (t := 401) C g12_13 dX12_back_6 (s_X12 hT) rfl ?_
  refine zP_iconst (pc := 9) C dX12_back_9 ?_
  refine zP_sipush (pc := 10) C dX12_back_10 rfl ?_
  obtain ⟨_, d1, hc, h⟩ := zc_h h
  refine zP_callS (pc := 13) (As := [.ref (zad V 407), .int (zI 0), .ref (zad V 401), .int (zI 0), .int (zI 800)]) (st := []) C m12_149 dX12_back_13 (t_X12_copies (s_X12_aside hT) (s_X12_s hT) (zRk rfl) (zRk rfl) (zRk rfl) hc) ⟨Nat.le_of_ble_eq_true rfl, Nat.le_of_ble_eq_true rfl⟩ rfl (Nat.le_of_ble_eq_true rfl) ⟨Nat.zero_le _, Nat.zero_le _⟩ fun hw => ?_
  clear hc hw
  show zP V X 2 0 0 16 _ [] d1
  revert h
  generalize d1 = d
  intro h
  refine zP_iload_n (pc := 16) C (x := zI x1) dX12_back_16 rfl rfl ?_
  exact zP_iret (pc := 17) C E dX12_back_17 hx1 h
def f_X12_deliveredBy  (x1 : Int) (d : zD) : Option (Int × zD) :=
  zc (f_X12_runsNow  x1 d) fun v2 d =>
  zc (f_X12_inState  3 d) fun v9 d =>
  zc (f_X12_back  v9 d) fun v12 d =>
  some (v12, d)
theorem t_X12_deliveredBy {V : zW}  (hT : zo12 V) {x1 : Int} (hx1 : zR x1) {d dz : zD} {rv : Int} (h : f_X12_deliveredBy  x1 d = some (rv, dz)) : zMet V 12 yX12_deliveredBy cX12_deliveredBy 3 (some .int) [.ref (zad V 400), .int (zI x1)] d (some (.int (zI rv))) (zR rv) dz := by
  refine zMet_by RX12 pn12 rfl (Nat.le_of_ble_eq_true rfl) [some (.ref (zad V 400)), some (.int (zI x1)), none] rfl fun X C E => ?_
  refine zP_aload_n (pc := 0) C (x := zad V 400) dX12_deliveredBy_0 rfl rfl ?_
  refine zP_iload_n (pc := 1) C (x := zI x1) dX12_deliveredBy_1 rfl rfl ?_
  obtain ⟨v2, d1, hc, h⟩ := zc_h h
  refine zP_callV (pc := 2) (As := [.int (zI x1)]) (st := []) C m12_336 dX12_deliveredBy_2 (s_X12 hT) rfl (t_X12_runsNow hT hx1 hc) ⟨Nat.le_of_ble_eq_true rfl, Nat.le_of_ble_eq_true rfl⟩ rfl (Nat.le_of_ble_eq_true rfl) ⟨Nat.zero_le _, Nat.zero_le _⟩ fun hw => ?_
  have hv2 := hw
  clear hc hw
  show zP V X 3 0 0 5 _ [.int (zI v2)] d1
  revert h
  generalize d1 = d
  intro h
  refine zP_istore_n (pc := 5) C (L' := [some (.ref (zad V 400)), some (.int (zI x1)), some (.int (zI v2))]) dX12_deliveredBy_5 rfl (Nat.le_of_ble_eq_true rfl) rfl rfl ?_
  refine zP_aload_n (pc := 6) C (x := zad V 400) dX12_deliveredBy_6 rfl rfl ?_
  refine zP_aload_n (pc := 7) C (x := zad V 400) dX12_deliveredBy_7 rfl rfl ?_
  refine zP_iconst (pc := 8) C dX12_deliveredBy_8 ?_
  obtain ⟨v9, d1, hc, h⟩ := zc_h h
  refine zP_callV (pc := 9) (As := [.int (zI 3)]) (st := [.ref (zad V 400)]) C m12_168 dX12_deliveredBy_9 (s_X12 hT) rfl (t_X12_inState hT (zRk rfl) hc) ⟨Nat.le_of_ble_eq_true rfl, Nat.le_of_ble_eq_true rfl⟩ rfl (Nat.le_of_ble_eq_true rfl) ⟨Nat.zero_le _, Nat.zero_le _⟩ fun hw => ?_
  have hv9 := hw
  clear hc hw
  show zP V X 3 0 0 12 _ [.int (zI v9), .ref (zad V 400)] d1
  revert h
  generalize d1 = d
  intro h
  obtain ⟨v12, d1, hc, h⟩ := zc_h h
  refine zP_callV (pc := 12) (As := [.int (zI v9)]) (st := []) C m12_376 dX12_deliveredBy_12 (s_X12 hT) rfl (t_X12_back hT hv9 hc) ⟨Nat.le_of_ble_eq_true rfl, Nat.le_of_ble_eq_true rfl⟩ rfl (Nat.le_of_ble_eq_true rfl) ⟨Nat.zero_le _, Nat.zero_le _⟩ fun hw => ?_
  have hv12 := hw
  clear hc hw
  show zP V X 3 0 0 15 _ [.int (zI v12)] d1
  revert h
  generalize d1 = d
  intro h
  exact zP_iret (pc := 15) C E dX12_deliveredBy_15 hv12 h
def f_X12_deliveredIn  (x1 : Int) (d : zD) : Option (Int × zD) :=
  zc (f_X12_isIn  x1 0 100 d) fun v5 d =>
  zc (f_X12_may  v5 1 d) fun v9 d =>
  if (v9 : Int) = 0 then (
    some (0, d))
  else (
    zc (f_X12_trial   d) fun _ d =>
    zc (f_X12_deliveredBy  x1 d) fun v23 d =>
    some (v23, d))
theorem t_X12_deliveredIn {V : zW}  (hT : zo12 V) {x1 : Int} (hx1 : zR x1) {d dz : zD} {rv : Int} (h : f_X12_deliveredIn  x1 d = some (rv, dz)) : zMet V 13 yX12_deliveredIn cX12_deliveredIn 2 (some .int) [.ref (zad V 400), .int (zI x1)] d (some (.int (zI rv))) (zR rv) dz := by
  refine zMet_by RX12 pn12 rfl (Nat.le_of_ble_eq_true rfl) [some (.ref (zad V 400)), some (.int (zI x1))] rfl fun X C E => ?_
  refine zP_aload_n (pc := 0) C (x := zad V 400) dX12_deliveredIn_0 rfl rfl ?_
  refine zP_iload_n (pc := 1) C (x := zI x1) dX12_deliveredIn_1 rfl rfl ?_
  refine zP_iconst (pc := 2) C dX12_deliveredIn_2 ?_
  refine zP_bipush (pc := 3) C dX12_deliveredIn_3 rfl ?_
  obtain ⟨v5, d1, hc, h⟩ := zc_h h
  refine zP_callS (pc := 5) (As := [.int (zI x1), .int (zI 0), .int (zI 100)]) (st := [.ref (zad V 400)]) C m12_53 dX12_deliveredIn_5 (t_X12_isIn  hx1 (zRk rfl) (zRk rfl) hc) ⟨Nat.le_of_ble_eq_true rfl, Nat.le_of_ble_eq_true rfl⟩ rfl (Nat.le_of_ble_eq_true rfl) ⟨Nat.zero_le _, Nat.zero_le _⟩ fun hw => ?_
  have hbv5 := hw
  have hv5 := z01 hw
  clear hc hw
  show zP V X 2 0 0 8 _ [.int (zI v5), .ref (zad V 400)] d1
  revert h
  generalize d1 = d
  intro h
  refine zP_iconst (pc := 8) C dX12_deliveredIn_8 ?_
  obtain ⟨v9, d1, hc, h⟩ := zc_h h
  refine zP_callV (pc := 9) (As := [.int (zI v5), .int (zI 1)]) (st := []) C m12_363 dX12_deliveredIn_9 (s_X12 hT) rfl (t_X12_may hT hv5 (zRk rfl) hc) ⟨Nat.le_of_ble_eq_true rfl, Nat.le_of_ble_eq_true rfl⟩ rfl (Nat.le_of_ble_eq_true rfl) ⟨Nat.zero_le _, Nat.zero_le _⟩ fun hw => ?_
  have hbv9 := hw
  have hv9 := z01 hw
  clear hc hw
  show zP V X 2 0 0 12 _ [.int (zI v9)] d1
  revert h
  generalize d1 = d
  intro h
  refine zP_if_ne (pc := 12) (tgt := 17) C dX12_deliveredIn_12 rfl hv9 h (fun _ h => ?_) (fun _ h => ?_)
  · refine zP_aload_n (pc := 17) C (x := zad V 400) dX12_deliveredIn_17 rfl rfl ?_
    obtain ⟨_, d1, hc, h⟩ := zc_h h
    refine zP_callV (pc := 18) (As := []) (st := []) C m12_379 dX12_deliveredIn_18 (s_X12 hT) rfl (t_X12_trial hT  hc) ⟨Nat.le_of_ble_eq_true rfl, Nat.le_of_ble_eq_true rfl⟩ rfl (Nat.le_of_ble_eq_true rfl) ⟨Nat.zero_le _, Nat.zero_le _⟩ fun hw => ?_
    clear hc hw
    show zP V X 2 0 0 21 _ [] d1
    revert h
    generalize d1 = d
    intro h
    refine zP_aload_n (pc := 21) C (x := zad V 400) dX12_deliveredIn_21 rfl rfl ?_
    refine zP_iload_n (pc := 22) C (x := zI x1) dX12_deliveredIn_22 rfl rfl ?_
    obtain ⟨v23, d1, hc, h⟩ := zc_h h
    refine zP_callV (pc := 23) (As := [.int (zI x1)]) (st := []) C m12_382 dX12_deliveredIn_23 (s_X12 hT) rfl (t_X12_deliveredBy hT hx1 hc) ⟨Nat.le_of_ble_eq_true rfl, Nat.le_of_ble_eq_true rfl⟩ rfl (Nat.le_of_ble_eq_true rfl) ⟨Nat.zero_le _, Nat.zero_le _⟩ fun hw => ?_
    have hv23 := hw
    clear hc hw
    show zP V X 2 0 0 26 _ [.int (zI v23)] d1
    revert h
    generalize d1 = d
    intro h
    exact zP_iret (pc := 26) C E dX12_deliveredIn_26 hv23 h
  · refine zP_iconst (pc := 15) C dX12_deliveredIn_15 ?_
    exact zP_iret (pc := 16) C E dX12_deliveredIn_16 (zRk rfl) h
def f_X12_timeIn  (x1 : Int) (d : zD) : Option (Int × zD) :=
  zc (f_X12_isIn  x1 0 100 d) fun v5 d =>
  zc (f_X12_may  v5 1 d) fun v9 d =>
  if (v9 : Int) = 0 then (
    some (0, d))
  else (
    zc (f_X12_trial   d) fun _ d =>
    zc (f_X12_runsNow  x1 d) fun v23 d =>
    zg 800 3 <| zl (d 401 (3 : Int).toNat) fun v33 =>
    zc (f_X12_back  v33 d) fun v34 d =>
    some (v34, d))
theorem t_X12_timeIn {V : zW}  (hT : zo12 V) {x1 : Int} (hx1 : zR x1) {d dz : zD} {rv : Int} (h : f_X12_timeIn  x1 d = some (rv, dz)) : zMet V 12 yX12_timeIn cX12_timeIn 3 (some .int) [.ref (zad V 400), .int (zI x1)] d (some (.int (zI rv))) (zR rv) dz := by
  refine zMet_by RX12 pn12 rfl (Nat.le_of_ble_eq_true rfl) [some (.ref (zad V 400)), some (.int (zI x1)), none] rfl fun X C E => ?_
  refine zP_aload_n (pc := 0) C (x := zad V 400) dX12_timeIn_0 rfl rfl ?_
  refine zP_iload_n (pc := 1) C (x := zI x1) dX12_timeIn_1 rfl rfl ?_
  refine zP_iconst (pc := 2) C dX12_timeIn_2 ?_
  refine zP_bipush (pc := 3) C dX12_timeIn_3 rfl ?_
  obtain ⟨v5, d1, hc, h⟩ := zc_h h
  refine zP_callS (pc := 5) (As := [.int (zI x1), .int (zI 0), .int (zI 100)]) (st := [.ref (zad V 400)]) C m12_53 dX12_timeIn_5 (t_X12_isIn  hx1 (zRk rfl) (zRk rfl) hc) ⟨Nat.le_of_ble_eq_true rfl, Nat.le_of_ble_eq_true rfl⟩ rfl (Nat.le_of_ble_eq_true rfl) ⟨Nat.zero_le _, Nat.zero_le _⟩ fun hw => ?_
  have hbv5 := hw
  have hv5 := z01 hw
  clear hc hw
  show zP V X 3 0 0 8 _ [.int (zI v5), .ref (zad V 400)] d1
  revert h
  generalize d1 = d
  intro h
  refine zP_iconst (pc := 8) C dX12_timeIn_8 ?_
  obtain ⟨v9, d1, hc, h⟩ := zc_h h
  refine zP_callV (pc := 9) (As := [.int (zI v5), .int (zI 1)]) (st := []) C m12_363 dX12_timeIn_9 (s_X12 hT) rfl (t_X12_may hT hv5 (zRk rfl) hc) ⟨Nat.le_of_ble_eq_true rfl, Nat.le_of_ble_eq_true rfl⟩ rfl (Nat.le_of_ble_eq_true rfl) ⟨Nat.zero_le _, Nat.zero_le _⟩ fun hw => ?_
  have hbv9 := hw
  have hv9 := z01 hw
  clear hc hw
  show zP V X 3 0 0 12 _ [.int (zI v9)] d1
  revert h
  generalize d1 = d
  intro h
  refine zP_if_ne (pc := 12) (tgt := 17) C dX12_timeIn_12 rfl hv9 h (fun _ h => ?_) (fun _ h => ?_)
  · refine zP_aload_n (pc := 17) C (x := zad V 400) dX12_timeIn_17 rfl rfl ?_
    obtain ⟨_, d1, hc, h⟩ := zc_h h
    refine zP_callV (pc := 18) (As := []) (st := []) C m12_379 dX12_timeIn_18 (s_X12 hT) rfl (t_X12_trial hT  hc) ⟨Nat.le_of_ble_eq_true rfl, Nat.le_of_ble_eq_true rfl⟩ rfl (Nat.le_of_ble_eq_true rfl) ⟨Nat.zero_le _, Nat.zero_le _⟩ fun hw => ?_
    clear hc hw
    show zP V X 3 0 0 21 _ [] d1
    revert h
    generalize d1 = d
    intro h
    refine zP_aload_n (pc := 21) C (x := zad V 400) dX12_timeIn_21 rfl rfl ?_
    refine zP_iload_n (pc := 22) C (x := zI x1) dX12_timeIn_22 rfl rfl ?_
    obtain ⟨v23, d1, hc, h⟩ := zc_h h
    refine zP_callV (pc := 23) (As := [.int (zI x1)]) (st := []) C m12_336 dX12_timeIn_23 (s_X12 hT) rfl (t_X12_runsNow hT hx1 hc) ⟨Nat.le_of_ble_eq_true rfl, Nat.le_of_ble_eq_true rfl⟩ rfl (Nat.le_of_ble_eq_true rfl) ⟨Nat.zero_le _, Nat.zero_le _⟩ fun hw => ?_
    have hv23 := hw
    clear hc hw
    show zP V X 3 0 0 26 _ [.int (zI v23)] d1
    revert h
    generalize d1 = d
    intro h
    refine zP_istore_n (pc := 26) C (L' := [some (.ref (zad V 400)), some (.int (zI x1)), some (.int (zI v23))]) dX12_timeIn_26 rfl (Nat.le_of_ble_eq_true rfl) rfl rfl ?_
    refine zP_aload_n (pc := 27) C (x := zad V 400) dX12_timeIn_27 rfl rfl ?_
    refine zP_aload_n (pc := 28) C (x := zad V 400) dX12_timeIn_28 rfl rfl ?_
    refine zP_getR (pc := 29) (a := 400) (t := 401) C g12_13 dX12_timeIn_29 (s_X12 hT) rfl ?_
    refine zP_iconst (pc := 32) C dX12_timeIn_32 ?_
    refine zP_iald (pc := 33) (a := 401) C dX12_timeIn_33 (s_X12_s hT) (zRk rfl) h fun v33 hv33 h => ?_
    obtain ⟨v34, d1, hc, h⟩ := zc_h h
    refine zP_callV (pc := 34) (As := [.int (zI v33)]) (st := []) C m12_376 dX12_timeIn_34 (s_X12 hT) rfl (t_X12_back hT hv33 hc) ⟨Nat.le_of_ble_eq_true rfl, Nat.le_of_ble_eq_true rfl⟩ rfl (Nat.le_of_ble_eq_true rfl) ⟨Nat.zero_le _, Nat.zero_le _⟩ fun hw => ?_
    have hv34 := hw
    clear hc hw
    show zP V X 3 0 0 37 _ [.int (zI v34)] d1
    revert h
    generalize d1 = d
    intro h
    exact zP_iret (pc := 37) C E dX12_timeIn_37 hv34 h
  · refine zP_iconst (pc := 15) C dX12_timeIn_15 ?_
    exact zP_iret (pc := 16) C E dX12_timeIn_16 (zRk rfl) h
def j_X12_deliversIn_70   (s0 : Int) (d : zD) : Option (Int × zD) :=
  zc (f_X12_back  s0 d) fun v70 d =>
  some (v70, d)
theorem wj_X12_deliversIn_70 {V : zW} {X : zX}  (hT : zo12 V) (C : zOk V X cX12_deliversIn RX12 3 (zrm 11) (some .int)) {rv : Int} {dz : zD} (E : zEnd V X (some (.int (zI rv))) (zR rv) dz)  {s0 : Int} (hs0 : zR s0) {d : zD} (h : j_X12_deliversIn_70   s0 d = some (rv, dz)) : zP V X 3 0 0 70 [none, none, none] [.int (zI s0), .ref (zad V 400)] d := by
  obtain ⟨v70, d1, hc, h⟩ := zc_h h
  refine zP_callV (pc := 70) (As := [.int (zI s0)]) (st := []) C m12_376 dX12_deliversIn_70 (s_X12 hT) rfl (t_X12_back hT hs0 hc) ⟨Nat.le_of_ble_eq_true rfl, Nat.le_of_ble_eq_true rfl⟩ rfl (Nat.le_of_ble_eq_true rfl) ⟨Nat.zero_le _, Nat.zero_le _⟩ fun hw => ?_
  have hv70 := hw
  clear hc hw
  show zP V X 3 0 0 73 _ [.int (zI v70)] d1
  revert h
  generalize d1 = d
  intro h
  exact zP_iret (pc := 73) C E dX12_deliversIn_73 hv70 h
def j_X12_deliversIn_57   (x2 : Int) (d : zD) : Option (Int × zD) :=
  if (x2 : Int) ≤ 200 then (
    j_X12_deliversIn_70   x2 d)
  else (
    j_X12_deliversIn_70   (-1) d)
theorem wj_X12_deliversIn_57 {V : zW} {X : zX}  (hT : zo12 V) (C : zOk V X cX12_deliversIn RX12 3 (zrm 11) (some .int)) {rv : Int} {dz : zD} (E : zEnd V X (some (.int (zI rv))) (zR rv) dz)  {x2 : Int} (hx2 : zR x2) {d : zD} (h : j_X12_deliversIn_57   x2 d = some (rv, dz)) : zP V X 3 0 0 57 [some (.ref (zad V 400)), none, some (.int (zI x2))] [] d := by
  refine zP_aload_n (pc := 57) C (x := zad V 400) dX12_deliversIn_57 rfl rfl ?_
  refine zP_iload_n (pc := 58) C (x := zI x2) dX12_deliversIn_58 rfl rfl ?_
  refine zP_sipush (pc := 59) C dX12_deliversIn_59 rfl ?_
  refine zP_icmp_le (pc := 62) (tgt := 69) C dX12_deliversIn_62 rfl hx2 (zRk rfl) h (fun _ h => ?_) (fun _ h => ?_)
  · refine zP_iload_n (pc := 69) C (x := zI x2) dX12_deliversIn_69 rfl rfl ?_
    exact zP_mask [false, false, false] (wj_X12_deliversIn_70 hT C E  hx2 h)
  · refine zP_iconst (pc := 65) C dX12_deliversIn_65 ?_
    refine zP_goto (pc := 66) (tgt := 70) C dX12_deliversIn_66 rfl ?_
    exact zP_mask [false, false, false] (wj_X12_deliversIn_70 hT C E  (zRk rfl) h)
def l_X12_deliversIn_29F  (r29 : Int → Int → zD → Option (Int × zD)) (x1 x2 : Int) (d : zD) : Option (Int × zD) :=
  if (200 : Int) < x2 then (
    j_X12_deliversIn_57   x2 d)
  else (
    zc (f_X12_message0  x1 3 d) fun v39 d =>
    if (v39 : Int) = 3 then (
      j_X12_deliversIn_57   x2 d)
    else (
      zc (f_X12_turns   d) fun _ d =>
      zl (zw (x2 + 1)) fun v52 =>
      r29 x1 v52 d))
theorem wl_X12_deliversIn_29F {V : zW} {X : zX}  (hT : zo12 V) (C : zOk V X cX12_deliversIn RX12 3 (zrm 11) (some .int)) {rv : Int} {dz : zD} (E : zEnd V X (some (.int (zI rv))) (zR rv) dz) {r29 : Int → Int → zD → Option (Int × zD)} (hr29 : ∀ {x1 x2 : Int} {d : zD}, zR x1 → zR x2 → r29 x1 x2 d = some (rv, dz) → zP V X 3 0 0 29 [some (.ref (zad V 400)), some (.int (zI x1)), some (.int (zI x2))] [] d) {x1 x2 : Int} (hx1 : zR x1) (hx2 : zR x2) {d : zD} (h : l_X12_deliversIn_29F  r29 x1 x2 d = some (rv, dz)) : zP V X 3 0 0 29 [some (.ref (zad V 400)), some (.int (zI x1)), some (.int (zI x2))] [] d := by
  refine zP_iload_n (pc := 29) C (x := zI x2) dX12_deliversIn_29 rfl rfl ?_
  refine zP_sipush (pc := 30) C dX12_deliversIn_30 rfl ?_
  refine zP_icmp_gt (pc := 33) (tgt := 57) C dX12_deliversIn_33 rfl hx2 (zRk rfl) h (fun _ h => ?_) (fun _ h => ?_)
  · exact zP_mask [true, false, true] (wj_X12_deliversIn_57 hT C E  hx2 h)
  · refine zP_aload_n (pc := 36) C (x := zad V 400) dX12_deliversIn_36 rfl rfl ?_
    refine zP_iload_n (pc := 37) C (x := zI x1) dX12_deliversIn_37 rfl rfl ?_
    refine zP_iconst (pc := 38) C dX12_deliversIn_38 ?_
    obtain ⟨v39, d1, hc, h⟩ := zc_h h
    refine zP_callV (pc := 39) (As := [.int (zI x1), .int (zI 3)]) (st := []) C m12_65 dX12_deliversIn_39 (s_X12 hT) rfl (t_X12_message0 hT hx1 (zRk rfl) hc) ⟨Nat.le_of_ble_eq_true rfl, Nat.le_of_ble_eq_true rfl⟩ rfl (Nat.le_of_ble_eq_true rfl) ⟨Nat.zero_le _, Nat.zero_le _⟩ fun hw => ?_
    have hv39 := hw
    clear hc hw
    show zP V X 3 0 0 42 _ [.int (zI v39)] d1
    revert h
    generalize d1 = d
    intro h
    refine zP_iconst (pc := 42) C dX12_deliversIn_42 ?_
    refine zP_icmp_eq (pc := 43) (tgt := 57) C dX12_deliversIn_43 rfl hv39 (zRk rfl) h (fun _ h => ?_) (fun _ h => ?_)
    · exact zP_mask [true, false, true] (wj_X12_deliversIn_57 hT C E  hx2 h)
    · refine zP_aload_n (pc := 46) C (x := zad V 400) dX12_deliversIn_46 rfl rfl ?_
      obtain ⟨_, d1, hc, h⟩ := zc_h h
      refine zP_callV (pc := 47) (As := []) (st := []) C m12_171 dX12_deliversIn_47 (s_X12 hT) rfl (t_X12_turns hT  hc) ⟨Nat.le_of_ble_eq_true rfl, Nat.le_of_ble_eq_true rfl⟩ rfl (Nat.le_of_ble_eq_true rfl) ⟨Nat.zero_le _, Nat.zero_le _⟩ fun hw => ?_
      clear hc hw
      show zP V X 3 0 0 50 _ [] d1
      revert h
      generalize d1 = d
      intro h
      refine zP_iload_n (pc := 50) C (x := zI x2) dX12_deliversIn_50 rfl rfl ?_
      refine zP_iconst (pc := 51) C dX12_deliversIn_51 ?_
      refine zP_iadd (pc := 52) C dX12_deliversIn_52 h fun v52 hv52 h => ?_
      refine zP_istore_n (pc := 53) C (L' := [some (.ref (zad V 400)), some (.int (zI x1)), some (.int (zI v52))]) dX12_deliversIn_53 rfl (Nat.le_of_ble_eq_true rfl) rfl rfl ?_
      refine zP_goto (pc := 54) (tgt := 29) C dX12_deliversIn_54 rfl ?_
      exact zP_mask [true, true, true] (hr29 hx1 hv52 h)
def l_X12_deliversIn_29   : Nat → Int → Int → zD → Option (Int × zD)
  | 0, _, _, _ => none
  | q + 1, x1, x2, d => l_X12_deliversIn_29F   (l_X12_deliversIn_29   q) x1 x2 d
theorem wl_X12_deliversIn_29 {V : zW} {X : zX}  (hT : zo12 V) (C : zOk V X cX12_deliversIn RX12 3 (zrm 11) (some .int)) {rv : Int} {dz : zD} (E : zEnd V X (some (.int (zI rv))) (zR rv) dz)  : ∀ (q : Nat) {x1 x2 : Int} (hx1 : zR x1) (hx2 : zR x2) {d : zD} (h : l_X12_deliversIn_29   q x1 x2 d = some (rv, dz)), zP V X 3 0 0 29 [some (.ref (zad V 400)), some (.int (zI x1)), some (.int (zI x2))] [] d := by
  intro q
  induction q with
  | zero => intro x1 x2 hx1 hx2 d h; cases (show (none : Option (Int × zD)) = some (rv, dz) from h)
  | succ q ih =>
    intro x1 x2 hx1 hx2 d h
    exact wl_X12_deliversIn_29F hT C E  (fun  hx1 hx2 h => ih hx1 hx2 h) hx1 hx2 h
def f_X12_deliversIn  (x1 : Int) (d : zD) : Option (Int × zD) :=
  zg 800 2 <| zl (d 401 (2 : Int).toNat) fun v8 =>
  zl (zw (v8 - 1)) fun v10 =>
  zc (f_X12_isIn  x1 0 v10 d) fun v11 d =>
  zc (f_X12_may  v11 1 d) fun v15 d =>
  if (v15 : Int) = 0 then (
    some (0, d))
  else (
    zc (f_X12_trial   d) fun _ d =>
    l_X12_deliversIn_29   zF x1 0 d)
theorem t_X12_deliversIn {V : zW}  (hT : zo12 V) {x1 : Int} (hx1 : zR x1) {d dz : zD} {rv : Int} (h : f_X12_deliversIn  x1 d = some (rv, dz)) : zMet V 11 yX12_deliversIn cX12_deliversIn 3 (some .int) [.ref (zad V 400), .int (zI x1)] d (some (.int (zI rv))) (zR rv) dz := by
  refine zMet_by RX12 pn12 rfl (Nat.le_of_ble_eq_true rfl) [some (.ref (zad V 400)), some (.int (zI x1)), none] rfl fun X C E => ?_
  refine zP_aload_n (pc := 0) C (x := zad V 400) dX12_deliversIn_0 rfl rfl ?_
  refine zP_iload_n (pc := 1) C (x := zI x1) dX12_deliversIn_1 rfl rfl ?_
  refine zP_iconst (pc := 2) C dX12_deliversIn_2 ?_
  refine zP_aload_n (pc := 3) C (x := zad V 400) dX12_deliversIn_3 rfl rfl ?_
  refine zP_getR (pc := 4) (a := 400) (t := 401) C g12_13 dX12_deliversIn_4 (s_X12 hT) rfl ?_
  refine zP_iconst (pc := 7) C dX12_deliversIn_7 ?_
  refine zP_iald (pc := 8) (a := 401) C dX12_deliversIn_8 (s_X12_s hT) (zRk rfl) h fun v8 hv8 h => ?_
  refine zP_iconst (pc := 9) C dX12_deliversIn_9 ?_
  refine zP_isub (pc := 10) C dX12_deliversIn_10 h fun v10 hv10 h => ?_
  obtain ⟨v11, d1, hc, h⟩ := zc_h h
  refine zP_callS (pc := 11) (As := [.int (zI x1), .int (zI 0), .int (zI v10)]) (st := [.ref (zad V 400)]) C m12_53 dX12_deliversIn_11 (t_X12_isIn  hx1 (zRk rfl) hv10 hc) ⟨Nat.le_of_ble_eq_true rfl, Nat.le_of_ble_eq_true rfl⟩ rfl (Nat.le_of_ble_eq_true rfl) ⟨Nat.zero_le _, Nat.zero_le _⟩ fun hw => ?_
  have hbv11 := hw
  have hv11 := z01 hw
  clear hc hw
  show zP V X 3 0 0 14 _ [.int (zI v11), .ref (zad V 400)] d1
  revert h
  generalize d1 = d
  intro h
  refine zP_iconst (pc := 14) C dX12_deliversIn_14 ?_
  obtain ⟨v15, d1, hc, h⟩ := zc_h h
  refine zP_callV (pc := 15) (As := [.int (zI v11), .int (zI 1)]) (st := []) C m12_363 dX12_deliversIn_15 (s_X12 hT) rfl (t_X12_may hT hv11 (zRk rfl) hc) ⟨Nat.le_of_ble_eq_true rfl, Nat.le_of_ble_eq_true rfl⟩ rfl (Nat.le_of_ble_eq_true rfl) ⟨Nat.zero_le _, Nat.zero_le _⟩ fun hw => ?_
  have hbv15 := hw
  have hv15 := z01 hw
  clear hc hw
  show zP V X 3 0 0 18 _ [.int (zI v15)] d1
  revert h
  generalize d1 = d
  intro h
  refine zP_if_ne (pc := 18) (tgt := 23) C dX12_deliversIn_18 rfl hv15 h (fun _ h => ?_) (fun _ h => ?_)
  · refine zP_aload_n (pc := 23) C (x := zad V 400) dX12_deliversIn_23 rfl rfl ?_
    obtain ⟨_, d1, hc, h⟩ := zc_h h
    refine zP_callV (pc := 24) (As := []) (st := []) C m12_379 dX12_deliversIn_24 (s_X12 hT) rfl (t_X12_trial hT  hc) ⟨Nat.le_of_ble_eq_true rfl, Nat.le_of_ble_eq_true rfl⟩ rfl (Nat.le_of_ble_eq_true rfl) ⟨Nat.zero_le _, Nat.zero_le _⟩ fun hw => ?_
    clear hc hw
    show zP V X 3 0 0 27 _ [] d1
    revert h
    generalize d1 = d
    intro h
    refine zP_iconst (pc := 27) C dX12_deliversIn_27 ?_
    refine zP_istore_n (pc := 28) C (L' := [some (.ref (zad V 400)), some (.int (zI x1)), some (.int (zI 0))]) dX12_deliversIn_28 rfl (Nat.le_of_ble_eq_true rfl) rfl rfl ?_
    exact zP_mask [true, true, true] (wl_X12_deliversIn_29 hT C E  zF hx1 (zRk rfl) h)
  · refine zP_iconst (pc := 21) C dX12_deliversIn_21 ?_
    exact zP_iret (pc := 22) C E dX12_deliversIn_22 (zRk rfl) h
def j_X12_quietIn_56   (s0 : Int) (d : zD) : Option (Int × zD) :=
  zc (f_X12_back  s0 d) fun v56 d =>
  some (v56, d)
theorem wj_X12_quietIn_56 {V : zW} {X : zX}  (hT : zo12 V) (C : zOk V X cX12_quietIn RX12 2 (zrm 11) (some .int)) {rv : Int} {dz : zD} (E : zEnd V X (some (.int (zI rv))) (zR rv) dz)  {s0 : Int} (hs0 : zR s0) {d : zD} (h : j_X12_quietIn_56   s0 d = some (rv, dz)) : zP V X 2 0 0 56 [none, none] [.int (zI s0), .ref (zad V 400)] d := by
  obtain ⟨v56, d1, hc, h⟩ := zc_h h
  refine zP_callV (pc := 56) (As := [.int (zI s0)]) (st := []) C m12_376 dX12_quietIn_56 (s_X12 hT) rfl (t_X12_back hT hs0 hc) ⟨Nat.le_of_ble_eq_true rfl, Nat.le_of_ble_eq_true rfl⟩ rfl (Nat.le_of_ble_eq_true rfl) ⟨Nat.zero_le _, Nat.zero_le _⟩ fun hw => ?_
  have hv56 := hw
  clear hc hw
  show zP V X 2 0 0 59 _ [.int (zI v56)] d1
  revert h
  generalize d1 = d
  intro h
  exact zP_iret (pc := 59) C E dX12_quietIn_59 hv56 h
def j_X12_quietIn_43   (x1 : Int) (d : zD) : Option (Int × zD) :=
  if (x1 : Int) ≤ 200 then (
    j_X12_quietIn_56   x1 d)
  else (
    j_X12_quietIn_56   (-1) d)
theorem wj_X12_quietIn_43 {V : zW} {X : zX}  (hT : zo12 V) (C : zOk V X cX12_quietIn RX12 2 (zrm 11) (some .int)) {rv : Int} {dz : zD} (E : zEnd V X (some (.int (zI rv))) (zR rv) dz)  {x1 : Int} (hx1 : zR x1) {d : zD} (h : j_X12_quietIn_43   x1 d = some (rv, dz)) : zP V X 2 0 0 43 [some (.ref (zad V 400)), some (.int (zI x1))] [] d := by
  refine zP_aload_n (pc := 43) C (x := zad V 400) dX12_quietIn_43 rfl rfl ?_
  refine zP_iload_n (pc := 44) C (x := zI x1) dX12_quietIn_44 rfl rfl ?_
  refine zP_sipush (pc := 45) C dX12_quietIn_45 rfl ?_
  refine zP_icmp_le (pc := 48) (tgt := 55) C dX12_quietIn_48 rfl hx1 (zRk rfl) h (fun _ h => ?_) (fun _ h => ?_)
  · refine zP_iload_n (pc := 55) C (x := zI x1) dX12_quietIn_55 rfl rfl ?_
    exact zP_mask [false, false] (wj_X12_quietIn_56 hT C E  hx1 h)
  · refine zP_iconst (pc := 51) C dX12_quietIn_51 ?_
    refine zP_goto (pc := 52) (tgt := 56) C dX12_quietIn_52 rfl ?_
    exact zP_mask [false, false] (wj_X12_quietIn_56 hT C E  (zRk rfl) h)
def l_X12_quietIn_11F  (r11 : Int → zD → Option (Int × zD)) (x1 : Int) (d : zD) : Option (Int × zD) :=
  if (200 : Int) < x1 then (
    j_X12_quietIn_43   x1 d)
  else (
    zc (f_X12_inState  3 d) fun v20 d =>
    zg 800 2 <| zl (d 401 (2 : Int).toNat) fun v28 =>
    if (v28 : Int) ≤ v20 then (
      j_X12_quietIn_43   x1 d)
    else (
      zc (f_X12_turns   d) fun _ d =>
      zl (zw (x1 + 1)) fun v38 =>
      r11 v38 d))
theorem wl_X12_quietIn_11F {V : zW} {X : zX}  (hT : zo12 V) (C : zOk V X cX12_quietIn RX12 2 (zrm 11) (some .int)) {rv : Int} {dz : zD} (E : zEnd V X (some (.int (zI rv))) (zR rv) dz) {r11 : Int → zD → Option (Int × zD)} (hr11 : ∀ {x1 : Int} {d : zD}, zR x1 → r11 x1 d = some (rv, dz) → zP V X 2 0 0 11 [some (.ref (zad V 400)), some (.int (zI x1))] [] d) {x1 : Int} (hx1 : zR x1) {d : zD} (h : l_X12_quietIn_11F  r11 x1 d = some (rv, dz)) : zP V X 2 0 0 11 [some (.ref (zad V 400)), some (.int (zI x1))] [] d := by
  refine zP_iload_n (pc := 11) C (x := zI x1) dX12_quietIn_11 rfl rfl ?_
  refine zP_sipush (pc := 12) C dX12_quietIn_12 rfl ?_
  refine zP_icmp_gt (pc := 15) (tgt := 43) C dX12_quietIn_15 rfl hx1 (zRk rfl) h (fun _ h => ?_) (fun _ h => ?_)
  · exact zP_mask [true, true] (wj_X12_quietIn_43 hT C E  hx1 h)
  · refine zP_aload_n (pc := 18) C (x := zad V 400) dX12_quietIn_18 rfl rfl ?_
    refine zP_iconst (pc := 19) C dX12_quietIn_19 ?_
    obtain ⟨v20, d1, hc, h⟩ := zc_h h
    refine zP_callV (pc := 20) (As := [.int (zI 3)]) (st := []) C m12_168 dX12_quietIn_20 (s_X12 hT) rfl (t_X12_inState hT (zRk rfl) hc) ⟨Nat.le_of_ble_eq_true rfl, Nat.le_of_ble_eq_true rfl⟩ rfl (Nat.le_of_ble_eq_true rfl) ⟨Nat.zero_le _, Nat.zero_le _⟩ fun hw => ?_
    have hv20 := hw
    clear hc hw
    show zP V X 2 0 0 23 _ [.int (zI v20)] d1
    revert h
    generalize d1 = d
    intro h
    refine zP_aload_n (pc := 23) C (x := zad V 400) dX12_quietIn_23 rfl rfl ?_
    refine zP_getR (pc := 24) (a := 400) (t := 401) C g12_13 dX12_quietIn_24 (s_X12 hT) rfl ?_
    refine zP_iconst (pc := 27) C dX12_quietIn_27 ?_
    refine zP_iald (pc := 28) (a := 401) C dX12_quietIn_28 (s_X12_s hT) (zRk rfl) h fun v28 hv28 h => ?_
    refine zP_icmp_ge (pc := 29) (tgt := 43) C dX12_quietIn_29 rfl hv20 hv28 h (fun _ h => ?_) (fun _ h => ?_)
    · exact zP_mask [true, true] (wj_X12_quietIn_43 hT C E  hx1 h)
    · refine zP_aload_n (pc := 32) C (x := zad V 400) dX12_quietIn_32 rfl rfl ?_
      obtain ⟨_, d1, hc, h⟩ := zc_h h
      refine zP_callV (pc := 33) (As := []) (st := []) C m12_171 dX12_quietIn_33 (s_X12 hT) rfl (t_X12_turns hT  hc) ⟨Nat.le_of_ble_eq_true rfl, Nat.le_of_ble_eq_true rfl⟩ rfl (Nat.le_of_ble_eq_true rfl) ⟨Nat.zero_le _, Nat.zero_le _⟩ fun hw => ?_
      clear hc hw
      show zP V X 2 0 0 36 _ [] d1
      revert h
      generalize d1 = d
      intro h
      refine zP_iload_n (pc := 36) C (x := zI x1) dX12_quietIn_36 rfl rfl ?_
      refine zP_iconst (pc := 37) C dX12_quietIn_37 ?_
      refine zP_iadd (pc := 38) C dX12_quietIn_38 h fun v38 hv38 h => ?_
      refine zP_istore_n (pc := 39) C (L' := [some (.ref (zad V 400)), some (.int (zI v38))]) dX12_quietIn_39 rfl (Nat.le_of_ble_eq_true rfl) rfl rfl ?_
      refine zP_goto (pc := 40) (tgt := 11) C dX12_quietIn_40 rfl ?_
      exact zP_mask [true, true] (hr11 hv38 h)
def l_X12_quietIn_11   : Nat → Int → zD → Option (Int × zD)
  | 0, _, _ => none
  | q + 1, x1, d => l_X12_quietIn_11F   (l_X12_quietIn_11   q) x1 d
theorem wl_X12_quietIn_11 {V : zW} {X : zX}  (hT : zo12 V) (C : zOk V X cX12_quietIn RX12 2 (zrm 11) (some .int)) {rv : Int} {dz : zD} (E : zEnd V X (some (.int (zI rv))) (zR rv) dz)  : ∀ (q : Nat) {x1 : Int} (hx1 : zR x1) {d : zD} (h : l_X12_quietIn_11   q x1 d = some (rv, dz)), zP V X 2 0 0 11 [some (.ref (zad V 400)), some (.int (zI x1))] [] d := by
  intro q
  induction q with
  | zero => intro x1 hx1 d h; cases (show (none : Option (Int × zD)) = some (rv, dz) from h)
  | succ q ih =>
    intro x1 hx1 d h
    exact wl_X12_quietIn_11F hT C E  (fun  hx1 h => ih hx1 h) hx1 h
def f_X12_quietIn  (d : zD) : Option (Int × zD) :=
  zl (zu d 400 0 0) fun d =>
  zc (f_X12_trial   d) fun _ d =>
  l_X12_quietIn_11   zF 0 d
theorem t_X12_quietIn {V : zW}  (hT : zo12 V)   {d dz : zD} {rv : Int} (h : f_X12_quietIn   d = some (rv, dz)) : zMet V 11 yX12_quietIn cX12_quietIn 2 (some .int) [.ref (zad V 400)] d (some (.int (zI rv))) (zR rv) dz := by
  refine zMet_by RX12 pn12 rfl (Nat.le_of_ble_eq_true rfl) [some (.ref (zad V 400)), none] rfl fun X C E => ?_
  refine zP_aload_n (pc := 0) C (x := zad V 400) dX12_quietIn_0 rfl rfl ?_
  refine zP_iconst (pc := 1) C dX12_quietIn_1 ?_
  refine zP_putI (pc := 2) (a := 400) C p12_1 dX12_quietIn_2 (s_X12 hT) rfl (zRk rfl) h fun d h => ?_
  refine zP_aload_n (pc := 5) C (x := zad V 400) dX12_quietIn_5 rfl rfl ?_
  obtain ⟨_, d1, hc, h⟩ := zc_h h
  refine zP_callV (pc := 6) (As := []) (st := []) C m12_379 dX12_quietIn_6 (s_X12 hT) rfl (t_X12_trial hT  hc) ⟨Nat.le_of_ble_eq_true rfl, Nat.le_of_ble_eq_true rfl⟩ rfl (Nat.le_of_ble_eq_true rfl) ⟨Nat.zero_le _, Nat.zero_le _⟩ fun hw => ?_
  clear hc hw
  show zP V X 2 0 0 9 _ [] d1
  revert h
  generalize d1 = d
  intro h
  refine zP_iconst (pc := 9) C dX12_quietIn_9 ?_
  refine zP_istore_n (pc := 10) C (L' := [some (.ref (zad V 400)), some (.int (zI 0))]) dX12_quietIn_10 rfl (Nat.le_of_ble_eq_true rfl) rfl rfl ?_
  exact zP_mask [true, true] (wl_X12_quietIn_11 hT C E  zF (zRk rfl) h)
def j_X12_switchesIn_69   (s0 : Int) (d : zD) : Option (Int × zD) :=
  zc (f_X12_back  s0 d) fun v69 d =>
  some (v69, d)
theorem wj_X12_switchesIn_69 {V : zW} {X : zX}  (hT : zo12 V) (C : zOk V X cX12_switchesIn RX12 4 (zrm 11) (some .int)) {rv : Int} {dz : zD} (E : zEnd V X (some (.int (zI rv))) (zR rv) dz)  {s0 : Int} (hs0 : zR s0) {d : zD} (h : j_X12_switchesIn_69   s0 d = some (rv, dz)) : zP V X 4 0 0 69 [none, none, none, none] [.int (zI s0), .ref (zad V 400)] d := by
  obtain ⟨v69, d1, hc, h⟩ := zc_h h
  refine zP_callV (pc := 69) (As := [.int (zI s0)]) (st := []) C m12_376 dX12_switchesIn_69 (s_X12 hT) rfl (t_X12_back hT hs0 hc) ⟨Nat.le_of_ble_eq_true rfl, Nat.le_of_ble_eq_true rfl⟩ rfl (Nat.le_of_ble_eq_true rfl) ⟨Nat.zero_le _, Nat.zero_le _⟩ fun hw => ?_
  have hv69 := hw
  clear hc hw
  show zP V X 4 0 0 72 _ [.int (zI v69)] d1
  revert h
  generalize d1 = d
  intro h
  exact zP_iret (pc := 72) C E dX12_switchesIn_72 hv69 h
def j_X12_switchesIn_56   (x3 : Int) (d : zD) : Option (Int × zD) :=
  if (x3 : Int) ≤ 200 then (
    j_X12_switchesIn_69   x3 d)
  else (
    j_X12_switchesIn_69   (-1) d)
theorem wj_X12_switchesIn_56 {V : zW} {X : zX}  (hT : zo12 V) (C : zOk V X cX12_switchesIn RX12 4 (zrm 11) (some .int)) {rv : Int} {dz : zD} (E : zEnd V X (some (.int (zI rv))) (zR rv) dz)  {x3 : Int} (hx3 : zR x3) {d : zD} (h : j_X12_switchesIn_56   x3 d = some (rv, dz)) : zP V X 4 0 0 56 [some (.ref (zad V 400)), none, none, some (.int (zI x3))] [] d := by
  refine zP_aload_n (pc := 56) C (x := zad V 400) dX12_switchesIn_56 rfl rfl ?_
  refine zP_iload_n (pc := 57) C (x := zI x3) dX12_switchesIn_57 rfl rfl ?_
  refine zP_sipush (pc := 58) C dX12_switchesIn_58 rfl ?_
  refine zP_icmp_le (pc := 61) (tgt := 68) C dX12_switchesIn_61 rfl hx3 (zRk rfl) h (fun _ h => ?_) (fun _ h => ?_)
  · refine zP_iload_n (pc := 68) C (x := zI x3) dX12_switchesIn_68 rfl rfl ?_
    exact zP_mask [false, false, false, false] (wj_X12_switchesIn_69 hT C E  hx3 h)
  · refine zP_iconst (pc := 64) C dX12_switchesIn_64 ?_
    refine zP_goto (pc := 65) (tgt := 69) C dX12_switchesIn_65 rfl ?_
    exact zP_mask [false, false, false, false] (wj_X12_switchesIn_69 hT C E  (zRk rfl) h)
def l_X12_switchesIn_28F  (r28 : Int → Int → Int → zD → Option (Int × zD)) (x1 x2 x3 : Int) (d : zD) : Option (Int × zD) :=
  if (200 : Int) < x3 then (
    j_X12_switchesIn_56   x3 d)
  else (
    zc (f_X12_of  x1 4 d) fun v38 d =>
    if (v38 : Int) = x2 then (
      zc (f_X12_turns   d) fun _ d =>
      zl (zw (x3 + 1)) fun v51 =>
      r28 x1 x2 v51 d)
    else (
      j_X12_switchesIn_56   x3 d))
theorem wl_X12_switchesIn_28F {V : zW} {X : zX}  (hT : zo12 V) (C : zOk V X cX12_switchesIn RX12 4 (zrm 11) (some .int)) {rv : Int} {dz : zD} (E : zEnd V X (some (.int (zI rv))) (zR rv) dz) {r28 : Int → Int → Int → zD → Option (Int × zD)} (hr28 : ∀ {x1 x2 x3 : Int} {d : zD}, zR x1 → zR x2 → zR x3 → r28 x1 x2 x3 d = some (rv, dz) → zP V X 4 0 0 28 [some (.ref (zad V 400)), some (.int (zI x1)), some (.int (zI x2)), some (.int (zI x3))] [] d) {x1 x2 x3 : Int} (hx1 : zR x1) (hx2 : zR x2) (hx3 : zR x3) {d : zD} (h : l_X12_switchesIn_28F  r28 x1 x2 x3 d = some (rv, dz)) : zP V X 4 0 0 28 [some (.ref (zad V 400)), some (.int (zI x1)), some (.int (zI x2)), some (.int (zI x3))] [] d := by
  refine zP_iload_n (pc := 28) C (x := zI x3) dX12_switchesIn_28 rfl rfl ?_
  refine zP_sipush (pc := 29) C dX12_switchesIn_29 rfl ?_
  refine zP_icmp_gt (pc := 32) (tgt := 56) C dX12_switchesIn_32 rfl hx3 (zRk rfl) h (fun _ h => ?_) (fun _ h => ?_)
  · exact zP_mask [true, false, false, true] (wj_X12_switchesIn_56 hT C E  hx3 h)
  · refine zP_aload_n (pc := 35) C (x := zad V 400) dX12_switchesIn_35 rfl rfl ?_
    refine zP_iload_n (pc := 36) C (x := zI x1) dX12_switchesIn_36 rfl rfl ?_
    refine zP_iconst (pc := 37) C dX12_switchesIn_37 ?_
    obtain ⟨v38, d1, hc, h⟩ := zc_h h
    refine zP_callV (pc := 38) (As := [.int (zI x1), .int (zI 4)]) (st := []) C m12_57 dX12_switchesIn_38 (s_X12 hT) rfl (t_X12_of hT hx1 (zRk rfl) hc) ⟨Nat.le_of_ble_eq_true rfl, Nat.le_of_ble_eq_true rfl⟩ rfl (Nat.le_of_ble_eq_true rfl) ⟨Nat.zero_le _, Nat.zero_le _⟩ fun hw => ?_
    have hv38 := hw
    clear hc hw
    show zP V X 4 0 0 41 _ [.int (zI v38)] d1
    revert h
    generalize d1 = d
    intro h
    refine zP_iload_n (pc := 41) C (x := zI x2) dX12_switchesIn_41 rfl rfl ?_
    refine zP_icmp_ne (pc := 42) (tgt := 56) C dX12_switchesIn_42 rfl hv38 hx2 h (fun _ h => ?_) (fun _ h => ?_)
    · exact zP_mask [true, false, false, true] (wj_X12_switchesIn_56 hT C E  hx3 h)
    · refine zP_aload_n (pc := 45) C (x := zad V 400) dX12_switchesIn_45 rfl rfl ?_
      obtain ⟨_, d1, hc, h⟩ := zc_h h
      refine zP_callV (pc := 46) (As := []) (st := []) C m12_171 dX12_switchesIn_46 (s_X12 hT) rfl (t_X12_turns hT  hc) ⟨Nat.le_of_ble_eq_true rfl, Nat.le_of_ble_eq_true rfl⟩ rfl (Nat.le_of_ble_eq_true rfl) ⟨Nat.zero_le _, Nat.zero_le _⟩ fun hw => ?_
      clear hc hw
      show zP V X 4 0 0 49 _ [] d1
      revert h
      generalize d1 = d
      intro h
      refine zP_iload_n (pc := 49) C (x := zI x3) dX12_switchesIn_49 rfl rfl ?_
      refine zP_iconst (pc := 50) C dX12_switchesIn_50 ?_
      refine zP_iadd (pc := 51) C dX12_switchesIn_51 h fun v51 hv51 h => ?_
      refine zP_istore_n (pc := 52) C (L' := [some (.ref (zad V 400)), some (.int (zI x1)), some (.int (zI x2)), some (.int (zI v51))]) dX12_switchesIn_52 rfl (Nat.le_of_ble_eq_true rfl) rfl rfl ?_
      refine zP_goto (pc := 53) (tgt := 28) C dX12_switchesIn_53 rfl ?_
      exact zP_mask [true, true, true, true] (hr28 hx1 hx2 hv51 h)
def l_X12_switchesIn_28   : Nat → Int → Int → Int → zD → Option (Int × zD)
  | 0, _, _, _, _ => none
  | q + 1, x1, x2, x3, d => l_X12_switchesIn_28F   (l_X12_switchesIn_28   q) x1 x2 x3 d
theorem wl_X12_switchesIn_28 {V : zW} {X : zX}  (hT : zo12 V) (C : zOk V X cX12_switchesIn RX12 4 (zrm 11) (some .int)) {rv : Int} {dz : zD} (E : zEnd V X (some (.int (zI rv))) (zR rv) dz)  : ∀ (q : Nat) {x1 x2 x3 : Int} (hx1 : zR x1) (hx2 : zR x2) (hx3 : zR x3) {d : zD} (h : l_X12_switchesIn_28   q x1 x2 x3 d = some (rv, dz)), zP V X 4 0 0 28 [some (.ref (zad V 400)), some (.int (zI x1)), some (.int (zI x2)), some (.int (zI x3))] [] d := by
  intro q
  induction q with
  | zero => intro x1 x2 x3 hx1 hx2 hx3 d h; cases (show (none : Option (Int × zD)) = some (rv, dz) from h)
  | succ q ih =>
    intro x1 x2 x3 hx1 hx2 hx3 d h
    exact wl_X12_switchesIn_28F hT C E  (fun  hx1 hx2 hx3 h => ih hx1 hx2 hx3 h) hx1 hx2 hx3 h
def f_X12_switchesIn  (x1 : Int) (d : zD) : Option (Int × zD) :=
  zc (f_X12_isTerminal  x1 d) fun v3 d =>
  zc (f_X12_may  v3 1 d) fun v7 d =>
  if (v7 : Int) = 0 then (
    some (0, d))
  else (
    zc (f_X12_trial   d) fun _ d =>
    zc (f_X12_of  x1 4 d) fun v22 d =>
    l_X12_switchesIn_28   zF x1 v22 0 d)
theorem t_X12_switchesIn {V : zW}  (hT : zo12 V) {x1 : Int} (hx1 : zR x1) {d dz : zD} {rv : Int} (h : f_X12_switchesIn  x1 d = some (rv, dz)) : zMet V 11 yX12_switchesIn cX12_switchesIn 4 (some .int) [.ref (zad V 400), .int (zI x1)] d (some (.int (zI rv))) (zR rv) dz := by
  refine zMet_by RX12 pn12 rfl (Nat.le_of_ble_eq_true rfl) [some (.ref (zad V 400)), some (.int (zI x1)), none, none] rfl fun X C E => ?_
  refine zP_aload_n (pc := 0) C (x := zad V 400) dX12_switchesIn_0 rfl rfl ?_
  refine zP_aload_n (pc := 1) C (x := zad V 400) dX12_switchesIn_1 rfl rfl ?_
  refine zP_iload_n (pc := 2) C (x := zI x1) dX12_switchesIn_2 rfl rfl ?_
  obtain ⟨v3, d1, hc, h⟩ := zc_h h
  refine zP_callV (pc := 3) (As := [.int (zI x1)]) (st := [.ref (zad V 400)]) C m12_360 dX12_switchesIn_3 (s_X12 hT) rfl (t_X12_isTerminal hT hx1 hc) ⟨Nat.le_of_ble_eq_true rfl, Nat.le_of_ble_eq_true rfl⟩ rfl (Nat.le_of_ble_eq_true rfl) ⟨Nat.zero_le _, Nat.zero_le _⟩ fun hw => ?_
  have hbv3 := hw
  have hv3 := z01 hw
  clear hc hw
  show zP V X 4 0 0 6 _ [.int (zI v3), .ref (zad V 400)] d1
  revert h
  generalize d1 = d
  intro h
  refine zP_iconst (pc := 6) C dX12_switchesIn_6 ?_
  obtain ⟨v7, d1, hc, h⟩ := zc_h h
  refine zP_callV (pc := 7) (As := [.int (zI v3), .int (zI 1)]) (st := []) C m12_363 dX12_switchesIn_7 (s_X12 hT) rfl (t_X12_may hT hv3 (zRk rfl) hc) ⟨Nat.le_of_ble_eq_true rfl, Nat.le_of_ble_eq_true rfl⟩ rfl (Nat.le_of_ble_eq_true rfl) ⟨Nat.zero_le _, Nat.zero_le _⟩ fun hw => ?_
  have hbv7 := hw
  have hv7 := z01 hw
  clear hc hw
  show zP V X 4 0 0 10 _ [.int (zI v7)] d1
  revert h
  generalize d1 = d
  intro h
  refine zP_if_ne (pc := 10) (tgt := 15) C dX12_switchesIn_10 rfl hv7 h (fun _ h => ?_) (fun _ h => ?_)
  · refine zP_aload_n (pc := 15) C (x := zad V 400) dX12_switchesIn_15 rfl rfl ?_
    obtain ⟨_, d1, hc, h⟩ := zc_h h
    refine zP_callV (pc := 16) (As := []) (st := []) C m12_379 dX12_switchesIn_16 (s_X12 hT) rfl (t_X12_trial hT  hc) ⟨Nat.le_of_ble_eq_true rfl, Nat.le_of_ble_eq_true rfl⟩ rfl (Nat.le_of_ble_eq_true rfl) ⟨Nat.zero_le _, Nat.zero_le _⟩ fun hw => ?_
    clear hc hw
    show zP V X 4 0 0 19 _ [] d1
    revert h
    generalize d1 = d
    intro h
    refine zP_aload_n (pc := 19) C (x := zad V 400) dX12_switchesIn_19 rfl rfl ?_
    refine zP_iload_n (pc := 20) C (x := zI x1) dX12_switchesIn_20 rfl rfl ?_
    refine zP_iconst (pc := 21) C dX12_switchesIn_21 ?_
    obtain ⟨v22, d1, hc, h⟩ := zc_h h
    refine zP_callV (pc := 22) (As := [.int (zI x1), .int (zI 4)]) (st := []) C m12_57 dX12_switchesIn_22 (s_X12 hT) rfl (t_X12_of hT hx1 (zRk rfl) hc) ⟨Nat.le_of_ble_eq_true rfl, Nat.le_of_ble_eq_true rfl⟩ rfl (Nat.le_of_ble_eq_true rfl) ⟨Nat.zero_le _, Nat.zero_le _⟩ fun hw => ?_
    have hv22 := hw
    clear hc hw
    show zP V X 4 0 0 25 _ [.int (zI v22)] d1
    revert h
    generalize d1 = d
    intro h
    refine zP_istore_n (pc := 25) C (L' := [some (.ref (zad V 400)), some (.int (zI x1)), some (.int (zI v22)), none]) dX12_switchesIn_25 rfl (Nat.le_of_ble_eq_true rfl) rfl rfl ?_
    refine zP_iconst (pc := 26) C dX12_switchesIn_26 ?_
    refine zP_istore_n (pc := 27) C (L' := [some (.ref (zad V 400)), some (.int (zI x1)), some (.int (zI v22)), some (.int (zI 0))]) dX12_switchesIn_27 rfl (Nat.le_of_ble_eq_true rfl) rfl rfl ?_
    exact zP_mask [true, true, true, true] (wl_X12_switchesIn_28 hT C E  zF hx1 hv22 (zRk rfl) h)
  · refine zP_iconst (pc := 13) C dX12_switchesIn_13 ?_
    exact zP_iret (pc := 14) C E dX12_switchesIn_14 (zRk rfl) h
def f_X12_deliveredWith  (x1 x2 x3 : Int) (d : zD) : Option (Int × zD) :=
  zc (f_X12_trial   d) fun _ d =>
  zl (zw (6 + x1)) fun v11 =>
  zg 800 v11 <| zl (zu d 401 (v11 : Int).toNat x2) fun d =>
  zc (f_X12_deliveredBy  x3 d) fun v16 d =>
  some (v16, d)
theorem t_X12_deliveredWith {V : zW}  (hT : zo12 V) {x1 x2 x3 : Int} (hx1 : zR x1) (hx2 : zR x2) (hx3 : zR x3) {d dz : zD} {rv : Int} (h : f_X12_deliveredWith  x1 x2 x3 d = some (rv, dz)) : zMet V 13 yX12_deliveredWith cX12_deliveredWith 4 (some .int) [.ref (zad V 400), .int (zI x1), .int (zI x2), .int (zI x3)] d (some (.int (zI rv))) (zR rv) dz := by
  refine zMet_by RX12 pn12 rfl (Nat.le_of_ble_eq_true rfl) [some (.ref (zad V 400)), some (.int (zI x1)), some (.int (zI x2)), some (.int (zI x3))] rfl fun X C E => ?_
  refine zP_aload_n (pc := 0) C (x := zad V 400) dX12_deliveredWith_0 rfl rfl ?_
  obtain ⟨_, d1, hc, h⟩ := zc_h h
  refine zP_callV (pc := 1) (As := []) (st := []) C m12_379 dX12_deliveredWith_1 (s_X12 hT) rfl (t_X12_trial hT  hc) ⟨Nat.le_of_ble_eq_true rfl, Nat.le_of_ble_eq_true rfl⟩ rfl (Nat.le_of_ble_eq_true rfl) ⟨Nat.zero_le _, Nat.zero_le _⟩ fun hw => ?_
  clear hc hw
  show zP V X 4 0 0 4 _ [] d1
  revert h
  generalize d1 = d
  intro h
  refine zP_aload_n (pc := 4) C (x := zad V 400) dX12_deliveredWith_4 rfl rfl ?_
  refine zP_getR (pc := 5) (a := 400) (t := 401) C g12_13 dX12_deliveredWith_5 (s_X12 hT) rfl ?_
  refine zP_bipush (pc := 8) C dX12_deliveredWith_8 rfl ?_
  refine zP_iload_n (pc := 10) C (x := zI x1) dX12_deliveredWith_10 rfl rfl ?_
  refine zP_iadd (pc := 11) C dX12_deliveredWith_11 h fun v11 hv11 h => ?_
  refine zP_iload_n (pc := 12) C (x := zI x2) dX12_deliveredWith_12 rfl rfl ?_
  refine zP_iast (pc := 13) (a := 401) C dX12_deliveredWith_13 (s_X12_s hT) hv11 hx2 h fun d h => ?_
  refine zP_aload_n (pc := 14) C (x := zad V 400) dX12_deliveredWith_14 rfl rfl ?_
  refine zP_iload_n (pc := 15) C (x := zI x3) dX12_deliveredWith_15 rfl rfl ?_
  obtain ⟨v16, d1, hc, h⟩ := zc_h h
  refine zP_callV (pc := 16) (As := [.int (zI x3)]) (st := []) C m12_382 dX12_deliveredWith_16 (s_X12 hT) rfl (t_X12_deliveredBy hT hx3 hc) ⟨Nat.le_of_ble_eq_true rfl, Nat.le_of_ble_eq_true rfl⟩ rfl (Nat.le_of_ble_eq_true rfl) ⟨Nat.zero_le _, Nat.zero_le _⟩ fun hw => ?_
  have hv16 := hw
  clear hc hw
  show zP V X 4 0 0 19 _ [.int (zI v16)] d1
  revert h
  generalize d1 = d
  intro h
  exact zP_iret (pc := 19) C E dX12_deliveredWith_19 hv16 h
def l_X12_bestTries_30F  (r30 : Int → Int → Int → Int → zD → Option (Int × zD)) (x1 x2 x3 x4 : Int) (d : zD) : Option (Int × zD) :=
  if (5 : Int) < x4 then (
    some (x2, d))
  else (
    zc (f_X12_deliveredWith  1 x4 x1 d) fun v41 d =>
    if (v41 : Int) ≤ x3 then (
      zl (zw (x4 + 1)) fun v58 =>
      r30 x1 x2 x3 v58 d)
    else (
      zl (zw (x4 + 1)) fun v58 =>
      r30 x1 x4 v41 v58 d))
theorem wl_X12_bestTries_30F {V : zW} {X : zX}  (hT : zo12 V) (C : zOk V X cX12_bestTries RX12 6 (zrm 14) (some .int)) {rv : Int} {dz : zD} (E : zEnd V X (some (.int (zI rv))) (zR rv) dz) {r30 : Int → Int → Int → Int → zD → Option (Int × zD)} (hr30 : ∀ {x1 x2 x3 x4 : Int} {d : zD}, zR x1 → zR x2 → zR x3 → zR x4 → r30 x1 x2 x3 x4 d = some (rv, dz) → zP V X 6 0 0 30 [some (.ref (zad V 400)), some (.int (zI x1)), some (.int (zI x2)), some (.int (zI x3)), some (.int (zI x4)), none] [] d) {x1 x2 x3 x4 : Int} (hx1 : zR x1) (hx2 : zR x2) (hx3 : zR x3) (hx4 : zR x4) {d : zD} (h : l_X12_bestTries_30F  r30 x1 x2 x3 x4 d = some (rv, dz)) : zP V X 6 0 0 30 [some (.ref (zad V 400)), some (.int (zI x1)), some (.int (zI x2)), some (.int (zI x3)), some (.int (zI x4)), none] [] d := by
  refine zP_iload (pc := 30) C (x := zI x4) dX12_bestTries_30 rfl ?_
  refine zP_iconst (pc := 32) C dX12_bestTries_32 ?_
  refine zP_icmp_gt (pc := 33) (tgt := 64) C dX12_bestTries_33 rfl hx4 (zRk rfl) h (fun _ h => ?_) (fun _ h => ?_)
  · refine zP_iload_n (pc := 64) C (x := zI x2) dX12_bestTries_64 rfl rfl ?_
    exact zP_iret (pc := 65) C E dX12_bestTries_65 hx2 h
  · refine zP_aload_n (pc := 36) C (x := zad V 400) dX12_bestTries_36 rfl rfl ?_
    refine zP_iconst (pc := 37) C dX12_bestTries_37 ?_
    refine zP_iload (pc := 38) C (x := zI x4) dX12_bestTries_38 rfl ?_
    refine zP_iload_n (pc := 40) C (x := zI x1) dX12_bestTries_40 rfl rfl ?_
    obtain ⟨v41, d1, hc, h⟩ := zc_h h
    refine zP_callV (pc := 41) (As := [.int (zI 1), .int (zI x4), .int (zI x1)]) (st := []) C m12_385 dX12_bestTries_41 (s_X12 hT) rfl (t_X12_deliveredWith hT (zRk rfl) hx4 hx1 hc) ⟨Nat.le_of_ble_eq_true rfl, Nat.le_of_ble_eq_true rfl⟩ rfl (Nat.le_of_ble_eq_true rfl) ⟨Nat.zero_le _, Nat.zero_le _⟩ fun hw => ?_
    have hv41 := hw
    clear hc hw
    show zP V X 6 0 0 44 _ [.int (zI v41)] d1
    revert h
    generalize d1 = d
    intro h
    refine zP_istore (pc := 44) C (L' := [some (.ref (zad V 400)), some (.int (zI x1)), some (.int (zI x2)), some (.int (zI x3)), some (.int (zI x4)), some (.int (zI v41))]) dX12_bestTries_44 (Nat.le_of_ble_eq_true rfl) rfl rfl ?_
    refine zP_iload (pc := 46) C (x := zI v41) dX12_bestTries_46 rfl ?_
    refine zP_iload_n (pc := 48) C (x := zI x3) dX12_bestTries_48 rfl rfl ?_
    refine zP_icmp_le (pc := 49) (tgt := 58) C dX12_bestTries_49 rfl hv41 hx3 h (fun _ h => ?_) (fun _ h => ?_)
    · refine zP_iinc (pc := 58) C (x := x4) dX12_bestTries_58 rfl (Nat.le_of_ble_eq_true rfl) rfl h fun v58 hv58 h => ?_
      show zP V X 6 0 0 61 [some (.ref (zad V 400)), some (.int (zI x1)), some (.int (zI x2)), some (.int (zI x3)), some (.int (zI v58)), some (.int (zI v41))] _ _
      refine zP_goto (pc := 61) (tgt := 30) C dX12_bestTries_61 rfl ?_
      exact zP_mask [true, true, true, true, true, false] (hr30 hx1 hx2 hx3 hv58 h)
    · refine zP_iload (pc := 52) C (x := zI x4) dX12_bestTries_52 rfl ?_
      refine zP_istore_n (pc := 54) C (L' := [some (.ref (zad V 400)), some (.int (zI x1)), some (.int (zI x4)), some (.int (zI x3)), some (.int (zI x4)), some (.int (zI v41))]) dX12_bestTries_54 rfl (Nat.le_of_ble_eq_true rfl) rfl rfl ?_
      refine zP_iload (pc := 55) C (x := zI v41) dX12_bestTries_55 rfl ?_
      refine zP_istore_n (pc := 57) C (L' := [some (.ref (zad V 400)), some (.int (zI x1)), some (.int (zI x4)), some (.int (zI v41)), some (.int (zI x4)), some (.int (zI v41))]) dX12_bestTries_57 rfl (Nat.le_of_ble_eq_true rfl) rfl rfl ?_
      refine zP_iinc (pc := 58) C (x := x4) dX12_bestTries_58 rfl (Nat.le_of_ble_eq_true rfl) rfl h fun v58 hv58 h => ?_
      show zP V X 6 0 0 61 [some (.ref (zad V 400)), some (.int (zI x1)), some (.int (zI x4)), some (.int (zI v41)), some (.int (zI v58)), some (.int (zI v41))] _ _
      refine zP_goto (pc := 61) (tgt := 30) C dX12_bestTries_61 rfl ?_
      exact zP_mask [true, true, true, true, true, false] (hr30 hx1 hx4 hv41 hv58 h)
def l_X12_bestTries_30   : Nat → Int → Int → Int → Int → zD → Option (Int × zD)
  | 0, _, _, _, _, _ => none
  | q + 1, x1, x2, x3, x4, d => l_X12_bestTries_30F   (l_X12_bestTries_30   q) x1 x2 x3 x4 d
theorem wl_X12_bestTries_30 {V : zW} {X : zX}  (hT : zo12 V) (C : zOk V X cX12_bestTries RX12 6 (zrm 14) (some .int)) {rv : Int} {dz : zD} (E : zEnd V X (some (.int (zI rv))) (zR rv) dz)  : ∀ (q : Nat) {x1 x2 x3 x4 : Int} (hx1 : zR x1) (hx2 : zR x2) (hx3 : zR x3) (hx4 : zR x4) {d : zD} (h : l_X12_bestTries_30   q x1 x2 x3 x4 d = some (rv, dz)), zP V X 6 0 0 30 [some (.ref (zad V 400)), some (.int (zI x1)), some (.int (zI x2)), some (.int (zI x3)), some (.int (zI x4)), none] [] d := by
  intro q
  induction q with
  | zero => intro x1 x2 x3 x4 hx1 hx2 hx3 hx4 d h; cases (show (none : Option (Int × zD)) = some (rv, dz) from h)
  | succ q ih =>
    intro x1 x2 x3 x4 hx1 hx2 hx3 hx4 d h
    exact wl_X12_bestTries_30F hT C E  (fun  hx1 hx2 hx3 hx4 h => ih hx1 hx2 hx3 hx4 h) hx1 hx2 hx3 hx4 h
def f_X12_bestTries  (x1 : Int) (d : zD) : Option (Int × zD) :=
  zc (f_X12_isIn  x1 1 50 d) fun v5 d =>
  zc (f_X12_may  v5 1 d) fun v9 d =>
  if (v9 : Int) = 0 then (
    some (0, d))
  else (
    zc (f_X12_deliveredWith  1 1 x1 d) fun v23 d =>
    l_X12_bestTries_30   zF x1 1 v23 2 d)
theorem t_X12_bestTries {V : zW}  (hT : zo12 V) {x1 : Int} (hx1 : zR x1) {d dz : zD} {rv : Int} (h : f_X12_bestTries  x1 d = some (rv, dz)) : zMet V 14 yX12_bestTries cX12_bestTries 6 (some .int) [.ref (zad V 400), .int (zI x1)] d (some (.int (zI rv))) (zR rv) dz := by
  refine zMet_by RX12 pn12 rfl (Nat.le_of_ble_eq_true rfl) [some (.ref (zad V 400)), some (.int (zI x1)), none, none, none, none] rfl fun X C E => ?_
  refine zP_aload_n (pc := 0) C (x := zad V 400) dX12_bestTries_0 rfl rfl ?_
  refine zP_iload_n (pc := 1) C (x := zI x1) dX12_bestTries_1 rfl rfl ?_
  refine zP_iconst (pc := 2) C dX12_bestTries_2 ?_
  refine zP_bipush (pc := 3) C dX12_bestTries_3 rfl ?_
  obtain ⟨v5, d1, hc, h⟩ := zc_h h
  refine zP_callS (pc := 5) (As := [.int (zI x1), .int (zI 1), .int (zI 50)]) (st := [.ref (zad V 400)]) C m12_53 dX12_bestTries_5 (t_X12_isIn  hx1 (zRk rfl) (zRk rfl) hc) ⟨Nat.le_of_ble_eq_true rfl, Nat.le_of_ble_eq_true rfl⟩ rfl (Nat.le_of_ble_eq_true rfl) ⟨Nat.zero_le _, Nat.zero_le _⟩ fun hw => ?_
  have hbv5 := hw
  have hv5 := z01 hw
  clear hc hw
  show zP V X 6 0 0 8 _ [.int (zI v5), .ref (zad V 400)] d1
  revert h
  generalize d1 = d
  intro h
  refine zP_iconst (pc := 8) C dX12_bestTries_8 ?_
  obtain ⟨v9, d1, hc, h⟩ := zc_h h
  refine zP_callV (pc := 9) (As := [.int (zI v5), .int (zI 1)]) (st := []) C m12_363 dX12_bestTries_9 (s_X12 hT) rfl (t_X12_may hT hv5 (zRk rfl) hc) ⟨Nat.le_of_ble_eq_true rfl, Nat.le_of_ble_eq_true rfl⟩ rfl (Nat.le_of_ble_eq_true rfl) ⟨Nat.zero_le _, Nat.zero_le _⟩ fun hw => ?_
  have hbv9 := hw
  have hv9 := z01 hw
  clear hc hw
  show zP V X 6 0 0 12 _ [.int (zI v9)] d1
  revert h
  generalize d1 = d
  intro h
  refine zP_if_ne (pc := 12) (tgt := 17) C dX12_bestTries_12 rfl hv9 h (fun _ h => ?_) (fun _ h => ?_)
  · refine zP_iconst (pc := 17) C dX12_bestTries_17 ?_
    refine zP_istore_n (pc := 18) C (L' := [some (.ref (zad V 400)), some (.int (zI x1)), some (.int (zI 1)), none, none, none]) dX12_bestTries_18 rfl (Nat.le_of_ble_eq_true rfl) rfl rfl ?_
    refine zP_aload_n (pc := 19) C (x := zad V 400) dX12_bestTries_19 rfl rfl ?_
    refine zP_iconst (pc := 20) C dX12_bestTries_20 ?_
    refine zP_iconst (pc := 21) C dX12_bestTries_21 ?_
    refine zP_iload_n (pc := 22) C (x := zI x1) dX12_bestTries_22 rfl rfl ?_
    obtain ⟨v23, d1, hc, h⟩ := zc_h h
    refine zP_callV (pc := 23) (As := [.int (zI 1), .int (zI 1), .int (zI x1)]) (st := []) C m12_385 dX12_bestTries_23 (s_X12 hT) rfl (t_X12_deliveredWith hT (zRk rfl) (zRk rfl) hx1 hc) ⟨Nat.le_of_ble_eq_true rfl, Nat.le_of_ble_eq_true rfl⟩ rfl (Nat.le_of_ble_eq_true rfl) ⟨Nat.zero_le _, Nat.zero_le _⟩ fun hw => ?_
    have hv23 := hw
    clear hc hw
    show zP V X 6 0 0 26 _ [.int (zI v23)] d1
    revert h
    generalize d1 = d
    intro h
    refine zP_istore_n (pc := 26) C (L' := [some (.ref (zad V 400)), some (.int (zI x1)), some (.int (zI 1)), some (.int (zI v23)), none, none]) dX12_bestTries_26 rfl (Nat.le_of_ble_eq_true rfl) rfl rfl ?_
    refine zP_iconst (pc := 27) C dX12_bestTries_27 ?_
    refine zP_istore (pc := 28) C (L' := [some (.ref (zad V 400)), some (.int (zI x1)), some (.int (zI 1)), some (.int (zI v23)), some (.int (zI 2)), none]) dX12_bestTries_28 (Nat.le_of_ble_eq_true rfl) rfl rfl ?_
    exact zP_mask [true, true, true, true, true, false] (wl_X12_bestTries_30 hT C E  zF hx1 (zRk rfl) hv23 (zRk rfl) h)
  · refine zP_iconst (pc := 15) C dX12_bestTries_15 ?_
    exact zP_iret (pc := 16) C E dX12_bestTries_16 (zRk rfl) h
def f_X12_lostByNoise  (x1 : Int) (d : zD) : Option (Int × zD) :=
  zc (f_X12_isIn  x1 1 100 d) fun v5 d =>
  zc (f_X12_may  v5 1 d) fun v9 d =>
  if (v9 : Int) = 0 then (
    some (0, d))
  else (
    zc (f_X12_deliveredWith  5 0 x1 d) fun v21 d =>
    zg 800 11 <| zl (d 401 (11 : Int).toNat) fun v34 =>
    zc (f_X12_deliveredWith  5 v34 x1 d) fun v36 d =>
    zl (zw (v21 - v36)) fun v39 =>
    some (v39, d))
theorem t_X12_lostByNoise {V : zW}  (hT : zo12 V) {x1 : Int} (hx1 : zR x1) {d dz : zD} {rv : Int} (h : f_X12_lostByNoise  x1 d = some (rv, dz)) : zMet V 14 yX12_lostByNoise cX12_lostByNoise 3 (some .int) [.ref (zad V 400), .int (zI x1)] d (some (.int (zI rv))) (zR rv) dz := by
  refine zMet_by RX12 pn12 rfl (Nat.le_of_ble_eq_true rfl) [some (.ref (zad V 400)), some (.int (zI x1)), none] rfl fun X C E => ?_
  refine zP_aload_n (pc := 0) C (x := zad V 400) dX12_lostByNoise_0 rfl rfl ?_
  refine zP_iload_n (pc := 1) C (x := zI x1) dX12_lostByNoise_1 rfl rfl ?_
  refine zP_iconst (pc := 2) C dX12_lostByNoise_2 ?_
  refine zP_bipush (pc := 3) C dX12_lostByNoise_3 rfl ?_
  obtain ⟨v5, d1, hc, h⟩ := zc_h h
  refine zP_callS (pc := 5) (As := [.int (zI x1), .int (zI 1), .int (zI 100)]) (st := [.ref (zad V 400)]) C m12_53 dX12_lostByNoise_5 (t_X12_isIn  hx1 (zRk rfl) (zRk rfl) hc) ⟨Nat.le_of_ble_eq_true rfl, Nat.le_of_ble_eq_true rfl⟩ rfl (Nat.le_of_ble_eq_true rfl) ⟨Nat.zero_le _, Nat.zero_le _⟩ fun hw => ?_
  have hbv5 := hw
  have hv5 := z01 hw
  clear hc hw
  show zP V X 3 0 0 8 _ [.int (zI v5), .ref (zad V 400)] d1
  revert h
  generalize d1 = d
  intro h
  refine zP_iconst (pc := 8) C dX12_lostByNoise_8 ?_
  obtain ⟨v9, d1, hc, h⟩ := zc_h h
  refine zP_callV (pc := 9) (As := [.int (zI v5), .int (zI 1)]) (st := []) C m12_363 dX12_lostByNoise_9 (s_X12 hT) rfl (t_X12_may hT hv5 (zRk rfl) hc) ⟨Nat.le_of_ble_eq_true rfl, Nat.le_of_ble_eq_true rfl⟩ rfl (Nat.le_of_ble_eq_true rfl) ⟨Nat.zero_le _, Nat.zero_le _⟩ fun hw => ?_
  have hbv9 := hw
  have hv9 := z01 hw
  clear hc hw
  show zP V X 3 0 0 12 _ [.int (zI v9)] d1
  revert h
  generalize d1 = d
  intro h
  refine zP_if_ne (pc := 12) (tgt := 17) C dX12_lostByNoise_12 rfl hv9 h (fun _ h => ?_) (fun _ h => ?_)
  · refine zP_aload_n (pc := 17) C (x := zad V 400) dX12_lostByNoise_17 rfl rfl ?_
    refine zP_iconst (pc := 18) C dX12_lostByNoise_18 ?_
    refine zP_iconst (pc := 19) C dX12_lostByNoise_19 ?_
    refine zP_iload_n (pc := 20) C (x := zI x1) dX12_lostByNoise_20 rfl rfl ?_
    obtain ⟨v21, d1, hc, h⟩ := zc_h h
    refine zP_callV (pc := 21) (As := [.int (zI 5), .int (zI 0), .int (zI x1)]) (st := []) C m12_385 dX12_lostByNoise_21 (s_X12 hT) rfl (t_X12_deliveredWith hT (zRk rfl) (zRk rfl) hx1 hc) ⟨Nat.le_of_ble_eq_true rfl, Nat.le_of_ble_eq_true rfl⟩ rfl (Nat.le_of_ble_eq_true rfl) ⟨Nat.zero_le _, Nat.zero_le _⟩ fun hw => ?_
    have hv21 := hw
    clear hc hw
    show zP V X 3 0 0 24 _ [.int (zI v21)] d1
    revert h
    generalize d1 = d
    intro h
    refine zP_istore_n (pc := 24) C (L' := [some (.ref (zad V 400)), some (.int (zI x1)), some (.int (zI v21))]) dX12_lostByNoise_24 rfl (Nat.le_of_ble_eq_true rfl) rfl rfl ?_
    refine zP_iload_n (pc := 25) C (x := zI v21) dX12_lostByNoise_25 rfl rfl ?_
    refine zP_aload_n (pc := 26) C (x := zad V 400) dX12_lostByNoise_26 rfl rfl ?_
    refine zP_iconst (pc := 27) C dX12_lostByNoise_27 ?_
    refine zP_aload_n (pc := 28) C (x := zad V 400) dX12_lostByNoise_28 rfl rfl ?_
    refine zP_getR (pc := 29) (a := 400) (t := 401) C g12_13 dX12_lostByNoise_29 (s_X12 hT) rfl ?_
    refine zP_bipush (pc := 32) C dX12_lostByNoise_32 rfl ?_
    refine zP_iald (pc := 34) (a := 401) C dX12_lostByNoise_34 (s_X12_s hT) (zRk rfl) h fun v34 hv34 h => ?_
    refine zP_iload_n (pc := 35) C (x := zI x1) dX12_lostByNoise_35 rfl rfl ?_
    obtain ⟨v36, d1, hc, h⟩ := zc_h h
    refine zP_callV (pc := 36) (As := [.int (zI 5), .int (zI v34), .int (zI x1)]) (st := [.int (zI v21)]) C m12_385 dX12_lostByNoise_36 (s_X12 hT) rfl (t_X12_deliveredWith hT (zRk rfl) hv34 hx1 hc) ⟨Nat.le_of_ble_eq_true rfl, Nat.le_of_ble_eq_true rfl⟩ rfl (Nat.le_of_ble_eq_true rfl) ⟨Nat.zero_le _, Nat.zero_le _⟩ fun hw => ?_
    have hv36 := hw
    clear hc hw
    show zP V X 3 0 0 39 _ [.int (zI v36), .int (zI v21)] d1
    revert h
    generalize d1 = d
    intro h
    refine zP_isub (pc := 39) C dX12_lostByNoise_39 h fun v39 hv39 h => ?_
    exact zP_iret (pc := 40) C E dX12_lostByNoise_40 hv39 h
  · refine zP_iconst (pc := 15) C dX12_lostByNoise_15 ?_
    exact zP_iret (pc := 16) C E dX12_lostByNoise_16 (zRk rfl) h
def l_X12_worst_11F  (r11 : Int → Int → Int → zD → Option (Int × zD)) (x1 x2 x3 : Int) (d : zD) : Option (Int × zD) :=
  zc (f_X12_many   d) fun v13 d =>
  if (v13 : Int) ≤ x3 then (
    some (x1, d))
  else (
    zc (f_X12_of  x3 14 d) fun v23 d =>
    if (x2 : Int) < v23 then (
      zc (f_X12_of  x3 14 d) fun v39 d =>
      zl (zw (x3 + 1)) fun v43 =>
      r11 x3 v39 v43 d)
    else (
      zl (zw (x3 + 1)) fun v43 =>
      r11 x1 x2 v43 d))
theorem wl_X12_worst_11F {V : zW} {X : zX}  (hT : zo12 V) (C : zOk V X cX12_worst RX12 4 (zrm 1) (some .int)) {rv : Int} {dz : zD} (E : zEnd V X (some (.int (zI rv))) (zR rv) dz) {r11 : Int → Int → Int → zD → Option (Int × zD)} (hr11 : ∀ {x1 x2 x3 : Int} {d : zD}, zR x1 → zR x2 → zR x3 → r11 x1 x2 x3 d = some (rv, dz) → zP V X 4 0 0 11 [some (.ref (zad V 400)), some (.int (zI x1)), some (.int (zI x2)), some (.int (zI x3))] [] d) {x1 x2 x3 : Int} (hx1 : zR x1) (hx2 : zR x2) (hx3 : zR x3) {d : zD} (h : l_X12_worst_11F  r11 x1 x2 x3 d = some (rv, dz)) : zP V X 4 0 0 11 [some (.ref (zad V 400)), some (.int (zI x1)), some (.int (zI x2)), some (.int (zI x3))] [] d := by
  refine zP_iload_n (pc := 11) C (x := zI x3) dX12_worst_11 rfl rfl ?_
  refine zP_aload_n (pc := 12) C (x := zad V 400) dX12_worst_12 rfl rfl ?_
  obtain ⟨v13, d1, hc, h⟩ := zc_h h
  refine zP_callV (pc := 13) (As := []) (st := [.int (zI x3)]) C m12_49 dX12_worst_13 (s_X12 hT) rfl (t_X12_many hT  hc) ⟨Nat.le_of_ble_eq_true rfl, Nat.le_of_ble_eq_true rfl⟩ rfl (Nat.le_of_ble_eq_true rfl) ⟨Nat.zero_le _, Nat.zero_le _⟩ fun hw => ?_
  have hv13 := hw
  clear hc hw
  show zP V X 4 0 0 16 _ [.int (zI v13), .int (zI x3)] d1
  revert h
  generalize d1 = d
  intro h
  refine zP_icmp_ge (pc := 16) (tgt := 49) C dX12_worst_16 rfl hx3 hv13 h (fun _ h => ?_) (fun _ h => ?_)
  · refine zP_iload_n (pc := 49) C (x := zI x1) dX12_worst_49 rfl rfl ?_
    exact zP_iret (pc := 50) C E dX12_worst_50 hx1 h
  · refine zP_aload_n (pc := 19) C (x := zad V 400) dX12_worst_19 rfl rfl ?_
    refine zP_iload_n (pc := 20) C (x := zI x3) dX12_worst_20 rfl rfl ?_
    refine zP_bipush (pc := 21) C dX12_worst_21 rfl ?_
    obtain ⟨v23, d1, hc, h⟩ := zc_h h
    refine zP_callV (pc := 23) (As := [.int (zI x3), .int (zI 14)]) (st := []) C m12_57 dX12_worst_23 (s_X12 hT) rfl (t_X12_of hT hx3 (zRk rfl) hc) ⟨Nat.le_of_ble_eq_true rfl, Nat.le_of_ble_eq_true rfl⟩ rfl (Nat.le_of_ble_eq_true rfl) ⟨Nat.zero_le _, Nat.zero_le _⟩ fun hw => ?_
    have hv23 := hw
    clear hc hw
    show zP V X 4 0 0 26 _ [.int (zI v23)] d1
    revert h
    generalize d1 = d
    intro h
    refine zP_iload_n (pc := 26) C (x := zI x2) dX12_worst_26 rfl rfl ?_
    refine zP_icmp_gt (pc := 27) (tgt := 33) C dX12_worst_27 rfl hv23 hx2 h (fun _ h => ?_) (fun _ h => ?_)
    · refine zP_iload_n (pc := 33) C (x := zI x3) dX12_worst_33 rfl rfl ?_
      refine zP_istore_n (pc := 34) C (L' := [some (.ref (zad V 400)), some (.int (zI x3)), some (.int (zI x2)), some (.int (zI x3))]) dX12_worst_34 rfl (Nat.le_of_ble_eq_true rfl) rfl rfl ?_
      refine zP_aload_n (pc := 35) C (x := zad V 400) dX12_worst_35 rfl rfl ?_
      refine zP_iload_n (pc := 36) C (x := zI x3) dX12_worst_36 rfl rfl ?_
      refine zP_bipush (pc := 37) C dX12_worst_37 rfl ?_
      obtain ⟨v39, d1, hc, h⟩ := zc_h h
      refine zP_callV (pc := 39) (As := [.int (zI x3), .int (zI 14)]) (st := []) C m12_57 dX12_worst_39 (s_X12 hT) rfl (t_X12_of hT hx3 (zRk rfl) hc) ⟨Nat.le_of_ble_eq_true rfl, Nat.le_of_ble_eq_true rfl⟩ rfl (Nat.le_of_ble_eq_true rfl) ⟨Nat.zero_le _, Nat.zero_le _⟩ fun hw => ?_
      have hv39 := hw
      clear hc hw
      show zP V X 4 0 0 42 _ [.int (zI v39)] d1
      revert h
      generalize d1 = d
      intro h
      refine zP_istore_n (pc := 42) C (L' := [some (.ref (zad V 400)), some (.int (zI x3)), some (.int (zI v39)), some (.int (zI x3))]) dX12_worst_42 rfl (Nat.le_of_ble_eq_true rfl) rfl rfl ?_
      refine zP_iinc (pc := 43) C (x := x3) dX12_worst_43 rfl (Nat.le_of_ble_eq_true rfl) rfl h fun v43 hv43 h => ?_
      show zP V X 4 0 0 46 [some (.ref (zad V 400)), some (.int (zI x3)), some (.int (zI v39)), some (.int (zI v43))] _ _
      refine zP_goto (pc := 46) (tgt := 11) C dX12_worst_46 rfl ?_
      exact zP_mask [true, true, true, true] (hr11 hx3 hv39 hv43 h)
    · refine zP_goto (pc := 30) (tgt := 43) C dX12_worst_30 rfl ?_
      refine zP_iinc (pc := 43) C (x := x3) dX12_worst_43 rfl (Nat.le_of_ble_eq_true rfl) rfl h fun v43 hv43 h => ?_
      show zP V X 4 0 0 46 [some (.ref (zad V 400)), some (.int (zI x1)), some (.int (zI x2)), some (.int (zI v43))] _ _
      refine zP_goto (pc := 46) (tgt := 11) C dX12_worst_46 rfl ?_
      exact zP_mask [true, true, true, true] (hr11 hx1 hx2 hv43 h)
def l_X12_worst_11   : Nat → Int → Int → Int → zD → Option (Int × zD)
  | 0, _, _, _, _ => none
  | q + 1, x1, x2, x3, d => l_X12_worst_11F   (l_X12_worst_11   q) x1 x2 x3 d
theorem wl_X12_worst_11 {V : zW} {X : zX}  (hT : zo12 V) (C : zOk V X cX12_worst RX12 4 (zrm 1) (some .int)) {rv : Int} {dz : zD} (E : zEnd V X (some (.int (zI rv))) (zR rv) dz)  : ∀ (q : Nat) {x1 x2 x3 : Int} (hx1 : zR x1) (hx2 : zR x2) (hx3 : zR x3) {d : zD} (h : l_X12_worst_11   q x1 x2 x3 d = some (rv, dz)), zP V X 4 0 0 11 [some (.ref (zad V 400)), some (.int (zI x1)), some (.int (zI x2)), some (.int (zI x3))] [] d := by
  intro q
  induction q with
  | zero => intro x1 x2 x3 hx1 hx2 hx3 d h; cases (show (none : Option (Int × zD)) = some (rv, dz) from h)
  | succ q ih =>
    intro x1 x2 x3 hx1 hx2 hx3 d h
    exact wl_X12_worst_11F hT C E  (fun  hx1 hx2 hx3 h => ih hx1 hx2 hx3 h) hx1 hx2 hx3 h
def f_X12_worst  (d : zD) : Option (Int × zD) :=
  zl (zu d 400 0 0) fun d =>
  l_X12_worst_11   zF (-1) 0 0 d
theorem t_X12_worst {V : zW}  (hT : zo12 V)   {d dz : zD} {rv : Int} (h : f_X12_worst   d = some (rv, dz)) : zMet V 1 yX12_worst cX12_worst 4 (some .int) [.ref (zad V 400)] d (some (.int (zI rv))) (zR rv) dz := by
  refine zMet_by RX12 pn12 rfl (Nat.le_of_ble_eq_true rfl) [some (.ref (zad V 400)), none, none, none] rfl fun X C E => ?_
  refine zP_aload_n (pc := 0) C (x := zad V 400) dX12_worst_0 rfl rfl ?_
  refine zP_iconst (pc := 1) C dX12_worst_1 ?_
  refine zP_putI (pc := 2) (a := 400) C p12_1 dX12_worst_2 (s_X12 hT) rfl (zRk rfl) h fun d h => ?_
  refine zP_iconst (pc := 5) C dX12_worst_5 ?_
  refine zP_istore_n (pc := 6) C (L' := [some (.ref (zad V 400)), some (.int (zI (-1))), none, none]) dX12_worst_6 rfl (Nat.le_of_ble_eq_true rfl) rfl rfl ?_
  refine zP_iconst (pc := 7) C dX12_worst_7 ?_
  refine zP_istore_n (pc := 8) C (L' := [some (.ref (zad V 400)), some (.int (zI (-1))), some (.int (zI 0)), none]) dX12_worst_8 rfl (Nat.le_of_ble_eq_true rfl) rfl rfl ?_
  refine zP_iconst (pc := 9) C dX12_worst_9 ?_
  refine zP_istore_n (pc := 10) C (L' := [some (.ref (zad V 400)), some (.int (zI (-1))), some (.int (zI 0)), some (.int (zI 0))]) dX12_worst_10 rfl (Nat.le_of_ble_eq_true rfl) rfl rfl ?_
  exact zP_mask [true, true, true, true] (wl_X12_worst_11 hT C E  zF (zRk rfl) (zRk rfl) (zRk rfl) h)
def f_X12_often  (x1 x2 : Int) (d : zD) : Option (Int × zD) :=
  zc (f_X12_isTerminal  x1 d) fun v3 d =>
  zc (f_X12_isIn  x2 0 3 d) fun v9 d =>
  zc (f_X12_may  v3 v9 d) fun v12 d =>
  if (v12 : Int) = 0 then (
    some (0, d))
  else (
    zl (zw (11 + x2)) fun v23 =>
    zc (f_X12_of  x1 v23 d) fun v24 d =>
    some (v24, d))
theorem t_X12_often {V : zW}  (hT : zo12 V) {x1 x2 : Int} (hx1 : zR x1) (hx2 : zR x2) {d dz : zD} {rv : Int} (h : f_X12_often  x1 x2 d = some (rv, dz)) : zMet V 2 yX12_often cX12_often 3 (some .int) [.ref (zad V 400), .int (zI x1), .int (zI x2)] d (some (.int (zI rv))) (zR rv) dz := by
  refine zMet_by RX12 pn12 rfl (Nat.le_of_ble_eq_true rfl) [some (.ref (zad V 400)), some (.int (zI x1)), some (.int (zI x2))] rfl fun X C E => ?_
  refine zP_aload_n (pc := 0) C (x := zad V 400) dX12_often_0 rfl rfl ?_
  refine zP_aload_n (pc := 1) C (x := zad V 400) dX12_often_1 rfl rfl ?_
  refine zP_iload_n (pc := 2) C (x := zI x1) dX12_often_2 rfl rfl ?_
  obtain ⟨v3, d1, hc, h⟩ := zc_h h
  refine zP_callV (pc := 3) (As := [.int (zI x1)]) (st := [.ref (zad V 400)]) C m12_360 dX12_often_3 (s_X12 hT) rfl (t_X12_isTerminal hT hx1 hc) ⟨Nat.le_of_ble_eq_true rfl, Nat.le_of_ble_eq_true rfl⟩ rfl (Nat.le_of_ble_eq_true rfl) ⟨Nat.zero_le _, Nat.zero_le _⟩ fun hw => ?_
  have hbv3 := hw
  have hv3 := z01 hw
  clear hc hw
  show zP V X 3 0 0 6 _ [.int (zI v3), .ref (zad V 400)] d1
  revert h
  generalize d1 = d
  intro h
  refine zP_iload_n (pc := 6) C (x := zI x2) dX12_often_6 rfl rfl ?_
  refine zP_iconst (pc := 7) C dX12_often_7 ?_
  refine zP_iconst (pc := 8) C dX12_often_8 ?_
  obtain ⟨v9, d1, hc, h⟩ := zc_h h
  refine zP_callS (pc := 9) (As := [.int (zI x2), .int (zI 0), .int (zI 3)]) (st := [.int (zI v3), .ref (zad V 400)]) C m12_53 dX12_often_9 (t_X12_isIn  hx2 (zRk rfl) (zRk rfl) hc) ⟨Nat.le_of_ble_eq_true rfl, Nat.le_of_ble_eq_true rfl⟩ rfl (Nat.le_of_ble_eq_true rfl) ⟨Nat.zero_le _, Nat.zero_le _⟩ fun hw => ?_
  have hbv9 := hw
  have hv9 := z01 hw
  clear hc hw
  show zP V X 3 0 0 12 _ [.int (zI v9), .int (zI v3), .ref (zad V 400)] d1
  revert h
  generalize d1 = d
  intro h
  obtain ⟨v12, d1, hc, h⟩ := zc_h h
  refine zP_callV (pc := 12) (As := [.int (zI v3), .int (zI v9)]) (st := []) C m12_363 dX12_often_12 (s_X12 hT) rfl (t_X12_may hT hv3 hv9 hc) ⟨Nat.le_of_ble_eq_true rfl, Nat.le_of_ble_eq_true rfl⟩ rfl (Nat.le_of_ble_eq_true rfl) ⟨Nat.zero_le _, Nat.zero_le _⟩ fun hw => ?_
  have hbv12 := hw
  have hv12 := z01 hw
  clear hc hw
  show zP V X 3 0 0 15 _ [.int (zI v12)] d1
  revert h
  generalize d1 = d
  intro h
  refine zP_if_eq (pc := 15) (tgt := 30) C dX12_often_15 rfl hv12 h (fun _ h => ?_) (fun _ h => ?_)
  · refine zP_iconst (pc := 30) C dX12_often_30 ?_
    exact zP_iret (pc := 31) C E dX12_often_31 (zRk rfl) h
  · refine zP_aload_n (pc := 18) C (x := zad V 400) dX12_often_18 rfl rfl ?_
    refine zP_iload_n (pc := 19) C (x := zI x1) dX12_often_19 rfl rfl ?_
    refine zP_bipush (pc := 20) C dX12_often_20 rfl ?_
    refine zP_iload_n (pc := 22) C (x := zI x2) dX12_often_22 rfl rfl ?_
    refine zP_iadd (pc := 23) C dX12_often_23 h fun v23 hv23 h => ?_
    obtain ⟨v24, d1, hc, h⟩ := zc_h h
    refine zP_callV (pc := 24) (As := [.int (zI x1), .int (zI v23)]) (st := []) C m12_57 dX12_often_24 (s_X12 hT) rfl (t_X12_of hT hx1 hv23 hc) ⟨Nat.le_of_ble_eq_true rfl, Nat.le_of_ble_eq_true rfl⟩ rfl (Nat.le_of_ble_eq_true rfl) ⟨Nat.zero_le _, Nat.zero_le _⟩ fun hw => ?_
    have hv24 := hw
    clear hc hw
    show zP V X 3 0 0 27 _ [.int (zI v24)] d1
    revert h
    generalize d1 = d
    intro h
    refine zP_goto (pc := 27) (tgt := 31) C dX12_often_27 rfl ?_
    exact zP_iret (pc := 31) C E dX12_often_31 hv24 h
def f_X12_isWho  (x1 : Int) (d : zD) : Option (Int × zD) :=
  if (x1 : Int) = (-1) then (
    some (1, d))
  else (
    zc (f_X12_isTerminal  x1 d) fun v7 d =>
    if (v7 : Int) = 0 then (
      some (0, d))
    else (
      some (1, d)))
theorem t_X12_isWho {V : zW}  (hT : zo12 V) {x1 : Int} (hx1 : zR x1) {d dz : zD} {rv : Int} (h : f_X12_isWho  x1 d = some (rv, dz)) : zMet V 2 yX12_isWho cX12_isWho 2 (some .boolean) [.ref (zad V 400), .int (zI x1)] d (some (.int (zI rv))) (rv = 0 ∨ rv = 1) dz := by
  refine zMet_by RX12 pn12 rfl (Nat.le_of_ble_eq_true rfl) [some (.ref (zad V 400)), some (.int (zI x1))] rfl fun X C E => ?_
  refine zP_iload_n (pc := 0) C (x := zI x1) dX12_isWho_0 rfl rfl ?_
  refine zP_iconst (pc := 1) C dX12_isWho_1 ?_
  refine zP_icmp_eq (pc := 2) (tgt := 13) C dX12_isWho_2 rfl hx1 (zRk rfl) h (fun _ h => ?_) (fun _ h => ?_)
  · refine zP_iconst (pc := 13) C dX12_isWho_13 ?_
    refine zP_goto (pc := 14) (tgt := 18) C dX12_isWho_14 rfl ?_
    exact zP_zret (pc := 18) C E dX12_isWho_18 (Or.inr rfl) h
  · refine zP_aload_n (pc := 5) C (x := zad V 400) dX12_isWho_5 rfl rfl ?_
    refine zP_iload_n (pc := 6) C (x := zI x1) dX12_isWho_6 rfl rfl ?_
    obtain ⟨v7, d1, hc, h⟩ := zc_h h
    refine zP_callV (pc := 7) (As := [.int (zI x1)]) (st := []) C m12_360 dX12_isWho_7 (s_X12 hT) rfl (t_X12_isTerminal hT hx1 hc) ⟨Nat.le_of_ble_eq_true rfl, Nat.le_of_ble_eq_true rfl⟩ rfl (Nat.le_of_ble_eq_true rfl) ⟨Nat.zero_le _, Nat.zero_le _⟩ fun hw => ?_
    have hbv7 := hw
    have hv7 := z01 hw
    clear hc hw
    show zP V X 2 0 0 10 _ [.int (zI v7)] d1
    revert h
    generalize d1 = d
    intro h
    refine zP_if_eq (pc := 10) (tgt := 17) C dX12_isWho_10 rfl hv7 h (fun _ h => ?_) (fun _ h => ?_)
    · refine zP_iconst (pc := 17) C dX12_isWho_17 ?_
      exact zP_zret (pc := 18) C E dX12_isWho_18 (Or.inl rfl) h
    · refine zP_iconst (pc := 13) C dX12_isWho_13 ?_
      refine zP_goto (pc := 14) (tgt := 18) C dX12_isWho_14 rfl ?_
      exact zP_zret (pc := 18) C E dX12_isWho_18 (Or.inr rfl) h
def j_X12_post_68   (x1 x2 x3 s0 : Int) (d : zD) : Option (Int × zD) :=
  zl (zu d 400 0 s0) fun d =>
  zl (d 400 0) fun v72 =>
  if (v72 : Int) = 0 then (
    zc (f_X12_keeps   d) fun _ d =>
    zc (f_X12_postsNow  x1 x2 x3 d) fun v88 d =>
    some (v88, d))
  else (
    some (0, d))
theorem wj_X12_post_68 {V : zW} {X : zX}  (hT : zo12 V) (C : zOk V X cX12_post RX12 5 (zrm 3) (some .int)) {rv : Int} {dz : zD} (E : zEnd V X (some (.int (zI rv))) (zR rv) dz)  {x1 x2 x3 s0 : Int} (hx1 : zR x1) (hx2 : zR x2) (hx3 : zR x3) (hs0 : zR s0) {d : zD} (h : j_X12_post_68   x1 x2 x3 s0 d = some (rv, dz)) : zP V X 5 0 0 68 [some (.ref (zad V 400)), some (.int (zI x1)), some (.int (zI x2)), some (.int (zI x3)), none] [.int (zI s0), .ref (zad V 400)] d := by
  refine zP_putI (pc := 68) (a := 400) C p12_1 dX12_post_68 (s_X12 hT) rfl hs0 h fun d h => ?_
  refine zP_aload_n (pc := 71) C (x := zad V 400) dX12_post_71 rfl rfl ?_
  refine zP_getI (pc := 72) (a := 400) C g12_1 dX12_post_72 (s_X12 hT) rfl h fun v72 hv72 h => ?_
  refine zP_if_eq (pc := 75) (tgt := 80) C dX12_post_75 rfl hv72 h (fun _ h => ?_) (fun _ h => ?_)
  · refine zP_aload_n (pc := 80) C (x := zad V 400) dX12_post_80 rfl rfl ?_
    obtain ⟨_, d1, hc, h⟩ := zc_h h
    refine zP_callV (pc := 81) (As := []) (st := []) C m12_351 dX12_post_81 (s_X12 hT) rfl (t_X12_keeps hT  hc) ⟨Nat.le_of_ble_eq_true rfl, Nat.le_of_ble_eq_true rfl⟩ rfl (Nat.le_of_ble_eq_true rfl) ⟨Nat.zero_le _, Nat.zero_le _⟩ fun hw => ?_
    clear hc hw
    show zP V X 5 0 0 84 _ [] d1
    revert h
    generalize d1 = d
    intro h
    refine zP_aload_n (pc := 84) C (x := zad V 400) dX12_post_84 rfl rfl ?_
    refine zP_iload_n (pc := 85) C (x := zI x1) dX12_post_85 rfl rfl ?_
    refine zP_iload_n (pc := 86) C (x := zI x2) dX12_post_86 rfl rfl ?_
    refine zP_iload_n (pc := 87) C (x := zI x3) dX12_post_87 rfl rfl ?_
    obtain ⟨v88, d1, hc, h⟩ := zc_h h
    refine zP_callV (pc := 88) (As := [.int (zI x1), .int (zI x2), .int (zI x3)]) (st := []) C m12_330 dX12_post_88 (s_X12 hT) rfl (t_X12_postsNow hT hx1 hx2 hx3 hc) ⟨Nat.le_of_ble_eq_true rfl, Nat.le_of_ble_eq_true rfl⟩ rfl (Nat.le_of_ble_eq_true rfl) ⟨Nat.zero_le _, Nat.zero_le _⟩ fun hw => ?_
    have hv88 := hw
    clear hc hw
    show zP V X 5 0 0 91 _ [.int (zI v88)] d1
    revert h
    generalize d1 = d
    intro h
    exact zP_iret (pc := 91) C E dX12_post_91 hv88 h
  · refine zP_iconst (pc := 78) C dX12_post_78 ?_
    exact zP_iret (pc := 79) C E dX12_post_79 (zRk rfl) h
def j_X12_post_21   (x1 x2 x3 s0 : Int) (d : zD) : Option (Int × zD) :=
  if (s0 : Int) = 0 then (
    j_X12_post_68   x1 x2 x3 1 d)
  else (
    if (x1 : Int) = x2 then (
      j_X12_post_68   x1 x2 x3 2 d)
    else (
      zc (f_X12_isIn  x3 1 20 d) fun v42 d =>
      if (v42 : Int) = 0 then (
        j_X12_post_68   x1 x2 x3 2 d)
      else (
        zg 800 2 <| zl (d 401 (2 : Int).toNat) fun v57 =>
        if (v57 : Int) = 40 then (
          j_X12_post_68   x1 x2 x3 3 d)
        else (
          j_X12_post_68   x1 x2 x3 0 d))))
theorem wj_X12_post_21 {V : zW} {X : zX}  (hT : zo12 V) (C : zOk V X cX12_post RX12 5 (zrm 3) (some .int)) {rv : Int} {dz : zD} (E : zEnd V X (some (.int (zI rv))) (zR rv) dz)  {x1 x2 x3 s0 : Int} (hx1 : zR x1) (hx2 : zR x2) (hx3 : zR x3) (hs0 : zR s0) {d : zD} (h : j_X12_post_21   x1 x2 x3 s0 d = some (rv, dz)) : zP V X 5 0 0 21 [some (.ref (zad V 400)), some (.int (zI x1)), some (.int (zI x2)), some (.int (zI x3)), none] [.int (zI s0)] d := by
  refine zP_istore (pc := 21) C (L' := [some (.ref (zad V 400)), some (.int (zI x1)), some (.int (zI x2)), some (.int (zI x3)), some (.int (zI s0))]) dX12_post_21 (Nat.le_of_ble_eq_true rfl) rfl rfl ?_
  refine zP_aload_n (pc := 23) C (x := zad V 400) dX12_post_23 rfl rfl ?_
  refine zP_iload (pc := 24) C (x := zI s0) dX12_post_24 rfl ?_
  refine zP_if_ne (pc := 26) (tgt := 33) C dX12_post_26 rfl hs0 h (fun _ h => ?_) (fun _ h => ?_)
  · refine zP_iload_n (pc := 33) C (x := zI x1) dX12_post_33 rfl rfl ?_
    refine zP_iload_n (pc := 34) C (x := zI x2) dX12_post_34 rfl rfl ?_
    refine zP_icmp_eq (pc := 35) (tgt := 48) C dX12_post_35 rfl hx1 hx2 h (fun _ h => ?_) (fun _ h => ?_)
    · refine zP_iconst (pc := 48) C dX12_post_48 ?_
      refine zP_goto (pc := 49) (tgt := 68) C dX12_post_49 rfl ?_
      exact zP_mask [true, true, true, true, false] (wj_X12_post_68 hT C E  hx1 hx2 hx3 (zRk rfl) h)
    · refine zP_iload_n (pc := 38) C (x := zI x3) dX12_post_38 rfl rfl ?_
      refine zP_iconst (pc := 39) C dX12_post_39 ?_
      refine zP_bipush (pc := 40) C dX12_post_40 rfl ?_
      obtain ⟨v42, d1, hc, h⟩ := zc_h h
      refine zP_callS (pc := 42) (As := [.int (zI x3), .int (zI 1), .int (zI 20)]) (st := [.ref (zad V 400)]) C m12_53 dX12_post_42 (t_X12_isIn  hx3 (zRk rfl) (zRk rfl) hc) ⟨Nat.le_of_ble_eq_true rfl, Nat.le_of_ble_eq_true rfl⟩ rfl (Nat.le_of_ble_eq_true rfl) ⟨Nat.zero_le _, Nat.zero_le _⟩ fun hw => ?_
      have hbv42 := hw
      have hv42 := z01 hw
      clear hc hw
      show zP V X 5 0 0 45 _ [.int (zI v42), .ref (zad V 400)] d1
      revert h
      generalize d1 = d
      intro h
      refine zP_if_ne (pc := 45) (tgt := 52) C dX12_post_45 rfl hv42 h (fun _ h => ?_) (fun _ h => ?_)
      · refine zP_aload_n (pc := 52) C (x := zad V 400) dX12_post_52 rfl rfl ?_
        refine zP_getR (pc := 53) (a := 400) (t := 401) C g12_13 dX12_post_53 (s_X12 hT) rfl ?_
        refine zP_iconst (pc := 56) C dX12_post_56 ?_
        refine zP_iald (pc := 57) (a := 401) C dX12_post_57 (s_X12_s hT) (zRk rfl) h fun v57 hv57 h => ?_
        refine zP_bipush (pc := 58) C dX12_post_58 rfl ?_
        refine zP_icmp_ne (pc := 60) (tgt := 67) C dX12_post_60 rfl hv57 (zRk rfl) h (fun _ h => ?_) (fun _ h => ?_)
        · refine zP_iconst (pc := 67) C dX12_post_67 ?_
          exact zP_mask [true, true, true, true, false] (wj_X12_post_68 hT C E  hx1 hx2 hx3 (zRk rfl) h)
        · refine zP_iconst (pc := 63) C dX12_post_63 ?_
          refine zP_goto (pc := 64) (tgt := 68) C dX12_post_64 rfl ?_
          exact zP_mask [true, true, true, true, false] (wj_X12_post_68 hT C E  hx1 hx2 hx3 (zRk rfl) h)
      · refine zP_iconst (pc := 48) C dX12_post_48 ?_
        refine zP_goto (pc := 49) (tgt := 68) C dX12_post_49 rfl ?_
        exact zP_mask [true, true, true, true, false] (wj_X12_post_68 hT C E  hx1 hx2 hx3 (zRk rfl) h)
  · refine zP_iconst (pc := 29) C dX12_post_29 ?_
    refine zP_goto (pc := 30) (tgt := 68) C dX12_post_30 rfl ?_
    exact zP_mask [true, true, true, true, false] (wj_X12_post_68 hT C E  hx1 hx2 hx3 (zRk rfl) h)
def j_X12_post_20   (x1 x2 x3 : Int) (d : zD) : Option (Int × zD) :=
  j_X12_post_21   x1 x2 x3 0 d
theorem wj_X12_post_20 {V : zW} {X : zX}  (hT : zo12 V) (C : zOk V X cX12_post RX12 5 (zrm 3) (some .int)) {rv : Int} {dz : zD} (E : zEnd V X (some (.int (zI rv))) (zR rv) dz)  {x1 x2 x3 : Int} (hx1 : zR x1) (hx2 : zR x2) (hx3 : zR x3) {d : zD} (h : j_X12_post_20   x1 x2 x3 d = some (rv, dz)) : zP V X 5 0 0 20 [some (.ref (zad V 400)), some (.int (zI x1)), some (.int (zI x2)), some (.int (zI x3)), none] [] d := by
  refine zP_iconst (pc := 20) C dX12_post_20 ?_
  exact zP_mask [true, true, true, true, false] (wj_X12_post_21 hT C E  hx1 hx2 hx3 (zRk rfl) h)
def f_X12_post  (x1 x2 x3 : Int) (d : zD) : Option (Int × zD) :=
  zc (f_X12_isWho  x1 d) fun v2 d =>
  if (v2 : Int) = 0 then (
    j_X12_post_20   x1 x2 x3 d)
  else (
    zc (f_X12_isWho  x2 d) fun v10 d =>
    if (v10 : Int) = 0 then (
      j_X12_post_20   x1 x2 x3 d)
    else (
      j_X12_post_21   x1 x2 x3 1 d))
theorem t_X12_post {V : zW}  (hT : zo12 V) {x1 x2 x3 : Int} (hx1 : zR x1) (hx2 : zR x2) (hx3 : zR x3) {d dz : zD} {rv : Int} (h : f_X12_post  x1 x2 x3 d = some (rv, dz)) : zMet V 3 yX12_post cX12_post 5 (some .int) [.ref (zad V 400), .int (zI x1), .int (zI x2), .int (zI x3)] d (some (.int (zI rv))) (zR rv) dz := by
  refine zMet_by RX12 pn12 rfl (Nat.le_of_ble_eq_true rfl) [some (.ref (zad V 400)), some (.int (zI x1)), some (.int (zI x2)), some (.int (zI x3)), none] rfl fun X C E => ?_
  refine zP_aload_n (pc := 0) C (x := zad V 400) dX12_post_0 rfl rfl ?_
  refine zP_iload_n (pc := 1) C (x := zI x1) dX12_post_1 rfl rfl ?_
  obtain ⟨v2, d1, hc, h⟩ := zc_h h
  refine zP_callV (pc := 2) (As := [.int (zI x1)]) (st := []) C m12_388 dX12_post_2 (s_X12 hT) rfl (t_X12_isWho hT hx1 hc) ⟨Nat.le_of_ble_eq_true rfl, Nat.le_of_ble_eq_true rfl⟩ rfl (Nat.le_of_ble_eq_true rfl) ⟨Nat.zero_le _, Nat.zero_le _⟩ fun hw => ?_
  have hbv2 := hw
  have hv2 := z01 hw
  clear hc hw
  show zP V X 5 0 0 5 _ [.int (zI v2)] d1
  revert h
  generalize d1 = d
  intro h
  refine zP_if_eq (pc := 5) (tgt := 20) C dX12_post_5 rfl hv2 h (fun _ h => ?_) (fun _ h => ?_)
  · exact zP_mask [true, true, true, true, false] (wj_X12_post_20 hT C E  hx1 hx2 hx3 h)
  · refine zP_aload_n (pc := 8) C (x := zad V 400) dX12_post_8 rfl rfl ?_
    refine zP_iload_n (pc := 9) C (x := zI x2) dX12_post_9 rfl rfl ?_
    obtain ⟨v10, d1, hc, h⟩ := zc_h h
    refine zP_callV (pc := 10) (As := [.int (zI x2)]) (st := []) C m12_388 dX12_post_10 (s_X12 hT) rfl (t_X12_isWho hT hx2 hc) ⟨Nat.le_of_ble_eq_true rfl, Nat.le_of_ble_eq_true rfl⟩ rfl (Nat.le_of_ble_eq_true rfl) ⟨Nat.zero_le _, Nat.zero_le _⟩ fun hw => ?_
    have hbv10 := hw
    have hv10 := z01 hw
    clear hc hw
    show zP V X 5 0 0 13 _ [.int (zI v10)] d1
    revert h
    generalize d1 = d
    intro h
    refine zP_if_eq (pc := 13) (tgt := 20) C dX12_post_13 rfl hv10 h (fun _ h => ?_) (fun _ h => ?_)
    · exact zP_mask [true, true, true, true, false] (wj_X12_post_20 hT C E  hx1 hx2 hx3 h)
    · refine zP_iconst (pc := 16) C dX12_post_16 ?_
      refine zP_goto (pc := 17) (tgt := 21) C dX12_post_17 rfl ?_
      exact zP_mask [true, true, true, true, false] (wj_X12_post_21 hT C E  hx1 hx2 hx3 (zRk rfl) h)
def f_X12_kill  (x1 : Int) (d : zD) : Option (Int × zD) :=
  zc (f_X12_isTerminal  x1 d) fun v3 d =>
  zc (f_X12_may  v3 1 d) fun v7 d =>
  if (v7 : Int) = 0 then (
    some (0, d))
  else (
    zc (f_X12_keeps   d) fun _ d =>
    zc (f_X12_setsAlive  x1 0 d) fun v22 d =>
    some (v22, d))
theorem t_X12_kill {V : zW}  (hT : zo12 V) {x1 : Int} (hx1 : zR x1) {d dz : zD} {rv : Int} (h : f_X12_kill  x1 d = some (rv, dz)) : zMet V 2 yX12_kill cX12_kill 2 (some .int) [.ref (zad V 400), .int (zI x1)] d (some (.int (zI rv))) (zR rv) dz := by
  refine zMet_by RX12 pn12 rfl (Nat.le_of_ble_eq_true rfl) [some (.ref (zad V 400)), some (.int (zI x1))] rfl fun X C E => ?_
  refine zP_aload_n (pc := 0) C (x := zad V 400) dX12_kill_0 rfl rfl ?_
  refine zP_aload_n (pc := 1) C (x := zad V 400) dX12_kill_1 rfl rfl ?_
  refine zP_iload_n (pc := 2) C (x := zI x1) dX12_kill_2 rfl rfl ?_
  obtain ⟨v3, d1, hc, h⟩ := zc_h h
  refine zP_callV (pc := 3) (As := [.int (zI x1)]) (st := [.ref (zad V 400)]) C m12_360 dX12_kill_3 (s_X12 hT) rfl (t_X12_isTerminal hT hx1 hc) ⟨Nat.le_of_ble_eq_true rfl, Nat.le_of_ble_eq_true rfl⟩ rfl (Nat.le_of_ble_eq_true rfl) ⟨Nat.zero_le _, Nat.zero_le _⟩ fun hw => ?_
  have hbv3 := hw
  have hv3 := z01 hw
  clear hc hw
  show zP V X 2 0 0 6 _ [.int (zI v3), .ref (zad V 400)] d1
  revert h
  generalize d1 = d
  intro h
  refine zP_iconst (pc := 6) C dX12_kill_6 ?_
  obtain ⟨v7, d1, hc, h⟩ := zc_h h
  refine zP_callV (pc := 7) (As := [.int (zI v3), .int (zI 1)]) (st := []) C m12_363 dX12_kill_7 (s_X12 hT) rfl (t_X12_may hT hv3 (zRk rfl) hc) ⟨Nat.le_of_ble_eq_true rfl, Nat.le_of_ble_eq_true rfl⟩ rfl (Nat.le_of_ble_eq_true rfl) ⟨Nat.zero_le _, Nat.zero_le _⟩ fun hw => ?_
  have hbv7 := hw
  have hv7 := z01 hw
  clear hc hw
  show zP V X 2 0 0 10 _ [.int (zI v7)] d1
  revert h
  generalize d1 = d
  intro h
  refine zP_if_ne (pc := 10) (tgt := 15) C dX12_kill_10 rfl hv7 h (fun _ h => ?_) (fun _ h => ?_)
  · refine zP_aload_n (pc := 15) C (x := zad V 400) dX12_kill_15 rfl rfl ?_
    obtain ⟨_, d1, hc, h⟩ := zc_h h
    refine zP_callV (pc := 16) (As := []) (st := []) C m12_351 dX12_kill_16 (s_X12 hT) rfl (t_X12_keeps hT  hc) ⟨Nat.le_of_ble_eq_true rfl, Nat.le_of_ble_eq_true rfl⟩ rfl (Nat.le_of_ble_eq_true rfl) ⟨Nat.zero_le _, Nat.zero_le _⟩ fun hw => ?_
    clear hc hw
    show zP V X 2 0 0 19 _ [] d1
    revert h
    generalize d1 = d
    intro h
    refine zP_aload_n (pc := 19) C (x := zad V 400) dX12_kill_19 rfl rfl ?_
    refine zP_iload_n (pc := 20) C (x := zI x1) dX12_kill_20 rfl rfl ?_
    refine zP_iconst (pc := 21) C dX12_kill_21 ?_
    obtain ⟨v22, d1, hc, h⟩ := zc_h h
    refine zP_callV (pc := 22) (As := [.int (zI x1), .int (zI 0)]) (st := []) C m12_345 dX12_kill_22 (s_X12 hT) rfl (t_X12_setsAlive hT hx1 (zRk rfl) hc) ⟨Nat.le_of_ble_eq_true rfl, Nat.le_of_ble_eq_true rfl⟩ rfl (Nat.le_of_ble_eq_true rfl) ⟨Nat.zero_le _, Nat.zero_le _⟩ fun hw => ?_
    have hv22 := hw
    clear hc hw
    show zP V X 2 0 0 25 _ [.int (zI v22)] d1
    revert h
    generalize d1 = d
    intro h
    exact zP_iret (pc := 25) C E dX12_kill_25 hv22 h
  · refine zP_iconst (pc := 13) C dX12_kill_13 ?_
    exact zP_iret (pc := 14) C E dX12_kill_14 (zRk rfl) h
def f_X12_wake  (x1 : Int) (d : zD) : Option (Int × zD) :=
  zc (f_X12_isTerminal  x1 d) fun v3 d =>
  zc (f_X12_may  v3 1 d) fun v7 d =>
  if (v7 : Int) = 0 then (
    some (0, d))
  else (
    zc (f_X12_keeps   d) fun _ d =>
    zc (f_X12_setsAlive  x1 1 d) fun v22 d =>
    some (v22, d))
theorem t_X12_wake {V : zW}  (hT : zo12 V) {x1 : Int} (hx1 : zR x1) {d dz : zD} {rv : Int} (h : f_X12_wake  x1 d = some (rv, dz)) : zMet V 2 yX12_wake cX12_wake 2 (some .int) [.ref (zad V 400), .int (zI x1)] d (some (.int (zI rv))) (zR rv) dz := by
  refine zMet_by RX12 pn12 rfl (Nat.le_of_ble_eq_true rfl) [some (.ref (zad V 400)), some (.int (zI x1))] rfl fun X C E => ?_
  refine zP_aload_n (pc := 0) C (x := zad V 400) dX12_wake_0 rfl rfl ?_
  refine zP_aload_n (pc := 1) C (x := zad V 400) dX12_wake_1 rfl rfl ?_
  refine zP_iload_n (pc := 2) C (x := zI x1) dX12_wake_2 rfl rfl ?_
  obtain ⟨v3, d1, hc, h⟩ := zc_h h
  refine zP_callV (pc := 3) (As := [.int (zI x1)]) (st := [.ref (zad V 400)]) C m12_360 dX12_wake_3 (s_X12 hT) rfl (t_X12_isTerminal hT hx1 hc) ⟨Nat.le_of_ble_eq_true rfl, Nat.le_of_ble_eq_true rfl⟩ rfl (Nat.le_of_ble_eq_true rfl) ⟨Nat.zero_le _, Nat.zero_le _⟩ fun hw => ?_
  have hbv3 := hw
  have hv3 := z01 hw
  clear hc hw
  show zP V X 2 0 0 6 _ [.int (zI v3), .ref (zad V 400)] d1
  revert h
  generalize d1 = d
  intro h
  refine zP_iconst (pc := 6) C dX12_wake_6 ?_
  obtain ⟨v7, d1, hc, h⟩ := zc_h h
  refine zP_callV (pc := 7) (As := [.int (zI v3), .int (zI 1)]) (st := []) C m12_363 dX12_wake_7 (s_X12 hT) rfl (t_X12_may hT hv3 (zRk rfl) hc) ⟨Nat.le_of_ble_eq_true rfl, Nat.le_of_ble_eq_true rfl⟩ rfl (Nat.le_of_ble_eq_true rfl) ⟨Nat.zero_le _, Nat.zero_le _⟩ fun hw => ?_
  have hbv7 := hw
  have hv7 := z01 hw
  clear hc hw
  show zP V X 2 0 0 10 _ [.int (zI v7)] d1
  revert h
  generalize d1 = d
  intro h
  refine zP_if_ne (pc := 10) (tgt := 15) C dX12_wake_10 rfl hv7 h (fun _ h => ?_) (fun _ h => ?_)
  · refine zP_aload_n (pc := 15) C (x := zad V 400) dX12_wake_15 rfl rfl ?_
    obtain ⟨_, d1, hc, h⟩ := zc_h h
    refine zP_callV (pc := 16) (As := []) (st := []) C m12_351 dX12_wake_16 (s_X12 hT) rfl (t_X12_keeps hT  hc) ⟨Nat.le_of_ble_eq_true rfl, Nat.le_of_ble_eq_true rfl⟩ rfl (Nat.le_of_ble_eq_true rfl) ⟨Nat.zero_le _, Nat.zero_le _⟩ fun hw => ?_
    clear hc hw
    show zP V X 2 0 0 19 _ [] d1
    revert h
    generalize d1 = d
    intro h
    refine zP_aload_n (pc := 19) C (x := zad V 400) dX12_wake_19 rfl rfl ?_
    refine zP_iload_n (pc := 20) C (x := zI x1) dX12_wake_20 rfl rfl ?_
    refine zP_iconst (pc := 21) C dX12_wake_21 ?_
    obtain ⟨v22, d1, hc, h⟩ := zc_h h
    refine zP_callV (pc := 22) (As := [.int (zI x1), .int (zI 1)]) (st := []) C m12_345 dX12_wake_22 (s_X12 hT) rfl (t_X12_setsAlive hT hx1 (zRk rfl) hc) ⟨Nat.le_of_ble_eq_true rfl, Nat.le_of_ble_eq_true rfl⟩ rfl (Nat.le_of_ble_eq_true rfl) ⟨Nat.zero_le _, Nat.zero_le _⟩ fun hw => ?_
    have hv22 := hw
    clear hc hw
    show zP V X 2 0 0 25 _ [.int (zI v22)] d1
    revert h
    generalize d1 = d
    intro h
    exact zP_iret (pc := 25) C E dX12_wake_25 hv22 h
  · refine zP_iconst (pc := 13) C dX12_wake_13 ?_
    exact zP_iret (pc := 14) C E dX12_wake_14 (zRk rfl) h
def j_X12_run_24   (x1 s0 : Int) (d : zD) : Option (Int × zD) :=
  zc (f_X12_may  s0 1 d) fun v25 d =>
  if (v25 : Int) = 0 then (
    some (0, d))
  else (
    zc (f_X12_keeps   d) fun _ d =>
    zc (f_X12_runsNow  x1 d) fun v39 d =>
    some (v39, d))
theorem wj_X12_run_24 {V : zW} {X : zX}  (hT : zo12 V) (C : zOk V X cX12_run RX12 2 (zrm 12) (some .int)) {rv : Int} {dz : zD} (E : zEnd V X (some (.int (zI rv))) (zR rv) dz)  {x1 s0 : Int} (hx1 : zR x1) (hs0 : zR s0) {d : zD} (h : j_X12_run_24   x1 s0 d = some (rv, dz)) : zP V X 2 0 0 24 [some (.ref (zad V 400)), some (.int (zI x1))] [.int (zI s0), .ref (zad V 400)] d := by
  refine zP_iconst (pc := 24) C dX12_run_24 ?_
  obtain ⟨v25, d1, hc, h⟩ := zc_h h
  refine zP_callV (pc := 25) (As := [.int (zI s0), .int (zI 1)]) (st := []) C m12_363 dX12_run_25 (s_X12 hT) rfl (t_X12_may hT hs0 (zRk rfl) hc) ⟨Nat.le_of_ble_eq_true rfl, Nat.le_of_ble_eq_true rfl⟩ rfl (Nat.le_of_ble_eq_true rfl) ⟨Nat.zero_le _, Nat.zero_le _⟩ fun hw => ?_
  have hbv25 := hw
  have hv25 := z01 hw
  clear hc hw
  show zP V X 2 0 0 28 _ [.int (zI v25)] d1
  revert h
  generalize d1 = d
  intro h
  refine zP_if_ne (pc := 28) (tgt := 33) C dX12_run_28 rfl hv25 h (fun _ h => ?_) (fun _ h => ?_)
  · refine zP_aload_n (pc := 33) C (x := zad V 400) dX12_run_33 rfl rfl ?_
    obtain ⟨_, d1, hc, h⟩ := zc_h h
    refine zP_callV (pc := 34) (As := []) (st := []) C m12_351 dX12_run_34 (s_X12 hT) rfl (t_X12_keeps hT  hc) ⟨Nat.le_of_ble_eq_true rfl, Nat.le_of_ble_eq_true rfl⟩ rfl (Nat.le_of_ble_eq_true rfl) ⟨Nat.zero_le _, Nat.zero_le _⟩ fun hw => ?_
    clear hc hw
    show zP V X 2 0 0 37 _ [] d1
    revert h
    generalize d1 = d
    intro h
    refine zP_aload_n (pc := 37) C (x := zad V 400) dX12_run_37 rfl rfl ?_
    refine zP_iload_n (pc := 38) C (x := zI x1) dX12_run_38 rfl rfl ?_
    obtain ⟨v39, d1, hc, h⟩ := zc_h h
    refine zP_callV (pc := 39) (As := [.int (zI x1)]) (st := []) C m12_336 dX12_run_39 (s_X12 hT) rfl (t_X12_runsNow hT hx1 hc) ⟨Nat.le_of_ble_eq_true rfl, Nat.le_of_ble_eq_true rfl⟩ rfl (Nat.le_of_ble_eq_true rfl) ⟨Nat.zero_le _, Nat.zero_le _⟩ fun hw => ?_
    have hv39 := hw
    clear hc hw
    show zP V X 2 0 0 42 _ [.int (zI v39)] d1
    revert h
    generalize d1 = d
    intro h
    exact zP_iret (pc := 42) C E dX12_run_42 hv39 h
  · refine zP_iconst (pc := 31) C dX12_run_31 ?_
    exact zP_iret (pc := 32) C E dX12_run_32 (zRk rfl) h
def j_X12_run_23   (x1 : Int) (d : zD) : Option (Int × zD) :=
  j_X12_run_24   x1 0 d
theorem wj_X12_run_23 {V : zW} {X : zX}  (hT : zo12 V) (C : zOk V X cX12_run RX12 2 (zrm 12) (some .int)) {rv : Int} {dz : zD} (E : zEnd V X (some (.int (zI rv))) (zR rv) dz)  {x1 : Int} (hx1 : zR x1) {d : zD} (h : j_X12_run_23   x1 d = some (rv, dz)) : zP V X 2 0 0 23 [some (.ref (zad V 400)), some (.int (zI x1))] [.ref (zad V 400)] d := by
  refine zP_iconst (pc := 23) C dX12_run_23 ?_
  exact zP_mask [true, true] (wj_X12_run_24 hT C E  hx1 (zRk rfl) h)
def f_X12_run  (x1 : Int) (d : zD) : Option (Int × zD) :=
  zc (f_X12_isIn  x1 1 100 d) fun v5 d =>
  if (v5 : Int) = 0 then (
    j_X12_run_23   x1 d)
  else (
    zc (f_X12_canRun  x1 d) fun v13 d =>
    if (v13 : Int) = 0 then (
      j_X12_run_23   x1 d)
    else (
      j_X12_run_24   x1 1 d))
theorem t_X12_run {V : zW}  (hT : zo12 V) {x1 : Int} (hx1 : zR x1) {d dz : zD} {rv : Int} (h : f_X12_run  x1 d = some (rv, dz)) : zMet V 12 yX12_run cX12_run 2 (some .int) [.ref (zad V 400), .int (zI x1)] d (some (.int (zI rv))) (zR rv) dz := by
  refine zMet_by RX12 pn12 rfl (Nat.le_of_ble_eq_true rfl) [some (.ref (zad V 400)), some (.int (zI x1))] rfl fun X C E => ?_
  refine zP_aload_n (pc := 0) C (x := zad V 400) dX12_run_0 rfl rfl ?_
  refine zP_iload_n (pc := 1) C (x := zI x1) dX12_run_1 rfl rfl ?_
  refine zP_iconst (pc := 2) C dX12_run_2 ?_
  refine zP_bipush (pc := 3) C dX12_run_3 rfl ?_
  obtain ⟨v5, d1, hc, h⟩ := zc_h h
  refine zP_callS (pc := 5) (As := [.int (zI x1), .int (zI 1), .int (zI 100)]) (st := [.ref (zad V 400)]) C m12_53 dX12_run_5 (t_X12_isIn  hx1 (zRk rfl) (zRk rfl) hc) ⟨Nat.le_of_ble_eq_true rfl, Nat.le_of_ble_eq_true rfl⟩ rfl (Nat.le_of_ble_eq_true rfl) ⟨Nat.zero_le _, Nat.zero_le _⟩ fun hw => ?_
  have hbv5 := hw
  have hv5 := z01 hw
  clear hc hw
  show zP V X 2 0 0 8 _ [.int (zI v5), .ref (zad V 400)] d1
  revert h
  generalize d1 = d
  intro h
  refine zP_if_eq (pc := 8) (tgt := 23) C dX12_run_8 rfl hv5 h (fun _ h => ?_) (fun _ h => ?_)
  · exact zP_mask [true, true] (wj_X12_run_23 hT C E  hx1 h)
  · refine zP_aload_n (pc := 11) C (x := zad V 400) dX12_run_11 rfl rfl ?_
    refine zP_iload_n (pc := 12) C (x := zI x1) dX12_run_12 rfl rfl ?_
    obtain ⟨v13, d1, hc, h⟩ := zc_h h
    refine zP_callV (pc := 13) (As := [.int (zI x1)]) (st := [.ref (zad V 400)]) C m12_333 dX12_run_13 (s_X12 hT) rfl (t_X12_canRun hT hx1 hc) ⟨Nat.le_of_ble_eq_true rfl, Nat.le_of_ble_eq_true rfl⟩ rfl (Nat.le_of_ble_eq_true rfl) ⟨Nat.zero_le _, Nat.zero_le _⟩ fun hw => ?_
    have hbv13 := hw
    have hv13 := z01 hw
    clear hc hw
    show zP V X 2 0 0 16 _ [.int (zI v13), .ref (zad V 400)] d1
    revert h
    generalize d1 = d
    intro h
    refine zP_if_eq (pc := 16) (tgt := 23) C dX12_run_16 rfl hv13 h (fun _ h => ?_) (fun _ h => ?_)
    · exact zP_mask [true, true] (wj_X12_run_23 hT C E  hx1 h)
    · refine zP_iconst (pc := 19) C dX12_run_19 ?_
      refine zP_goto (pc := 20) (tgt := 24) C dX12_run_20 rfl ?_
      exact zP_mask [true, true] (wj_X12_run_24 hT C E  hx1 (zRk rfl) h)
def j_X12_addPlace_22   (x1 s0 s1 : Int) (d : zD) : Option (Int × zD) :=
  zc (f_X12_may  s1 s0 d) fun v22 d =>
  if (v22 : Int) = 0 then (
    some (0, d))
  else (
    zc (f_X12_keeps   d) fun _ d =>
    zc (f_X12_addsPlace  x1 d) fun v36 d =>
    some (v36, d))
theorem wj_X12_addPlace_22 {V : zW} {X : zX}  (hT : zo12 V) (C : zOk V X cX12_addPlace RX12 2 (zrm 2) (some .int)) {rv : Int} {dz : zD} (E : zEnd V X (some (.int (zI rv))) (zR rv) dz)  {x1 s0 s1 : Int} (hx1 : zR x1) (hs0 : zR s0) (hs1 : zR s1) {d : zD} (h : j_X12_addPlace_22   x1 s0 s1 d = some (rv, dz)) : zP V X 2 0 0 22 [some (.ref (zad V 400)), some (.int (zI x1))] [.int (zI s0), .int (zI s1), .ref (zad V 400)] d := by
  obtain ⟨v22, d1, hc, h⟩ := zc_h h
  refine zP_callV (pc := 22) (As := [.int (zI s1), .int (zI s0)]) (st := []) C m12_363 dX12_addPlace_22 (s_X12 hT) rfl (t_X12_may hT hs1 hs0 hc) ⟨Nat.le_of_ble_eq_true rfl, Nat.le_of_ble_eq_true rfl⟩ rfl (Nat.le_of_ble_eq_true rfl) ⟨Nat.zero_le _, Nat.zero_le _⟩ fun hw => ?_
  have hbv22 := hw
  have hv22 := z01 hw
  clear hc hw
  show zP V X 2 0 0 25 _ [.int (zI v22)] d1
  revert h
  generalize d1 = d
  intro h
  refine zP_if_ne (pc := 25) (tgt := 30) C dX12_addPlace_25 rfl hv22 h (fun _ h => ?_) (fun _ h => ?_)
  · refine zP_aload_n (pc := 30) C (x := zad V 400) dX12_addPlace_30 rfl rfl ?_
    obtain ⟨_, d1, hc, h⟩ := zc_h h
    refine zP_callV (pc := 31) (As := []) (st := []) C m12_351 dX12_addPlace_31 (s_X12 hT) rfl (t_X12_keeps hT  hc) ⟨Nat.le_of_ble_eq_true rfl, Nat.le_of_ble_eq_true rfl⟩ rfl (Nat.le_of_ble_eq_true rfl) ⟨Nat.zero_le _, Nat.zero_le _⟩ fun hw => ?_
    clear hc hw
    show zP V X 2 0 0 34 _ [] d1
    revert h
    generalize d1 = d
    intro h
    refine zP_aload_n (pc := 34) C (x := zad V 400) dX12_addPlace_34 rfl rfl ?_
    refine zP_iload_n (pc := 35) C (x := zI x1) dX12_addPlace_35 rfl rfl ?_
    obtain ⟨v36, d1, hc, h⟩ := zc_h h
    refine zP_callV (pc := 36) (As := [.int (zI x1)]) (st := []) C m12_339 dX12_addPlace_36 (s_X12 hT) rfl (t_X12_addsPlace hT hx1 hc) ⟨Nat.le_of_ble_eq_true rfl, Nat.le_of_ble_eq_true rfl⟩ rfl (Nat.le_of_ble_eq_true rfl) ⟨Nat.zero_le _, Nat.zero_le _⟩ fun hw => ?_
    have hv36 := hw
    clear hc hw
    show zP V X 2 0 0 39 _ [.int (zI v36)] d1
    revert h
    generalize d1 = d
    intro h
    exact zP_iret (pc := 39) C E dX12_addPlace_39 hv36 h
  · refine zP_iconst (pc := 28) C dX12_addPlace_28 ?_
    exact zP_iret (pc := 29) C E dX12_addPlace_29 (zRk rfl) h
def f_X12_addPlace  (x1 : Int) (d : zD) : Option (Int × zD) :=
  zc (f_X12_isTerminal  x1 d) fun v3 d =>
  zg 800 1 <| zl (d 401 (1 : Int).toNat) fun v11 =>
  if (16 : Int) ≤ v11 then (
    j_X12_addPlace_22   x1 0 v3 d)
  else (
    j_X12_addPlace_22   x1 1 v3 d)
theorem t_X12_addPlace {V : zW}  (hT : zo12 V) {x1 : Int} (hx1 : zR x1) {d dz : zD} {rv : Int} (h : f_X12_addPlace  x1 d = some (rv, dz)) : zMet V 2 yX12_addPlace cX12_addPlace 2 (some .int) [.ref (zad V 400), .int (zI x1)] d (some (.int (zI rv))) (zR rv) dz := by
  refine zMet_by RX12 pn12 rfl (Nat.le_of_ble_eq_true rfl) [some (.ref (zad V 400)), some (.int (zI x1))] rfl fun X C E => ?_
  refine zP_aload_n (pc := 0) C (x := zad V 400) dX12_addPlace_0 rfl rfl ?_
  refine zP_aload_n (pc := 1) C (x := zad V 400) dX12_addPlace_1 rfl rfl ?_
  refine zP_iload_n (pc := 2) C (x := zI x1) dX12_addPlace_2 rfl rfl ?_
  obtain ⟨v3, d1, hc, h⟩ := zc_h h
  refine zP_callV (pc := 3) (As := [.int (zI x1)]) (st := [.ref (zad V 400)]) C m12_360 dX12_addPlace_3 (s_X12 hT) rfl (t_X12_isTerminal hT hx1 hc) ⟨Nat.le_of_ble_eq_true rfl, Nat.le_of_ble_eq_true rfl⟩ rfl (Nat.le_of_ble_eq_true rfl) ⟨Nat.zero_le _, Nat.zero_le _⟩ fun hw => ?_
  have hbv3 := hw
  have hv3 := z01 hw
  clear hc hw
  show zP V X 2 0 0 6 _ [.int (zI v3), .ref (zad V 400)] d1
  revert h
  generalize d1 = d
  intro h
  refine zP_aload_n (pc := 6) C (x := zad V 400) dX12_addPlace_6 rfl rfl ?_
  refine zP_getR (pc := 7) (a := 400) (t := 401) C g12_13 dX12_addPlace_7 (s_X12 hT) rfl ?_
  refine zP_iconst (pc := 10) C dX12_addPlace_10 ?_
  refine zP_iald (pc := 11) (a := 401) C dX12_addPlace_11 (s_X12_s hT) (zRk rfl) h fun v11 hv11 h => ?_
  refine zP_bipush (pc := 12) C dX12_addPlace_12 rfl ?_
  refine zP_icmp_ge (pc := 14) (tgt := 21) C dX12_addPlace_14 rfl hv11 (zRk rfl) h (fun _ h => ?_) (fun _ h => ?_)
  · refine zP_iconst (pc := 21) C dX12_addPlace_21 ?_
    exact zP_mask [true, true] (wj_X12_addPlace_22 hT C E  hx1 (zRk rfl) hv3 h)
  · refine zP_iconst (pc := 17) C dX12_addPlace_17 ?_
    refine zP_goto (pc := 18) (tgt := 22) C dX12_addPlace_18 rfl ?_
    exact zP_mask [true, true] (wj_X12_addPlace_22 hT C E  hx1 (zRk rfl) hv3 h)
def f_X12_dropPlace  (x1 : Int) (d : zD) : Option (Int × zD) :=
  zg 800 1 <| zl (d 401 (1 : Int).toNat) fun v8 =>
  zl (zw (v8 - 1)) fun v10 =>
  zc (f_X12_isIn  x1 0 v10 d) fun v11 d =>
  zc (f_X12_may  v11 1 d) fun v15 d =>
  if (v15 : Int) = 0 then (
    some (0, d))
  else (
    zc (f_X12_keeps   d) fun _ d =>
    zc (f_X12_dropsPlace  x1 d) fun v29 d =>
    some (v29, d))
theorem t_X12_dropPlace {V : zW}  (hT : zo12 V) {x1 : Int} (hx1 : zR x1) {d dz : zD} {rv : Int} (h : f_X12_dropPlace  x1 d = some (rv, dz)) : zMet V 2 yX12_dropPlace cX12_dropPlace 2 (some .int) [.ref (zad V 400), .int (zI x1)] d (some (.int (zI rv))) (zR rv) dz := by
  refine zMet_by RX12 pn12 rfl (Nat.le_of_ble_eq_true rfl) [some (.ref (zad V 400)), some (.int (zI x1))] rfl fun X C E => ?_
  refine zP_aload_n (pc := 0) C (x := zad V 400) dX12_dropPlace_0 rfl rfl ?_
  refine zP_iload_n (pc := 1) C (x := zI x1) dX12_dropPlace_1 rfl rfl ?_
  refine zP_iconst (pc := 2) C dX12_dropPlace_2 ?_
  refine zP_aload_n (pc := 3) C (x := zad V 400) dX12_dropPlace_3 rfl rfl ?_
  refine zP_getR (pc := 4) (a := 400) (t := 401) C g12_13 dX12_dropPlace_4 (s_X12 hT) rfl ?_
  refine zP_iconst (pc := 7) C dX12_dropPlace_7 ?_
  refine zP_iald (pc := 8) (a := 401) C dX12_dropPlace_8 (s_X12_s hT) (zRk rfl) h fun v8 hv8 h => ?_
  refine zP_iconst (pc := 9) C dX12_dropPlace_9 ?_
  refine zP_isub (pc := 10) C dX12_dropPlace_10 h fun v10 hv10 h => ?_
  obtain ⟨v11, d1, hc, h⟩ := zc_h h
  refine zP_callS (pc := 11) (As := [.int (zI x1), .int (zI 0), .int (zI v10)]) (st := [.ref (zad V 400)]) C m12_53 dX12_dropPlace_11 (t_X12_isIn  hx1 (zRk rfl) hv10 hc) ⟨Nat.le_of_ble_eq_true rfl, Nat.le_of_ble_eq_true rfl⟩ rfl (Nat.le_of_ble_eq_true rfl) ⟨Nat.zero_le _, Nat.zero_le _⟩ fun hw => ?_
  have hbv11 := hw
  have hv11 := z01 hw
  clear hc hw
  show zP V X 2 0 0 14 _ [.int (zI v11), .ref (zad V 400)] d1
  revert h
  generalize d1 = d
  intro h
  refine zP_iconst (pc := 14) C dX12_dropPlace_14 ?_
  obtain ⟨v15, d1, hc, h⟩ := zc_h h
  refine zP_callV (pc := 15) (As := [.int (zI v11), .int (zI 1)]) (st := []) C m12_363 dX12_dropPlace_15 (s_X12 hT) rfl (t_X12_may hT hv11 (zRk rfl) hc) ⟨Nat.le_of_ble_eq_true rfl, Nat.le_of_ble_eq_true rfl⟩ rfl (Nat.le_of_ble_eq_true rfl) ⟨Nat.zero_le _, Nat.zero_le _⟩ fun hw => ?_
  have hbv15 := hw
  have hv15 := z01 hw
  clear hc hw
  show zP V X 2 0 0 18 _ [.int (zI v15)] d1
  revert h
  generalize d1 = d
  intro h
  refine zP_if_ne (pc := 18) (tgt := 23) C dX12_dropPlace_18 rfl hv15 h (fun _ h => ?_) (fun _ h => ?_)
  · refine zP_aload_n (pc := 23) C (x := zad V 400) dX12_dropPlace_23 rfl rfl ?_
    obtain ⟨_, d1, hc, h⟩ := zc_h h
    refine zP_callV (pc := 24) (As := []) (st := []) C m12_351 dX12_dropPlace_24 (s_X12 hT) rfl (t_X12_keeps hT  hc) ⟨Nat.le_of_ble_eq_true rfl, Nat.le_of_ble_eq_true rfl⟩ rfl (Nat.le_of_ble_eq_true rfl) ⟨Nat.zero_le _, Nat.zero_le _⟩ fun hw => ?_
    clear hc hw
    show zP V X 2 0 0 27 _ [] d1
    revert h
    generalize d1 = d
    intro h
    refine zP_aload_n (pc := 27) C (x := zad V 400) dX12_dropPlace_27 rfl rfl ?_
    refine zP_iload_n (pc := 28) C (x := zI x1) dX12_dropPlace_28 rfl rfl ?_
    obtain ⟨v29, d1, hc, h⟩ := zc_h h
    refine zP_callV (pc := 29) (As := [.int (zI x1)]) (st := []) C m12_342 dX12_dropPlace_29 (s_X12 hT) rfl (t_X12_dropsPlace hT hx1 hc) ⟨Nat.le_of_ble_eq_true rfl, Nat.le_of_ble_eq_true rfl⟩ rfl (Nat.le_of_ble_eq_true rfl) ⟨Nat.zero_le _, Nat.zero_le _⟩ fun hw => ?_
    have hv29 := hw
    clear hc hw
    show zP V X 2 0 0 32 _ [.int (zI v29)] d1
    revert h
    generalize d1 = d
    intro h
    exact zP_iret (pc := 32) C E dX12_dropPlace_32 hv29 h
  · refine zP_iconst (pc := 21) C dX12_dropPlace_21 ?_
    exact zP_iret (pc := 22) C E dX12_dropPlace_22 (zRk rfl) h
def j_X12_set_29   (x1 x2 s0 : Int) (d : zD) : Option (Int × zD) :=
  zc (f_X12_may  s0 1 d) fun v33 d =>
  if (v33 : Int) = 0 then (
    some (0, d))
  else (
    zc (f_X12_keeps   d) fun _ d =>
    zl (zw (6 + x1)) fun v52 =>
    zg 800 v52 <| zl (d 401 (v52 : Int).toNat) fun v53 =>
    zl (zw (6 + x1)) fun v63 =>
    zg 800 v63 <| zl (zu d 401 (v63 : Int).toNat x2) fun d =>
    some (v53, d))
theorem wj_X12_set_29 {V : zW} {X : zX}  (hT : zo12 V) (C : zOk V X cX12_set RX12 5 (zrm 2) (some .int)) {rv : Int} {dz : zD} (E : zEnd V X (some (.int (zI rv))) (zR rv) dz)  {x1 x2 s0 : Int} (hx1 : zR x1) (hx2 : zR x2) (hs0 : zR s0) {d : zD} (h : j_X12_set_29   x1 x2 s0 d = some (rv, dz)) : zP V X 5 0 0 29 [some (.ref (zad V 400)), some (.int (zI x1)), some (.int (zI x2)), none, none] [.int (zI s0)] d := by
  refine zP_istore_n (pc := 29) C (L' := [some (.ref (zad V 400)), some (.int (zI x1)), some (.int (zI x2)), some (.int (zI s0)), none]) dX12_set_29 rfl (Nat.le_of_ble_eq_true rfl) rfl rfl ?_
  refine zP_aload_n (pc := 30) C (x := zad V 400) dX12_set_30 rfl rfl ?_
  refine zP_iload_n (pc := 31) C (x := zI s0) dX12_set_31 rfl rfl ?_
  refine zP_iconst (pc := 32) C dX12_set_32 ?_
  obtain ⟨v33, d1, hc, h⟩ := zc_h h
  refine zP_callV (pc := 33) (As := [.int (zI s0), .int (zI 1)]) (st := []) C m12_363 dX12_set_33 (s_X12 hT) rfl (t_X12_may hT hs0 (zRk rfl) hc) ⟨Nat.le_of_ble_eq_true rfl, Nat.le_of_ble_eq_true rfl⟩ rfl (Nat.le_of_ble_eq_true rfl) ⟨Nat.zero_le _, Nat.zero_le _⟩ fun hw => ?_
  have hbv33 := hw
  have hv33 := z01 hw
  clear hc hw
  show zP V X 5 0 0 36 _ [.int (zI v33)] d1
  revert h
  generalize d1 = d
  intro h
  refine zP_if_ne (pc := 36) (tgt := 41) C dX12_set_36 rfl hv33 h (fun _ h => ?_) (fun _ h => ?_)
  · refine zP_aload_n (pc := 41) C (x := zad V 400) dX12_set_41 rfl rfl ?_
    obtain ⟨_, d1, hc, h⟩ := zc_h h
    refine zP_callV (pc := 42) (As := []) (st := []) C m12_351 dX12_set_42 (s_X12 hT) rfl (t_X12_keeps hT  hc) ⟨Nat.le_of_ble_eq_true rfl, Nat.le_of_ble_eq_true rfl⟩ rfl (Nat.le_of_ble_eq_true rfl) ⟨Nat.zero_le _, Nat.zero_le _⟩ fun hw => ?_
    clear hc hw
    show zP V X 5 0 0 45 _ [] d1
    revert h
    generalize d1 = d
    intro h
    refine zP_aload_n (pc := 45) C (x := zad V 400) dX12_set_45 rfl rfl ?_
    refine zP_getR (pc := 46) (a := 400) (t := 401) C g12_13 dX12_set_46 (s_X12 hT) rfl ?_
    refine zP_bipush (pc := 49) C dX12_set_49 rfl ?_
    refine zP_iload_n (pc := 51) C (x := zI x1) dX12_set_51 rfl rfl ?_
    refine zP_iadd (pc := 52) C dX12_set_52 h fun v52 hv52 h => ?_
    refine zP_iald (pc := 53) (a := 401) C dX12_set_53 (s_X12_s hT) hv52 h fun v53 hv53 h => ?_
    refine zP_istore (pc := 54) C (L' := [some (.ref (zad V 400)), some (.int (zI x1)), some (.int (zI x2)), some (.int (zI s0)), some (.int (zI v53))]) dX12_set_54 (Nat.le_of_ble_eq_true rfl) rfl rfl ?_
    refine zP_aload_n (pc := 56) C (x := zad V 400) dX12_set_56 rfl rfl ?_
    refine zP_getR (pc := 57) (a := 400) (t := 401) C g12_13 dX12_set_57 (s_X12 hT) rfl ?_
    refine zP_bipush (pc := 60) C dX12_set_60 rfl ?_
    refine zP_iload_n (pc := 62) C (x := zI x1) dX12_set_62 rfl rfl ?_
    refine zP_iadd (pc := 63) C dX12_set_63 h fun v63 hv63 h => ?_
    refine zP_iload_n (pc := 64) C (x := zI x2) dX12_set_64 rfl rfl ?_
    refine zP_iast (pc := 65) (a := 401) C dX12_set_65 (s_X12_s hT) hv63 hx2 h fun d h => ?_
    refine zP_iload (pc := 66) C (x := zI v53) dX12_set_66 rfl ?_
    exact zP_iret (pc := 68) C E dX12_set_68 hv53 h
  · refine zP_iconst (pc := 39) C dX12_set_39 ?_
    exact zP_iret (pc := 40) C E dX12_set_40 (zRk rfl) h
def j_X12_set_28   (x1 x2 : Int) (d : zD) : Option (Int × zD) :=
  j_X12_set_29   x1 x2 0 d
theorem wj_X12_set_28 {V : zW} {X : zX}  (hT : zo12 V) (C : zOk V X cX12_set RX12 5 (zrm 2) (some .int)) {rv : Int} {dz : zD} (E : zEnd V X (some (.int (zI rv))) (zR rv) dz)  {x1 x2 : Int} (hx1 : zR x1) (hx2 : zR x2) {d : zD} (h : j_X12_set_28   x1 x2 d = some (rv, dz)) : zP V X 5 0 0 28 [some (.ref (zad V 400)), some (.int (zI x1)), some (.int (zI x2)), none, none] [] d := by
  refine zP_iconst (pc := 28) C dX12_set_28 ?_
  exact zP_mask [true, true, true, false, false] (wj_X12_set_29 hT C E  hx1 hx2 (zRk rfl) h)
def f_X12_set  (x1 x2 : Int) (d : zD) : Option (Int × zD) :=
  zc (f_X12_isIn  x1 0 5 d) fun v3 d =>
  if (v3 : Int) = 0 then (
    j_X12_set_28   x1 x2 d)
  else (
    zc (f_X12_least  x1 d) fun v11 d =>
    zc (f_X12_greatest  x1 d) fun v15 d =>
    zc (f_X12_isIn  x2 v11 v15 d) fun v18 d =>
    if (v18 : Int) = 0 then (
      j_X12_set_28   x1 x2 d)
    else (
      j_X12_set_29   x1 x2 1 d))
theorem t_X12_set {V : zW}  (hT : zo12 V) {x1 x2 : Int} (hx1 : zR x1) (hx2 : zR x2) {d dz : zD} {rv : Int} (h : f_X12_set  x1 x2 d = some (rv, dz)) : zMet V 2 yX12_set cX12_set 5 (some .int) [.ref (zad V 400), .int (zI x1), .int (zI x2)] d (some (.int (zI rv))) (zR rv) dz := by
  refine zMet_by RX12 pn12 rfl (Nat.le_of_ble_eq_true rfl) [some (.ref (zad V 400)), some (.int (zI x1)), some (.int (zI x2)), none, none] rfl fun X C E => ?_
  refine zP_iload_n (pc := 0) C (x := zI x1) dX12_set_0 rfl rfl ?_
  refine zP_iconst (pc := 1) C dX12_set_1 ?_
  refine zP_iconst (pc := 2) C dX12_set_2 ?_
  obtain ⟨v3, d1, hc, h⟩ := zc_h h
  refine zP_callS (pc := 3) (As := [.int (zI x1), .int (zI 0), .int (zI 5)]) (st := []) C m12_53 dX12_set_3 (t_X12_isIn  hx1 (zRk rfl) (zRk rfl) hc) ⟨Nat.le_of_ble_eq_true rfl, Nat.le_of_ble_eq_true rfl⟩ rfl (Nat.le_of_ble_eq_true rfl) ⟨Nat.zero_le _, Nat.zero_le _⟩ fun hw => ?_
  have hbv3 := hw
  have hv3 := z01 hw
  clear hc hw
  show zP V X 5 0 0 6 _ [.int (zI v3)] d1
  revert h
  generalize d1 = d
  intro h
  refine zP_if_eq (pc := 6) (tgt := 28) C dX12_set_6 rfl hv3 h (fun _ h => ?_) (fun _ h => ?_)
  · exact zP_mask [true, true, true, false, false] (wj_X12_set_28 hT C E  hx1 hx2 h)
  · refine zP_iload_n (pc := 9) C (x := zI x2) dX12_set_9 rfl rfl ?_
    refine zP_iload_n (pc := 10) C (x := zI x1) dX12_set_10 rfl rfl ?_
    obtain ⟨v11, d1, hc, h⟩ := zc_h h
    refine zP_callS (pc := 11) (As := [.int (zI x1)]) (st := [.int (zI x2)]) C m12_260 dX12_set_11 (t_X12_least  hx1 hc) ⟨Nat.le_of_ble_eq_true rfl, Nat.le_of_ble_eq_true rfl⟩ rfl (Nat.le_of_ble_eq_true rfl) ⟨Nat.zero_le _, Nat.zero_le _⟩ fun hw => ?_
    have hv11 := hw
    clear hc hw
    show zP V X 5 0 0 14 _ [.int (zI v11), .int (zI x2)] d1
    revert h
    generalize d1 = d
    intro h
    refine zP_iload_n (pc := 14) C (x := zI x1) dX12_set_14 rfl rfl ?_
    obtain ⟨v15, d1, hc, h⟩ := zc_h h
    refine zP_callS (pc := 15) (As := [.int (zI x1)]) (st := [.int (zI v11), .int (zI x2)]) C m12_263 dX12_set_15 (t_X12_greatest  hx1 hc) ⟨Nat.le_of_ble_eq_true rfl, Nat.le_of_ble_eq_true rfl⟩ rfl (Nat.le_of_ble_eq_true rfl) ⟨Nat.zero_le _, Nat.zero_le _⟩ fun hw => ?_
    have hv15 := hw
    clear hc hw
    show zP V X 5 0 0 18 _ [.int (zI v15), .int (zI v11), .int (zI x2)] d1
    revert h
    generalize d1 = d
    intro h
    obtain ⟨v18, d1, hc, h⟩ := zc_h h
    refine zP_callS (pc := 18) (As := [.int (zI x2), .int (zI v11), .int (zI v15)]) (st := []) C m12_53 dX12_set_18 (t_X12_isIn  hx2 hv11 hv15 hc) ⟨Nat.le_of_ble_eq_true rfl, Nat.le_of_ble_eq_true rfl⟩ rfl (Nat.le_of_ble_eq_true rfl) ⟨Nat.zero_le _, Nat.zero_le _⟩ fun hw => ?_
    have hbv18 := hw
    have hv18 := z01 hw
    clear hc hw
    show zP V X 5 0 0 21 _ [.int (zI v18)] d1
    revert h
    generalize d1 = d
    intro h
    refine zP_if_eq (pc := 21) (tgt := 28) C dX12_set_21 rfl hv18 h (fun _ h => ?_) (fun _ h => ?_)
    · exact zP_mask [true, true, true, false, false] (wj_X12_set_28 hT C E  hx1 hx2 h)
    · refine zP_iconst (pc := 24) C dX12_set_24 ?_
      refine zP_goto (pc := 25) (tgt := 29) C dX12_set_25 rfl ?_
      exact zP_mask [true, true, true, false, false] (wj_X12_set_29 hT C E  hx1 hx2 (zRk rfl) h)
def j_X12_undo_13   (s0 : Int) (d : zD) : Option (Int × zD) :=
  zc (f_X12_may  s0 1 d) fun v14 d =>
  if (v14 : Int) = 0 then (
    some (0, d))
  else (
    zl (d 400 5) fun v24 =>
    zl (zw (v24 - 1)) fun v28 =>
    zl (zu d 400 5 v28) fun d =>
    zl (d 400 5) fun v40 =>
    zl (zw (800 * v40)) fun v43 =>
    zc (f_X12_copies 404 6400 401 800 v43 0 800 d) fun _ d =>
    zl (d 400 5) fun v56 =>
    some (v56, d))
theorem wj_X12_undo_13 {V : zW} {X : zX}  (hT : zo12 V) (C : zOk V X cX12_undo RX12 1 (zrm 1) (some .int)) {rv : Int} {dz : zD} (E : zEnd V X (some (.int (zI rv))) (zR rv) dz)  {s0 : Int} (hs0 : zR s0) {d : zD} (h : j_X12_undo_13   s0 d = some (rv, dz)) : zP V X 1 0 0 13 [some (.ref (zad V 400))] [.int (zI s0), .ref (zad V 400)] d := by
  refine zP_iconst (pc := 13) C dX12_undo_13 ?_
  obtain ⟨v14, d1, hc, h⟩ := zc_h h
  refine zP_callV (pc := 14) (As := [.int (zI s0), .int (zI 1)]) (st := []) C m12_363 dX12_undo_14 (s_X12 hT) rfl (t_X12_may hT hs0 (zRk rfl) hc) ⟨Nat.le_of_ble_eq_true rfl, Nat.le_of_ble_eq_true rfl⟩ rfl (Nat.le_of_ble_eq_true rfl) ⟨Nat.zero_le _, Nat.zero_le _⟩ fun hw => ?_
  have hbv14 := hw
  have hv14 := z01 hw
  clear hc hw
  show zP V X 1 0 0 17 _ [.int (zI v14)] d1
  revert h
  generalize d1 = d
  intro h
  refine zP_if_ne (pc := 17) (tgt := 22) C dX12_undo_17 rfl hv14 h (fun _ h => ?_) (fun _ h => ?_)
  · refine zP_aload_n (pc := 22) C (x := zad V 400) dX12_undo_22 rfl rfl ?_
    refine zP_aload_n (pc := 23) C (x := zad V 400) dX12_undo_23 rfl rfl ?_
    refine zP_getI (pc := 24) (a := 400) C g12_294 dX12_undo_24 (s_X12 hT) rfl h fun v24 hv24 h => ?_
    refine zP_iconst (pc := 27) C dX12_undo_27 ?_
    refine zP_isub (pc := 28) C dX12_undo_28 h fun v28 hv28 h => ?_
    refine zP_putI (pc := 29) (a := 400) C p12_294 dX12_undo_29 (s_X12 hT) rfl hv28 h fun d h => ?_
    refine zP_aload_n (pc := 32) C (x := zad V 400) dX12_undo_32 rfl rfl ?_
    refine zP_getR (pc := 33) (a := 400) (t := 404) C g12_23 dX12_undo_33 (s_X12 hT) rfl ?_
    refine zP_sipush (pc := 36) C dX12_undo_36 rfl ?_
    refine zP_aload_n (pc := 39) C (x := zad V 400) dX12_undo_39 rfl rfl ?_
    refine zP_getI (pc := 40) (a := 400) C g12_294 dX12_undo_40 (s_X12 hT) rfl h fun v40 hv40 h => ?_
    refine zP_imul (pc := 43) C dX12_undo_43 h fun v43 hv43 h => ?_
    refine zP_aload_n (pc := 44) C (x := zad V 400) dX12_undo_44 rfl rfl ?_
    refine zP_getR (pc := 45) (a := 400) (t := 401) C g12_13 dX12_undo_45 (s_X12 hT) rfl ?_
    refine zP_iconst (pc := 48) C dX12_undo_48 ?_
    refine zP_sipush (pc := 49) C dX12_undo_49 rfl ?_
    obtain ⟨_, d1, hc, h⟩ := zc_h h
    refine zP_callS (pc := 52) (As := [.ref (zad V 404), .int (zI v43), .ref (zad V 401), .int (zI 0), .int (zI 800)]) (st := []) C m12_149 dX12_undo_52 (t_X12_copies (s_X12_past hT) (s_X12_s hT) hv43 (zRk rfl) (zRk rfl) hc) ⟨Nat.le_of_ble_eq_true rfl, Nat.le_of_ble_eq_true rfl⟩ rfl (Nat.le_of_ble_eq_true rfl) ⟨Nat.zero_le _, Nat.zero_le _⟩ fun hw => ?_
    clear hc hw
    show zP V X 1 0 0 55 _ [] d1
    revert h
    generalize d1 = d
    intro h
    refine zP_aload_n (pc := 55) C (x := zad V 400) dX12_undo_55 rfl rfl ?_
    refine zP_getI (pc := 56) (a := 400) C g12_294 dX12_undo_56 (s_X12 hT) rfl h fun v56 hv56 h => ?_
    exact zP_iret (pc := 59) C E dX12_undo_59 hv56 h
  · refine zP_iconst (pc := 20) C dX12_undo_20 ?_
    exact zP_iret (pc := 21) C E dX12_undo_21 (zRk rfl) h
def f_X12_undo  (d : zD) : Option (Int × zD) :=
  zl (d 400 5) fun v2 =>
  if (v2 : Int) ≤ 0 then (
    j_X12_undo_13   0 d)
  else (
    j_X12_undo_13   1 d)
theorem t_X12_undo {V : zW}  (hT : zo12 V)   {d dz : zD} {rv : Int} (h : f_X12_undo   d = some (rv, dz)) : zMet V 1 yX12_undo cX12_undo 1 (some .int) [.ref (zad V 400)] d (some (.int (zI rv))) (zR rv) dz := by
  refine zMet_by RX12 pn12 rfl (Nat.le_of_ble_eq_true rfl) [some (.ref (zad V 400))] rfl fun X C E => ?_
  refine zP_aload_n (pc := 0) C (x := zad V 400) dX12_undo_0 rfl rfl ?_
  refine zP_aload_n (pc := 1) C (x := zad V 400) dX12_undo_1 rfl rfl ?_
  refine zP_getI (pc := 2) (a := 400) C g12_294 dX12_undo_2 (s_X12 hT) rfl h fun v2 hv2 h => ?_
  refine zP_if_le (pc := 5) (tgt := 12) C dX12_undo_5 rfl hv2 h (fun _ h => ?_) (fun _ h => ?_)
  · refine zP_iconst (pc := 12) C dX12_undo_12 ?_
    exact zP_mask [true] (wj_X12_undo_13 hT C E  (zRk rfl) h)
  · refine zP_iconst (pc := 8) C dX12_undo_8 ?_
    refine zP_goto (pc := 9) (tgt := 13) C dX12_undo_9 rfl ?_
    exact zP_mask [true] (wj_X12_undo_13 hT C E  (zRk rfl) h)
def f_X12_writes  (x1 : Int) (d : zD) : Option (Int × zD) :=
  zl (d 400 24) fun v5 =>
  zl (zb8 x1) fun v9 =>
  zg 250 v5 <| zl (zu d 408 (v5 : Int).toNat (zb8 v9)) fun d =>
  zl (d 400 24) fun v13 =>
  zl (zw (v13 + 1)) fun v17 =>
  zl (zu d 400 24 v17) fun d =>
  some (0, d)
theorem t_X12_writes {V : zW}  (hT : zo12 V) {x1 : Int} (hx1 : zR x1) {d dz : zD} {rv : Int} (h : f_X12_writes  x1 d = some (rv, dz)) : zMet V 0 yX12_writes cX12_writes 2 none [.ref (zad V 400), .int (zI x1)] d none (rv = 0) dz := by
  refine zMet_by RX12 pn12 rfl (Nat.le_of_ble_eq_true rfl) [some (.ref (zad V 400)), some (.int (zI x1))] rfl fun X C E => ?_
  refine zP_aload_n (pc := 0) C (x := zad V 400) dX12_writes_0 rfl rfl ?_
  refine zP_getR (pc := 1) (a := 400) (t := 408) C g12_39 dX12_writes_1 (s_X12 hT) rfl ?_
  refine zP_aload_n (pc := 4) C (x := zad V 400) dX12_writes_4 rfl rfl ?_
  refine zP_getI (pc := 5) (a := 400) C g12_391 dX12_writes_5 (s_X12 hT) rfl h fun v5 hv5 h => ?_
  refine zP_iload_n (pc := 8) C (x := zI x1) dX12_writes_8 rfl rfl ?_
  refine zP_i2b (pc := 9) C dX12_writes_9 h fun v9 hv9 h => ?_
  refine zP_bast (pc := 10) (a := 408) C dX12_writes_10 (s_X12_output hT) hv5 h fun d h => ?_
  refine zP_aload_n (pc := 11) C (x := zad V 400) dX12_writes_11 rfl rfl ?_
  refine zP_aload_n (pc := 12) C (x := zad V 400) dX12_writes_12 rfl rfl ?_
  refine zP_getI (pc := 13) (a := 400) C g12_391 dX12_writes_13 (s_X12 hT) rfl h fun v13 hv13 h => ?_
  refine zP_iconst (pc := 16) C dX12_writes_16 ?_
  refine zP_iadd (pc := 17) C dX12_writes_17 h fun v17 hv17 h => ?_
  refine zP_putI (pc := 18) (a := 400) C p12_391 dX12_writes_18 (s_X12 hT) rfl hv17 h fun d h => ?_
  exact zP_vret (pc := 21) C E dX12_writes_21 h
def l_X12_writesName_10F  (r10 : Int → Int → zD → Option (Int × zD)) (x2 x3 : Int) (d : zD) : Option (Int × zD) :=
  zc (f_X12_lettersOf  x2 d) fun v12 d =>
  if (v12 : Int) ≤ x3 then (
    some (0, d))
  else (
    zc (f_X12_letterOf  x2 x3 d) fun v23 d =>
    zl (zw (97 + v23)) fun v26 =>
    zl (zw (v26 - 1)) fun v28 =>
    zc (f_X12_writes  v28 d) fun _ d =>
    zl (zw (x3 + 1)) fun v32 =>
    r10 x2 v32 d)
theorem wl_X12_writesName_10F {V : zW} {X : zX}  (hT : zo12 V) (C : zOk V X cX12_writesName RX12 4 (zrm 2) none) {rv : Int} {dz : zD} (E : zEnd V X none (rv = 0) dz) {r10 : Int → Int → zD → Option (Int × zD)} (hr10 : ∀ {x2 x3 : Int} {d : zD}, zR x2 → zR x3 → r10 x2 x3 d = some (rv, dz) → zP V X 4 0 0 10 [some (.ref (zad V 400)), none, some (.int (zI x2)), some (.int (zI x3))] [] d) {x2 x3 : Int} (hx2 : zR x2) (hx3 : zR x3) {d : zD} (h : l_X12_writesName_10F  r10 x2 x3 d = some (rv, dz)) : zP V X 4 0 0 10 [some (.ref (zad V 400)), none, some (.int (zI x2)), some (.int (zI x3))] [] d := by
  refine zP_iload_n (pc := 10) C (x := zI x3) dX12_writesName_10 rfl rfl ?_
  refine zP_iload_n (pc := 11) C (x := zI x2) dX12_writesName_11 rfl rfl ?_
  obtain ⟨v12, d1, hc, h⟩ := zc_h h
  refine zP_callS (pc := 12) (As := [.int (zI x2)]) (st := [.int (zI x3)]) C m12_370 dX12_writesName_12 (t_X12_lettersOf  hx2 hc) ⟨Nat.le_of_ble_eq_true rfl, Nat.le_of_ble_eq_true rfl⟩ rfl (Nat.le_of_ble_eq_true rfl) ⟨Nat.zero_le _, Nat.zero_le _⟩ fun hw => ?_
  have hv12 := hw
  clear hc hw
  show zP V X 4 0 0 15 _ [.int (zI v12), .int (zI x3)] d1
  revert h
  generalize d1 = d
  intro h
  refine zP_icmp_ge (pc := 15) (tgt := 38) C dX12_writesName_15 rfl hx3 hv12 h (fun _ h => ?_) (fun _ h => ?_)
  · exact zP_vret (pc := 38) C E dX12_writesName_38 h
  · refine zP_aload_n (pc := 18) C (x := zad V 400) dX12_writesName_18 rfl rfl ?_
    refine zP_bipush (pc := 19) C dX12_writesName_19 rfl ?_
    refine zP_iload_n (pc := 21) C (x := zI x2) dX12_writesName_21 rfl rfl ?_
    refine zP_iload_n (pc := 22) C (x := zI x3) dX12_writesName_22 rfl rfl ?_
    obtain ⟨v23, d1, hc, h⟩ := zc_h h
    refine zP_callS (pc := 23) (As := [.int (zI x2), .int (zI x3)]) (st := [.int (zI 97), .ref (zad V 400)]) C m12_373 dX12_writesName_23 (t_X12_letterOf  hx2 hx3 hc) ⟨Nat.le_of_ble_eq_true rfl, Nat.le_of_ble_eq_true rfl⟩ rfl (Nat.le_of_ble_eq_true rfl) ⟨Nat.zero_le _, Nat.zero_le _⟩ fun hw => ?_
    have hv23 := hw
    clear hc hw
    show zP V X 4 0 0 26 _ [.int (zI v23), .int (zI 97), .ref (zad V 400)] d1
    revert h
    generalize d1 = d
    intro h
    refine zP_iadd (pc := 26) C dX12_writesName_26 h fun v26 hv26 h => ?_
    refine zP_iconst (pc := 27) C dX12_writesName_27 ?_
    refine zP_isub (pc := 28) C dX12_writesName_28 h fun v28 hv28 h => ?_
    obtain ⟨_, d1, hc, h⟩ := zc_h h
    refine zP_callV (pc := 29) (As := [.int (zI v28)]) (st := []) C m12_397 dX12_writesName_29 (s_X12 hT) rfl (t_X12_writes hT hv28 hc) ⟨Nat.le_of_ble_eq_true rfl, Nat.le_of_ble_eq_true rfl⟩ rfl (Nat.le_of_ble_eq_true rfl) ⟨Nat.zero_le _, Nat.zero_le _⟩ fun hw => ?_
    clear hc hw
    show zP V X 4 0 0 32 _ [] d1
    revert h
    generalize d1 = d
    intro h
    refine zP_iinc (pc := 32) C (x := x3) dX12_writesName_32 rfl (Nat.le_of_ble_eq_true rfl) rfl h fun v32 hv32 h => ?_
    show zP V X 4 0 0 35 [some (.ref (zad V 400)), none, some (.int (zI x2)), some (.int (zI v32))] _ _
    refine zP_goto (pc := 35) (tgt := 10) C dX12_writesName_35 rfl ?_
    exact zP_mask [true, false, true, true] (hr10 hx2 hv32 h)
def l_X12_writesName_10   : Nat → Int → Int → zD → Option (Int × zD)
  | 0, _, _, _ => none
  | q + 1, x2, x3, d => l_X12_writesName_10F   (l_X12_writesName_10   q) x2 x3 d
theorem wl_X12_writesName_10 {V : zW} {X : zX}  (hT : zo12 V) (C : zOk V X cX12_writesName RX12 4 (zrm 2) none) {rv : Int} {dz : zD} (E : zEnd V X none (rv = 0) dz)  : ∀ (q : Nat) {x2 x3 : Int} (hx2 : zR x2) (hx3 : zR x3) {d : zD} (h : l_X12_writesName_10   q x2 x3 d = some (rv, dz)), zP V X 4 0 0 10 [some (.ref (zad V 400)), none, some (.int (zI x2)), some (.int (zI x3))] [] d := by
  intro q
  induction q with
  | zero => intro x2 x3 hx2 hx3 d h; cases (show (none : Option (Int × zD)) = some (rv, dz) from h)
  | succ q ih =>
    intro x2 x3 hx2 hx3 d h
    exact wl_X12_writesName_10F hT C E  (fun  hx2 hx3 h => ih hx2 hx3 h) hx2 hx3 h
def f_X12_writesName  (x1 : Int) (d : zD) : Option (Int × zD) :=
  zc (f_X12_of  x1 15 d) fun v4 d =>
  l_X12_writesName_10   zF v4 0 d
theorem t_X12_writesName {V : zW}  (hT : zo12 V) {x1 : Int} (hx1 : zR x1) {d dz : zD} {rv : Int} (h : f_X12_writesName  x1 d = some (rv, dz)) : zMet V 2 yX12_writesName cX12_writesName 4 none [.ref (zad V 400), .int (zI x1)] d none (rv = 0) dz := by
  refine zMet_by RX12 pn12 rfl (Nat.le_of_ble_eq_true rfl) [some (.ref (zad V 400)), some (.int (zI x1)), none, none] rfl fun X C E => ?_
  refine zP_aload_n (pc := 0) C (x := zad V 400) dX12_writesName_0 rfl rfl ?_
  refine zP_iload_n (pc := 1) C (x := zI x1) dX12_writesName_1 rfl rfl ?_
  refine zP_bipush (pc := 2) C dX12_writesName_2 rfl ?_
  obtain ⟨v4, d1, hc, h⟩ := zc_h h
  refine zP_callV (pc := 4) (As := [.int (zI x1), .int (zI 15)]) (st := []) C m12_57 dX12_writesName_4 (s_X12 hT) rfl (t_X12_of hT hx1 (zRk rfl) hc) ⟨Nat.le_of_ble_eq_true rfl, Nat.le_of_ble_eq_true rfl⟩ rfl (Nat.le_of_ble_eq_true rfl) ⟨Nat.zero_le _, Nat.zero_le _⟩ fun hw => ?_
  have hv4 := hw
  clear hc hw
  show zP V X 4 0 0 7 _ [.int (zI v4)] d1
  revert h
  generalize d1 = d
  intro h
  refine zP_istore_n (pc := 7) C (L' := [some (.ref (zad V 400)), some (.int (zI x1)), some (.int (zI v4)), none]) dX12_writesName_7 rfl (Nat.le_of_ble_eq_true rfl) rfl rfl ?_
  refine zP_iconst (pc := 8) C dX12_writesName_8 ?_
  refine zP_istore_n (pc := 9) C (L' := [some (.ref (zad V 400)), some (.int (zI x1)), some (.int (zI v4)), some (.int (zI 0))]) dX12_writesName_9 rfl (Nat.le_of_ble_eq_true rfl) rfl rfl ?_
  exact zP_mask [true, false, true, true] (wl_X12_writesName_10 hT C E  zF hv4 (zRk rfl) h)
def j_X12_printList_32  (r12 : Int → zD → Option (Int × zD)) (x1 : Int) (d : zD) : Option (Int × zD) :=
  zl (zw (30 + x1)) fun v40 =>
  zg 800 v40 <| zl (d 401 (v40 : Int).toNat) fun v41 =>
  zc (f_X12_writesName  v41 d) fun _ d =>
  zl (zw (x1 + 1)) fun v45 =>
  r12 v45 d
theorem wj_X12_printList_32 {V : zW} {X : zX}  (hT : zo12 V) (C : zOk V X cX12_printList RX12 2 (zrm 3) (some .int)) {rv : Int} {dz : zD} (E : zEnd V X (some (.int (zI rv))) (zR rv) dz) {r12 : Int → zD → Option (Int × zD)} (hr12 : ∀ {x1 : Int} {d : zD}, zR x1 → r12 x1 d = some (rv, dz) → zP V X 2 0 0 12 [some (.ref (zad V 400)), some (.int (zI x1))] [] d) {x1 : Int} (hx1 : zR x1) {d : zD} (h : j_X12_printList_32  r12 x1 d = some (rv, dz)) : zP V X 2 0 0 32 [some (.ref (zad V 400)), some (.int (zI x1))] [] d := by
  refine zP_aload_n (pc := 32) C (x := zad V 400) dX12_printList_32 rfl rfl ?_
  refine zP_aload_n (pc := 33) C (x := zad V 400) dX12_printList_33 rfl rfl ?_
  refine zP_getR (pc := 34) (a := 400) (t := 401) C g12_13 dX12_printList_34 (s_X12 hT) rfl ?_
  refine zP_bipush (pc := 37) C dX12_printList_37 rfl ?_
  refine zP_iload_n (pc := 39) C (x := zI x1) dX12_printList_39 rfl rfl ?_
  refine zP_iadd (pc := 40) C dX12_printList_40 h fun v40 hv40 h => ?_
  refine zP_iald (pc := 41) (a := 401) C dX12_printList_41 (s_X12_s hT) hv40 h fun v41 hv41 h => ?_
  obtain ⟨_, d1, hc, h⟩ := zc_h h
  refine zP_callV (pc := 42) (As := [.int (zI v41)]) (st := []) C m12_400 dX12_printList_42 (s_X12 hT) rfl (t_X12_writesName hT hv41 hc) ⟨Nat.le_of_ble_eq_true rfl, Nat.le_of_ble_eq_true rfl⟩ rfl (Nat.le_of_ble_eq_true rfl) ⟨Nat.zero_le _, Nat.zero_le _⟩ fun hw => ?_
  clear hc hw
  show zP V X 2 0 0 45 _ [] d1
  revert h
  generalize d1 = d
  intro h
  refine zP_iinc (pc := 45) C (x := x1) dX12_printList_45 rfl (Nat.le_of_ble_eq_true rfl) rfl h fun v45 hv45 h => ?_
  show zP V X 2 0 0 48 [some (.ref (zad V 400)), some (.int (zI v45))] _ _
  refine zP_goto (pc := 48) (tgt := 12) C dX12_printList_48 rfl ?_
  exact zP_mask [true, true] (hr12 hv45 h)
def l_X12_printList_12F  (r12 : Int → zD → Option (Int × zD)) (x1 : Int) (d : zD) : Option (Int × zD) :=
  zg 800 1 <| zl (d 401 (1 : Int).toNat) fun v18 =>
  if (v18 : Int) ≤ x1 then (
    zl (d 400 24) fun v52 =>
    some (v52, d))
  else (
    if (x1 : Int) ≤ 0 then (
      j_X12_printList_32  r12 x1 d)
    else (
      zc (f_X12_writes  32 d) fun _ d =>
      j_X12_printList_32  r12 x1 d))
theorem wl_X12_printList_12F {V : zW} {X : zX}  (hT : zo12 V) (C : zOk V X cX12_printList RX12 2 (zrm 3) (some .int)) {rv : Int} {dz : zD} (E : zEnd V X (some (.int (zI rv))) (zR rv) dz) {r12 : Int → zD → Option (Int × zD)} (hr12 : ∀ {x1 : Int} {d : zD}, zR x1 → r12 x1 d = some (rv, dz) → zP V X 2 0 0 12 [some (.ref (zad V 400)), some (.int (zI x1))] [] d) {x1 : Int} (hx1 : zR x1) {d : zD} (h : l_X12_printList_12F  r12 x1 d = some (rv, dz)) : zP V X 2 0 0 12 [some (.ref (zad V 400)), some (.int (zI x1))] [] d := by
  refine zP_iload_n (pc := 12) C (x := zI x1) dX12_printList_12 rfl rfl ?_
  refine zP_aload_n (pc := 13) C (x := zad V 400) dX12_printList_13 rfl rfl ?_
  refine zP_getR (pc := 14) (a := 400) (t := 401) C g12_13 dX12_printList_14 (s_X12 hT) rfl ?_
  refine zP_iconst (pc := 17) C dX12_printList_17 ?_
  refine zP_iald (pc := 18) (a := 401) C dX12_printList_18 (s_X12_s hT) (zRk rfl) h fun v18 hv18 h => ?_
  refine zP_icmp_ge (pc := 19) (tgt := 51) C dX12_printList_19 rfl hx1 hv18 h (fun _ h => ?_) (fun _ h => ?_)
  · refine zP_aload_n (pc := 51) C (x := zad V 400) dX12_printList_51 rfl rfl ?_
    refine zP_getI (pc := 52) (a := 400) C g12_391 dX12_printList_52 (s_X12 hT) rfl h fun v52 hv52 h => ?_
    exact zP_iret (pc := 55) C E dX12_printList_55 hv52 h
  · refine zP_iload_n (pc := 22) C (x := zI x1) dX12_printList_22 rfl rfl ?_
    refine zP_if_le (pc := 23) (tgt := 32) C dX12_printList_23 rfl hx1 h (fun _ h => ?_) (fun _ h => ?_)
    · exact zP_mask [true, true] (wj_X12_printList_32 hT C E hr12 hx1 h)
    · refine zP_aload_n (pc := 26) C (x := zad V 400) dX12_printList_26 rfl rfl ?_
      refine zP_bipush (pc := 27) C dX12_printList_27 rfl ?_
      obtain ⟨_, d1, hc, h⟩ := zc_h h
      refine zP_callV (pc := 29) (As := [.int (zI 32)]) (st := []) C m12_397 dX12_printList_29 (s_X12 hT) rfl (t_X12_writes hT (zRk rfl) hc) ⟨Nat.le_of_ble_eq_true rfl, Nat.le_of_ble_eq_true rfl⟩ rfl (Nat.le_of_ble_eq_true rfl) ⟨Nat.zero_le _, Nat.zero_le _⟩ fun hw => ?_
      clear hc hw
      show zP V X 2 0 0 32 _ [] d1
      revert h
      generalize d1 = d
      intro h
      exact zP_mask [true, true] (wj_X12_printList_32 hT C E hr12 hx1 h)
def l_X12_printList_12   : Nat → Int → zD → Option (Int × zD)
  | 0, _, _ => none
  | q + 1, x1, d => l_X12_printList_12F   (l_X12_printList_12   q) x1 d
theorem wl_X12_printList_12 {V : zW} {X : zX}  (hT : zo12 V) (C : zOk V X cX12_printList RX12 2 (zrm 3) (some .int)) {rv : Int} {dz : zD} (E : zEnd V X (some (.int (zI rv))) (zR rv) dz)  : ∀ (q : Nat) {x1 : Int} (hx1 : zR x1) {d : zD} (h : l_X12_printList_12   q x1 d = some (rv, dz)), zP V X 2 0 0 12 [some (.ref (zad V 400)), some (.int (zI x1))] [] d := by
  intro q
  induction q with
  | zero => intro x1 hx1 d h; cases (show (none : Option (Int × zD)) = some (rv, dz) from h)
  | succ q ih =>
    intro x1 hx1 d h
    exact wl_X12_printList_12F hT C E  (fun  hx1 h => ih hx1 h) hx1 h
def f_X12_printList  (d : zD) : Option (Int × zD) :=
  zl (zu d 400 0 0) fun d =>
  zl (zu d 400 24 0) fun d =>
  l_X12_printList_12   zF 0 d
theorem t_X12_printList {V : zW}  (hT : zo12 V)   {d dz : zD} {rv : Int} (h : f_X12_printList   d = some (rv, dz)) : zMet V 3 yX12_printList cX12_printList 2 (some .int) [.ref (zad V 400)] d (some (.int (zI rv))) (zR rv) dz := by
  refine zMet_by RX12 pn12 rfl (Nat.le_of_ble_eq_true rfl) [some (.ref (zad V 400)), none] rfl fun X C E => ?_
  refine zP_aload_n (pc := 0) C (x := zad V 400) dX12_printList_0 rfl rfl ?_
  refine zP_iconst (pc := 1) C dX12_printList_1 ?_
  refine zP_putI (pc := 2) (a := 400) C p12_1 dX12_printList_2 (s_X12 hT) rfl (zRk rfl) h fun d h => ?_
  refine zP_aload_n (pc := 5) C (x := zad V 400) dX12_printList_5 rfl rfl ?_
  refine zP_iconst (pc := 6) C dX12_printList_6 ?_
  refine zP_putI (pc := 7) (a := 400) C p12_391 dX12_printList_7 (s_X12 hT) rfl (zRk rfl) h fun d h => ?_
  refine zP_iconst (pc := 10) C dX12_printList_10 ?_
  refine zP_istore_n (pc := 11) C (L' := [some (.ref (zad V 400)), some (.int (zI 0))]) dX12_printList_11 rfl (Nat.le_of_ble_eq_true rfl) rfl rfl ?_
  exact zP_mask [true, true] (wl_X12_printList_12 hT C E  zF (zRk rfl) h)
def f_X12_outputByte  (x1 : Int) (d : zD) : Option (Int × zD) :=
  zl (zu d 400 0 0) fun d =>
  zl (d 400 24) fun v8 =>
  zl (zw (v8 - 1)) fun v12 =>
  zc (f_X12_isIn  x1 0 v12 d) fun v13 d =>
  if (v13 : Int) = 0 then (
    some ((-1), d))
  else (
    zg 250 x1 <| zl (d 408 (x1 : Int).toNat) fun v24 =>
    some (v24, d))
theorem t_X12_outputByte {V : zW}  (hT : zo12 V) {x1 : Int} (hx1 : zR x1) {d dz : zD} {rv : Int} (h : f_X12_outputByte  x1 d = some (rv, dz)) : zMet V 1 yX12_outputByte cX12_outputByte 2 (some .int) [.ref (zad V 400), .int (zI x1)] d (some (.int (zI rv))) (zR rv) dz := by
  refine zMet_by RX12 pn12 rfl (Nat.le_of_ble_eq_true rfl) [some (.ref (zad V 400)), some (.int (zI x1))] rfl fun X C E => ?_
  refine zP_aload_n (pc := 0) C (x := zad V 400) dX12_outputByte_0 rfl rfl ?_
  refine zP_iconst (pc := 1) C dX12_outputByte_1 ?_
  refine zP_putI (pc := 2) (a := 400) C p12_1 dX12_outputByte_2 (s_X12 hT) rfl (zRk rfl) h fun d h => ?_
  refine zP_iload_n (pc := 5) C (x := zI x1) dX12_outputByte_5 rfl rfl ?_
  refine zP_iconst (pc := 6) C dX12_outputByte_6 ?_
  refine zP_aload_n (pc := 7) C (x := zad V 400) dX12_outputByte_7 rfl rfl ?_
  refine zP_getI (pc := 8) (a := 400) C g12_391 dX12_outputByte_8 (s_X12 hT) rfl h fun v8 hv8 h => ?_
  refine zP_iconst (pc := 11) C dX12_outputByte_11 ?_
  refine zP_isub (pc := 12) C dX12_outputByte_12 h fun v12 hv12 h => ?_
  obtain ⟨v13, d1, hc, h⟩ := zc_h h
  refine zP_callS (pc := 13) (As := [.int (zI x1), .int (zI 0), .int (zI v12)]) (st := []) C m12_53 dX12_outputByte_13 (t_X12_isIn  hx1 (zRk rfl) hv12 hc) ⟨Nat.le_of_ble_eq_true rfl, Nat.le_of_ble_eq_true rfl⟩ rfl (Nat.le_of_ble_eq_true rfl) ⟨Nat.zero_le _, Nat.zero_le _⟩ fun hw => ?_
  have hbv13 := hw
  have hv13 := z01 hw
  clear hc hw
  show zP V X 2 0 0 16 _ [.int (zI v13)] d1
  revert h
  generalize d1 = d
  intro h
  refine zP_if_eq (pc := 16) (tgt := 28) C dX12_outputByte_16 rfl hv13 h (fun _ h => ?_) (fun _ h => ?_)
  · refine zP_iconst (pc := 28) C dX12_outputByte_28 ?_
    exact zP_iret (pc := 29) C E dX12_outputByte_29 (zRk rfl) h
  · refine zP_aload_n (pc := 19) C (x := zad V 400) dX12_outputByte_19 rfl rfl ?_
    refine zP_getR (pc := 20) (a := 400) (t := 408) C g12_39 dX12_outputByte_20 (s_X12 hT) rfl ?_
    refine zP_iload_n (pc := 23) C (x := zI x1) dX12_outputByte_23 rfl rfl ?_
    refine zP_bald (pc := 24) (a := 408) C dX12_outputByte_24 (s_X12_output hT) hx1 h fun v24 hv24 h => ?_
    refine zP_goto (pc := 25) (tgt := 29) C dX12_outputByte_25 rfl ?_
    exact zP_iret (pc := 29) C E dX12_outputByte_29 hv24 h
def f_X12_saveState  (d : zD) : Option (Int × zD) :=
  zl (zu d 400 0 0) fun d =>
  zc (f_X12_copies 401 800 403 800 0 0 800 d) fun _ d =>
  zl (zu d 400 6 1) fun d =>
  zg 800 3 <| zl (d 401 (3 : Int).toNat) fun v31 =>
  some (v31, d)
theorem t_X12_saveState {V : zW}  (hT : zo12 V)   {d dz : zD} {rv : Int} (h : f_X12_saveState   d = some (rv, dz)) : zMet V 1 yX12_saveState cX12_saveState 1 (some .int) [.ref (zad V 400)] d (some (.int (zI rv))) (zR rv) dz := by
  refine zMet_by RX12 pn12 rfl (Nat.le_of_ble_eq_true rfl) [some (.ref (zad V 400))] rfl fun X C E => ?_
  refine zP_aload_n (pc := 0) C (x := zad V 400) dX12_saveState_0 rfl rfl ?_
  refine zP_iconst (pc := 1) C dX12_saveState_1 ?_
  refine zP_putI (pc := 2) (a := 400) C p12_1 dX12_saveState_2 (s_X12 hT) rfl (zRk rfl) h fun d h => ?_
  refine zP_aload_n (pc := 5) C (x := zad V 400) dX12_saveState_5 rfl rfl ?_
  refine zP_getR (pc := 6) (a := 400) (t := 401) C g12_13 dX12_saveState_6 (s_X12 hT) rfl ?_
  refine zP_iconst (pc := 9) C dX12_saveState_9 ?_
  refine zP_aload_n (pc := 10) C (x := zad V 400) dX12_saveState_10 rfl rfl ?_
  refine zP_getR (pc := 11) (a := 400) (t := 403) C g12_20 dX12_saveState_11 (s_X12 hT) rfl ?_
  refine zP_iconst (pc := 14) C dX12_saveState_14 ?_
  refine zP_sipush (pc := 15) C dX12_saveState_15 rfl ?_
  obtain ⟨_, d1, hc, h⟩ := zc_h h
  refine zP_callS (pc := 18) (As := [.ref (zad V 401), .int (zI 0), .ref (zad V 403), .int (zI 0), .int (zI 800)]) (st := []) C m12_149 dX12_saveState_18 (t_X12_copies (s_X12_s hT) (s_X12_kept hT) (zRk rfl) (zRk rfl) (zRk rfl) hc) ⟨Nat.le_of_ble_eq_true rfl, Nat.le_of_ble_eq_true rfl⟩ rfl (Nat.le_of_ble_eq_true rfl) ⟨Nat.zero_le _, Nat.zero_le _⟩ fun hw => ?_
  clear hc hw
  show zP V X 1 0 0 21 _ [] d1
  revert h
  generalize d1 = d
  intro h
  refine zP_aload_n (pc := 21) C (x := zad V 400) dX12_saveState_21 rfl rfl ?_
  refine zP_iconst (pc := 22) C dX12_saveState_22 ?_
  refine zP_putZ (pc := 23) (a := 400) C p12_297 dX12_saveState_23 (s_X12 hT) rfl (Or.inr rfl) h fun d h => ?_
  refine zP_aload_n (pc := 26) C (x := zad V 400) dX12_saveState_26 rfl rfl ?_
  refine zP_getR (pc := 27) (a := 400) (t := 401) C g12_13 dX12_saveState_27 (s_X12 hT) rfl ?_
  refine zP_iconst (pc := 30) C dX12_saveState_30 ?_
  refine zP_iald (pc := 31) (a := 401) C dX12_saveState_31 (s_X12_s hT) (zRk rfl) h fun v31 hv31 h => ?_
  exact zP_iret (pc := 32) C E dX12_saveState_32 hv31 h
def f_X12_restoreState  (d : zD) : Option (Int × zD) :=
  zl (d 400 6) fun v2 =>
  zc (f_X12_may  v2 1 d) fun v6 d =>
  if (v6 : Int) = 0 then (
    some (0, d))
  else (
    zc (f_X12_copies 403 800 401 800 0 0 800 d) fun _ d =>
    zl (zu d 400 5 0) fun d =>
    zg 800 3 <| zl (d 401 (3 : Int).toNat) fun v40 =>
    some (v40, d))
theorem t_X12_restoreState {V : zW}  (hT : zo12 V)   {d dz : zD} {rv : Int} (h : f_X12_restoreState   d = some (rv, dz)) : zMet V 1 yX12_restoreState cX12_restoreState 1 (some .int) [.ref (zad V 400)] d (some (.int (zI rv))) (zR rv) dz := by
  refine zMet_by RX12 pn12 rfl (Nat.le_of_ble_eq_true rfl) [some (.ref (zad V 400))] rfl fun X C E => ?_
  refine zP_aload_n (pc := 0) C (x := zad V 400) dX12_restoreState_0 rfl rfl ?_
  refine zP_aload_n (pc := 1) C (x := zad V 400) dX12_restoreState_1 rfl rfl ?_
  refine zP_getI (pc := 2) (a := 400) C g12_297 dX12_restoreState_2 (s_X12 hT) rfl h fun v2 hv2 h => ?_
  refine zP_iconst (pc := 5) C dX12_restoreState_5 ?_
  obtain ⟨v6, d1, hc, h⟩ := zc_h h
  refine zP_callV (pc := 6) (As := [.int (zI v2), .int (zI 1)]) (st := []) C m12_363 dX12_restoreState_6 (s_X12 hT) rfl (t_X12_may hT hv2 (zRk rfl) hc) ⟨Nat.le_of_ble_eq_true rfl, Nat.le_of_ble_eq_true rfl⟩ rfl (Nat.le_of_ble_eq_true rfl) ⟨Nat.zero_le _, Nat.zero_le _⟩ fun hw => ?_
  have hbv6 := hw
  have hv6 := z01 hw
  clear hc hw
  show zP V X 1 0 0 9 _ [.int (zI v6)] d1
  revert h
  generalize d1 = d
  intro h
  refine zP_if_ne (pc := 9) (tgt := 14) C dX12_restoreState_9 rfl hv6 h (fun _ h => ?_) (fun _ h => ?_)
  · refine zP_aload_n (pc := 14) C (x := zad V 400) dX12_restoreState_14 rfl rfl ?_
    refine zP_getR (pc := 15) (a := 400) (t := 403) C g12_20 dX12_restoreState_15 (s_X12 hT) rfl ?_
    refine zP_iconst (pc := 18) C dX12_restoreState_18 ?_
    refine zP_aload_n (pc := 19) C (x := zad V 400) dX12_restoreState_19 rfl rfl ?_
    refine zP_getR (pc := 20) (a := 400) (t := 401) C g12_13 dX12_restoreState_20 (s_X12 hT) rfl ?_
    refine zP_iconst (pc := 23) C dX12_restoreState_23 ?_
    refine zP_sipush (pc := 24) C dX12_restoreState_24 rfl ?_
    obtain ⟨_, d1, hc, h⟩ := zc_h h
    refine zP_callS (pc := 27) (As := [.ref (zad V 403), .int (zI 0), .ref (zad V 401), .int (zI 0), .int (zI 800)]) (st := []) C m12_149 dX12_restoreState_27 (t_X12_copies (s_X12_kept hT) (s_X12_s hT) (zRk rfl) (zRk rfl) (zRk rfl) hc) ⟨Nat.le_of_ble_eq_true rfl, Nat.le_of_ble_eq_true rfl⟩ rfl (Nat.le_of_ble_eq_true rfl) ⟨Nat.zero_le _, Nat.zero_le _⟩ fun hw => ?_
    clear hc hw
    show zP V X 1 0 0 30 _ [] d1
    revert h
    generalize d1 = d
    intro h
    refine zP_aload_n (pc := 30) C (x := zad V 400) dX12_restoreState_30 rfl rfl ?_
    refine zP_iconst (pc := 31) C dX12_restoreState_31 ?_
    refine zP_putI (pc := 32) (a := 400) C p12_294 dX12_restoreState_32 (s_X12 hT) rfl (zRk rfl) h fun d h => ?_
    refine zP_aload_n (pc := 35) C (x := zad V 400) dX12_restoreState_35 rfl rfl ?_
    refine zP_getR (pc := 36) (a := 400) (t := 401) C g12_13 dX12_restoreState_36 (s_X12 hT) rfl ?_
    refine zP_iconst (pc := 39) C dX12_restoreState_39 ?_
    refine zP_iald (pc := 40) (a := 401) C dX12_restoreState_40 (s_X12_s hT) (zRk rfl) h fun v40 hv40 h => ?_
    exact zP_iret (pc := 41) C E dX12_restoreState_41 hv40 h
  · refine zP_iconst (pc := 12) C dX12_restoreState_12 ?_
    exact zP_iret (pc := 13) C E dX12_restoreState_13 (zRk rfl) h
