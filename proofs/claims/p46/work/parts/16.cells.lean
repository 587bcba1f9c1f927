/-! The small objects' methods over the pure heap. -/
def l_X6_find_2F (s : Nat) (r2 : Int → Int → zD → Option (Int × zD)) (x1 x2 : Int) (d : zD) : Option (Int × zD) :=
  zl (d s 0) fun v4 =>
  if (v4 : Int) ≤ x2 then (
    some ((-1), d))
  else (
    zg 8 x2 <| zl (d (s + 1) (x2 : Int).toNat) fun v15 =>
    if (v15 : Int) = x1 then (
      some (x2, d))
    else (
      zl (zw (x2 + 1)) fun v22 =>
      r2 x1 v22 d))
theorem wl_X6_find_2F {V : zW} {X : zX} {s : Nat} (hs : zo6 V s) (C : zOk V X cX6_find RX6 3 (zrm 0) (some .int)) {rv : Int} {dz : zD} (E : zEnd V X (some (.int (zI rv))) (zR rv) dz) {r2 : Int → Int → zD → Option (Int × zD)} (hr2 : ∀ {x1 x2 : Int} {d : zD}, zR x1 → zR x2 → r2 x1 x2 d = some (rv, dz) → zP V X 3 0 0 2 [some (.ref (zad V s)), some (.int (zI x1)), some (.int (zI x2))] [] d) {x1 x2 : Int} (hx1 : zR x1) (hx2 : zR x2) {d : zD} (h : l_X6_find_2F s r2 x1 x2 d = some (rv, dz)) : zP V X 3 0 0 2 [some (.ref (zad V s)), some (.int (zI x1)), some (.int (zI x2))] [] d := by
  refine zP_iload_n (pc := 2) C (x := zI x2) dX6_find_2 rfl rfl ?_
  refine zP_aload_n (pc := 3) C (x := zad V s) dX6_find_3 rfl rfl ?_
  refine zP_getI (pc := 4) (a := s) C g6_9 dX6_find_4 (s_X6 hs) rfl h fun v4 hv4 h => ?_
  refine zP_icmp_ge (pc := 7) (tgt := 28) C dX6_find_7 rfl hx2 hv4 h (fun _ h => ?_) (fun _ h => ?_)
  · refine zP_iconst (pc := 28) C dX6_find_28 ?_
    exact zP_iret (pc := 29) C E dX6_find_29 (zRk rfl) h
  · refine zP_aload_n (pc := 10) C (x := zad V s) dX6_find_10 rfl rfl ?_
    refine zP_getR (pc := 11) (a := s) (t := s + 1) C g6_15 dX6_find_11 (s_X6 hs) rfl ?_
    refine zP_iload_n (pc := 14) C (x := zI x2) dX6_find_14 rfl rfl ?_
    refine zP_iald (pc := 15) (a := s + 1) C dX6_find_15 (s_X6_names hs) hx2 h fun v15 hv15 h => ?_
    refine zP_iload_n (pc := 16) C (x := zI x1) dX6_find_16 rfl rfl ?_
    refine zP_icmp_ne (pc := 17) (tgt := 22) C dX6_find_17 rfl hv15 hx1 h (fun _ h => ?_) (fun _ h => ?_)
    · refine zP_iinc (pc := 22) C (x := x2) dX6_find_22 rfl (Nat.le_of_ble_eq_true rfl) rfl h fun v22 hv22 h => ?_
      show zP V X 3 0 0 25 [some (.ref (zad V s)), some (.int (zI x1)), some (.int (zI v22))] _ _
      refine zP_goto (pc := 25) (tgt := 2) C dX6_find_25 rfl ?_
      exact zP_mask [true, true, true] (hr2 hx1 hv22 h)
    · refine zP_iload_n (pc := 20) C (x := zI x2) dX6_find_20 rfl rfl ?_
      exact zP_iret (pc := 21) C E dX6_find_21 hx2 h
def l_X6_find_2 (s : Nat)  : Nat → Int → Int → zD → Option (Int × zD)
  | 0, _, _, _ => none
  | q + 1, x1, x2, d => l_X6_find_2F s  (l_X6_find_2 s  q) x1 x2 d
theorem wl_X6_find_2 {V : zW} {X : zX} {s : Nat} (hs : zo6 V s) (C : zOk V X cX6_find RX6 3 (zrm 0) (some .int)) {rv : Int} {dz : zD} (E : zEnd V X (some (.int (zI rv))) (zR rv) dz)  : ∀ (q : Nat) {x1 x2 : Int} (hx1 : zR x1) (hx2 : zR x2) {d : zD} (h : l_X6_find_2 s  q x1 x2 d = some (rv, dz)), zP V X 3 0 0 2 [some (.ref (zad V s)), some (.int (zI x1)), some (.int (zI x2))] [] d := by
  intro q
  induction q with
  | zero => intro x1 x2 hx1 hx2 d h; cases (show (none : Option (Int × zD)) = some (rv, dz) from h)
  | succ q ih =>
    intro x1 x2 hx1 hx2 d h
    exact wl_X6_find_2F hs C E  (fun  hx1 hx2 h => ih hx1 hx2 h) hx1 hx2 h
def f_X6_find (s : Nat) (x1 : Int) (d : zD) : Option (Int × zD) :=
  l_X6_find_2 s  zF x1 0 d
theorem t_X6_find {V : zW} {s : Nat} (hs : zo6 V s) {x1 : Int} (hx1 : zR x1) {d dz : zD} {rv : Int} (h : f_X6_find s x1 d = some (rv, dz)) : zMet V 0 yX6_find cX6_find 3 (some .int) [.ref (zad V s), .int (zI x1)] d (some (.int (zI rv))) (zR rv) dz := by
  refine zMet_by RX6 pn6 rfl (Nat.le_of_ble_eq_true rfl) [some (.ref (zad V s)), some (.int (zI x1)), none] rfl fun X C E => ?_
  refine zP_iconst (pc := 0) C dX6_find_0 ?_
  refine zP_istore_n (pc := 1) C (L' := [some (.ref (zad V s)), some (.int (zI x1)), some (.int (zI 0))]) dX6_find_1 rfl (Nat.le_of_ble_eq_true rfl) rfl rfl ?_
  exact zP_mask [true, true, true] (wl_X6_find_2 hs C E  zF hx1 (zRk rfl) h)
def f_X6_addTerminal (s : Nat) (x1 : Int) (d : zD) : Option (Int × zD) :=
  zl (d s 0) fun v1 =>
  if (8 : Int) ≤ v1 then (
    some (0, d))
  else (
    zl (d s 0) fun v14 =>
    zg 8 v14 <| zl (zu d (s + 1) (v14 : Int).toNat x1) fun d =>
    zl (d s 0) fun v24 =>
    zg 8 v24 <| zl (zu d (s + 2) (v24 : Int).toNat 2) fun d =>
    zl (d s 0) fun v34 =>
    zg 8 v34 <| zl (zu d (s + 3) (v34 : Int).toNat 2) fun d =>
    zl (d s 0) fun v44 =>
    zg 8 v44 <| zl (zu d (s + 4) (v44 : Int).toNat 5) fun d =>
    zl (d s 0) fun v51 =>
    zl (zw (v51 + 1)) fun v55 =>
    zl (zu d s 0 v55) fun d =>
    some (0, d))
theorem t_X6_addTerminal {V : zW} {s : Nat} (hs : zo6 V s) {x1 : Int} (hx1 : zR x1) {d dz : zD} {rv : Int} (h : f_X6_addTerminal s x1 d = some (rv, dz)) : zMet V 0 yX6_addTerminal cX6_addTerminal 2 none [.ref (zad V s), .int (zI x1)] d none (rv = 0) dz := by
  refine zMet_by RX6 pn6 rfl (Nat.le_of_ble_eq_true rfl) [some (.ref (zad V s)), some (.int (zI x1))] rfl fun X C E => ?_
  refine zP_aload_n (pc := 0) C (x := zad V s) dX6_addTerminal_0 rfl rfl ?_
  refine zP_getI (pc := 1) (a := s) C g6_9 dX6_addTerminal_1 (s_X6 hs) rfl h fun v1 hv1 h => ?_
  refine zP_bipush (pc := 4) C dX6_addTerminal_4 rfl ?_
  refine zP_icmp_ge (pc := 6) (tgt := 59) C dX6_addTerminal_6 rfl hv1 (zRk rfl) h (fun _ h => ?_) (fun _ h => ?_)
  · exact zP_vret (pc := 59) C E dX6_addTerminal_59 h
  · refine zP_aload_n (pc := 9) C (x := zad V s) dX6_addTerminal_9 rfl rfl ?_
    refine zP_getR (pc := 10) (a := s) (t := s + 1) C g6_15 dX6_addTerminal_10 (s_X6 hs) rfl ?_
    refine zP_aload_n (pc := 13) C (x := zad V s) dX6_addTerminal_13 rfl rfl ?_
    refine zP_getI (pc := 14) (a := s) C g6_9 dX6_addTerminal_14 (s_X6 hs) rfl h fun v14 hv14 h => ?_
    refine zP_iload_n (pc := 17) C (x := zI x1) dX6_addTerminal_17 rfl rfl ?_
    refine zP_iast (pc := 18) (a := s + 1) C dX6_addTerminal_18 (s_X6_names hs) hv14 hx1 h fun d h => ?_
    refine zP_aload_n (pc := 19) C (x := zad V s) dX6_addTerminal_19 rfl rfl ?_
    refine zP_getR (pc := 20) (a := s) (t := s + 2) C g6_19 dX6_addTerminal_20 (s_X6 hs) rfl ?_
    refine zP_aload_n (pc := 23) C (x := zad V s) dX6_addTerminal_23 rfl rfl ?_
    refine zP_getI (pc := 24) (a := s) C g6_9 dX6_addTerminal_24 (s_X6 hs) rfl h fun v24 hv24 h => ?_
    refine zP_iconst (pc := 27) C dX6_addTerminal_27 ?_
    refine zP_iast (pc := 28) (a := s + 2) C dX6_addTerminal_28 (s_X6_delays hs) hv24 (zRk rfl) h fun d h => ?_
    refine zP_aload_n (pc := 29) C (x := zad V s) dX6_addTerminal_29 rfl rfl ?_
    refine zP_getR (pc := 30) (a := s) (t := s + 3) C g6_22 dX6_addTerminal_30 (s_X6 hs) rfl ?_
    refine zP_aload_n (pc := 33) C (x := zad V s) dX6_addTerminal_33 rfl rfl ?_
    refine zP_getI (pc := 34) (a := s) C g6_9 dX6_addTerminal_34 (s_X6 hs) rfl h fun v34 hv34 h => ?_
    refine zP_iconst (pc := 37) C dX6_addTerminal_37 ?_
    refine zP_iast (pc := 38) (a := s + 3) C dX6_addTerminal_38 (s_X6_rooms hs) hv34 (zRk rfl) h fun d h => ?_
    refine zP_aload_n (pc := 39) C (x := zad V s) dX6_addTerminal_39 rfl rfl ?_
    refine zP_getR (pc := 40) (a := s) (t := s + 4) C g6_25 dX6_addTerminal_40 (s_X6 hs) rfl ?_
    refine zP_aload_n (pc := 43) C (x := zad V s) dX6_addTerminal_43 rfl rfl ?_
    refine zP_getI (pc := 44) (a := s) C g6_9 dX6_addTerminal_44 (s_X6 hs) rfl h fun v44 hv44 h => ?_
    refine zP_iconst (pc := 47) C dX6_addTerminal_47 ?_
    refine zP_iast (pc := 48) (a := s + 4) C dX6_addTerminal_48 (s_X6_prints hs) hv44 (zRk rfl) h fun d h => ?_
    refine zP_aload_n (pc := 49) C (x := zad V s) dX6_addTerminal_49 rfl rfl ?_
    refine zP_dup (pc := 50) C dX6_addTerminal_50 rfl ?_
    refine zP_getI (pc := 51) (a := s) C g6_9 dX6_addTerminal_51 (s_X6 hs) rfl h fun v51 hv51 h => ?_
    refine zP_iconst (pc := 54) C dX6_addTerminal_54 ?_
    refine zP_iadd (pc := 55) C dX6_addTerminal_55 h fun v55 hv55 h => ?_
    refine zP_putI (pc := 56) (a := s) C p6_9 dX6_addTerminal_56 (s_X6 hs) rfl hv55 h fun d h => ?_
    exact zP_vret (pc := 59) C E dX6_addTerminal_59 h
def f_X6_copyFrom (s : Nat) (s1 : Nat) (d : zD) : Option (Int × zD) :=
  zl (d s1 0) fun v2 =>
  zl (zu d s 0 v2) fun d =>
  zcg 8 8 0 0 8 <| zl (zcp d (d (s1 + 1)) (0 : Int).toNat (s + 1) (0 : Int).toNat (8 : Int).toNat) fun d =>
  zcg 8 8 0 0 8 <| zl (zcp d (d (s1 + 2)) (0 : Int).toNat (s + 2) (0 : Int).toNat (8 : Int).toNat) fun d =>
  zcg 8 8 0 0 8 <| zl (zcp d (d (s1 + 3)) (0 : Int).toNat (s + 3) (0 : Int).toNat (8 : Int).toNat) fun d =>
  zcg 8 8 0 0 8 <| zl (zcp d (d (s1 + 4)) (0 : Int).toNat (s + 4) (0 : Int).toNat (8 : Int).toNat) fun d =>
  some (0, d)
theorem t_X6_copyFrom {V : zW} {s : Nat} {s1 : Nat} (hs : zo6 V s) (hs1 : zo6 V s1)   {d dz : zD} {rv : Int} (h : f_X6_copyFrom s s1  d = some (rv, dz)) : zMet V 2 yX6_copyFrom cX6_copyFrom 2 none [.ref (zad V s), .ref (zad V s1)] d none (rv = 0) dz := by
  refine zMet_by RX6 pn6 rfl (Nat.le_of_ble_eq_true rfl) [some (.ref (zad V s)), some (.ref (zad V s1))] rfl fun X C E => ?_
  refine zP_aload_n (pc := 0) C (x := zad V s) dX6_copyFrom_0 rfl rfl ?_
  refine zP_aload_n (pc := 1) C (x := zad V s1) dX6_copyFrom_1 rfl rfl ?_
  refine zP_getI (pc := 2) (a := s1) C g6_9 dX6_copyFrom_2 (s_X6 hs1) rfl h fun v2 hv2 h => ?_
  refine zP_putI (pc := 5) (a := s) C p6_9 dX6_copyFrom_5 (s_X6 hs) rfl hv2 h fun d h => ?_
  refine zP_aload_n (pc := 8) C (x := zad V s1) dX6_copyFrom_8 rfl rfl ?_
  refine zP_getR (pc := 9) (a := s1) (t := s1 + 1) C g6_15 dX6_copyFrom_9 (s_X6 hs1) rfl ?_
  refine zP_iconst (pc := 12) C dX6_copyFrom_12 ?_
  refine zP_aload_n (pc := 13) C (x := zad V s) dX6_copyFrom_13 rfl rfl ?_
  refine zP_getR (pc := 14) (a := s) (t := s + 1) C g6_15 dX6_copyFrom_14 (s_X6 hs) rfl ?_
  refine zP_iconst (pc := 17) C dX6_copyFrom_17 ?_
  refine zP_bipush (pc := 18) C dX6_copyFrom_18 rfl ?_
  refine zP_copy (pc := 20) (a0 := s1 + 1) (a := s + 1) C ac6_32 dX6_copyFrom_20 (s_X6_names hs1) (s_X6_names hs) (zRk rfl) (zRk rfl) (zRk rfl) ⟨Nat.le_of_ble_eq_true rfl, Nat.le_of_ble_eq_true rfl⟩ h fun d h => ?_
  refine zP_aload_n (pc := 23) C (x := zad V s1) dX6_copyFrom_23 rfl rfl ?_
  refine zP_getR (pc := 24) (a := s1) (t := s1 + 2) C g6_19 dX6_copyFrom_24 (s_X6 hs1) rfl ?_
  refine zP_iconst (pc := 27) C dX6_copyFrom_27 ?_
  refine zP_aload_n (pc := 28) C (x := zad V s) dX6_copyFrom_28 rfl rfl ?_
  refine zP_getR (pc := 29) (a := s) (t := s + 2) C g6_19 dX6_copyFrom_29 (s_X6 hs) rfl ?_
  refine zP_iconst (pc := 32) C dX6_copyFrom_32 ?_
  refine zP_bipush (pc := 33) C dX6_copyFrom_33 rfl ?_
  refine zP_copy (pc := 35) (a0 := s1 + 2) (a := s + 2) C ac6_32 dX6_copyFrom_35 (s_X6_delays hs1) (s_X6_delays hs) (zRk rfl) (zRk rfl) (zRk rfl) ⟨Nat.le_of_ble_eq_true rfl, Nat.le_of_ble_eq_true rfl⟩ h fun d h => ?_
  refine zP_aload_n (pc := 38) C (x := zad V s1) dX6_copyFrom_38 rfl rfl ?_
  refine zP_getR (pc := 39) (a := s1) (t := s1 + 3) C g6_22 dX6_copyFrom_39 (s_X6 hs1) rfl ?_
  refine zP_iconst (pc := 42) C dX6_copyFrom_42 ?_
  refine zP_aload_n (pc := 43) C (x := zad V s) dX6_copyFrom_43 rfl rfl ?_
  refine zP_getR (pc := 44) (a := s) (t := s + 3) C g6_22 dX6_copyFrom_44 (s_X6 hs) rfl ?_
  refine zP_iconst (pc := 47) C dX6_copyFrom_47 ?_
  refine zP_bipush (pc := 48) C dX6_copyFrom_48 rfl ?_
  refine zP_copy (pc := 50) (a0 := s1 + 3) (a := s + 3) C ac6_32 dX6_copyFrom_50 (s_X6_rooms hs1) (s_X6_rooms hs) (zRk rfl) (zRk rfl) (zRk rfl) ⟨Nat.le_of_ble_eq_true rfl, Nat.le_of_ble_eq_true rfl⟩ h fun d h => ?_
  refine zP_aload_n (pc := 53) C (x := zad V s1) dX6_copyFrom_53 rfl rfl ?_
  refine zP_getR (pc := 54) (a := s1) (t := s1 + 4) C g6_25 dX6_copyFrom_54 (s_X6 hs1) rfl ?_
  refine zP_iconst (pc := 57) C dX6_copyFrom_57 ?_
  refine zP_aload_n (pc := 58) C (x := zad V s) dX6_copyFrom_58 rfl rfl ?_
  refine zP_getR (pc := 59) (a := s) (t := s + 4) C g6_25 dX6_copyFrom_59 (s_X6 hs) rfl ?_
  refine zP_iconst (pc := 62) C dX6_copyFrom_62 ?_
  refine zP_bipush (pc := 63) C dX6_copyFrom_63 rfl ?_
  refine zP_copy (pc := 65) (a0 := s1 + 4) (a := s + 4) C ac6_32 dX6_copyFrom_65 (s_X6_prints hs1) (s_X6_prints hs) (zRk rfl) (zRk rfl) (zRk rfl) ⟨Nat.le_of_ble_eq_true rfl, Nat.le_of_ble_eq_true rfl⟩ h fun d h => ?_
  exact zP_vret (pc := 68) C E dX6_copyFrom_68 h
def l_X4_clear_2F (b : Nat) (r2 : Int → zD → Option (Int × zD)) (x1 : Int) (d : zD) : Option (Int × zD) :=
  if (24 : Int) ≤ x1 then (
    some (0, d))
  else (
    zg 24 x1 <| zl (zu d (b + 13) (x1 : Int).toNat 0) fun d =>
    zl (zw (x1 + 1)) fun v15 =>
    r2 v15 d)
theorem wl_X4_clear_2F {V : zW} {X : zX} {b : Nat} (hb : zo2 V b) (C : zOk V X cX4_clear RX4 2 (zrm 0) none) {rv : Int} {dz : zD} (E : zEnd V X none (rv = 0) dz) {r2 : Int → zD → Option (Int × zD)} (hr2 : ∀ {x1 : Int} {d : zD}, zR x1 → r2 x1 d = some (rv, dz) → zP V X 2 0 0 2 [some (.ref (zad V (b + 10))), some (.int (zI x1))] [] d) {x1 : Int} (hx1 : zR x1) {d : zD} (h : l_X4_clear_2F b r2 x1 d = some (rv, dz)) : zP V X 2 0 0 2 [some (.ref (zad V (b + 10))), some (.int (zI x1))] [] d := by
  refine zP_iload_n (pc := 2) C (x := zI x1) dX4_clear_2 rfl rfl ?_
  refine zP_bipush (pc := 3) C dX4_clear_3 rfl ?_
  refine zP_icmp_ge (pc := 5) (tgt := 21) C dX4_clear_5 rfl hx1 (zRk rfl) h (fun _ h => ?_) (fun _ h => ?_)
  · exact zP_vret (pc := 21) C E dX4_clear_21 h
  · refine zP_aload_n (pc := 8) C (x := zad V (b + 10)) dX4_clear_8 rfl rfl ?_
    refine zP_getR (pc := 9) (a := b + 10) (t := b + 13) C g4_18 dX4_clear_9 (s_X4 hb) rfl ?_
    refine zP_iload_n (pc := 12) C (x := zI x1) dX4_clear_12 rfl rfl ?_
    refine zP_iconst (pc := 13) C dX4_clear_13 ?_
    refine zP_iast (pc := 14) (a := b + 13) C dX4_clear_14 (s_X4_sizes hb) hx1 (zRk rfl) h fun d h => ?_
    refine zP_iinc (pc := 15) C (x := x1) dX4_clear_15 rfl (Nat.le_of_ble_eq_true rfl) rfl h fun v15 hv15 h => ?_
    show zP V X 2 0 0 18 [some (.ref (zad V (b + 10))), some (.int (zI v15))] _ _
    refine zP_goto (pc := 18) (tgt := 2) C dX4_clear_18 rfl ?_
    exact zP_mask [true, true] (hr2 hv15 h)
def l_X4_clear_2 (b : Nat)  : Nat → Int → zD → Option (Int × zD)
  | 0, _, _ => none
  | q + 1, x1, d => l_X4_clear_2F b  (l_X4_clear_2 b  q) x1 d
theorem wl_X4_clear_2 {V : zW} {X : zX} {b : Nat} (hb : zo2 V b) (C : zOk V X cX4_clear RX4 2 (zrm 0) none) {rv : Int} {dz : zD} (E : zEnd V X none (rv = 0) dz)  : ∀ (q : Nat) {x1 : Int} (hx1 : zR x1) {d : zD} (h : l_X4_clear_2 b  q x1 d = some (rv, dz)), zP V X 2 0 0 2 [some (.ref (zad V (b + 10))), some (.int (zI x1))] [] d := by
  intro q
  induction q with
  | zero => intro x1 hx1 d h; cases (show (none : Option (Int × zD)) = some (rv, dz) from h)
  | succ q ih =>
    intro x1 hx1 d h
    exact wl_X4_clear_2F hb C E  (fun  hx1 h => ih hx1 h) hx1 h
def f_X4_clear (b : Nat) (d : zD) : Option (Int × zD) :=
  l_X4_clear_2 b  zF 0 d
theorem t_X4_clear {V : zW} {b : Nat} (hb : zo2 V b)   {d dz : zD} {rv : Int} (h : f_X4_clear b  d = some (rv, dz)) : zMet V 0 yX4_clear cX4_clear 2 none [.ref (zad V (b + 10))] d none (rv = 0) dz := by
  refine zMet_by RX4 pn4 rfl (Nat.le_of_ble_eq_true rfl) [some (.ref (zad V (b + 10))), none] rfl fun X C E => ?_
  refine zP_iconst (pc := 0) C dX4_clear_0 ?_
  refine zP_istore_n (pc := 1) C (L' := [some (.ref (zad V (b + 10))), some (.int (zI 0))]) dX4_clear_1 rfl (Nat.le_of_ble_eq_true rfl) rfl rfl ?_
  exact zP_mask [true, true] (wl_X4_clear_2 hb C E  zF (zRk rfl) h)
def l_X8_clear_72F (b : Nat) (r72 : Int → zD → Option (Int × zD)) (x1 : Int) (d : zD) : Option (Int × zD) :=
  if (32 : Int) ≤ x1 then (
    some (0, d))
  else (
    zg 32 x1 <| zl (zu d (b + 24) (x1 : Int).toNat 0) fun d =>
    zl (zw (x1 + 1)) fun v85 =>
    r72 v85 d)
theorem wl_X8_clear_72F {V : zW} {X : zX} {b : Nat} (hb : zo2 V b) (C : zOk V X cX8_clear RX8 2 (zrm 0) none) {rv : Int} {dz : zD} (E : zEnd V X none (rv = 0) dz) {r72 : Int → zD → Option (Int × zD)} (hr72 : ∀ {x1 : Int} {d : zD}, zR x1 → r72 x1 d = some (rv, dz) → zP V X 2 0 0 72 [some (.ref (zad V (b + 15))), some (.int (zI x1))] [] d) {x1 : Int} (hx1 : zR x1) {d : zD} (h : l_X8_clear_72F b r72 x1 d = some (rv, dz)) : zP V X 2 0 0 72 [some (.ref (zad V (b + 15))), some (.int (zI x1))] [] d := by
  refine zP_iload_n (pc := 72) C (x := zI x1) dX8_clear_72 rfl rfl ?_
  refine zP_bipush (pc := 73) C dX8_clear_73 rfl ?_
  refine zP_icmp_ge (pc := 75) (tgt := 91) C dX8_clear_75 rfl hx1 (zRk rfl) h (fun _ h => ?_) (fun _ h => ?_)
  · exact zP_vret (pc := 91) C E dX8_clear_91 h
  · refine zP_aload_n (pc := 78) C (x := zad V (b + 15)) dX8_clear_78 rfl rfl ?_
    refine zP_getR (pc := 79) (a := b + 15) (t := b + 24) C g8_36 dX8_clear_79 (s_X8 hb) rfl ?_
    refine zP_iload_n (pc := 82) C (x := zI x1) dX8_clear_82 rfl rfl ?_
    refine zP_iconst (pc := 83) C dX8_clear_83 ?_
    refine zP_iast (pc := 84) (a := b + 24) C dX8_clear_84 (s_X8_often hb) hx1 (zRk rfl) h fun d h => ?_
    refine zP_iinc (pc := 85) C (x := x1) dX8_clear_85 rfl (Nat.le_of_ble_eq_true rfl) rfl h fun v85 hv85 h => ?_
    show zP V X 2 0 0 88 [some (.ref (zad V (b + 15))), some (.int (zI v85))] _ _
    refine zP_goto (pc := 88) (tgt := 72) C dX8_clear_88 rfl ?_
    exact zP_mask [true, true] (hr72 hv85 h)
def l_X8_clear_72 (b : Nat)  : Nat → Int → zD → Option (Int × zD)
  | 0, _, _ => none
  | q + 1, x1, d => l_X8_clear_72F b  (l_X8_clear_72 b  q) x1 d
theorem wl_X8_clear_72 {V : zW} {X : zX} {b : Nat} (hb : zo2 V b) (C : zOk V X cX8_clear RX8 2 (zrm 0) none) {rv : Int} {dz : zD} (E : zEnd V X none (rv = 0) dz)  : ∀ (q : Nat) {x1 : Int} (hx1 : zR x1) {d : zD} (h : l_X8_clear_72 b  q x1 d = some (rv, dz)), zP V X 2 0 0 72 [some (.ref (zad V (b + 15))), some (.int (zI x1))] [] d := by
  intro q
  induction q with
  | zero => intro x1 hx1 d h; cases (show (none : Option (Int × zD)) = some (rv, dz) from h)
  | succ q ih =>
    intro x1 hx1 d h
    exact wl_X8_clear_72F hb C E  (fun  hx1 h => ih hx1 h) hx1 h
def l_X8_clear_2F (b : Nat) (r2 : Int → zD → Option (Int × zD)) (x1 : Int) (d : zD) : Option (Int × zD) :=
  if (8 : Int) ≤ x1 then (
    l_X8_clear_72 b  zF 0 d)
  else (
    zg 8 x1 <| zl (zu d (b + 16) (x1 : Int).toNat 1) fun d =>
    zg 8 x1 <| zl (zu d (b + 17) (x1 : Int).toNat 1) fun d =>
    zg 8 x1 <| zl (zu d (b + 18) (x1 : Int).toNat 0) fun d =>
    zg 8 x1 <| zl (zu d (b + 19) (x1 : Int).toNat 0) fun d =>
    zg 8 x1 <| zl (zu d (b + 20) (x1 : Int).toNat 0) fun d =>
    zg 8 x1 <| zl (zu d (b + 21) (x1 : Int).toNat 0) fun d =>
    zg 8 x1 <| zl (zu d (b + 22) (x1 : Int).toNat 0) fun d =>
    zg 8 x1 <| zl (zu d (b + 23) (x1 : Int).toNat 0) fun d =>
    zl (zw (x1 + 1)) fun v64 =>
    r2 v64 d)
theorem wl_X8_clear_2F {V : zW} {X : zX} {b : Nat} (hb : zo2 V b) (C : zOk V X cX8_clear RX8 2 (zrm 0) none) {rv : Int} {dz : zD} (E : zEnd V X none (rv = 0) dz) {r2 : Int → zD → Option (Int × zD)} (hr2 : ∀ {x1 : Int} {d : zD}, zR x1 → r2 x1 d = some (rv, dz) → zP V X 2 0 0 2 [some (.ref (zad V (b + 15))), some (.int (zI x1))] [] d) {x1 : Int} (hx1 : zR x1) {d : zD} (h : l_X8_clear_2F b r2 x1 d = some (rv, dz)) : zP V X 2 0 0 2 [some (.ref (zad V (b + 15))), some (.int (zI x1))] [] d := by
  refine zP_iload_n (pc := 2) C (x := zI x1) dX8_clear_2 rfl rfl ?_
  refine zP_bipush (pc := 3) C dX8_clear_3 rfl ?_
  refine zP_icmp_ge (pc := 5) (tgt := 70) C dX8_clear_5 rfl hx1 (zRk rfl) h (fun _ h => ?_) (fun _ h => ?_)
  · refine zP_iconst (pc := 70) C dX8_clear_70 ?_
    refine zP_istore_n (pc := 71) C (L' := [some (.ref (zad V (b + 15))), some (.int (zI 0))]) dX8_clear_71 rfl (Nat.le_of_ble_eq_true rfl) rfl rfl ?_
    exact zP_mask [true, true] (wl_X8_clear_72 hb C E  zF (zRk rfl) h)
  · refine zP_aload_n (pc := 8) C (x := zad V (b + 15)) dX8_clear_8 rfl rfl ?_
    refine zP_getR (pc := 9) (a := b + 15) (t := b + 16) C g8_9 dX8_clear_9 (s_X8 hb) rfl ?_
    refine zP_iload_n (pc := 12) C (x := zI x1) dX8_clear_12 rfl rfl ?_
    refine zP_iconst (pc := 13) C dX8_clear_13 ?_
    refine zP_iast (pc := 14) (a := b + 16) C dX8_clear_14 (s_X8_alive hb) hx1 (zRk rfl) h fun d h => ?_
    refine zP_aload_n (pc := 15) C (x := zad V (b + 15)) dX8_clear_15 rfl rfl ?_
    refine zP_getR (pc := 16) (a := b + 15) (t := b + 17) C g8_15 dX8_clear_16 (s_X8 hb) rfl ?_
    refine zP_iload_n (pc := 19) C (x := zI x1) dX8_clear_19 rfl rfl ?_
    refine zP_iconst (pc := 20) C dX8_clear_20 ?_
    refine zP_iast (pc := 21) (a := b + 17) C dX8_clear_21 (s_X8_on hb) hx1 (zRk rfl) h fun d h => ?_
    refine zP_aload_n (pc := 22) C (x := zad V (b + 15)) dX8_clear_22 rfl rfl ?_
    refine zP_getR (pc := 23) (a := b + 15) (t := b + 18) C g8_18 dX8_clear_23 (s_X8 hb) rfl ?_
    refine zP_iload_n (pc := 26) C (x := zI x1) dX8_clear_26 rfl rfl ?_
    refine zP_iconst (pc := 27) C dX8_clear_27 ?_
    refine zP_iast (pc := 28) (a := b + 18) C dX8_clear_28 (s_X8_misses hb) hx1 (zRk rfl) h fun d h => ?_
    refine zP_aload_n (pc := 29) C (x := zad V (b + 15)) dX8_clear_29 rfl rfl ?_
    refine zP_getR (pc := 30) (a := b + 15) (t := b + 19) C g8_21 dX8_clear_30 (s_X8 hb) rfl ?_
    refine zP_iload_n (pc := 33) C (x := zI x1) dX8_clear_33 rfl rfl ?_
    refine zP_iconst (pc := 34) C dX8_clear_34 ?_
    refine zP_iast (pc := 35) (a := b + 19) C dX8_clear_35 (s_X8_ownBits hb) hx1 (zRk rfl) h fun d h => ?_
    refine zP_aload_n (pc := 36) C (x := zad V (b + 15)) dX8_clear_36 rfl rfl ?_
    refine zP_getR (pc := 37) (a := b + 15) (t := b + 20) C g8_24 dX8_clear_37 (s_X8 hb) rfl ?_
    refine zP_iload_n (pc := 40) C (x := zI x1) dX8_clear_40 rfl rfl ?_
    refine zP_iconst (pc := 41) C dX8_clear_41 ?_
    refine zP_iast (pc := 42) (a := b + 20) C dX8_clear_42 (s_X8_expectedBits hb) hx1 (zRk rfl) h fun d h => ?_
    refine zP_aload_n (pc := 43) C (x := zad V (b + 15)) dX8_clear_43 rfl rfl ?_
    refine zP_getR (pc := 44) (a := b + 15) (t := b + 21) C g8_27 dX8_clear_44 (s_X8 hb) rfl ?_
    refine zP_iload_n (pc := 47) C (x := zI x1) dX8_clear_47 rfl rfl ?_
    refine zP_iconst (pc := 48) C dX8_clear_48 ?_
    refine zP_iast (pc := 49) (a := b + 21) C dX8_clear_49 (s_X8_hostBits hb) hx1 (zRk rfl) h fun d h => ?_
    refine zP_aload_n (pc := 50) C (x := zad V (b + 15)) dX8_clear_50 rfl rfl ?_
    refine zP_getR (pc := 51) (a := b + 15) (t := b + 22) C g8_30 dX8_clear_51 (s_X8 hb) rfl ?_
    refine zP_iload_n (pc := 54) C (x := zI x1) dX8_clear_54 rfl rfl ?_
    refine zP_iconst (pc := 55) C dX8_clear_55 ?_
    refine zP_iast (pc := 56) (a := b + 22) C dX8_clear_56 (s_X8_hostExpectedBits hb) hx1 (zRk rfl) h fun d h => ?_
    refine zP_aload_n (pc := 57) C (x := zad V (b + 15)) dX8_clear_57 rfl rfl ?_
    refine zP_getR (pc := 58) (a := b + 15) (t := b + 23) C g8_33 dX8_clear_58 (s_X8 hb) rfl ?_
    refine zP_iload_n (pc := 61) C (x := zI x1) dX8_clear_61 rfl rfl ?_
    refine zP_iconst (pc := 62) C dX8_clear_62 ?_
    refine zP_iast (pc := 63) (a := b + 23) C dX8_clear_63 (s_X8_firstSince hb) hx1 (zRk rfl) h fun d h => ?_
    refine zP_iinc (pc := 64) C (x := x1) dX8_clear_64 rfl (Nat.le_of_ble_eq_true rfl) rfl h fun v64 hv64 h => ?_
    show zP V X 2 0 0 67 [some (.ref (zad V (b + 15))), some (.int (zI v64))] _ _
    refine zP_goto (pc := 67) (tgt := 2) C dX8_clear_67 rfl ?_
    exact zP_mask [true, true] (hr2 hv64 h)
def l_X8_clear_2 (b : Nat)  : Nat → Int → zD → Option (Int × zD)
  | 0, _, _ => none
  | q + 1, x1, d => l_X8_clear_2F b  (l_X8_clear_2 b  q) x1 d
theorem wl_X8_clear_2 {V : zW} {X : zX} {b : Nat} (hb : zo2 V b) (C : zOk V X cX8_clear RX8 2 (zrm 0) none) {rv : Int} {dz : zD} (E : zEnd V X none (rv = 0) dz)  : ∀ (q : Nat) {x1 : Int} (hx1 : zR x1) {d : zD} (h : l_X8_clear_2 b  q x1 d = some (rv, dz)), zP V X 2 0 0 2 [some (.ref (zad V (b + 15))), some (.int (zI x1))] [] d := by
  intro q
  induction q with
  | zero => intro x1 hx1 d h; cases (show (none : Option (Int × zD)) = some (rv, dz) from h)
  | succ q ih =>
    intro x1 hx1 d h
    exact wl_X8_clear_2F hb C E  (fun  hx1 h => ih hx1 h) hx1 h
def f_X8_clear (b : Nat) (d : zD) : Option (Int × zD) :=
  l_X8_clear_2 b  zF 0 d
theorem t_X8_clear {V : zW} {b : Nat} (hb : zo2 V b)   {d dz : zD} {rv : Int} (h : f_X8_clear b  d = some (rv, dz)) : zMet V 0 yX8_clear cX8_clear 2 none [.ref (zad V (b + 15))] d none (rv = 0) dz := by
  refine zMet_by RX8 pn8 rfl (Nat.le_of_ble_eq_true rfl) [some (.ref (zad V (b + 15))), none] rfl fun X C E => ?_
  refine zP_iconst (pc := 0) C dX8_clear_0 ?_
  refine zP_istore_n (pc := 1) C (L' := [some (.ref (zad V (b + 15))), some (.int (zI 0))]) dX8_clear_1 rfl (Nat.le_of_ble_eq_true rfl) rfl rfl ?_
  exact zP_mask [true, true] (wl_X8_clear_2 hb C E  zF (zRk rfl) h)
def f_X10_clear (b : Nat) (d : zD) : Option (Int × zD) :=
  zl (zu d (b + 25) 0 0) fun d =>
  zl (zu d (b + 25) 1 0) fun d =>
  some (0, d)
theorem t_X10_clear {V : zW} {b : Nat} (hb : zo2 V b)   {d dz : zD} {rv : Int} (h : f_X10_clear b  d = some (rv, dz)) : zMet V 0 yX10_clear cX10_clear 1 none [.ref (zad V (b + 25))] d none (rv = 0) dz := by
  refine zMet_by RX10 pn10 rfl (Nat.le_of_ble_eq_true rfl) [some (.ref (zad V (b + 25)))] rfl fun X C E => ?_
  refine zP_aload_n (pc := 0) C (x := zad V (b + 25)) dX10_clear_0 rfl rfl ?_
  refine zP_iconst (pc := 1) C dX10_clear_1 ?_
  refine zP_putI (pc := 2) (a := b + 25) C p10_9 dX10_clear_2 (s_X10 hb) rfl (zRk rfl) h fun d h => ?_
  refine zP_aload_n (pc := 5) C (x := zad V (b + 25)) dX10_clear_5 rfl rfl ?_
  refine zP_iconst (pc := 6) C dX10_clear_6 ?_
  refine zP_putI (pc := 7) (a := b + 25) C p10_15 dX10_clear_7 (s_X10 hb) rfl (zRk rfl) h fun d h => ?_
  exact zP_vret (pc := 10) C E dX10_clear_10 h
def f_X3_copyFrom (b : Nat) (b1 : Nat) (d : zD) : Option (Int × zD) :=
  zl (d (b1 + 1) 0) fun v2 =>
  zl (zu d (b + 1) 0 v2) fun d =>
  zl (d (b + 1) 0) fun v19 =>
  zcg 40 40 0 0 v19 <| zl (zcp d (d (b1 + 2)) (0 : Int).toNat (b + 2) (0 : Int).toNat (v19 : Int).toNat) fun d =>
  zl (d (b + 1) 0) fun v36 =>
  zcg 40 40 0 0 v36 <| zl (zcp d (d (b1 + 3)) (0 : Int).toNat (b + 3) (0 : Int).toNat (v36 : Int).toNat) fun d =>
  zl (d (b + 1) 0) fun v53 =>
  zcg 40 40 0 0 v53 <| zl (zcp d (d (b1 + 4)) (0 : Int).toNat (b + 4) (0 : Int).toNat (v53 : Int).toNat) fun d =>
  zl (d (b + 1) 0) fun v70 =>
  zcg 40 40 0 0 v70 <| zl (zcp d (d (b1 + 5)) (0 : Int).toNat (b + 5) (0 : Int).toNat (v70 : Int).toNat) fun d =>
  zl (d (b + 1) 0) fun v87 =>
  zcg 40 40 0 0 v87 <| zl (zcp d (d (b1 + 6)) (0 : Int).toNat (b + 6) (0 : Int).toNat (v87 : Int).toNat) fun d =>
  zl (d (b + 1) 0) fun v104 =>
  zcg 40 40 0 0 v104 <| zl (zcp d (d (b1 + 7)) (0 : Int).toNat (b + 7) (0 : Int).toNat (v104 : Int).toNat) fun d =>
  zl (d (b + 1) 0) fun v121 =>
  zcg 40 40 0 0 v121 <| zl (zcp d (d (b1 + 8)) (0 : Int).toNat (b + 8) (0 : Int).toNat (v121 : Int).toNat) fun d =>
  zl (d (b + 1) 0) fun v138 =>
  zcg 40 40 0 0 v138 <| zl (zcp d (d (b1 + 9)) (0 : Int).toNat (b + 9) (0 : Int).toNat (v138 : Int).toNat) fun d =>
  some (0, d)
theorem t_X3_copyFrom {V : zW} {b : Nat} {b1 : Nat} (hb : zo2 V b) (hb1 : zo2 V b1)   {d dz : zD} {rv : Int} (h : f_X3_copyFrom b b1  d = some (rv, dz)) : zMet V 2 yX3_copyFrom cX3_copyFrom 2 none [.ref (zad V (b + 1)), .ref (zad V (b1 + 1))] d none (rv = 0) dz := by
  refine zMet_by RX3 pn3 rfl (Nat.le_of_ble_eq_true rfl) [some (.ref (zad V (b + 1))), some (.ref (zad V (b1 + 1)))] rfl fun X C E => ?_
  refine zP_aload_n (pc := 0) C (x := zad V (b + 1)) dX3_copyFrom_0 rfl rfl ?_
  refine zP_aload_n (pc := 1) C (x := zad V (b1 + 1)) dX3_copyFrom_1 rfl rfl ?_
  refine zP_getI (pc := 2) (a := b1 + 1) C g3_9 dX3_copyFrom_2 (s_X3 hb1) rfl h fun v2 hv2 h => ?_
  refine zP_putI (pc := 5) (a := b + 1) C p3_9 dX3_copyFrom_5 (s_X3 hb) rfl hv2 h fun d h => ?_
  refine zP_aload_n (pc := 8) C (x := zad V (b1 + 1)) dX3_copyFrom_8 rfl rfl ?_
  refine zP_getR (pc := 9) (a := b1 + 1) (t := b1 + 2) C g3_15 dX3_copyFrom_9 (s_X3 hb1) rfl ?_
  refine zP_iconst (pc := 12) C dX3_copyFrom_12 ?_
  refine zP_aload_n (pc := 13) C (x := zad V (b + 1)) dX3_copyFrom_13 rfl rfl ?_
  refine zP_getR (pc := 14) (a := b + 1) (t := b + 2) C g3_15 dX3_copyFrom_14 (s_X3 hb) rfl ?_
  refine zP_iconst (pc := 17) C dX3_copyFrom_17 ?_
  refine zP_aload_n (pc := 18) C (x := zad V (b + 1)) dX3_copyFrom_18 rfl rfl ?_
  refine zP_getI (pc := 19) (a := b + 1) C g3_9 dX3_copyFrom_19 (s_X3 hb) rfl h fun v19 hv19 h => ?_
  refine zP_copy (pc := 22) (a0 := b1 + 2) (a := b + 2) C ac3_40 dX3_copyFrom_22 (s_X3_senders hb1) (s_X3_senders hb) (zRk rfl) (zRk rfl) hv19 ⟨Nat.le_of_ble_eq_true rfl, Nat.le_of_ble_eq_true rfl⟩ h fun d h => ?_
  refine zP_aload_n (pc := 25) C (x := zad V (b1 + 1)) dX3_copyFrom_25 rfl rfl ?_
  refine zP_getR (pc := 26) (a := b1 + 1) (t := b1 + 3) C g3_19 dX3_copyFrom_26 (s_X3 hb1) rfl ?_
  refine zP_iconst (pc := 29) C dX3_copyFrom_29 ?_
  refine zP_aload_n (pc := 30) C (x := zad V (b + 1)) dX3_copyFrom_30 rfl rfl ?_
  refine zP_getR (pc := 31) (a := b + 1) (t := b + 3) C g3_19 dX3_copyFrom_31 (s_X3 hb) rfl ?_
  refine zP_iconst (pc := 34) C dX3_copyFrom_34 ?_
  refine zP_aload_n (pc := 35) C (x := zad V (b + 1)) dX3_copyFrom_35 rfl rfl ?_
  refine zP_getI (pc := 36) (a := b + 1) C g3_9 dX3_copyFrom_36 (s_X3 hb) rfl h fun v36 hv36 h => ?_
  refine zP_copy (pc := 39) (a0 := b1 + 3) (a := b + 3) C ac3_40 dX3_copyFrom_39 (s_X3_receivers hb1) (s_X3_receivers hb) (zRk rfl) (zRk rfl) hv36 ⟨Nat.le_of_ble_eq_true rfl, Nat.le_of_ble_eq_true rfl⟩ h fun d h => ?_
  refine zP_aload_n (pc := 42) C (x := zad V (b1 + 1)) dX3_copyFrom_42 rfl rfl ?_
  refine zP_getR (pc := 43) (a := b1 + 1) (t := b1 + 4) C g3_22 dX3_copyFrom_43 (s_X3 hb1) rfl ?_
  refine zP_iconst (pc := 46) C dX3_copyFrom_46 ?_
  refine zP_aload_n (pc := 47) C (x := zad V (b + 1)) dX3_copyFrom_47 rfl rfl ?_
  refine zP_getR (pc := 48) (a := b + 1) (t := b + 4) C g3_22 dX3_copyFrom_48 (s_X3 hb) rfl ?_
  refine zP_iconst (pc := 51) C dX3_copyFrom_51 ?_
  refine zP_aload_n (pc := 52) C (x := zad V (b + 1)) dX3_copyFrom_52 rfl rfl ?_
  refine zP_getI (pc := 53) (a := b + 1) C g3_9 dX3_copyFrom_53 (s_X3 hb) rfl h fun v53 hv53 h => ?_
  refine zP_copy (pc := 56) (a0 := b1 + 4) (a := b + 4) C ac3_40 dX3_copyFrom_56 (s_X3_lengths hb1) (s_X3_lengths hb) (zRk rfl) (zRk rfl) hv53 ⟨Nat.le_of_ble_eq_true rfl, Nat.le_of_ble_eq_true rfl⟩ h fun d h => ?_
  refine zP_aload_n (pc := 59) C (x := zad V (b1 + 1)) dX3_copyFrom_59 rfl rfl ?_
  refine zP_getR (pc := 60) (a := b1 + 1) (t := b1 + 5) C g3_25 dX3_copyFrom_60 (s_X3 hb1) rfl ?_
  refine zP_iconst (pc := 63) C dX3_copyFrom_63 ?_
  refine zP_aload_n (pc := 64) C (x := zad V (b + 1)) dX3_copyFrom_64 rfl rfl ?_
  refine zP_getR (pc := 65) (a := b + 1) (t := b + 5) C g3_25 dX3_copyFrom_65 (s_X3 hb) rfl ?_
  refine zP_iconst (pc := 68) C dX3_copyFrom_68 ?_
  refine zP_aload_n (pc := 69) C (x := zad V (b + 1)) dX3_copyFrom_69 rfl rfl ?_
  refine zP_getI (pc := 70) (a := b + 1) C g3_9 dX3_copyFrom_70 (s_X3 hb) rfl h fun v70 hv70 h => ?_
  refine zP_copy (pc := 73) (a0 := b1 + 5) (a := b + 5) C ac3_40 dX3_copyFrom_73 (s_X3_states hb1) (s_X3_states hb) (zRk rfl) (zRk rfl) hv70 ⟨Nat.le_of_ble_eq_true rfl, Nat.le_of_ble_eq_true rfl⟩ h fun d h => ?_
  refine zP_aload_n (pc := 76) C (x := zad V (b1 + 1)) dX3_copyFrom_76 rfl rfl ?_
  refine zP_getR (pc := 77) (a := b1 + 1) (t := b1 + 6) C g3_28 dX3_copyFrom_77 (s_X3 hb1) rfl ?_
  refine zP_iconst (pc := 80) C dX3_copyFrom_80 ?_
  refine zP_aload_n (pc := 81) C (x := zad V (b + 1)) dX3_copyFrom_81 rfl rfl ?_
  refine zP_getR (pc := 82) (a := b + 1) (t := b + 6) C g3_28 dX3_copyFrom_82 (s_X3 hb) rfl ?_
  refine zP_iconst (pc := 85) C dX3_copyFrom_85 ?_
  refine zP_aload_n (pc := 86) C (x := zad V (b + 1)) dX3_copyFrom_86 rfl rfl ?_
  refine zP_getI (pc := 87) (a := b + 1) C g3_9 dX3_copyFrom_87 (s_X3 hb) rfl h fun v87 hv87 h => ?_
  refine zP_copy (pc := 90) (a0 := b1 + 6) (a := b + 6) C ac3_40 dX3_copyFrom_90 (s_X3_postTimes hb1) (s_X3_postTimes hb) (zRk rfl) (zRk rfl) hv87 ⟨Nat.le_of_ble_eq_true rfl, Nat.le_of_ble_eq_true rfl⟩ h fun d h => ?_
  refine zP_aload_n (pc := 93) C (x := zad V (b1 + 1)) dX3_copyFrom_93 rfl rfl ?_
  refine zP_getR (pc := 94) (a := b1 + 1) (t := b1 + 7) C g3_31 dX3_copyFrom_94 (s_X3 hb1) rfl ?_
  refine zP_iconst (pc := 97) C dX3_copyFrom_97 ?_
  refine zP_aload_n (pc := 98) C (x := zad V (b + 1)) dX3_copyFrom_98 rfl rfl ?_
  refine zP_getR (pc := 99) (a := b + 1) (t := b + 7) C g3_31 dX3_copyFrom_99 (s_X3 hb) rfl ?_
  refine zP_iconst (pc := 102) C dX3_copyFrom_102 ?_
  refine zP_aload_n (pc := 103) C (x := zad V (b + 1)) dX3_copyFrom_103 rfl rfl ?_
  refine zP_getI (pc := 104) (a := b + 1) C g3_9 dX3_copyFrom_104 (s_X3 hb) rfl h fun v104 hv104 h => ?_
  refine zP_copy (pc := 107) (a0 := b1 + 7) (a := b + 7) C ac3_40 dX3_copyFrom_107 (s_X3_hostTimes hb1) (s_X3_hostTimes hb) (zRk rfl) (zRk rfl) hv104 ⟨Nat.le_of_ble_eq_true rfl, Nat.le_of_ble_eq_true rfl⟩ h fun d h => ?_
  refine zP_aload_n (pc := 110) C (x := zad V (b1 + 1)) dX3_copyFrom_110 rfl rfl ?_
  refine zP_getR (pc := 111) (a := b1 + 1) (t := b1 + 8) C g3_34 dX3_copyFrom_111 (s_X3 hb1) rfl ?_
  refine zP_iconst (pc := 114) C dX3_copyFrom_114 ?_
  refine zP_aload_n (pc := 115) C (x := zad V (b + 1)) dX3_copyFrom_115 rfl rfl ?_
  refine zP_getR (pc := 116) (a := b + 1) (t := b + 8) C g3_34 dX3_copyFrom_116 (s_X3 hb) rfl ?_
  refine zP_iconst (pc := 119) C dX3_copyFrom_119 ?_
  refine zP_aload_n (pc := 120) C (x := zad V (b + 1)) dX3_copyFrom_120 rfl rfl ?_
  refine zP_getI (pc := 121) (a := b + 1) C g3_9 dX3_copyFrom_121 (s_X3 hb) rfl h fun v121 hv121 h => ?_
  refine zP_copy (pc := 124) (a0 := b1 + 8) (a := b + 8) C ac3_40 dX3_copyFrom_124 (s_X3_bufferTimes hb1) (s_X3_bufferTimes hb) (zRk rfl) (zRk rfl) hv121 ⟨Nat.le_of_ble_eq_true rfl, Nat.le_of_ble_eq_true rfl⟩ h fun d h => ?_
  refine zP_aload_n (pc := 127) C (x := zad V (b1 + 1)) dX3_copyFrom_127 rfl rfl ?_
  refine zP_getR (pc := 128) (a := b1 + 1) (t := b1 + 9) C g3_37 dX3_copyFrom_128 (s_X3 hb1) rfl ?_
  refine zP_iconst (pc := 131) C dX3_copyFrom_131 ?_
  refine zP_aload_n (pc := 132) C (x := zad V (b + 1)) dX3_copyFrom_132 rfl rfl ?_
  refine zP_getR (pc := 133) (a := b + 1) (t := b + 9) C g3_37 dX3_copyFrom_133 (s_X3 hb) rfl ?_
  refine zP_iconst (pc := 136) C dX3_copyFrom_136 ?_
  refine zP_aload_n (pc := 137) C (x := zad V (b + 1)) dX3_copyFrom_137 rfl rfl ?_
  refine zP_getI (pc := 138) (a := b + 1) C g3_9 dX3_copyFrom_138 (s_X3 hb) rfl h fun v138 hv138 h => ?_
  refine zP_copy (pc := 141) (a0 := b1 + 9) (a := b + 9) C ac3_40 dX3_copyFrom_141 (s_X3_deliveryTimes hb1) (s_X3_deliveryTimes hb) (zRk rfl) (zRk rfl) hv138 ⟨Nat.le_of_ble_eq_true rfl, Nat.le_of_ble_eq_true rfl⟩ h fun d h => ?_
  exact zP_vret (pc := 144) C E dX3_copyFrom_144 h
def f_X4_copyFrom (b : Nat) (b1 : Nat) (d : zD) : Option (Int × zD) :=
  zcg 24 24 0 0 24 <| zl (zcp d (d (b1 + 11)) (0 : Int).toNat (b + 11) (0 : Int).toNat (24 : Int).toNat) fun d =>
  zcg 24 24 0 0 24 <| zl (zcp d (d (b1 + 12)) (0 : Int).toNat (b + 12) (0 : Int).toNat (24 : Int).toNat) fun d =>
  zcg 24 24 0 0 24 <| zl (zcp d (d (b1 + 13)) (0 : Int).toNat (b + 13) (0 : Int).toNat (24 : Int).toNat) fun d =>
  zcg 120 120 0 0 120 <| zl (zcp d (d (b1 + 14)) (0 : Int).toNat (b + 14) (0 : Int).toNat (120 : Int).toNat) fun d =>
  some (0, d)
theorem t_X4_copyFrom {V : zW} {b : Nat} {b1 : Nat} (hb : zo2 V b) (hb1 : zo2 V b1)   {d dz : zD} {rv : Int} (h : f_X4_copyFrom b b1  d = some (rv, dz)) : zMet V 2 yX4_copyFrom cX4_copyFrom 2 none [.ref (zad V (b + 10)), .ref (zad V (b1 + 10))] d none (rv = 0) dz := by
  refine zMet_by RX4 pn4 rfl (Nat.le_of_ble_eq_true rfl) [some (.ref (zad V (b + 10))), some (.ref (zad V (b1 + 10)))] rfl fun X C E => ?_
  refine zP_aload_n (pc := 0) C (x := zad V (b1 + 10)) dX4_copyFrom_0 rfl rfl ?_
  refine zP_getR (pc := 1) (a := b1 + 10) (t := b1 + 11) C g4_11 dX4_copyFrom_1 (s_X4 hb1) rfl ?_
  refine zP_iconst (pc := 4) C dX4_copyFrom_4 ?_
  refine zP_aload_n (pc := 5) C (x := zad V (b + 10)) dX4_copyFrom_5 rfl rfl ?_
  refine zP_getR (pc := 6) (a := b + 10) (t := b + 11) C g4_11 dX4_copyFrom_6 (s_X4 hb) rfl ?_
  refine zP_iconst (pc := 9) C dX4_copyFrom_9 ?_
  refine zP_bipush (pc := 10) C dX4_copyFrom_10 rfl ?_
  refine zP_copy (pc := 12) (a0 := b1 + 11) (a := b + 11) C ac4_34 dX4_copyFrom_12 (s_X4_firsts hb1) (s_X4_firsts hb) (zRk rfl) (zRk rfl) (zRk rfl) ⟨Nat.le_of_ble_eq_true rfl, Nat.le_of_ble_eq_true rfl⟩ h fun d h => ?_
  refine zP_aload_n (pc := 15) C (x := zad V (b1 + 10)) dX4_copyFrom_15 rfl rfl ?_
  refine zP_getR (pc := 16) (a := b1 + 10) (t := b1 + 12) C g4_15 dX4_copyFrom_16 (s_X4 hb1) rfl ?_
  refine zP_iconst (pc := 19) C dX4_copyFrom_19 ?_
  refine zP_aload_n (pc := 20) C (x := zad V (b + 10)) dX4_copyFrom_20 rfl rfl ?_
  refine zP_getR (pc := 21) (a := b + 10) (t := b + 12) C g4_15 dX4_copyFrom_21 (s_X4 hb) rfl ?_
  refine zP_iconst (pc := 24) C dX4_copyFrom_24 ?_
  refine zP_bipush (pc := 25) C dX4_copyFrom_25 rfl ?_
  refine zP_copy (pc := 27) (a0 := b1 + 12) (a := b + 12) C ac4_34 dX4_copyFrom_27 (s_X4_lasts hb1) (s_X4_lasts hb) (zRk rfl) (zRk rfl) (zRk rfl) ⟨Nat.le_of_ble_eq_true rfl, Nat.le_of_ble_eq_true rfl⟩ h fun d h => ?_
  refine zP_aload_n (pc := 30) C (x := zad V (b1 + 10)) dX4_copyFrom_30 rfl rfl ?_
  refine zP_getR (pc := 31) (a := b1 + 10) (t := b1 + 13) C g4_18 dX4_copyFrom_31 (s_X4 hb1) rfl ?_
  refine zP_iconst (pc := 34) C dX4_copyFrom_34 ?_
  refine zP_aload_n (pc := 35) C (x := zad V (b + 10)) dX4_copyFrom_35 rfl rfl ?_
  refine zP_getR (pc := 36) (a := b + 10) (t := b + 13) C g4_18 dX4_copyFrom_36 (s_X4 hb) rfl ?_
  refine zP_iconst (pc := 39) C dX4_copyFrom_39 ?_
  refine zP_bipush (pc := 40) C dX4_copyFrom_40 rfl ?_
  refine zP_copy (pc := 42) (a0 := b1 + 13) (a := b + 13) C ac4_34 dX4_copyFrom_42 (s_X4_sizes hb1) (s_X4_sizes hb) (zRk rfl) (zRk rfl) (zRk rfl) ⟨Nat.le_of_ble_eq_true rfl, Nat.le_of_ble_eq_true rfl⟩ h fun d h => ?_
  refine zP_aload_n (pc := 45) C (x := zad V (b1 + 10)) dX4_copyFrom_45 rfl rfl ?_
  refine zP_getR (pc := 46) (a := b1 + 10) (t := b1 + 14) C g4_21 dX4_copyFrom_46 (s_X4 hb1) rfl ?_
  refine zP_iconst (pc := 49) C dX4_copyFrom_49 ?_
  refine zP_aload_n (pc := 50) C (x := zad V (b + 10)) dX4_copyFrom_50 rfl rfl ?_
  refine zP_getR (pc := 51) (a := b + 10) (t := b + 14) C g4_21 dX4_copyFrom_51 (s_X4 hb) rfl ?_
  refine zP_iconst (pc := 54) C dX4_copyFrom_54 ?_
  refine zP_bipush (pc := 55) C dX4_copyFrom_55 rfl ?_
  refine zP_copy (pc := 57) (a0 := b1 + 14) (a := b + 14) C ac4_34 dX4_copyFrom_57 (s_X4_nexts hb1) (s_X4_nexts hb) (zRk rfl) (zRk rfl) (zRk rfl) ⟨Nat.le_of_ble_eq_true rfl, Nat.le_of_ble_eq_true rfl⟩ h fun d h => ?_
  exact zP_vret (pc := 60) C E dX4_copyFrom_60 h
def f_X8_copyFrom (b : Nat) (b1 : Nat) (d : zD) : Option (Int × zD) :=
  zcg 8 8 0 0 8 <| zl (zcp d (d (b1 + 16)) (0 : Int).toNat (b + 16) (0 : Int).toNat (8 : Int).toNat) fun d =>
  zcg 8 8 0 0 8 <| zl (zcp d (d (b1 + 17)) (0 : Int).toNat (b + 17) (0 : Int).toNat (8 : Int).toNat) fun d =>
  zcg 8 8 0 0 8 <| zl (zcp d (d (b1 + 18)) (0 : Int).toNat (b + 18) (0 : Int).toNat (8 : Int).toNat) fun d =>
  zcg 8 8 0 0 8 <| zl (zcp d (d (b1 + 19)) (0 : Int).toNat (b + 19) (0 : Int).toNat (8 : Int).toNat) fun d =>
  zcg 8 8 0 0 8 <| zl (zcp d (d (b1 + 20)) (0 : Int).toNat (b + 20) (0 : Int).toNat (8 : Int).toNat) fun d =>
  zcg 8 8 0 0 8 <| zl (zcp d (d (b1 + 21)) (0 : Int).toNat (b + 21) (0 : Int).toNat (8 : Int).toNat) fun d =>
  zcg 8 8 0 0 8 <| zl (zcp d (d (b1 + 22)) (0 : Int).toNat (b + 22) (0 : Int).toNat (8 : Int).toNat) fun d =>
  zcg 8 8 0 0 8 <| zl (zcp d (d (b1 + 23)) (0 : Int).toNat (b + 23) (0 : Int).toNat (8 : Int).toNat) fun d =>
  zcg 32 32 0 0 32 <| zl (zcp d (d (b1 + 24)) (0 : Int).toNat (b + 24) (0 : Int).toNat (32 : Int).toNat) fun d =>
  some (0, d)
theorem t_X8_copyFrom {V : zW} {b : Nat} {b1 : Nat} (hb : zo2 V b) (hb1 : zo2 V b1)   {d dz : zD} {rv : Int} (h : f_X8_copyFrom b b1  d = some (rv, dz)) : zMet V 2 yX8_copyFrom cX8_copyFrom 2 none [.ref (zad V (b + 15)), .ref (zad V (b1 + 15))] d none (rv = 0) dz := by
  refine zMet_by RX8 pn8 rfl (Nat.le_of_ble_eq_true rfl) [some (.ref (zad V (b + 15))), some (.ref (zad V (b1 + 15)))] rfl fun X C E => ?_
  refine zP_aload_n (pc := 0) C (x := zad V (b1 + 15)) dX8_copyFrom_0 rfl rfl ?_
  refine zP_getR (pc := 1) (a := b1 + 15) (t := b1 + 16) C g8_9 dX8_copyFrom_1 (s_X8 hb1) rfl ?_
  refine zP_iconst (pc := 4) C dX8_copyFrom_4 ?_
  refine zP_aload_n (pc := 5) C (x := zad V (b + 15)) dX8_copyFrom_5 rfl rfl ?_
  refine zP_getR (pc := 6) (a := b + 15) (t := b + 16) C g8_9 dX8_copyFrom_6 (s_X8 hb) rfl ?_
  refine zP_iconst (pc := 9) C dX8_copyFrom_9 ?_
  refine zP_bipush (pc := 10) C dX8_copyFrom_10 rfl ?_
  refine zP_copy (pc := 12) (a0 := b1 + 16) (a := b + 16) C ac8_39 dX8_copyFrom_12 (s_X8_alive hb1) (s_X8_alive hb) (zRk rfl) (zRk rfl) (zRk rfl) ⟨Nat.le_of_ble_eq_true rfl, Nat.le_of_ble_eq_true rfl⟩ h fun d h => ?_
  refine zP_aload_n (pc := 15) C (x := zad V (b1 + 15)) dX8_copyFrom_15 rfl rfl ?_
  refine zP_getR (pc := 16) (a := b1 + 15) (t := b1 + 17) C g8_15 dX8_copyFrom_16 (s_X8 hb1) rfl ?_
  refine zP_iconst (pc := 19) C dX8_copyFrom_19 ?_
  refine zP_aload_n (pc := 20) C (x := zad V (b + 15)) dX8_copyFrom_20 rfl rfl ?_
  refine zP_getR (pc := 21) (a := b + 15) (t := b + 17) C g8_15 dX8_copyFrom_21 (s_X8 hb) rfl ?_
  refine zP_iconst (pc := 24) C dX8_copyFrom_24 ?_
  refine zP_bipush (pc := 25) C dX8_copyFrom_25 rfl ?_
  refine zP_copy (pc := 27) (a0 := b1 + 17) (a := b + 17) C ac8_39 dX8_copyFrom_27 (s_X8_on hb1) (s_X8_on hb) (zRk rfl) (zRk rfl) (zRk rfl) ⟨Nat.le_of_ble_eq_true rfl, Nat.le_of_ble_eq_true rfl⟩ h fun d h => ?_
  refine zP_aload_n (pc := 30) C (x := zad V (b1 + 15)) dX8_copyFrom_30 rfl rfl ?_
  refine zP_getR (pc := 31) (a := b1 + 15) (t := b1 + 18) C g8_18 dX8_copyFrom_31 (s_X8 hb1) rfl ?_
  refine zP_iconst (pc := 34) C dX8_copyFrom_34 ?_
  refine zP_aload_n (pc := 35) C (x := zad V (b + 15)) dX8_copyFrom_35 rfl rfl ?_
  refine zP_getR (pc := 36) (a := b + 15) (t := b + 18) C g8_18 dX8_copyFrom_36 (s_X8 hb) rfl ?_
  refine zP_iconst (pc := 39) C dX8_copyFrom_39 ?_
  refine zP_bipush (pc := 40) C dX8_copyFrom_40 rfl ?_
  refine zP_copy (pc := 42) (a0 := b1 + 18) (a := b + 18) C ac8_39 dX8_copyFrom_42 (s_X8_misses hb1) (s_X8_misses hb) (zRk rfl) (zRk rfl) (zRk rfl) ⟨Nat.le_of_ble_eq_true rfl, Nat.le_of_ble_eq_true rfl⟩ h fun d h => ?_
  refine zP_aload_n (pc := 45) C (x := zad V (b1 + 15)) dX8_copyFrom_45 rfl rfl ?_
  refine zP_getR (pc := 46) (a := b1 + 15) (t := b1 + 19) C g8_21 dX8_copyFrom_46 (s_X8 hb1) rfl ?_
  refine zP_iconst (pc := 49) C dX8_copyFrom_49 ?_
  refine zP_aload_n (pc := 50) C (x := zad V (b + 15)) dX8_copyFrom_50 rfl rfl ?_
  refine zP_getR (pc := 51) (a := b + 15) (t := b + 19) C g8_21 dX8_copyFrom_51 (s_X8 hb) rfl ?_
  refine zP_iconst (pc := 54) C dX8_copyFrom_54 ?_
  refine zP_bipush (pc := 55) C dX8_copyFrom_55 rfl ?_
  refine zP_copy (pc := 57) (a0 := b1 + 19) (a := b + 19) C ac8_39 dX8_copyFrom_57 (s_X8_ownBits hb1) (s_X8_ownBits hb) (zRk rfl) (zRk rfl) (zRk rfl) ⟨Nat.le_of_ble_eq_true rfl, Nat.le_of_ble_eq_true rfl⟩ h fun d h => ?_
  refine zP_aload_n (pc := 60) C (x := zad V (b1 + 15)) dX8_copyFrom_60 rfl rfl ?_
  refine zP_getR (pc := 61) (a := b1 + 15) (t := b1 + 20) C g8_24 dX8_copyFrom_61 (s_X8 hb1) rfl ?_
  refine zP_iconst (pc := 64) C dX8_copyFrom_64 ?_
  refine zP_aload_n (pc := 65) C (x := zad V (b + 15)) dX8_copyFrom_65 rfl rfl ?_
  refine zP_getR (pc := 66) (a := b + 15) (t := b + 20) C g8_24 dX8_copyFrom_66 (s_X8 hb) rfl ?_
  refine zP_iconst (pc := 69) C dX8_copyFrom_69 ?_
  refine zP_bipush (pc := 70) C dX8_copyFrom_70 rfl ?_
  refine zP_copy (pc := 72) (a0 := b1 + 20) (a := b + 20) C ac8_39 dX8_copyFrom_72 (s_X8_expectedBits hb1) (s_X8_expectedBits hb) (zRk rfl) (zRk rfl) (zRk rfl) ⟨Nat.le_of_ble_eq_true rfl, Nat.le_of_ble_eq_true rfl⟩ h fun d h => ?_
  refine zP_aload_n (pc := 75) C (x := zad V (b1 + 15)) dX8_copyFrom_75 rfl rfl ?_
  refine zP_getR (pc := 76) (a := b1 + 15) (t := b1 + 21) C g8_27 dX8_copyFrom_76 (s_X8 hb1) rfl ?_
  refine zP_iconst (pc := 79) C dX8_copyFrom_79 ?_
  refine zP_aload_n (pc := 80) C (x := zad V (b + 15)) dX8_copyFrom_80 rfl rfl ?_
  refine zP_getR (pc := 81) (a := b + 15) (t := b + 21) C g8_27 dX8_copyFrom_81 (s_X8 hb) rfl ?_
  refine zP_iconst (pc := 84) C dX8_copyFrom_84 ?_
  refine zP_bipush (pc := 85) C dX8_copyFrom_85 rfl ?_
  refine zP_copy (pc := 87) (a0 := b1 + 21) (a := b + 21) C ac8_39 dX8_copyFrom_87 (s_X8_hostBits hb1) (s_X8_hostBits hb) (zRk rfl) (zRk rfl) (zRk rfl) ⟨Nat.le_of_ble_eq_true rfl, Nat.le_of_ble_eq_true rfl⟩ h fun d h => ?_
  refine zP_aload_n (pc := 90) C (x := zad V (b1 + 15)) dX8_copyFrom_90 rfl rfl ?_
  refine zP_getR (pc := 91) (a := b1 + 15) (t := b1 + 22) C g8_30 dX8_copyFrom_91 (s_X8 hb1) rfl ?_
  refine zP_iconst (pc := 94) C dX8_copyFrom_94 ?_
  refine zP_aload_n (pc := 95) C (x := zad V (b + 15)) dX8_copyFrom_95 rfl rfl ?_
  refine zP_getR (pc := 96) (a := b + 15) (t := b + 22) C g8_30 dX8_copyFrom_96 (s_X8 hb) rfl ?_
  refine zP_iconst (pc := 99) C dX8_copyFrom_99 ?_
  refine zP_bipush (pc := 100) C dX8_copyFrom_100 rfl ?_
  refine zP_copy (pc := 102) (a0 := b1 + 22) (a := b + 22) C ac8_39 dX8_copyFrom_102 (s_X8_hostExpectedBits hb1) (s_X8_hostExpectedBits hb) (zRk rfl) (zRk rfl) (zRk rfl) ⟨Nat.le_of_ble_eq_true rfl, Nat.le_of_ble_eq_true rfl⟩ h fun d h => ?_
  refine zP_aload_n (pc := 105) C (x := zad V (b1 + 15)) dX8_copyFrom_105 rfl rfl ?_
  refine zP_getR (pc := 106) (a := b1 + 15) (t := b1 + 23) C g8_33 dX8_copyFrom_106 (s_X8 hb1) rfl ?_
  refine zP_iconst (pc := 109) C dX8_copyFrom_109 ?_
  refine zP_aload_n (pc := 110) C (x := zad V (b + 15)) dX8_copyFrom_110 rfl rfl ?_
  refine zP_getR (pc := 111) (a := b + 15) (t := b + 23) C g8_33 dX8_copyFrom_111 (s_X8 hb) rfl ?_
  refine zP_iconst (pc := 114) C dX8_copyFrom_114 ?_
  refine zP_bipush (pc := 115) C dX8_copyFrom_115 rfl ?_
  refine zP_copy (pc := 117) (a0 := b1 + 23) (a := b + 23) C ac8_39 dX8_copyFrom_117 (s_X8_firstSince hb1) (s_X8_firstSince hb) (zRk rfl) (zRk rfl) (zRk rfl) ⟨Nat.le_of_ble_eq_true rfl, Nat.le_of_ble_eq_true rfl⟩ h fun d h => ?_
  refine zP_aload_n (pc := 120) C (x := zad V (b1 + 15)) dX8_copyFrom_120 rfl rfl ?_
  refine zP_getR (pc := 121) (a := b1 + 15) (t := b1 + 24) C g8_36 dX8_copyFrom_121 (s_X8 hb1) rfl ?_
  refine zP_iconst (pc := 124) C dX8_copyFrom_124 ?_
  refine zP_aload_n (pc := 125) C (x := zad V (b + 15)) dX8_copyFrom_125 rfl rfl ?_
  refine zP_getR (pc := 126) (a := b + 15) (t := b + 24) C g8_36 dX8_copyFrom_126 (s_X8 hb) rfl ?_
  refine zP_iconst (pc := 129) C dX8_copyFrom_129 ?_
  refine zP_bipush (pc := 130) C dX8_copyFrom_130 rfl ?_
  refine zP_copy (pc := 132) (a0 := b1 + 24) (a := b + 24) C ac8_39 dX8_copyFrom_132 (s_X8_often hb1) (s_X8_often hb) (zRk rfl) (zRk rfl) (zRk rfl) ⟨Nat.le_of_ble_eq_true rfl, Nat.le_of_ble_eq_true rfl⟩ h fun d h => ?_
  exact zP_vret (pc := 135) C E dX8_copyFrom_135 h
def f_X10_copyFrom (b : Nat) (b1 : Nat) (d : zD) : Option (Int × zD) :=
  zl (d (b1 + 25) 0) fun v2 =>
  zl (zu d (b + 25) 0 v2) fun d =>
  zl (d (b1 + 25) 1) fun v10 =>
  zl (zu d (b + 25) 1 v10) fun d =>
  zcg 100 100 0 0 100 <| zl (zcp d (d (b1 + 26)) (0 : Int).toNat (b + 26) (0 : Int).toNat (100 : Int).toNat) fun d =>
  some (0, d)
theorem t_X10_copyFrom {V : zW} {b : Nat} {b1 : Nat} (hb : zo2 V b) (hb1 : zo2 V b1)   {d dz : zD} {rv : Int} (h : f_X10_copyFrom b b1  d = some (rv, dz)) : zMet V 2 yX10_copyFrom cX10_copyFrom 2 none [.ref (zad V (b + 25)), .ref (zad V (b1 + 25))] d none (rv = 0) dz := by
  refine zMet_by RX10 pn10 rfl (Nat.le_of_ble_eq_true rfl) [some (.ref (zad V (b + 25))), some (.ref (zad V (b1 + 25)))] rfl fun X C E => ?_
  refine zP_aload_n (pc := 0) C (x := zad V (b + 25)) dX10_copyFrom_0 rfl rfl ?_
  refine zP_aload_n (pc := 1) C (x := zad V (b1 + 25)) dX10_copyFrom_1 rfl rfl ?_
  refine zP_getI (pc := 2) (a := b1 + 25) C g10_9 dX10_copyFrom_2 (s_X10 hb1) rfl h fun v2 hv2 h => ?_
  refine zP_putI (pc := 5) (a := b + 25) C p10_9 dX10_copyFrom_5 (s_X10 hb) rfl hv2 h fun d h => ?_
  refine zP_aload_n (pc := 8) C (x := zad V (b + 25)) dX10_copyFrom_8 rfl rfl ?_
  refine zP_aload_n (pc := 9) C (x := zad V (b1 + 25)) dX10_copyFrom_9 rfl rfl ?_
  refine zP_getI (pc := 10) (a := b1 + 25) C g10_15 dX10_copyFrom_10 (s_X10 hb1) rfl h fun v10 hv10 h => ?_
  refine zP_putI (pc := 13) (a := b + 25) C p10_15 dX10_copyFrom_13 (s_X10 hb) rfl hv10 h fun d h => ?_
  refine zP_aload_n (pc := 16) C (x := zad V (b1 + 25)) dX10_copyFrom_16 rfl rfl ?_
  refine zP_getR (pc := 17) (a := b1 + 25) (t := b1 + 26) C g10_18 dX10_copyFrom_17 (s_X10 hb1) rfl ?_
  refine zP_iconst (pc := 20) C dX10_copyFrom_20 ?_
  refine zP_aload_n (pc := 21) C (x := zad V (b + 25)) dX10_copyFrom_21 rfl rfl ?_
  refine zP_getR (pc := 22) (a := b + 25) (t := b + 26) C g10_18 dX10_copyFrom_22 (s_X10 hb) rfl ?_
  refine zP_iconst (pc := 25) C dX10_copyFrom_25 ?_
  refine zP_bipush (pc := 26) C dX10_copyFrom_26 rfl ?_
  refine zP_copy (pc := 28) (a0 := b1 + 26) (a := b + 26) C ac10_22 dX10_copyFrom_28 (s_X10_numbers hb1) (s_X10_numbers hb) (zRk rfl) (zRk rfl) (zRk rfl) ⟨Nat.le_of_ble_eq_true rfl, Nat.le_of_ble_eq_true rfl⟩ h fun d h => ?_
  exact zP_vret (pc := 31) C E dX10_copyFrom_31 h
def f_X3_isFull (b : Nat) (d : zD) : Option (Int × zD) :=
  zl (d (b + 1) 0) fun v1 =>
  if (v1 : Int) < 40 then (
    some (0, d))
  else (
    some (1, d))
theorem t_X3_isFull {V : zW} {b : Nat} (hb : zo2 V b)   {d dz : zD} {rv : Int} (h : f_X3_isFull b  d = some (rv, dz)) : zMet V 0 yX3_isFull cX3_isFull 1 (some .boolean) [.ref (zad V (b + 1))] d (some (.int (zI rv))) (rv = 0 ∨ rv = 1) dz := by
  refine zMet_by RX3 pn3 rfl (Nat.le_of_ble_eq_true rfl) [some (.ref (zad V (b + 1)))] rfl fun X C E => ?_
  refine zP_aload_n (pc := 0) C (x := zad V (b + 1)) dX3_isFull_0 rfl rfl ?_
  refine zP_getI (pc := 1) (a := b + 1) C g3_9 dX3_isFull_1 (s_X3 hb) rfl h fun v1 hv1 h => ?_
  refine zP_bipush (pc := 4) C dX3_isFull_4 rfl ?_
  refine zP_icmp_lt (pc := 6) (tgt := 13) C dX3_isFull_6 rfl hv1 (zRk rfl) h (fun _ h => ?_) (fun _ h => ?_)
  · refine zP_iconst (pc := 13) C dX3_isFull_13 ?_
    exact zP_zret (pc := 14) C E dX3_isFull_14 (Or.inl rfl) h
  · refine zP_iconst (pc := 9) C dX3_isFull_9 ?_
    refine zP_goto (pc := 10) (tgt := 14) C dX3_isFull_10 rfl ?_
    exact zP_zret (pc := 14) C E dX3_isFull_14 (Or.inr rfl) h
def j_X4_append_76 (b : Nat)  (x3 x4 : Int) (d : zD) : Option (Int × zD) :=
  zg 24 x4 <| zl (zu d (b + 12) (x4 : Int).toNat x3) fun d =>
  zg 24 x4 <| zl (d (b + 13) (x4 : Int).toNat) fun v91 =>
  zl (zw (v91 + 1)) fun v93 =>
  zg 24 x4 <| zl (zu d (b + 13) (x4 : Int).toNat v93) fun d =>
  some (0, d)
theorem wj_X4_append_76 {V : zW} {X : zX} {b : Nat} (hb : zo2 V b) (C : zOk V X cX4_append RX4 6 (zrm 0) none) {rv : Int} {dz : zD} (E : zEnd V X none (rv = 0) dz)  {x3 x4 : Int} (hx3 : zR x3) (hx4 : zR x4) {d : zD} (h : j_X4_append_76 b  x3 x4 d = some (rv, dz)) : zP V X 6 0 0 76 [some (.ref (zad V (b + 10))), none, none, some (.int (zI x3)), some (.int (zI x4)), none] [] d := by
  refine zP_aload_n (pc := 76) C (x := zad V (b + 10)) dX4_append_76 rfl rfl ?_
  refine zP_getR (pc := 77) (a := b + 10) (t := b + 12) C g4_15 dX4_append_77 (s_X4 hb) rfl ?_
  refine zP_iload (pc := 80) C (x := zI x4) dX4_append_80 rfl ?_
  refine zP_iload_n (pc := 82) C (x := zI x3) dX4_append_82 rfl rfl ?_
  refine zP_iast (pc := 83) (a := b + 12) C dX4_append_83 (s_X4_lasts hb) hx4 hx3 h fun d h => ?_
  refine zP_aload_n (pc := 84) C (x := zad V (b + 10)) dX4_append_84 rfl rfl ?_
  refine zP_getR (pc := 85) (a := b + 10) (t := b + 13) C g4_18 dX4_append_85 (s_X4 hb) rfl ?_
  refine zP_iload (pc := 88) C (x := zI x4) dX4_append_88 rfl ?_
  refine zP_dup2 (pc := 90) C dX4_append_90 rfl rfl ?_
  refine zP_iald (pc := 91) (a := b + 13) C dX4_append_91 (s_X4_sizes hb) hx4 h fun v91 hv91 h => ?_
  refine zP_iconst (pc := 92) C dX4_append_92 ?_
  refine zP_iadd (pc := 93) C dX4_append_93 h fun v93 hv93 h => ?_
  refine zP_iast (pc := 94) (a := b + 13) C dX4_append_94 (s_X4_sizes hb) hx4 hv93 h fun d h => ?_
  exact zP_vret (pc := 95) C E dX4_append_95 h
def f_X4_append (b : Nat) (x1 x2 x3 : Int) (d : zD) : Option (Int × zD) :=
  zl (zw (x1 * 8)) fun v3 =>
  zl (zw (v3 + x2)) fun v5 =>
  if (v5 : Int) < 0 then (
    some (0, d))
  else (
    if (v5 : Int) < 24 then (
      zl (zw (x1 * 40)) fun v24 =>
      zg 24 v5 <| zl (d (b + 12) (v5 : Int).toNat) fun v31 =>
      zl (zw (v24 + v31)) fun v32 =>
      zg 24 v5 <| zl (d (b + 13) (v5 : Int).toNat) fun v41 =>
      if (v41 : Int) = 0 then (
        zg 24 v5 <| zl (zu d (b + 11) (v5 : Int).toNat x3) fun d =>
        j_X4_append_76 b  x3 v5 d)
      else (
        if (v32 : Int) < 0 then (
          j_X4_append_76 b  x3 v5 d)
        else (
          if (120 : Int) ≤ v32 then (
            j_X4_append_76 b  x3 v5 d)
          else (
            zg 120 v32 <| zl (zu d (b + 14) (v32 : Int).toNat x3) fun d =>
            j_X4_append_76 b  x3 v5 d))))
    else (
      some (0, d)))
theorem t_X4_append {V : zW} {b : Nat} (hb : zo2 V b) {x1 x2 x3 : Int} (hx1 : zR x1) (hx2 : zR x2) (hx3 : zR x3) {d dz : zD} {rv : Int} (h : f_X4_append b x1 x2 x3 d = some (rv, dz)) : zMet V 0 yX4_append cX4_append 6 none [.ref (zad V (b + 10)), .int (zI x1), .int (zI x2), .int (zI x3)] d none (rv = 0) dz := by
  refine zMet_by RX4 pn4 rfl (Nat.le_of_ble_eq_true rfl) [some (.ref (zad V (b + 10))), some (.int (zI x1)), some (.int (zI x2)), some (.int (zI x3)), none, none] rfl fun X C E => ?_
  refine zP_iload_n (pc := 0) C (x := zI x1) dX4_append_0 rfl rfl ?_
  refine zP_bipush (pc := 1) C dX4_append_1 rfl ?_
  refine zP_imul (pc := 3) C dX4_append_3 h fun v3 hv3 h => ?_
  refine zP_iload_n (pc := 4) C (x := zI x2) dX4_append_4 rfl rfl ?_
  refine zP_iadd (pc := 5) C dX4_append_5 h fun v5 hv5 h => ?_
  refine zP_istore (pc := 6) C (L' := [some (.ref (zad V (b + 10))), some (.int (zI x1)), some (.int (zI x2)), some (.int (zI x3)), some (.int (zI v5)), none]) dX4_append_6 (Nat.le_of_ble_eq_true rfl) rfl rfl ?_
  refine zP_iload (pc := 8) C (x := zI v5) dX4_append_8 rfl ?_
  refine zP_if_lt (pc := 10) (tgt := 20) C dX4_append_10 rfl hv5 h (fun _ h => ?_) (fun _ h => ?_)
  · exact zP_vret (pc := 20) C E dX4_append_20 h
  · refine zP_iload (pc := 13) C (x := zI v5) dX4_append_13 rfl ?_
    refine zP_bipush (pc := 15) C dX4_append_15 rfl ?_
    refine zP_icmp_lt (pc := 17) (tgt := 21) C dX4_append_17 rfl hv5 (zRk rfl) h (fun _ h => ?_) (fun _ h => ?_)
    · refine zP_iload_n (pc := 21) C (x := zI x1) dX4_append_21 rfl rfl ?_
      refine zP_bipush (pc := 22) C dX4_append_22 rfl ?_
      refine zP_imul (pc := 24) C dX4_append_24 h fun v24 hv24 h => ?_
      refine zP_aload_n (pc := 25) C (x := zad V (b + 10)) dX4_append_25 rfl rfl ?_
      refine zP_getR (pc := 26) (a := b + 10) (t := b + 12) C g4_15 dX4_append_26 (s_X4 hb) rfl ?_
      refine zP_iload (pc := 29) C (x := zI v5) dX4_append_29 rfl ?_
      refine zP_iald (pc := 31) (a := b + 12) C dX4_append_31 (s_X4_lasts hb) hv5 h fun v31 hv31 h => ?_
      refine zP_iadd (pc := 32) C dX4_append_32 h fun v32 hv32 h => ?_
      refine zP_istore (pc := 33) C (L' := [some (.ref (zad V (b + 10))), some (.int (zI x1)), some (.int (zI x2)), some (.int (zI x3)), some (.int (zI v5)), some (.int (zI v32))]) dX4_append_33 (Nat.le_of_ble_eq_true rfl) rfl rfl ?_
      refine zP_aload_n (pc := 35) C (x := zad V (b + 10)) dX4_append_35 rfl rfl ?_
      refine zP_getR (pc := 36) (a := b + 10) (t := b + 13) C g4_18 dX4_append_36 (s_X4 hb) rfl ?_
      refine zP_iload (pc := 39) C (x := zI v5) dX4_append_39 rfl ?_
      refine zP_iald (pc := 41) (a := b + 13) C dX4_append_41 (s_X4_sizes hb) hv5 h fun v41 hv41 h => ?_
      refine zP_if_ne (pc := 42) (tgt := 56) C dX4_append_42 rfl hv41 h (fun _ h => ?_) (fun _ h => ?_)
      · refine zP_iload (pc := 56) C (x := zI v32) dX4_append_56 rfl ?_
        refine zP_if_lt (pc := 58) (tgt := 76) C dX4_append_58 rfl hv32 h (fun _ h => ?_) (fun _ h => ?_)
        · exact zP_mask [true, false, false, true, true, false] (wj_X4_append_76 hb C E  hx3 hv5 h)
        · refine zP_iload (pc := 61) C (x := zI v32) dX4_append_61 rfl ?_
          refine zP_bipush (pc := 63) C dX4_append_63 rfl ?_
          refine zP_icmp_ge (pc := 65) (tgt := 76) C dX4_append_65 rfl hv32 (zRk rfl) h (fun _ h => ?_) (fun _ h => ?_)
          · exact zP_mask [true, false, false, true, true, false] (wj_X4_append_76 hb C E  hx3 hv5 h)
          · refine zP_aload_n (pc := 68) C (x := zad V (b + 10)) dX4_append_68 rfl rfl ?_
            refine zP_getR (pc := 69) (a := b + 10) (t := b + 14) C g4_21 dX4_append_69 (s_X4 hb) rfl ?_
            refine zP_iload (pc := 72) C (x := zI v32) dX4_append_72 rfl ?_
            refine zP_iload_n (pc := 74) C (x := zI x3) dX4_append_74 rfl rfl ?_
            refine zP_iast (pc := 75) (a := b + 14) C dX4_append_75 (s_X4_nexts hb) hv32 hx3 h fun d h => ?_
            exact zP_mask [true, false, false, true, true, false] (wj_X4_append_76 hb C E  hx3 hv5 h)
      · refine zP_aload_n (pc := 45) C (x := zad V (b + 10)) dX4_append_45 rfl rfl ?_
        refine zP_getR (pc := 46) (a := b + 10) (t := b + 11) C g4_11 dX4_append_46 (s_X4 hb) rfl ?_
        refine zP_iload (pc := 49) C (x := zI v5) dX4_append_49 rfl ?_
        refine zP_iload_n (pc := 51) C (x := zI x3) dX4_append_51 rfl rfl ?_
        refine zP_iast (pc := 52) (a := b + 11) C dX4_append_52 (s_X4_firsts hb) hv5 hx3 h fun d h => ?_
        refine zP_goto (pc := 53) (tgt := 76) C dX4_append_53 rfl ?_
        exact zP_mask [true, false, false, true, true, false] (wj_X4_append_76 hb C E  hx3 hv5 h)
    · exact zP_vret (pc := 20) C E dX4_append_20 h
def f_X6_has (s : Nat) (x1 : Int) (d : zD) : Option (Int × zD) :=
  if (x1 : Int) < 0 then (
    some (0, d))
  else (
    zl (d s 0) fun v6 =>
    if (v6 : Int) ≤ x1 then (
      some (0, d))
    else (
      some (1, d)))
theorem t_X6_has {V : zW} {s : Nat} (hs : zo6 V s) {x1 : Int} (hx1 : zR x1) {d dz : zD} {rv : Int} (h : f_X6_has s x1 d = some (rv, dz)) : zMet V 0 yX6_has cX6_has 2 (some .boolean) [.ref (zad V s), .int (zI x1)] d (some (.int (zI rv))) (rv = 0 ∨ rv = 1) dz := by
  refine zMet_by RX6 pn6 rfl (Nat.le_of_ble_eq_true rfl) [some (.ref (zad V s)), some (.int (zI x1))] rfl fun X C E => ?_
  refine zP_iload_n (pc := 0) C (x := zI x1) dX6_has_0 rfl rfl ?_
  refine zP_if_lt (pc := 1) (tgt := 16) C dX6_has_1 rfl hx1 h (fun _ h => ?_) (fun _ h => ?_)
  · refine zP_iconst (pc := 16) C dX6_has_16 ?_
    exact zP_zret (pc := 17) C E dX6_has_17 (Or.inl rfl) h
  · refine zP_iload_n (pc := 4) C (x := zI x1) dX6_has_4 rfl rfl ?_
    refine zP_aload_n (pc := 5) C (x := zad V s) dX6_has_5 rfl rfl ?_
    refine zP_getI (pc := 6) (a := s) C g6_9 dX6_has_6 (s_X6 hs) rfl h fun v6 hv6 h => ?_
    refine zP_icmp_ge (pc := 9) (tgt := 16) C dX6_has_9 rfl hx1 hv6 h (fun _ h => ?_) (fun _ h => ?_)
    · refine zP_iconst (pc := 16) C dX6_has_16 ?_
      exact zP_zret (pc := 17) C E dX6_has_17 (Or.inl rfl) h
    · refine zP_iconst (pc := 12) C dX6_has_12 ?_
      refine zP_goto (pc := 13) (tgt := 17) C dX6_has_13 rfl ?_
      exact zP_zret (pc := 17) C E dX6_has_17 (Or.inr rfl) h
def f_X4_sizeOf (b : Nat) (x1 x2 : Int) (d : zD) : Option (Int × zD) :=
  zl (zw (x1 * 8)) fun v3 =>
  zl (zw (v3 + x2)) fun v5 =>
  if (v5 : Int) < 0 then (
    some (0, d))
  else (
    if (24 : Int) ≤ v5 then (
      some (0, d))
    else (
      zg 24 v5 <| zl (d (b + 13) (v5 : Int).toNat) fun v22 =>
      some (v22, d)))
theorem t_X4_sizeOf {V : zW} {b : Nat} (hb : zo2 V b) {x1 x2 : Int} (hx1 : zR x1) (hx2 : zR x2) {d dz : zD} {rv : Int} (h : f_X4_sizeOf b x1 x2 d = some (rv, dz)) : zMet V 0 yX4_sizeOf cX4_sizeOf 4 (some .int) [.ref (zad V (b + 10)), .int (zI x1), .int (zI x2)] d (some (.int (zI rv))) (zR rv) dz := by
  refine zMet_by RX4 pn4 rfl (Nat.le_of_ble_eq_true rfl) [some (.ref (zad V (b + 10))), some (.int (zI x1)), some (.int (zI x2)), none] rfl fun X C E => ?_
  refine zP_iload_n (pc := 0) C (x := zI x1) dX4_sizeOf_0 rfl rfl ?_
  refine zP_bipush (pc := 1) C dX4_sizeOf_1 rfl ?_
  refine zP_imul (pc := 3) C dX4_sizeOf_3 h fun v3 hv3 h => ?_
  refine zP_iload_n (pc := 4) C (x := zI x2) dX4_sizeOf_4 rfl rfl ?_
  refine zP_iadd (pc := 5) C dX4_sizeOf_5 h fun v5 hv5 h => ?_
  refine zP_istore_n (pc := 6) C (L' := [some (.ref (zad V (b + 10))), some (.int (zI x1)), some (.int (zI x2)), some (.int (zI v5))]) dX4_sizeOf_6 rfl (Nat.le_of_ble_eq_true rfl) rfl rfl ?_
  refine zP_iload_n (pc := 7) C (x := zI v5) dX4_sizeOf_7 rfl rfl ?_
  refine zP_if_lt (pc := 8) (tgt := 26) C dX4_sizeOf_8 rfl hv5 h (fun _ h => ?_) (fun _ h => ?_)
  · refine zP_iconst (pc := 26) C dX4_sizeOf_26 ?_
    exact zP_iret (pc := 27) C E dX4_sizeOf_27 (zRk rfl) h
  · refine zP_iload_n (pc := 11) C (x := zI v5) dX4_sizeOf_11 rfl rfl ?_
    refine zP_bipush (pc := 12) C dX4_sizeOf_12 rfl ?_
    refine zP_icmp_ge (pc := 14) (tgt := 26) C dX4_sizeOf_14 rfl hv5 (zRk rfl) h (fun _ h => ?_) (fun _ h => ?_)
    · refine zP_iconst (pc := 26) C dX4_sizeOf_26 ?_
      exact zP_iret (pc := 27) C E dX4_sizeOf_27 (zRk rfl) h
    · refine zP_aload_n (pc := 17) C (x := zad V (b + 10)) dX4_sizeOf_17 rfl rfl ?_
      refine zP_getR (pc := 18) (a := b + 10) (t := b + 13) C g4_18 dX4_sizeOf_18 (s_X4 hb) rfl ?_
      refine zP_iload_n (pc := 21) C (x := zI v5) dX4_sizeOf_21 rfl rfl ?_
      refine zP_iald (pc := 22) (a := b + 13) C dX4_sizeOf_22 (s_X4_sizes hb) hv5 h fun v22 hv22 h => ?_
      refine zP_goto (pc := 23) (tgt := 27) C dX4_sizeOf_23 rfl ?_
      exact zP_iret (pc := 27) C E dX4_sizeOf_27 hv22 h
def f_X8_countOften (b : Nat) (x1 x2 : Int) (d : zD) : Option (Int × zD) :=
  zl (zw (x1 * 8)) fun v3 =>
  zl (zw (v3 + x2)) fun v5 =>
  if (v5 : Int) < 0 then (
    some (0, d))
  else (
    if (32 : Int) ≤ v5 then (
      some (0, d))
    else (
      zg 32 v5 <| zl (d (b + 24) (v5 : Int).toNat) fun v23 =>
      zl (zw (v23 + 1)) fun v25 =>
      zg 32 v5 <| zl (zu d (b + 24) (v5 : Int).toNat v25) fun d =>
      some (0, d)))
theorem t_X8_countOften {V : zW} {b : Nat} (hb : zo2 V b) {x1 x2 : Int} (hx1 : zR x1) (hx2 : zR x2) {d dz : zD} {rv : Int} (h : f_X8_countOften b x1 x2 d = some (rv, dz)) : zMet V 0 yX8_countOften cX8_countOften 4 none [.ref (zad V (b + 15)), .int (zI x1), .int (zI x2)] d none (rv = 0) dz := by
  refine zMet_by RX8 pn8 rfl (Nat.le_of_ble_eq_true rfl) [some (.ref (zad V (b + 15))), some (.int (zI x1)), some (.int (zI x2)), none] rfl fun X C E => ?_
  refine zP_iload_n (pc := 0) C (x := zI x1) dX8_countOften_0 rfl rfl ?_
  refine zP_bipush (pc := 1) C dX8_countOften_1 rfl ?_
  refine zP_imul (pc := 3) C dX8_countOften_3 h fun v3 hv3 h => ?_
  refine zP_iload_n (pc := 4) C (x := zI x2) dX8_countOften_4 rfl rfl ?_
  refine zP_iadd (pc := 5) C dX8_countOften_5 h fun v5 hv5 h => ?_
  refine zP_istore_n (pc := 6) C (L' := [some (.ref (zad V (b + 15))), some (.int (zI x1)), some (.int (zI x2)), some (.int (zI v5))]) dX8_countOften_6 rfl (Nat.le_of_ble_eq_true rfl) rfl rfl ?_
  refine zP_iload_n (pc := 7) C (x := zI v5) dX8_countOften_7 rfl rfl ?_
  refine zP_if_lt (pc := 8) (tgt := 27) C dX8_countOften_8 rfl hv5 h (fun _ h => ?_) (fun _ h => ?_)
  · exact zP_vret (pc := 27) C E dX8_countOften_27 h
  · refine zP_iload_n (pc := 11) C (x := zI v5) dX8_countOften_11 rfl rfl ?_
    refine zP_bipush (pc := 12) C dX8_countOften_12 rfl ?_
    refine zP_icmp_ge (pc := 14) (tgt := 27) C dX8_countOften_14 rfl hv5 (zRk rfl) h (fun _ h => ?_) (fun _ h => ?_)
    · exact zP_vret (pc := 27) C E dX8_countOften_27 h
    · refine zP_aload_n (pc := 17) C (x := zad V (b + 15)) dX8_countOften_17 rfl rfl ?_
      refine zP_getR (pc := 18) (a := b + 15) (t := b + 24) C g8_36 dX8_countOften_18 (s_X8 hb) rfl ?_
      refine zP_iload_n (pc := 21) C (x := zI v5) dX8_countOften_21 rfl rfl ?_
      refine zP_dup2 (pc := 22) C dX8_countOften_22 rfl rfl ?_
      refine zP_iald (pc := 23) (a := b + 24) C dX8_countOften_23 (s_X8_often hb) hv5 h fun v23 hv23 h => ?_
      refine zP_iconst (pc := 24) C dX8_countOften_24 ?_
      refine zP_iadd (pc := 25) C dX8_countOften_25 h fun v25 hv25 h => ?_
      refine zP_iast (pc := 26) (a := b + 24) C dX8_countOften_26 (s_X8_often hb) hv5 hv25 h fun d h => ?_
      exact zP_vret (pc := 27) C E dX8_countOften_27 h
def f_X4_firstOf (b : Nat) (x1 x2 : Int) (d : zD) : Option (Int × zD) :=
  zl (zw (x1 * 8)) fun v3 =>
  zl (zw (v3 + x2)) fun v5 =>
  if (v5 : Int) < 0 then (
    some ((-1), d))
  else (
    if (24 : Int) ≤ v5 then (
      some ((-1), d))
    else (
      zg 24 v5 <| zl (d (b + 13) (v5 : Int).toNat) fun v22 =>
      if (v22 : Int) ≤ 0 then (
        some ((-1), d))
      else (
        zg 24 v5 <| zl (d (b + 11) (v5 : Int).toNat) fun v31 =>
        some (v31, d))))
theorem t_X4_firstOf {V : zW} {b : Nat} (hb : zo2 V b) {x1 x2 : Int} (hx1 : zR x1) (hx2 : zR x2) {d dz : zD} {rv : Int} (h : f_X4_firstOf b x1 x2 d = some (rv, dz)) : zMet V 0 yX4_firstOf cX4_firstOf 4 (some .int) [.ref (zad V (b + 10)), .int (zI x1), .int (zI x2)] d (some (.int (zI rv))) (zR rv) dz := by
  refine zMet_by RX4 pn4 rfl (Nat.le_of_ble_eq_true rfl) [some (.ref (zad V (b + 10))), some (.int (zI x1)), some (.int (zI x2)), none] rfl fun X C E => ?_
  refine zP_iload_n (pc := 0) C (x := zI x1) dX4_firstOf_0 rfl rfl ?_
  refine zP_bipush (pc := 1) C dX4_firstOf_1 rfl ?_
  refine zP_imul (pc := 3) C dX4_firstOf_3 h fun v3 hv3 h => ?_
  refine zP_iload_n (pc := 4) C (x := zI x2) dX4_firstOf_4 rfl rfl ?_
  refine zP_iadd (pc := 5) C dX4_firstOf_5 h fun v5 hv5 h => ?_
  refine zP_istore_n (pc := 6) C (L' := [some (.ref (zad V (b + 10))), some (.int (zI x1)), some (.int (zI x2)), some (.int (zI v5))]) dX4_firstOf_6 rfl (Nat.le_of_ble_eq_true rfl) rfl rfl ?_
  refine zP_iload_n (pc := 7) C (x := zI v5) dX4_firstOf_7 rfl rfl ?_
  refine zP_if_lt (pc := 8) (tgt := 35) C dX4_firstOf_8 rfl hv5 h (fun _ h => ?_) (fun _ h => ?_)
  · refine zP_iconst (pc := 35) C dX4_firstOf_35 ?_
    exact zP_iret (pc := 36) C E dX4_firstOf_36 (zRk rfl) h
  · refine zP_iload_n (pc := 11) C (x := zI v5) dX4_firstOf_11 rfl rfl ?_
    refine zP_bipush (pc := 12) C dX4_firstOf_12 rfl ?_
    refine zP_icmp_ge (pc := 14) (tgt := 35) C dX4_firstOf_14 rfl hv5 (zRk rfl) h (fun _ h => ?_) (fun _ h => ?_)
    · refine zP_iconst (pc := 35) C dX4_firstOf_35 ?_
      exact zP_iret (pc := 36) C E dX4_firstOf_36 (zRk rfl) h
    · refine zP_aload_n (pc := 17) C (x := zad V (b + 10)) dX4_firstOf_17 rfl rfl ?_
      refine zP_getR (pc := 18) (a := b + 10) (t := b + 13) C g4_18 dX4_firstOf_18 (s_X4 hb) rfl ?_
      refine zP_iload_n (pc := 21) C (x := zI v5) dX4_firstOf_21 rfl rfl ?_
      refine zP_iald (pc := 22) (a := b + 13) C dX4_firstOf_22 (s_X4_sizes hb) hv5 h fun v22 hv22 h => ?_
      refine zP_if_le (pc := 23) (tgt := 35) C dX4_firstOf_23 rfl hv22 h (fun _ h => ?_) (fun _ h => ?_)
      · refine zP_iconst (pc := 35) C dX4_firstOf_35 ?_
        exact zP_iret (pc := 36) C E dX4_firstOf_36 (zRk rfl) h
      · refine zP_aload_n (pc := 26) C (x := zad V (b + 10)) dX4_firstOf_26 rfl rfl ?_
        refine zP_getR (pc := 27) (a := b + 10) (t := b + 11) C g4_11 dX4_firstOf_27 (s_X4 hb) rfl ?_
        refine zP_iload_n (pc := 30) C (x := zI v5) dX4_firstOf_30 rfl rfl ?_
        refine zP_iald (pc := 31) (a := b + 11) C dX4_firstOf_31 (s_X4_firsts hb) hv5 h fun v31 hv31 h => ?_
        refine zP_goto (pc := 32) (tgt := 36) C dX4_firstOf_32 rfl ?_
        exact zP_iret (pc := 36) C E dX4_firstOf_36 hv31 h
def f_X3_has (b : Nat) (x1 : Int) (d : zD) : Option (Int × zD) :=
  if (x1 : Int) < 0 then (
    some (0, d))
  else (
    zl (d (b + 1) 0) fun v6 =>
    if (v6 : Int) ≤ x1 then (
      some (0, d))
    else (
      some (1, d)))
theorem t_X3_has {V : zW} {b : Nat} (hb : zo2 V b) {x1 : Int} (hx1 : zR x1) {d dz : zD} {rv : Int} (h : f_X3_has b x1 d = some (rv, dz)) : zMet V 0 yX3_has cX3_has 2 (some .boolean) [.ref (zad V (b + 1)), .int (zI x1)] d (some (.int (zI rv))) (rv = 0 ∨ rv = 1) dz := by
  refine zMet_by RX3 pn3 rfl (Nat.le_of_ble_eq_true rfl) [some (.ref (zad V (b + 1))), some (.int (zI x1))] rfl fun X C E => ?_
  refine zP_iload_n (pc := 0) C (x := zI x1) dX3_has_0 rfl rfl ?_
  refine zP_if_lt (pc := 1) (tgt := 16) C dX3_has_1 rfl hx1 h (fun _ h => ?_) (fun _ h => ?_)
  · refine zP_iconst (pc := 16) C dX3_has_16 ?_
    exact zP_zret (pc := 17) C E dX3_has_17 (Or.inl rfl) h
  · refine zP_iload_n (pc := 4) C (x := zI x1) dX3_has_4 rfl rfl ?_
    refine zP_aload_n (pc := 5) C (x := zad V (b + 1)) dX3_has_5 rfl rfl ?_
    refine zP_getI (pc := 6) (a := b + 1) C g3_9 dX3_has_6 (s_X3 hb) rfl h fun v6 hv6 h => ?_
    refine zP_icmp_ge (pc := 9) (tgt := 16) C dX3_has_9 rfl hx1 hv6 h (fun _ h => ?_) (fun _ h => ?_)
    · refine zP_iconst (pc := 16) C dX3_has_16 ?_
      exact zP_zret (pc := 17) C E dX3_has_17 (Or.inl rfl) h
    · refine zP_iconst (pc := 12) C dX3_has_12 ?_
      refine zP_goto (pc := 13) (tgt := 17) C dX3_has_13 rfl ?_
      exact zP_zret (pc := 17) C E dX3_has_17 (Or.inr rfl) h
def f_X4_nextOf (b : Nat) (x1 x2 : Int) (d : zD) : Option (Int × zD) :=
  zl (zw (x1 * 40)) fun v3 =>
  zl (zw (v3 + x2)) fun v5 =>
  if (v5 : Int) < 0 then (
    some ((-1), d))
  else (
    if (120 : Int) ≤ v5 then (
      some ((-1), d))
    else (
      zg 120 v5 <| zl (d (b + 14) (v5 : Int).toNat) fun v22 =>
      some (v22, d)))
theorem t_X4_nextOf {V : zW} {b : Nat} (hb : zo2 V b) {x1 x2 : Int} (hx1 : zR x1) (hx2 : zR x2) {d dz : zD} {rv : Int} (h : f_X4_nextOf b x1 x2 d = some (rv, dz)) : zMet V 0 yX4_nextOf cX4_nextOf 4 (some .int) [.ref (zad V (b + 10)), .int (zI x1), .int (zI x2)] d (some (.int (zI rv))) (zR rv) dz := by
  refine zMet_by RX4 pn4 rfl (Nat.le_of_ble_eq_true rfl) [some (.ref (zad V (b + 10))), some (.int (zI x1)), some (.int (zI x2)), none] rfl fun X C E => ?_
  refine zP_iload_n (pc := 0) C (x := zI x1) dX4_nextOf_0 rfl rfl ?_
  refine zP_bipush (pc := 1) C dX4_nextOf_1 rfl ?_
  refine zP_imul (pc := 3) C dX4_nextOf_3 h fun v3 hv3 h => ?_
  refine zP_iload_n (pc := 4) C (x := zI x2) dX4_nextOf_4 rfl rfl ?_
  refine zP_iadd (pc := 5) C dX4_nextOf_5 h fun v5 hv5 h => ?_
  refine zP_istore_n (pc := 6) C (L' := [some (.ref (zad V (b + 10))), some (.int (zI x1)), some (.int (zI x2)), some (.int (zI v5))]) dX4_nextOf_6 rfl (Nat.le_of_ble_eq_true rfl) rfl rfl ?_
  refine zP_iload_n (pc := 7) C (x := zI v5) dX4_nextOf_7 rfl rfl ?_
  refine zP_if_lt (pc := 8) (tgt := 26) C dX4_nextOf_8 rfl hv5 h (fun _ h => ?_) (fun _ h => ?_)
  · refine zP_iconst (pc := 26) C dX4_nextOf_26 ?_
    exact zP_iret (pc := 27) C E dX4_nextOf_27 (zRk rfl) h
  · refine zP_iload_n (pc := 11) C (x := zI v5) dX4_nextOf_11 rfl rfl ?_
    refine zP_bipush (pc := 12) C dX4_nextOf_12 rfl ?_
    refine zP_icmp_ge (pc := 14) (tgt := 26) C dX4_nextOf_14 rfl hv5 (zRk rfl) h (fun _ h => ?_) (fun _ h => ?_)
    · refine zP_iconst (pc := 26) C dX4_nextOf_26 ?_
      exact zP_iret (pc := 27) C E dX4_nextOf_27 (zRk rfl) h
    · refine zP_aload_n (pc := 17) C (x := zad V (b + 10)) dX4_nextOf_17 rfl rfl ?_
      refine zP_getR (pc := 18) (a := b + 10) (t := b + 14) C g4_21 dX4_nextOf_18 (s_X4 hb) rfl ?_
      refine zP_iload_n (pc := 21) C (x := zI v5) dX4_nextOf_21 rfl rfl ?_
      refine zP_iald (pc := 22) (a := b + 14) C dX4_nextOf_22 (s_X4_nexts hb) hv5 h fun v22 hv22 h => ?_
      refine zP_goto (pc := 23) (tgt := 27) C dX4_nextOf_23 rfl ?_
      exact zP_iret (pc := 27) C E dX4_nextOf_27 hv22 h
def f_X4_removeFirst (b : Nat) (x1 x2 : Int) (d : zD) : Option (Int × zD) :=
  zl (zw (x1 * 8)) fun v3 =>
  zl (zw (v3 + x2)) fun v5 =>
  if (v5 : Int) < 0 then (
    some (0, d))
  else (
    if (24 : Int) ≤ v5 then (
      some (0, d))
    else (
      zg 24 v5 <| zl (d (b + 13) (v5 : Int).toNat) fun v22 =>
      if (v22 : Int) ≤ 0 then (
        some (0, d))
      else (
        zg 24 v5 <| zl (d (b + 13) (v5 : Int).toNat) fun v32 =>
        zl (zw (v32 - 1)) fun v34 =>
        zg 24 v5 <| zl (zu d (b + 13) (v5 : Int).toNat v34) fun d =>
        zg 24 v5 <| zl (d (b + 11) (v5 : Int).toNat) fun v48 =>
        zc (f_X4_nextOf b x1 v48 d) fun v49 d =>
        zg 24 v5 <| zl (zu d (b + 11) (v5 : Int).toNat v49) fun d =>
        some (0, d))))
theorem t_X4_removeFirst {V : zW} {b : Nat} (hb : zo2 V b) {x1 x2 : Int} (hx1 : zR x1) (hx2 : zR x2) {d dz : zD} {rv : Int} (h : f_X4_removeFirst b x1 x2 d = some (rv, dz)) : zMet V 1 yX4_removeFirst cX4_removeFirst 4 none [.ref (zad V (b + 10)), .int (zI x1), .int (zI x2)] d none (rv = 0) dz := by
  refine zMet_by RX4 pn4 rfl (Nat.le_of_ble_eq_true rfl) [some (.ref (zad V (b + 10))), some (.int (zI x1)), some (.int (zI x2)), none] rfl fun X C E => ?_
  refine zP_iload_n (pc := 0) C (x := zI x1) dX4_removeFirst_0 rfl rfl ?_
  refine zP_bipush (pc := 1) C dX4_removeFirst_1 rfl ?_
  refine zP_imul (pc := 3) C dX4_removeFirst_3 h fun v3 hv3 h => ?_
  refine zP_iload_n (pc := 4) C (x := zI x2) dX4_removeFirst_4 rfl rfl ?_
  refine zP_iadd (pc := 5) C dX4_removeFirst_5 h fun v5 hv5 h => ?_
  refine zP_istore_n (pc := 6) C (L' := [some (.ref (zad V (b + 10))), some (.int (zI x1)), some (.int (zI x2)), some (.int (zI v5))]) dX4_removeFirst_6 rfl (Nat.le_of_ble_eq_true rfl) rfl rfl ?_
  refine zP_iload_n (pc := 7) C (x := zI v5) dX4_removeFirst_7 rfl rfl ?_
  refine zP_if_lt (pc := 8) (tgt := 53) C dX4_removeFirst_8 rfl hv5 h (fun _ h => ?_) (fun _ h => ?_)
  · exact zP_vret (pc := 53) C E dX4_removeFirst_53 h
  · refine zP_iload_n (pc := 11) C (x := zI v5) dX4_removeFirst_11 rfl rfl ?_
    refine zP_bipush (pc := 12) C dX4_removeFirst_12 rfl ?_
    refine zP_icmp_ge (pc := 14) (tgt := 53) C dX4_removeFirst_14 rfl hv5 (zRk rfl) h (fun _ h => ?_) (fun _ h => ?_)
    · exact zP_vret (pc := 53) C E dX4_removeFirst_53 h
    · refine zP_aload_n (pc := 17) C (x := zad V (b + 10)) dX4_removeFirst_17 rfl rfl ?_
      refine zP_getR (pc := 18) (a := b + 10) (t := b + 13) C g4_18 dX4_removeFirst_18 (s_X4 hb) rfl ?_
      refine zP_iload_n (pc := 21) C (x := zI v5) dX4_removeFirst_21 rfl rfl ?_
      refine zP_iald (pc := 22) (a := b + 13) C dX4_removeFirst_22 (s_X4_sizes hb) hv5 h fun v22 hv22 h => ?_
      refine zP_if_le (pc := 23) (tgt := 53) C dX4_removeFirst_23 rfl hv22 h (fun _ h => ?_) (fun _ h => ?_)
      · exact zP_vret (pc := 53) C E dX4_removeFirst_53 h
      · refine zP_aload_n (pc := 26) C (x := zad V (b + 10)) dX4_removeFirst_26 rfl rfl ?_
        refine zP_getR (pc := 27) (a := b + 10) (t := b + 13) C g4_18 dX4_removeFirst_27 (s_X4 hb) rfl ?_
        refine zP_iload_n (pc := 30) C (x := zI v5) dX4_removeFirst_30 rfl rfl ?_
        refine zP_dup2 (pc := 31) C dX4_removeFirst_31 rfl rfl ?_
        refine zP_iald (pc := 32) (a := b + 13) C dX4_removeFirst_32 (s_X4_sizes hb) hv5 h fun v32 hv32 h => ?_
        refine zP_iconst (pc := 33) C dX4_removeFirst_33 ?_
        refine zP_isub (pc := 34) C dX4_removeFirst_34 h fun v34 hv34 h => ?_
        refine zP_iast (pc := 35) (a := b + 13) C dX4_removeFirst_35 (s_X4_sizes hb) hv5 hv34 h fun d h => ?_
        refine zP_aload_n (pc := 36) C (x := zad V (b + 10)) dX4_removeFirst_36 rfl rfl ?_
        refine zP_getR (pc := 37) (a := b + 10) (t := b + 11) C g4_11 dX4_removeFirst_37 (s_X4 hb) rfl ?_
        refine zP_iload_n (pc := 40) C (x := zI v5) dX4_removeFirst_40 rfl rfl ?_
        refine zP_aload_n (pc := 41) C (x := zad V (b + 10)) dX4_removeFirst_41 rfl rfl ?_
        refine zP_iload_n (pc := 42) C (x := zI x1) dX4_removeFirst_42 rfl rfl ?_
        refine zP_aload_n (pc := 43) C (x := zad V (b + 10)) dX4_removeFirst_43 rfl rfl ?_
        refine zP_getR (pc := 44) (a := b + 10) (t := b + 11) C g4_11 dX4_removeFirst_44 (s_X4 hb) rfl ?_
        refine zP_iload_n (pc := 47) C (x := zI v5) dX4_removeFirst_47 rfl rfl ?_
        refine zP_iald (pc := 48) (a := b + 11) C dX4_removeFirst_48 (s_X4_firsts hb) hv5 h fun v48 hv48 h => ?_
        obtain ⟨v49, d1, hc, h⟩ := zc_h h
        refine zP_callV (pc := 49) (As := [.int (zI x1), .int (zI v48)]) (st := [.int (zI v5), .ref (zad V (b + 11))]) C m4_31 dX4_removeFirst_49 (s_X4 hb) rfl (t_X4_nextOf hb hx1 hv48 hc) ⟨Nat.le_of_ble_eq_true rfl, Nat.le_of_ble_eq_true rfl⟩ rfl (Nat.le_of_ble_eq_true rfl) ⟨Nat.zero_le _, Nat.zero_le _⟩ fun hw => ?_
        have hv49 := hw
        clear hc hw
        show zP V X 4 0 0 52 _ [.int (zI v49), .int (zI v5), .ref (zad V (b + 11))] d1
        revert h
        generalize d1 = d
        intro h
        refine zP_iast (pc := 52) (a := b + 11) C dX4_removeFirst_52 (s_X4_firsts hb) hv5 hv49 h fun d h => ?_
        exact zP_vret (pc := 53) C E dX4_removeFirst_53 h
def f_X10_add (b : Nat) (x1 x2 x3 x4 x5 : Int) (d : zD) : Option (Int × zD) :=
  zl (d (b + 25) 1) fun v1 =>
  zl (zw (v1 * 5)) fun v5 =>
  zg 100 v5 <| zl (zu d (b + 26) (v5 : Int).toNat x1) fun d =>
  zl (zw (v5 + 1)) fun v23 =>
  zg 100 v23 <| zl (zu d (b + 26) (v23 : Int).toNat x2) fun d =>
  zl (zw (v5 + 2)) fun v33 =>
  zg 100 v33 <| zl (zu d (b + 26) (v33 : Int).toNat x3) fun d =>
  zl (zw (v5 + 3)) fun v43 =>
  zg 100 v43 <| zl (zu d (b + 26) (v43 : Int).toNat x4) fun d =>
  zl (zw (v5 + 4)) fun v54 =>
  zg 100 v54 <| zl (zu d (b + 26) (v54 : Int).toNat x5) fun d =>
  zl (d (b + 25) 1) fun v60 =>
  zl (zw (v60 + 1)) fun v64 =>
  zn 20 <| zl (zrem v64 20) fun v67 =>
  zl (zu d (b + 25) 1 v67) fun d =>
  zl (d (b + 25) 0) fun v72 =>
  if (20 : Int) ≤ v72 then (
    some (0, d))
  else (
    zl (d (b + 25) 0) fun v82 =>
    zl (zw (v82 + 1)) fun v86 =>
    zl (zu d (b + 25) 0 v86) fun d =>
    some (0, d))
theorem t_X10_add {V : zW} {b : Nat} (hb : zo2 V b) {x1 x2 x3 x4 x5 : Int} (hx1 : zR x1) (hx2 : zR x2) (hx3 : zR x3) (hx4 : zR x4) (hx5 : zR x5) {d dz : zD} {rv : Int} (h : f_X10_add b x1 x2 x3 x4 x5 d = some (rv, dz)) : zMet V 0 yX10_add cX10_add 7 none [.ref (zad V (b + 25)), .int (zI x1), .int (zI x2), .int (zI x3), .int (zI x4), .int (zI x5)] d none (rv = 0) dz := by
  refine zMet_by RX10 pn10 rfl (Nat.le_of_ble_eq_true rfl) [some (.ref (zad V (b + 25))), some (.int (zI x1)), some (.int (zI x2)), some (.int (zI x3)), some (.int (zI x4)), some (.int (zI x5)), none] rfl fun X C E => ?_
  refine zP_aload_n (pc := 0) C (x := zad V (b + 25)) dX10_add_0 rfl rfl ?_
  refine zP_getI (pc := 1) (a := b + 25) C g10_15 dX10_add_1 (s_X10 hb) rfl h fun v1 hv1 h => ?_
  refine zP_iconst (pc := 4) C dX10_add_4 ?_
  refine zP_imul (pc := 5) C dX10_add_5 h fun v5 hv5 h => ?_
  refine zP_istore (pc := 6) C (L' := [some (.ref (zad V (b + 25))), some (.int (zI x1)), some (.int (zI x2)), some (.int (zI x3)), some (.int (zI x4)), some (.int (zI x5)), some (.int (zI v5))]) dX10_add_6 (Nat.le_of_ble_eq_true rfl) rfl rfl ?_
  refine zP_aload_n (pc := 8) C (x := zad V (b + 25)) dX10_add_8 rfl rfl ?_
  refine zP_getR (pc := 9) (a := b + 25) (t := b + 26) C g10_18 dX10_add_9 (s_X10 hb) rfl ?_
  refine zP_iload (pc := 12) C (x := zI v5) dX10_add_12 rfl ?_
  refine zP_iload_n (pc := 14) C (x := zI x1) dX10_add_14 rfl rfl ?_
  refine zP_iast (pc := 15) (a := b + 26) C dX10_add_15 (s_X10_numbers hb) hv5 hx1 h fun d h => ?_
  refine zP_aload_n (pc := 16) C (x := zad V (b + 25)) dX10_add_16 rfl rfl ?_
  refine zP_getR (pc := 17) (a := b + 25) (t := b + 26) C g10_18 dX10_add_17 (s_X10 hb) rfl ?_
  refine zP_iload (pc := 20) C (x := zI v5) dX10_add_20 rfl ?_
  refine zP_iconst (pc := 22) C dX10_add_22 ?_
  refine zP_iadd (pc := 23) C dX10_add_23 h fun v23 hv23 h => ?_
  refine zP_iload_n (pc := 24) C (x := zI x2) dX10_add_24 rfl rfl ?_
  refine zP_iast (pc := 25) (a := b + 26) C dX10_add_25 (s_X10_numbers hb) hv23 hx2 h fun d h => ?_
  refine zP_aload_n (pc := 26) C (x := zad V (b + 25)) dX10_add_26 rfl rfl ?_
  refine zP_getR (pc := 27) (a := b + 25) (t := b + 26) C g10_18 dX10_add_27 (s_X10 hb) rfl ?_
  refine zP_iload (pc := 30) C (x := zI v5) dX10_add_30 rfl ?_
  refine zP_iconst (pc := 32) C dX10_add_32 ?_
  refine zP_iadd (pc := 33) C dX10_add_33 h fun v33 hv33 h => ?_
  refine zP_iload_n (pc := 34) C (x := zI x3) dX10_add_34 rfl rfl ?_
  refine zP_iast (pc := 35) (a := b + 26) C dX10_add_35 (s_X10_numbers hb) hv33 hx3 h fun d h => ?_
  refine zP_aload_n (pc := 36) C (x := zad V (b + 25)) dX10_add_36 rfl rfl ?_
  refine zP_getR (pc := 37) (a := b + 25) (t := b + 26) C g10_18 dX10_add_37 (s_X10 hb) rfl ?_
  refine zP_iload (pc := 40) C (x := zI v5) dX10_add_40 rfl ?_
  refine zP_iconst (pc := 42) C dX10_add_42 ?_
  refine zP_iadd (pc := 43) C dX10_add_43 h fun v43 hv43 h => ?_
  refine zP_iload (pc := 44) C (x := zI x4) dX10_add_44 rfl ?_
  refine zP_iast (pc := 46) (a := b + 26) C dX10_add_46 (s_X10_numbers hb) hv43 hx4 h fun d h => ?_
  refine zP_aload_n (pc := 47) C (x := zad V (b + 25)) dX10_add_47 rfl rfl ?_
  refine zP_getR (pc := 48) (a := b + 25) (t := b + 26) C g10_18 dX10_add_48 (s_X10 hb) rfl ?_
  refine zP_iload (pc := 51) C (x := zI v5) dX10_add_51 rfl ?_
  refine zP_iconst (pc := 53) C dX10_add_53 ?_
  refine zP_iadd (pc := 54) C dX10_add_54 h fun v54 hv54 h => ?_
  refine zP_iload (pc := 55) C (x := zI x5) dX10_add_55 rfl ?_
  refine zP_iast (pc := 57) (a := b + 26) C dX10_add_57 (s_X10_numbers hb) hv54 hx5 h fun d h => ?_
  refine zP_aload_n (pc := 58) C (x := zad V (b + 25)) dX10_add_58 rfl rfl ?_
  refine zP_aload_n (pc := 59) C (x := zad V (b + 25)) dX10_add_59 rfl rfl ?_
  refine zP_getI (pc := 60) (a := b + 25) C g10_15 dX10_add_60 (s_X10 hb) rfl h fun v60 hv60 h => ?_
  refine zP_iconst (pc := 63) C dX10_add_63 ?_
  refine zP_iadd (pc := 64) C dX10_add_64 h fun v64 hv64 h => ?_
  refine zP_bipush (pc := 65) C dX10_add_65 rfl ?_
  refine zP_irem (pc := 67) C dX10_add_67 (zRk rfl) h fun v67 hv67 h => ?_
  refine zP_putI (pc := 68) (a := b + 25) C p10_15 dX10_add_68 (s_X10 hb) rfl hv67 h fun d h => ?_
  refine zP_aload_n (pc := 71) C (x := zad V (b + 25)) dX10_add_71 rfl rfl ?_
  refine zP_getI (pc := 72) (a := b + 25) C g10_9 dX10_add_72 (s_X10 hb) rfl h fun v72 hv72 h => ?_
  refine zP_bipush (pc := 75) C dX10_add_75 rfl ?_
  refine zP_icmp_ge (pc := 77) (tgt := 90) C dX10_add_77 rfl hv72 (zRk rfl) h (fun _ h => ?_) (fun _ h => ?_)
  · exact zP_vret (pc := 90) C E dX10_add_90 h
  · refine zP_aload_n (pc := 80) C (x := zad V (b + 25)) dX10_add_80 rfl rfl ?_
    refine zP_dup (pc := 81) C dX10_add_81 rfl ?_
    refine zP_getI (pc := 82) (a := b + 25) C g10_9 dX10_add_82 (s_X10 hb) rfl h fun v82 hv82 h => ?_
    refine zP_iconst (pc := 85) C dX10_add_85 ?_
    refine zP_iadd (pc := 86) C dX10_add_86 h fun v86 hv86 h => ?_
    refine zP_putI (pc := 87) (a := b + 25) C p10_9 dX10_add_87 (s_X10 hb) rfl hv86 h fun d h => ?_
    exact zP_vret (pc := 90) C E dX10_add_90 h
def l_X3_countIn_4F (b : Nat) (r4 : Int → Int → Int → zD → Option (Int × zD)) (x1 x2 x3 : Int) (d : zD) : Option (Int × zD) :=
  zl (d (b + 1) 0) fun v6 =>
  if (v6 : Int) ≤ x3 then (
    some (x2, d))
  else (
    zg 40 x3 <| zl (d (b + 5) (x3 : Int).toNat) fun v17 =>
    if (v17 : Int) = x1 then (
      zl (zw (x2 + 1)) fun v22 =>
      zl (zw (x3 + 1)) fun v25 =>
      r4 x1 v22 v25 d)
    else (
      zl (zw (x3 + 1)) fun v25 =>
      r4 x1 x2 v25 d))
theorem wl_X3_countIn_4F {V : zW} {X : zX} {b : Nat} (hb : zo2 V b) (C : zOk V X cX3_countIn RX3 4 (zrm 0) (some .int)) {rv : Int} {dz : zD} (E : zEnd V X (some (.int (zI rv))) (zR rv) dz) {r4 : Int → Int → Int → zD → Option (Int × zD)} (hr4 : ∀ {x1 x2 x3 : Int} {d : zD}, zR x1 → zR x2 → zR x3 → r4 x1 x2 x3 d = some (rv, dz) → zP V X 4 0 0 4 [some (.ref (zad V (b + 1))), some (.int (zI x1)), some (.int (zI x2)), some (.int (zI x3))] [] d) {x1 x2 x3 : Int} (hx1 : zR x1) (hx2 : zR x2) (hx3 : zR x3) {d : zD} (h : l_X3_countIn_4F b r4 x1 x2 x3 d = some (rv, dz)) : zP V X 4 0 0 4 [some (.ref (zad V (b + 1))), some (.int (zI x1)), some (.int (zI x2)), some (.int (zI x3))] [] d := by
  refine zP_iload_n (pc := 4) C (x := zI x3) dX3_countIn_4 rfl rfl ?_
  refine zP_aload_n (pc := 5) C (x := zad V (b + 1)) dX3_countIn_5 rfl rfl ?_
  refine zP_getI (pc := 6) (a := b + 1) C g3_9 dX3_countIn_6 (s_X3 hb) rfl h fun v6 hv6 h => ?_
  refine zP_icmp_ge (pc := 9) (tgt := 31) C dX3_countIn_9 rfl hx3 hv6 h (fun _ h => ?_) (fun _ h => ?_)
  · refine zP_iload_n (pc := 31) C (x := zI x2) dX3_countIn_31 rfl rfl ?_
    exact zP_iret (pc := 32) C E dX3_countIn_32 hx2 h
  · refine zP_aload_n (pc := 12) C (x := zad V (b + 1)) dX3_countIn_12 rfl rfl ?_
    refine zP_getR (pc := 13) (a := b + 1) (t := b + 5) C g3_25 dX3_countIn_13 (s_X3 hb) rfl ?_
    refine zP_iload_n (pc := 16) C (x := zI x3) dX3_countIn_16 rfl rfl ?_
    refine zP_iald (pc := 17) (a := b + 5) C dX3_countIn_17 (s_X3_states hb) hx3 h fun v17 hv17 h => ?_
    refine zP_iload_n (pc := 18) C (x := zI x1) dX3_countIn_18 rfl rfl ?_
    refine zP_icmp_ne (pc := 19) (tgt := 25) C dX3_countIn_19 rfl hv17 hx1 h (fun _ h => ?_) (fun _ h => ?_)
    · refine zP_iinc (pc := 25) C (x := x3) dX3_countIn_25 rfl (Nat.le_of_ble_eq_true rfl) rfl h fun v25 hv25 h => ?_
      show zP V X 4 0 0 28 [some (.ref (zad V (b + 1))), some (.int (zI x1)), some (.int (zI x2)), some (.int (zI v25))] _ _
      refine zP_goto (pc := 28) (tgt := 4) C dX3_countIn_28 rfl ?_
      exact zP_mask [true, true, true, true] (hr4 hx1 hx2 hv25 h)
    · refine zP_iinc (pc := 22) C (x := x2) dX3_countIn_22 rfl (Nat.le_of_ble_eq_true rfl) rfl h fun v22 hv22 h => ?_
      show zP V X 4 0 0 25 [some (.ref (zad V (b + 1))), some (.int (zI x1)), some (.int (zI v22)), some (.int (zI x3))] _ _
      refine zP_iinc (pc := 25) C (x := x3) dX3_countIn_25 rfl (Nat.le_of_ble_eq_true rfl) rfl h fun v25 hv25 h => ?_
      show zP V X 4 0 0 28 [some (.ref (zad V (b + 1))), some (.int (zI x1)), some (.int (zI v22)), some (.int (zI v25))] _ _
      refine zP_goto (pc := 28) (tgt := 4) C dX3_countIn_28 rfl ?_
      exact zP_mask [true, true, true, true] (hr4 hx1 hv22 hv25 h)
def l_X3_countIn_4 (b : Nat)  : Nat → Int → Int → Int → zD → Option (Int × zD)
  | 0, _, _, _, _ => none
  | q + 1, x1, x2, x3, d => l_X3_countIn_4F b  (l_X3_countIn_4 b  q) x1 x2 x3 d
theorem wl_X3_countIn_4 {V : zW} {X : zX} {b : Nat} (hb : zo2 V b) (C : zOk V X cX3_countIn RX3 4 (zrm 0) (some .int)) {rv : Int} {dz : zD} (E : zEnd V X (some (.int (zI rv))) (zR rv) dz)  : ∀ (q : Nat) {x1 x2 x3 : Int} (hx1 : zR x1) (hx2 : zR x2) (hx3 : zR x3) {d : zD} (h : l_X3_countIn_4 b  q x1 x2 x3 d = some (rv, dz)), zP V X 4 0 0 4 [some (.ref (zad V (b + 1))), some (.int (zI x1)), some (.int (zI x2)), some (.int (zI x3))] [] d := by
  intro q
  induction q with
  | zero => intro x1 x2 x3 hx1 hx2 hx3 d h; cases (show (none : Option (Int × zD)) = some (rv, dz) from h)
  | succ q ih =>
    intro x1 x2 x3 hx1 hx2 hx3 d h
    exact wl_X3_countIn_4F hb C E  (fun  hx1 hx2 hx3 h => ih hx1 hx2 hx3 h) hx1 hx2 hx3 h
def f_X3_countIn (b : Nat) (x1 : Int) (d : zD) : Option (Int × zD) :=
  l_X3_countIn_4 b  zF x1 0 0 d
theorem t_X3_countIn {V : zW} {b : Nat} (hb : zo2 V b) {x1 : Int} (hx1 : zR x1) {d dz : zD} {rv : Int} (h : f_X3_countIn b x1 d = some (rv, dz)) : zMet V 0 yX3_countIn cX3_countIn 4 (some .int) [.ref (zad V (b + 1)), .int (zI x1)] d (some (.int (zI rv))) (zR rv) dz := by
  refine zMet_by RX3 pn3 rfl (Nat.le_of_ble_eq_true rfl) [some (.ref (zad V (b + 1))), some (.int (zI x1)), none, none] rfl fun X C E => ?_
  refine zP_iconst (pc := 0) C dX3_countIn_0 ?_
  refine zP_istore_n (pc := 1) C (L' := [some (.ref (zad V (b + 1))), some (.int (zI x1)), some (.int (zI 0)), none]) dX3_countIn_1 rfl (Nat.le_of_ble_eq_true rfl) rfl rfl ?_
  refine zP_iconst (pc := 2) C dX3_countIn_2 ?_
  refine zP_istore_n (pc := 3) C (L' := [some (.ref (zad V (b + 1))), some (.int (zI x1)), some (.int (zI 0)), some (.int (zI 0))]) dX3_countIn_3 rfl (Nat.le_of_ble_eq_true rfl) rfl rfl ?_
  exact zP_mask [true, true, true, true] (wl_X3_countIn_4 hb C E  zF hx1 (zRk rfl) (zRk rfl) h)
def f_X6_letterOf (s : Nat) (x1 x2 : Int) (d : zD) : Option (Int × zD) :=
  zc (f_X6_has s x1 d) fun v2 d =>
  if (v2 : Int) = 0 then (
    some (0, d))
  else (
    if (x2 : Int) < 0 then (
      some (0, d))
    else (
      if (x2 : Int) < 6 then (
        zg 8 x1 <| zl (d (s + 1) (x1 : Int).toNat) fun v25 =>
        zl (zw (5 * x2)) fun v28 =>
        zl (zshr v25 v28) fun v29 =>
        zl (zand v29 31) fun v32 =>
        some (v32, d))
      else (
        some (0, d))))
def l_X4_messageAt_27F (b : Nat) (r27 : Int → Int → Int → Int → zD → Option (Int × zD)) (x1 x3 x4 x5 : Int) (d : zD) : Option (Int × zD) :=
  if (x3 : Int) ≤ x5 then (
    some (x4, d))
  else (
    zc (f_X4_nextOf b x1 x4 d) fun v37 d =>
    zl (zw (x5 + 1)) fun v42 =>
    r27 x1 x3 v37 v42 d)
theorem wl_X4_messageAt_27F {V : zW} {X : zX} {b : Nat} (hb : zo2 V b) (C : zOk V X cX4_messageAt RX4 6 (zrm 1) (some .int)) {rv : Int} {dz : zD} (E : zEnd V X (some (.int (zI rv))) (zR rv) dz) {r27 : Int → Int → Int → Int → zD → Option (Int × zD)} (hr27 : ∀ {x1 x3 x4 x5 : Int} {d : zD}, zR x1 → zR x3 → zR x4 → zR x5 → r27 x1 x3 x4 x5 d = some (rv, dz) → zP V X 6 0 0 27 [some (.ref (zad V (b + 10))), some (.int (zI x1)), none, some (.int (zI x3)), some (.int (zI x4)), some (.int (zI x5))] [] d) {x1 x3 x4 x5 : Int} (hx1 : zR x1) (hx3 : zR x3) (hx4 : zR x4) (hx5 : zR x5) {d : zD} (h : l_X4_messageAt_27F b r27 x1 x3 x4 x5 d = some (rv, dz)) : zP V X 6 0 0 27 [some (.ref (zad V (b + 10))), some (.int (zI x1)), none, some (.int (zI x3)), some (.int (zI x4)), some (.int (zI x5))] [] d := by
  refine zP_iload (pc := 27) C (x := zI x5) dX4_messageAt_27 rfl ?_
  refine zP_iload_n (pc := 29) C (x := zI x3) dX4_messageAt_29 rfl rfl ?_
  refine zP_icmp_ge (pc := 30) (tgt := 48) C dX4_messageAt_30 rfl hx5 hx3 h (fun _ h => ?_) (fun _ h => ?_)
  · refine zP_iload (pc := 48) C (x := zI x4) dX4_messageAt_48 rfl ?_
    exact zP_iret (pc := 50) C E dX4_messageAt_50 hx4 h
  · refine zP_aload_n (pc := 33) C (x := zad V (b + 10)) dX4_messageAt_33 rfl rfl ?_
    refine zP_iload_n (pc := 34) C (x := zI x1) dX4_messageAt_34 rfl rfl ?_
    refine zP_iload (pc := 35) C (x := zI x4) dX4_messageAt_35 rfl ?_
    obtain ⟨v37, d1, hc, h⟩ := zc_h h
    refine zP_callV (pc := 37) (As := [.int (zI x1), .int (zI x4)]) (st := []) C m4_31 dX4_messageAt_37 (s_X4 hb) rfl (t_X4_nextOf hb hx1 hx4 hc) ⟨Nat.le_of_ble_eq_true rfl, Nat.le_of_ble_eq_true rfl⟩ rfl (Nat.le_of_ble_eq_true rfl) ⟨Nat.zero_le _, Nat.zero_le _⟩ fun hw => ?_
    have hv37 := hw
    clear hc hw
    show zP V X 6 0 0 40 _ [.int (zI v37)] d1
    revert h
    generalize d1 = d
    intro h
    refine zP_istore (pc := 40) C (L' := [some (.ref (zad V (b + 10))), some (.int (zI x1)), none, some (.int (zI x3)), some (.int (zI v37)), some (.int (zI x5))]) dX4_messageAt_40 (Nat.le_of_ble_eq_true rfl) rfl rfl ?_
    refine zP_iinc (pc := 42) C (x := x5) dX4_messageAt_42 rfl (Nat.le_of_ble_eq_true rfl) rfl h fun v42 hv42 h => ?_
    show zP V X 6 0 0 45 [some (.ref (zad V (b + 10))), some (.int (zI x1)), none, some (.int (zI x3)), some (.int (zI v37)), some (.int (zI v42))] _ _
    refine zP_goto (pc := 45) (tgt := 27) C dX4_messageAt_45 rfl ?_
    exact zP_mask [true, true, false, true, true, true] (hr27 hx1 hx3 hv37 hv42 h)
def l_X4_messageAt_27 (b : Nat)  : Nat → Int → Int → Int → Int → zD → Option (Int × zD)
  | 0, _, _, _, _, _ => none
  | q + 1, x1, x3, x4, x5, d => l_X4_messageAt_27F b  (l_X4_messageAt_27 b  q) x1 x3 x4 x5 d
theorem wl_X4_messageAt_27 {V : zW} {X : zX} {b : Nat} (hb : zo2 V b) (C : zOk V X cX4_messageAt RX4 6 (zrm 1) (some .int)) {rv : Int} {dz : zD} (E : zEnd V X (some (.int (zI rv))) (zR rv) dz)  : ∀ (q : Nat) {x1 x3 x4 x5 : Int} (hx1 : zR x1) (hx3 : zR x3) (hx4 : zR x4) (hx5 : zR x5) {d : zD} (h : l_X4_messageAt_27 b  q x1 x3 x4 x5 d = some (rv, dz)), zP V X 6 0 0 27 [some (.ref (zad V (b + 10))), some (.int (zI x1)), none, some (.int (zI x3)), some (.int (zI x4)), some (.int (zI x5))] [] d := by
  intro q
  induction q with
  | zero => intro x1 x3 x4 x5 hx1 hx3 hx4 hx5 d h; cases (show (none : Option (Int × zD)) = some (rv, dz) from h)
  | succ q ih =>
    intro x1 x3 x4 x5 hx1 hx3 hx4 hx5 d h
    exact wl_X4_messageAt_27F hb C E  (fun  hx1 hx3 hx4 hx5 h => ih hx1 hx3 hx4 hx5 h) hx1 hx3 hx4 hx5 h
def f_X4_messageAt (b : Nat) (x1 x2 x3 : Int) (d : zD) : Option (Int × zD) :=
  if (x3 : Int) < 0 then (
    some ((-1), d))
  else (
    zc (f_X4_sizeOf b x1 x2 d) fun v8 d =>
    if (x3 : Int) < v8 then (
      zc (f_X4_firstOf b x1 x2 d) fun v19 d =>
      l_X4_messageAt_27 b  zF x1 x3 v19 0 d)
    else (
      some ((-1), d)))
theorem t_X4_messageAt {V : zW} {b : Nat} (hb : zo2 V b) {x1 x2 x3 : Int} (hx1 : zR x1) (hx2 : zR x2) (hx3 : zR x3) {d dz : zD} {rv : Int} (h : f_X4_messageAt b x1 x2 x3 d = some (rv, dz)) : zMet V 1 yX4_messageAt cX4_messageAt 6 (some .int) [.ref (zad V (b + 10)), .int (zI x1), .int (zI x2), .int (zI x3)] d (some (.int (zI rv))) (zR rv) dz := by
  refine zMet_by RX4 pn4 rfl (Nat.le_of_ble_eq_true rfl) [some (.ref (zad V (b + 10))), some (.int (zI x1)), some (.int (zI x2)), some (.int (zI x3)), none, none] rfl fun X C E => ?_
  refine zP_iload_n (pc := 0) C (x := zI x3) dX4_messageAt_0 rfl rfl ?_
  refine zP_if_lt (pc := 1) (tgt := 14) C dX4_messageAt_1 rfl hx3 h (fun _ h => ?_) (fun _ h => ?_)
  · refine zP_iconst (pc := 14) C dX4_messageAt_14 ?_
    exact zP_iret (pc := 15) C E dX4_messageAt_15 (zRk rfl) h
  · refine zP_iload_n (pc := 4) C (x := zI x3) dX4_messageAt_4 rfl rfl ?_
    refine zP_aload_n (pc := 5) C (x := zad V (b + 10)) dX4_messageAt_5 rfl rfl ?_
    refine zP_iload_n (pc := 6) C (x := zI x1) dX4_messageAt_6 rfl rfl ?_
    refine zP_iload_n (pc := 7) C (x := zI x2) dX4_messageAt_7 rfl rfl ?_
    obtain ⟨v8, d1, hc, h⟩ := zc_h h
    refine zP_callV (pc := 8) (As := [.int (zI x1), .int (zI x2)]) (st := [.int (zI x3)]) C m4_24 dX4_messageAt_8 (s_X4 hb) rfl (t_X4_sizeOf hb hx1 hx2 hc) ⟨Nat.le_of_ble_eq_true rfl, Nat.le_of_ble_eq_true rfl⟩ rfl (Nat.le_of_ble_eq_true rfl) ⟨Nat.zero_le _, Nat.zero_le _⟩ fun hw => ?_
    have hv8 := hw
    clear hc hw
    show zP V X 6 0 0 11 _ [.int (zI v8), .int (zI x3)] d1
    revert h
    generalize d1 = d
    intro h
    refine zP_icmp_lt (pc := 11) (tgt := 16) C dX4_messageAt_11 rfl hx3 hv8 h (fun _ h => ?_) (fun _ h => ?_)
    · refine zP_aload_n (pc := 16) C (x := zad V (b + 10)) dX4_messageAt_16 rfl rfl ?_
      refine zP_iload_n (pc := 17) C (x := zI x1) dX4_messageAt_17 rfl rfl ?_
      refine zP_iload_n (pc := 18) C (x := zI x2) dX4_messageAt_18 rfl rfl ?_
      obtain ⟨v19, d1, hc, h⟩ := zc_h h
      refine zP_callV (pc := 19) (As := [.int (zI x1), .int (zI x2)]) (st := []) C m4_28 dX4_messageAt_19 (s_X4 hb) rfl (t_X4_firstOf hb hx1 hx2 hc) ⟨Nat.le_of_ble_eq_true rfl, Nat.le_of_ble_eq_true rfl⟩ rfl (Nat.le_of_ble_eq_true rfl) ⟨Nat.zero_le _, Nat.zero_le _⟩ fun hw => ?_
      have hv19 := hw
      clear hc hw
      show zP V X 6 0 0 22 _ [.int (zI v19)] d1
      revert h
      generalize d1 = d
      intro h
      refine zP_istore (pc := 22) C (L' := [some (.ref (zad V (b + 10))), some (.int (zI x1)), some (.int (zI x2)), some (.int (zI x3)), some (.int (zI v19)), none]) dX4_messageAt_22 (Nat.le_of_ble_eq_true rfl) rfl rfl ?_
      refine zP_iconst (pc := 24) C dX4_messageAt_24 ?_
      refine zP_istore (pc := 25) C (L' := [some (.ref (zad V (b + 10))), some (.int (zI x1)), some (.int (zI x2)), some (.int (zI x3)), some (.int (zI v19)), some (.int (zI 0))]) dX4_messageAt_25 (Nat.le_of_ble_eq_true rfl) rfl rfl ?_
      exact zP_mask [true, true, false, true, true, true] (wl_X4_messageAt_27 hb C E  zF hx1 hx3 hv19 (zRk rfl) h)
    · refine zP_iconst (pc := 14) C dX4_messageAt_14 ?_
      exact zP_iret (pc := 15) C E dX4_messageAt_15 (zRk rfl) h
def f_X10_numberOf (b : Nat) (x1 x2 : Int) (d : zD) : Option (Int × zD) :=
  zl (d (b + 25) 1) fun v1 =>
  zl (zw (v1 - 1)) fun v5 =>
  zl (zw (v5 - x1)) fun v7 =>
  zl (zw (v7 + 40)) fun v10 =>
  zn 20 <| zl (zrem v10 20) fun v13 =>
  zl (zw (v13 * 5)) fun v21 =>
  zl (zw (v21 + x2)) fun v23 =>
  zg 100 v23 <| zl (d (b + 26) (v23 : Int).toNat) fun v24 =>
  some (v24, d)
theorem t_X10_numberOf {V : zW} {b : Nat} (hb : zo2 V b) {x1 x2 : Int} (hx1 : zR x1) (hx2 : zR x2) {d dz : zD} {rv : Int} (h : f_X10_numberOf b x1 x2 d = some (rv, dz)) : zMet V 0 yX10_numberOf cX10_numberOf 4 (some .int) [.ref (zad V (b + 25)), .int (zI x1), .int (zI x2)] d (some (.int (zI rv))) (zR rv) dz := by
  refine zMet_by RX10 pn10 rfl (Nat.le_of_ble_eq_true rfl) [some (.ref (zad V (b + 25))), some (.int (zI x1)), some (.int (zI x2)), none] rfl fun X C E => ?_
  refine zP_aload_n (pc := 0) C (x := zad V (b + 25)) dX10_numberOf_0 rfl rfl ?_
  refine zP_getI (pc := 1) (a := b + 25) C g10_15 dX10_numberOf_1 (s_X10 hb) rfl h fun v1 hv1 h => ?_
  refine zP_iconst (pc := 4) C dX10_numberOf_4 ?_
  refine zP_isub (pc := 5) C dX10_numberOf_5 h fun v5 hv5 h => ?_
  refine zP_iload_n (pc := 6) C (x := zI x1) dX10_numberOf_6 rfl rfl ?_
  refine zP_isub (pc := 7) C dX10_numberOf_7 h fun v7 hv7 h => ?_
  refine zP_bipush (pc := 8) C dX10_numberOf_8 rfl ?_
  refine zP_iadd (pc := 10) C dX10_numberOf_10 h fun v10 hv10 h => ?_
  refine zP_bipush (pc := 11) C dX10_numberOf_11 rfl ?_
  refine zP_irem (pc := 13) C dX10_numberOf_13 (zRk rfl) h fun v13 hv13 h => ?_
  refine zP_istore_n (pc := 14) C (L' := [some (.ref (zad V (b + 25))), some (.int (zI x1)), some (.int (zI x2)), some (.int (zI v13))]) dX10_numberOf_14 rfl (Nat.le_of_ble_eq_true rfl) rfl rfl ?_
  refine zP_aload_n (pc := 15) C (x := zad V (b + 25)) dX10_numberOf_15 rfl rfl ?_
  refine zP_getR (pc := 16) (a := b + 25) (t := b + 26) C g10_18 dX10_numberOf_16 (s_X10 hb) rfl ?_
  refine zP_iload_n (pc := 19) C (x := zI v13) dX10_numberOf_19 rfl rfl ?_
  refine zP_iconst (pc := 20) C dX10_numberOf_20 ?_
  refine zP_imul (pc := 21) C dX10_numberOf_21 h fun v21 hv21 h => ?_
  refine zP_iload_n (pc := 22) C (x := zI x2) dX10_numberOf_22 rfl rfl ?_
  refine zP_iadd (pc := 23) C dX10_numberOf_23 h fun v23 hv23 h => ?_
  refine zP_iald (pc := 24) (a := b + 26) C dX10_numberOf_24 (s_X10_numbers hb) hv23 h fun v24 hv24 h => ?_
  exact zP_iret (pc := 25) C E dX10_numberOf_25 hv24 h
def f_X8_oftenOf (b : Nat) (x1 x2 : Int) (d : zD) : Option (Int × zD) :=
  zl (zw (x1 * 8)) fun v3 =>
  zl (zw (v3 + x2)) fun v5 =>
  if (v5 : Int) < 0 then (
    some (0, d))
  else (
    if (32 : Int) ≤ v5 then (
      some (0, d))
    else (
      zg 32 v5 <| zl (d (b + 24) (v5 : Int).toNat) fun v22 =>
      some (v22, d)))
theorem t_X8_oftenOf {V : zW} {b : Nat} (hb : zo2 V b) {x1 x2 : Int} (hx1 : zR x1) (hx2 : zR x2) {d dz : zD} {rv : Int} (h : f_X8_oftenOf b x1 x2 d = some (rv, dz)) : zMet V 0 yX8_oftenOf cX8_oftenOf 4 (some .int) [.ref (zad V (b + 15)), .int (zI x1), .int (zI x2)] d (some (.int (zI rv))) (zR rv) dz := by
  refine zMet_by RX8 pn8 rfl (Nat.le_of_ble_eq_true rfl) [some (.ref (zad V (b + 15))), some (.int (zI x1)), some (.int (zI x2)), none] rfl fun X C E => ?_
  refine zP_iload_n (pc := 0) C (x := zI x1) dX8_oftenOf_0 rfl rfl ?_
  refine zP_bipush (pc := 1) C dX8_oftenOf_1 rfl ?_
  refine zP_imul (pc := 3) C dX8_oftenOf_3 h fun v3 hv3 h => ?_
  refine zP_iload_n (pc := 4) C (x := zI x2) dX8_oftenOf_4 rfl rfl ?_
  refine zP_iadd (pc := 5) C dX8_oftenOf_5 h fun v5 hv5 h => ?_
  refine zP_istore_n (pc := 6) C (L' := [some (.ref (zad V (b + 15))), some (.int (zI x1)), some (.int (zI x2)), some (.int (zI v5))]) dX8_oftenOf_6 rfl (Nat.le_of_ble_eq_true rfl) rfl rfl ?_
  refine zP_iload_n (pc := 7) C (x := zI v5) dX8_oftenOf_7 rfl rfl ?_
  refine zP_if_lt (pc := 8) (tgt := 26) C dX8_oftenOf_8 rfl hv5 h (fun _ h => ?_) (fun _ h => ?_)
  · refine zP_iconst (pc := 26) C dX8_oftenOf_26 ?_
    exact zP_iret (pc := 27) C E dX8_oftenOf_27 (zRk rfl) h
  · refine zP_iload_n (pc := 11) C (x := zI v5) dX8_oftenOf_11 rfl rfl ?_
    refine zP_bipush (pc := 12) C dX8_oftenOf_12 rfl ?_
    refine zP_icmp_ge (pc := 14) (tgt := 26) C dX8_oftenOf_14 rfl hv5 (zRk rfl) h (fun _ h => ?_) (fun _ h => ?_)
    · refine zP_iconst (pc := 26) C dX8_oftenOf_26 ?_
      exact zP_iret (pc := 27) C E dX8_oftenOf_27 (zRk rfl) h
    · refine zP_aload_n (pc := 17) C (x := zad V (b + 15)) dX8_oftenOf_17 rfl rfl ?_
      refine zP_getR (pc := 18) (a := b + 15) (t := b + 24) C g8_36 dX8_oftenOf_18 (s_X8 hb) rfl ?_
      refine zP_iload_n (pc := 21) C (x := zI v5) dX8_oftenOf_21 rfl rfl ?_
      refine zP_iald (pc := 22) (a := b + 24) C dX8_oftenOf_22 (s_X8_often hb) hv5 h fun v22 hv22 h => ?_
      refine zP_goto (pc := 23) (tgt := 27) C dX8_oftenOf_23 rfl ?_
      exact zP_iret (pc := 27) C E dX8_oftenOf_27 hv22 h
def l_X3_sumOfTimes_4F (b : Nat) (r4 : Int → Int → zD → Option (Int × zD)) (x1 x2 : Int) (d : zD) : Option (Int × zD) :=
  zl (d (b + 1) 0) fun v6 =>
  if (v6 : Int) ≤ x2 then (
    some (x1, d))
  else (
    zg 40 x2 <| zl (d (b + 5) (x2 : Int).toNat) fun v17 =>
    if (v17 : Int) = 3 then (
      zg 40 x2 <| zl (d (b + 9) (x2 : Int).toNat) fun v28 =>
      zg 40 x2 <| zl (d (b + 6) (x2 : Int).toNat) fun v34 =>
      zl (zw (v28 - v34)) fun v35 =>
      zl (zw (x1 + v35)) fun v36 =>
      zl (zw (x2 + 1)) fun v38 =>
      r4 v36 v38 d)
    else (
      zl (zw (x2 + 1)) fun v38 =>
      r4 x1 v38 d))
def l_X3_sumOfTimes_4 (b : Nat)  : Nat → Int → Int → zD → Option (Int × zD)
  | 0, _, _, _ => none
  | q + 1, x1, x2, d => l_X3_sumOfTimes_4F b  (l_X3_sumOfTimes_4 b  q) x1 x2 d
def f_X3_sumOfTimes (b : Nat) (d : zD) : Option (Int × zD) :=
  l_X3_sumOfTimes_4 b  zF 0 0 d