/-! The line's, the host's, the history's methods over the pure heap. -/
def l_X2_begin_31F (b : Nat) (r31 : Int → zD → Option (Int × zD)) (x2 : Int) (d : zD) : Option (Int × zD) :=
  if (13 : Int) ≤ x2 then (
    zcg 6 6 0 0 6 <| zl (zcp d (d 18) (0 : Int).toNat (b + 27) (0 : Int).toNat (6 : Int).toNat) fun d =>
    zcg 16 16 0 0 16 <| zl (zcp d (d 19) (0 : Int).toNat (b + 29) (0 : Int).toNat (16 : Int).toNat) fun d =>
    zl (d 12 4) fun v82 =>
    zl (zu d b 8 v82) fun d =>
    zl (zu d b 9 0) fun d =>
    zl (zu d b 10 0) fun d =>
    zl (d 12 5) fun v100 =>
    zl (zu d b 11 v100) fun d =>
    zl (zu d b 12 (-1)) fun d =>
    zl (zu d b 13 (-1)) fun d =>
    zl (zu d b 14 (-1)) fun d =>
    zl (zu d b 15 0) fun d =>
    some (0, d))
  else (
    zg 13 x2 <| zl (zu d (b + 28) (x2 : Int).toNat 0) fun d =>
    zl (zw (x2 + 1)) fun v44 =>
    r31 v44 d)
theorem wl_X2_begin_31F {V : zW} {X : zX} {b : Nat} (hb : zo2 V b) (hT1 : zo7 V) (C : zOk V X cX2_begin RX2 3 (zrm 2) none) {rv : Int} {dz : zD} (E : zEnd V X none (rv = 0) dz) {r31 : Int → zD → Option (Int × zD)} (hr31 : ∀ {x2 : Int} {d : zD}, zR x2 → r31 x2 d = some (rv, dz) → zP V X 3 0 0 31 [some (.ref (zad V b)), some (.ref (zad V 12)), some (.int (zI x2))] [] d) {x2 : Int} (hx2 : zR x2) {d : zD} (h : l_X2_begin_31F b r31 x2 d = some (rv, dz)) : zP V X 3 0 0 31 [some (.ref (zad V b)), some (.ref (zad V 12)), some (.int (zI x2))] [] d := by
  refine zP_iload_n (pc := 31) C (x := zI x2) dX2_begin_31 rfl rfl ?_
  refine zP_bipush (pc := 32) C dX2_begin_32 rfl ?_
  refine zP_icmp_ge (pc := 34) (tgt := 50) C dX2_begin_34 rfl hx2 (zRk rfl) h (fun _ h => ?_) (fun _ h => ?_)
  · refine zP_aload_n (pc := 50) C (x := zad V 12) dX2_begin_50 rfl rfl ?_
    refine zP_getR (pc := 51) (a := 12) (t := 18) C g2_86 dX2_begin_51 (s_X7 hT1) rfl ?_
    refine zP_iconst (pc := 54) C dX2_begin_54 ?_
    refine zP_aload_n (pc := 55) C (x := zad V b) dX2_begin_55 rfl rfl ?_
    refine zP_getR (pc := 56) (a := b) (t := b + 27) C g2_39 dX2_begin_56 (s_X2 hb) rfl ?_
    refine zP_iconst (pc := 59) C dX2_begin_59 ?_
    refine zP_bipush (pc := 60) C dX2_begin_60 rfl ?_
    refine zP_copy (pc := 62) (a0 := 18) (a := b + 27) C ac2_89 dX2_begin_62 (s_X7_settings hT1) (s_X2_settings hb) (zRk rfl) (zRk rfl) (zRk rfl) ⟨Nat.le_of_ble_eq_true rfl, Nat.le_of_ble_eq_true rfl⟩ h fun d h => ?_
    refine zP_aload_n (pc := 65) C (x := zad V 12) dX2_begin_65 rfl rfl ?_
    refine zP_getR (pc := 66) (a := 12) (t := 19) C g2_95 dX2_begin_66 (s_X7 hT1) rfl ?_
    refine zP_iconst (pc := 69) C dX2_begin_69 ?_
    refine zP_aload_n (pc := 70) C (x := zad V b) dX2_begin_70 rfl rfl ?_
    refine zP_getR (pc := 71) (a := b) (t := b + 29) C g2_46 dX2_begin_71 (s_X2 hb) rfl ?_
    refine zP_iconst (pc := 74) C dX2_begin_74 ?_
    refine zP_bipush (pc := 75) C dX2_begin_75 rfl ?_
    refine zP_copy (pc := 77) (a0 := 19) (a := b + 29) C ac2_89 dX2_begin_77 (s_X7_list hT1) (s_X2_list hb) (zRk rfl) (zRk rfl) (zRk rfl) ⟨Nat.le_of_ble_eq_true rfl, Nat.le_of_ble_eq_true rfl⟩ h fun d h => ?_
    refine zP_aload_n (pc := 80) C (x := zad V b) dX2_begin_80 rfl rfl ?_
    refine zP_aload_n (pc := 81) C (x := zad V 12) dX2_begin_81 rfl rfl ?_
    refine zP_getI (pc := 82) (a := 12) C g2_96 dX2_begin_82 (s_X7 hT1) rfl h fun v82 hv82 h => ?_
    refine zP_putI (pc := 85) (a := b) C p2_49 dX2_begin_85 (s_X2 hb) rfl hv82 h fun d h => ?_
    refine zP_aload_n (pc := 88) C (x := zad V b) dX2_begin_88 rfl rfl ?_
    refine zP_iconst (pc := 89) C dX2_begin_89 ?_
    refine zP_putI (pc := 90) (a := b) C p2_53 dX2_begin_90 (s_X2 hb) rfl (zRk rfl) h fun d h => ?_
    refine zP_aload_n (pc := 93) C (x := zad V b) dX2_begin_93 rfl rfl ?_
    refine zP_iconst (pc := 94) C dX2_begin_94 ?_
    refine zP_putI (pc := 95) (a := b) C p2_56 dX2_begin_95 (s_X2 hb) rfl (zRk rfl) h fun d h => ?_
    refine zP_aload_n (pc := 98) C (x := zad V b) dX2_begin_98 rfl rfl ?_
    refine zP_aload_n (pc := 99) C (x := zad V 12) dX2_begin_99 rfl rfl ?_
    refine zP_getI (pc := 100) (a := 12) C g2_97 dX2_begin_100 (s_X7 hT1) rfl h fun v100 hv100 h => ?_
    refine zP_putI (pc := 103) (a := b) C p2_59 dX2_begin_103 (s_X2 hb) rfl hv100 h fun d h => ?_
    refine zP_aload_n (pc := 106) C (x := zad V b) dX2_begin_106 rfl rfl ?_
    refine zP_iconst (pc := 107) C dX2_begin_107 ?_
    refine zP_putI (pc := 108) (a := b) C p2_62 dX2_begin_108 (s_X2 hb) rfl (zRk rfl) h fun d h => ?_
    refine zP_aload_n (pc := 111) C (x := zad V b) dX2_begin_111 rfl rfl ?_
    refine zP_iconst (pc := 112) C dX2_begin_112 ?_
    refine zP_putI (pc := 113) (a := b) C p2_65 dX2_begin_113 (s_X2 hb) rfl (zRk rfl) h fun d h => ?_
    refine zP_aload_n (pc := 116) C (x := zad V b) dX2_begin_116 rfl rfl ?_
    refine zP_iconst (pc := 117) C dX2_begin_117 ?_
    refine zP_putI (pc := 118) (a := b) C p2_68 dX2_begin_118 (s_X2 hb) rfl (zRk rfl) h fun d h => ?_
    refine zP_aload_n (pc := 121) C (x := zad V b) dX2_begin_121 rfl rfl ?_
    refine zP_iconst (pc := 122) C dX2_begin_122 ?_
    refine zP_putI (pc := 123) (a := b) C p2_71 dX2_begin_123 (s_X2 hb) rfl (zRk rfl) h fun d h => ?_
    exact zP_vret (pc := 126) C E dX2_begin_126 h
  · refine zP_aload_n (pc := 37) C (x := zad V b) dX2_begin_37 rfl rfl ?_
    refine zP_getR (pc := 38) (a := b) (t := b + 28) C g2_43 dX2_begin_38 (s_X2 hb) rfl ?_
    refine zP_iload_n (pc := 41) C (x := zI x2) dX2_begin_41 rfl rfl ?_
    refine zP_iconst (pc := 42) C dX2_begin_42 ?_
    refine zP_iast (pc := 43) (a := b + 28) C dX2_begin_43 (s_X2_accounts hb) hx2 (zRk rfl) h fun d h => ?_
    refine zP_iinc (pc := 44) C (x := x2) dX2_begin_44 rfl (Nat.le_of_ble_eq_true rfl) rfl h fun v44 hv44 h => ?_
    show zP V X 3 0 0 47 [some (.ref (zad V b)), some (.ref (zad V 12)), some (.int (zI v44))] _ _
    refine zP_goto (pc := 47) (tgt := 31) C dX2_begin_47 rfl ?_
    exact zP_mask [true, true, true] (hr31 hv44 h)
def l_X2_begin_31 (b : Nat)  : Nat → Int → zD → Option (Int × zD)
  | 0, _, _ => none
  | q + 1, x2, d => l_X2_begin_31F b  (l_X2_begin_31 b  q) x2 d
theorem wl_X2_begin_31 {V : zW} {X : zX} {b : Nat} (hb : zo2 V b) (hT1 : zo7 V) (C : zOk V X cX2_begin RX2 3 (zrm 2) none) {rv : Int} {dz : zD} (E : zEnd V X none (rv = 0) dz)  : ∀ (q : Nat) {x2 : Int} (hx2 : zR x2) {d : zD} (h : l_X2_begin_31 b  q x2 d = some (rv, dz)), zP V X 3 0 0 31 [some (.ref (zad V b)), some (.ref (zad V 12)), some (.int (zI x2))] [] d := by
  intro q
  induction q with
  | zero => intro x2 hx2 d h; cases (show (none : Option (Int × zD)) = some (rv, dz) from h)
  | succ q ih =>
    intro x2 hx2 d h
    exact wl_X2_begin_31F hb hT1 C E  (fun  hx2 h => ih hx2 h) hx2 h
def f_X2_begin (b : Nat) (d : zD) : Option (Int × zD) :=
  zl (zu d (b + 1) 0 0) fun d =>
  zc (f_X4_clear b  d) fun _ d =>
  zc (f_X8_clear b  d) fun _ d =>
  zc (f_X10_clear b  d) fun _ d =>
  l_X2_begin_31 b  zF 0 d
theorem t_X2_begin {V : zW} {b : Nat} (hb : zo2 V b) (hT1 : zo7 V)   {d dz : zD} {rv : Int} (h : f_X2_begin b  d = some (rv, dz)) : zMet V 2 yX2_begin cX2_begin 3 none [.ref (zad V b), .ref (zad V 12)] d none (rv = 0) dz := by
  refine zMet_by RX2 pn2 rfl (Nat.le_of_ble_eq_true rfl) [some (.ref (zad V b)), some (.ref (zad V 12)), none] rfl fun X C E => ?_
  refine zP_aload_n (pc := 0) C (x := zad V b) dX2_begin_0 rfl rfl ?_
  refine zP_getR (pc := 1) (a := b) (t := b + 1) C g2_12 dX2_begin_1 (s_X2 hb) rfl ?_
  refine zP_iconst (pc := 4) C dX2_begin_4 ?_
  refine zP_putI (pc := 5) (a := b + 1) C p2_78 dX2_begin_5 (s_X3 hb) rfl (zRk rfl) h fun d h => ?_
  refine zP_aload_n (pc := 8) C (x := zad V b) dX2_begin_8 rfl rfl ?_
  refine zP_getR (pc := 9) (a := b) (t := b + 10) C g2_21 dX2_begin_9 (s_X2 hb) rfl ?_
  obtain ⟨_, d1, hc, h⟩ := zc_h h
  refine zP_callV (pc := 12) (As := []) (st := []) C m2_81 dX2_begin_12 (s_X4 hb) rfl (t_X4_clear hb  hc) ⟨Nat.le_of_ble_eq_true rfl, Nat.le_of_ble_eq_true rfl⟩ rfl (Nat.le_of_ble_eq_true rfl) ⟨Nat.zero_le _, Nat.zero_le _⟩ fun hw => ?_
  clear hc hw
  show zP V X 3 0 0 15 _ [] d1
  revert h
  generalize d1 = d
  intro h
  refine zP_aload_n (pc := 15) C (x := zad V b) dX2_begin_15 rfl rfl ?_
  refine zP_getR (pc := 16) (a := b) (t := b + 15) C g2_28 dX2_begin_16 (s_X2 hb) rfl ?_
  obtain ⟨_, d1, hc, h⟩ := zc_h h
  refine zP_callV (pc := 19) (As := []) (st := []) C m2_84 dX2_begin_19 (s_X8 hb) rfl (t_X8_clear hb  hc) ⟨Nat.le_of_ble_eq_true rfl, Nat.le_of_ble_eq_true rfl⟩ rfl (Nat.le_of_ble_eq_true rfl) ⟨Nat.zero_le _, Nat.zero_le _⟩ fun hw => ?_
  clear hc hw
  show zP V X 3 0 0 22 _ [] d1
  revert h
  generalize d1 = d
  intro h
  refine zP_aload_n (pc := 22) C (x := zad V b) dX2_begin_22 rfl rfl ?_
  refine zP_getR (pc := 23) (a := b) (t := b + 25) C g2_35 dX2_begin_23 (s_X2 hb) rfl ?_
  obtain ⟨_, d1, hc, h⟩ := zc_h h
  refine zP_callV (pc := 26) (As := []) (st := []) C m2_85 dX2_begin_26 (s_X10 hb) rfl (t_X10_clear hb  hc) ⟨Nat.le_of_ble_eq_true rfl, Nat.le_of_ble_eq_true rfl⟩ rfl (Nat.le_of_ble_eq_true rfl) ⟨Nat.zero_le _, Nat.zero_le _⟩ fun hw => ?_
  clear hc hw
  show zP V X 3 0 0 29 _ [] d1
  revert h
  generalize d1 = d
  intro h
  refine zP_iconst (pc := 29) C dX2_begin_29 ?_
  refine zP_istore_n (pc := 30) C (L' := [some (.ref (zad V b)), some (.ref (zad V 12)), some (.int (zI 0))]) dX2_begin_30 rfl (Nat.le_of_ble_eq_true rfl) rfl rfl ?_
  exact zP_mask [true, true, true] (wl_X2_begin_31 hb hT1 C E  zF (zRk rfl) h)
def f_X2_copyFrom (b : Nat) (b1 : Nat) (d : zD) : Option (Int × zD) :=
  zc (f_X3_copyFrom b b1  d) fun _ d =>
  zc (f_X4_copyFrom b b1  d) fun _ d =>
  zc (f_X8_copyFrom b b1  d) fun _ d =>
  zc (f_X10_copyFrom b b1  d) fun _ d =>
  zcg 6 6 0 0 6 <| zl (zcp d (d (b1 + 27)) (0 : Int).toNat (b + 27) (0 : Int).toNat (6 : Int).toNat) fun d =>
  zcg 13 13 0 0 13 <| zl (zcp d (d (b1 + 28)) (0 : Int).toNat (b + 28) (0 : Int).toNat (13 : Int).toNat) fun d =>
  zcg 16 16 0 0 16 <| zl (zcp d (d (b1 + 29)) (0 : Int).toNat (b + 29) (0 : Int).toNat (16 : Int).toNat) fun d =>
  zl (d b1 8) fun v91 =>
  zl (zu d b 8 v91) fun d =>
  zl (d b1 9) fun v99 =>
  zl (zu d b 9 v99) fun d =>
  zl (d b1 10) fun v107 =>
  zl (zu d b 10 v107) fun d =>
  zl (d b1 11) fun v115 =>
  zl (zu d b 11 v115) fun d =>
  zl (d b1 12) fun v123 =>
  zl (zu d b 12 v123) fun d =>
  zl (d b1 13) fun v131 =>
  zl (zu d b 13 v131) fun d =>
  zl (d b1 14) fun v139 =>
  zl (zu d b 14 v139) fun d =>
  zl (d b1 15) fun v147 =>
  zl (zu d b 15 v147) fun d =>
  some (0, d)
theorem t_X2_copyFrom {V : zW} {b : Nat} {b1 : Nat} (hb : zo2 V b) (hb1 : zo2 V b1)   {d dz : zD} {rv : Int} (h : f_X2_copyFrom b b1  d = some (rv, dz)) : zMet V 3 yX2_copyFrom cX2_copyFrom 2 none [.ref (zad V b), .ref (zad V b1)] d none (rv = 0) dz := by
  refine zMet_by RX2 pn2 rfl (Nat.le_of_ble_eq_true rfl) [some (.ref (zad V b)), some (.ref (zad V b1))] rfl fun X C E => ?_
  refine zP_aload_n (pc := 0) C (x := zad V b) dX2_copyFrom_0 rfl rfl ?_
  refine zP_getR (pc := 1) (a := b) (t := b + 1) C g2_12 dX2_copyFrom_1 (s_X2 hb) rfl ?_
  refine zP_aload_n (pc := 4) C (x := zad V b1) dX2_copyFrom_4 rfl rfl ?_
  refine zP_getR (pc := 5) (a := b1) (t := b1 + 1) C g2_12 dX2_copyFrom_5 (s_X2 hb1) rfl ?_
  obtain ⟨_, d1, hc, h⟩ := zc_h h
  refine zP_callV (pc := 8) (As := [.ref (zad V (b1 + 1))]) (st := []) C m2_98 dX2_copyFrom_8 (s_X3 hb) rfl (t_X3_copyFrom hb hb1  hc) ⟨Nat.le_of_ble_eq_true rfl, Nat.le_of_ble_eq_true rfl⟩ rfl (Nat.le_of_ble_eq_true rfl) ⟨Nat.zero_le _, Nat.zero_le _⟩ fun hw => ?_
  clear hc hw
  show zP V X 2 0 0 11 _ [] d1
  revert h
  generalize d1 = d
  intro h
  refine zP_aload_n (pc := 11) C (x := zad V b) dX2_copyFrom_11 rfl rfl ?_
  refine zP_getR (pc := 12) (a := b) (t := b + 10) C g2_21 dX2_copyFrom_12 (s_X2 hb) rfl ?_
  refine zP_aload_n (pc := 15) C (x := zad V b1) dX2_copyFrom_15 rfl rfl ?_
  refine zP_getR (pc := 16) (a := b1) (t := b1 + 10) C g2_21 dX2_copyFrom_16 (s_X2 hb1) rfl ?_
  obtain ⟨_, d1, hc, h⟩ := zc_h h
  refine zP_callV (pc := 19) (As := [.ref (zad V (b1 + 10))]) (st := []) C m2_102 dX2_copyFrom_19 (s_X4 hb) rfl (t_X4_copyFrom hb hb1  hc) ⟨Nat.le_of_ble_eq_true rfl, Nat.le_of_ble_eq_true rfl⟩ rfl (Nat.le_of_ble_eq_true rfl) ⟨Nat.zero_le _, Nat.zero_le _⟩ fun hw => ?_
  clear hc hw
  show zP V X 2 0 0 22 _ [] d1
  revert h
  generalize d1 = d
  intro h
  refine zP_aload_n (pc := 22) C (x := zad V b) dX2_copyFrom_22 rfl rfl ?_
  refine zP_getR (pc := 23) (a := b) (t := b + 15) C g2_28 dX2_copyFrom_23 (s_X2 hb) rfl ?_
  refine zP_aload_n (pc := 26) C (x := zad V b1) dX2_copyFrom_26 rfl rfl ?_
  refine zP_getR (pc := 27) (a := b1) (t := b1 + 15) C g2_28 dX2_copyFrom_27 (s_X2 hb1) rfl ?_
  obtain ⟨_, d1, hc, h⟩ := zc_h h
  refine zP_callV (pc := 30) (As := [.ref (zad V (b1 + 15))]) (st := []) C m2_105 dX2_copyFrom_30 (s_X8 hb) rfl (t_X8_copyFrom hb hb1  hc) ⟨Nat.le_of_ble_eq_true rfl, Nat.le_of_ble_eq_true rfl⟩ rfl (Nat.le_of_ble_eq_true rfl) ⟨Nat.zero_le _, Nat.zero_le _⟩ fun hw => ?_
  clear hc hw
  show zP V X 2 0 0 33 _ [] d1
  revert h
  generalize d1 = d
  intro h
  refine zP_aload_n (pc := 33) C (x := zad V b) dX2_copyFrom_33 rfl rfl ?_
  refine zP_getR (pc := 34) (a := b) (t := b + 25) C g2_35 dX2_copyFrom_34 (s_X2 hb) rfl ?_
  refine zP_aload_n (pc := 37) C (x := zad V b1) dX2_copyFrom_37 rfl rfl ?_
  refine zP_getR (pc := 38) (a := b1) (t := b1 + 25) C g2_35 dX2_copyFrom_38 (s_X2 hb1) rfl ?_
  obtain ⟨_, d1, hc, h⟩ := zc_h h
  refine zP_callV (pc := 41) (As := [.ref (zad V (b1 + 25))]) (st := []) C m2_108 dX2_copyFrom_41 (s_X10 hb) rfl (t_X10_copyFrom hb hb1  hc) ⟨Nat.le_of_ble_eq_true rfl, Nat.le_of_ble_eq_true rfl⟩ rfl (Nat.le_of_ble_eq_true rfl) ⟨Nat.zero_le _, Nat.zero_le _⟩ fun hw => ?_
  clear hc hw
  show zP V X 2 0 0 44 _ [] d1
  revert h
  generalize d1 = d
  intro h
  refine zP_aload_n (pc := 44) C (x := zad V b1) dX2_copyFrom_44 rfl rfl ?_
  refine zP_getR (pc := 45) (a := b1) (t := b1 + 27) C g2_39 dX2_copyFrom_45 (s_X2 hb1) rfl ?_
  refine zP_iconst (pc := 48) C dX2_copyFrom_48 ?_
  refine zP_aload_n (pc := 49) C (x := zad V b) dX2_copyFrom_49 rfl rfl ?_
  refine zP_getR (pc := 50) (a := b) (t := b + 27) C g2_39 dX2_copyFrom_50 (s_X2 hb) rfl ?_
  refine zP_iconst (pc := 53) C dX2_copyFrom_53 ?_
  refine zP_bipush (pc := 54) C dX2_copyFrom_54 rfl ?_
  refine zP_copy (pc := 56) (a0 := b1 + 27) (a := b + 27) C ac2_89 dX2_copyFrom_56 (s_X2_settings hb1) (s_X2_settings hb) (zRk rfl) (zRk rfl) (zRk rfl) ⟨Nat.le_of_ble_eq_true rfl, Nat.le_of_ble_eq_true rfl⟩ h fun d h => ?_
  refine zP_aload_n (pc := 59) C (x := zad V b1) dX2_copyFrom_59 rfl rfl ?_
  refine zP_getR (pc := 60) (a := b1) (t := b1 + 28) C g2_43 dX2_copyFrom_60 (s_X2 hb1) rfl ?_
  refine zP_iconst (pc := 63) C dX2_copyFrom_63 ?_
  refine zP_aload_n (pc := 64) C (x := zad V b) dX2_copyFrom_64 rfl rfl ?_
  refine zP_getR (pc := 65) (a := b) (t := b + 28) C g2_43 dX2_copyFrom_65 (s_X2 hb) rfl ?_
  refine zP_iconst (pc := 68) C dX2_copyFrom_68 ?_
  refine zP_bipush (pc := 69) C dX2_copyFrom_69 rfl ?_
  refine zP_copy (pc := 71) (a0 := b1 + 28) (a := b + 28) C ac2_89 dX2_copyFrom_71 (s_X2_accounts hb1) (s_X2_accounts hb) (zRk rfl) (zRk rfl) (zRk rfl) ⟨Nat.le_of_ble_eq_true rfl, Nat.le_of_ble_eq_true rfl⟩ h fun d h => ?_
  refine zP_aload_n (pc := 74) C (x := zad V b1) dX2_copyFrom_74 rfl rfl ?_
  refine zP_getR (pc := 75) (a := b1) (t := b1 + 29) C g2_46 dX2_copyFrom_75 (s_X2 hb1) rfl ?_
  refine zP_iconst (pc := 78) C dX2_copyFrom_78 ?_
  refine zP_aload_n (pc := 79) C (x := zad V b) dX2_copyFrom_79 rfl rfl ?_
  refine zP_getR (pc := 80) (a := b) (t := b + 29) C g2_46 dX2_copyFrom_80 (s_X2 hb) rfl ?_
  refine zP_iconst (pc := 83) C dX2_copyFrom_83 ?_
  refine zP_bipush (pc := 84) C dX2_copyFrom_84 rfl ?_
  refine zP_copy (pc := 86) (a0 := b1 + 29) (a := b + 29) C ac2_89 dX2_copyFrom_86 (s_X2_list hb1) (s_X2_list hb) (zRk rfl) (zRk rfl) (zRk rfl) ⟨Nat.le_of_ble_eq_true rfl, Nat.le_of_ble_eq_true rfl⟩ h fun d h => ?_
  refine zP_aload_n (pc := 89) C (x := zad V b) dX2_copyFrom_89 rfl rfl ?_
  refine zP_aload_n (pc := 90) C (x := zad V b1) dX2_copyFrom_90 rfl rfl ?_
  refine zP_getI (pc := 91) (a := b1) C g2_49 dX2_copyFrom_91 (s_X2 hb1) rfl h fun v91 hv91 h => ?_
  refine zP_putI (pc := 94) (a := b) C p2_49 dX2_copyFrom_94 (s_X2 hb) rfl hv91 h fun d h => ?_
  refine zP_aload_n (pc := 97) C (x := zad V b) dX2_copyFrom_97 rfl rfl ?_
  refine zP_aload_n (pc := 98) C (x := zad V b1) dX2_copyFrom_98 rfl rfl ?_
  refine zP_getI (pc := 99) (a := b1) C g2_53 dX2_copyFrom_99 (s_X2 hb1) rfl h fun v99 hv99 h => ?_
  refine zP_putI (pc := 102) (a := b) C p2_53 dX2_copyFrom_102 (s_X2 hb) rfl hv99 h fun d h => ?_
  refine zP_aload_n (pc := 105) C (x := zad V b) dX2_copyFrom_105 rfl rfl ?_
  refine zP_aload_n (pc := 106) C (x := zad V b1) dX2_copyFrom_106 rfl rfl ?_
  refine zP_getI (pc := 107) (a := b1) C g2_56 dX2_copyFrom_107 (s_X2 hb1) rfl h fun v107 hv107 h => ?_
  refine zP_putI (pc := 110) (a := b) C p2_56 dX2_copyFrom_110 (s_X2 hb) rfl hv107 h fun d h => ?_
  refine zP_aload_n (pc := 113) C (x := zad V b) dX2_copyFrom_113 rfl rfl ?_
  refine zP_aload_n (pc := 114) C (x := zad V b1) dX2_copyFrom_114 rfl rfl ?_
  refine zP_getI (pc := 115) (a := b1) C g2_59 dX2_copyFrom_115 (s_X2 hb1) rfl h fun v115 hv115 h => ?_
  refine zP_putI (pc := 118) (a := b) C p2_59 dX2_copyFrom_118 (s_X2 hb) rfl hv115 h fun d h => ?_
  refine zP_aload_n (pc := 121) C (x := zad V b) dX2_copyFrom_121 rfl rfl ?_
  refine zP_aload_n (pc := 122) C (x := zad V b1) dX2_copyFrom_122 rfl rfl ?_
  refine zP_getI (pc := 123) (a := b1) C g2_62 dX2_copyFrom_123 (s_X2 hb1) rfl h fun v123 hv123 h => ?_
  refine zP_putI (pc := 126) (a := b) C p2_62 dX2_copyFrom_126 (s_X2 hb) rfl hv123 h fun d h => ?_
  refine zP_aload_n (pc := 129) C (x := zad V b) dX2_copyFrom_129 rfl rfl ?_
  refine zP_aload_n (pc := 130) C (x := zad V b1) dX2_copyFrom_130 rfl rfl ?_
  refine zP_getI (pc := 131) (a := b1) C g2_65 dX2_copyFrom_131 (s_X2 hb1) rfl h fun v131 hv131 h => ?_
  refine zP_putI (pc := 134) (a := b) C p2_65 dX2_copyFrom_134 (s_X2 hb) rfl hv131 h fun d h => ?_
  refine zP_aload_n (pc := 137) C (x := zad V b) dX2_copyFrom_137 rfl rfl ?_
  refine zP_aload_n (pc := 138) C (x := zad V b1) dX2_copyFrom_138 rfl rfl ?_
  refine zP_getI (pc := 139) (a := b1) C g2_68 dX2_copyFrom_139 (s_X2 hb1) rfl h fun v139 hv139 h => ?_
  refine zP_putI (pc := 142) (a := b) C p2_68 dX2_copyFrom_142 (s_X2 hb) rfl hv139 h fun d h => ?_
  refine zP_aload_n (pc := 145) C (x := zad V b) dX2_copyFrom_145 rfl rfl ?_
  refine zP_aload_n (pc := 146) C (x := zad V b1) dX2_copyFrom_146 rfl rfl ?_
  refine zP_getI (pc := 147) (a := b1) C g2_71 dX2_copyFrom_147 (s_X2 hb1) rfl h fun v147 hv147 h => ?_
  refine zP_putI (pc := 150) (a := b) C p2_71 dX2_copyFrom_150 (s_X2 hb) rfl hv147 h fun d h => ?_
  exact zP_vret (pc := 153) C E dX2_copyFrom_153 h
def f_X0_remember (b1 : Nat) (d : zD) : Option (Int × zD) :=
  zl (d 8 1) fun v5 =>
  zl (d 8 2) fun v9 =>
  zl (zw (v5 + v9)) fun v12 =>
  zn 8 <| zl (zrem v12 8) fun v15 =>
  zg 8 v15 <|
  zc (f_X2_copyFrom (120 + 30 * (v15 : Int).toNat) b1  d) fun _ d =>
  zl (d 8 2) fun v22 =>
  if (8 : Int) ≤ v22 then (
    zl (d 8 1) fun v45 =>
    zl (zw (v45 + 1)) fun v49 =>
    zn 8 <| zl (zrem v49 8) fun v52 =>
    zl (zu d 8 1 v52) fun d =>
    some (0, d))
  else (
    zl (d 8 2) fun v32 =>
    zl (zw (v32 + 1)) fun v36 =>
    zl (zu d 8 2 v36) fun d =>
    some (0, d))
theorem t_X0_remember {V : zW} {b1 : Nat} (hT : zo0 V) (hb1 : zo2 V b1)   {d dz : zD} {rv : Int} (h : f_X0_remember b1  d = some (rv, dz)) : zMet V 4 yX0_remember cX0_remember 2 none [.ref (zad V 8), .ref (zad V b1)] d none (rv = 0) dz := by
  refine zMet_by RX0 pn0 rfl (Nat.le_of_ble_eq_true rfl) [some (.ref (zad V 8)), some (.ref (zad V b1))] rfl fun X C E => ?_
  refine zP_aload_n (pc := 0) C (x := zad V 8) dX0_remember_0 rfl rfl ?_
  refine zP_getR (pc := 1) (a := 8) (t := 9) C g0_11 dX0_remember_1 (s_X0 hT) rfl ?_
  refine zP_aload_n (pc := 4) C (x := zad V 8) dX0_remember_4 rfl rfl ?_
  refine zP_getI (pc := 5) (a := 8) C g0_17 dX0_remember_5 (s_X0 hT) rfl h fun v5 hv5 h => ?_
  refine zP_aload_n (pc := 8) C (x := zad V 8) dX0_remember_8 rfl rfl ?_
  refine zP_getI (pc := 9) (a := 8) C g0_21 dX0_remember_9 (s_X0 hT) rfl h fun v9 hv9 h => ?_
  refine zP_iadd (pc := 12) C dX0_remember_12 h fun v12 hv12 h => ?_
  refine zP_bipush (pc := 13) C dX0_remember_13 rfl ?_
  refine zP_irem (pc := 15) C dX0_remember_15 (zRk rfl) h fun v15 hv15 h => ?_
  refine zP_aald (pc := 16) (a := 9) (t := 120 + 30 * (v15 : Int).toNat) C dX0_remember_16 (s_X0_kept hT) hv15 h (fun hq => if_pos (by omega)) fun hq16 h => ?_
  have ho16 : zo2 V (120 + 30 * (v15 : Int).toNat) := o_X0_kept hT _ (by omega)
  refine zP_aload_n (pc := 17) C (x := zad V b1) dX0_remember_17 rfl rfl ?_
  obtain ⟨_, d1, hc, h⟩ := zc_h h
  refine zP_callV (pc := 18) (As := [.ref (zad V b1)]) (st := []) C m0_27 dX0_remember_18 (s_X2 ho16) rfl (t_X2_copyFrom ho16 hb1  hc) ⟨Nat.le_of_ble_eq_true rfl, Nat.le_of_ble_eq_true rfl⟩ rfl (Nat.le_of_ble_eq_true rfl) ⟨Nat.zero_le _, Nat.zero_le _⟩ fun hw => ?_
  clear hc hw
  show zP V X 2 0 0 21 _ [] d1
  revert h
  generalize d1 = d
  intro h
  refine zP_aload_n (pc := 21) C (x := zad V 8) dX0_remember_21 rfl rfl ?_
  refine zP_getI (pc := 22) (a := 8) C g0_21 dX0_remember_22 (s_X0 hT) rfl h fun v22 hv22 h => ?_
  refine zP_bipush (pc := 25) C dX0_remember_25 rfl ?_
  refine zP_icmp_ge (pc := 27) (tgt := 43) C dX0_remember_27 rfl hv22 (zRk rfl) h (fun _ h => ?_) (fun _ h => ?_)
  · refine zP_aload_n (pc := 43) C (x := zad V 8) dX0_remember_43 rfl rfl ?_
    refine zP_aload_n (pc := 44) C (x := zad V 8) dX0_remember_44 rfl rfl ?_
    refine zP_getI (pc := 45) (a := 8) C g0_17 dX0_remember_45 (s_X0 hT) rfl h fun v45 hv45 h => ?_
    refine zP_iconst (pc := 48) C dX0_remember_48 ?_
    refine zP_iadd (pc := 49) C dX0_remember_49 h fun v49 hv49 h => ?_
    refine zP_bipush (pc := 50) C dX0_remember_50 rfl ?_
    refine zP_irem (pc := 52) C dX0_remember_52 (zRk rfl) h fun v52 hv52 h => ?_
    refine zP_putI (pc := 53) (a := 8) C p0_17 dX0_remember_53 (s_X0 hT) rfl hv52 h fun d h => ?_
    exact zP_vret (pc := 56) C E dX0_remember_56 h
  · refine zP_aload_n (pc := 30) C (x := zad V 8) dX0_remember_30 rfl rfl ?_
    refine zP_dup (pc := 31) C dX0_remember_31 rfl ?_
    refine zP_getI (pc := 32) (a := 8) C g0_21 dX0_remember_32 (s_X0 hT) rfl h fun v32 hv32 h => ?_
    refine zP_iconst (pc := 35) C dX0_remember_35 ?_
    refine zP_iadd (pc := 36) C dX0_remember_36 h fun v36 hv36 h => ?_
    refine zP_putI (pc := 37) (a := 8) C p0_21 dX0_remember_37 (s_X0 hT) rfl hv36 h fun d h => ?_
    refine zP_goto (pc := 40) (tgt := 56) C dX0_remember_40 rfl ?_
    exact zP_vret (pc := 56) C E dX0_remember_56 h
def j_X2_addMessage_163 (b : Nat)  (x4 s0 s1 : Int) (d : zD) : Option (Int × zD) :=
  zc (f_X4_append b s1 s0 x4 d) fun _ d =>
  some (x4, d)
theorem wj_X2_addMessage_163 {V : zW} {X : zX} {b : Nat} (hb : zo2 V b) (C : zOk V X cX2_addMessage RX2 6 (zrm 1) (some .int)) {rv : Int} {dz : zD} (E : zEnd V X (some (.int (zI rv))) (zR rv) dz)  {x4 s0 s1 : Int} (hx4 : zR x4) (hs0 : zR s0) (hs1 : zR s1) {d : zD} (h : j_X2_addMessage_163 b  x4 s0 s1 d = some (rv, dz)) : zP V X 6 0 0 163 [none, none, none, none, some (.int (zI x4)), none] [.int (zI s0), .int (zI s1), .ref (zad V (b + 10))] d := by
  refine zP_iload (pc := 163) C (x := zI x4) dX2_addMessage_163 rfl ?_
  obtain ⟨_, d1, hc, h⟩ := zc_h h
  refine zP_callV (pc := 165) (As := [.int (zI s1), .int (zI s0), .int (zI x4)]) (st := []) C m2_155 dX2_addMessage_165 (s_X4 hb) rfl (t_X4_append hb hs1 hs0 hx4 hc) ⟨Nat.le_of_ble_eq_true rfl, Nat.le_of_ble_eq_true rfl⟩ rfl (Nat.le_of_ble_eq_true rfl) ⟨Nat.zero_le _, Nat.zero_le _⟩ fun hw => ?_
  clear hc hw
  show zP V X 6 0 0 168 _ [] d1
  revert h
  generalize d1 = d
  intro h
  refine zP_iload (pc := 168) C (x := zI x4) dX2_addMessage_168 rfl ?_
  exact zP_iret (pc := 170) C E dX2_addMessage_170 hx4 h
def j_X2_addMessage_133 (b : Nat)  (x1 x2 x4 s0 : Int) (d : zD) : Option (Int × zD) :=
  zg 40 x4 <| zl (zu d (b + 5) (x4 : Int).toNat s0) fun d =>
  if (x1 : Int) = (-1) then (
    j_X2_addMessage_163 b  x4 x2 s0 d)
  else (
    j_X2_addMessage_163 b  x4 x1 s0 d)
theorem wj_X2_addMessage_133 {V : zW} {X : zX} {b : Nat} (hb : zo2 V b) (C : zOk V X cX2_addMessage RX2 6 (zrm 1) (some .int)) {rv : Int} {dz : zD} (E : zEnd V X (some (.int (zI rv))) (zR rv) dz)  {x1 x2 x4 s0 : Int} (hx1 : zR x1) (hx2 : zR x2) (hx4 : zR x4) (hs0 : zR s0) {d : zD} (h : j_X2_addMessage_133 b  x1 x2 x4 s0 d = some (rv, dz)) : zP V X 6 0 0 133 [some (.ref (zad V b)), some (.int (zI x1)), some (.int (zI x2)), none, some (.int (zI x4)), none] [.int (zI s0)] d := by
  refine zP_istore (pc := 133) C (L' := [some (.ref (zad V b)), some (.int (zI x1)), some (.int (zI x2)), none, some (.int (zI x4)), some (.int (zI s0))]) dX2_addMessage_133 (Nat.le_of_ble_eq_true rfl) rfl rfl ?_
  refine zP_aload_n (pc := 135) C (x := zad V b) dX2_addMessage_135 rfl rfl ?_
  refine zP_getR (pc := 136) (a := b) (t := b + 1) C g2_12 dX2_addMessage_136 (s_X2 hb) rfl ?_
  refine zP_getR (pc := 139) (a := b + 1) (t := b + 5) C g2_152 dX2_addMessage_139 (s_X3 hb) rfl ?_
  refine zP_iload (pc := 142) C (x := zI x4) dX2_addMessage_142 rfl ?_
  refine zP_iload (pc := 144) C (x := zI s0) dX2_addMessage_144 rfl ?_
  refine zP_iast (pc := 146) (a := b + 5) C dX2_addMessage_146 (s_X3_states hb) hx4 hs0 h fun d h => ?_
  refine zP_aload_n (pc := 147) C (x := zad V b) dX2_addMessage_147 rfl rfl ?_
  refine zP_getR (pc := 148) (a := b) (t := b + 10) C g2_21 dX2_addMessage_148 (s_X2 hb) rfl ?_
  refine zP_iload (pc := 151) C (x := zI s0) dX2_addMessage_151 rfl ?_
  refine zP_iload_n (pc := 153) C (x := zI x1) dX2_addMessage_153 rfl rfl ?_
  refine zP_iconst (pc := 154) C dX2_addMessage_154 ?_
  refine zP_icmp_ne (pc := 155) (tgt := 162) C dX2_addMessage_155 rfl hx1 (zRk rfl) h (fun _ h => ?_) (fun _ h => ?_)
  · refine zP_iload_n (pc := 162) C (x := zI x1) dX2_addMessage_162 rfl rfl ?_
    exact zP_mask [false, false, false, false, true, false] (wj_X2_addMessage_163 hb C E  hx4 hx1 hs0 h)
  · refine zP_iload_n (pc := 158) C (x := zI x2) dX2_addMessage_158 rfl rfl ?_
    refine zP_goto (pc := 159) (tgt := 163) C dX2_addMessage_159 rfl ?_
    exact zP_mask [false, false, false, false, true, false] (wj_X2_addMessage_163 hb C E  hx4 hx2 hs0 h)
def j_X2_addMessage_100 (b : Nat)  (x1 x2 x4 s0 s1 : Int) (d : zD) : Option (Int × zD) :=
  zg 40 s1 <| zl (zu d (b + 7) (s1 : Int).toNat s0) fun d =>
  zg 40 x4 <| zl (zu d (b + 8) (x4 : Int).toNat (-1)) fun d =>
  zg 40 x4 <| zl (zu d (b + 9) (x4 : Int).toNat (-1)) fun d =>
  if (x1 : Int) = (-1) then (
    j_X2_addMessage_133 b  x1 x2 x4 1 d)
  else (
    j_X2_addMessage_133 b  x1 x2 x4 0 d)
theorem wj_X2_addMessage_100 {V : zW} {X : zX} {b : Nat} (hb : zo2 V b) (C : zOk V X cX2_addMessage RX2 6 (zrm 1) (some .int)) {rv : Int} {dz : zD} (E : zEnd V X (some (.int (zI rv))) (zR rv) dz)  {x1 x2 x4 s0 s1 : Int} (hx1 : zR x1) (hx2 : zR x2) (hx4 : zR x4) (hs0 : zR s0) (hs1 : zR s1) {d : zD} (h : j_X2_addMessage_100 b  x1 x2 x4 s0 s1 d = some (rv, dz)) : zP V X 6 0 0 100 [some (.ref (zad V b)), some (.int (zI x1)), some (.int (zI x2)), none, some (.int (zI x4)), none] [.int (zI s0), .int (zI s1), .ref (zad V (b + 7))] d := by
  refine zP_iast (pc := 100) (a := b + 7) C dX2_addMessage_100 (s_X3_hostTimes hb) hs1 hs0 h fun d h => ?_
  refine zP_aload_n (pc := 101) C (x := zad V b) dX2_addMessage_101 rfl rfl ?_
  refine zP_getR (pc := 102) (a := b) (t := b + 1) C g2_12 dX2_addMessage_102 (s_X2 hb) rfl ?_
  refine zP_getR (pc := 105) (a := b + 1) (t := b + 8) C g2_146 dX2_addMessage_105 (s_X3 hb) rfl ?_
  refine zP_iload (pc := 108) C (x := zI x4) dX2_addMessage_108 rfl ?_
  refine zP_iconst (pc := 110) C dX2_addMessage_110 ?_
  refine zP_iast (pc := 111) (a := b + 8) C dX2_addMessage_111 (s_X3_bufferTimes hb) hx4 (zRk rfl) h fun d h => ?_
  refine zP_aload_n (pc := 112) C (x := zad V b) dX2_addMessage_112 rfl rfl ?_
  refine zP_getR (pc := 113) (a := b) (t := b + 1) C g2_12 dX2_addMessage_113 (s_X2 hb) rfl ?_
  refine zP_getR (pc := 116) (a := b + 1) (t := b + 9) C g2_149 dX2_addMessage_116 (s_X3 hb) rfl ?_
  refine zP_iload (pc := 119) C (x := zI x4) dX2_addMessage_119 rfl ?_
  refine zP_iconst (pc := 121) C dX2_addMessage_121 ?_
  refine zP_iast (pc := 122) (a := b + 9) C dX2_addMessage_122 (s_X3_deliveryTimes hb) hx4 (zRk rfl) h fun d h => ?_
  refine zP_iload_n (pc := 123) C (x := zI x1) dX2_addMessage_123 rfl rfl ?_
  refine zP_iconst (pc := 124) C dX2_addMessage_124 ?_
  refine zP_icmp_ne (pc := 125) (tgt := 132) C dX2_addMessage_125 rfl hx1 (zRk rfl) h (fun _ h => ?_) (fun _ h => ?_)
  · refine zP_iconst (pc := 132) C dX2_addMessage_132 ?_
    exact zP_mask [true, true, true, false, true, false] (wj_X2_addMessage_133 hb C E  hx1 hx2 hx4 (zRk rfl) h)
  · refine zP_iconst (pc := 128) C dX2_addMessage_128 ?_
    refine zP_goto (pc := 129) (tgt := 133) C dX2_addMessage_129 rfl ?_
    exact zP_mask [true, true, true, false, true, false] (wj_X2_addMessage_133 hb C E  hx1 hx2 hx4 (zRk rfl) h)
def f_X2_addMessage (b : Nat) (x1 x2 x3 : Int) (d : zD) : Option (Int × zD) :=
  zl (d (b + 1) 0) fun v4 =>
  if (v4 : Int) < 40 then (
    zl (d (b + 1) 0) fun v23 =>
    zl (zw (v23 + 1)) fun v27 =>
    zl (zu d (b + 1) 0 v27) fun d =>
    zg 40 v4 <| zl (zu d (b + 2) (v4 : Int).toNat x1) fun d =>
    zg 40 v4 <| zl (zu d (b + 3) (v4 : Int).toNat x2) fun d =>
    zg 40 v4 <| zl (zu d (b + 4) (v4 : Int).toNat x3) fun d =>
    zl (d b 9) fun v74 =>
    zg 40 v4 <| zl (zu d (b + 6) (v4 : Int).toNat v74) fun d =>
    if (x1 : Int) = (-1) then (
      zl (d b 9) fun v93 =>
      j_X2_addMessage_100 b  x1 x2 v4 v93 v4 d)
    else (
      j_X2_addMessage_100 b  x1 x2 v4 (-1) v4 d))
  else (
    some ((-1), d))
theorem t_X2_addMessage {V : zW} {b : Nat} (hb : zo2 V b) {x1 x2 x3 : Int} (hx1 : zR x1) (hx2 : zR x2) (hx3 : zR x3) {d dz : zD} {rv : Int} (h : f_X2_addMessage b x1 x2 x3 d = some (rv, dz)) : zMet V 1 yX2_addMessage cX2_addMessage 6 (some .int) [.ref (zad V b), .int (zI x1), .int (zI x2), .int (zI x3)] d (some (.int (zI rv))) (zR rv) dz := by
  refine zMet_by RX2 pn2 rfl (Nat.le_of_ble_eq_true rfl) [some (.ref (zad V b)), some (.int (zI x1)), some (.int (zI x2)), some (.int (zI x3)), none, none] rfl fun X C E => ?_
  refine zP_aload_n (pc := 0) C (x := zad V b) dX2_addMessage_0 rfl rfl ?_
  refine zP_getR (pc := 1) (a := b) (t := b + 1) C g2_12 dX2_addMessage_1 (s_X2 hb) rfl ?_
  refine zP_getI (pc := 4) (a := b + 1) C g2_78 dX2_addMessage_4 (s_X3 hb) rfl h fun v4 hv4 h => ?_
  refine zP_istore (pc := 7) C (L' := [some (.ref (zad V b)), some (.int (zI x1)), some (.int (zI x2)), some (.int (zI x3)), some (.int (zI v4)), none]) dX2_addMessage_7 (Nat.le_of_ble_eq_true rfl) rfl rfl ?_
  refine zP_iload (pc := 9) C (x := zI v4) dX2_addMessage_9 rfl ?_
  refine zP_bipush (pc := 11) C dX2_addMessage_11 rfl ?_
  refine zP_icmp_lt (pc := 13) (tgt := 18) C dX2_addMessage_13 rfl hv4 (zRk rfl) h (fun _ h => ?_) (fun _ h => ?_)
  · refine zP_aload_n (pc := 18) C (x := zad V b) dX2_addMessage_18 rfl rfl ?_
    refine zP_getR (pc := 19) (a := b) (t := b + 1) C g2_12 dX2_addMessage_19 (s_X2 hb) rfl ?_
    refine zP_dup (pc := 22) C dX2_addMessage_22 rfl ?_
    refine zP_getI (pc := 23) (a := b + 1) C g2_78 dX2_addMessage_23 (s_X3 hb) rfl h fun v23 hv23 h => ?_
    refine zP_iconst (pc := 26) C dX2_addMessage_26 ?_
    refine zP_iadd (pc := 27) C dX2_addMessage_27 h fun v27 hv27 h => ?_
    refine zP_putI (pc := 28) (a := b + 1) C p2_78 dX2_addMessage_28 (s_X3 hb) rfl hv27 h fun d h => ?_
    refine zP_aload_n (pc := 31) C (x := zad V b) dX2_addMessage_31 rfl rfl ?_
    refine zP_getR (pc := 32) (a := b) (t := b + 1) C g2_12 dX2_addMessage_32 (s_X2 hb) rfl ?_
    refine zP_getR (pc := 35) (a := b + 1) (t := b + 2) C g2_131 dX2_addMessage_35 (s_X3 hb) rfl ?_
    refine zP_iload (pc := 38) C (x := zI v4) dX2_addMessage_38 rfl ?_
    refine zP_iload_n (pc := 40) C (x := zI x1) dX2_addMessage_40 rfl rfl ?_
    refine zP_iast (pc := 41) (a := b + 2) C dX2_addMessage_41 (s_X3_senders hb) hv4 hx1 h fun d h => ?_
    refine zP_aload_n (pc := 42) C (x := zad V b) dX2_addMessage_42 rfl rfl ?_
    refine zP_getR (pc := 43) (a := b) (t := b + 1) C g2_12 dX2_addMessage_43 (s_X2 hb) rfl ?_
    refine zP_getR (pc := 46) (a := b + 1) (t := b + 3) C g2_134 dX2_addMessage_46 (s_X3 hb) rfl ?_
    refine zP_iload (pc := 49) C (x := zI v4) dX2_addMessage_49 rfl ?_
    refine zP_iload_n (pc := 51) C (x := zI x2) dX2_addMessage_51 rfl rfl ?_
    refine zP_iast (pc := 52) (a := b + 3) C dX2_addMessage_52 (s_X3_receivers hb) hv4 hx2 h fun d h => ?_
    refine zP_aload_n (pc := 53) C (x := zad V b) dX2_addMessage_53 rfl rfl ?_
    refine zP_getR (pc := 54) (a := b) (t := b + 1) C g2_12 dX2_addMessage_54 (s_X2 hb) rfl ?_
    refine zP_getR (pc := 57) (a := b + 1) (t := b + 4) C g2_137 dX2_addMessage_57 (s_X3 hb) rfl ?_
    refine zP_iload (pc := 60) C (x := zI v4) dX2_addMessage_60 rfl ?_
    refine zP_iload_n (pc := 62) C (x := zI x3) dX2_addMessage_62 rfl rfl ?_
    refine zP_iast (pc := 63) (a := b + 4) C dX2_addMessage_63 (s_X3_lengths hb) hv4 hx3 h fun d h => ?_
    refine zP_aload_n (pc := 64) C (x := zad V b) dX2_addMessage_64 rfl rfl ?_
    refine zP_getR (pc := 65) (a := b) (t := b + 1) C g2_12 dX2_addMessage_65 (s_X2 hb) rfl ?_
    refine zP_getR (pc := 68) (a := b + 1) (t := b + 6) C g2_140 dX2_addMessage_68 (s_X3 hb) rfl ?_
    refine zP_iload (pc := 71) C (x := zI v4) dX2_addMessage_71 rfl ?_
    refine zP_aload_n (pc := 73) C (x := zad V b) dX2_addMessage_73 rfl rfl ?_
    refine zP_getI (pc := 74) (a := b) C g2_53 dX2_addMessage_74 (s_X2 hb) rfl h fun v74 hv74 h => ?_
    refine zP_iast (pc := 77) (a := b + 6) C dX2_addMessage_77 (s_X3_postTimes hb) hv4 hv74 h fun d h => ?_
    refine zP_aload_n (pc := 78) C (x := zad V b) dX2_addMessage_78 rfl rfl ?_
    refine zP_getR (pc := 79) (a := b) (t := b + 1) C g2_12 dX2_addMessage_79 (s_X2 hb) rfl ?_
    refine zP_getR (pc := 82) (a := b + 1) (t := b + 7) C g2_143 dX2_addMessage_82 (s_X3 hb) rfl ?_
    refine zP_iload (pc := 85) C (x := zI v4) dX2_addMessage_85 rfl ?_
    refine zP_iload_n (pc := 87) C (x := zI x1) dX2_addMessage_87 rfl rfl ?_
    refine zP_iconst (pc := 88) C dX2_addMessage_88 ?_
    refine zP_icmp_ne (pc := 89) (tgt := 99) C dX2_addMessage_89 rfl hx1 (zRk rfl) h (fun _ h => ?_) (fun _ h => ?_)
    · refine zP_iconst (pc := 99) C dX2_addMessage_99 ?_
      exact zP_mask [true, true, true, false, true, false] (wj_X2_addMessage_100 hb C E  hx1 hx2 hv4 (zRk rfl) hv4 h)
    · refine zP_aload_n (pc := 92) C (x := zad V b) dX2_addMessage_92 rfl rfl ?_
      refine zP_getI (pc := 93) (a := b) C g2_53 dX2_addMessage_93 (s_X2 hb) rfl h fun v93 hv93 h => ?_
      refine zP_goto (pc := 96) (tgt := 100) C dX2_addMessage_96 rfl ?_
      exact zP_mask [true, true, true, false, true, false] (wj_X2_addMessage_100 hb C E  hx1 hx2 hv4 hv93 hv4 h)
  · refine zP_iconst (pc := 16) C dX2_addMessage_16 ?_
    exact zP_iret (pc := 17) C E dX2_addMessage_17 (zRk rfl) h
def f_X2_setLife (b : Nat) (x1 x2 : Int) (d : zD) : Option (Int × zD) :=
  zc (f_X6_has 1 x1 d) fun v5 d =>
  if (v5 : Int) = 0 then (
    some (0, d))
  else (
    zg 8 x1 <| zl (d (b + 16) (x1 : Int).toNat) fun v21 =>
    zg 8 x1 <| zl (zu d (b + 16) (x1 : Int).toNat x2) fun d =>
    some (v21, d))
theorem t_X2_setLife {V : zW} {b : Nat} (hb : zo2 V b) {x1 x2 : Int} (hx1 : zR x1) (hx2 : zR x2) {d dz : zD} {rv : Int} (h : f_X2_setLife b x1 x2 d = some (rv, dz)) : zMet V 1 yX2_setLife cX2_setLife 4 (some .int) [.ref (zad V b), .int (zI x1), .int (zI x2)] d (some (.int (zI rv))) (zR rv) dz := by
  refine zMet_by RX2 pn2 rfl (Nat.le_of_ble_eq_true rfl) [some (.ref (zad V b)), some (.int (zI x1)), some (.int (zI x2)), none] rfl fun X C E => ?_
  refine zP_aload_n (pc := 0) C (x := zad V b) dX2_setLife_0 rfl rfl ?_
  refine zP_getR (pc := 1) (a := b) (t := 1) C g2_74 dX2_setLife_1 (s_X2 hb) rfl ?_
  refine zP_iload_n (pc := 4) C (x := zI x1) dX2_setLife_4 rfl rfl ?_
  obtain ⟨v5, d1, hc, h⟩ := zc_h h
  refine zP_callV (pc := 5) (As := [.int (zI x1)]) (st := []) C m2_118 dX2_setLife_5 (s_X6 (o_X2_setup hb)) rfl (t_X6_has (o_X2_setup hb) hx1 hc) ⟨Nat.le_of_ble_eq_true rfl, Nat.le_of_ble_eq_true rfl⟩ rfl (Nat.le_of_ble_eq_true rfl) ⟨Nat.zero_le _, Nat.zero_le _⟩ fun hw => ?_
  have hbv5 := hw
  have hv5 := z01 hw
  clear hc hw
  show zP V X 4 0 0 8 _ [.int (zI v5)] d1
  revert h
  generalize d1 = d
  intro h
  refine zP_if_ne (pc := 8) (tgt := 13) C dX2_setLife_8 rfl hv5 h (fun _ h => ?_) (fun _ h => ?_)
  · refine zP_aload_n (pc := 13) C (x := zad V b) dX2_setLife_13 rfl rfl ?_
    refine zP_getR (pc := 14) (a := b) (t := b + 15) C g2_28 dX2_setLife_14 (s_X2 hb) rfl ?_
    refine zP_getR (pc := 17) (a := b + 15) (t := b + 16) C g2_125 dX2_setLife_17 (s_X8 hb) rfl ?_
    refine zP_iload_n (pc := 20) C (x := zI x1) dX2_setLife_20 rfl rfl ?_
    refine zP_iald (pc := 21) (a := b + 16) C dX2_setLife_21 (s_X8_alive hb) hx1 h fun v21 hv21 h => ?_
    refine zP_istore_n (pc := 22) C (L' := [some (.ref (zad V b)), some (.int (zI x1)), some (.int (zI x2)), some (.int (zI v21))]) dX2_setLife_22 rfl (Nat.le_of_ble_eq_true rfl) rfl rfl ?_
    refine zP_aload_n (pc := 23) C (x := zad V b) dX2_setLife_23 rfl rfl ?_
    refine zP_getR (pc := 24) (a := b) (t := b + 15) C g2_28 dX2_setLife_24 (s_X2 hb) rfl ?_
    refine zP_getR (pc := 27) (a := b + 15) (t := b + 16) C g2_125 dX2_setLife_27 (s_X8 hb) rfl ?_
    refine zP_iload_n (pc := 30) C (x := zI x1) dX2_setLife_30 rfl rfl ?_
    refine zP_iload_n (pc := 31) C (x := zI x2) dX2_setLife_31 rfl rfl ?_
    refine zP_iast (pc := 32) (a := b + 16) C dX2_setLife_32 (s_X8_alive hb) hx1 hx2 h fun d h => ?_
    refine zP_iload_n (pc := 33) C (x := zI v21) dX2_setLife_33 rfl rfl ?_
    exact zP_iret (pc := 34) C E dX2_setLife_34 hv21 h
  · refine zP_iconst (pc := 11) C dX2_setLife_11 ?_
    exact zP_iret (pc := 12) C E dX2_setLife_12 (zRk rfl) h
def l_X1_nextToTest_36F (g : Nat) (lb : Nat) (r36 : Int → Int → zD → Option (Int × zD)) (x3 x4 : Int) (d : zD) : Option (Int × zD) :=
  if (x3 : Int) < x4 then (
    some ((-1), d))
  else (
    zl (d lb 12) fun v46 =>
    zl (zw (v46 + x4)) fun v51 =>
    zn x3 <| zl (zrem v51 x3) fun v53 =>
    zg 8 v53 <| zl (d (lb + 17) (v53 : Int).toNat) fun v68 =>
    if (v68 : Int) = 0 then (
      some (v53, d))
    else (
      zl (zw (x4 + 1)) fun v75 =>
      r36 x3 v75 d))
theorem wl_X1_nextToTest_36F {V : zW} {X : zX} {g : Nat} {lb : Nat} (hg : zo1 V g lb) (C : zOk V X cX1_nextToTest RX1 6 (zrm 0) (some .int)) {rv : Int} {dz : zD} (E : zEnd V X (some (.int (zI rv))) (zR rv) dz) {r36 : Int → Int → zD → Option (Int × zD)} (hr36 : ∀ {x3 x4 : Int} {d : zD}, zR x3 → zR x4 → r36 x3 x4 d = some (rv, dz) → zP V X 6 0 0 36 [some (.ref (zad V g)), none, none, some (.int (zI x3)), some (.int (zI x4)), none] [] d) {x3 x4 : Int} (hx3 : zR x3) (hx4 : zR x4) {d : zD} (h : l_X1_nextToTest_36F g lb r36 x3 x4 d = some (rv, dz)) : zP V X 6 0 0 36 [some (.ref (zad V g)), none, none, some (.int (zI x3)), some (.int (zI x4)), none] [] d := by
  refine zP_iload (pc := 36) C (x := zI x4) dX1_nextToTest_36 rfl ?_
  refine zP_iload_n (pc := 38) C (x := zI x3) dX1_nextToTest_38 rfl rfl ?_
  refine zP_icmp_gt (pc := 39) (tgt := 81) C dX1_nextToTest_39 rfl hx4 hx3 h (fun _ h => ?_) (fun _ h => ?_)
  · refine zP_iconst (pc := 81) C dX1_nextToTest_81 ?_
    exact zP_iret (pc := 82) C E dX1_nextToTest_82 (zRk rfl) h
  · refine zP_aload_n (pc := 42) C (x := zad V g) dX1_nextToTest_42 rfl rfl ?_
    refine zP_getR (pc := 43) (a := g) (t := lb) C g1_21 dX1_nextToTest_43 (s_X1 hg) rfl ?_
    refine zP_getI (pc := 46) (a := lb) C g1_61 dX1_nextToTest_46 (s_X2 (o_X1_line hg)) rfl h fun v46 hv46 h => ?_
    refine zP_iload (pc := 49) C (x := zI x4) dX1_nextToTest_49 rfl ?_
    refine zP_iadd (pc := 51) C dX1_nextToTest_51 h fun v51 hv51 h => ?_
    refine zP_iload_n (pc := 52) C (x := zI x3) dX1_nextToTest_52 rfl rfl ?_
    refine zP_irem (pc := 53) C dX1_nextToTest_53 hx3 h fun v53 hv53 h => ?_
    refine zP_istore (pc := 54) C (L' := [some (.ref (zad V g)), none, none, some (.int (zI x3)), some (.int (zI x4)), some (.int (zI v53))]) dX1_nextToTest_54 (Nat.le_of_ble_eq_true rfl) rfl rfl ?_
    refine zP_aload_n (pc := 56) C (x := zad V g) dX1_nextToTest_56 rfl rfl ?_
    refine zP_getR (pc := 57) (a := g) (t := lb) C g1_21 dX1_nextToTest_57 (s_X1 hg) rfl ?_
    refine zP_getR (pc := 60) (a := lb) (t := lb + 15) C g1_64 dX1_nextToTest_60 (s_X2 (o_X1_line hg)) rfl ?_
    refine zP_getR (pc := 63) (a := lb + 15) (t := lb + 17) C g1_68 dX1_nextToTest_63 (s_X8 (o_X1_line hg)) rfl ?_
    refine zP_iload (pc := 66) C (x := zI v53) dX1_nextToTest_66 rfl ?_
    refine zP_iald (pc := 68) (a := lb + 17) C dX1_nextToTest_68 (s_X8_on (o_X1_line hg)) hv53 h fun v68 hv68 h => ?_
    refine zP_if_ne (pc := 69) (tgt := 75) C dX1_nextToTest_69 rfl hv68 h (fun _ h => ?_) (fun _ h => ?_)
    · refine zP_iinc (pc := 75) C (x := x4) dX1_nextToTest_75 rfl (Nat.le_of_ble_eq_true rfl) rfl h fun v75 hv75 h => ?_
      show zP V X 6 0 0 78 [some (.ref (zad V g)), none, none, some (.int (zI x3)), some (.int (zI v75)), some (.int (zI v53))] _ _
      refine zP_goto (pc := 78) (tgt := 36) C dX1_nextToTest_78 rfl ?_
      exact zP_mask [true, false, false, true, true, false] (hr36 hx3 hv75 h)
    · refine zP_iload (pc := 72) C (x := zI v53) dX1_nextToTest_72 rfl ?_
      exact zP_iret (pc := 74) C E dX1_nextToTest_74 hv53 h
def l_X1_nextToTest_36 (g : Nat) (lb : Nat)  : Nat → Int → Int → zD → Option (Int × zD)
  | 0, _, _, _ => none
  | q + 1, x3, x4, d => l_X1_nextToTest_36F g lb  (l_X1_nextToTest_36 g lb  q) x3 x4 d
theorem wl_X1_nextToTest_36 {V : zW} {X : zX} {g : Nat} {lb : Nat} (hg : zo1 V g lb) (C : zOk V X cX1_nextToTest RX1 6 (zrm 0) (some .int)) {rv : Int} {dz : zD} (E : zEnd V X (some (.int (zI rv))) (zR rv) dz)  : ∀ (q : Nat) {x3 x4 : Int} (hx3 : zR x3) (hx4 : zR x4) {d : zD} (h : l_X1_nextToTest_36 g lb  q x3 x4 d = some (rv, dz)), zP V X 6 0 0 36 [some (.ref (zad V g)), none, none, some (.int (zI x3)), some (.int (zI x4)), none] [] d := by
  intro q
  induction q with
  | zero => intro x3 x4 hx3 hx4 d h; cases (show (none : Option (Int × zD)) = some (rv, dz) from h)
  | succ q ih =>
    intro x3 x4 hx3 hx4 d h
    exact wl_X1_nextToTest_36F hg C E  (fun  hx3 hx4 h => ih hx3 hx4 h) hx3 hx4 h
def f_X1_nextToTest (g : Nat) (lb : Nat) (x1 : Int) (d : zD) : Option (Int × zD) :=
  zg 6 3 <| zl (d (lb + 27) (3 : Int).toNat) fun v8 =>
  if (v8 : Int) ≤ 0 then (
    some ((-1), d))
  else (
    zn v8 <| zl (zrem x1 v8) fun v16 =>
    if (v16 : Int) = 0 then (
      zl (d 1 0) fun v29 =>
      l_X1_nextToTest_36 g lb  zF v29 1 d)
    else (
      some ((-1), d)))
theorem t_X1_nextToTest {V : zW} {g : Nat} {lb : Nat} (hg : zo1 V g lb) {x1 : Int} (hx1 : zR x1) {d dz : zD} {rv : Int} (h : f_X1_nextToTest g lb x1 d = some (rv, dz)) : zMet V 0 yX1_nextToTest cX1_nextToTest 6 (some .int) [.ref (zad V g), .int (zI x1)] d (some (.int (zI rv))) (zR rv) dz := by
  refine zMet_by RX1 pn1 rfl (Nat.le_of_ble_eq_true rfl) [some (.ref (zad V g)), some (.int (zI x1)), none, none, none, none] rfl fun X C E => ?_
  refine zP_aload_n (pc := 0) C (x := zad V g) dX1_nextToTest_0 rfl rfl ?_
  refine zP_getR (pc := 1) (a := g) (t := lb) C g1_21 dX1_nextToTest_1 (s_X1 hg) rfl ?_
  refine zP_getR (pc := 4) (a := lb) (t := lb + 27) C g1_34 dX1_nextToTest_4 (s_X2 (o_X1_line hg)) rfl ?_
  refine zP_iconst (pc := 7) C dX1_nextToTest_7 ?_
  refine zP_iald (pc := 8) (a := lb + 27) C dX1_nextToTest_8 (s_X2_settings (o_X1_line hg)) (zRk rfl) h fun v8 hv8 h => ?_
  refine zP_istore_n (pc := 9) C (L' := [some (.ref (zad V g)), some (.int (zI x1)), some (.int (zI v8)), none, none, none]) dX1_nextToTest_9 rfl (Nat.le_of_ble_eq_true rfl) rfl rfl ?_
  refine zP_iload_n (pc := 10) C (x := zI v8) dX1_nextToTest_10 rfl rfl ?_
  refine zP_if_le (pc := 11) (tgt := 20) C dX1_nextToTest_11 rfl hv8 h (fun _ h => ?_) (fun _ h => ?_)
  · refine zP_iconst (pc := 20) C dX1_nextToTest_20 ?_
    exact zP_iret (pc := 21) C E dX1_nextToTest_21 (zRk rfl) h
  · refine zP_iload_n (pc := 14) C (x := zI x1) dX1_nextToTest_14 rfl rfl ?_
    refine zP_iload_n (pc := 15) C (x := zI v8) dX1_nextToTest_15 rfl rfl ?_
    refine zP_irem (pc := 16) C dX1_nextToTest_16 hv8 h fun v16 hv16 h => ?_
    refine zP_if_eq (pc := 17) (tgt := 22) C dX1_nextToTest_17 rfl hv16 h (fun _ h => ?_) (fun _ h => ?_)
    · refine zP_aload_n (pc := 22) C (x := zad V g) dX1_nextToTest_22 rfl rfl ?_
      refine zP_getR (pc := 23) (a := g) (t := lb) C g1_21 dX1_nextToTest_23 (s_X1 hg) rfl ?_
      refine zP_getR (pc := 26) (a := lb) (t := 1) C g1_52 dX1_nextToTest_26 (s_X2 (o_X1_line hg)) rfl ?_
      refine zP_getI (pc := 29) (a := 1) C g1_56 dX1_nextToTest_29 (s_X6 (o_X2_setup (o_X1_line hg))) rfl h fun v29 hv29 h => ?_
      refine zP_istore_n (pc := 32) C (L' := [some (.ref (zad V g)), some (.int (zI x1)), some (.int (zI v8)), some (.int (zI v29)), none, none]) dX1_nextToTest_32 rfl (Nat.le_of_ble_eq_true rfl) rfl rfl ?_
      refine zP_iconst (pc := 33) C dX1_nextToTest_33 ?_
      refine zP_istore (pc := 34) C (L' := [some (.ref (zad V g)), some (.int (zI x1)), some (.int (zI v8)), some (.int (zI v29)), some (.int (zI 1)), none]) dX1_nextToTest_34 (Nat.le_of_ble_eq_true rfl) rfl rfl ?_
      exact zP_mask [true, false, false, true, true, false] (wl_X1_nextToTest_36 hg C E  zF hv29 (zRk rfl) h)
    · refine zP_iconst (pc := 20) C dX1_nextToTest_20 ?_
      exact zP_iret (pc := 21) C E dX1_nextToTest_21 (zRk rfl) h
def f_X2_isOn (b : Nat) (x1 : Int) (d : zD) : Option (Int × zD) :=
  zc (f_X6_has 1 x1 d) fun v5 d =>
  if (v5 : Int) = 0 then (
    some (0, d))
  else (
    zg 8 x1 <| zl (d (b + 17) (x1 : Int).toNat) fun v19 =>
    if (v19 : Int) = 1 then (
      some (1, d))
    else (
      some (0, d)))
theorem t_X2_isOn {V : zW} {b : Nat} (hb : zo2 V b) {x1 : Int} (hx1 : zR x1) {d dz : zD} {rv : Int} (h : f_X2_isOn b x1 d = some (rv, dz)) : zMet V 1 yX2_isOn cX2_isOn 2 (some .boolean) [.ref (zad V b), .int (zI x1)] d (some (.int (zI rv))) (rv = 0 ∨ rv = 1) dz := by
  refine zMet_by RX2 pn2 rfl (Nat.le_of_ble_eq_true rfl) [some (.ref (zad V b)), some (.int (zI x1))] rfl fun X C E => ?_
  refine zP_aload_n (pc := 0) C (x := zad V b) dX2_isOn_0 rfl rfl ?_
  refine zP_getR (pc := 1) (a := b) (t := 1) C g2_74 dX2_isOn_1 (s_X2 hb) rfl ?_
  refine zP_iload_n (pc := 4) C (x := zI x1) dX2_isOn_4 rfl rfl ?_
  obtain ⟨v5, d1, hc, h⟩ := zc_h h
  refine zP_callV (pc := 5) (As := [.int (zI x1)]) (st := []) C m2_118 dX2_isOn_5 (s_X6 (o_X2_setup hb)) rfl (t_X6_has (o_X2_setup hb) hx1 hc) ⟨Nat.le_of_ble_eq_true rfl, Nat.le_of_ble_eq_true rfl⟩ rfl (Nat.le_of_ble_eq_true rfl) ⟨Nat.zero_le _, Nat.zero_le _⟩ fun hw => ?_
  have hbv5 := hw
  have hv5 := z01 hw
  clear hc hw
  show zP V X 2 0 0 8 _ [.int (zI v5)] d1
  revert h
  generalize d1 = d
  intro h
  refine zP_if_eq (pc := 8) (tgt := 28) C dX2_isOn_8 rfl hv5 h (fun _ h => ?_) (fun _ h => ?_)
  · refine zP_iconst (pc := 28) C dX2_isOn_28 ?_
    exact zP_zret (pc := 29) C E dX2_isOn_29 (Or.inl rfl) h
  · refine zP_aload_n (pc := 11) C (x := zad V b) dX2_isOn_11 rfl rfl ?_
    refine zP_getR (pc := 12) (a := b) (t := b + 15) C g2_28 dX2_isOn_12 (s_X2 hb) rfl ?_
    refine zP_getR (pc := 15) (a := b + 15) (t := b + 17) C g2_122 dX2_isOn_15 (s_X8 hb) rfl ?_
    refine zP_iload_n (pc := 18) C (x := zI x1) dX2_isOn_18 rfl rfl ?_
    refine zP_iald (pc := 19) (a := b + 17) C dX2_isOn_19 (s_X8_on hb) hx1 h fun v19 hv19 h => ?_
    refine zP_iconst (pc := 20) C dX2_isOn_20 ?_
    refine zP_icmp_ne (pc := 21) (tgt := 28) C dX2_isOn_21 rfl hv19 (zRk rfl) h (fun _ h => ?_) (fun _ h => ?_)
    · refine zP_iconst (pc := 28) C dX2_isOn_28 ?_
      exact zP_zret (pc := 29) C E dX2_isOn_29 (Or.inl rfl) h
    · refine zP_iconst (pc := 24) C dX2_isOn_24 ?_
      refine zP_goto (pc := 25) (tgt := 29) C dX2_isOn_25 rfl ?_
      exact zP_zret (pc := 29) C E dX2_isOn_29 (Or.inr rfl) h
def l_X1_nextToSelect_13F (g : Nat) (lb : Nat) (r13 : Int → Int → zD → Option (Int × zD)) (x1 x2 : Int) (d : zD) : Option (Int × zD) :=
  if (x1 : Int) < x2 then (
    some ((-1), d))
  else (
    zl (d lb 13) fun v22 =>
    zl (zw (v22 + x2)) fun v26 =>
    zn x1 <| zl (zrem v26 x1) fun v28 =>
    zc (f_X2_isOn lb v28 d) fun v35 d =>
    if (v35 : Int) = 0 then (
      zl (zw (x2 + 1)) fun v58 =>
      r13 x1 v58 d)
    else (
      zc (f_X4_sizeOf lb 1 v28 d) fun v50 d =>
      if (v50 : Int) ≤ 0 then (
        zl (zw (x2 + 1)) fun v58 =>
        r13 x1 v58 d)
      else (
        some (v28, d))))
theorem wl_X1_nextToSelect_13F {V : zW} {X : zX} {g : Nat} {lb : Nat} (hg : zo1 V g lb) (C : zOk V X cX1_nextToSelect RX1 4 (zrm 2) (some .int)) {rv : Int} {dz : zD} (E : zEnd V X (some (.int (zI rv))) (zR rv) dz) {r13 : Int → Int → zD → Option (Int × zD)} (hr13 : ∀ {x1 x2 : Int} {d : zD}, zR x1 → zR x2 → r13 x1 x2 d = some (rv, dz) → zP V X 4 0 0 13 [some (.ref (zad V g)), some (.int (zI x1)), some (.int (zI x2)), none] [] d) {x1 x2 : Int} (hx1 : zR x1) (hx2 : zR x2) {d : zD} (h : l_X1_nextToSelect_13F g lb r13 x1 x2 d = some (rv, dz)) : zP V X 4 0 0 13 [some (.ref (zad V g)), some (.int (zI x1)), some (.int (zI x2)), none] [] d := by
  refine zP_iload_n (pc := 13) C (x := zI x2) dX1_nextToSelect_13 rfl rfl ?_
  refine zP_iload_n (pc := 14) C (x := zI x1) dX1_nextToSelect_14 rfl rfl ?_
  refine zP_icmp_gt (pc := 15) (tgt := 64) C dX1_nextToSelect_15 rfl hx2 hx1 h (fun _ h => ?_) (fun _ h => ?_)
  · refine zP_iconst (pc := 64) C dX1_nextToSelect_64 ?_
    exact zP_iret (pc := 65) C E dX1_nextToSelect_65 (zRk rfl) h
  · refine zP_aload_n (pc := 18) C (x := zad V g) dX1_nextToSelect_18 rfl rfl ?_
    refine zP_getR (pc := 19) (a := g) (t := lb) C g1_21 dX1_nextToSelect_19 (s_X1 hg) rfl ?_
    refine zP_getI (pc := 22) (a := lb) C g1_73 dX1_nextToSelect_22 (s_X2 (o_X1_line hg)) rfl h fun v22 hv22 h => ?_
    refine zP_iload_n (pc := 25) C (x := zI x2) dX1_nextToSelect_25 rfl rfl ?_
    refine zP_iadd (pc := 26) C dX1_nextToSelect_26 h fun v26 hv26 h => ?_
    refine zP_iload_n (pc := 27) C (x := zI x1) dX1_nextToSelect_27 rfl rfl ?_
    refine zP_irem (pc := 28) C dX1_nextToSelect_28 hx1 h fun v28 hv28 h => ?_
    refine zP_istore_n (pc := 29) C (L' := [some (.ref (zad V g)), some (.int (zI x1)), some (.int (zI x2)), some (.int (zI v28))]) dX1_nextToSelect_29 rfl (Nat.le_of_ble_eq_true rfl) rfl rfl ?_
    refine zP_aload_n (pc := 30) C (x := zad V g) dX1_nextToSelect_30 rfl rfl ?_
    refine zP_getR (pc := 31) (a := g) (t := lb) C g1_21 dX1_nextToSelect_31 (s_X1 hg) rfl ?_
    refine zP_iload_n (pc := 34) C (x := zI v28) dX1_nextToSelect_34 rfl rfl ?_
    obtain ⟨v35, d1, hc, h⟩ := zc_h h
    refine zP_callV (pc := 35) (As := [.int (zI v28)]) (st := []) C m1_76 dX1_nextToSelect_35 (s_X2 (o_X1_line hg)) rfl (t_X2_isOn (o_X1_line hg) hv28 hc) ⟨Nat.le_of_ble_eq_true rfl, Nat.le_of_ble_eq_true rfl⟩ rfl (Nat.le_of_ble_eq_true rfl) ⟨Nat.zero_le _, Nat.zero_le _⟩ fun hw => ?_
    have hbv35 := hw
    have hv35 := z01 hw
    clear hc hw
    show zP V X 4 0 0 38 _ [.int (zI v35)] d1
    revert h
    generalize d1 = d
    intro h
    refine zP_if_eq (pc := 38) (tgt := 58) C dX1_nextToSelect_38 rfl hv35 h (fun _ h => ?_) (fun _ h => ?_)
    · refine zP_iinc (pc := 58) C (x := x2) dX1_nextToSelect_58 rfl (Nat.le_of_ble_eq_true rfl) rfl h fun v58 hv58 h => ?_
      show zP V X 4 0 0 61 [some (.ref (zad V g)), some (.int (zI x1)), some (.int (zI v58)), some (.int (zI v28))] _ _
      refine zP_goto (pc := 61) (tgt := 13) C dX1_nextToSelect_61 rfl ?_
      exact zP_mask [true, true, true, false] (hr13 hx1 hv58 h)
    · refine zP_aload_n (pc := 41) C (x := zad V g) dX1_nextToSelect_41 rfl rfl ?_
      refine zP_getR (pc := 42) (a := g) (t := lb) C g1_21 dX1_nextToSelect_42 (s_X1 hg) rfl ?_
      refine zP_getR (pc := 45) (a := lb) (t := lb + 10) C g1_79 dX1_nextToSelect_45 (s_X2 (o_X1_line hg)) rfl ?_
      refine zP_iconst (pc := 48) C dX1_nextToSelect_48 ?_
      refine zP_iload_n (pc := 49) C (x := zI v28) dX1_nextToSelect_49 rfl rfl ?_
      obtain ⟨v50, d1, hc, h⟩ := zc_h h
      refine zP_callV (pc := 50) (As := [.int (zI 1), .int (zI v28)]) (st := []) C m1_83 dX1_nextToSelect_50 (s_X4 (o_X1_line hg)) rfl (t_X4_sizeOf (o_X1_line hg) (zRk rfl) hv28 hc) ⟨Nat.le_of_ble_eq_true rfl, Nat.le_of_ble_eq_true rfl⟩ rfl (Nat.le_of_ble_eq_true rfl) ⟨Nat.zero_le _, Nat.zero_le _⟩ fun hw => ?_
      have hv50 := hw
      clear hc hw
      show zP V X 4 0 0 53 _ [.int (zI v50)] d1
      revert h
      generalize d1 = d
      intro h
      refine zP_if_le (pc := 53) (tgt := 58) C dX1_nextToSelect_53 rfl hv50 h (fun _ h => ?_) (fun _ h => ?_)
      · refine zP_iinc (pc := 58) C (x := x2) dX1_nextToSelect_58 rfl (Nat.le_of_ble_eq_true rfl) rfl h fun v58 hv58 h => ?_
        show zP V X 4 0 0 61 [some (.ref (zad V g)), some (.int (zI x1)), some (.int (zI v58)), some (.int (zI v28))] _ _
        refine zP_goto (pc := 61) (tgt := 13) C dX1_nextToSelect_61 rfl ?_
        exact zP_mask [true, true, true, false] (hr13 hx1 hv58 h)
      · refine zP_iload_n (pc := 56) C (x := zI v28) dX1_nextToSelect_56 rfl rfl ?_
        exact zP_iret (pc := 57) C E dX1_nextToSelect_57 hv28 h
def l_X1_nextToSelect_13 (g : Nat) (lb : Nat)  : Nat → Int → Int → zD → Option (Int × zD)
  | 0, _, _, _ => none
  | q + 1, x1, x2, d => l_X1_nextToSelect_13F g lb  (l_X1_nextToSelect_13 g lb  q) x1 x2 d
theorem wl_X1_nextToSelect_13 {V : zW} {X : zX} {g : Nat} {lb : Nat} (hg : zo1 V g lb) (C : zOk V X cX1_nextToSelect RX1 4 (zrm 2) (some .int)) {rv : Int} {dz : zD} (E : zEnd V X (some (.int (zI rv))) (zR rv) dz)  : ∀ (q : Nat) {x1 x2 : Int} (hx1 : zR x1) (hx2 : zR x2) {d : zD} (h : l_X1_nextToSelect_13 g lb  q x1 x2 d = some (rv, dz)), zP V X 4 0 0 13 [some (.ref (zad V g)), some (.int (zI x1)), some (.int (zI x2)), none] [] d := by
  intro q
  induction q with
  | zero => intro x1 x2 hx1 hx2 d h; cases (show (none : Option (Int × zD)) = some (rv, dz) from h)
  | succ q ih =>
    intro x1 x2 hx1 hx2 d h
    exact wl_X1_nextToSelect_13F hg C E  (fun  hx1 hx2 h => ih hx1 hx2 h) hx1 hx2 h
def f_X1_nextToSelect (g : Nat) (lb : Nat) (d : zD) : Option (Int × zD) :=
  zl (d 1 0) fun v7 =>
  l_X1_nextToSelect_13 g lb  zF v7 1 d
theorem t_X1_nextToSelect {V : zW} {g : Nat} {lb : Nat} (hg : zo1 V g lb)   {d dz : zD} {rv : Int} (h : f_X1_nextToSelect g lb  d = some (rv, dz)) : zMet V 2 yX1_nextToSelect cX1_nextToSelect 4 (some .int) [.ref (zad V g)] d (some (.int (zI rv))) (zR rv) dz := by
  refine zMet_by RX1 pn1 rfl (Nat.le_of_ble_eq_true rfl) [some (.ref (zad V g)), none, none, none] rfl fun X C E => ?_
  refine zP_aload_n (pc := 0) C (x := zad V g) dX1_nextToSelect_0 rfl rfl ?_
  refine zP_getR (pc := 1) (a := g) (t := lb) C g1_21 dX1_nextToSelect_1 (s_X1 hg) rfl ?_
  refine zP_getR (pc := 4) (a := lb) (t := 1) C g1_52 dX1_nextToSelect_4 (s_X2 (o_X1_line hg)) rfl ?_
  refine zP_getI (pc := 7) (a := 1) C g1_56 dX1_nextToSelect_7 (s_X6 (o_X2_setup (o_X1_line hg))) rfl h fun v7 hv7 h => ?_
  refine zP_istore_n (pc := 10) C (L' := [some (.ref (zad V g)), some (.int (zI v7)), none, none]) dX1_nextToSelect_10 rfl (Nat.le_of_ble_eq_true rfl) rfl rfl ?_
  refine zP_iconst (pc := 11) C dX1_nextToSelect_11 ?_
  refine zP_istore_n (pc := 12) C (L' := [some (.ref (zad V g)), some (.int (zI v7)), some (.int (zI 1)), none]) dX1_nextToSelect_12 rfl (Nat.le_of_ble_eq_true rfl) rfl rfl ?_
  exact zP_mask [true, true, true, false] (wl_X1_nextToSelect_13 hg C E  zF hv7 (zRk rfl) h)
def l_X1_nextPlace_35F (g : Nat) (lb : Nat) (r35 : Int → Int → Int → zD → Option (Int × zD)) (x1 x2 x3 : Int) (d : zD) : Option (Int × zD) :=
  if (x1 : Int) < x3 then (
    some ((-1), d))
  else (
    zl (zw (x2 + x3)) fun v42 =>
    zn x1 <| zl (zrem v42 x1) fun v44 =>
    zg 16 v44 <| zl (d (lb + 29) (v44 : Int).toNat) fun v60 =>
    zc (f_X2_isOn lb v60 d) fun v61 d =>
    if (v61 : Int) = 0 then (
      zl (zw (x3 + 1)) fun v70 =>
      r35 x1 x2 v70 d)
    else (
      some (v44, d)))
theorem wl_X1_nextPlace_35F {V : zW} {X : zX} {g : Nat} {lb : Nat} (hg : zo1 V g lb) (C : zOk V X cX1_nextPlace RX1 5 (zrm 2) (some .int)) {rv : Int} {dz : zD} (E : zEnd V X (some (.int (zI rv))) (zR rv) dz) {r35 : Int → Int → Int → zD → Option (Int × zD)} (hr35 : ∀ {x1 x2 x3 : Int} {d : zD}, zR x1 → zR x2 → zR x3 → r35 x1 x2 x3 d = some (rv, dz) → zP V X 5 0 0 35 [some (.ref (zad V g)), some (.int (zI x1)), some (.int (zI x2)), some (.int (zI x3)), none] [] d) {x1 x2 x3 : Int} (hx1 : zR x1) (hx2 : zR x2) (hx3 : zR x3) {d : zD} (h : l_X1_nextPlace_35F g lb r35 x1 x2 x3 d = some (rv, dz)) : zP V X 5 0 0 35 [some (.ref (zad V g)), some (.int (zI x1)), some (.int (zI x2)), some (.int (zI x3)), none] [] d := by
  refine zP_iload_n (pc := 35) C (x := zI x3) dX1_nextPlace_35 rfl rfl ?_
  refine zP_iload_n (pc := 36) C (x := zI x1) dX1_nextPlace_36 rfl rfl ?_
  refine zP_icmp_gt (pc := 37) (tgt := 76) C dX1_nextPlace_37 rfl hx3 hx1 h (fun _ h => ?_) (fun _ h => ?_)
  · refine zP_iconst (pc := 76) C dX1_nextPlace_76 ?_
    exact zP_iret (pc := 77) C E dX1_nextPlace_77 (zRk rfl) h
  · refine zP_iload_n (pc := 40) C (x := zI x2) dX1_nextPlace_40 rfl rfl ?_
    refine zP_iload_n (pc := 41) C (x := zI x3) dX1_nextPlace_41 rfl rfl ?_
    refine zP_iadd (pc := 42) C dX1_nextPlace_42 h fun v42 hv42 h => ?_
    refine zP_iload_n (pc := 43) C (x := zI x1) dX1_nextPlace_43 rfl rfl ?_
    refine zP_irem (pc := 44) C dX1_nextPlace_44 hx1 h fun v44 hv44 h => ?_
    refine zP_istore (pc := 45) C (L' := [some (.ref (zad V g)), some (.int (zI x1)), some (.int (zI x2)), some (.int (zI x3)), some (.int (zI v44))]) dX1_nextPlace_45 (Nat.le_of_ble_eq_true rfl) rfl rfl ?_
    refine zP_aload_n (pc := 47) C (x := zad V g) dX1_nextPlace_47 rfl rfl ?_
    refine zP_getR (pc := 48) (a := g) (t := lb) C g1_21 dX1_nextPlace_48 (s_X1 hg) rfl ?_
    refine zP_aload_n (pc := 51) C (x := zad V g) dX1_nextPlace_51 rfl rfl ?_
    refine zP_getR (pc := 52) (a := g) (t := lb) C g1_21 dX1_nextPlace_52 (s_X1 hg) rfl ?_
    refine zP_getR (pc := 55) (a := lb) (t := lb + 29) C g1_49 dX1_nextPlace_55 (s_X2 (o_X1_line hg)) rfl ?_
    refine zP_iload (pc := 58) C (x := zI v44) dX1_nextPlace_58 rfl ?_
    refine zP_iald (pc := 60) (a := lb + 29) C dX1_nextPlace_60 (s_X2_list (o_X1_line hg)) hv44 h fun v60 hv60 h => ?_
    obtain ⟨v61, d1, hc, h⟩ := zc_h h
    refine zP_callV (pc := 61) (As := [.int (zI v60)]) (st := []) C m1_76 dX1_nextPlace_61 (s_X2 (o_X1_line hg)) rfl (t_X2_isOn (o_X1_line hg) hv60 hc) ⟨Nat.le_of_ble_eq_true rfl, Nat.le_of_ble_eq_true rfl⟩ rfl (Nat.le_of_ble_eq_true rfl) ⟨Nat.zero_le _, Nat.zero_le _⟩ fun hw => ?_
    have hbv61 := hw
    have hv61 := z01 hw
    clear hc hw
    show zP V X 5 0 0 64 _ [.int (zI v61)] d1
    revert h
    generalize d1 = d
    intro h
    refine zP_if_eq (pc := 64) (tgt := 70) C dX1_nextPlace_64 rfl hv61 h (fun _ h => ?_) (fun _ h => ?_)
    · refine zP_iinc (pc := 70) C (x := x3) dX1_nextPlace_70 rfl (Nat.le_of_ble_eq_true rfl) rfl h fun v70 hv70 h => ?_
      show zP V X 5 0 0 73 [some (.ref (zad V g)), some (.int (zI x1)), some (.int (zI x2)), some (.int (zI v70)), some (.int (zI v44))] _ _
      refine zP_goto (pc := 73) (tgt := 35) C dX1_nextPlace_73 rfl ?_
      exact zP_mask [true, true, true, true, false] (hr35 hx1 hx2 hv70 h)
    · refine zP_iload (pc := 67) C (x := zI v44) dX1_nextPlace_67 rfl ?_
      exact zP_iret (pc := 69) C E dX1_nextPlace_69 hv44 h
def l_X1_nextPlace_35 (g : Nat) (lb : Nat)  : Nat → Int → Int → Int → zD → Option (Int × zD)
  | 0, _, _, _, _ => none
  | q + 1, x1, x2, x3, d => l_X1_nextPlace_35F g lb  (l_X1_nextPlace_35 g lb  q) x1 x2 x3 d
theorem wl_X1_nextPlace_35 {V : zW} {X : zX} {g : Nat} {lb : Nat} (hg : zo1 V g lb) (C : zOk V X cX1_nextPlace RX1 5 (zrm 2) (some .int)) {rv : Int} {dz : zD} (E : zEnd V X (some (.int (zI rv))) (zR rv) dz)  : ∀ (q : Nat) {x1 x2 x3 : Int} (hx1 : zR x1) (hx2 : zR x2) (hx3 : zR x3) {d : zD} (h : l_X1_nextPlace_35 g lb  q x1 x2 x3 d = some (rv, dz)), zP V X 5 0 0 35 [some (.ref (zad V g)), some (.int (zI x1)), some (.int (zI x2)), some (.int (zI x3)), none] [] d := by
  intro q
  induction q with
  | zero => intro x1 x2 x3 hx1 hx2 hx3 d h; cases (show (none : Option (Int × zD)) = some (rv, dz) from h)
  | succ q ih =>
    intro x1 x2 x3 hx1 hx2 hx3 d h
    exact wl_X1_nextPlace_35F hg C E  (fun  hx1 hx2 hx3 h => ih hx1 hx2 hx3 h) hx1 hx2 hx3 h
def j_X1_nextPlace_32 (g : Nat) (lb : Nat)  (x1 s0 : Int) (d : zD) : Option (Int × zD) :=
  l_X1_nextPlace_35 g lb  zF x1 s0 1 d
theorem wj_X1_nextPlace_32 {V : zW} {X : zX} {g : Nat} {lb : Nat} (hg : zo1 V g lb) (C : zOk V X cX1_nextPlace RX1 5 (zrm 2) (some .int)) {rv : Int} {dz : zD} (E : zEnd V X (some (.int (zI rv))) (zR rv) dz)  {x1 s0 : Int} (hx1 : zR x1) (hs0 : zR s0) {d : zD} (h : j_X1_nextPlace_32 g lb  x1 s0 d = some (rv, dz)) : zP V X 5 0 0 32 [some (.ref (zad V g)), some (.int (zI x1)), none, none, none] [.int (zI s0)] d := by
  refine zP_istore_n (pc := 32) C (L' := [some (.ref (zad V g)), some (.int (zI x1)), some (.int (zI s0)), none, none]) dX1_nextPlace_32 rfl (Nat.le_of_ble_eq_true rfl) rfl rfl ?_
  refine zP_iconst (pc := 33) C dX1_nextPlace_33 ?_
  refine zP_istore_n (pc := 34) C (L' := [some (.ref (zad V g)), some (.int (zI x1)), some (.int (zI s0)), some (.int (zI 1)), none]) dX1_nextPlace_34 rfl (Nat.le_of_ble_eq_true rfl) rfl rfl ?_
  exact zP_mask [true, true, true, true, false] (wl_X1_nextPlace_35 hg C E  zF hx1 hs0 (zRk rfl) h)
def f_X1_nextPlace (g : Nat) (lb : Nat) (d : zD) : Option (Int × zD) :=
  zl (d lb 8) fun v4 =>
  zl (d lb 14) fun v12 =>
  if (v4 : Int) ≤ v12 then (
    zl (zw (v4 - 1)) fun v31 =>
    j_X1_nextPlace_32 g lb  v4 v31 d)
  else (
    zl (d lb 14) fun v23 =>
    j_X1_nextPlace_32 g lb  v4 v23 d)
theorem t_X1_nextPlace {V : zW} {g : Nat} {lb : Nat} (hg : zo1 V g lb)   {d dz : zD} {rv : Int} (h : f_X1_nextPlace g lb  d = some (rv, dz)) : zMet V 2 yX1_nextPlace cX1_nextPlace 5 (some .int) [.ref (zad V g)] d (some (.int (zI rv))) (zR rv) dz := by
  refine zMet_by RX1 pn1 rfl (Nat.le_of_ble_eq_true rfl) [some (.ref (zad V g)), none, none, none, none] rfl fun X C E => ?_
  refine zP_aload_n (pc := 0) C (x := zad V g) dX1_nextPlace_0 rfl rfl ?_
  refine zP_getR (pc := 1) (a := g) (t := lb) C g1_21 dX1_nextPlace_1 (s_X1 hg) rfl ?_
  refine zP_getI (pc := 4) (a := lb) C g1_89 dX1_nextPlace_4 (s_X2 (o_X1_line hg)) rfl h fun v4 hv4 h => ?_
  refine zP_istore_n (pc := 7) C (L' := [some (.ref (zad V g)), some (.int (zI v4)), none, none, none]) dX1_nextPlace_7 rfl (Nat.le_of_ble_eq_true rfl) rfl rfl ?_
  refine zP_aload_n (pc := 8) C (x := zad V g) dX1_nextPlace_8 rfl rfl ?_
  refine zP_getR (pc := 9) (a := g) (t := lb) C g1_21 dX1_nextPlace_9 (s_X1 hg) rfl ?_
  refine zP_getI (pc := 12) (a := lb) C g1_92 dX1_nextPlace_12 (s_X2 (o_X1_line hg)) rfl h fun v12 hv12 h => ?_
  refine zP_iload_n (pc := 15) C (x := zI v4) dX1_nextPlace_15 rfl rfl ?_
  refine zP_icmp_ge (pc := 16) (tgt := 29) C dX1_nextPlace_16 rfl hv12 hv4 h (fun _ h => ?_) (fun _ h => ?_)
  · refine zP_iload_n (pc := 29) C (x := zI v4) dX1_nextPlace_29 rfl rfl ?_
    refine zP_iconst (pc := 30) C dX1_nextPlace_30 ?_
    refine zP_isub (pc := 31) C dX1_nextPlace_31 h fun v31 hv31 h => ?_
    exact zP_mask [true, true, false, false, false] (wj_X1_nextPlace_32 hg C E  hv4 hv31 h)
  · refine zP_aload_n (pc := 19) C (x := zad V g) dX1_nextPlace_19 rfl rfl ?_
    refine zP_getR (pc := 20) (a := g) (t := lb) C g1_21 dX1_nextPlace_20 (s_X1 hg) rfl ?_
    refine zP_getI (pc := 23) (a := lb) C g1_92 dX1_nextPlace_23 (s_X2 (o_X1_line hg)) rfl h fun v23 hv23 h => ?_
    refine zP_goto (pc := 26) (tgt := 32) C dX1_nextPlace_26 rfl ?_
    exact zP_mask [true, true, false, false, false] (wj_X1_nextPlace_32 hg C E  hv4 hv23 h)
def f_X2_hasPlace (b : Nat) (x1 : Int) (d : zD) : Option (Int × zD) :=
  if (x1 : Int) < 0 then (
    some (0, d))
  else (
    zl (d b 8) fun v6 =>
    if (v6 : Int) ≤ x1 then (
      some (0, d))
    else (
      some (1, d)))
theorem t_X2_hasPlace {V : zW} {b : Nat} (hb : zo2 V b) {x1 : Int} (hx1 : zR x1) {d dz : zD} {rv : Int} (h : f_X2_hasPlace b x1 d = some (rv, dz)) : zMet V 0 yX2_hasPlace cX2_hasPlace 2 (some .boolean) [.ref (zad V b), .int (zI x1)] d (some (.int (zI rv))) (rv = 0 ∨ rv = 1) dz := by
  refine zMet_by RX2 pn2 rfl (Nat.le_of_ble_eq_true rfl) [some (.ref (zad V b)), some (.int (zI x1))] rfl fun X C E => ?_
  refine zP_iload_n (pc := 0) C (x := zI x1) dX2_hasPlace_0 rfl rfl ?_
  refine zP_if_lt (pc := 1) (tgt := 16) C dX2_hasPlace_1 rfl hx1 h (fun _ h => ?_) (fun _ h => ?_)
  · refine zP_iconst (pc := 16) C dX2_hasPlace_16 ?_
    exact zP_zret (pc := 17) C E dX2_hasPlace_17 (Or.inl rfl) h
  · refine zP_iload_n (pc := 4) C (x := zI x1) dX2_hasPlace_4 rfl rfl ?_
    refine zP_aload_n (pc := 5) C (x := zad V b) dX2_hasPlace_5 rfl rfl ?_
    refine zP_getI (pc := 6) (a := b) C g2_49 dX2_hasPlace_6 (s_X2 hb) rfl h fun v6 hv6 h => ?_
    refine zP_icmp_ge (pc := 9) (tgt := 16) C dX2_hasPlace_9 rfl hx1 hv6 h (fun _ h => ?_) (fun _ h => ?_)
    · refine zP_iconst (pc := 16) C dX2_hasPlace_16 ?_
      exact zP_zret (pc := 17) C E dX2_hasPlace_17 (Or.inl rfl) h
    · refine zP_iconst (pc := 12) C dX2_hasPlace_12 ?_
      refine zP_goto (pc := 13) (tgt := 17) C dX2_hasPlace_13 rfl ?_
      exact zP_zret (pc := 17) C E dX2_hasPlace_17 (Or.inr rfl) h
def j_X1_choose_130 (g : Nat) (lb : Nat)  (d : zD) : Option (Int × zD) :=
  zl (d g 2) fun v131 =>
  if (v131 : Int) = (-1) then (
    zl (zu d g 1 3) fun d =>
    some (0, d))
  else (
    some (0, d))
theorem wj_X1_choose_130 {V : zW} {X : zX} {g : Nat} {lb : Nat} (hg : zo1 V g lb) (C : zOk V X cX1_choose RX1 2 (zrm 3) none) {rv : Int} {dz : zD} (E : zEnd V X none (rv = 0) dz)    {d : zD} (h : j_X1_choose_130 g lb   d = some (rv, dz)) : zP V X 2 0 0 130 [some (.ref (zad V g)), none] [] d := by
  refine zP_aload_n (pc := 130) C (x := zad V g) dX1_choose_130 rfl rfl ?_
  refine zP_getI (pc := 131) (a := g) C g1_15 dX1_choose_131 (s_X1 hg) rfl h fun v131 hv131 h => ?_
  refine zP_iconst (pc := 134) C dX1_choose_134 ?_
  refine zP_icmp_ne (pc := 135) (tgt := 143) C dX1_choose_135 rfl hv131 (zRk rfl) h (fun _ h => ?_) (fun _ h => ?_)
  · exact zP_vret (pc := 143) C E dX1_choose_143 h
  · refine zP_aload_n (pc := 138) C (x := zad V g) dX1_choose_138 rfl rfl ?_
    refine zP_iconst (pc := 139) C dX1_choose_139 ?_
    refine zP_putI (pc := 140) (a := g) C p1_9 dX1_choose_140 (s_X1 hg) rfl (zRk rfl) h fun d h => ?_
    exact zP_vret (pc := 143) C E dX1_choose_143 h
def j_X1_choose_109 (g : Nat) (lb : Nat)  (d : zD) : Option (Int × zD) :=
  zl (d g 2) fun v110 =>
  if (v110 : Int) = (-1) then (
    zl (zu d g 1 1) fun d =>
    zc (f_X1_nextToSelect g lb  d) fun v124 d =>
    zl (zu d g 2 v124) fun d =>
    j_X1_choose_130 g lb   d)
  else (
    j_X1_choose_130 g lb   d)
theorem wj_X1_choose_109 {V : zW} {X : zX} {g : Nat} {lb : Nat} (hg : zo1 V g lb) (C : zOk V X cX1_choose RX1 2 (zrm 3) none) {rv : Int} {dz : zD} (E : zEnd V X none (rv = 0) dz)    {d : zD} (h : j_X1_choose_109 g lb   d = some (rv, dz)) : zP V X 2 0 0 109 [some (.ref (zad V g)), none] [] d := by
  refine zP_aload_n (pc := 109) C (x := zad V g) dX1_choose_109 rfl rfl ?_
  refine zP_getI (pc := 110) (a := g) C g1_15 dX1_choose_110 (s_X1 hg) rfl h fun v110 hv110 h => ?_
  refine zP_iconst (pc := 113) C dX1_choose_113 ?_
  refine zP_icmp_ne (pc := 114) (tgt := 130) C dX1_choose_114 rfl hv110 (zRk rfl) h (fun _ h => ?_) (fun _ h => ?_)
  · exact zP_mask [true, false] (wj_X1_choose_130 hg C E   h)
  · refine zP_aload_n (pc := 117) C (x := zad V g) dX1_choose_117 rfl rfl ?_
    refine zP_iconst (pc := 118) C dX1_choose_118 ?_
    refine zP_putI (pc := 119) (a := g) C p1_9 dX1_choose_119 (s_X1 hg) rfl (zRk rfl) h fun d h => ?_
    refine zP_aload_n (pc := 122) C (x := zad V g) dX1_choose_122 rfl rfl ?_
    refine zP_aload_n (pc := 123) C (x := zad V g) dX1_choose_123 rfl rfl ?_
    obtain ⟨v124, d1, hc, h⟩ := zc_h h
    refine zP_callV (pc := 124) (As := []) (st := [.ref (zad V g)]) C m1_38 dX1_choose_124 (s_X1 hg) rfl (t_X1_nextToSelect hg  hc) ⟨Nat.le_of_ble_eq_true rfl, Nat.le_of_ble_eq_true rfl⟩ rfl (Nat.le_of_ble_eq_true rfl) ⟨Nat.zero_le _, Nat.zero_le _⟩ fun hw => ?_
    have hv124 := hw
    clear hc hw
    show zP V X 2 0 0 127 _ [.int (zI v124), .ref (zad V g)] d1
    revert h
    generalize d1 = d
    intro h
    refine zP_putI (pc := 127) (a := g) C p1_15 dX1_choose_127 (s_X1 hg) rfl hv124 h fun d h => ?_
    exact zP_mask [true, false] (wj_X1_choose_130 hg C E   h)
def j_X1_choose_106 (g : Nat) (lb : Nat)  (s0 : Int) (d : zD) : Option (Int × zD) :=
  zl (zu d g 2 s0) fun d =>
  j_X1_choose_109 g lb   d
theorem wj_X1_choose_106 {V : zW} {X : zX} {g : Nat} {lb : Nat} (hg : zo1 V g lb) (C : zOk V X cX1_choose RX1 2 (zrm 3) none) {rv : Int} {dz : zD} (E : zEnd V X none (rv = 0) dz)  {s0 : Int} (hs0 : zR s0) {d : zD} (h : j_X1_choose_106 g lb  s0 d = some (rv, dz)) : zP V X 2 0 0 106 [some (.ref (zad V g)), none] [.int (zI s0), .ref (zad V g)] d := by
  refine zP_putI (pc := 106) (a := g) C p1_15 dX1_choose_106 (s_X1 hg) rfl hs0 h fun d h => ?_
  exact zP_mask [true, false] (wj_X1_choose_109 hg C E   h)
def j_X1_choose_54 (g : Nat) (lb : Nat)  (d : zD) : Option (Int × zD) :=
  zl (d g 2) fun v55 =>
  if (v55 : Int) = (-1) then (
    zl (zu d g 1 0) fun d =>
    zc (f_X1_nextPlace g lb  d) fun v69 d =>
    zl (zu d g 3 v69) fun d =>
    zl (d g 3) fun v81 =>
    zc (f_X2_hasPlace lb v81 d) fun v84 d =>
    if (v84 : Int) = 0 then (
      j_X1_choose_106 g lb  (-1) d)
    else (
      zl (d g 3) fun v98 =>
      zg 16 v98 <| zl (d (lb + 29) (v98 : Int).toNat) fun v101 =>
      j_X1_choose_106 g lb  v101 d))
  else (
    j_X1_choose_109 g lb   d)
theorem wj_X1_choose_54 {V : zW} {X : zX} {g : Nat} {lb : Nat} (hg : zo1 V g lb) (C : zOk V X cX1_choose RX1 2 (zrm 3) none) {rv : Int} {dz : zD} (E : zEnd V X none (rv = 0) dz)    {d : zD} (h : j_X1_choose_54 g lb   d = some (rv, dz)) : zP V X 2 0 0 54 [some (.ref (zad V g)), none] [] d := by
  refine zP_aload_n (pc := 54) C (x := zad V g) dX1_choose_54 rfl rfl ?_
  refine zP_getI (pc := 55) (a := g) C g1_15 dX1_choose_55 (s_X1 hg) rfl h fun v55 hv55 h => ?_
  refine zP_iconst (pc := 58) C dX1_choose_58 ?_
  refine zP_icmp_ne (pc := 59) (tgt := 109) C dX1_choose_59 rfl hv55 (zRk rfl) h (fun _ h => ?_) (fun _ h => ?_)
  · exact zP_mask [true, false] (wj_X1_choose_109 hg C E   h)
  · refine zP_aload_n (pc := 62) C (x := zad V g) dX1_choose_62 rfl rfl ?_
    refine zP_iconst (pc := 63) C dX1_choose_63 ?_
    refine zP_putI (pc := 64) (a := g) C p1_9 dX1_choose_64 (s_X1 hg) rfl (zRk rfl) h fun d h => ?_
    refine zP_aload_n (pc := 67) C (x := zad V g) dX1_choose_67 rfl rfl ?_
    refine zP_aload_n (pc := 68) C (x := zad V g) dX1_choose_68 rfl rfl ?_
    obtain ⟨v69, d1, hc, h⟩ := zc_h h
    refine zP_callV (pc := 69) (As := []) (st := [.ref (zad V g)]) C m1_42 dX1_choose_69 (s_X1 hg) rfl (t_X1_nextPlace hg  hc) ⟨Nat.le_of_ble_eq_true rfl, Nat.le_of_ble_eq_true rfl⟩ rfl (Nat.le_of_ble_eq_true rfl) ⟨Nat.zero_le _, Nat.zero_le _⟩ fun hw => ?_
    have hv69 := hw
    clear hc hw
    show zP V X 2 0 0 72 _ [.int (zI v69), .ref (zad V g)] d1
    revert h
    generalize d1 = d
    intro h
    refine zP_putI (pc := 72) (a := g) C p1_18 dX1_choose_72 (s_X1 hg) rfl hv69 h fun d h => ?_
    refine zP_aload_n (pc := 75) C (x := zad V g) dX1_choose_75 rfl rfl ?_
    refine zP_aload_n (pc := 76) C (x := zad V g) dX1_choose_76 rfl rfl ?_
    refine zP_getR (pc := 77) (a := g) (t := lb) C g1_21 dX1_choose_77 (s_X1 hg) rfl ?_
    refine zP_aload_n (pc := 80) C (x := zad V g) dX1_choose_80 rfl rfl ?_
    refine zP_getI (pc := 81) (a := g) C g1_18 dX1_choose_81 (s_X1 hg) rfl h fun v81 hv81 h => ?_
    obtain ⟨v84, d1, hc, h⟩ := zc_h h
    refine zP_callV (pc := 84) (As := [.int (zI v81)]) (st := [.ref (zad V g)]) C m1_45 dX1_choose_84 (s_X2 (o_X1_line hg)) rfl (t_X2_hasPlace (o_X1_line hg) hv81 hc) ⟨Nat.le_of_ble_eq_true rfl, Nat.le_of_ble_eq_true rfl⟩ rfl (Nat.le_of_ble_eq_true rfl) ⟨Nat.zero_le _, Nat.zero_le _⟩ fun hw => ?_
    have hbv84 := hw
    have hv84 := z01 hw
    clear hc hw
    show zP V X 2 0 0 87 _ [.int (zI v84), .ref (zad V g)] d1
    revert h
    generalize d1 = d
    intro h
    refine zP_if_eq (pc := 87) (tgt := 105) C dX1_choose_87 rfl hv84 h (fun _ h => ?_) (fun _ h => ?_)
    · refine zP_iconst (pc := 105) C dX1_choose_105 ?_
      exact zP_mask [true, false] (wj_X1_choose_106 hg C E  (zRk rfl) h)
    · refine zP_aload_n (pc := 90) C (x := zad V g) dX1_choose_90 rfl rfl ?_
      refine zP_getR (pc := 91) (a := g) (t := lb) C g1_21 dX1_choose_91 (s_X1 hg) rfl ?_
      refine zP_getR (pc := 94) (a := lb) (t := lb + 29) C g1_49 dX1_choose_94 (s_X2 (o_X1_line hg)) rfl ?_
      refine zP_aload_n (pc := 97) C (x := zad V g) dX1_choose_97 rfl rfl ?_
      refine zP_getI (pc := 98) (a := g) C g1_18 dX1_choose_98 (s_X1 hg) rfl h fun v98 hv98 h => ?_
      refine zP_iald (pc := 101) (a := lb + 29) C dX1_choose_101 (s_X2_list (o_X1_line hg)) hv98 h fun v101 hv101 h => ?_
      refine zP_goto (pc := 102) (tgt := 106) C dX1_choose_102 rfl ?_
      exact zP_mask [true, false] (wj_X1_choose_106 hg C E  hv101 h)
def f_X1_choose (g : Nat) (lb : Nat) (x1 : Int) (d : zD) : Option (Int × zD) :=
  zl (zu d g 1 2) fun d =>
  zc (f_X1_nextToTest g lb x1 d) fun v8 d =>
  zl (zu d g 2 v8) fun d =>
  zl (d g 2) fun v15 =>
  if (v15 : Int) = (-1) then (
    zl (d lb 15) fun v26 =>
    zg 6 4 <| zl (d (lb + 27) (4 : Int).toNat) fun v37 =>
    if (v37 : Int) ≤ v26 then (
      j_X1_choose_54 g lb   d)
    else (
      zl (zu d g 1 1) fun d =>
      zc (f_X1_nextToSelect g lb  d) fun v48 d =>
      zl (zu d g 2 v48) fun d =>
      j_X1_choose_54 g lb   d))
  else (
    j_X1_choose_54 g lb   d)
theorem t_X1_choose {V : zW} {g : Nat} {lb : Nat} (hg : zo1 V g lb) {x1 : Int} (hx1 : zR x1) {d dz : zD} {rv : Int} (h : f_X1_choose g lb x1 d = some (rv, dz)) : zMet V 3 yX1_choose cX1_choose 2 none [.ref (zad V g), .int (zI x1)] d none (rv = 0) dz := by
  refine zMet_by RX1 pn1 rfl (Nat.le_of_ble_eq_true rfl) [some (.ref (zad V g)), some (.int (zI x1))] rfl fun X C E => ?_
  refine zP_aload_n (pc := 0) C (x := zad V g) dX1_choose_0 rfl rfl ?_
  refine zP_iconst (pc := 1) C dX1_choose_1 ?_
  refine zP_putI (pc := 2) (a := g) C p1_9 dX1_choose_2 (s_X1 hg) rfl (zRk rfl) h fun d h => ?_
  refine zP_aload_n (pc := 5) C (x := zad V g) dX1_choose_5 rfl rfl ?_
  refine zP_aload_n (pc := 6) C (x := zad V g) dX1_choose_6 rfl rfl ?_
  refine zP_iload_n (pc := 7) C (x := zI x1) dX1_choose_7 rfl rfl ?_
  obtain ⟨v8, d1, hc, h⟩ := zc_h h
  refine zP_callV (pc := 8) (As := [.int (zI x1)]) (st := [.ref (zad V g)]) C m1_25 dX1_choose_8 (s_X1 hg) rfl (t_X1_nextToTest hg hx1 hc) ⟨Nat.le_of_ble_eq_true rfl, Nat.le_of_ble_eq_true rfl⟩ rfl (Nat.le_of_ble_eq_true rfl) ⟨Nat.zero_le _, Nat.zero_le _⟩ fun hw => ?_
  have hv8 := hw
  clear hc hw
  show zP V X 2 0 0 11 _ [.int (zI v8), .ref (zad V g)] d1
  revert h
  generalize d1 = d
  intro h
  refine zP_putI (pc := 11) (a := g) C p1_15 dX1_choose_11 (s_X1 hg) rfl hv8 h fun d h => ?_
  refine zP_aload_n (pc := 14) C (x := zad V g) dX1_choose_14 rfl rfl ?_
  refine zP_getI (pc := 15) (a := g) C g1_15 dX1_choose_15 (s_X1 hg) rfl h fun v15 hv15 h => ?_
  refine zP_iconst (pc := 18) C dX1_choose_18 ?_
  refine zP_icmp_ne (pc := 19) (tgt := 54) C dX1_choose_19 rfl hv15 (zRk rfl) h (fun _ h => ?_) (fun _ h => ?_)
  · exact zP_mask [true, false] (wj_X1_choose_54 hg C E   h)
  · refine zP_aload_n (pc := 22) C (x := zad V g) dX1_choose_22 rfl rfl ?_
    refine zP_getR (pc := 23) (a := g) (t := lb) C g1_21 dX1_choose_23 (s_X1 hg) rfl ?_
    refine zP_getI (pc := 26) (a := lb) C g1_29 dX1_choose_26 (s_X2 (o_X1_line hg)) rfl h fun v26 hv26 h => ?_
    refine zP_aload_n (pc := 29) C (x := zad V g) dX1_choose_29 rfl rfl ?_
    refine zP_getR (pc := 30) (a := g) (t := lb) C g1_21 dX1_choose_30 (s_X1 hg) rfl ?_
    refine zP_getR (pc := 33) (a := lb) (t := lb + 27) C g1_34 dX1_choose_33 (s_X2 (o_X1_line hg)) rfl ?_
    refine zP_iconst (pc := 36) C dX1_choose_36 ?_
    refine zP_iald (pc := 37) (a := lb + 27) C dX1_choose_37 (s_X2_settings (o_X1_line hg)) (zRk rfl) h fun v37 hv37 h => ?_
    refine zP_icmp_ge (pc := 38) (tgt := 54) C dX1_choose_38 rfl hv26 hv37 h (fun _ h => ?_) (fun _ h => ?_)
    · exact zP_mask [true, false] (wj_X1_choose_54 hg C E   h)
    · refine zP_aload_n (pc := 41) C (x := zad V g) dX1_choose_41 rfl rfl ?_
      refine zP_iconst (pc := 42) C dX1_choose_42 ?_
      refine zP_putI (pc := 43) (a := g) C p1_9 dX1_choose_43 (s_X1 hg) rfl (zRk rfl) h fun d h => ?_
      refine zP_aload_n (pc := 46) C (x := zad V g) dX1_choose_46 rfl rfl ?_
      refine zP_aload_n (pc := 47) C (x := zad V g) dX1_choose_47 rfl rfl ?_
      obtain ⟨v48, d1, hc, h⟩ := zc_h h
      refine zP_callV (pc := 48) (As := []) (st := [.ref (zad V g)]) C m1_38 dX1_choose_48 (s_X1 hg) rfl (t_X1_nextToSelect hg  hc) ⟨Nat.le_of_ble_eq_true rfl, Nat.le_of_ble_eq_true rfl⟩ rfl (Nat.le_of_ble_eq_true rfl) ⟨Nat.zero_le _, Nat.zero_le _⟩ fun hw => ?_
      have hv48 := hw
      clear hc hw
      show zP V X 2 0 0 51 _ [.int (zI v48), .ref (zad V g)] d1
      revert h
      generalize d1 = d
      intro h
      refine zP_putI (pc := 51) (a := g) C p1_15 dX1_choose_51 (s_X1 hg) rfl hv48 h fun d h => ?_
      exact zP_mask [true, false] (wj_X1_choose_54 hg C E   h)
def f_X1_noteBeginning (g : Nat) (lb : Nat) (d : zD) : Option (Int × zD) :=
  zl (d g 1) fun v8 =>
  zl (d g 2) fun v12 =>
  zc (f_X8_countOften lb v8 v12 d) fun _ d =>
  zl (d g 1) fun v19 =>
  if (v19 : Int) = 0 then (
    zl (d g 3) fun v30 =>
    zl (zu d lb 14 v30) fun d =>
    zl (zu d lb 15 0) fun d =>
    some (0, d))
  else (
    zl (d g 1) fun v48 =>
    if (v48 : Int) = 1 then (
      zl (d g 2) fun v60 =>
      zl (zu d lb 13 v60) fun d =>
      zl (d lb 15) fun v71 =>
      zl (zw (v71 + 1)) fun v75 =>
      zl (zu d lb 15 v75) fun d =>
      some (0, d))
    else (
      zl (d g 2) fun v87 =>
      zl (zu d lb 12 v87) fun d =>
      zg 13 11 <| zl (d (lb + 28) (11 : Int).toNat) fun v103 =>
      zl (zw (v103 + 1)) fun v105 =>
      zg 13 11 <| zl (zu d (lb + 28) (11 : Int).toNat v105) fun d =>
      some (0, d)))
theorem t_X1_noteBeginning {V : zW} {g : Nat} {lb : Nat} (hg : zo1 V g lb)   {d dz : zD} {rv : Int} (h : f_X1_noteBeginning g lb  d = some (rv, dz)) : zMet V 1 yX1_noteBeginning cX1_noteBeginning 1 none [.ref (zad V g)] d none (rv = 0) dz := by
  refine zMet_by RX1 pn1 rfl (Nat.le_of_ble_eq_true rfl) [some (.ref (zad V g))] rfl fun X C E => ?_
  refine zP_aload_n (pc := 0) C (x := zad V g) dX1_noteBeginning_0 rfl rfl ?_
  refine zP_getR (pc := 1) (a := g) (t := lb) C g1_21 dX1_noteBeginning_1 (s_X1 hg) rfl ?_
  refine zP_getR (pc := 4) (a := lb) (t := lb + 15) C g1_64 dX1_noteBeginning_4 (s_X2 (o_X1_line hg)) rfl ?_
  refine zP_aload_n (pc := 7) C (x := zad V g) dX1_noteBeginning_7 rfl rfl ?_
  refine zP_getI (pc := 8) (a := g) C g1_9 dX1_noteBeginning_8 (s_X1 hg) rfl h fun v8 hv8 h => ?_
  refine zP_aload_n (pc := 11) C (x := zad V g) dX1_noteBeginning_11 rfl rfl ?_
  refine zP_getI (pc := 12) (a := g) C g1_15 dX1_noteBeginning_12 (s_X1 hg) rfl h fun v12 hv12 h => ?_
  obtain ⟨_, d1, hc, h⟩ := zc_h h
  refine zP_callV (pc := 15) (As := [.int (zI v8), .int (zI v12)]) (st := []) C m1_139 dX1_noteBeginning_15 (s_X8 (o_X1_line hg)) rfl (t_X8_countOften (o_X1_line hg) hv8 hv12 hc) ⟨Nat.le_of_ble_eq_true rfl, Nat.le_of_ble_eq_true rfl⟩ rfl (Nat.le_of_ble_eq_true rfl) ⟨Nat.zero_le _, Nat.zero_le _⟩ fun hw => ?_
  clear hc hw
  show zP V X 1 0 0 18 _ [] d1
  revert h
  generalize d1 = d
  intro h
  refine zP_aload_n (pc := 18) C (x := zad V g) dX1_noteBeginning_18 rfl rfl ?_
  refine zP_getI (pc := 19) (a := g) C g1_9 dX1_noteBeginning_19 (s_X1 hg) rfl h fun v19 hv19 h => ?_
  refine zP_if_ne (pc := 22) (tgt := 47) C dX1_noteBeginning_22 rfl hv19 h (fun _ h => ?_) (fun _ h => ?_)
  · refine zP_aload_n (pc := 47) C (x := zad V g) dX1_noteBeginning_47 rfl rfl ?_
    refine zP_getI (pc := 48) (a := g) C g1_9 dX1_noteBeginning_48 (s_X1 hg) rfl h fun v48 hv48 h => ?_
    refine zP_iconst (pc := 51) C dX1_noteBeginning_51 ?_
    refine zP_icmp_ne (pc := 52) (tgt := 82) C dX1_noteBeginning_52 rfl hv48 (zRk rfl) h (fun _ h => ?_) (fun _ h => ?_)
    · refine zP_aload_n (pc := 82) C (x := zad V g) dX1_noteBeginning_82 rfl rfl ?_
      refine zP_getR (pc := 83) (a := g) (t := lb) C g1_21 dX1_noteBeginning_83 (s_X1 hg) rfl ?_
      refine zP_aload_n (pc := 86) C (x := zad V g) dX1_noteBeginning_86 rfl rfl ?_
      refine zP_getI (pc := 87) (a := g) C g1_15 dX1_noteBeginning_87 (s_X1 hg) rfl h fun v87 hv87 h => ?_
      refine zP_putI (pc := 90) (a := lb) C p1_61 dX1_noteBeginning_90 (s_X2 (o_X1_line hg)) rfl hv87 h fun d h => ?_
      refine zP_aload_n (pc := 93) C (x := zad V g) dX1_noteBeginning_93 rfl rfl ?_
      refine zP_getR (pc := 94) (a := g) (t := lb) C g1_21 dX1_noteBeginning_94 (s_X1 hg) rfl ?_
      refine zP_getR (pc := 97) (a := lb) (t := lb + 28) C g1_117 dX1_noteBeginning_97 (s_X2 (o_X1_line hg)) rfl ?_
      refine zP_bipush (pc := 100) C dX1_noteBeginning_100 rfl ?_
      refine zP_dup2 (pc := 102) C dX1_noteBeginning_102 rfl rfl ?_
      refine zP_iald (pc := 103) (a := lb + 28) C dX1_noteBeginning_103 (s_X2_accounts (o_X1_line hg)) (zRk rfl) h fun v103 hv103 h => ?_
      refine zP_iconst (pc := 104) C dX1_noteBeginning_104 ?_
      refine zP_iadd (pc := 105) C dX1_noteBeginning_105 h fun v105 hv105 h => ?_
      refine zP_iast (pc := 106) (a := lb + 28) C dX1_noteBeginning_106 (s_X2_accounts (o_X1_line hg)) (zRk rfl) hv105 h fun d h => ?_
      exact zP_vret (pc := 107) C E dX1_noteBeginning_107 h
    · refine zP_aload_n (pc := 55) C (x := zad V g) dX1_noteBeginning_55 rfl rfl ?_
      refine zP_getR (pc := 56) (a := g) (t := lb) C g1_21 dX1_noteBeginning_56 (s_X1 hg) rfl ?_
      refine zP_aload_n (pc := 59) C (x := zad V g) dX1_noteBeginning_59 rfl rfl ?_
      refine zP_getI (pc := 60) (a := g) C g1_15 dX1_noteBeginning_60 (s_X1 hg) rfl h fun v60 hv60 h => ?_
      refine zP_putI (pc := 63) (a := lb) C p1_73 dX1_noteBeginning_63 (s_X2 (o_X1_line hg)) rfl hv60 h fun d h => ?_
      refine zP_aload_n (pc := 66) C (x := zad V g) dX1_noteBeginning_66 rfl rfl ?_
      refine zP_getR (pc := 67) (a := g) (t := lb) C g1_21 dX1_noteBeginning_67 (s_X1 hg) rfl ?_
      refine zP_dup (pc := 70) C dX1_noteBeginning_70 rfl ?_
      refine zP_getI (pc := 71) (a := lb) C g1_29 dX1_noteBeginning_71 (s_X2 (o_X1_line hg)) rfl h fun v71 hv71 h => ?_
      refine zP_iconst (pc := 74) C dX1_noteBeginning_74 ?_
      refine zP_iadd (pc := 75) C dX1_noteBeginning_75 h fun v75 hv75 h => ?_
      refine zP_putI (pc := 76) (a := lb) C p1_29 dX1_noteBeginning_76 (s_X2 (o_X1_line hg)) rfl hv75 h fun d h => ?_
      refine zP_goto (pc := 79) (tgt := 107) C dX1_noteBeginning_79 rfl ?_
      exact zP_vret (pc := 107) C E dX1_noteBeginning_107 h
  · refine zP_aload_n (pc := 25) C (x := zad V g) dX1_noteBeginning_25 rfl rfl ?_
    refine zP_getR (pc := 26) (a := g) (t := lb) C g1_21 dX1_noteBeginning_26 (s_X1 hg) rfl ?_
    refine zP_aload_n (pc := 29) C (x := zad V g) dX1_noteBeginning_29 rfl rfl ?_
    refine zP_getI (pc := 30) (a := g) C g1_18 dX1_noteBeginning_30 (s_X1 hg) rfl h fun v30 hv30 h => ?_
    refine zP_putI (pc := 33) (a := lb) C p1_92 dX1_noteBeginning_33 (s_X2 (o_X1_line hg)) rfl hv30 h fun d h => ?_
    refine zP_aload_n (pc := 36) C (x := zad V g) dX1_noteBeginning_36 rfl rfl ?_
    refine zP_getR (pc := 37) (a := g) (t := lb) C g1_21 dX1_noteBeginning_37 (s_X1 hg) rfl ?_
    refine zP_iconst (pc := 40) C dX1_noteBeginning_40 ?_
    refine zP_putI (pc := 41) (a := lb) C p1_29 dX1_noteBeginning_41 (s_X2 (o_X1_line hg)) rfl (zRk rfl) h fun d h => ?_
    refine zP_goto (pc := 44) (tgt := 107) C dX1_noteBeginning_44 rfl ?_
    exact zP_vret (pc := 107) C E dX1_noteBeginning_107 h
def f_X2_send (b : Nat) (x1 : Int) (d : zD) : Option (Int × zD) :=
  zl (d b 9) fun v2 =>
  zl (zw (v2 + x1)) fun v6 =>
  zl (zu d b 9 v6) fun d =>
  zg 13 0 <| zl (d (b + 28) (0 : Int).toNat) fun v16 =>
  zl (zw (v16 + 1)) fun v18 =>
  zg 13 0 <| zl (zu d (b + 28) (0 : Int).toNat v18) fun d =>
  zl (d b 11) fun v24 =>
  zl (zw (75 * v24)) fun v27 =>
  zl (zw (v27 + 74)) fun v30 =>
  zn 65537 <| zl (zrem v30 65537) fun v33 =>
  zl (zu d b 11 v33) fun d =>
  zl (d b 11) fun v38 =>
  zn 100 <| zl (zrem v38 100) fun v43 =>
  zg 6 5 <| zl (d (b + 27) (5 : Int).toNat) fun v49 =>
  if (v49 : Int) ≤ v43 then (
    some (1, d))
  else (
    zg 13 1 <| zl (d (b + 28) (1 : Int).toNat) fun v59 =>
    zl (zw (v59 + 1)) fun v61 =>
    zg 13 1 <| zl (zu d (b + 28) (1 : Int).toNat v61) fun d =>
    some (0, d))
theorem t_X2_send {V : zW} {b : Nat} (hb : zo2 V b) {x1 : Int} (hx1 : zR x1) {d dz : zD} {rv : Int} (h : f_X2_send b x1 d = some (rv, dz)) : zMet V 0 yX2_send cX2_send 2 (some .boolean) [.ref (zad V b), .int (zI x1)] d (some (.int (zI rv))) (rv = 0 ∨ rv = 1) dz := by
  refine zMet_by RX2 pn2 rfl (Nat.le_of_ble_eq_true rfl) [some (.ref (zad V b)), some (.int (zI x1))] rfl fun X C E => ?_
  refine zP_aload_n (pc := 0) C (x := zad V b) dX2_send_0 rfl rfl ?_
  refine zP_dup (pc := 1) C dX2_send_1 rfl ?_
  refine zP_getI (pc := 2) (a := b) C g2_53 dX2_send_2 (s_X2 hb) rfl h fun v2 hv2 h => ?_
  refine zP_iload_n (pc := 5) C (x := zI x1) dX2_send_5 rfl rfl ?_
  refine zP_iadd (pc := 6) C dX2_send_6 h fun v6 hv6 h => ?_
  refine zP_putI (pc := 7) (a := b) C p2_53 dX2_send_7 (s_X2 hb) rfl hv6 h fun d h => ?_
  refine zP_aload_n (pc := 10) C (x := zad V b) dX2_send_10 rfl rfl ?_
  refine zP_getR (pc := 11) (a := b) (t := b + 28) C g2_43 dX2_send_11 (s_X2 hb) rfl ?_
  refine zP_iconst (pc := 14) C dX2_send_14 ?_
  refine zP_dup2 (pc := 15) C dX2_send_15 rfl rfl ?_
  refine zP_iald (pc := 16) (a := b + 28) C dX2_send_16 (s_X2_accounts hb) (zRk rfl) h fun v16 hv16 h => ?_
  refine zP_iconst (pc := 17) C dX2_send_17 ?_
  refine zP_iadd (pc := 18) C dX2_send_18 h fun v18 hv18 h => ?_
  refine zP_iast (pc := 19) (a := b + 28) C dX2_send_19 (s_X2_accounts hb) (zRk rfl) hv18 h fun d h => ?_
  refine zP_aload_n (pc := 20) C (x := zad V b) dX2_send_20 rfl rfl ?_
  refine zP_bipush (pc := 21) C dX2_send_21 rfl ?_
  refine zP_aload_n (pc := 23) C (x := zad V b) dX2_send_23 rfl rfl ?_
  refine zP_getI (pc := 24) (a := b) C g2_59 dX2_send_24 (s_X2 hb) rfl h fun v24 hv24 h => ?_
  refine zP_imul (pc := 27) C dX2_send_27 h fun v27 hv27 h => ?_
  refine zP_bipush (pc := 28) C dX2_send_28 rfl ?_
  refine zP_iadd (pc := 30) C dX2_send_30 h fun v30 hv30 h => ?_
  refine zP_ldc (pc := 31) C dX2_send_31 q865 ?_
  refine zP_irem (pc := 33) C dX2_send_33 (zRk rfl) h fun v33 hv33 h => ?_
  refine zP_putI (pc := 34) (a := b) C p2_59 dX2_send_34 (s_X2 hb) rfl hv33 h fun d h => ?_
  refine zP_aload_n (pc := 37) C (x := zad V b) dX2_send_37 rfl rfl ?_
  refine zP_getI (pc := 38) (a := b) C g2_59 dX2_send_38 (s_X2 hb) rfl h fun v38 hv38 h => ?_
  refine zP_bipush (pc := 41) C dX2_send_41 rfl ?_
  refine zP_irem (pc := 43) C dX2_send_43 (zRk rfl) h fun v43 hv43 h => ?_
  refine zP_aload_n (pc := 44) C (x := zad V b) dX2_send_44 rfl rfl ?_
  refine zP_getR (pc := 45) (a := b) (t := b + 27) C g2_39 dX2_send_45 (s_X2 hb) rfl ?_
  refine zP_iconst (pc := 48) C dX2_send_48 ?_
  refine zP_iald (pc := 49) (a := b + 27) C dX2_send_49 (s_X2_settings hb) (zRk rfl) h fun v49 hv49 h => ?_
  refine zP_icmp_ge (pc := 50) (tgt := 65) C dX2_send_50 rfl hv43 hv49 h (fun _ h => ?_) (fun _ h => ?_)
  · refine zP_iconst (pc := 65) C dX2_send_65 ?_
    exact zP_zret (pc := 66) C E dX2_send_66 (Or.inr rfl) h
  · refine zP_aload_n (pc := 53) C (x := zad V b) dX2_send_53 rfl rfl ?_
    refine zP_getR (pc := 54) (a := b) (t := b + 28) C g2_43 dX2_send_54 (s_X2 hb) rfl ?_
    refine zP_iconst (pc := 57) C dX2_send_57 ?_
    refine zP_dup2 (pc := 58) C dX2_send_58 rfl rfl ?_
    refine zP_iald (pc := 59) (a := b + 28) C dX2_send_59 (s_X2_accounts hb) (zRk rfl) h fun v59 hv59 h => ?_
    refine zP_iconst (pc := 60) C dX2_send_60 ?_
    refine zP_iadd (pc := 61) C dX2_send_61 h fun v61 hv61 h => ?_
    refine zP_iast (pc := 62) (a := b + 28) C dX2_send_62 (s_X2_accounts hb) (zRk rfl) hv61 h fun d h => ?_
    refine zP_iconst (pc := 63) C dX2_send_63 ?_
    exact zP_zret (pc := 64) C E dX2_send_64 (Or.inl rfl) h
def j_X1_call_37 (g : Nat) (lb : Nat)  (s0 : Int) (d : zD) : Option (Int × zD) :=
  zl (d lb 9) fun v43 =>
  if (s0 : Int) = 0 then (
    zg 6 0 <| zl (d (lb + 27) (0 : Int).toNat) fun v76 =>
    zl (zw (v43 + v76)) fun v77 =>
    zl (zu d lb 9 v77) fun d =>
    zz s0 <|
    some (s0, d))
  else (
    zl (d g 2) fun v61 =>
    zg 8 v61 <| zl (d (1 + 2) (v61 : Int).toNat) fun v64 =>
    zl (zw (v43 + v64)) fun v77 =>
    zl (zu d lb 9 v77) fun d =>
    zz s0 <|
    some (s0, d))
theorem wj_X1_call_37 {V : zW} {X : zX} {g : Nat} {lb : Nat} (hg : zo1 V g lb) (C : zOk V X cX1_call RX1 3 (zrm 1) (some .boolean)) {rv : Int} {dz : zD} (E : zEnd V X (some (.int (zI rv))) (rv = 0 ∨ rv = 1) dz)  {s0 : Int} (hs0 : zR s0) {d : zD} (h : j_X1_call_37 g lb  s0 d = some (rv, dz)) : zP V X 3 0 0 37 [some (.ref (zad V g)), none, none] [.int (zI s0)] d := by
  refine zP_istore_n (pc := 37) C (L' := [some (.ref (zad V g)), none, some (.int (zI s0))]) dX1_call_37 rfl (Nat.le_of_ble_eq_true rfl) rfl rfl ?_
  refine zP_aload_n (pc := 38) C (x := zad V g) dX1_call_38 rfl rfl ?_
  refine zP_getR (pc := 39) (a := g) (t := lb) C g1_21 dX1_call_39 (s_X1 hg) rfl ?_
  refine zP_dup (pc := 42) C dX1_call_42 rfl ?_
  refine zP_getI (pc := 43) (a := lb) C g1_123 dX1_call_43 (s_X2 (o_X1_line hg)) rfl h fun v43 hv43 h => ?_
  refine zP_iload_n (pc := 46) C (x := zI s0) dX1_call_46 rfl rfl ?_
  refine zP_if_eq (pc := 47) (tgt := 68) C dX1_call_47 rfl hs0 h (fun _ h => ?_) (fun _ h => ?_)
  · refine zP_aload_n (pc := 68) C (x := zad V g) dX1_call_68 rfl rfl ?_
    refine zP_getR (pc := 69) (a := g) (t := lb) C g1_21 dX1_call_69 (s_X1 hg) rfl ?_
    refine zP_getR (pc := 72) (a := lb) (t := lb + 27) C g1_34 dX1_call_72 (s_X2 (o_X1_line hg)) rfl ?_
    refine zP_iconst (pc := 75) C dX1_call_75 ?_
    refine zP_iald (pc := 76) (a := lb + 27) C dX1_call_76 (s_X2_settings (o_X1_line hg)) (zRk rfl) h fun v76 hv76 h => ?_
    refine zP_iadd (pc := 77) C dX1_call_77 h fun v77 hv77 h => ?_
    refine zP_putI (pc := 78) (a := lb) C p1_123 dX1_call_78 (s_X2 (o_X1_line hg)) rfl hv77 h fun d h => ?_
    refine zP_iload_n (pc := 81) C (x := zI s0) dX1_call_81 rfl rfl ?_
    obtain ⟨hz82, h⟩ := zz_h h
    exact zP_zret (pc := 82) C E dX1_call_82 hz82 h
  · refine zP_aload_n (pc := 50) C (x := zad V g) dX1_call_50 rfl rfl ?_
    refine zP_getR (pc := 51) (a := g) (t := lb) C g1_21 dX1_call_51 (s_X1 hg) rfl ?_
    refine zP_getR (pc := 54) (a := lb) (t := 1) C g1_52 dX1_call_54 (s_X2 (o_X1_line hg)) rfl ?_
    refine zP_getR (pc := 57) (a := 1) (t := 1 + 2) C g1_152 dX1_call_57 (s_X6 (o_X2_setup (o_X1_line hg))) rfl ?_
    refine zP_aload_n (pc := 60) C (x := zad V g) dX1_call_60 rfl rfl ?_
    refine zP_getI (pc := 61) (a := g) C g1_15 dX1_call_61 (s_X1 hg) rfl h fun v61 hv61 h => ?_
    refine zP_iald (pc := 64) (a := 1 + 2) C dX1_call_64 (s_X6_delays (o_X2_setup (o_X1_line hg))) hv61 h fun v64 hv64 h => ?_
    refine zP_goto (pc := 65) (tgt := 77) C dX1_call_65 rfl ?_
    refine zP_iadd (pc := 77) C dX1_call_77 h fun v77 hv77 h => ?_
    refine zP_putI (pc := 78) (a := lb) C p1_123 dX1_call_78 (s_X2 (o_X1_line hg)) rfl hv77 h fun d h => ?_
    refine zP_iload_n (pc := 81) C (x := zI s0) dX1_call_81 rfl rfl ?_
    obtain ⟨hz82, h⟩ := zz_h h
    exact zP_zret (pc := 82) C E dX1_call_82 hz82 h
def j_X1_call_36 (g : Nat) (lb : Nat)  (d : zD) : Option (Int × zD) :=
  j_X1_call_37 g lb  0 d
theorem wj_X1_call_36 {V : zW} {X : zX} {g : Nat} {lb : Nat} (hg : zo1 V g lb) (C : zOk V X cX1_call RX1 3 (zrm 1) (some .boolean)) {rv : Int} {dz : zD} (E : zEnd V X (some (.int (zI rv))) (rv = 0 ∨ rv = 1) dz)    {d : zD} (h : j_X1_call_36 g lb   d = some (rv, dz)) : zP V X 3 0 0 36 [some (.ref (zad V g)), none, none] [] d := by
  refine zP_iconst (pc := 36) C dX1_call_36 ?_
  exact zP_mask [true, false, false] (wj_X1_call_37 hg C E  (zRk rfl) h)
def f_X1_call (g : Nat) (lb : Nat) (d : zD) : Option (Int × zD) :=
  zc (f_X2_send lb 1 d) fun v5 d =>
  if (v5 : Int) = 0 then (
    j_X1_call_36 g lb   d)
  else (
    zl (d g 2) fun v24 =>
    zg 8 v24 <| zl (d (lb + 16) (v24 : Int).toNat) fun v27 =>
    if (v27 : Int) = 1 then (
      j_X1_call_37 g lb  1 d)
    else (
      j_X1_call_36 g lb   d))
theorem t_X1_call {V : zW} {g : Nat} {lb : Nat} (hg : zo1 V g lb)   {d dz : zD} {rv : Int} (h : f_X1_call g lb  d = some (rv, dz)) : zMet V 1 yX1_call cX1_call 3 (some .boolean) [.ref (zad V g)] d (some (.int (zI rv))) (rv = 0 ∨ rv = 1) dz := by
  refine zMet_by RX1 pn1 rfl (Nat.le_of_ble_eq_true rfl) [some (.ref (zad V g)), none, none] rfl fun X C E => ?_
  refine zP_aload_n (pc := 0) C (x := zad V g) dX1_call_0 rfl rfl ?_
  refine zP_getR (pc := 1) (a := g) (t := lb) C g1_21 dX1_call_1 (s_X1 hg) rfl ?_
  refine zP_iconst (pc := 4) C dX1_call_4 ?_
  obtain ⟨v5, d1, hc, h⟩ := zc_h h
  refine zP_callV (pc := 5) (As := [.int (zI 1)]) (st := []) C m1_146 dX1_call_5 (s_X2 (o_X1_line hg)) rfl (t_X2_send (o_X1_line hg) (zRk rfl) hc) ⟨Nat.le_of_ble_eq_true rfl, Nat.le_of_ble_eq_true rfl⟩ rfl (Nat.le_of_ble_eq_true rfl) ⟨Nat.zero_le _, Nat.zero_le _⟩ fun hw => ?_
  have hbv5 := hw
  have hv5 := z01 hw
  clear hc hw
  show zP V X 3 0 0 8 _ [.int (zI v5)] d1
  revert h
  generalize d1 = d
  intro h
  refine zP_istore_n (pc := 8) C (L' := [some (.ref (zad V g)), some (.int (zI v5)), none]) dX1_call_8 rfl (Nat.le_of_ble_eq_true rfl) rfl rfl ?_
  refine zP_iload_n (pc := 9) C (x := zI v5) dX1_call_9 rfl rfl ?_
  refine zP_if_eq (pc := 10) (tgt := 36) C dX1_call_10 rfl hv5 h (fun _ h => ?_) (fun _ h => ?_)
  · exact zP_mask [true, false, false] (wj_X1_call_36 hg C E   h)
  · refine zP_aload_n (pc := 13) C (x := zad V g) dX1_call_13 rfl rfl ?_
    refine zP_getR (pc := 14) (a := g) (t := lb) C g1_21 dX1_call_14 (s_X1 hg) rfl ?_
    refine zP_getR (pc := 17) (a := lb) (t := lb + 15) C g1_64 dX1_call_17 (s_X2 (o_X1_line hg)) rfl ?_
    refine zP_getR (pc := 20) (a := lb + 15) (t := lb + 16) C g1_149 dX1_call_20 (s_X8 (o_X1_line hg)) rfl ?_
    refine zP_aload_n (pc := 23) C (x := zad V g) dX1_call_23 rfl rfl ?_
    refine zP_getI (pc := 24) (a := g) C g1_15 dX1_call_24 (s_X1 hg) rfl h fun v24 hv24 h => ?_
    refine zP_iald (pc := 27) (a := lb + 16) C dX1_call_27 (s_X8_alive (o_X1_line hg)) hv24 h fun v27 hv27 h => ?_
    refine zP_iconst (pc := 28) C dX1_call_28 ?_
    refine zP_icmp_ne (pc := 29) (tgt := 36) C dX1_call_29 rfl hv27 (zRk rfl) h (fun _ h => ?_) (fun _ h => ?_)
    · exact zP_mask [true, false, false] (wj_X1_call_36 hg C E   h)
    · refine zP_iconst (pc := 32) C dX1_call_32 ?_
      refine zP_goto (pc := 33) (tgt := 37) C dX1_call_33 rfl ?_
      exact zP_mask [true, false, false] (wj_X1_call_37 hg C E  (zRk rfl) h)
def l_X2_deliverDue_2F (b : Nat) (r2 : Int → Int → zD → Option (Int × zD)) (x1 x2 : Int) (d : zD) : Option (Int × zD) :=
  if (40 : Int) ≤ x2 then (
    some (0, d))
  else (
    zc (f_X4_firstOf b 2 x1 d) fun v14 d =>
    zg 8 x1 <| zl (d (b + 23) (x1 : Int).toNat) fun v26 =>
    zg 8 x1 <| zl (d (1 + 4) (x1 : Int).toNat) fun v35 =>
    zl (zw (v26 + v35)) fun v36 =>
    zc (f_X3_has b v14 d) fun v44 d =>
    if (v44 : Int) = 0 then (
      some (0, d))
    else (
      zl (d b 9) fun v53 =>
      if (v36 : Int) ≤ v53 then (
        zc (f_X4_removeFirst b 2 x1 d) fun _ d =>
        zg 40 v14 <| zl (zu d (b + 9) (v14 : Int).toNat v36) fun d =>
        zg 40 v14 <| zl (zu d (b + 5) (v14 : Int).toNat 3) fun d =>
        zg 8 x1 <| zl (zu d (b + 23) (x1 : Int).toNat v36) fun d =>
        zl (zw (x2 + 1)) fun v101 =>
        r2 x1 v101 d)
      else (
        some (0, d))))
theorem wl_X2_deliverDue_2F {V : zW} {X : zX} {b : Nat} (hb : zo2 V b) (C : zOk V X cX2_deliverDue RX2 5 (zrm 2) none) {rv : Int} {dz : zD} (E : zEnd V X none (rv = 0) dz) {r2 : Int → Int → zD → Option (Int × zD)} (hr2 : ∀ {x1 x2 : Int} {d : zD}, zR x1 → zR x2 → r2 x1 x2 d = some (rv, dz) → zP V X 5 0 0 2 [some (.ref (zad V b)), some (.int (zI x1)), some (.int (zI x2)), none, none] [] d) {x1 x2 : Int} (hx1 : zR x1) (hx2 : zR x2) {d : zD} (h : l_X2_deliverDue_2F b r2 x1 x2 d = some (rv, dz)) : zP V X 5 0 0 2 [some (.ref (zad V b)), some (.int (zI x1)), some (.int (zI x2)), none, none] [] d := by
  refine zP_iload_n (pc := 2) C (x := zI x2) dX2_deliverDue_2 rfl rfl ?_
  refine zP_bipush (pc := 3) C dX2_deliverDue_3 rfl ?_
  refine zP_icmp_ge (pc := 5) (tgt := 107) C dX2_deliverDue_5 rfl hx2 (zRk rfl) h (fun _ h => ?_) (fun _ h => ?_)
  · exact zP_vret (pc := 107) C E dX2_deliverDue_107 h
  · refine zP_aload_n (pc := 8) C (x := zad V b) dX2_deliverDue_8 rfl rfl ?_
    refine zP_getR (pc := 9) (a := b) (t := b + 10) C g2_21 dX2_deliverDue_9 (s_X2 hb) rfl ?_
    refine zP_iconst (pc := 12) C dX2_deliverDue_12 ?_
    refine zP_iload_n (pc := 13) C (x := zI x1) dX2_deliverDue_13 rfl rfl ?_
    obtain ⟨v14, d1, hc, h⟩ := zc_h h
    refine zP_callV (pc := 14) (As := [.int (zI 2), .int (zI x1)]) (st := []) C m2_173 dX2_deliverDue_14 (s_X4 hb) rfl (t_X4_firstOf hb (zRk rfl) hx1 hc) ⟨Nat.le_of_ble_eq_true rfl, Nat.le_of_ble_eq_true rfl⟩ rfl (Nat.le_of_ble_eq_true rfl) ⟨Nat.zero_le _, Nat.zero_le _⟩ fun hw => ?_
    have hv14 := hw
    clear hc hw
    show zP V X 5 0 0 17 _ [.int (zI v14)] d1
    revert h
    generalize d1 = d
    intro h
    refine zP_istore_n (pc := 17) C (L' := [some (.ref (zad V b)), some (.int (zI x1)), some (.int (zI x2)), some (.int (zI v14)), none]) dX2_deliverDue_17 rfl (Nat.le_of_ble_eq_true rfl) rfl rfl ?_
    refine zP_aload_n (pc := 18) C (x := zad V b) dX2_deliverDue_18 rfl rfl ?_
    refine zP_getR (pc := 19) (a := b) (t := b + 15) C g2_28 dX2_deliverDue_19 (s_X2 hb) rfl ?_
    refine zP_getR (pc := 22) (a := b + 15) (t := b + 23) C g2_170 dX2_deliverDue_22 (s_X8 hb) rfl ?_
    refine zP_iload_n (pc := 25) C (x := zI x1) dX2_deliverDue_25 rfl rfl ?_
    refine zP_iald (pc := 26) (a := b + 23) C dX2_deliverDue_26 (s_X8_firstSince hb) hx1 h fun v26 hv26 h => ?_
    refine zP_aload_n (pc := 27) C (x := zad V b) dX2_deliverDue_27 rfl rfl ?_
    refine zP_getR (pc := 28) (a := b) (t := 1) C g2_74 dX2_deliverDue_28 (s_X2 hb) rfl ?_
    refine zP_getR (pc := 31) (a := 1) (t := 1 + 4) C g2_176 dX2_deliverDue_31 (s_X6 (o_X2_setup hb)) rfl ?_
    refine zP_iload_n (pc := 34) C (x := zI x1) dX2_deliverDue_34 rfl rfl ?_
    refine zP_iald (pc := 35) (a := 1 + 4) C dX2_deliverDue_35 (s_X6_prints (o_X2_setup hb)) hx1 h fun v35 hv35 h => ?_
    refine zP_iadd (pc := 36) C dX2_deliverDue_36 h fun v36 hv36 h => ?_
    refine zP_istore (pc := 37) C (L' := [some (.ref (zad V b)), some (.int (zI x1)), some (.int (zI x2)), some (.int (zI v14)), some (.int (zI v36))]) dX2_deliverDue_37 (Nat.le_of_ble_eq_true rfl) rfl rfl ?_
    refine zP_aload_n (pc := 39) C (x := zad V b) dX2_deliverDue_39 rfl rfl ?_
    refine zP_getR (pc := 40) (a := b) (t := b + 1) C g2_12 dX2_deliverDue_40 (s_X2 hb) rfl ?_
    refine zP_iload_n (pc := 43) C (x := zI v14) dX2_deliverDue_43 rfl rfl ?_
    obtain ⟨v44, d1, hc, h⟩ := zc_h h
    refine zP_callV (pc := 44) (As := [.int (zI v14)]) (st := []) C m2_179 dX2_deliverDue_44 (s_X3 hb) rfl (t_X3_has hb hv14 hc) ⟨Nat.le_of_ble_eq_true rfl, Nat.le_of_ble_eq_true rfl⟩ rfl (Nat.le_of_ble_eq_true rfl) ⟨Nat.zero_le _, Nat.zero_le _⟩ fun hw => ?_
    have hbv44 := hw
    have hv44 := z01 hw
    clear hc hw
    show zP V X 5 0 0 47 _ [.int (zI v44)] d1
    revert h
    generalize d1 = d
    intro h
    refine zP_if_eq (pc := 47) (tgt := 59) C dX2_deliverDue_47 rfl hv44 h (fun _ h => ?_) (fun _ h => ?_)
    · exact zP_vret (pc := 59) C E dX2_deliverDue_59 h
    · refine zP_iload (pc := 50) C (x := zI v36) dX2_deliverDue_50 rfl ?_
      refine zP_aload_n (pc := 52) C (x := zad V b) dX2_deliverDue_52 rfl rfl ?_
      refine zP_getI (pc := 53) (a := b) C g2_53 dX2_deliverDue_53 (s_X2 hb) rfl h fun v53 hv53 h => ?_
      refine zP_icmp_le (pc := 56) (tgt := 60) C dX2_deliverDue_56 rfl hv36 hv53 h (fun _ h => ?_) (fun _ h => ?_)
      · refine zP_aload_n (pc := 60) C (x := zad V b) dX2_deliverDue_60 rfl rfl ?_
        refine zP_getR (pc := 61) (a := b) (t := b + 10) C g2_21 dX2_deliverDue_61 (s_X2 hb) rfl ?_
        refine zP_iconst (pc := 64) C dX2_deliverDue_64 ?_
        refine zP_iload_n (pc := 65) C (x := zI x1) dX2_deliverDue_65 rfl rfl ?_
        obtain ⟨_, d1, hc, h⟩ := zc_h h
        refine zP_callV (pc := 66) (As := [.int (zI 2), .int (zI x1)]) (st := []) C m2_180 dX2_deliverDue_66 (s_X4 hb) rfl (t_X4_removeFirst hb (zRk rfl) hx1 hc) ⟨Nat.le_of_ble_eq_true rfl, Nat.le_of_ble_eq_true rfl⟩ rfl (Nat.le_of_ble_eq_true rfl) ⟨Nat.zero_le _, Nat.zero_le _⟩ fun hw => ?_
        clear hc hw
        show zP V X 5 0 0 69 _ [] d1
        revert h
        generalize d1 = d
        intro h
        refine zP_aload_n (pc := 69) C (x := zad V b) dX2_deliverDue_69 rfl rfl ?_
        refine zP_getR (pc := 70) (a := b) (t := b + 1) C g2_12 dX2_deliverDue_70 (s_X2 hb) rfl ?_
        refine zP_getR (pc := 73) (a := b + 1) (t := b + 9) C g2_149 dX2_deliverDue_73 (s_X3 hb) rfl ?_
        refine zP_iload_n (pc := 76) C (x := zI v14) dX2_deliverDue_76 rfl rfl ?_
        refine zP_iload (pc := 77) C (x := zI v36) dX2_deliverDue_77 rfl ?_
        refine zP_iast (pc := 79) (a := b + 9) C dX2_deliverDue_79 (s_X3_deliveryTimes hb) hv14 hv36 h fun d h => ?_
        refine zP_aload_n (pc := 80) C (x := zad V b) dX2_deliverDue_80 rfl rfl ?_
        refine zP_getR (pc := 81) (a := b) (t := b + 1) C g2_12 dX2_deliverDue_81 (s_X2 hb) rfl ?_
        refine zP_getR (pc := 84) (a := b + 1) (t := b + 5) C g2_152 dX2_deliverDue_84 (s_X3 hb) rfl ?_
        refine zP_iload_n (pc := 87) C (x := zI v14) dX2_deliverDue_87 rfl rfl ?_
        refine zP_iconst (pc := 88) C dX2_deliverDue_88 ?_
        refine zP_iast (pc := 89) (a := b + 5) C dX2_deliverDue_89 (s_X3_states hb) hv14 (zRk rfl) h fun d h => ?_
        refine zP_aload_n (pc := 90) C (x := zad V b) dX2_deliverDue_90 rfl rfl ?_
        refine zP_getR (pc := 91) (a := b) (t := b + 15) C g2_28 dX2_deliverDue_91 (s_X2 hb) rfl ?_
        refine zP_getR (pc := 94) (a := b + 15) (t := b + 23) C g2_170 dX2_deliverDue_94 (s_X8 hb) rfl ?_
        refine zP_iload_n (pc := 97) C (x := zI x1) dX2_deliverDue_97 rfl rfl ?_
        refine zP_iload (pc := 98) C (x := zI v36) dX2_deliverDue_98 rfl ?_
        refine zP_iast (pc := 100) (a := b + 23) C dX2_deliverDue_100 (s_X8_firstSince hb) hx1 hv36 h fun d h => ?_
        refine zP_iinc (pc := 101) C (x := x2) dX2_deliverDue_101 rfl (Nat.le_of_ble_eq_true rfl) rfl h fun v101 hv101 h => ?_
        show zP V X 5 0 0 104 [some (.ref (zad V b)), some (.int (zI x1)), some (.int (zI v101)), some (.int (zI v14)), some (.int (zI v36))] _ _
        refine zP_goto (pc := 104) (tgt := 2) C dX2_deliverDue_104 rfl ?_
        exact zP_mask [true, true, true, false, false] (hr2 hx1 hv101 h)
      · exact zP_vret (pc := 59) C E dX2_deliverDue_59 h
def l_X2_deliverDue_2 (b : Nat)  : Nat → Int → Int → zD → Option (Int × zD)
  | 0, _, _, _ => none
  | q + 1, x1, x2, d => l_X2_deliverDue_2F b  (l_X2_deliverDue_2 b  q) x1 x2 d
theorem wl_X2_deliverDue_2 {V : zW} {X : zX} {b : Nat} (hb : zo2 V b) (C : zOk V X cX2_deliverDue RX2 5 (zrm 2) none) {rv : Int} {dz : zD} (E : zEnd V X none (rv = 0) dz)  : ∀ (q : Nat) {x1 x2 : Int} (hx1 : zR x1) (hx2 : zR x2) {d : zD} (h : l_X2_deliverDue_2 b  q x1 x2 d = some (rv, dz)), zP V X 5 0 0 2 [some (.ref (zad V b)), some (.int (zI x1)), some (.int (zI x2)), none, none] [] d := by
  intro q
  induction q with
  | zero => intro x1 x2 hx1 hx2 d h; cases (show (none : Option (Int × zD)) = some (rv, dz) from h)
  | succ q ih =>
    intro x1 x2 hx1 hx2 d h
    exact wl_X2_deliverDue_2F hb C E  (fun  hx1 hx2 h => ih hx1 hx2 h) hx1 hx2 h
def f_X2_deliverDue (b : Nat) (x1 : Int) (d : zD) : Option (Int × zD) :=
  l_X2_deliverDue_2 b  zF x1 0 d
theorem t_X2_deliverDue {V : zW} {b : Nat} (hb : zo2 V b) {x1 : Int} (hx1 : zR x1) {d dz : zD} {rv : Int} (h : f_X2_deliverDue b x1 d = some (rv, dz)) : zMet V 2 yX2_deliverDue cX2_deliverDue 5 none [.ref (zad V b), .int (zI x1)] d none (rv = 0) dz := by
  refine zMet_by RX2 pn2 rfl (Nat.le_of_ble_eq_true rfl) [some (.ref (zad V b)), some (.int (zI x1)), none, none, none] rfl fun X C E => ?_
  refine zP_iconst (pc := 0) C dX2_deliverDue_0 ?_
  refine zP_istore_n (pc := 1) C (L' := [some (.ref (zad V b)), some (.int (zI x1)), some (.int (zI 0)), none, none]) dX2_deliverDue_1 rfl (Nat.le_of_ble_eq_true rfl) rfl rfl ?_
  exact zP_mask [true, true, true, false, false] (wl_X2_deliverDue_2 hb C E  zF hx1 (zRk rfl) h)
def f_X1_sendNegativeAnswer (g : Nat) (lb : Nat) (d : zD) : Option (Int × zD) :=
  zg 13 10 <| zl (d (lb + 28) (10 : Int).toNat) fun v10 =>
  zl (zw (v10 + 1)) fun v12 =>
  zg 13 10 <| zl (zu d (lb + 28) (10 : Int).toNat v12) fun d =>
  zc (f_X2_send lb 1 d) fun v19 d =>
  some (0, d)
theorem t_X1_sendNegativeAnswer {V : zW} {g : Nat} {lb : Nat} (hg : zo1 V g lb)   {d dz : zD} {rv : Int} (h : f_X1_sendNegativeAnswer g lb  d = some (rv, dz)) : zMet V 1 yX1_sendNegativeAnswer cX1_sendNegativeAnswer 1 none [.ref (zad V g)] d none (rv = 0) dz := by
  refine zMet_by RX1 pn1 rfl (Nat.le_of_ble_eq_true rfl) [some (.ref (zad V g))] rfl fun X C E => ?_
  refine zP_aload_n (pc := 0) C (x := zad V g) dX1_sendNegativeAnswer_0 rfl rfl ?_
  refine zP_getR (pc := 1) (a := g) (t := lb) C g1_21 dX1_sendNegativeAnswer_1 (s_X1 hg) rfl ?_
  refine zP_getR (pc := 4) (a := lb) (t := lb + 28) C g1_117 dX1_sendNegativeAnswer_4 (s_X2 (o_X1_line hg)) rfl ?_
  refine zP_bipush (pc := 7) C dX1_sendNegativeAnswer_7 rfl ?_
  refine zP_dup2 (pc := 9) C dX1_sendNegativeAnswer_9 rfl rfl ?_
  refine zP_iald (pc := 10) (a := lb + 28) C dX1_sendNegativeAnswer_10 (s_X2_accounts (o_X1_line hg)) (zRk rfl) h fun v10 hv10 h => ?_
  refine zP_iconst (pc := 11) C dX1_sendNegativeAnswer_11 ?_
  refine zP_iadd (pc := 12) C dX1_sendNegativeAnswer_12 h fun v12 hv12 h => ?_
  refine zP_iast (pc := 13) (a := lb + 28) C dX1_sendNegativeAnswer_13 (s_X2_accounts (o_X1_line hg)) (zRk rfl) hv12 h fun d h => ?_
  refine zP_aload_n (pc := 14) C (x := zad V g) dX1_sendNegativeAnswer_14 rfl rfl ?_
  refine zP_getR (pc := 15) (a := g) (t := lb) C g1_21 dX1_sendNegativeAnswer_15 (s_X1 hg) rfl ?_
  refine zP_iconst (pc := 18) C dX1_sendNegativeAnswer_18 ?_
  obtain ⟨v19, d1, hc, h⟩ := zc_h h
  refine zP_callV (pc := 19) (As := [.int (zI 1)]) (st := []) C m1_146 dX1_sendNegativeAnswer_19 (s_X2 (o_X1_line hg)) rfl (t_X2_send (o_X1_line hg) (zRk rfl) hc) ⟨Nat.le_of_ble_eq_true rfl, Nat.le_of_ble_eq_true rfl⟩ rfl (Nat.le_of_ble_eq_true rfl) ⟨Nat.zero_le _, Nat.zero_le _⟩ fun hw => ?_
  have hbv19 := hw
  have hv19 := z01 hw
  clear hc hw
  show zP V X 1 0 0 22 _ [.int (zI v19)] d1
  revert h
  generalize d1 = d
  intro h
  refine zP_pop (pc := 22) C dX1_sendNegativeAnswer_22 rfl ?_
  exact zP_vret (pc := 23) C E dX1_sendNegativeAnswer_23 h
def j_X2_takeAtTerminal_38 (b : Nat)  (x1 x2 : Int) (d : zD) : Option (Int × zD) :=
  zl (d b 9) fun v47 =>
  zg 40 x2 <| zl (zu d (b + 8) (x2 : Int).toNat v47) fun d =>
  zg 40 x2 <| zl (zu d (b + 5) (x2 : Int).toNat 2) fun d =>
  zc (f_X4_append b 2 x1 x2 d) fun _ d =>
  some (0, d)
theorem wj_X2_takeAtTerminal_38 {V : zW} {X : zX} {b : Nat} (hb : zo2 V b) (C : zOk V X cX2_takeAtTerminal RX2 3 (zrm 1) none) {rv : Int} {dz : zD} (E : zEnd V X none (rv = 0) dz)  {x1 x2 : Int} (hx1 : zR x1) (hx2 : zR x2) {d : zD} (h : j_X2_takeAtTerminal_38 b  x1 x2 d = some (rv, dz)) : zP V X 3 0 0 38 [some (.ref (zad V b)), some (.int (zI x1)), some (.int (zI x2))] [] d := by
  refine zP_aload_n (pc := 38) C (x := zad V b) dX2_takeAtTerminal_38 rfl rfl ?_
  refine zP_getR (pc := 39) (a := b) (t := b + 1) C g2_12 dX2_takeAtTerminal_39 (s_X2 hb) rfl ?_
  refine zP_getR (pc := 42) (a := b + 1) (t := b + 8) C g2_146 dX2_takeAtTerminal_42 (s_X3 hb) rfl ?_
  refine zP_iload_n (pc := 45) C (x := zI x2) dX2_takeAtTerminal_45 rfl rfl ?_
  refine zP_aload_n (pc := 46) C (x := zad V b) dX2_takeAtTerminal_46 rfl rfl ?_
  refine zP_getI (pc := 47) (a := b) C g2_53 dX2_takeAtTerminal_47 (s_X2 hb) rfl h fun v47 hv47 h => ?_
  refine zP_iast (pc := 50) (a := b + 8) C dX2_takeAtTerminal_50 (s_X3_bufferTimes hb) hx2 hv47 h fun d h => ?_
  refine zP_aload_n (pc := 51) C (x := zad V b) dX2_takeAtTerminal_51 rfl rfl ?_
  refine zP_getR (pc := 52) (a := b) (t := b + 1) C g2_12 dX2_takeAtTerminal_52 (s_X2 hb) rfl ?_
  refine zP_getR (pc := 55) (a := b + 1) (t := b + 5) C g2_152 dX2_takeAtTerminal_55 (s_X3 hb) rfl ?_
  refine zP_iload_n (pc := 58) C (x := zI x2) dX2_takeAtTerminal_58 rfl rfl ?_
  refine zP_iconst (pc := 59) C dX2_takeAtTerminal_59 ?_
  refine zP_iast (pc := 60) (a := b + 5) C dX2_takeAtTerminal_60 (s_X3_states hb) hx2 (zRk rfl) h fun d h => ?_
  refine zP_aload_n (pc := 61) C (x := zad V b) dX2_takeAtTerminal_61 rfl rfl ?_
  refine zP_getR (pc := 62) (a := b) (t := b + 10) C g2_21 dX2_takeAtTerminal_62 (s_X2 hb) rfl ?_
  refine zP_iconst (pc := 65) C dX2_takeAtTerminal_65 ?_
  refine zP_iload_n (pc := 66) C (x := zI x1) dX2_takeAtTerminal_66 rfl rfl ?_
  refine zP_iload_n (pc := 67) C (x := zI x2) dX2_takeAtTerminal_67 rfl rfl ?_
  obtain ⟨_, d1, hc, h⟩ := zc_h h
  refine zP_callV (pc := 68) (As := [.int (zI 2), .int (zI x1), .int (zI x2)]) (st := []) C m2_155 dX2_takeAtTerminal_68 (s_X4 hb) rfl (t_X4_append hb (zRk rfl) hx1 hx2 hc) ⟨Nat.le_of_ble_eq_true rfl, Nat.le_of_ble_eq_true rfl⟩ rfl (Nat.le_of_ble_eq_true rfl) ⟨Nat.zero_le _, Nat.zero_le _⟩ fun hw => ?_
  clear hc hw
  show zP V X 3 0 0 71 _ [] d1
  revert h
  generalize d1 = d
  intro h
  exact zP_vret (pc := 71) C E dX2_takeAtTerminal_71 h
def f_X2_takeAtTerminal (b : Nat) (x1 x2 : Int) (d : zD) : Option (Int × zD) :=
  zg 8 x1 <| zl (d (b + 20) (x1 : Int).toNat) fun v9 =>
  zl (zxor v9 1) fun v11 =>
  zg 8 x1 <| zl (zu d (b + 20) (x1 : Int).toNat v11) fun d =>
  zc (f_X4_sizeOf b 2 x1 d) fun v19 d =>
  if (v19 : Int) = 0 then (
    zl (d b 9) fun v34 =>
    zg 8 x1 <| zl (zu d (b + 23) (x1 : Int).toNat v34) fun d =>
    j_X2_takeAtTerminal_38 b  x1 x2 d)
  else (
    j_X2_takeAtTerminal_38 b  x1 x2 d)
theorem t_X2_takeAtTerminal {V : zW} {b : Nat} (hb : zo2 V b) {x1 x2 : Int} (hx1 : zR x1) (hx2 : zR x2) {d dz : zD} {rv : Int} (h : f_X2_takeAtTerminal b x1 x2 d = some (rv, dz)) : zMet V 1 yX2_takeAtTerminal cX2_takeAtTerminal 3 none [.ref (zad V b), .int (zI x1), .int (zI x2)] d none (rv = 0) dz := by
  refine zMet_by RX2 pn2 rfl (Nat.le_of_ble_eq_true rfl) [some (.ref (zad V b)), some (.int (zI x1)), some (.int (zI x2))] rfl fun X C E => ?_
  refine zP_aload_n (pc := 0) C (x := zad V b) dX2_takeAtTerminal_0 rfl rfl ?_
  refine zP_getR (pc := 1) (a := b) (t := b + 15) C g2_28 dX2_takeAtTerminal_1 (s_X2 hb) rfl ?_
  refine zP_getR (pc := 4) (a := b + 15) (t := b + 20) C g2_163 dX2_takeAtTerminal_4 (s_X8 hb) rfl ?_
  refine zP_iload_n (pc := 7) C (x := zI x1) dX2_takeAtTerminal_7 rfl rfl ?_
  refine zP_dup2 (pc := 8) C dX2_takeAtTerminal_8 rfl rfl ?_
  refine zP_iald (pc := 9) (a := b + 20) C dX2_takeAtTerminal_9 (s_X8_expectedBits hb) hx1 h fun v9 hv9 h => ?_
  refine zP_iconst (pc := 10) C dX2_takeAtTerminal_10 ?_
  refine zP_ixor (pc := 11) C dX2_takeAtTerminal_11 h fun v11 hv11 h => ?_
  refine zP_iast (pc := 12) (a := b + 20) C dX2_takeAtTerminal_12 (s_X8_expectedBits hb) hx1 hv11 h fun d h => ?_
  refine zP_aload_n (pc := 13) C (x := zad V b) dX2_takeAtTerminal_13 rfl rfl ?_
  refine zP_getR (pc := 14) (a := b) (t := b + 10) C g2_21 dX2_takeAtTerminal_14 (s_X2 hb) rfl ?_
  refine zP_iconst (pc := 17) C dX2_takeAtTerminal_17 ?_
  refine zP_iload_n (pc := 18) C (x := zI x1) dX2_takeAtTerminal_18 rfl rfl ?_
  obtain ⟨v19, d1, hc, h⟩ := zc_h h
  refine zP_callV (pc := 19) (As := [.int (zI 2), .int (zI x1)]) (st := []) C m2_166 dX2_takeAtTerminal_19 (s_X4 hb) rfl (t_X4_sizeOf hb (zRk rfl) hx1 hc) ⟨Nat.le_of_ble_eq_true rfl, Nat.le_of_ble_eq_true rfl⟩ rfl (Nat.le_of_ble_eq_true rfl) ⟨Nat.zero_le _, Nat.zero_le _⟩ fun hw => ?_
  have hv19 := hw
  clear hc hw
  show zP V X 3 0 0 22 _ [.int (zI v19)] d1
  revert h
  generalize d1 = d
  intro h
  refine zP_if_ne (pc := 22) (tgt := 38) C dX2_takeAtTerminal_22 rfl hv19 h (fun _ h => ?_) (fun _ h => ?_)
  · exact zP_mask [true, true, true] (wj_X2_takeAtTerminal_38 hb C E  hx1 hx2 h)
  · refine zP_aload_n (pc := 25) C (x := zad V b) dX2_takeAtTerminal_25 rfl rfl ?_
    refine zP_getR (pc := 26) (a := b) (t := b + 15) C g2_28 dX2_takeAtTerminal_26 (s_X2 hb) rfl ?_
    refine zP_getR (pc := 29) (a := b + 15) (t := b + 23) C g2_170 dX2_takeAtTerminal_29 (s_X8 hb) rfl ?_
    refine zP_iload_n (pc := 32) C (x := zI x1) dX2_takeAtTerminal_32 rfl rfl ?_
    refine zP_aload_n (pc := 33) C (x := zad V b) dX2_takeAtTerminal_33 rfl rfl ?_
    refine zP_getI (pc := 34) (a := b) C g2_53 dX2_takeAtTerminal_34 (s_X2 hb) rfl h fun v34 hv34 h => ?_
    refine zP_iast (pc := 37) (a := b + 23) C dX2_takeAtTerminal_37 (s_X8_firstSince hb) hx1 hv34 h fun d h => ?_
    exact zP_mask [true, true, true] (wj_X2_takeAtTerminal_38 hb C E  hx1 hx2 h)
def j_X1_trySelect_218 (g : Nat) (lb : Nat)  (d : zD) : Option (Int × zD) :=
  zc (f_X2_send lb 1 d) fun v223 d =>
  if (v223 : Int) = 0 then (
    some (0, d))
  else (
    zl (d g 2) fun v240 =>
    zc (f_X4_removeFirst lb 1 v240 d) fun _ d =>
    zl (d g 2) fun v251 =>
    zg 8 v251 <| zl (d (lb + 21) (v251 : Int).toNat) fun v255 =>
    zl (zxor v255 1) fun v257 =>
    zg 8 v251 <| zl (zu d (lb + 21) (v251 : Int).toNat v257) fun d =>
    zg 13 5 <| zl (d (lb + 28) (5 : Int).toNat) fun v268 =>
    zl (zw (v268 + 1)) fun v270 =>
    zg 13 5 <| zl (zu d (lb + 28) (5 : Int).toNat v270) fun d =>
    some (2, d))
theorem wj_X1_trySelect_218 {V : zW} {X : zX} {g : Nat} {lb : Nat} (hg : zo1 V g lb) (C : zOk V X cX1_trySelect RX1 4 (zrm 3) (some .int)) {rv : Int} {dz : zD} (E : zEnd V X (some (.int (zI rv))) (zR rv) dz)    {d : zD} (h : j_X1_trySelect_218 g lb   d = some (rv, dz)) : zP V X 4 0 0 218 [some (.ref (zad V g)), none, none, some (.ref (zad V (lb + 15)))] [] d := by
  refine zP_aload_n (pc := 218) C (x := zad V g) dX1_trySelect_218 rfl rfl ?_
  refine zP_getR (pc := 219) (a := g) (t := lb) C g1_21 dX1_trySelect_219 (s_X1 hg) rfl ?_
  refine zP_iconst (pc := 222) C dX1_trySelect_222 ?_
  obtain ⟨v223, d1, hc, h⟩ := zc_h h
  refine zP_callV (pc := 223) (As := [.int (zI 1)]) (st := []) C m1_146 dX1_trySelect_223 (s_X2 (o_X1_line hg)) rfl (t_X2_send (o_X1_line hg) (zRk rfl) hc) ⟨Nat.le_of_ble_eq_true rfl, Nat.le_of_ble_eq_true rfl⟩ rfl (Nat.le_of_ble_eq_true rfl) ⟨Nat.zero_le _, Nat.zero_le _⟩ fun hw => ?_
  have hbv223 := hw
  have hv223 := z01 hw
  clear hc hw
  show zP V X 4 0 0 226 _ [.int (zI v223)] d1
  revert h
  generalize d1 = d
  intro h
  refine zP_if_ne (pc := 226) (tgt := 231) C dX1_trySelect_226 rfl hv223 h (fun _ h => ?_) (fun _ h => ?_)
  · refine zP_aload_n (pc := 231) C (x := zad V g) dX1_trySelect_231 rfl rfl ?_
    refine zP_getR (pc := 232) (a := g) (t := lb) C g1_21 dX1_trySelect_232 (s_X1 hg) rfl ?_
    refine zP_getR (pc := 235) (a := lb) (t := lb + 10) C g1_79 dX1_trySelect_235 (s_X2 (o_X1_line hg)) rfl ?_
    refine zP_iconst (pc := 238) C dX1_trySelect_238 ?_
    refine zP_aload_n (pc := 239) C (x := zad V g) dX1_trySelect_239 rfl rfl ?_
    refine zP_getI (pc := 240) (a := g) C g1_15 dX1_trySelect_240 (s_X1 hg) rfl h fun v240 hv240 h => ?_
    obtain ⟨_, d1, hc, h⟩ := zc_h h
    refine zP_callV (pc := 243) (As := [.int (zI 1), .int (zI v240)]) (st := []) C m1_184 dX1_trySelect_243 (s_X4 (o_X1_line hg)) rfl (t_X4_removeFirst (o_X1_line hg) (zRk rfl) hv240 hc) ⟨Nat.le_of_ble_eq_true rfl, Nat.le_of_ble_eq_true rfl⟩ rfl (Nat.le_of_ble_eq_true rfl) ⟨Nat.zero_le _, Nat.zero_le _⟩ fun hw => ?_
    clear hc hw
    show zP V X 4 0 0 246 _ [] d1
    revert h
    generalize d1 = d
    intro h
    refine zP_aload_n (pc := 246) C (x := zad V (lb + 15)) dX1_trySelect_246 rfl rfl ?_
    refine zP_getR (pc := 247) (a := lb + 15) (t := lb + 21) C g1_190 dX1_trySelect_247 (s_X8 (o_X1_line hg)) rfl ?_
    refine zP_aload_n (pc := 250) C (x := zad V g) dX1_trySelect_250 rfl rfl ?_
    refine zP_getI (pc := 251) (a := g) C g1_15 dX1_trySelect_251 (s_X1 hg) rfl h fun v251 hv251 h => ?_
    refine zP_dup2 (pc := 254) C dX1_trySelect_254 rfl rfl ?_
    refine zP_iald (pc := 255) (a := lb + 21) C dX1_trySelect_255 (s_X8_hostBits (o_X1_line hg)) hv251 h fun v255 hv255 h => ?_
    refine zP_iconst (pc := 256) C dX1_trySelect_256 ?_
    refine zP_ixor (pc := 257) C dX1_trySelect_257 h fun v257 hv257 h => ?_
    refine zP_iast (pc := 258) (a := lb + 21) C dX1_trySelect_258 (s_X8_hostBits (o_X1_line hg)) hv251 hv257 h fun d h => ?_
    refine zP_aload_n (pc := 259) C (x := zad V g) dX1_trySelect_259 rfl rfl ?_
    refine zP_getR (pc := 260) (a := g) (t := lb) C g1_21 dX1_trySelect_260 (s_X1 hg) rfl ?_
    refine zP_getR (pc := 263) (a := lb) (t := lb + 28) C g1_117 dX1_trySelect_263 (s_X2 (o_X1_line hg)) rfl ?_
    refine zP_iconst (pc := 266) C dX1_trySelect_266 ?_
    refine zP_dup2 (pc := 267) C dX1_trySelect_267 rfl rfl ?_
    refine zP_iald (pc := 268) (a := lb + 28) C dX1_trySelect_268 (s_X2_accounts (o_X1_line hg)) (zRk rfl) h fun v268 hv268 h => ?_
    refine zP_iconst (pc := 269) C dX1_trySelect_269 ?_
    refine zP_iadd (pc := 270) C dX1_trySelect_270 h fun v270 hv270 h => ?_
    refine zP_iast (pc := 271) (a := lb + 28) C dX1_trySelect_271 (s_X2_accounts (o_X1_line hg)) (zRk rfl) hv270 h fun d h => ?_
    refine zP_iconst (pc := 272) C dX1_trySelect_272 ?_
    exact zP_iret (pc := 273) C E dX1_trySelect_273 (zRk rfl) h
  · refine zP_iconst (pc := 229) C dX1_trySelect_229 ?_
    exact zP_iret (pc := 230) C E dX1_trySelect_230 (zRk rfl) h
def j_X1_trySelect_88 (g : Nat) (lb : Nat)  (x1 s0 : Int) (d : zD) : Option (Int × zD) :=
  zc (f_X2_send lb 1 d) fun v94 d =>
  if (v94 : Int) = 0 then (
    some (0, d))
  else (
    if (s0 : Int) = 0 then (
      zg 13 6 <| zl (d (lb + 28) (6 : Int).toNat) fun v116 =>
      zl (zw (v116 + 1)) fun v118 =>
      zg 13 6 <| zl (zu d (lb + 28) (6 : Int).toNat v118) fun d =>
      some (4, d))
    else (
      zg 40 x1 <| zl (d (lb + 4) (x1 : Int).toNat) fun v137 =>
      zc (f_X2_send lb v137 d) fun v138 d =>
      if (v138 : Int) = 0 then (
        zc (f_X1_sendNegativeAnswer g lb  d) fun _ d =>
        some (0, d))
      else (
        zl (d g 2) fun v155 =>
        zc (f_X2_deliverDue lb v155 d) fun _ d =>
        zl (d g 2) fun v174 =>
        zg 8 v174 <| zl (d (lb + 21) (v174 : Int).toNat) fun v177 =>
        zl (d g 2) fun v183 =>
        zg 8 v183 <| zl (d (lb + 20) (v183 : Int).toNat) fun v186 =>
        if (v177 : Int) = v186 then (
          zl (d g 2) fun v195 =>
          zc (f_X2_takeAtTerminal lb v195 x1 d) fun _ d =>
          j_X1_trySelect_218 g lb   d)
        else (
          zg 13 4 <| zl (d (lb + 28) (4 : Int).toNat) fun v214 =>
          zl (zw (v214 + 1)) fun v216 =>
          zg 13 4 <| zl (zu d (lb + 28) (4 : Int).toNat v216) fun d =>
          j_X1_trySelect_218 g lb   d))))
theorem wj_X1_trySelect_88 {V : zW} {X : zX} {g : Nat} {lb : Nat} (hg : zo1 V g lb) (C : zOk V X cX1_trySelect RX1 4 (zrm 3) (some .int)) {rv : Int} {dz : zD} (E : zEnd V X (some (.int (zI rv))) (zR rv) dz)  {x1 s0 : Int} (hx1 : zR x1) (hs0 : zR s0) {d : zD} (h : j_X1_trySelect_88 g lb  x1 s0 d = some (rv, dz)) : zP V X 4 0 0 88 [some (.ref (zad V g)), some (.int (zI x1)), none, none] [.int (zI s0)] d := by
  refine zP_istore_n (pc := 88) C (L' := [some (.ref (zad V g)), some (.int (zI x1)), some (.int (zI s0)), none]) dX1_trySelect_88 rfl (Nat.le_of_ble_eq_true rfl) rfl rfl ?_
  refine zP_aload_n (pc := 89) C (x := zad V g) dX1_trySelect_89 rfl rfl ?_
  refine zP_getR (pc := 90) (a := g) (t := lb) C g1_21 dX1_trySelect_90 (s_X1 hg) rfl ?_
  refine zP_iconst (pc := 93) C dX1_trySelect_93 ?_
  obtain ⟨v94, d1, hc, h⟩ := zc_h h
  refine zP_callV (pc := 94) (As := [.int (zI 1)]) (st := []) C m1_146 dX1_trySelect_94 (s_X2 (o_X1_line hg)) rfl (t_X2_send (o_X1_line hg) (zRk rfl) hc) ⟨Nat.le_of_ble_eq_true rfl, Nat.le_of_ble_eq_true rfl⟩ rfl (Nat.le_of_ble_eq_true rfl) ⟨Nat.zero_le _, Nat.zero_le _⟩ fun hw => ?_
  have hbv94 := hw
  have hv94 := z01 hw
  clear hc hw
  show zP V X 4 0 0 97 _ [.int (zI v94)] d1
  revert h
  generalize d1 = d
  intro h
  refine zP_if_ne (pc := 97) (tgt := 102) C dX1_trySelect_97 rfl hv94 h (fun _ h => ?_) (fun _ h => ?_)
  · refine zP_iload_n (pc := 102) C (x := zI s0) dX1_trySelect_102 rfl rfl ?_
    refine zP_if_ne (pc := 103) (tgt := 122) C dX1_trySelect_103 rfl hs0 h (fun _ h => ?_) (fun _ h => ?_)
    · refine zP_aload_n (pc := 122) C (x := zad V g) dX1_trySelect_122 rfl rfl ?_
      refine zP_getR (pc := 123) (a := g) (t := lb) C g1_21 dX1_trySelect_123 (s_X1 hg) rfl ?_
      refine zP_aload_n (pc := 126) C (x := zad V g) dX1_trySelect_126 rfl rfl ?_
      refine zP_getR (pc := 127) (a := g) (t := lb) C g1_21 dX1_trySelect_127 (s_X1 hg) rfl ?_
      refine zP_getR (pc := 130) (a := lb) (t := lb + 1) C g1_162 dX1_trySelect_130 (s_X2 (o_X1_line hg)) rfl ?_
      refine zP_getR (pc := 133) (a := lb + 1) (t := lb + 4) C g1_169 dX1_trySelect_133 (s_X3 (o_X1_line hg)) rfl ?_
      refine zP_iload_n (pc := 136) C (x := zI x1) dX1_trySelect_136 rfl rfl ?_
      refine zP_iald (pc := 137) (a := lb + 4) C dX1_trySelect_137 (s_X3_lengths (o_X1_line hg)) hx1 h fun v137 hv137 h => ?_
      obtain ⟨v138, d1, hc, h⟩ := zc_h h
      refine zP_callV (pc := 138) (As := [.int (zI v137)]) (st := []) C m1_146 dX1_trySelect_138 (s_X2 (o_X1_line hg)) rfl (t_X2_send (o_X1_line hg) hv137 hc) ⟨Nat.le_of_ble_eq_true rfl, Nat.le_of_ble_eq_true rfl⟩ rfl (Nat.le_of_ble_eq_true rfl) ⟨Nat.zero_le _, Nat.zero_le _⟩ fun hw => ?_
      have hbv138 := hw
      have hv138 := z01 hw
      clear hc hw
      show zP V X 4 0 0 141 _ [.int (zI v138)] d1
      revert h
      generalize d1 = d
      intro h
      refine zP_if_ne (pc := 141) (tgt := 150) C dX1_trySelect_141 rfl hv138 h (fun _ h => ?_) (fun _ h => ?_)
      · refine zP_aload_n (pc := 150) C (x := zad V g) dX1_trySelect_150 rfl rfl ?_
        refine zP_getR (pc := 151) (a := g) (t := lb) C g1_21 dX1_trySelect_151 (s_X1 hg) rfl ?_
        refine zP_aload_n (pc := 154) C (x := zad V g) dX1_trySelect_154 rfl rfl ?_
        refine zP_getI (pc := 155) (a := g) C g1_15 dX1_trySelect_155 (s_X1 hg) rfl h fun v155 hv155 h => ?_
        obtain ⟨_, d1, hc, h⟩ := zc_h h
        refine zP_callV (pc := 158) (As := [.int (zI v155)]) (st := []) C m1_126 dX1_trySelect_158 (s_X2 (o_X1_line hg)) rfl (t_X2_deliverDue (o_X1_line hg) hv155 hc) ⟨Nat.le_of_ble_eq_true rfl, Nat.le_of_ble_eq_true rfl⟩ rfl (Nat.le_of_ble_eq_true rfl) ⟨Nat.zero_le _, Nat.zero_le _⟩ fun hw => ?_
        clear hc hw
        show zP V X 4 0 0 161 _ [] d1
        revert h
        generalize d1 = d
        intro h
        refine zP_aload_n (pc := 161) C (x := zad V g) dX1_trySelect_161 rfl rfl ?_
        refine zP_getR (pc := 162) (a := g) (t := lb) C g1_21 dX1_trySelect_162 (s_X1 hg) rfl ?_
        refine zP_getR (pc := 165) (a := lb) (t := lb + 15) C g1_64 dX1_trySelect_165 (s_X2 (o_X1_line hg)) rfl ?_
        refine zP_astore_n (pc := 168) C (L' := [some (.ref (zad V g)), some (.int (zI x1)), some (.int (zI s0)), some (.ref (zad V (lb + 15)))]) dX1_trySelect_168 rfl (Nat.le_of_ble_eq_true rfl) rfl rfl ?_
        refine zP_aload_n (pc := 169) C (x := zad V (lb + 15)) dX1_trySelect_169 rfl rfl ?_
        refine zP_getR (pc := 170) (a := lb + 15) (t := lb + 21) C g1_190 dX1_trySelect_170 (s_X8 (o_X1_line hg)) rfl ?_
        refine zP_aload_n (pc := 173) C (x := zad V g) dX1_trySelect_173 rfl rfl ?_
        refine zP_getI (pc := 174) (a := g) C g1_15 dX1_trySelect_174 (s_X1 hg) rfl h fun v174 hv174 h => ?_
        refine zP_iald (pc := 177) (a := lb + 21) C dX1_trySelect_177 (s_X8_hostBits (o_X1_line hg)) hv174 h fun v177 hv177 h => ?_
        refine zP_aload_n (pc := 178) C (x := zad V (lb + 15)) dX1_trySelect_178 rfl rfl ?_
        refine zP_getR (pc := 179) (a := lb + 15) (t := lb + 20) C g1_193 dX1_trySelect_179 (s_X8 (o_X1_line hg)) rfl ?_
        refine zP_aload_n (pc := 182) C (x := zad V g) dX1_trySelect_182 rfl rfl ?_
        refine zP_getI (pc := 183) (a := g) C g1_15 dX1_trySelect_183 (s_X1 hg) rfl h fun v183 hv183 h => ?_
        refine zP_iald (pc := 186) (a := lb + 20) C dX1_trySelect_186 (s_X8_expectedBits (o_X1_line hg)) hv183 h fun v186 hv186 h => ?_
        refine zP_icmp_ne (pc := 187) (tgt := 205) C dX1_trySelect_187 rfl hv177 hv186 h (fun _ h => ?_) (fun _ h => ?_)
        · refine zP_aload_n (pc := 205) C (x := zad V g) dX1_trySelect_205 rfl rfl ?_
          refine zP_getR (pc := 206) (a := g) (t := lb) C g1_21 dX1_trySelect_206 (s_X1 hg) rfl ?_
          refine zP_getR (pc := 209) (a := lb) (t := lb + 28) C g1_117 dX1_trySelect_209 (s_X2 (o_X1_line hg)) rfl ?_
          refine zP_iconst (pc := 212) C dX1_trySelect_212 ?_
          refine zP_dup2 (pc := 213) C dX1_trySelect_213 rfl rfl ?_
          refine zP_iald (pc := 214) (a := lb + 28) C dX1_trySelect_214 (s_X2_accounts (o_X1_line hg)) (zRk rfl) h fun v214 hv214 h => ?_
          refine zP_iconst (pc := 215) C dX1_trySelect_215 ?_
          refine zP_iadd (pc := 216) C dX1_trySelect_216 h fun v216 hv216 h => ?_
          refine zP_iast (pc := 217) (a := lb + 28) C dX1_trySelect_217 (s_X2_accounts (o_X1_line hg)) (zRk rfl) hv216 h fun d h => ?_
          exact zP_mask [true, false, false, true] (wj_X1_trySelect_218 hg C E   h)
        · refine zP_aload_n (pc := 190) C (x := zad V g) dX1_trySelect_190 rfl rfl ?_
          refine zP_getR (pc := 191) (a := g) (t := lb) C g1_21 dX1_trySelect_191 (s_X1 hg) rfl ?_
          refine zP_aload_n (pc := 194) C (x := zad V g) dX1_trySelect_194 rfl rfl ?_
          refine zP_getI (pc := 195) (a := g) C g1_15 dX1_trySelect_195 (s_X1 hg) rfl h fun v195 hv195 h => ?_
          refine zP_iload_n (pc := 198) C (x := zI x1) dX1_trySelect_198 rfl rfl ?_
          obtain ⟨_, d1, hc, h⟩ := zc_h h
          refine zP_callV (pc := 199) (As := [.int (zI v195), .int (zI x1)]) (st := []) C m1_196 dX1_trySelect_199 (s_X2 (o_X1_line hg)) rfl (t_X2_takeAtTerminal (o_X1_line hg) hv195 hx1 hc) ⟨Nat.le_of_ble_eq_true rfl, Nat.le_of_ble_eq_true rfl⟩ rfl (Nat.le_of_ble_eq_true rfl) ⟨Nat.zero_le _, Nat.zero_le _⟩ fun hw => ?_
          clear hc hw
          show zP V X 4 0 0 202 _ [] d1
          revert h
          generalize d1 = d
          intro h
          refine zP_goto (pc := 202) (tgt := 218) C dX1_trySelect_202 rfl ?_
          exact zP_mask [true, false, false, true] (wj_X1_trySelect_218 hg C E   h)
      · refine zP_aload_n (pc := 144) C (x := zad V g) dX1_trySelect_144 rfl rfl ?_
        obtain ⟨_, d1, hc, h⟩ := zc_h h
        refine zP_callV (pc := 145) (As := []) (st := []) C m1_172 dX1_trySelect_145 (s_X1 hg) rfl (t_X1_sendNegativeAnswer hg  hc) ⟨Nat.le_of_ble_eq_true rfl, Nat.le_of_ble_eq_true rfl⟩ rfl (Nat.le_of_ble_eq_true rfl) ⟨Nat.zero_le _, Nat.zero_le _⟩ fun hw => ?_
        clear hc hw
        show zP V X 4 0 0 148 _ [] d1
        revert h
        generalize d1 = d
        intro h
        refine zP_iconst (pc := 148) C dX1_trySelect_148 ?_
        exact zP_iret (pc := 149) C E dX1_trySelect_149 (zRk rfl) h
    · refine zP_aload_n (pc := 106) C (x := zad V g) dX1_trySelect_106 rfl rfl ?_
      refine zP_getR (pc := 107) (a := g) (t := lb) C g1_21 dX1_trySelect_107 (s_X1 hg) rfl ?_
      refine zP_getR (pc := 110) (a := lb) (t := lb + 28) C g1_117 dX1_trySelect_110 (s_X2 (o_X1_line hg)) rfl ?_
      refine zP_bipush (pc := 113) C dX1_trySelect_113 rfl ?_
      refine zP_dup2 (pc := 115) C dX1_trySelect_115 rfl rfl ?_
      refine zP_iald (pc := 116) (a := lb + 28) C dX1_trySelect_116 (s_X2_accounts (o_X1_line hg)) (zRk rfl) h fun v116 hv116 h => ?_
      refine zP_iconst (pc := 117) C dX1_trySelect_117 ?_
      refine zP_iadd (pc := 118) C dX1_trySelect_118 h fun v118 hv118 h => ?_
      refine zP_iast (pc := 119) (a := lb + 28) C dX1_trySelect_119 (s_X2_accounts (o_X1_line hg)) (zRk rfl) hv118 h fun d h => ?_
      refine zP_iconst (pc := 120) C dX1_trySelect_120 ?_
      exact zP_iret (pc := 121) C E dX1_trySelect_121 (zRk rfl) h
  · refine zP_iconst (pc := 100) C dX1_trySelect_100 ?_
    exact zP_iret (pc := 101) C E dX1_trySelect_101 (zRk rfl) h
def f_X1_trySelect (g : Nat) (lb : Nat) (d : zD) : Option (Int × zD) :=
  zl (d g 2) fun v9 =>
  zc (f_X4_firstOf lb 1 v9 d) fun v12 d =>
  zc (f_X3_has lb v12 d) fun v24 d =>
  if (v24 : Int) = 0 then (
    some (0, d))
  else (
    zc (f_X1_call g lb  d) fun v31 d =>
    if (v31 : Int) = 0 then (
      some (0, d))
    else (
      zl (d g 2) fun v44 =>
      zc (f_X2_deliverDue lb v44 d) fun _ d =>
      zl (d g 2) fun v59 =>
      zc (f_X4_sizeOf lb 2 v59 d) fun v62 d =>
      zl (d g 2) fun v76 =>
      zg 8 v76 <| zl (d (1 + 3) (v76 : Int).toNat) fun v79 =>
      if (v79 : Int) ≤ v62 then (
        j_X1_trySelect_88 g lb  v12 0 d)
      else (
        j_X1_trySelect_88 g lb  v12 1 d)))
theorem t_X1_trySelect {V : zW} {g : Nat} {lb : Nat} (hg : zo1 V g lb)   {d dz : zD} {rv : Int} (h : f_X1_trySelect g lb  d = some (rv, dz)) : zMet V 3 yX1_trySelect cX1_trySelect 4 (some .int) [.ref (zad V g)] d (some (.int (zI rv))) (zR rv) dz := by
  refine zMet_by RX1 pn1 rfl (Nat.le_of_ble_eq_true rfl) [some (.ref (zad V g)), none, none, none] rfl fun X C E => ?_
  refine zP_aload_n (pc := 0) C (x := zad V g) dX1_trySelect_0 rfl rfl ?_
  refine zP_getR (pc := 1) (a := g) (t := lb) C g1_21 dX1_trySelect_1 (s_X1 hg) rfl ?_
  refine zP_getR (pc := 4) (a := lb) (t := lb + 10) C g1_79 dX1_trySelect_4 (s_X2 (o_X1_line hg)) rfl ?_
  refine zP_iconst (pc := 7) C dX1_trySelect_7 ?_
  refine zP_aload_n (pc := 8) C (x := zad V g) dX1_trySelect_8 rfl rfl ?_
  refine zP_getI (pc := 9) (a := g) C g1_15 dX1_trySelect_9 (s_X1 hg) rfl h fun v9 hv9 h => ?_
  obtain ⟨v12, d1, hc, h⟩ := zc_h h
  refine zP_callV (pc := 12) (As := [.int (zI 1), .int (zI v9)]) (st := []) C m1_159 dX1_trySelect_12 (s_X4 (o_X1_line hg)) rfl (t_X4_firstOf (o_X1_line hg) (zRk rfl) hv9 hc) ⟨Nat.le_of_ble_eq_true rfl, Nat.le_of_ble_eq_true rfl⟩ rfl (Nat.le_of_ble_eq_true rfl) ⟨Nat.zero_le _, Nat.zero_le _⟩ fun hw => ?_
  have hv12 := hw
  clear hc hw
  show zP V X 4 0 0 15 _ [.int (zI v12)] d1
  revert h
  generalize d1 = d
  intro h
  refine zP_istore_n (pc := 15) C (L' := [some (.ref (zad V g)), some (.int (zI v12)), none, none]) dX1_trySelect_15 rfl (Nat.le_of_ble_eq_true rfl) rfl rfl ?_
  refine zP_aload_n (pc := 16) C (x := zad V g) dX1_trySelect_16 rfl rfl ?_
  refine zP_getR (pc := 17) (a := g) (t := lb) C g1_21 dX1_trySelect_17 (s_X1 hg) rfl ?_
  refine zP_getR (pc := 20) (a := lb) (t := lb + 1) C g1_162 dX1_trySelect_20 (s_X2 (o_X1_line hg)) rfl ?_
  refine zP_iload_n (pc := 23) C (x := zI v12) dX1_trySelect_23 rfl rfl ?_
  obtain ⟨v24, d1, hc, h⟩ := zc_h h
  refine zP_callV (pc := 24) (As := [.int (zI v12)]) (st := []) C m1_166 dX1_trySelect_24 (s_X3 (o_X1_line hg)) rfl (t_X3_has (o_X1_line hg) hv12 hc) ⟨Nat.le_of_ble_eq_true rfl, Nat.le_of_ble_eq_true rfl⟩ rfl (Nat.le_of_ble_eq_true rfl) ⟨Nat.zero_le _, Nat.zero_le _⟩ fun hw => ?_
  have hbv24 := hw
  have hv24 := z01 hw
  clear hc hw
  show zP V X 4 0 0 27 _ [.int (zI v24)] d1
  revert h
  generalize d1 = d
  intro h
  refine zP_if_eq (pc := 27) (tgt := 37) C dX1_trySelect_27 rfl hv24 h (fun _ h => ?_) (fun _ h => ?_)
  · refine zP_iconst (pc := 37) C dX1_trySelect_37 ?_
    exact zP_iret (pc := 38) C E dX1_trySelect_38 (zRk rfl) h
  · refine zP_aload_n (pc := 30) C (x := zad V g) dX1_trySelect_30 rfl rfl ?_
    obtain ⟨v31, d1, hc, h⟩ := zc_h h
    refine zP_callV (pc := 31) (As := []) (st := []) C m1_155 dX1_trySelect_31 (s_X1 hg) rfl (t_X1_call hg  hc) ⟨Nat.le_of_ble_eq_true rfl, Nat.le_of_ble_eq_true rfl⟩ rfl (Nat.le_of_ble_eq_true rfl) ⟨Nat.zero_le _, Nat.zero_le _⟩ fun hw => ?_
    have hbv31 := hw
    have hv31 := z01 hw
    clear hc hw
    show zP V X 4 0 0 34 _ [.int (zI v31)] d1
    revert h
    generalize d1 = d
    intro h
    refine zP_if_ne (pc := 34) (tgt := 39) C dX1_trySelect_34 rfl hv31 h (fun _ h => ?_) (fun _ h => ?_)
    · refine zP_aload_n (pc := 39) C (x := zad V g) dX1_trySelect_39 rfl rfl ?_
      refine zP_getR (pc := 40) (a := g) (t := lb) C g1_21 dX1_trySelect_40 (s_X1 hg) rfl ?_
      refine zP_aload_n (pc := 43) C (x := zad V g) dX1_trySelect_43 rfl rfl ?_
      refine zP_getI (pc := 44) (a := g) C g1_15 dX1_trySelect_44 (s_X1 hg) rfl h fun v44 hv44 h => ?_
      obtain ⟨_, d1, hc, h⟩ := zc_h h
      refine zP_callV (pc := 47) (As := [.int (zI v44)]) (st := []) C m1_126 dX1_trySelect_47 (s_X2 (o_X1_line hg)) rfl (t_X2_deliverDue (o_X1_line hg) hv44 hc) ⟨Nat.le_of_ble_eq_true rfl, Nat.le_of_ble_eq_true rfl⟩ rfl (Nat.le_of_ble_eq_true rfl) ⟨Nat.zero_le _, Nat.zero_le _⟩ fun hw => ?_
      clear hc hw
      show zP V X 4 0 0 50 _ [] d1
      revert h
      generalize d1 = d
      intro h
      refine zP_aload_n (pc := 50) C (x := zad V g) dX1_trySelect_50 rfl rfl ?_
      refine zP_getR (pc := 51) (a := g) (t := lb) C g1_21 dX1_trySelect_51 (s_X1 hg) rfl ?_
      refine zP_getR (pc := 54) (a := lb) (t := lb + 10) C g1_79 dX1_trySelect_54 (s_X2 (o_X1_line hg)) rfl ?_
      refine zP_iconst (pc := 57) C dX1_trySelect_57 ?_
      refine zP_aload_n (pc := 58) C (x := zad V g) dX1_trySelect_58 rfl rfl ?_
      refine zP_getI (pc := 59) (a := g) C g1_15 dX1_trySelect_59 (s_X1 hg) rfl h fun v59 hv59 h => ?_
      obtain ⟨v62, d1, hc, h⟩ := zc_h h
      refine zP_callV (pc := 62) (As := [.int (zI 2), .int (zI v59)]) (st := []) C m1_83 dX1_trySelect_62 (s_X4 (o_X1_line hg)) rfl (t_X4_sizeOf (o_X1_line hg) (zRk rfl) hv59 hc) ⟨Nat.le_of_ble_eq_true rfl, Nat.le_of_ble_eq_true rfl⟩ rfl (Nat.le_of_ble_eq_true rfl) ⟨Nat.zero_le _, Nat.zero_le _⟩ fun hw => ?_
      have hv62 := hw
      clear hc hw
      show zP V X 4 0 0 65 _ [.int (zI v62)] d1
      revert h
      generalize d1 = d
      intro h
      refine zP_aload_n (pc := 65) C (x := zad V g) dX1_trySelect_65 rfl rfl ?_
      refine zP_getR (pc := 66) (a := g) (t := lb) C g1_21 dX1_trySelect_66 (s_X1 hg) rfl ?_
      refine zP_getR (pc := 69) (a := lb) (t := 1) C g1_52 dX1_trySelect_69 (s_X2 (o_X1_line hg)) rfl ?_
      refine zP_getR (pc := 72) (a := 1) (t := 1 + 3) C g1_187 dX1_trySelect_72 (s_X6 (o_X2_setup (o_X1_line hg))) rfl ?_
      refine zP_aload_n (pc := 75) C (x := zad V g) dX1_trySelect_75 rfl rfl ?_
      refine zP_getI (pc := 76) (a := g) C g1_15 dX1_trySelect_76 (s_X1 hg) rfl h fun v76 hv76 h => ?_
      refine zP_iald (pc := 79) (a := 1 + 3) C dX1_trySelect_79 (s_X6_rooms (o_X2_setup (o_X1_line hg))) hv76 h fun v79 hv79 h => ?_
      refine zP_icmp_ge (pc := 80) (tgt := 87) C dX1_trySelect_80 rfl hv62 hv79 h (fun _ h => ?_) (fun _ h => ?_)
      · refine zP_iconst (pc := 87) C dX1_trySelect_87 ?_
        exact zP_mask [true, true, false, false] (wj_X1_trySelect_88 hg C E  hv12 (zRk rfl) h)
      · refine zP_iconst (pc := 83) C dX1_trySelect_83 ?_
        refine zP_goto (pc := 84) (tgt := 88) C dX1_trySelect_84 rfl ?_
        exact zP_mask [true, true, false, false] (wj_X1_trySelect_88 hg C E  hv12 (zRk rfl) h)
    · refine zP_iconst (pc := 37) C dX1_trySelect_37 ?_
      exact zP_iret (pc := 38) C E dX1_trySelect_38 (zRk rfl) h
def f_X2_takeAtHost (b : Nat) (x1 x2 : Int) (d : zD) : Option (Int × zD) :=
  zg 13 3 <| zl (d (b + 28) (3 : Int).toNat) fun v6 =>
  zl (zw (v6 + 1)) fun v8 =>
  zg 13 3 <| zl (zu d (b + 28) (3 : Int).toNat v8) fun d =>
  zg 8 x1 <| zl (d (b + 22) (x1 : Int).toNat) fun v19 =>
  zl (zxor v19 1) fun v21 =>
  zg 8 x1 <| zl (zu d (b + 22) (x1 : Int).toNat v21) fun d =>
  zl (d b 9) fun v32 =>
  zg 40 x2 <| zl (zu d (b + 7) (x2 : Int).toNat v32) fun d =>
  zg 40 x2 <| zl (d (b + 3) (x2 : Int).toNat) fun v44 =>
  if (v44 : Int) = (-1) then (
    zl (d b 9) fun v60 =>
    zg 40 x2 <| zl (zu d (b + 9) (x2 : Int).toNat v60) fun d =>
    zg 40 x2 <| zl (zu d (b + 5) (x2 : Int).toNat 3) fun d =>
    some (0, d))
  else (
    zg 40 x2 <| zl (zu d (b + 5) (x2 : Int).toNat 1) fun d =>
    zc (f_X4_append b 1 v44 x2 d) fun _ d =>
    some (0, d))
theorem t_X2_takeAtHost {V : zW} {b : Nat} (hb : zo2 V b) {x1 x2 : Int} (hx1 : zR x1) (hx2 : zR x2) {d dz : zD} {rv : Int} (h : f_X2_takeAtHost b x1 x2 d = some (rv, dz)) : zMet V 1 yX2_takeAtHost cX2_takeAtHost 4 none [.ref (zad V b), .int (zI x1), .int (zI x2)] d none (rv = 0) dz := by
  refine zMet_by RX2 pn2 rfl (Nat.le_of_ble_eq_true rfl) [some (.ref (zad V b)), some (.int (zI x1)), some (.int (zI x2)), none] rfl fun X C E => ?_
  refine zP_aload_n (pc := 0) C (x := zad V b) dX2_takeAtHost_0 rfl rfl ?_
  refine zP_getR (pc := 1) (a := b) (t := b + 28) C g2_43 dX2_takeAtHost_1 (s_X2 hb) rfl ?_
  refine zP_iconst (pc := 4) C dX2_takeAtHost_4 ?_
  refine zP_dup2 (pc := 5) C dX2_takeAtHost_5 rfl rfl ?_
  refine zP_iald (pc := 6) (a := b + 28) C dX2_takeAtHost_6 (s_X2_accounts hb) (zRk rfl) h fun v6 hv6 h => ?_
  refine zP_iconst (pc := 7) C dX2_takeAtHost_7 ?_
  refine zP_iadd (pc := 8) C dX2_takeAtHost_8 h fun v8 hv8 h => ?_
  refine zP_iast (pc := 9) (a := b + 28) C dX2_takeAtHost_9 (s_X2_accounts hb) (zRk rfl) hv8 h fun d h => ?_
  refine zP_aload_n (pc := 10) C (x := zad V b) dX2_takeAtHost_10 rfl rfl ?_
  refine zP_getR (pc := 11) (a := b) (t := b + 15) C g2_28 dX2_takeAtHost_11 (s_X2 hb) rfl ?_
  refine zP_getR (pc := 14) (a := b + 15) (t := b + 22) C g2_160 dX2_takeAtHost_14 (s_X8 hb) rfl ?_
  refine zP_iload_n (pc := 17) C (x := zI x1) dX2_takeAtHost_17 rfl rfl ?_
  refine zP_dup2 (pc := 18) C dX2_takeAtHost_18 rfl rfl ?_
  refine zP_iald (pc := 19) (a := b + 22) C dX2_takeAtHost_19 (s_X8_hostExpectedBits hb) hx1 h fun v19 hv19 h => ?_
  refine zP_iconst (pc := 20) C dX2_takeAtHost_20 ?_
  refine zP_ixor (pc := 21) C dX2_takeAtHost_21 h fun v21 hv21 h => ?_
  refine zP_iast (pc := 22) (a := b + 22) C dX2_takeAtHost_22 (s_X8_hostExpectedBits hb) hx1 hv21 h fun d h => ?_
  refine zP_aload_n (pc := 23) C (x := zad V b) dX2_takeAtHost_23 rfl rfl ?_
  refine zP_getR (pc := 24) (a := b) (t := b + 1) C g2_12 dX2_takeAtHost_24 (s_X2 hb) rfl ?_
  refine zP_getR (pc := 27) (a := b + 1) (t := b + 7) C g2_143 dX2_takeAtHost_27 (s_X3 hb) rfl ?_
  refine zP_iload_n (pc := 30) C (x := zI x2) dX2_takeAtHost_30 rfl rfl ?_
  refine zP_aload_n (pc := 31) C (x := zad V b) dX2_takeAtHost_31 rfl rfl ?_
  refine zP_getI (pc := 32) (a := b) C g2_53 dX2_takeAtHost_32 (s_X2 hb) rfl h fun v32 hv32 h => ?_
  refine zP_iast (pc := 35) (a := b + 7) C dX2_takeAtHost_35 (s_X3_hostTimes hb) hx2 hv32 h fun d h => ?_
  refine zP_aload_n (pc := 36) C (x := zad V b) dX2_takeAtHost_36 rfl rfl ?_
  refine zP_getR (pc := 37) (a := b) (t := b + 1) C g2_12 dX2_takeAtHost_37 (s_X2 hb) rfl ?_
  refine zP_getR (pc := 40) (a := b + 1) (t := b + 3) C g2_134 dX2_takeAtHost_40 (s_X3 hb) rfl ?_
  refine zP_iload_n (pc := 43) C (x := zI x2) dX2_takeAtHost_43 rfl rfl ?_
  refine zP_iald (pc := 44) (a := b + 3) C dX2_takeAtHost_44 (s_X3_receivers hb) hx2 h fun v44 hv44 h => ?_
  refine zP_istore_n (pc := 45) C (L' := [some (.ref (zad V b)), some (.int (zI x1)), some (.int (zI x2)), some (.int (zI v44))]) dX2_takeAtHost_45 rfl (Nat.le_of_ble_eq_true rfl) rfl rfl ?_
  refine zP_iload_n (pc := 46) C (x := zI v44) dX2_takeAtHost_46 rfl rfl ?_
  refine zP_iconst (pc := 47) C dX2_takeAtHost_47 ?_
  refine zP_icmp_ne (pc := 48) (tgt := 77) C dX2_takeAtHost_48 rfl hv44 (zRk rfl) h (fun _ h => ?_) (fun _ h => ?_)
  · refine zP_aload_n (pc := 77) C (x := zad V b) dX2_takeAtHost_77 rfl rfl ?_
    refine zP_getR (pc := 78) (a := b) (t := b + 1) C g2_12 dX2_takeAtHost_78 (s_X2 hb) rfl ?_
    refine zP_getR (pc := 81) (a := b + 1) (t := b + 5) C g2_152 dX2_takeAtHost_81 (s_X3 hb) rfl ?_
    refine zP_iload_n (pc := 84) C (x := zI x2) dX2_takeAtHost_84 rfl rfl ?_
    refine zP_iconst (pc := 85) C dX2_takeAtHost_85 ?_
    refine zP_iast (pc := 86) (a := b + 5) C dX2_takeAtHost_86 (s_X3_states hb) hx2 (zRk rfl) h fun d h => ?_
    refine zP_aload_n (pc := 87) C (x := zad V b) dX2_takeAtHost_87 rfl rfl ?_
    refine zP_getR (pc := 88) (a := b) (t := b + 10) C g2_21 dX2_takeAtHost_88 (s_X2 hb) rfl ?_
    refine zP_iconst (pc := 91) C dX2_takeAtHost_91 ?_
    refine zP_iload_n (pc := 92) C (x := zI v44) dX2_takeAtHost_92 rfl rfl ?_
    refine zP_iload_n (pc := 93) C (x := zI x2) dX2_takeAtHost_93 rfl rfl ?_
    obtain ⟨_, d1, hc, h⟩ := zc_h h
    refine zP_callV (pc := 94) (As := [.int (zI 1), .int (zI v44), .int (zI x2)]) (st := []) C m2_155 dX2_takeAtHost_94 (s_X4 hb) rfl (t_X4_append hb (zRk rfl) hv44 hx2 hc) ⟨Nat.le_of_ble_eq_true rfl, Nat.le_of_ble_eq_true rfl⟩ rfl (Nat.le_of_ble_eq_true rfl) ⟨Nat.zero_le _, Nat.zero_le _⟩ fun hw => ?_
    clear hc hw
    show zP V X 4 0 0 97 _ [] d1
    revert h
    generalize d1 = d
    intro h
    exact zP_vret (pc := 97) C E dX2_takeAtHost_97 h
  · refine zP_aload_n (pc := 51) C (x := zad V b) dX2_takeAtHost_51 rfl rfl ?_
    refine zP_getR (pc := 52) (a := b) (t := b + 1) C g2_12 dX2_takeAtHost_52 (s_X2 hb) rfl ?_
    refine zP_getR (pc := 55) (a := b + 1) (t := b + 9) C g2_149 dX2_takeAtHost_55 (s_X3 hb) rfl ?_
    refine zP_iload_n (pc := 58) C (x := zI x2) dX2_takeAtHost_58 rfl rfl ?_
    refine zP_aload_n (pc := 59) C (x := zad V b) dX2_takeAtHost_59 rfl rfl ?_
    refine zP_getI (pc := 60) (a := b) C g2_53 dX2_takeAtHost_60 (s_X2 hb) rfl h fun v60 hv60 h => ?_
    refine zP_iast (pc := 63) (a := b + 9) C dX2_takeAtHost_63 (s_X3_deliveryTimes hb) hx2 hv60 h fun d h => ?_
    refine zP_aload_n (pc := 64) C (x := zad V b) dX2_takeAtHost_64 rfl rfl ?_
    refine zP_getR (pc := 65) (a := b) (t := b + 1) C g2_12 dX2_takeAtHost_65 (s_X2 hb) rfl ?_
    refine zP_getR (pc := 68) (a := b + 1) (t := b + 5) C g2_152 dX2_takeAtHost_68 (s_X3 hb) rfl ?_
    refine zP_iload_n (pc := 71) C (x := zI x2) dX2_takeAtHost_71 rfl rfl ?_
    refine zP_iconst (pc := 72) C dX2_takeAtHost_72 ?_
    refine zP_iast (pc := 73) (a := b + 5) C dX2_takeAtHost_73 (s_X3_states hb) hx2 (zRk rfl) h fun d h => ?_
    refine zP_goto (pc := 74) (tgt := 97) C dX2_takeAtHost_74 rfl ?_
    exact zP_vret (pc := 97) C E dX2_takeAtHost_97 h
def j_X1_tryPoll_201 (g : Nat) (lb : Nat)  (x3 : Int) (d : zD) : Option (Int × zD) :=
  if (x3 : Int) = 0 then (
    some (3, d))
  else (
    some (2, d))
theorem wj_X1_tryPoll_201 {V : zW} {X : zX} {g : Nat} {lb : Nat} (hg : zo1 V g lb) (C : zOk V X cX1_tryPoll RX1 4 (zrm 2) (some .int)) {rv : Int} {dz : zD} (E : zEnd V X (some (.int (zI rv))) (zR rv) dz)  {x3 : Int} (hx3 : zR x3) {d : zD} (h : j_X1_tryPoll_201 g lb  x3 d = some (rv, dz)) : zP V X 4 0 0 201 [none, none, none, some (.int (zI x3))] [] d := by
  refine zP_iload_n (pc := 201) C (x := zI x3) dX1_tryPoll_201 rfl rfl ?_
  refine zP_if_eq (pc := 202) (tgt := 209) C dX1_tryPoll_202 rfl hx3 h (fun _ h => ?_) (fun _ h => ?_)
  · refine zP_iconst (pc := 209) C dX1_tryPoll_209 ?_
    exact zP_iret (pc := 210) C E dX1_tryPoll_210 (zRk rfl) h
  · refine zP_iconst (pc := 205) C dX1_tryPoll_205 ?_
    refine zP_goto (pc := 206) (tgt := 210) C dX1_tryPoll_206 rfl ?_
    exact zP_iret (pc := 210) C E dX1_tryPoll_210 (zRk rfl) h
def j_X1_tryPoll_162 (g : Nat) (lb : Nat)  (x3 : Int) (d : zD) : Option (Int × zD) :=
  zc (f_X2_send lb 1 d) fun v167 d =>
  if (v167 : Int) = 0 then (
    j_X1_tryPoll_201 g lb  x3 d)
  else (
    zl (d g 2) fun v182 =>
    zc (f_X4_removeFirst lb 0 v182 d) fun _ d =>
    zl (d g 2) fun v193 =>
    zg 8 v193 <| zl (d (lb + 19) (v193 : Int).toNat) fun v197 =>
    zl (zxor v197 1) fun v199 =>
    zg 8 v193 <| zl (zu d (lb + 19) (v193 : Int).toNat v199) fun d =>
    j_X1_tryPoll_201 g lb  x3 d)
theorem wj_X1_tryPoll_162 {V : zW} {X : zX} {g : Nat} {lb : Nat} (hg : zo1 V g lb) (C : zOk V X cX1_tryPoll RX1 4 (zrm 2) (some .int)) {rv : Int} {dz : zD} (E : zEnd V X (some (.int (zI rv))) (zR rv) dz)  {x3 : Int} (hx3 : zR x3) {d : zD} (h : j_X1_tryPoll_162 g lb  x3 d = some (rv, dz)) : zP V X 4 0 0 162 [some (.ref (zad V g)), none, some (.ref (zad V (lb + 15))), some (.int (zI x3))] [] d := by
  refine zP_aload_n (pc := 162) C (x := zad V g) dX1_tryPoll_162 rfl rfl ?_
  refine zP_getR (pc := 163) (a := g) (t := lb) C g1_21 dX1_tryPoll_163 (s_X1 hg) rfl ?_
  refine zP_iconst (pc := 166) C dX1_tryPoll_166 ?_
  obtain ⟨v167, d1, hc, h⟩ := zc_h h
  refine zP_callV (pc := 167) (As := [.int (zI 1)]) (st := []) C m1_146 dX1_tryPoll_167 (s_X2 (o_X1_line hg)) rfl (t_X2_send (o_X1_line hg) (zRk rfl) hc) ⟨Nat.le_of_ble_eq_true rfl, Nat.le_of_ble_eq_true rfl⟩ rfl (Nat.le_of_ble_eq_true rfl) ⟨Nat.zero_le _, Nat.zero_le _⟩ fun hw => ?_
  have hbv167 := hw
  have hv167 := z01 hw
  clear hc hw
  show zP V X 4 0 0 170 _ [.int (zI v167)] d1
  revert h
  generalize d1 = d
  intro h
  refine zP_if_eq (pc := 170) (tgt := 201) C dX1_tryPoll_170 rfl hv167 h (fun _ h => ?_) (fun _ h => ?_)
  · exact zP_mask [false, false, false, true] (wj_X1_tryPoll_201 hg C E  hx3 h)
  · refine zP_aload_n (pc := 173) C (x := zad V g) dX1_tryPoll_173 rfl rfl ?_
    refine zP_getR (pc := 174) (a := g) (t := lb) C g1_21 dX1_tryPoll_174 (s_X1 hg) rfl ?_
    refine zP_getR (pc := 177) (a := lb) (t := lb + 10) C g1_79 dX1_tryPoll_177 (s_X2 (o_X1_line hg)) rfl ?_
    refine zP_iconst (pc := 180) C dX1_tryPoll_180 ?_
    refine zP_aload_n (pc := 181) C (x := zad V g) dX1_tryPoll_181 rfl rfl ?_
    refine zP_getI (pc := 182) (a := g) C g1_15 dX1_tryPoll_182 (s_X1 hg) rfl h fun v182 hv182 h => ?_
    obtain ⟨_, d1, hc, h⟩ := zc_h h
    refine zP_callV (pc := 185) (As := [.int (zI 0), .int (zI v182)]) (st := []) C m1_184 dX1_tryPoll_185 (s_X4 (o_X1_line hg)) rfl (t_X4_removeFirst (o_X1_line hg) (zRk rfl) hv182 hc) ⟨Nat.le_of_ble_eq_true rfl, Nat.le_of_ble_eq_true rfl⟩ rfl (Nat.le_of_ble_eq_true rfl) ⟨Nat.zero_le _, Nat.zero_le _⟩ fun hw => ?_
    clear hc hw
    show zP V X 4 0 0 188 _ [] d1
    revert h
    generalize d1 = d
    intro h
    refine zP_aload_n (pc := 188) C (x := zad V (lb + 15)) dX1_tryPoll_188 rfl rfl ?_
    refine zP_getR (pc := 189) (a := lb + 15) (t := lb + 19) C g1_175 dX1_tryPoll_189 (s_X8 (o_X1_line hg)) rfl ?_
    refine zP_aload_n (pc := 192) C (x := zad V g) dX1_tryPoll_192 rfl rfl ?_
    refine zP_getI (pc := 193) (a := g) C g1_15 dX1_tryPoll_193 (s_X1 hg) rfl h fun v193 hv193 h => ?_
    refine zP_dup2 (pc := 196) C dX1_tryPoll_196 rfl rfl ?_
    refine zP_iald (pc := 197) (a := lb + 19) C dX1_tryPoll_197 (s_X8_ownBits (o_X1_line hg)) hv193 h fun v197 hv197 h => ?_
    refine zP_iconst (pc := 198) C dX1_tryPoll_198 ?_
    refine zP_ixor (pc := 199) C dX1_tryPoll_199 h fun v199 hv199 h => ?_
    refine zP_iast (pc := 200) (a := lb + 19) C dX1_tryPoll_200 (s_X8_ownBits (o_X1_line hg)) hv193 hv199 h fun d h => ?_
    exact zP_mask [false, false, false, true] (wj_X1_tryPoll_201 hg C E  hx3 h)
def j_X1_tryPoll_129 (g : Nat) (lb : Nat)  (x1 s0 : Int) (d : zD) : Option (Int × zD) :=
  if (s0 : Int) = 0 then (
    zg 13 4 <| zl (d (lb + 28) (4 : Int).toNat) fun v158 =>
    zl (zw (v158 + 1)) fun v160 =>
    zg 13 4 <| zl (zu d (lb + 28) (4 : Int).toNat v160) fun d =>
    j_X1_tryPoll_162 g lb  s0 d)
  else (
    zl (d g 2) fun v139 =>
    zc (f_X2_takeAtHost lb v139 x1 d) fun _ d =>
    j_X1_tryPoll_162 g lb  s0 d)
theorem wj_X1_tryPoll_129 {V : zW} {X : zX} {g : Nat} {lb : Nat} (hg : zo1 V g lb) (C : zOk V X cX1_tryPoll RX1 4 (zrm 2) (some .int)) {rv : Int} {dz : zD} (E : zEnd V X (some (.int (zI rv))) (zR rv) dz)  {x1 s0 : Int} (hx1 : zR x1) (hs0 : zR s0) {d : zD} (h : j_X1_tryPoll_129 g lb  x1 s0 d = some (rv, dz)) : zP V X 4 0 0 129 [some (.ref (zad V g)), some (.int (zI x1)), some (.ref (zad V (lb + 15))), none] [.int (zI s0)] d := by
  refine zP_istore_n (pc := 129) C (L' := [some (.ref (zad V g)), some (.int (zI x1)), some (.ref (zad V (lb + 15))), some (.int (zI s0))]) dX1_tryPoll_129 rfl (Nat.le_of_ble_eq_true rfl) rfl rfl ?_
  refine zP_iload_n (pc := 130) C (x := zI s0) dX1_tryPoll_130 rfl rfl ?_
  refine zP_if_eq (pc := 131) (tgt := 149) C dX1_tryPoll_131 rfl hs0 h (fun _ h => ?_) (fun _ h => ?_)
  · refine zP_aload_n (pc := 149) C (x := zad V g) dX1_tryPoll_149 rfl rfl ?_
    refine zP_getR (pc := 150) (a := g) (t := lb) C g1_21 dX1_tryPoll_150 (s_X1 hg) rfl ?_
    refine zP_getR (pc := 153) (a := lb) (t := lb + 28) C g1_117 dX1_tryPoll_153 (s_X2 (o_X1_line hg)) rfl ?_
    refine zP_iconst (pc := 156) C dX1_tryPoll_156 ?_
    refine zP_dup2 (pc := 157) C dX1_tryPoll_157 rfl rfl ?_
    refine zP_iald (pc := 158) (a := lb + 28) C dX1_tryPoll_158 (s_X2_accounts (o_X1_line hg)) (zRk rfl) h fun v158 hv158 h => ?_
    refine zP_iconst (pc := 159) C dX1_tryPoll_159 ?_
    refine zP_iadd (pc := 160) C dX1_tryPoll_160 h fun v160 hv160 h => ?_
    refine zP_iast (pc := 161) (a := lb + 28) C dX1_tryPoll_161 (s_X2_accounts (o_X1_line hg)) (zRk rfl) hv160 h fun d h => ?_
    exact zP_mask [true, false, true, true] (wj_X1_tryPoll_162 hg C E  hs0 h)
  · refine zP_aload_n (pc := 134) C (x := zad V g) dX1_tryPoll_134 rfl rfl ?_
    refine zP_getR (pc := 135) (a := g) (t := lb) C g1_21 dX1_tryPoll_135 (s_X1 hg) rfl ?_
    refine zP_aload_n (pc := 138) C (x := zad V g) dX1_tryPoll_138 rfl rfl ?_
    refine zP_getI (pc := 139) (a := g) C g1_15 dX1_tryPoll_139 (s_X1 hg) rfl h fun v139 hv139 h => ?_
    refine zP_iload_n (pc := 142) C (x := zI x1) dX1_tryPoll_142 rfl rfl ?_
    obtain ⟨_, d1, hc, h⟩ := zc_h h
    refine zP_callV (pc := 143) (As := [.int (zI v139), .int (zI x1)]) (st := []) C m1_181 dX1_tryPoll_143 (s_X2 (o_X1_line hg)) rfl (t_X2_takeAtHost (o_X1_line hg) hv139 hx1 hc) ⟨Nat.le_of_ble_eq_true rfl, Nat.le_of_ble_eq_true rfl⟩ rfl (Nat.le_of_ble_eq_true rfl) ⟨Nat.zero_le _, Nat.zero_le _⟩ fun hw => ?_
    clear hc hw
    show zP V X 4 0 0 146 _ [] d1
    revert h
    generalize d1 = d
    intro h
    refine zP_goto (pc := 146) (tgt := 162) C dX1_tryPoll_146 rfl ?_
    exact zP_mask [true, false, true, true] (wj_X1_tryPoll_162 hg C E  hs0 h)
def f_X1_tryPoll (g : Nat) (lb : Nat) (d : zD) : Option (Int × zD) :=
  zc (f_X1_call g lb  d) fun v1 d =>
  if (v1 : Int) = 0 then (
    some (0, d))
  else (
    zl (d g 2) fun v18 =>
    zc (f_X4_firstOf lb 0 v18 d) fun v21 d =>
    zc (f_X3_has lb v21 d) fun v33 d =>
    if (v33 : Int) = 0 then (
      zc (f_X2_send lb 1 d) fun v44 d =>
      if (v44 : Int) = 0 then (
        some (0, d))
      else (
        zg 13 2 <| zl (d (lb + 28) (2 : Int).toNat) fun v61 =>
        zl (zw (v61 + 1)) fun v63 =>
        zg 13 2 <| zl (zu d (lb + 28) (2 : Int).toNat v63) fun d =>
        some (1, d)))
    else (
      zg 40 v21 <| zl (d (lb + 4) (v21 : Int).toNat) fun v82 =>
      zc (f_X2_send lb v82 d) fun v83 d =>
      if (v83 : Int) = 0 then (
        zc (f_X1_sendNegativeAnswer g lb  d) fun _ d =>
        some (0, d))
      else (
        zl (d g 2) fun v108 =>
        zg 8 v108 <| zl (d (lb + 19) (v108 : Int).toNat) fun v111 =>
        zl (d g 2) fun v117 =>
        zg 8 v117 <| zl (d (lb + 22) (v117 : Int).toNat) fun v120 =>
        if (v111 : Int) = v120 then (
          j_X1_tryPoll_129 g lb  v21 1 d)
        else (
          j_X1_tryPoll_129 g lb  v21 0 d))))
theorem t_X1_tryPoll {V : zW} {g : Nat} {lb : Nat} (hg : zo1 V g lb)   {d dz : zD} {rv : Int} (h : f_X1_tryPoll g lb  d = some (rv, dz)) : zMet V 2 yX1_tryPoll cX1_tryPoll 4 (some .int) [.ref (zad V g)] d (some (.int (zI rv))) (zR rv) dz := by
  refine zMet_by RX1 pn1 rfl (Nat.le_of_ble_eq_true rfl) [some (.ref (zad V g)), none, none, none] rfl fun X C E => ?_
  refine zP_aload_n (pc := 0) C (x := zad V g) dX1_tryPoll_0 rfl rfl ?_
  obtain ⟨v1, d1, hc, h⟩ := zc_h h
  refine zP_callV (pc := 1) (As := []) (st := []) C m1_155 dX1_tryPoll_1 (s_X1 hg) rfl (t_X1_call hg  hc) ⟨Nat.le_of_ble_eq_true rfl, Nat.le_of_ble_eq_true rfl⟩ rfl (Nat.le_of_ble_eq_true rfl) ⟨Nat.zero_le _, Nat.zero_le _⟩ fun hw => ?_
  have hbv1 := hw
  have hv1 := z01 hw
  clear hc hw
  show zP V X 4 0 0 4 _ [.int (zI v1)] d1
  revert h
  generalize d1 = d
  intro h
  refine zP_if_ne (pc := 4) (tgt := 9) C dX1_tryPoll_4 rfl hv1 h (fun _ h => ?_) (fun _ h => ?_)
  · refine zP_aload_n (pc := 9) C (x := zad V g) dX1_tryPoll_9 rfl rfl ?_
    refine zP_getR (pc := 10) (a := g) (t := lb) C g1_21 dX1_tryPoll_10 (s_X1 hg) rfl ?_
    refine zP_getR (pc := 13) (a := lb) (t := lb + 10) C g1_79 dX1_tryPoll_13 (s_X2 (o_X1_line hg)) rfl ?_
    refine zP_iconst (pc := 16) C dX1_tryPoll_16 ?_
    refine zP_aload_n (pc := 17) C (x := zad V g) dX1_tryPoll_17 rfl rfl ?_
    refine zP_getI (pc := 18) (a := g) C g1_15 dX1_tryPoll_18 (s_X1 hg) rfl h fun v18 hv18 h => ?_
    obtain ⟨v21, d1, hc, h⟩ := zc_h h
    refine zP_callV (pc := 21) (As := [.int (zI 0), .int (zI v18)]) (st := []) C m1_159 dX1_tryPoll_21 (s_X4 (o_X1_line hg)) rfl (t_X4_firstOf (o_X1_line hg) (zRk rfl) hv18 hc) ⟨Nat.le_of_ble_eq_true rfl, Nat.le_of_ble_eq_true rfl⟩ rfl (Nat.le_of_ble_eq_true rfl) ⟨Nat.zero_le _, Nat.zero_le _⟩ fun hw => ?_
    have hv21 := hw
    clear hc hw
    show zP V X 4 0 0 24 _ [.int (zI v21)] d1
    revert h
    generalize d1 = d
    intro h
    refine zP_istore_n (pc := 24) C (L' := [some (.ref (zad V g)), some (.int (zI v21)), none, none]) dX1_tryPoll_24 rfl (Nat.le_of_ble_eq_true rfl) rfl rfl ?_
    refine zP_aload_n (pc := 25) C (x := zad V g) dX1_tryPoll_25 rfl rfl ?_
    refine zP_getR (pc := 26) (a := g) (t := lb) C g1_21 dX1_tryPoll_26 (s_X1 hg) rfl ?_
    refine zP_getR (pc := 29) (a := lb) (t := lb + 1) C g1_162 dX1_tryPoll_29 (s_X2 (o_X1_line hg)) rfl ?_
    refine zP_iload_n (pc := 32) C (x := zI v21) dX1_tryPoll_32 rfl rfl ?_
    obtain ⟨v33, d1, hc, h⟩ := zc_h h
    refine zP_callV (pc := 33) (As := [.int (zI v21)]) (st := []) C m1_166 dX1_tryPoll_33 (s_X3 (o_X1_line hg)) rfl (t_X3_has (o_X1_line hg) hv21 hc) ⟨Nat.le_of_ble_eq_true rfl, Nat.le_of_ble_eq_true rfl⟩ rfl (Nat.le_of_ble_eq_true rfl) ⟨Nat.zero_le _, Nat.zero_le _⟩ fun hw => ?_
    have hbv33 := hw
    have hv33 := z01 hw
    clear hc hw
    show zP V X 4 0 0 36 _ [.int (zI v33)] d1
    revert h
    generalize d1 = d
    intro h
    refine zP_if_ne (pc := 36) (tgt := 67) C dX1_tryPoll_36 rfl hv33 h (fun _ h => ?_) (fun _ h => ?_)
    · refine zP_aload_n (pc := 67) C (x := zad V g) dX1_tryPoll_67 rfl rfl ?_
      refine zP_getR (pc := 68) (a := g) (t := lb) C g1_21 dX1_tryPoll_68 (s_X1 hg) rfl ?_
      refine zP_aload_n (pc := 71) C (x := zad V g) dX1_tryPoll_71 rfl rfl ?_
      refine zP_getR (pc := 72) (a := g) (t := lb) C g1_21 dX1_tryPoll_72 (s_X1 hg) rfl ?_
      refine zP_getR (pc := 75) (a := lb) (t := lb + 1) C g1_162 dX1_tryPoll_75 (s_X2 (o_X1_line hg)) rfl ?_
      refine zP_getR (pc := 78) (a := lb + 1) (t := lb + 4) C g1_169 dX1_tryPoll_78 (s_X3 (o_X1_line hg)) rfl ?_
      refine zP_iload_n (pc := 81) C (x := zI v21) dX1_tryPoll_81 rfl rfl ?_
      refine zP_iald (pc := 82) (a := lb + 4) C dX1_tryPoll_82 (s_X3_lengths (o_X1_line hg)) hv21 h fun v82 hv82 h => ?_
      obtain ⟨v83, d1, hc, h⟩ := zc_h h
      refine zP_callV (pc := 83) (As := [.int (zI v82)]) (st := []) C m1_146 dX1_tryPoll_83 (s_X2 (o_X1_line hg)) rfl (t_X2_send (o_X1_line hg) hv82 hc) ⟨Nat.le_of_ble_eq_true rfl, Nat.le_of_ble_eq_true rfl⟩ rfl (Nat.le_of_ble_eq_true rfl) ⟨Nat.zero_le _, Nat.zero_le _⟩ fun hw => ?_
      have hbv83 := hw
      have hv83 := z01 hw
      clear hc hw
      show zP V X 4 0 0 86 _ [.int (zI v83)] d1
      revert h
      generalize d1 = d
      intro h
      refine zP_if_ne (pc := 86) (tgt := 95) C dX1_tryPoll_86 rfl hv83 h (fun _ h => ?_) (fun _ h => ?_)
      · refine zP_aload_n (pc := 95) C (x := zad V g) dX1_tryPoll_95 rfl rfl ?_
        refine zP_getR (pc := 96) (a := g) (t := lb) C g1_21 dX1_tryPoll_96 (s_X1 hg) rfl ?_
        refine zP_getR (pc := 99) (a := lb) (t := lb + 15) C g1_64 dX1_tryPoll_99 (s_X2 (o_X1_line hg)) rfl ?_
        refine zP_astore_n (pc := 102) C (L' := [some (.ref (zad V g)), some (.int (zI v21)), some (.ref (zad V (lb + 15))), none]) dX1_tryPoll_102 rfl (Nat.le_of_ble_eq_true rfl) rfl rfl ?_
        refine zP_aload_n (pc := 103) C (x := zad V (lb + 15)) dX1_tryPoll_103 rfl rfl ?_
        refine zP_getR (pc := 104) (a := lb + 15) (t := lb + 19) C g1_175 dX1_tryPoll_104 (s_X8 (o_X1_line hg)) rfl ?_
        refine zP_aload_n (pc := 107) C (x := zad V g) dX1_tryPoll_107 rfl rfl ?_
        refine zP_getI (pc := 108) (a := g) C g1_15 dX1_tryPoll_108 (s_X1 hg) rfl h fun v108 hv108 h => ?_
        refine zP_iald (pc := 111) (a := lb + 19) C dX1_tryPoll_111 (s_X8_ownBits (o_X1_line hg)) hv108 h fun v111 hv111 h => ?_
        refine zP_aload_n (pc := 112) C (x := zad V (lb + 15)) dX1_tryPoll_112 rfl rfl ?_
        refine zP_getR (pc := 113) (a := lb + 15) (t := lb + 22) C g1_178 dX1_tryPoll_113 (s_X8 (o_X1_line hg)) rfl ?_
        refine zP_aload_n (pc := 116) C (x := zad V g) dX1_tryPoll_116 rfl rfl ?_
        refine zP_getI (pc := 117) (a := g) C g1_15 dX1_tryPoll_117 (s_X1 hg) rfl h fun v117 hv117 h => ?_
        refine zP_iald (pc := 120) (a := lb + 22) C dX1_tryPoll_120 (s_X8_hostExpectedBits (o_X1_line hg)) hv117 h fun v120 hv120 h => ?_
        refine zP_icmp_ne (pc := 121) (tgt := 128) C dX1_tryPoll_121 rfl hv111 hv120 h (fun _ h => ?_) (fun _ h => ?_)
        · refine zP_iconst (pc := 128) C dX1_tryPoll_128 ?_
          exact zP_mask [true, true, true, false] (wj_X1_tryPoll_129 hg C E  hv21 (zRk rfl) h)
        · refine zP_iconst (pc := 124) C dX1_tryPoll_124 ?_
          refine zP_goto (pc := 125) (tgt := 129) C dX1_tryPoll_125 rfl ?_
          exact zP_mask [true, true, true, false] (wj_X1_tryPoll_129 hg C E  hv21 (zRk rfl) h)
      · refine zP_aload_n (pc := 89) C (x := zad V g) dX1_tryPoll_89 rfl rfl ?_
        obtain ⟨_, d1, hc, h⟩ := zc_h h
        refine zP_callV (pc := 90) (As := []) (st := []) C m1_172 dX1_tryPoll_90 (s_X1 hg) rfl (t_X1_sendNegativeAnswer hg  hc) ⟨Nat.le_of_ble_eq_true rfl, Nat.le_of_ble_eq_true rfl⟩ rfl (Nat.le_of_ble_eq_true rfl) ⟨Nat.zero_le _, Nat.zero_le _⟩ fun hw => ?_
        clear hc hw
        show zP V X 4 0 0 93 _ [] d1
        revert h
        generalize d1 = d
        intro h
        refine zP_iconst (pc := 93) C dX1_tryPoll_93 ?_
        exact zP_iret (pc := 94) C E dX1_tryPoll_94 (zRk rfl) h
    · refine zP_aload_n (pc := 39) C (x := zad V g) dX1_tryPoll_39 rfl rfl ?_
      refine zP_getR (pc := 40) (a := g) (t := lb) C g1_21 dX1_tryPoll_40 (s_X1 hg) rfl ?_
      refine zP_iconst (pc := 43) C dX1_tryPoll_43 ?_
      obtain ⟨v44, d1, hc, h⟩ := zc_h h
      refine zP_callV (pc := 44) (As := [.int (zI 1)]) (st := []) C m1_146 dX1_tryPoll_44 (s_X2 (o_X1_line hg)) rfl (t_X2_send (o_X1_line hg) (zRk rfl) hc) ⟨Nat.le_of_ble_eq_true rfl, Nat.le_of_ble_eq_true rfl⟩ rfl (Nat.le_of_ble_eq_true rfl) ⟨Nat.zero_le _, Nat.zero_le _⟩ fun hw => ?_
      have hbv44 := hw
      have hv44 := z01 hw
      clear hc hw
      show zP V X 4 0 0 47 _ [.int (zI v44)] d1
      revert h
      generalize d1 = d
      intro h
      refine zP_if_ne (pc := 47) (tgt := 52) C dX1_tryPoll_47 rfl hv44 h (fun _ h => ?_) (fun _ h => ?_)
      · refine zP_aload_n (pc := 52) C (x := zad V g) dX1_tryPoll_52 rfl rfl ?_
        refine zP_getR (pc := 53) (a := g) (t := lb) C g1_21 dX1_tryPoll_53 (s_X1 hg) rfl ?_
        refine zP_getR (pc := 56) (a := lb) (t := lb + 28) C g1_117 dX1_tryPoll_56 (s_X2 (o_X1_line hg)) rfl ?_
        refine zP_iconst (pc := 59) C dX1_tryPoll_59 ?_
        refine zP_dup2 (pc := 60) C dX1_tryPoll_60 rfl rfl ?_
        refine zP_iald (pc := 61) (a := lb + 28) C dX1_tryPoll_61 (s_X2_accounts (o_X1_line hg)) (zRk rfl) h fun v61 hv61 h => ?_
        refine zP_iconst (pc := 62) C dX1_tryPoll_62 ?_
        refine zP_iadd (pc := 63) C dX1_tryPoll_63 h fun v63 hv63 h => ?_
        refine zP_iast (pc := 64) (a := lb + 28) C dX1_tryPoll_64 (s_X2_accounts (o_X1_line hg)) (zRk rfl) hv63 h fun d h => ?_
        refine zP_iconst (pc := 65) C dX1_tryPoll_65 ?_
        exact zP_iret (pc := 66) C E dX1_tryPoll_66 (zRk rfl) h
      · refine zP_iconst (pc := 50) C dX1_tryPoll_50 ?_
        exact zP_iret (pc := 51) C E dX1_tryPoll_51 (zRk rfl) h
  · refine zP_iconst (pc := 7) C dX1_tryPoll_7 ?_
    exact zP_iret (pc := 8) C E dX1_tryPoll_8 (zRk rfl) h
def f_X1_noteEnd (g : Nat) (lb : Nat) (x1 : Int) (d : zD) : Option (Int × zD) :=
  if (x1 : Int) = 0 then (
    zl (d g 1) fun v36 =>
    if (v36 : Int) = 2 then (
      some (0, d))
    else (
      zg 13 8 <| zl (d (lb + 28) (8 : Int).toNat) fun v53 =>
      zl (zw (v53 + 1)) fun v55 =>
      zg 13 8 <| zl (zu d (lb + 28) (8 : Int).toNat v55) fun d =>
      zl (d g 2) fun v60 =>
      zc (f_X8_countOften lb 3 v60 d) fun _ d =>
      zl (d g 2) fun v71 =>
      zg 8 v71 <| zl (d (lb + 18) (v71 : Int).toNat) fun v75 =>
      zl (zw (v75 + 1)) fun v77 =>
      zg 8 v71 <| zl (zu d (lb + 18) (v71 : Int).toNat v77) fun d =>
      zl (d g 2) fun v84 =>
      zg 8 v84 <| zl (d (lb + 18) (v84 : Int).toNat) fun v87 =>
      zg 6 2 <| zl (d (lb + 27) (2 : Int).toNat) fun v96 =>
      if (v87 : Int) < v96 then (
        some (0, d))
      else (
        zl (d g 2) fun v105 =>
        zg 8 v105 <| zl (zu d (lb + 17) (v105 : Int).toNat 0) fun d =>
        zg 13 9 <| zl (d (lb + 28) (9 : Int).toNat) fun v120 =>
        zl (zw (v120 + 1)) fun v122 =>
        zg 13 9 <| zl (zu d (lb + 28) (9 : Int).toNat v122) fun d =>
        some (0, d))))
  else (
    zl (d g 2) fun v17 =>
    zg 8 v17 <| zl (zu d (lb + 18) (v17 : Int).toNat 0) fun d =>
    zl (d g 2) fun v27 =>
    zg 8 v27 <| zl (zu d (lb + 17) (v27 : Int).toNat 1) fun d =>
    some (0, d))
theorem t_X1_noteEnd {V : zW} {g : Nat} {lb : Nat} (hg : zo1 V g lb) {x1 : Int} (hx1 : zR x1) {d dz : zD} {rv : Int} (h : f_X1_noteEnd g lb x1 d = some (rv, dz)) : zMet V 1 yX1_noteEnd cX1_noteEnd 3 none [.ref (zad V g), .int (zI x1)] d none (rv = 0) dz := by
  refine zMet_by RX1 pn1 rfl (Nat.le_of_ble_eq_true rfl) [some (.ref (zad V g)), some (.int (zI x1)), none] rfl fun X C E => ?_
  refine zP_aload_n (pc := 0) C (x := zad V g) dX1_noteEnd_0 rfl rfl ?_
  refine zP_getR (pc := 1) (a := g) (t := lb) C g1_21 dX1_noteEnd_1 (s_X1 hg) rfl ?_
  refine zP_getR (pc := 4) (a := lb) (t := lb + 15) C g1_64 dX1_noteEnd_4 (s_X2 (o_X1_line hg)) rfl ?_
  refine zP_astore_n (pc := 7) C (L' := [some (.ref (zad V g)), some (.int (zI x1)), some (.ref (zad V (lb + 15)))]) dX1_noteEnd_7 rfl (Nat.le_of_ble_eq_true rfl) rfl rfl ?_
  refine zP_iload_n (pc := 8) C (x := zI x1) dX1_noteEnd_8 rfl rfl ?_
  refine zP_if_eq (pc := 9) (tgt := 35) C dX1_noteEnd_9 rfl hx1 h (fun _ h => ?_) (fun _ h => ?_)
  · refine zP_aload_n (pc := 35) C (x := zad V g) dX1_noteEnd_35 rfl rfl ?_
    refine zP_getI (pc := 36) (a := g) C g1_9 dX1_noteEnd_36 (s_X1 hg) rfl h fun v36 hv36 h => ?_
    refine zP_iconst (pc := 39) C dX1_noteEnd_39 ?_
    refine zP_icmp_eq (pc := 40) (tgt := 124) C dX1_noteEnd_40 rfl hv36 (zRk rfl) h (fun _ h => ?_) (fun _ h => ?_)
    · exact zP_vret (pc := 124) C E dX1_noteEnd_124 h
    · refine zP_aload_n (pc := 43) C (x := zad V g) dX1_noteEnd_43 rfl rfl ?_
      refine zP_getR (pc := 44) (a := g) (t := lb) C g1_21 dX1_noteEnd_44 (s_X1 hg) rfl ?_
      refine zP_getR (pc := 47) (a := lb) (t := lb + 28) C g1_117 dX1_noteEnd_47 (s_X2 (o_X1_line hg)) rfl ?_
      refine zP_bipush (pc := 50) C dX1_noteEnd_50 rfl ?_
      refine zP_dup2 (pc := 52) C dX1_noteEnd_52 rfl rfl ?_
      refine zP_iald (pc := 53) (a := lb + 28) C dX1_noteEnd_53 (s_X2_accounts (o_X1_line hg)) (zRk rfl) h fun v53 hv53 h => ?_
      refine zP_iconst (pc := 54) C dX1_noteEnd_54 ?_
      refine zP_iadd (pc := 55) C dX1_noteEnd_55 h fun v55 hv55 h => ?_
      refine zP_iast (pc := 56) (a := lb + 28) C dX1_noteEnd_56 (s_X2_accounts (o_X1_line hg)) (zRk rfl) hv55 h fun d h => ?_
      refine zP_aload_n (pc := 57) C (x := zad V (lb + 15)) dX1_noteEnd_57 rfl rfl ?_
      refine zP_iconst (pc := 58) C dX1_noteEnd_58 ?_
      refine zP_aload_n (pc := 59) C (x := zad V g) dX1_noteEnd_59 rfl rfl ?_
      refine zP_getI (pc := 60) (a := g) C g1_15 dX1_noteEnd_60 (s_X1 hg) rfl h fun v60 hv60 h => ?_
      obtain ⟨_, d1, hc, h⟩ := zc_h h
      refine zP_callV (pc := 63) (As := [.int (zI 3), .int (zI v60)]) (st := []) C m1_139 dX1_noteEnd_63 (s_X8 (o_X1_line hg)) rfl (t_X8_countOften (o_X1_line hg) (zRk rfl) hv60 hc) ⟨Nat.le_of_ble_eq_true rfl, Nat.le_of_ble_eq_true rfl⟩ rfl (Nat.le_of_ble_eq_true rfl) ⟨Nat.zero_le _, Nat.zero_le _⟩ fun hw => ?_
      clear hc hw
      show zP V X 3 0 0 66 _ [] d1
      revert h
      generalize d1 = d
      intro h
      refine zP_aload_n (pc := 66) C (x := zad V (lb + 15)) dX1_noteEnd_66 rfl rfl ?_
      refine zP_getR (pc := 67) (a := lb + 15) (t := lb + 18) C g1_143 dX1_noteEnd_67 (s_X8 (o_X1_line hg)) rfl ?_
      refine zP_aload_n (pc := 70) C (x := zad V g) dX1_noteEnd_70 rfl rfl ?_
      refine zP_getI (pc := 71) (a := g) C g1_15 dX1_noteEnd_71 (s_X1 hg) rfl h fun v71 hv71 h => ?_
      refine zP_dup2 (pc := 74) C dX1_noteEnd_74 rfl rfl ?_
      refine zP_iald (pc := 75) (a := lb + 18) C dX1_noteEnd_75 (s_X8_misses (o_X1_line hg)) hv71 h fun v75 hv75 h => ?_
      refine zP_iconst (pc := 76) C dX1_noteEnd_76 ?_
      refine zP_iadd (pc := 77) C dX1_noteEnd_77 h fun v77 hv77 h => ?_
      refine zP_iast (pc := 78) (a := lb + 18) C dX1_noteEnd_78 (s_X8_misses (o_X1_line hg)) hv71 hv77 h fun d h => ?_
      refine zP_aload_n (pc := 79) C (x := zad V (lb + 15)) dX1_noteEnd_79 rfl rfl ?_
      refine zP_getR (pc := 80) (a := lb + 15) (t := lb + 18) C g1_143 dX1_noteEnd_80 (s_X8 (o_X1_line hg)) rfl ?_
      refine zP_aload_n (pc := 83) C (x := zad V g) dX1_noteEnd_83 rfl rfl ?_
      refine zP_getI (pc := 84) (a := g) C g1_15 dX1_noteEnd_84 (s_X1 hg) rfl h fun v84 hv84 h => ?_
      refine zP_iald (pc := 87) (a := lb + 18) C dX1_noteEnd_87 (s_X8_misses (o_X1_line hg)) hv84 h fun v87 hv87 h => ?_
      refine zP_aload_n (pc := 88) C (x := zad V g) dX1_noteEnd_88 rfl rfl ?_
      refine zP_getR (pc := 89) (a := g) (t := lb) C g1_21 dX1_noteEnd_89 (s_X1 hg) rfl ?_
      refine zP_getR (pc := 92) (a := lb) (t := lb + 27) C g1_34 dX1_noteEnd_92 (s_X2 (o_X1_line hg)) rfl ?_
      refine zP_iconst (pc := 95) C dX1_noteEnd_95 ?_
      refine zP_iald (pc := 96) (a := lb + 27) C dX1_noteEnd_96 (s_X2_settings (o_X1_line hg)) (zRk rfl) h fun v96 hv96 h => ?_
      refine zP_icmp_lt (pc := 97) (tgt := 124) C dX1_noteEnd_97 rfl hv87 hv96 h (fun _ h => ?_) (fun _ h => ?_)
      · exact zP_vret (pc := 124) C E dX1_noteEnd_124 h
      · refine zP_aload_n (pc := 100) C (x := zad V (lb + 15)) dX1_noteEnd_100 rfl rfl ?_
        refine zP_getR (pc := 101) (a := lb + 15) (t := lb + 17) C g1_68 dX1_noteEnd_101 (s_X8 (o_X1_line hg)) rfl ?_
        refine zP_aload_n (pc := 104) C (x := zad V g) dX1_noteEnd_104 rfl rfl ?_
        refine zP_getI (pc := 105) (a := g) C g1_15 dX1_noteEnd_105 (s_X1 hg) rfl h fun v105 hv105 h => ?_
        refine zP_iconst (pc := 108) C dX1_noteEnd_108 ?_
        refine zP_iast (pc := 109) (a := lb + 17) C dX1_noteEnd_109 (s_X8_on (o_X1_line hg)) hv105 (zRk rfl) h fun d h => ?_
        refine zP_aload_n (pc := 110) C (x := zad V g) dX1_noteEnd_110 rfl rfl ?_
        refine zP_getR (pc := 111) (a := g) (t := lb) C g1_21 dX1_noteEnd_111 (s_X1 hg) rfl ?_
        refine zP_getR (pc := 114) (a := lb) (t := lb + 28) C g1_117 dX1_noteEnd_114 (s_X2 (o_X1_line hg)) rfl ?_
        refine zP_bipush (pc := 117) C dX1_noteEnd_117 rfl ?_
        refine zP_dup2 (pc := 119) C dX1_noteEnd_119 rfl rfl ?_
        refine zP_iald (pc := 120) (a := lb + 28) C dX1_noteEnd_120 (s_X2_accounts (o_X1_line hg)) (zRk rfl) h fun v120 hv120 h => ?_
        refine zP_iconst (pc := 121) C dX1_noteEnd_121 ?_
        refine zP_iadd (pc := 122) C dX1_noteEnd_122 h fun v122 hv122 h => ?_
        refine zP_iast (pc := 123) (a := lb + 28) C dX1_noteEnd_123 (s_X2_accounts (o_X1_line hg)) (zRk rfl) hv122 h fun d h => ?_
        exact zP_vret (pc := 124) C E dX1_noteEnd_124 h
  · refine zP_aload_n (pc := 12) C (x := zad V (lb + 15)) dX1_noteEnd_12 rfl rfl ?_
    refine zP_getR (pc := 13) (a := lb + 15) (t := lb + 18) C g1_143 dX1_noteEnd_13 (s_X8 (o_X1_line hg)) rfl ?_
    refine zP_aload_n (pc := 16) C (x := zad V g) dX1_noteEnd_16 rfl rfl ?_
    refine zP_getI (pc := 17) (a := g) C g1_15 dX1_noteEnd_17 (s_X1 hg) rfl h fun v17 hv17 h => ?_
    refine zP_iconst (pc := 20) C dX1_noteEnd_20 ?_
    refine zP_iast (pc := 21) (a := lb + 18) C dX1_noteEnd_21 (s_X8_misses (o_X1_line hg)) hv17 (zRk rfl) h fun d h => ?_
    refine zP_aload_n (pc := 22) C (x := zad V (lb + 15)) dX1_noteEnd_22 rfl rfl ?_
    refine zP_getR (pc := 23) (a := lb + 15) (t := lb + 17) C g1_68 dX1_noteEnd_23 (s_X8 (o_X1_line hg)) rfl ?_
    refine zP_aload_n (pc := 26) C (x := zad V g) dX1_noteEnd_26 rfl rfl ?_
    refine zP_getI (pc := 27) (a := g) C g1_15 dX1_noteEnd_27 (s_X1 hg) rfl h fun v27 hv27 h => ?_
    refine zP_iconst (pc := 30) C dX1_noteEnd_30 ?_
    refine zP_iast (pc := 31) (a := lb + 17) C dX1_noteEnd_31 (s_X8_on (o_X1_line hg)) hv27 (zRk rfl) h fun d h => ?_
    refine zP_goto (pc := 32) (tgt := 124) C dX1_noteEnd_32 rfl ?_
    exact zP_vret (pc := 124) C E dX1_noteEnd_124 h
def l_X1_makeTurn_161F (g : Nat) (lb : Nat) (r161 : Int → Int → Int → zD → Option (Int × zD)) (x1 x2 x3 : Int) (d : zD) : Option (Int × zD) :=
  zl (d 1 0) fun v169 =>
  if (v169 : Int) ≤ x3 then (
    zl (d g 1) fun v197 =>
    zl (d g 2) fun v201 =>
    zl (d lb 9) fun v210 =>
    zc (f_X10_add lb v197 v201 x2 x1 v210 d) fun _ d =>
    some (0, d))
  else (
    zc (f_X2_deliverDue lb x3 d) fun _ d =>
    zl (zw (x3 + 1)) fun v183 =>
    r161 x1 x2 v183 d)
theorem wl_X1_makeTurn_161F {V : zW} {X : zX} {g : Nat} {lb : Nat} (hg : zo1 V g lb) (C : zOk V X cX1_makeTurn RX1 4 (zrm 4) none) {rv : Int} {dz : zD} (E : zEnd V X none (rv = 0) dz) {r161 : Int → Int → Int → zD → Option (Int × zD)} (hr161 : ∀ {x1 x2 x3 : Int} {d : zD}, zR x1 → zR x2 → zR x3 → r161 x1 x2 x3 d = some (rv, dz) → zP V X 4 0 0 161 [some (.ref (zad V g)), some (.int (zI x1)), some (.int (zI x2)), some (.int (zI x3))] [] d) {x1 x2 x3 : Int} (hx1 : zR x1) (hx2 : zR x2) (hx3 : zR x3) {d : zD} (h : l_X1_makeTurn_161F g lb r161 x1 x2 x3 d = some (rv, dz)) : zP V X 4 0 0 161 [some (.ref (zad V g)), some (.int (zI x1)), some (.int (zI x2)), some (.int (zI x3))] [] d := by
  refine zP_iload_n (pc := 161) C (x := zI x3) dX1_makeTurn_161 rfl rfl ?_
  refine zP_aload_n (pc := 162) C (x := zad V g) dX1_makeTurn_162 rfl rfl ?_
  refine zP_getR (pc := 163) (a := g) (t := lb) C g1_21 dX1_makeTurn_163 (s_X1 hg) rfl ?_
  refine zP_getR (pc := 166) (a := lb) (t := 1) C g1_52 dX1_makeTurn_166 (s_X2 (o_X1_line hg)) rfl ?_
  refine zP_getI (pc := 169) (a := 1) C g1_56 dX1_makeTurn_169 (s_X6 (o_X2_setup (o_X1_line hg))) rfl h fun v169 hv169 h => ?_
  refine zP_icmp_ge (pc := 172) (tgt := 189) C dX1_makeTurn_172 rfl hx3 hv169 h (fun _ h => ?_) (fun _ h => ?_)
  · refine zP_aload_n (pc := 189) C (x := zad V g) dX1_makeTurn_189 rfl rfl ?_
    refine zP_getR (pc := 190) (a := g) (t := lb) C g1_21 dX1_makeTurn_190 (s_X1 hg) rfl ?_
    refine zP_getR (pc := 193) (a := lb) (t := lb + 25) C g1_129 dX1_makeTurn_193 (s_X2 (o_X1_line hg)) rfl ?_
    refine zP_aload_n (pc := 196) C (x := zad V g) dX1_makeTurn_196 rfl rfl ?_
    refine zP_getI (pc := 197) (a := g) C g1_9 dX1_makeTurn_197 (s_X1 hg) rfl h fun v197 hv197 h => ?_
    refine zP_aload_n (pc := 200) C (x := zad V g) dX1_makeTurn_200 rfl rfl ?_
    refine zP_getI (pc := 201) (a := g) C g1_15 dX1_makeTurn_201 (s_X1 hg) rfl h fun v201 hv201 h => ?_
    refine zP_iload_n (pc := 204) C (x := zI x2) dX1_makeTurn_204 rfl rfl ?_
    refine zP_iload_n (pc := 205) C (x := zI x1) dX1_makeTurn_205 rfl rfl ?_
    refine zP_aload_n (pc := 206) C (x := zad V g) dX1_makeTurn_206 rfl rfl ?_
    refine zP_getR (pc := 207) (a := g) (t := lb) C g1_21 dX1_makeTurn_207 (s_X1 hg) rfl ?_
    refine zP_getI (pc := 210) (a := lb) C g1_123 dX1_makeTurn_210 (s_X2 (o_X1_line hg)) rfl h fun v210 hv210 h => ?_
    obtain ⟨_, d1, hc, h⟩ := zc_h h
    refine zP_callV (pc := 213) (As := [.int (zI v197), .int (zI v201), .int (zI x2), .int (zI x1), .int (zI v210)]) (st := []) C m1_133 dX1_makeTurn_213 (s_X10 (o_X1_line hg)) rfl (t_X10_add (o_X1_line hg) hv197 hv201 hx2 hx1 hv210 hc) ⟨Nat.le_of_ble_eq_true rfl, Nat.le_of_ble_eq_true rfl⟩ rfl (Nat.le_of_ble_eq_true rfl) ⟨Nat.zero_le _, Nat.zero_le _⟩ fun hw => ?_
    clear hc hw
    show zP V X 4 0 0 216 _ [] d1
    revert h
    generalize d1 = d
    intro h
    exact zP_vret (pc := 216) C E dX1_makeTurn_216 h
  · refine zP_aload_n (pc := 175) C (x := zad V g) dX1_makeTurn_175 rfl rfl ?_
    refine zP_getR (pc := 176) (a := g) (t := lb) C g1_21 dX1_makeTurn_176 (s_X1 hg) rfl ?_
    refine zP_iload_n (pc := 179) C (x := zI x3) dX1_makeTurn_179 rfl rfl ?_
    obtain ⟨_, d1, hc, h⟩ := zc_h h
    refine zP_callV (pc := 180) (As := [.int (zI x3)]) (st := []) C m1_126 dX1_makeTurn_180 (s_X2 (o_X1_line hg)) rfl (t_X2_deliverDue (o_X1_line hg) hx3 hc) ⟨Nat.le_of_ble_eq_true rfl, Nat.le_of_ble_eq_true rfl⟩ rfl (Nat.le_of_ble_eq_true rfl) ⟨Nat.zero_le _, Nat.zero_le _⟩ fun hw => ?_
    clear hc hw
    show zP V X 4 0 0 183 _ [] d1
    revert h
    generalize d1 = d
    intro h
    refine zP_iinc (pc := 183) C (x := x3) dX1_makeTurn_183 rfl (Nat.le_of_ble_eq_true rfl) rfl h fun v183 hv183 h => ?_
    show zP V X 4 0 0 186 [some (.ref (zad V g)), some (.int (zI x1)), some (.int (zI x2)), some (.int (zI v183))] _ _
    refine zP_goto (pc := 186) (tgt := 161) C dX1_makeTurn_186 rfl ?_
    exact zP_mask [true, true, true, true] (hr161 hx1 hx2 hv183 h)
def l_X1_makeTurn_161 (g : Nat) (lb : Nat)  : Nat → Int → Int → Int → zD → Option (Int × zD)
  | 0, _, _, _, _ => none
  | q + 1, x1, x2, x3, d => l_X1_makeTurn_161F g lb  (l_X1_makeTurn_161 g lb  q) x1 x2 x3 d
theorem wl_X1_makeTurn_161 {V : zW} {X : zX} {g : Nat} {lb : Nat} (hg : zo1 V g lb) (C : zOk V X cX1_makeTurn RX1 4 (zrm 4) none) {rv : Int} {dz : zD} (E : zEnd V X none (rv = 0) dz)  : ∀ (q : Nat) {x1 x2 x3 : Int} (hx1 : zR x1) (hx2 : zR x2) (hx3 : zR x3) {d : zD} (h : l_X1_makeTurn_161 g lb  q x1 x2 x3 d = some (rv, dz)), zP V X 4 0 0 161 [some (.ref (zad V g)), some (.int (zI x1)), some (.int (zI x2)), some (.int (zI x3))] [] d := by
  intro q
  induction q with
  | zero => intro x1 x2 x3 hx1 hx2 hx3 d h; cases (show (none : Option (Int × zD)) = some (rv, dz) from h)
  | succ q ih =>
    intro x1 x2 x3 hx1 hx2 hx3 d h
    exact wl_X1_makeTurn_161F hg C E  (fun  hx1 hx2 hx3 h => ih hx1 hx2 hx3 h) hx1 hx2 hx3 h
def j_X1_makeTurn_124 (g : Nat) (lb : Nat)  (x1 x2 : Int) (d : zD) : Option (Int × zD) :=
  zc (f_X1_noteEnd g lb x2 d) fun _ d =>
  l_X1_makeTurn_161 g lb  zF x1 x2 0 d
theorem wj_X1_makeTurn_124 {V : zW} {X : zX} {g : Nat} {lb : Nat} (hg : zo1 V g lb) (C : zOk V X cX1_makeTurn RX1 4 (zrm 4) none) {rv : Int} {dz : zD} (E : zEnd V X none (rv = 0) dz)  {x1 x2 : Int} (hx1 : zR x1) (hx2 : zR x2) {d : zD} (h : j_X1_makeTurn_124 g lb  x1 x2 d = some (rv, dz)) : zP V X 4 0 0 124 [some (.ref (zad V g)), some (.int (zI x1)), some (.int (zI x2)), none] [] d := by
  refine zP_aload_n (pc := 124) C (x := zad V g) dX1_makeTurn_124 rfl rfl ?_
  refine zP_iload_n (pc := 125) C (x := zI x2) dX1_makeTurn_125 rfl rfl ?_
  obtain ⟨_, d1, hc, h⟩ := zc_h h
  refine zP_callV (pc := 126) (As := [.int (zI x2)]) (st := []) C m1_120 dX1_makeTurn_126 (s_X1 hg) rfl (t_X1_noteEnd hg hx2 hc) ⟨Nat.le_of_ble_eq_true rfl, Nat.le_of_ble_eq_true rfl⟩ rfl (Nat.le_of_ble_eq_true rfl) ⟨Nat.zero_le _, Nat.zero_le _⟩ fun hw => ?_
  clear hc hw
  show zP V X 4 0 0 129 _ [] d1
  revert h
  generalize d1 = d
  intro h
  refine zP_goto (pc := 129) (tgt := 159) C dX1_makeTurn_129 rfl ?_
  refine zP_iconst (pc := 159) C dX1_makeTurn_159 ?_
  refine zP_istore_n (pc := 160) C (L' := [some (.ref (zad V g)), some (.int (zI x1)), some (.int (zI x2)), some (.int (zI 0))]) dX1_makeTurn_160 rfl (Nat.le_of_ble_eq_true rfl) rfl rfl ?_
  exact zP_mask [true, true, true, true] (wl_X1_makeTurn_161 hg C E  zF hx1 hx2 (zRk rfl) h)
def j_X1_makeTurn_102 (g : Nat) (lb : Nat) (r71 : Int → Int → Int → zD → Option (Int × zD)) (x1 x3 s0 : Int) (d : zD) : Option (Int × zD) :=
  if (s0 : Int) = 0 then (
    zg 13 7 <| zl (d (lb + 28) (7 : Int).toNat) fun v117 =>
    zl (zw (v117 + 1)) fun v119 =>
    zg 13 7 <| zl (zu d (lb + 28) (7 : Int).toNat v119) fun d =>
    r71 x1 s0 x3 d)
  else (
    r71 x1 s0 x3 d)
theorem wj_X1_makeTurn_102 {V : zW} {X : zX} {g : Nat} {lb : Nat} (hg : zo1 V g lb) (C : zOk V X cX1_makeTurn RX1 4 (zrm 4) none) {rv : Int} {dz : zD} (E : zEnd V X none (rv = 0) dz) {r71 : Int → Int → Int → zD → Option (Int × zD)} (hr71 : ∀ {x1 x2 x3 : Int} {d : zD}, zR x1 → zR x2 → zR x3 → r71 x1 x2 x3 d = some (rv, dz) → zP V X 4 0 0 71 [some (.ref (zad V g)), some (.int (zI x1)), some (.int (zI x2)), some (.int (zI x3))] [] d) {x1 x3 s0 : Int} (hx1 : zR x1) (hx3 : zR x3) (hs0 : zR s0) {d : zD} (h : j_X1_makeTurn_102 g lb r71 x1 x3 s0 d = some (rv, dz)) : zP V X 4 0 0 102 [some (.ref (zad V g)), some (.int (zI x1)), none, some (.int (zI x3))] [.int (zI s0)] d := by
  refine zP_istore_n (pc := 102) C (L' := [some (.ref (zad V g)), some (.int (zI x1)), some (.int (zI s0)), some (.int (zI x3))]) dX1_makeTurn_102 rfl (Nat.le_of_ble_eq_true rfl) rfl rfl ?_
  refine zP_iload_n (pc := 103) C (x := zI s0) dX1_makeTurn_103 rfl rfl ?_
  refine zP_if_ne (pc := 104) (tgt := 71) C dX1_makeTurn_104 rfl hs0 h (fun _ h => ?_) (fun _ h => ?_)
  · exact zP_mask [true, true, true, true] (hr71 hx1 hs0 hx3 h)
  · refine zP_aload_n (pc := 107) C (x := zad V g) dX1_makeTurn_107 rfl rfl ?_
    refine zP_getR (pc := 108) (a := g) (t := lb) C g1_21 dX1_makeTurn_108 (s_X1 hg) rfl ?_
    refine zP_getR (pc := 111) (a := lb) (t := lb + 28) C g1_117 dX1_makeTurn_111 (s_X2 (o_X1_line hg)) rfl ?_
    refine zP_bipush (pc := 114) C dX1_makeTurn_114 rfl ?_
    refine zP_dup2 (pc := 116) C dX1_makeTurn_116 rfl rfl ?_
    refine zP_iald (pc := 117) (a := lb + 28) C dX1_makeTurn_117 (s_X2_accounts (o_X1_line hg)) (zRk rfl) h fun v117 hv117 h => ?_
    refine zP_iconst (pc := 118) C dX1_makeTurn_118 ?_
    refine zP_iadd (pc := 119) C dX1_makeTurn_119 h fun v119 hv119 h => ?_
    refine zP_iast (pc := 120) (a := lb + 28) C dX1_makeTurn_120 (s_X2_accounts (o_X1_line hg)) (zRk rfl) hv119 h fun d h => ?_
    refine zP_goto (pc := 121) (tgt := 71) C dX1_makeTurn_121 rfl ?_
    exact zP_mask [true, true, true, true] (hr71 hx1 hs0 hx3 h)
def l_X1_makeTurn_71F (g : Nat) (lb : Nat) (r71 : Int → Int → Int → zD → Option (Int × zD)) (x1 x2 x3 : Int) (d : zD) : Option (Int × zD) :=
  if (x3 : Int) ≤ x1 then (
    j_X1_makeTurn_124 g lb  x1 x2 d)
  else (
    if (x2 : Int) = 0 then (
      zl (zw (x1 + 1)) fun v80 =>
      zl (d g 1) fun v84 =>
      if (v84 : Int) = 1 then (
        zc (f_X1_trySelect g lb  d) fun v92 d =>
        j_X1_makeTurn_102 g lb r71 v80 x3 v92 d)
      else (
        zc (f_X1_tryPoll g lb  d) fun v99 d =>
        j_X1_makeTurn_102 g lb r71 v80 x3 v99 d))
    else (
      j_X1_makeTurn_124 g lb  x1 x2 d))
theorem wl_X1_makeTurn_71F {V : zW} {X : zX} {g : Nat} {lb : Nat} (hg : zo1 V g lb) (C : zOk V X cX1_makeTurn RX1 4 (zrm 4) none) {rv : Int} {dz : zD} (E : zEnd V X none (rv = 0) dz) {r71 : Int → Int → Int → zD → Option (Int × zD)} (hr71 : ∀ {x1 x2 x3 : Int} {d : zD}, zR x1 → zR x2 → zR x3 → r71 x1 x2 x3 d = some (rv, dz) → zP V X 4 0 0 71 [some (.ref (zad V g)), some (.int (zI x1)), some (.int (zI x2)), some (.int (zI x3))] [] d) {x1 x2 x3 : Int} (hx1 : zR x1) (hx2 : zR x2) (hx3 : zR x3) {d : zD} (h : l_X1_makeTurn_71F g lb r71 x1 x2 x3 d = some (rv, dz)) : zP V X 4 0 0 71 [some (.ref (zad V g)), some (.int (zI x1)), some (.int (zI x2)), some (.int (zI x3))] [] d := by
  refine zP_iload_n (pc := 71) C (x := zI x1) dX1_makeTurn_71 rfl rfl ?_
  refine zP_iload_n (pc := 72) C (x := zI x3) dX1_makeTurn_72 rfl rfl ?_
  refine zP_icmp_ge (pc := 73) (tgt := 124) C dX1_makeTurn_73 rfl hx1 hx3 h (fun _ h => ?_) (fun _ h => ?_)
  · exact zP_mask [true, true, true, false] (wj_X1_makeTurn_124 hg C E  hx1 hx2 h)
  · refine zP_iload_n (pc := 76) C (x := zI x2) dX1_makeTurn_76 rfl rfl ?_
    refine zP_if_ne (pc := 77) (tgt := 124) C dX1_makeTurn_77 rfl hx2 h (fun _ h => ?_) (fun _ h => ?_)
    · exact zP_mask [true, true, true, false] (wj_X1_makeTurn_124 hg C E  hx1 hx2 h)
    · refine zP_iinc (pc := 80) C (x := x1) dX1_makeTurn_80 rfl (Nat.le_of_ble_eq_true rfl) rfl h fun v80 hv80 h => ?_
      show zP V X 4 0 0 83 [some (.ref (zad V g)), some (.int (zI v80)), some (.int (zI x2)), some (.int (zI x3))] _ _
      refine zP_aload_n (pc := 83) C (x := zad V g) dX1_makeTurn_83 rfl rfl ?_
      refine zP_getI (pc := 84) (a := g) C g1_9 dX1_makeTurn_84 (s_X1 hg) rfl h fun v84 hv84 h => ?_
      refine zP_iconst (pc := 87) C dX1_makeTurn_87 ?_
      refine zP_icmp_ne (pc := 88) (tgt := 98) C dX1_makeTurn_88 rfl hv84 (zRk rfl) h (fun _ h => ?_) (fun _ h => ?_)
      · refine zP_aload_n (pc := 98) C (x := zad V g) dX1_makeTurn_98 rfl rfl ?_
        obtain ⟨v99, d1, hc, h⟩ := zc_h h
        refine zP_callV (pc := 99) (As := []) (st := []) C m1_114 dX1_makeTurn_99 (s_X1 hg) rfl (t_X1_tryPoll hg  hc) ⟨Nat.le_of_ble_eq_true rfl, Nat.le_of_ble_eq_true rfl⟩ rfl (Nat.le_of_ble_eq_true rfl) ⟨Nat.zero_le _, Nat.zero_le _⟩ fun hw => ?_
        have hv99 := hw
        clear hc hw
        show zP V X 4 0 0 102 _ [.int (zI v99)] d1
        revert h
        generalize d1 = d
        intro h
        exact zP_mask [true, true, false, true] (wj_X1_makeTurn_102 hg C E hr71 hv80 hx3 hv99 h)
      · refine zP_aload_n (pc := 91) C (x := zad V g) dX1_makeTurn_91 rfl rfl ?_
        obtain ⟨v92, d1, hc, h⟩ := zc_h h
        refine zP_callV (pc := 92) (As := []) (st := []) C m1_111 dX1_makeTurn_92 (s_X1 hg) rfl (t_X1_trySelect hg  hc) ⟨Nat.le_of_ble_eq_true rfl, Nat.le_of_ble_eq_true rfl⟩ rfl (Nat.le_of_ble_eq_true rfl) ⟨Nat.zero_le _, Nat.zero_le _⟩ fun hw => ?_
        have hv92 := hw
        clear hc hw
        show zP V X 4 0 0 95 _ [.int (zI v92)] d1
        revert h
        generalize d1 = d
        intro h
        refine zP_goto (pc := 95) (tgt := 102) C dX1_makeTurn_95 rfl ?_
        exact zP_mask [true, true, false, true] (wj_X1_makeTurn_102 hg C E hr71 hv80 hx3 hv92 h)
def l_X1_makeTurn_71 (g : Nat) (lb : Nat)  : Nat → Int → Int → Int → zD → Option (Int × zD)
  | 0, _, _, _, _ => none
  | q + 1, x1, x2, x3, d => l_X1_makeTurn_71F g lb  (l_X1_makeTurn_71 g lb  q) x1 x2 x3 d
theorem wl_X1_makeTurn_71 {V : zW} {X : zX} {g : Nat} {lb : Nat} (hg : zo1 V g lb) (C : zOk V X cX1_makeTurn RX1 4 (zrm 4) none) {rv : Int} {dz : zD} (E : zEnd V X none (rv = 0) dz)  : ∀ (q : Nat) {x1 x2 x3 : Int} (hx1 : zR x1) (hx2 : zR x2) (hx3 : zR x3) {d : zD} (h : l_X1_makeTurn_71 g lb  q x1 x2 x3 d = some (rv, dz)), zP V X 4 0 0 71 [some (.ref (zad V g)), some (.int (zI x1)), some (.int (zI x2)), some (.int (zI x3))] [] d := by
  intro q
  induction q with
  | zero => intro x1 x2 x3 hx1 hx2 hx3 d h; cases (show (none : Option (Int × zD)) = some (rv, dz) from h)
  | succ q ih =>
    intro x1 x2 x3 hx1 hx2 hx3 d h
    exact wl_X1_makeTurn_71F hg C E  (fun  hx1 hx2 hx3 h => ih hx1 hx2 hx3 h) hx1 hx2 hx3 h
def f_X1_makeTurn (g : Nat) (lb : Nat) (d : zD) : Option (Int × zD) :=
  zl (d lb 10) fun v5 =>
  zl (zw (v5 + 1)) fun v9 =>
  zl (zu d lb 10 v9) fun d =>
  zl (d lb 10) fun v18 =>
  zc (f_X1_choose g lb v18 d) fun _ d =>
  zl (d g 2) fun v36 =>
  zc (f_X6_has 1 v36 d) fun v39 d =>
  if (v39 : Int) = 0 then (
    zl (d lb 9) fun v137 =>
    zl (zw (v137 + 1)) fun v141 =>
    zl (zu d lb 9 v141) fun d =>
    zg 13 12 <| zl (d (lb + 28) (12 : Int).toNat) fun v155 =>
    zl (zw (v155 + 1)) fun v157 =>
    zg 13 12 <| zl (zu d (lb + 28) (12 : Int).toNat v157) fun d =>
    l_X1_makeTurn_161 g lb  zF 0 0 0 d)
  else (
    zc (f_X1_noteBeginning g lb  d) fun _ d =>
    zl (d g 1) fun v50 =>
    if (v50 : Int) = 2 then (
      l_X1_makeTurn_71 g lb  zF 0 0 1 d)
    else (
      zg 6 1 <| zl (d (lb + 27) (1 : Int).toNat) fun v69 =>
      l_X1_makeTurn_71 g lb  zF 0 0 v69 d))
theorem t_X1_makeTurn {V : zW} {g : Nat} {lb : Nat} (hg : zo1 V g lb)   {d dz : zD} {rv : Int} (h : f_X1_makeTurn g lb  d = some (rv, dz)) : zMet V 4 yX1_makeTurn cX1_makeTurn 4 none [.ref (zad V g)] d none (rv = 0) dz := by
  refine zMet_by RX1 pn1 rfl (Nat.le_of_ble_eq_true rfl) [some (.ref (zad V g)), none, none, none] rfl fun X C E => ?_
  refine zP_aload_n (pc := 0) C (x := zad V g) dX1_makeTurn_0 rfl rfl ?_
  refine zP_getR (pc := 1) (a := g) (t := lb) C g1_21 dX1_makeTurn_1 (s_X1 hg) rfl ?_
  refine zP_dup (pc := 4) C dX1_makeTurn_4 rfl ?_
  refine zP_getI (pc := 5) (a := lb) C g1_98 dX1_makeTurn_5 (s_X2 (o_X1_line hg)) rfl h fun v5 hv5 h => ?_
  refine zP_iconst (pc := 8) C dX1_makeTurn_8 ?_
  refine zP_iadd (pc := 9) C dX1_makeTurn_9 h fun v9 hv9 h => ?_
  refine zP_putI (pc := 10) (a := lb) C p1_98 dX1_makeTurn_10 (s_X2 (o_X1_line hg)) rfl hv9 h fun d h => ?_
  refine zP_aload_n (pc := 13) C (x := zad V g) dX1_makeTurn_13 rfl rfl ?_
  refine zP_aload_n (pc := 14) C (x := zad V g) dX1_makeTurn_14 rfl rfl ?_
  refine zP_getR (pc := 15) (a := g) (t := lb) C g1_21 dX1_makeTurn_15 (s_X1 hg) rfl ?_
  refine zP_getI (pc := 18) (a := lb) C g1_98 dX1_makeTurn_18 (s_X2 (o_X1_line hg)) rfl h fun v18 hv18 h => ?_
  obtain ⟨_, d1, hc, h⟩ := zc_h h
  refine zP_callV (pc := 21) (As := [.int (zI v18)]) (st := []) C m1_101 dX1_makeTurn_21 (s_X1 hg) rfl (t_X1_choose hg hv18 hc) ⟨Nat.le_of_ble_eq_true rfl, Nat.le_of_ble_eq_true rfl⟩ rfl (Nat.le_of_ble_eq_true rfl) ⟨Nat.zero_le _, Nat.zero_le _⟩ fun hw => ?_
  clear hc hw
  show zP V X 4 0 0 24 _ [] d1
  revert h
  generalize d1 = d
  intro h
  refine zP_iconst (pc := 24) C dX1_makeTurn_24 ?_
  refine zP_istore_n (pc := 25) C (L' := [some (.ref (zad V g)), some (.int (zI 0)), none, none]) dX1_makeTurn_25 rfl (Nat.le_of_ble_eq_true rfl) rfl rfl ?_
  refine zP_iconst (pc := 26) C dX1_makeTurn_26 ?_
  refine zP_istore_n (pc := 27) C (L' := [some (.ref (zad V g)), some (.int (zI 0)), some (.int (zI 0)), none]) dX1_makeTurn_27 rfl (Nat.le_of_ble_eq_true rfl) rfl rfl ?_
  refine zP_aload_n (pc := 28) C (x := zad V g) dX1_makeTurn_28 rfl rfl ?_
  refine zP_getR (pc := 29) (a := g) (t := lb) C g1_21 dX1_makeTurn_29 (s_X1 hg) rfl ?_
  refine zP_getR (pc := 32) (a := lb) (t := 1) C g1_52 dX1_makeTurn_32 (s_X2 (o_X1_line hg)) rfl ?_
  refine zP_aload_n (pc := 35) C (x := zad V g) dX1_makeTurn_35 rfl rfl ?_
  refine zP_getI (pc := 36) (a := g) C g1_15 dX1_makeTurn_36 (s_X1 hg) rfl h fun v36 hv36 h => ?_
  obtain ⟨v39, d1, hc, h⟩ := zc_h h
  refine zP_callV (pc := 39) (As := [.int (zI v36)]) (st := []) C m1_105 dX1_makeTurn_39 (s_X6 (o_X2_setup (o_X1_line hg))) rfl (t_X6_has (o_X2_setup (o_X1_line hg)) hv36 hc) ⟨Nat.le_of_ble_eq_true rfl, Nat.le_of_ble_eq_true rfl⟩ rfl (Nat.le_of_ble_eq_true rfl) ⟨Nat.zero_le _, Nat.zero_le _⟩ fun hw => ?_
  have hbv39 := hw
  have hv39 := z01 hw
  clear hc hw
  show zP V X 4 0 0 42 _ [.int (zI v39)] d1
  revert h
  generalize d1 = d
  intro h
  refine zP_if_eq (pc := 42) (tgt := 132) C dX1_makeTurn_42 rfl hv39 h (fun _ h => ?_) (fun _ h => ?_)
  · refine zP_aload_n (pc := 132) C (x := zad V g) dX1_makeTurn_132 rfl rfl ?_
    refine zP_getR (pc := 133) (a := g) (t := lb) C g1_21 dX1_makeTurn_133 (s_X1 hg) rfl ?_
    refine zP_dup (pc := 136) C dX1_makeTurn_136 rfl ?_
    refine zP_getI (pc := 137) (a := lb) C g1_123 dX1_makeTurn_137 (s_X2 (o_X1_line hg)) rfl h fun v137 hv137 h => ?_
    refine zP_iconst (pc := 140) C dX1_makeTurn_140 ?_
    refine zP_iadd (pc := 141) C dX1_makeTurn_141 h fun v141 hv141 h => ?_
    refine zP_putI (pc := 142) (a := lb) C p1_123 dX1_makeTurn_142 (s_X2 (o_X1_line hg)) rfl hv141 h fun d h => ?_
    refine zP_aload_n (pc := 145) C (x := zad V g) dX1_makeTurn_145 rfl rfl ?_
    refine zP_getR (pc := 146) (a := g) (t := lb) C g1_21 dX1_makeTurn_146 (s_X1 hg) rfl ?_
    refine zP_getR (pc := 149) (a := lb) (t := lb + 28) C g1_117 dX1_makeTurn_149 (s_X2 (o_X1_line hg)) rfl ?_
    refine zP_bipush (pc := 152) C dX1_makeTurn_152 rfl ?_
    refine zP_dup2 (pc := 154) C dX1_makeTurn_154 rfl rfl ?_
    refine zP_iald (pc := 155) (a := lb + 28) C dX1_makeTurn_155 (s_X2_accounts (o_X1_line hg)) (zRk rfl) h fun v155 hv155 h => ?_
    refine zP_iconst (pc := 156) C dX1_makeTurn_156 ?_
    refine zP_iadd (pc := 157) C dX1_makeTurn_157 h fun v157 hv157 h => ?_
    refine zP_iast (pc := 158) (a := lb + 28) C dX1_makeTurn_158 (s_X2_accounts (o_X1_line hg)) (zRk rfl) hv157 h fun d h => ?_
    refine zP_iconst (pc := 159) C dX1_makeTurn_159 ?_
    refine zP_istore_n (pc := 160) C (L' := [some (.ref (zad V g)), some (.int (zI 0)), some (.int (zI 0)), some (.int (zI 0))]) dX1_makeTurn_160 rfl (Nat.le_of_ble_eq_true rfl) rfl rfl ?_
    exact zP_mask [true, true, true, true] (wl_X1_makeTurn_161 hg C E  zF (zRk rfl) (zRk rfl) (zRk rfl) h)
  · refine zP_aload_n (pc := 45) C (x := zad V g) dX1_makeTurn_45 rfl rfl ?_
    obtain ⟨_, d1, hc, h⟩ := zc_h h
    refine zP_callV (pc := 46) (As := []) (st := []) C m1_108 dX1_makeTurn_46 (s_X1 hg) rfl (t_X1_noteBeginning hg  hc) ⟨Nat.le_of_ble_eq_true rfl, Nat.le_of_ble_eq_true rfl⟩ rfl (Nat.le_of_ble_eq_true rfl) ⟨Nat.zero_le _, Nat.zero_le _⟩ fun hw => ?_
    clear hc hw
    show zP V X 4 0 0 49 _ [] d1
    revert h
    generalize d1 = d
    intro h
    refine zP_aload_n (pc := 49) C (x := zad V g) dX1_makeTurn_49 rfl rfl ?_
    refine zP_getI (pc := 50) (a := g) C g1_9 dX1_makeTurn_50 (s_X1 hg) rfl h fun v50 hv50 h => ?_
    refine zP_iconst (pc := 53) C dX1_makeTurn_53 ?_
    refine zP_icmp_ne (pc := 54) (tgt := 61) C dX1_makeTurn_54 rfl hv50 (zRk rfl) h (fun _ h => ?_) (fun _ h => ?_)
    · refine zP_aload_n (pc := 61) C (x := zad V g) dX1_makeTurn_61 rfl rfl ?_
      refine zP_getR (pc := 62) (a := g) (t := lb) C g1_21 dX1_makeTurn_62 (s_X1 hg) rfl ?_
      refine zP_getR (pc := 65) (a := lb) (t := lb + 27) C g1_34 dX1_makeTurn_65 (s_X2 (o_X1_line hg)) rfl ?_
      refine zP_iconst (pc := 68) C dX1_makeTurn_68 ?_
      refine zP_iald (pc := 69) (a := lb + 27) C dX1_makeTurn_69 (s_X2_settings (o_X1_line hg)) (zRk rfl) h fun v69 hv69 h => ?_
      refine zP_istore_n (pc := 70) C (L' := [some (.ref (zad V g)), some (.int (zI 0)), some (.int (zI 0)), some (.int (zI v69))]) dX1_makeTurn_70 rfl (Nat.le_of_ble_eq_true rfl) rfl rfl ?_
      exact zP_mask [true, true, true, true] (wl_X1_makeTurn_71 hg C E  zF (zRk rfl) (zRk rfl) hv69 h)
    · refine zP_iconst (pc := 57) C dX1_makeTurn_57 ?_
      refine zP_goto (pc := 58) (tgt := 70) C dX1_makeTurn_58 rfl ?_
      refine zP_istore_n (pc := 70) C (L' := [some (.ref (zad V g)), some (.int (zI 0)), some (.int (zI 0)), some (.int (zI 1))]) dX1_makeTurn_70 rfl (Nat.le_of_ble_eq_true rfl) rfl rfl ?_
      exact zP_mask [true, true, true, true] (wl_X1_makeTurn_71 hg C E  zF (zRk rfl) (zRk rfl) (zRk rfl) h)
def l_X1_makeTurns_2F (g : Nat) (lb : Nat) (r2 : Int → Int → zD → Option (Int × zD)) (x1 x2 : Int) (d : zD) : Option (Int × zD) :=
  if (x1 : Int) ≤ x2 then (
    some (0, d))
  else (
    zc (f_X1_makeTurn g lb  d) fun _ d =>
    zl (zw (x2 + 1)) fun v11 =>
    r2 x1 v11 d)
theorem wl_X1_makeTurns_2F {V : zW} {X : zX} {g : Nat} {lb : Nat} (hg : zo1 V g lb) (C : zOk V X cX1_makeTurns RX1 3 (zrm 5) none) {rv : Int} {dz : zD} (E : zEnd V X none (rv = 0) dz) {r2 : Int → Int → zD → Option (Int × zD)} (hr2 : ∀ {x1 x2 : Int} {d : zD}, zR x1 → zR x2 → r2 x1 x2 d = some (rv, dz) → zP V X 3 0 0 2 [some (.ref (zad V g)), some (.int (zI x1)), some (.int (zI x2))] [] d) {x1 x2 : Int} (hx1 : zR x1) (hx2 : zR x2) {d : zD} (h : l_X1_makeTurns_2F g lb r2 x1 x2 d = some (rv, dz)) : zP V X 3 0 0 2 [some (.ref (zad V g)), some (.int (zI x1)), some (.int (zI x2))] [] d := by
  refine zP_iload_n (pc := 2) C (x := zI x2) dX1_makeTurns_2 rfl rfl ?_
  refine zP_iload_n (pc := 3) C (x := zI x1) dX1_makeTurns_3 rfl rfl ?_
  refine zP_icmp_ge (pc := 4) (tgt := 17) C dX1_makeTurns_4 rfl hx2 hx1 h (fun _ h => ?_) (fun _ h => ?_)
  · exact zP_vret (pc := 17) C E dX1_makeTurns_17 h
  · refine zP_aload_n (pc := 7) C (x := zad V g) dX1_makeTurns_7 rfl rfl ?_
    obtain ⟨_, d1, hc, h⟩ := zc_h h
    refine zP_callV (pc := 8) (As := []) (st := []) C m1_95 dX1_makeTurns_8 (s_X1 hg) rfl (t_X1_makeTurn hg  hc) ⟨Nat.le_of_ble_eq_true rfl, Nat.le_of_ble_eq_true rfl⟩ rfl (Nat.le_of_ble_eq_true rfl) ⟨Nat.zero_le _, Nat.zero_le _⟩ fun hw => ?_
    clear hc hw
    show zP V X 3 0 0 11 _ [] d1
    revert h
    generalize d1 = d
    intro h
    refine zP_iinc (pc := 11) C (x := x2) dX1_makeTurns_11 rfl (Nat.le_of_ble_eq_true rfl) rfl h fun v11 hv11 h => ?_
    show zP V X 3 0 0 14 [some (.ref (zad V g)), some (.int (zI x1)), some (.int (zI v11))] _ _
    refine zP_goto (pc := 14) (tgt := 2) C dX1_makeTurns_14 rfl ?_
    exact zP_mask [true, true, true] (hr2 hx1 hv11 h)
def l_X1_makeTurns_2 (g : Nat) (lb : Nat)  : Nat → Int → Int → zD → Option (Int × zD)
  | 0, _, _, _ => none
  | q + 1, x1, x2, d => l_X1_makeTurns_2F g lb  (l_X1_makeTurns_2 g lb  q) x1 x2 d
theorem wl_X1_makeTurns_2 {V : zW} {X : zX} {g : Nat} {lb : Nat} (hg : zo1 V g lb) (C : zOk V X cX1_makeTurns RX1 3 (zrm 5) none) {rv : Int} {dz : zD} (E : zEnd V X none (rv = 0) dz)  : ∀ (q : Nat) {x1 x2 : Int} (hx1 : zR x1) (hx2 : zR x2) {d : zD} (h : l_X1_makeTurns_2 g lb  q x1 x2 d = some (rv, dz)), zP V X 3 0 0 2 [some (.ref (zad V g)), some (.int (zI x1)), some (.int (zI x2))] [] d := by
  intro q
  induction q with
  | zero => intro x1 x2 hx1 hx2 d h; cases (show (none : Option (Int × zD)) = some (rv, dz) from h)
  | succ q ih =>
    intro x1 x2 hx1 hx2 d h
    exact wl_X1_makeTurns_2F hg C E  (fun  hx1 hx2 h => ih hx1 hx2 h) hx1 hx2 h
def f_X1_makeTurns (g : Nat) (lb : Nat) (x1 : Int) (d : zD) : Option (Int × zD) :=
  l_X1_makeTurns_2 g lb  zF x1 0 d
theorem t_X1_makeTurns {V : zW} {g : Nat} {lb : Nat} (hg : zo1 V g lb) {x1 : Int} (hx1 : zR x1) {d dz : zD} {rv : Int} (h : f_X1_makeTurns g lb x1 d = some (rv, dz)) : zMet V 5 yX1_makeTurns cX1_makeTurns 3 none [.ref (zad V g), .int (zI x1)] d none (rv = 0) dz := by
  refine zMet_by RX1 pn1 rfl (Nat.le_of_ble_eq_true rfl) [some (.ref (zad V g)), some (.int (zI x1)), none] rfl fun X C E => ?_
  refine zP_iconst (pc := 0) C dX1_makeTurns_0 ?_
  refine zP_istore_n (pc := 1) C (L' := [some (.ref (zad V g)), some (.int (zI x1)), some (.int (zI 0))]) dX1_makeTurns_1 rfl (Nat.le_of_ble_eq_true rfl) rfl rfl ?_
  exact zP_mask [true, true, true] (wl_X1_makeTurns_2 hg C E  zF hx1 (zRk rfl) h)
def f_X2_appendPlace (b : Nat) (x1 : Int) (d : zD) : Option (Int × zD) :=
  zl (d b 8) fun v1 =>
  if (16 : Int) ≤ v1 then (
    some (0, d))
  else (
    zl (d b 8) fun v14 =>
    zg 16 v14 <| zl (zu d (b + 29) (v14 : Int).toNat x1) fun d =>
    zl (d b 8) fun v21 =>
    zl (zw (v21 + 1)) fun v25 =>
    zl (zu d b 8 v25) fun d =>
    some (0, d))
theorem t_X2_appendPlace {V : zW} {b : Nat} (hb : zo2 V b) {x1 : Int} (hx1 : zR x1) {d dz : zD} {rv : Int} (h : f_X2_appendPlace b x1 d = some (rv, dz)) : zMet V 0 yX2_appendPlace cX2_appendPlace 2 none [.ref (zad V b), .int (zI x1)] d none (rv = 0) dz := by
  refine zMet_by RX2 pn2 rfl (Nat.le_of_ble_eq_true rfl) [some (.ref (zad V b)), some (.int (zI x1))] rfl fun X C E => ?_
  refine zP_aload_n (pc := 0) C (x := zad V b) dX2_appendPlace_0 rfl rfl ?_
  refine zP_getI (pc := 1) (a := b) C g2_49 dX2_appendPlace_1 (s_X2 hb) rfl h fun v1 hv1 h => ?_
  refine zP_bipush (pc := 4) C dX2_appendPlace_4 rfl ?_
  refine zP_icmp_ge (pc := 6) (tgt := 29) C dX2_appendPlace_6 rfl hv1 (zRk rfl) h (fun _ h => ?_) (fun _ h => ?_)
  · exact zP_vret (pc := 29) C E dX2_appendPlace_29 h
  · refine zP_aload_n (pc := 9) C (x := zad V b) dX2_appendPlace_9 rfl rfl ?_
    refine zP_getR (pc := 10) (a := b) (t := b + 29) C g2_46 dX2_appendPlace_10 (s_X2 hb) rfl ?_
    refine zP_aload_n (pc := 13) C (x := zad V b) dX2_appendPlace_13 rfl rfl ?_
    refine zP_getI (pc := 14) (a := b) C g2_49 dX2_appendPlace_14 (s_X2 hb) rfl h fun v14 hv14 h => ?_
    refine zP_iload_n (pc := 17) C (x := zI x1) dX2_appendPlace_17 rfl rfl ?_
    refine zP_iast (pc := 18) (a := b + 29) C dX2_appendPlace_18 (s_X2_list hb) hv14 hx1 h fun d h => ?_
    refine zP_aload_n (pc := 19) C (x := zad V b) dX2_appendPlace_19 rfl rfl ?_
    refine zP_dup (pc := 20) C dX2_appendPlace_20 rfl ?_
    refine zP_getI (pc := 21) (a := b) C g2_49 dX2_appendPlace_21 (s_X2 hb) rfl h fun v21 hv21 h => ?_
    refine zP_iconst (pc := 24) C dX2_appendPlace_24 ?_
    refine zP_iadd (pc := 25) C dX2_appendPlace_25 h fun v25 hv25 h => ?_
    refine zP_putI (pc := 26) (a := b) C p2_49 dX2_appendPlace_26 (s_X2 hb) rfl hv25 h fun d h => ?_
    exact zP_vret (pc := 29) C E dX2_appendPlace_29 h
def l_X2_removePlace_20F (b : Nat) (r20 : Int → zD → Option (Int × zD)) (x2 : Int) (d : zD) : Option (Int × zD) :=
  zl (d b 8) fun v22 =>
  if (v22 : Int) ≤ x2 then (
    some (0, d))
  else (
    zl (zw (x2 + 1)) fun v39 =>
    zg 16 v39 <| zl (d (b + 29) (v39 : Int).toNat) fun v40 =>
    zg 16 x2 <| zl (zu d (b + 29) (x2 : Int).toNat v40) fun d =>
    zl (zw (x2 + 1)) fun v42 =>
    r20 v42 d)
theorem wl_X2_removePlace_20F {V : zW} {X : zX} {b : Nat} (hb : zo2 V b) (C : zOk V X cX2_removePlace RX2 3 (zrm 1) none) {rv : Int} {dz : zD} (E : zEnd V X none (rv = 0) dz) {r20 : Int → zD → Option (Int × zD)} (hr20 : ∀ {x2 : Int} {d : zD}, zR x2 → r20 x2 d = some (rv, dz) → zP V X 3 0 0 20 [some (.ref (zad V b)), none, some (.int (zI x2))] [] d) {x2 : Int} (hx2 : zR x2) {d : zD} (h : l_X2_removePlace_20F b r20 x2 d = some (rv, dz)) : zP V X 3 0 0 20 [some (.ref (zad V b)), none, some (.int (zI x2))] [] d := by
  refine zP_iload_n (pc := 20) C (x := zI x2) dX2_removePlace_20 rfl rfl ?_
  refine zP_aload_n (pc := 21) C (x := zad V b) dX2_removePlace_21 rfl rfl ?_
  refine zP_getI (pc := 22) (a := b) C g2_49 dX2_removePlace_22 (s_X2 hb) rfl h fun v22 hv22 h => ?_
  refine zP_icmp_ge (pc := 25) (tgt := 48) C dX2_removePlace_25 rfl hx2 hv22 h (fun _ h => ?_) (fun _ h => ?_)
  · exact zP_vret (pc := 48) C E dX2_removePlace_48 h
  · refine zP_aload_n (pc := 28) C (x := zad V b) dX2_removePlace_28 rfl rfl ?_
    refine zP_getR (pc := 29) (a := b) (t := b + 29) C g2_46 dX2_removePlace_29 (s_X2 hb) rfl ?_
    refine zP_iload_n (pc := 32) C (x := zI x2) dX2_removePlace_32 rfl rfl ?_
    refine zP_aload_n (pc := 33) C (x := zad V b) dX2_removePlace_33 rfl rfl ?_
    refine zP_getR (pc := 34) (a := b) (t := b + 29) C g2_46 dX2_removePlace_34 (s_X2 hb) rfl ?_
    refine zP_iload_n (pc := 37) C (x := zI x2) dX2_removePlace_37 rfl rfl ?_
    refine zP_iconst (pc := 38) C dX2_removePlace_38 ?_
    refine zP_iadd (pc := 39) C dX2_removePlace_39 h fun v39 hv39 h => ?_
    refine zP_iald (pc := 40) (a := b + 29) C dX2_removePlace_40 (s_X2_list hb) hv39 h fun v40 hv40 h => ?_
    refine zP_iast (pc := 41) (a := b + 29) C dX2_removePlace_41 (s_X2_list hb) hx2 hv40 h fun d h => ?_
    refine zP_iinc (pc := 42) C (x := x2) dX2_removePlace_42 rfl (Nat.le_of_ble_eq_true rfl) rfl h fun v42 hv42 h => ?_
    show zP V X 3 0 0 45 [some (.ref (zad V b)), none, some (.int (zI v42))] _ _
    refine zP_goto (pc := 45) (tgt := 20) C dX2_removePlace_45 rfl ?_
    exact zP_mask [true, false, true] (hr20 hv42 h)
def l_X2_removePlace_20 (b : Nat)  : Nat → Int → zD → Option (Int × zD)
  | 0, _, _ => none
  | q + 1, x2, d => l_X2_removePlace_20F b  (l_X2_removePlace_20 b  q) x2 d
theorem wl_X2_removePlace_20 {V : zW} {X : zX} {b : Nat} (hb : zo2 V b) (C : zOk V X cX2_removePlace RX2 3 (zrm 1) none) {rv : Int} {dz : zD} (E : zEnd V X none (rv = 0) dz)  : ∀ (q : Nat) {x2 : Int} (hx2 : zR x2) {d : zD} (h : l_X2_removePlace_20 b  q x2 d = some (rv, dz)), zP V X 3 0 0 20 [some (.ref (zad V b)), none, some (.int (zI x2))] [] d := by
  intro q
  induction q with
  | zero => intro x2 hx2 d h; cases (show (none : Option (Int × zD)) = some (rv, dz) from h)
  | succ q ih =>
    intro x2 hx2 d h
    exact wl_X2_removePlace_20F hb C E  (fun  hx2 h => ih hx2 h) hx2 h
def f_X2_removePlace (b : Nat) (x1 : Int) (d : zD) : Option (Int × zD) :=
  zc (f_X2_hasPlace b x1 d) fun v2 d =>
  if (v2 : Int) = 0 then (
    some (0, d))
  else (
    zl (d b 8) fun v10 =>
    zl (zw (v10 - 1)) fun v14 =>
    zl (zu d b 8 v14) fun d =>
    l_X2_removePlace_20 b  zF x1 d)
theorem t_X2_removePlace {V : zW} {b : Nat} (hb : zo2 V b) {x1 : Int} (hx1 : zR x1) {d dz : zD} {rv : Int} (h : f_X2_removePlace b x1 d = some (rv, dz)) : zMet V 1 yX2_removePlace cX2_removePlace 3 none [.ref (zad V b), .int (zI x1)] d none (rv = 0) dz := by
  refine zMet_by RX2 pn2 rfl (Nat.le_of_ble_eq_true rfl) [some (.ref (zad V b)), some (.int (zI x1)), none] rfl fun X C E => ?_
  refine zP_aload_n (pc := 0) C (x := zad V b) dX2_removePlace_0 rfl rfl ?_
  refine zP_iload_n (pc := 1) C (x := zI x1) dX2_removePlace_1 rfl rfl ?_
  obtain ⟨v2, d1, hc, h⟩ := zc_h h
  refine zP_callV (pc := 2) (As := [.int (zI x1)]) (st := []) C m2_128 dX2_removePlace_2 (s_X2 hb) rfl (t_X2_hasPlace hb hx1 hc) ⟨Nat.le_of_ble_eq_true rfl, Nat.le_of_ble_eq_true rfl⟩ rfl (Nat.le_of_ble_eq_true rfl) ⟨Nat.zero_le _, Nat.zero_le _⟩ fun hw => ?_
  have hbv2 := hw
  have hv2 := z01 hw
  clear hc hw
  show zP V X 3 0 0 5 _ [.int (zI v2)] d1
  revert h
  generalize d1 = d
  intro h
  refine zP_if_eq (pc := 5) (tgt := 48) C dX2_removePlace_5 rfl hv2 h (fun _ h => ?_) (fun _ h => ?_)
  · exact zP_vret (pc := 48) C E dX2_removePlace_48 h
  · refine zP_aload_n (pc := 8) C (x := zad V b) dX2_removePlace_8 rfl rfl ?_
    refine zP_dup (pc := 9) C dX2_removePlace_9 rfl ?_
    refine zP_getI (pc := 10) (a := b) C g2_49 dX2_removePlace_10 (s_X2 hb) rfl h fun v10 hv10 h => ?_
    refine zP_iconst (pc := 13) C dX2_removePlace_13 ?_
    refine zP_isub (pc := 14) C dX2_removePlace_14 h fun v14 hv14 h => ?_
    refine zP_putI (pc := 15) (a := b) C p2_49 dX2_removePlace_15 (s_X2 hb) rfl hv14 h fun d h => ?_
    refine zP_iload_n (pc := 18) C (x := zI x1) dX2_removePlace_18 rfl rfl ?_
    refine zP_istore_n (pc := 19) C (L' := [some (.ref (zad V b)), some (.int (zI x1)), some (.int (zI x1))]) dX2_removePlace_19 rfl (Nat.le_of_ble_eq_true rfl) rfl rfl ?_
    exact zP_mask [true, false, true] (wl_X2_removePlace_20 hb C E  zF hx1 h)
def l_X2_sumOf_4F (b : Nat) (a1 : Nat) (n1 : Nat) (r4 : Int → Int → zD → Option (Int × zD)) (x2 x3 : Int) (d : zD) : Option (Int × zD) :=
  zl (d 1 0) fun v9 =>
  if (v9 : Int) ≤ x3 then (
    some (x2, d))
  else (
    zg n1 x3 <| zl (d a1 (x3 : Int).toNat) fun v18 =>
    zl (zw (x2 + v18)) fun v19 =>
    zl (zw (x3 + 1)) fun v21 =>
    r4 v19 v21 d)
theorem wl_X2_sumOf_4F {V : zW} {X : zX} {b : Nat} {a1 : Nat} {n1 : Nat} (hb : zo2 V b) (ha1 : zsh V a1 = some (1, n1, zk0)) (C : zOk V X cX2_sumOf RX2 4 (zrm 0) (some .int)) {rv : Int} {dz : zD} (E : zEnd V X (some (.int (zI rv))) (zR rv) dz) {r4 : Int → Int → zD → Option (Int × zD)} (hr4 : ∀ {x2 x3 : Int} {d : zD}, zR x2 → zR x3 → r4 x2 x3 d = some (rv, dz) → zP V X 4 0 0 4 [some (.ref (zad V b)), some (.ref (zad V a1)), some (.int (zI x2)), some (.int (zI x3))] [] d) {x2 x3 : Int} (hx2 : zR x2) (hx3 : zR x3) {d : zD} (h : l_X2_sumOf_4F b a1 n1 r4 x2 x3 d = some (rv, dz)) : zP V X 4 0 0 4 [some (.ref (zad V b)), some (.ref (zad V a1)), some (.int (zI x2)), some (.int (zI x3))] [] d := by
  refine zP_iload_n (pc := 4) C (x := zI x3) dX2_sumOf_4 rfl rfl ?_
  refine zP_aload_n (pc := 5) C (x := zad V b) dX2_sumOf_5 rfl rfl ?_
  refine zP_getR (pc := 6) (a := b) (t := 1) C g2_74 dX2_sumOf_6 (s_X2 hb) rfl ?_
  refine zP_getI (pc := 9) (a := 1) C g2_115 dX2_sumOf_9 (s_X6 (o_X2_setup hb)) rfl h fun v9 hv9 h => ?_
  refine zP_icmp_ge (pc := 12) (tgt := 27) C dX2_sumOf_12 rfl hx3 hv9 h (fun _ h => ?_) (fun _ h => ?_)
  · refine zP_iload_n (pc := 27) C (x := zI x2) dX2_sumOf_27 rfl rfl ?_
    exact zP_iret (pc := 28) C E dX2_sumOf_28 hx2 h
  · refine zP_iload_n (pc := 15) C (x := zI x2) dX2_sumOf_15 rfl rfl ?_
    refine zP_aload_n (pc := 16) C (x := zad V a1) dX2_sumOf_16 rfl rfl ?_
    refine zP_iload_n (pc := 17) C (x := zI x3) dX2_sumOf_17 rfl rfl ?_
    refine zP_iald (pc := 18) (a := a1) C dX2_sumOf_18 ha1 hx3 h fun v18 hv18 h => ?_
    refine zP_iadd (pc := 19) C dX2_sumOf_19 h fun v19 hv19 h => ?_
    refine zP_istore_n (pc := 20) C (L' := [some (.ref (zad V b)), some (.ref (zad V a1)), some (.int (zI v19)), some (.int (zI x3))]) dX2_sumOf_20 rfl (Nat.le_of_ble_eq_true rfl) rfl rfl ?_
    refine zP_iinc (pc := 21) C (x := x3) dX2_sumOf_21 rfl (Nat.le_of_ble_eq_true rfl) rfl h fun v21 hv21 h => ?_
    show zP V X 4 0 0 24 [some (.ref (zad V b)), some (.ref (zad V a1)), some (.int (zI v19)), some (.int (zI v21))] _ _
    refine zP_goto (pc := 24) (tgt := 4) C dX2_sumOf_24 rfl ?_
    exact zP_mask [true, true, true, true] (hr4 hv19 hv21 h)
def l_X2_sumOf_4 (b : Nat) (a1 : Nat) (n1 : Nat)  : Nat → Int → Int → zD → Option (Int × zD)
  | 0, _, _, _ => none
  | q + 1, x2, x3, d => l_X2_sumOf_4F b a1 n1  (l_X2_sumOf_4 b a1 n1  q) x2 x3 d
theorem wl_X2_sumOf_4 {V : zW} {X : zX} {b : Nat} {a1 : Nat} {n1 : Nat} (hb : zo2 V b) (ha1 : zsh V a1 = some (1, n1, zk0)) (C : zOk V X cX2_sumOf RX2 4 (zrm 0) (some .int)) {rv : Int} {dz : zD} (E : zEnd V X (some (.int (zI rv))) (zR rv) dz)  : ∀ (q : Nat) {x2 x3 : Int} (hx2 : zR x2) (hx3 : zR x3) {d : zD} (h : l_X2_sumOf_4 b a1 n1  q x2 x3 d = some (rv, dz)), zP V X 4 0 0 4 [some (.ref (zad V b)), some (.ref (zad V a1)), some (.int (zI x2)), some (.int (zI x3))] [] d := by
  intro q
  induction q with
  | zero => intro x2 x3 hx2 hx3 d h; cases (show (none : Option (Int × zD)) = some (rv, dz) from h)
  | succ q ih =>
    intro x2 x3 hx2 hx3 d h
    exact wl_X2_sumOf_4F hb ha1 C E  (fun  hx2 hx3 h => ih hx2 hx3 h) hx2 hx3 h
def f_X2_sumOf (b : Nat) (a1 : Nat) (n1 : Nat) (d : zD) : Option (Int × zD) :=
  l_X2_sumOf_4 b a1 n1  zF 0 0 d
theorem t_X2_sumOf {V : zW} {b : Nat} {a1 : Nat} {n1 : Nat} (hb : zo2 V b) (ha1 : zsh V a1 = some (1, n1, zk0))   {d dz : zD} {rv : Int} (h : f_X2_sumOf b a1 n1  d = some (rv, dz)) : zMet V 0 yX2_sumOf cX2_sumOf 4 (some .int) [.ref (zad V b), .ref (zad V a1)] d (some (.int (zI rv))) (zR rv) dz := by
  refine zMet_by RX2 pn2 rfl (Nat.le_of_ble_eq_true rfl) [some (.ref (zad V b)), some (.ref (zad V a1)), none, none] rfl fun X C E => ?_
  refine zP_iconst (pc := 0) C dX2_sumOf_0 ?_
  refine zP_istore_n (pc := 1) C (L' := [some (.ref (zad V b)), some (.ref (zad V a1)), some (.int (zI 0)), none]) dX2_sumOf_1 rfl (Nat.le_of_ble_eq_true rfl) rfl rfl ?_
  refine zP_iconst (pc := 2) C dX2_sumOf_2 ?_
  refine zP_istore_n (pc := 3) C (L' := [some (.ref (zad V b)), some (.ref (zad V a1)), some (.int (zI 0)), some (.int (zI 0))]) dX2_sumOf_3 rfl (Nat.le_of_ble_eq_true rfl) rfl rfl ?_
  exact zP_mask [true, true, true, true] (wl_X2_sumOf_4 hb ha1 C E  zF (zRk rfl) (zRk rfl) h)
def l_X2_placesWith_4F (b : Nat) (r4 : Int → Int → Int → zD → Option (Int × zD)) (x1 x2 x3 : Int) (d : zD) : Option (Int × zD) :=
  zl (d b 8) fun v6 =>
  if (v6 : Int) ≤ x3 then (
    some (x2, d))
  else (
    zg 16 x3 <| zl (d (b + 29) (x3 : Int).toNat) fun v17 =>
    if (v17 : Int) = x1 then (
      zl (zw (x2 + 1)) fun v22 =>
      zl (zw (x3 + 1)) fun v25 =>
      r4 x1 v22 v25 d)
    else (
      zl (zw (x3 + 1)) fun v25 =>
      r4 x1 x2 v25 d))
theorem wl_X2_placesWith_4F {V : zW} {X : zX} {b : Nat} (hb : zo2 V b) (C : zOk V X cX2_placesWith RX2 4 (zrm 0) (some .int)) {rv : Int} {dz : zD} (E : zEnd V X (some (.int (zI rv))) (zR rv) dz) {r4 : Int → Int → Int → zD → Option (Int × zD)} (hr4 : ∀ {x1 x2 x3 : Int} {d : zD}, zR x1 → zR x2 → zR x3 → r4 x1 x2 x3 d = some (rv, dz) → zP V X 4 0 0 4 [some (.ref (zad V b)), some (.int (zI x1)), some (.int (zI x2)), some (.int (zI x3))] [] d) {x1 x2 x3 : Int} (hx1 : zR x1) (hx2 : zR x2) (hx3 : zR x3) {d : zD} (h : l_X2_placesWith_4F b r4 x1 x2 x3 d = some (rv, dz)) : zP V X 4 0 0 4 [some (.ref (zad V b)), some (.int (zI x1)), some (.int (zI x2)), some (.int (zI x3))] [] d := by
  refine zP_iload_n (pc := 4) C (x := zI x3) dX2_placesWith_4 rfl rfl ?_
  refine zP_aload_n (pc := 5) C (x := zad V b) dX2_placesWith_5 rfl rfl ?_
  refine zP_getI (pc := 6) (a := b) C g2_49 dX2_placesWith_6 (s_X2 hb) rfl h fun v6 hv6 h => ?_
  refine zP_icmp_ge (pc := 9) (tgt := 31) C dX2_placesWith_9 rfl hx3 hv6 h (fun _ h => ?_) (fun _ h => ?_)
  · refine zP_iload_n (pc := 31) C (x := zI x2) dX2_placesWith_31 rfl rfl ?_
    exact zP_iret (pc := 32) C E dX2_placesWith_32 hx2 h
  · refine zP_aload_n (pc := 12) C (x := zad V b) dX2_placesWith_12 rfl rfl ?_
    refine zP_getR (pc := 13) (a := b) (t := b + 29) C g2_46 dX2_placesWith_13 (s_X2 hb) rfl ?_
    refine zP_iload_n (pc := 16) C (x := zI x3) dX2_placesWith_16 rfl rfl ?_
    refine zP_iald (pc := 17) (a := b + 29) C dX2_placesWith_17 (s_X2_list hb) hx3 h fun v17 hv17 h => ?_
    refine zP_iload_n (pc := 18) C (x := zI x1) dX2_placesWith_18 rfl rfl ?_
    refine zP_icmp_ne (pc := 19) (tgt := 25) C dX2_placesWith_19 rfl hv17 hx1 h (fun _ h => ?_) (fun _ h => ?_)
    · refine zP_iinc (pc := 25) C (x := x3) dX2_placesWith_25 rfl (Nat.le_of_ble_eq_true rfl) rfl h fun v25 hv25 h => ?_
      show zP V X 4 0 0 28 [some (.ref (zad V b)), some (.int (zI x1)), some (.int (zI x2)), some (.int (zI v25))] _ _
      refine zP_goto (pc := 28) (tgt := 4) C dX2_placesWith_28 rfl ?_
      exact zP_mask [true, true, true, true] (hr4 hx1 hx2 hv25 h)
    · refine zP_iinc (pc := 22) C (x := x2) dX2_placesWith_22 rfl (Nat.le_of_ble_eq_true rfl) rfl h fun v22 hv22 h => ?_
      show zP V X 4 0 0 25 [some (.ref (zad V b)), some (.int (zI x1)), some (.int (zI v22)), some (.int (zI x3))] _ _
      refine zP_iinc (pc := 25) C (x := x3) dX2_placesWith_25 rfl (Nat.le_of_ble_eq_true rfl) rfl h fun v25 hv25 h => ?_
      show zP V X 4 0 0 28 [some (.ref (zad V b)), some (.int (zI x1)), some (.int (zI v22)), some (.int (zI v25))] _ _
      refine zP_goto (pc := 28) (tgt := 4) C dX2_placesWith_28 rfl ?_
      exact zP_mask [true, true, true, true] (hr4 hx1 hv22 hv25 h)
def l_X2_placesWith_4 (b : Nat)  : Nat → Int → Int → Int → zD → Option (Int × zD)
  | 0, _, _, _, _ => none
  | q + 1, x1, x2, x3, d => l_X2_placesWith_4F b  (l_X2_placesWith_4 b  q) x1 x2 x3 d
theorem wl_X2_placesWith_4 {V : zW} {X : zX} {b : Nat} (hb : zo2 V b) (C : zOk V X cX2_placesWith RX2 4 (zrm 0) (some .int)) {rv : Int} {dz : zD} (E : zEnd V X (some (.int (zI rv))) (zR rv) dz)  : ∀ (q : Nat) {x1 x2 x3 : Int} (hx1 : zR x1) (hx2 : zR x2) (hx3 : zR x3) {d : zD} (h : l_X2_placesWith_4 b  q x1 x2 x3 d = some (rv, dz)), zP V X 4 0 0 4 [some (.ref (zad V b)), some (.int (zI x1)), some (.int (zI x2)), some (.int (zI x3))] [] d := by
  intro q
  induction q with
  | zero => intro x1 x2 x3 hx1 hx2 hx3 d h; cases (show (none : Option (Int × zD)) = some (rv, dz) from h)
  | succ q ih =>
    intro x1 x2 x3 hx1 hx2 hx3 d h
    exact wl_X2_placesWith_4F hb C E  (fun  hx1 hx2 hx3 h => ih hx1 hx2 hx3 h) hx1 hx2 hx3 h
def f_X2_placesWith (b : Nat) (x1 : Int) (d : zD) : Option (Int × zD) :=
  l_X2_placesWith_4 b  zF x1 0 0 d
theorem t_X2_placesWith {V : zW} {b : Nat} (hb : zo2 V b) {x1 : Int} (hx1 : zR x1) {d dz : zD} {rv : Int} (h : f_X2_placesWith b x1 d = some (rv, dz)) : zMet V 0 yX2_placesWith cX2_placesWith 4 (some .int) [.ref (zad V b), .int (zI x1)] d (some (.int (zI rv))) (zR rv) dz := by
  refine zMet_by RX2 pn2 rfl (Nat.le_of_ble_eq_true rfl) [some (.ref (zad V b)), some (.int (zI x1)), none, none] rfl fun X C E => ?_
  refine zP_iconst (pc := 0) C dX2_placesWith_0 ?_
  refine zP_istore_n (pc := 1) C (L' := [some (.ref (zad V b)), some (.int (zI x1)), some (.int (zI 0)), none]) dX2_placesWith_1 rfl (Nat.le_of_ble_eq_true rfl) rfl rfl ?_
  refine zP_iconst (pc := 2) C dX2_placesWith_2 ?_
  refine zP_istore_n (pc := 3) C (L' := [some (.ref (zad V b)), some (.int (zI x1)), some (.int (zI 0)), some (.int (zI 0))]) dX2_placesWith_3 rfl (Nat.le_of_ble_eq_true rfl) rfl rfl ?_
  exact zP_mask [true, true, true, true] (wl_X2_placesWith_4 hb C E  zF hx1 (zRk rfl) (zRk rfl) h)
def f_X2_delivered (b : Nat) (d : zD) : Option (Int × zD) :=
  zc (f_X3_countIn b 3 d) fun v5 d =>
  some (v5, d)
theorem t_X2_delivered {V : zW} {b : Nat} (hb : zo2 V b)   {d dz : zD} {rv : Int} (h : f_X2_delivered b  d = some (rv, dz)) : zMet V 1 yX2_delivered cX2_delivered 1 (some .int) [.ref (zad V b)] d (some (.int (zI rv))) (zR rv) dz := by
  refine zMet_by RX2 pn2 rfl (Nat.le_of_ble_eq_true rfl) [some (.ref (zad V b))] rfl fun X C E => ?_
  refine zP_aload_n (pc := 0) C (x := zad V b) dX2_delivered_0 rfl rfl ?_
  refine zP_getR (pc := 1) (a := b) (t := b + 1) C g2_12 dX2_delivered_1 (s_X2 hb) rfl ?_
  refine zP_iconst (pc := 4) C dX2_delivered_4 ?_
  obtain ⟨v5, d1, hc, h⟩ := zc_h h
  refine zP_callV (pc := 5) (As := [.int (zI 3)]) (st := []) C m2_111 dX2_delivered_5 (s_X3 hb) rfl (t_X3_countIn hb (zRk rfl) hc) ⟨Nat.le_of_ble_eq_true rfl, Nat.le_of_ble_eq_true rfl⟩ rfl (Nat.le_of_ble_eq_true rfl) ⟨Nat.zero_le _, Nat.zero_le _⟩ fun hw => ?_
  have hv5 := hw
  clear hc hw
  show zP V X 1 0 0 8 _ [.int (zI v5)] d1
  revert h
  generalize d1 = d
  intro h
  exact zP_iret (pc := 8) C E dX2_delivered_8 hv5 h
def f_X0_takeBack (b1 : Nat) (d : zD) : Option (Int × zD) :=
  zl (d 8 2) fun v1 =>
  if (v1 : Int) ≤ 0 then (
    some (0, d))
  else (
    zl (d 8 2) fun v9 =>
    zl (zw (v9 - 1)) fun v13 =>
    zl (zu d 8 2 v13) fun d =>
    zl (d 8 1) fun v23 =>
    zl (d 8 2) fun v27 =>
    zl (zw (v23 + v27)) fun v30 =>
    zn 8 <| zl (zrem v30 8) fun v33 =>
    zg 8 v33 <|
    zc (f_X2_copyFrom b1 (120 + 30 * (v33 : Int).toNat)  d) fun _ d =>
    some (0, d))
theorem t_X0_takeBack {V : zW} {b1 : Nat} (hT : zo0 V) (hb1 : zo2 V b1)   {d dz : zD} {rv : Int} (h : f_X0_takeBack b1  d = some (rv, dz)) : zMet V 4 yX0_takeBack cX0_takeBack 2 none [.ref (zad V 8), .ref (zad V b1)] d none (rv = 0) dz := by
  refine zMet_by RX0 pn0 rfl (Nat.le_of_ble_eq_true rfl) [some (.ref (zad V 8)), some (.ref (zad V b1))] rfl fun X C E => ?_
  refine zP_aload_n (pc := 0) C (x := zad V 8) dX0_takeBack_0 rfl rfl ?_
  refine zP_getI (pc := 1) (a := 8) C g0_21 dX0_takeBack_1 (s_X0 hT) rfl h fun v1 hv1 h => ?_
  refine zP_if_le (pc := 4) (tgt := 38) C dX0_takeBack_4 rfl hv1 h (fun _ h => ?_) (fun _ h => ?_)
  · exact zP_vret (pc := 38) C E dX0_takeBack_38 h
  · refine zP_aload_n (pc := 7) C (x := zad V 8) dX0_takeBack_7 rfl rfl ?_
    refine zP_dup (pc := 8) C dX0_takeBack_8 rfl ?_
    refine zP_getI (pc := 9) (a := 8) C g0_21 dX0_takeBack_9 (s_X0 hT) rfl h fun v9 hv9 h => ?_
    refine zP_iconst (pc := 12) C dX0_takeBack_12 ?_
    refine zP_isub (pc := 13) C dX0_takeBack_13 h fun v13 hv13 h => ?_
    refine zP_putI (pc := 14) (a := 8) C p0_21 dX0_takeBack_14 (s_X0 hT) rfl hv13 h fun d h => ?_
    refine zP_aload_n (pc := 17) C (x := zad V b1) dX0_takeBack_17 rfl rfl ?_
    refine zP_aload_n (pc := 18) C (x := zad V 8) dX0_takeBack_18 rfl rfl ?_
    refine zP_getR (pc := 19) (a := 8) (t := 9) C g0_11 dX0_takeBack_19 (s_X0 hT) rfl ?_
    refine zP_aload_n (pc := 22) C (x := zad V 8) dX0_takeBack_22 rfl rfl ?_
    refine zP_getI (pc := 23) (a := 8) C g0_17 dX0_takeBack_23 (s_X0 hT) rfl h fun v23 hv23 h => ?_
    refine zP_aload_n (pc := 26) C (x := zad V 8) dX0_takeBack_26 rfl rfl ?_
    refine zP_getI (pc := 27) (a := 8) C g0_21 dX0_takeBack_27 (s_X0 hT) rfl h fun v27 hv27 h => ?_
    refine zP_iadd (pc := 30) C dX0_takeBack_30 h fun v30 hv30 h => ?_
    refine zP_bipush (pc := 31) C dX0_takeBack_31 rfl ?_
    refine zP_irem (pc := 33) C dX0_takeBack_33 (zRk rfl) h fun v33 hv33 h => ?_
    refine zP_aald (pc := 34) (a := 9) (t := 120 + 30 * (v33 : Int).toNat) C dX0_takeBack_34 (s_X0_kept hT) hv33 h (fun hq => if_pos (by omega)) fun hq34 h => ?_
    have ho34 : zo2 V (120 + 30 * (v33 : Int).toNat) := o_X0_kept hT _ (by omega)
    obtain ⟨_, d1, hc, h⟩ := zc_h h
    refine zP_callV (pc := 35) (As := [.ref (zad V (120 + 30 * (v33 : Int).toNat))]) (st := []) C m0_27 dX0_takeBack_35 (s_X2 hb1) rfl (t_X2_copyFrom hb1 ho34  hc) ⟨Nat.le_of_ble_eq_true rfl, Nat.le_of_ble_eq_true rfl⟩ rfl (Nat.le_of_ble_eq_true rfl) ⟨Nat.zero_le _, Nat.zero_le _⟩ fun hw => ?_
    clear hc hw
    show zP V X 2 0 0 38 _ [] d1
    revert h
    generalize d1 = d
    intro h
    exact zP_vret (pc := 38) C E dX0_takeBack_38 h
