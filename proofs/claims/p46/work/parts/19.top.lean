/-! The class' methods over the pure heap. -/
def f_X11_appendInput  (x1 x2 x3 x4 x5 : Int) (d : zD) : Option (Int × zD) :=
  zl (d 10 1) fun v4 =>
  if (v4 : Int) ≤ 580 then (
    zc (f_X9_addFourBytes  x1 d) fun _ d =>
    zc (f_X9_addFourBytes  x2 d) fun _ d =>
    zc (f_X9_addFourBytes  x3 d) fun _ d =>
    zc (f_X9_addFourBytes  x4 d) fun _ d =>
    zc (f_X9_addFourBytes  x5 d) fun _ d =>
    zl (d 10 1) fun v61 =>
    some (v61, d))
  else (
    some ((-1), d))
theorem t_X11_appendInput {V : zW}  (hT : zo11 V) {x1 x2 x3 x4 x5 : Int} (hx1 : zR x1) (hx2 : zR x2) (hx3 : zR x3) (hx4 : zR x4) (hx5 : zR x5) {d dz : zD} {rv : Int} (h : f_X11_appendInput  x1 x2 x3 x4 x5 d = some (rv, dz)) : zMet V 2 yX11_appendInput cX11_appendInput 6 (some .int) [.ref (zad V 0), .int (zI x1), .int (zI x2), .int (zI x3), .int (zI x4), .int (zI x5)] d (some (.int (zI rv))) (zR rv) dz := by
  refine zMet_by RX11 pn11 rfl (Nat.le_of_ble_eq_true rfl) [some (.ref (zad V 0)), some (.int (zI x1)), some (.int (zI x2)), some (.int (zI x3)), some (.int (zI x4)), some (.int (zI x5))] rfl fun X C E => ?_
  refine zP_aload_n (pc := 0) C (x := zad V 0) dX11_appendInput_0 rfl rfl ?_
  refine zP_getR (pc := 1) (a := 0) (t := 10) C g11_53 dX11_appendInput_1 (s_X11 hT) rfl ?_
  refine zP_getI (pc := 4) (a := 10) C g11_110 dX11_appendInput_4 (s_X9 (o_X11_tokens hT)) rfl h fun v4 hv4 h => ?_
  refine zP_sipush (pc := 7) C dX11_appendInput_7 rfl ?_
  refine zP_icmp_le (pc := 10) (tgt := 15) C dX11_appendInput_10 rfl hv4 (zRk rfl) h (fun _ h => ?_) (fun _ h => ?_)
  · refine zP_aload_n (pc := 15) C (x := zad V 0) dX11_appendInput_15 rfl rfl ?_
    refine zP_getR (pc := 16) (a := 0) (t := 10) C g11_53 dX11_appendInput_16 (s_X11 hT) rfl ?_
    refine zP_iload_n (pc := 19) C (x := zI x1) dX11_appendInput_19 rfl rfl ?_
    obtain ⟨_, d1, hc, h⟩ := zc_h h
    refine zP_callV (pc := 20) (As := [.int (zI x1)]) (st := []) C m11_112 dX11_appendInput_20 (s_X9 (o_X11_tokens hT)) rfl (t_X9_addFourBytes (o_X11_tokens hT) hx1 hc) ⟨Nat.le_of_ble_eq_true rfl, Nat.le_of_ble_eq_true rfl⟩ rfl (Nat.le_of_ble_eq_true rfl) ⟨Nat.zero_le _, Nat.zero_le _⟩ fun hw => ?_
    clear hc hw
    show zP V X 6 0 0 23 _ [] d1
    revert h
    generalize d1 = d
    intro h
    refine zP_aload_n (pc := 23) C (x := zad V 0) dX11_appendInput_23 rfl rfl ?_
    refine zP_getR (pc := 24) (a := 0) (t := 10) C g11_53 dX11_appendInput_24 (s_X11 hT) rfl ?_
    refine zP_iload_n (pc := 27) C (x := zI x2) dX11_appendInput_27 rfl rfl ?_
    obtain ⟨_, d1, hc, h⟩ := zc_h h
    refine zP_callV (pc := 28) (As := [.int (zI x2)]) (st := []) C m11_112 dX11_appendInput_28 (s_X9 (o_X11_tokens hT)) rfl (t_X9_addFourBytes (o_X11_tokens hT) hx2 hc) ⟨Nat.le_of_ble_eq_true rfl, Nat.le_of_ble_eq_true rfl⟩ rfl (Nat.le_of_ble_eq_true rfl) ⟨Nat.zero_le _, Nat.zero_le _⟩ fun hw => ?_
    clear hc hw
    show zP V X 6 0 0 31 _ [] d1
    revert h
    generalize d1 = d
    intro h
    refine zP_aload_n (pc := 31) C (x := zad V 0) dX11_appendInput_31 rfl rfl ?_
    refine zP_getR (pc := 32) (a := 0) (t := 10) C g11_53 dX11_appendInput_32 (s_X11 hT) rfl ?_
    refine zP_iload_n (pc := 35) C (x := zI x3) dX11_appendInput_35 rfl rfl ?_
    obtain ⟨_, d1, hc, h⟩ := zc_h h
    refine zP_callV (pc := 36) (As := [.int (zI x3)]) (st := []) C m11_112 dX11_appendInput_36 (s_X9 (o_X11_tokens hT)) rfl (t_X9_addFourBytes (o_X11_tokens hT) hx3 hc) ⟨Nat.le_of_ble_eq_true rfl, Nat.le_of_ble_eq_true rfl⟩ rfl (Nat.le_of_ble_eq_true rfl) ⟨Nat.zero_le _, Nat.zero_le _⟩ fun hw => ?_
    clear hc hw
    show zP V X 6 0 0 39 _ [] d1
    revert h
    generalize d1 = d
    intro h
    refine zP_aload_n (pc := 39) C (x := zad V 0) dX11_appendInput_39 rfl rfl ?_
    refine zP_getR (pc := 40) (a := 0) (t := 10) C g11_53 dX11_appendInput_40 (s_X11 hT) rfl ?_
    refine zP_iload (pc := 43) C (x := zI x4) dX11_appendInput_43 rfl ?_
    obtain ⟨_, d1, hc, h⟩ := zc_h h
    refine zP_callV (pc := 45) (As := [.int (zI x4)]) (st := []) C m11_112 dX11_appendInput_45 (s_X9 (o_X11_tokens hT)) rfl (t_X9_addFourBytes (o_X11_tokens hT) hx4 hc) ⟨Nat.le_of_ble_eq_true rfl, Nat.le_of_ble_eq_true rfl⟩ rfl (Nat.le_of_ble_eq_true rfl) ⟨Nat.zero_le _, Nat.zero_le _⟩ fun hw => ?_
    clear hc hw
    show zP V X 6 0 0 48 _ [] d1
    revert h
    generalize d1 = d
    intro h
    refine zP_aload_n (pc := 48) C (x := zad V 0) dX11_appendInput_48 rfl rfl ?_
    refine zP_getR (pc := 49) (a := 0) (t := 10) C g11_53 dX11_appendInput_49 (s_X11 hT) rfl ?_
    refine zP_iload (pc := 52) C (x := zI x5) dX11_appendInput_52 rfl ?_
    obtain ⟨_, d1, hc, h⟩ := zc_h h
    refine zP_callV (pc := 54) (As := [.int (zI x5)]) (st := []) C m11_112 dX11_appendInput_54 (s_X9 (o_X11_tokens hT)) rfl (t_X9_addFourBytes (o_X11_tokens hT) hx5 hc) ⟨Nat.le_of_ble_eq_true rfl, Nat.le_of_ble_eq_true rfl⟩ rfl (Nat.le_of_ble_eq_true rfl) ⟨Nat.zero_le _, Nat.zero_le _⟩ fun hw => ?_
    clear hc hw
    show zP V X 6 0 0 57 _ [] d1
    revert h
    generalize d1 = d
    intro h
    refine zP_aload_n (pc := 57) C (x := zad V 0) dX11_appendInput_57 rfl rfl ?_
    refine zP_getR (pc := 58) (a := 0) (t := 10) C g11_53 dX11_appendInput_58 (s_X11 hT) rfl ?_
    refine zP_getI (pc := 61) (a := 10) C g11_110 dX11_appendInput_61 (s_X9 (o_X11_tokens hT)) rfl h fun v61 hv61 h => ?_
    exact zP_iret (pc := 64) C E dX11_appendInput_64 hv61 h
  · refine zP_iconst (pc := 13) C dX11_appendInput_13 ?_
    exact zP_iret (pc := 14) C E dX11_appendInput_14 (zRk rfl) h
def f_X11_truncateInput  (x1 : Int) (d : zD) : Option (Int × zD) :=
  if (x1 : Int) < 0 then (
    some (0, d))
  else (
    zl (d 10 1) fun v9 =>
    if (x1 : Int) ≤ v9 then (
      zl (zu d 10 1 x1) fun d =>
      some (1, d))
    else (
      some (0, d)))
theorem t_X11_truncateInput {V : zW}  (hT : zo11 V) {x1 : Int} (hx1 : zR x1) {d dz : zD} {rv : Int} (h : f_X11_truncateInput  x1 d = some (rv, dz)) : zMet V 0 yX11_truncateInput cX11_truncateInput 2 (some .boolean) [.ref (zad V 0), .int (zI x1)] d (some (.int (zI rv))) (rv = 0 ∨ rv = 1) dz := by
  refine zMet_by RX11 pn11 rfl (Nat.le_of_ble_eq_true rfl) [some (.ref (zad V 0)), some (.int (zI x1))] rfl fun X C E => ?_
  refine zP_iload_n (pc := 0) C (x := zI x1) dX11_truncateInput_0 rfl rfl ?_
  refine zP_if_lt (pc := 1) (tgt := 15) C dX11_truncateInput_1 rfl hx1 h (fun _ h => ?_) (fun _ h => ?_)
  · refine zP_iconst (pc := 15) C dX11_truncateInput_15 ?_
    exact zP_zret (pc := 16) C E dX11_truncateInput_16 (Or.inl rfl) h
  · refine zP_iload_n (pc := 4) C (x := zI x1) dX11_truncateInput_4 rfl rfl ?_
    refine zP_aload_n (pc := 5) C (x := zad V 0) dX11_truncateInput_5 rfl rfl ?_
    refine zP_getR (pc := 6) (a := 0) (t := 10) C g11_53 dX11_truncateInput_6 (s_X11 hT) rfl ?_
    refine zP_getI (pc := 9) (a := 10) C g11_110 dX11_truncateInput_9 (s_X9 (o_X11_tokens hT)) rfl h fun v9 hv9 h => ?_
    refine zP_icmp_le (pc := 12) (tgt := 17) C dX11_truncateInput_12 rfl hx1 hv9 h (fun _ h => ?_) (fun _ h => ?_)
    · refine zP_aload_n (pc := 17) C (x := zad V 0) dX11_truncateInput_17 rfl rfl ?_
      refine zP_getR (pc := 18) (a := 0) (t := 10) C g11_53 dX11_truncateInput_18 (s_X11 hT) rfl ?_
      refine zP_iload_n (pc := 21) C (x := zI x1) dX11_truncateInput_21 rfl rfl ?_
      refine zP_putI (pc := 22) (a := 10) C p11_110 dX11_truncateInput_22 (s_X9 (o_X11_tokens hT)) rfl hx1 h fun d h => ?_
      refine zP_iconst (pc := 25) C dX11_truncateInput_25 ?_
      exact zP_zret (pc := 26) C E dX11_truncateInput_26 (Or.inr rfl) h
    · refine zP_iconst (pc := 15) C dX11_truncateInput_15 ?_
      exact zP_zret (pc := 16) C E dX11_truncateInput_16 (Or.inl rfl) h
def f_X11_beginAnew  (d : zD) : Option (Int × zD) :=
  zc (f_X6_copyFrom 1 13  d) fun _ d =>
  zc (f_X2_begin 30  d) fun _ d =>
  zl (zu d 8 2 0) fun d =>
  zl (zu d 0 12 0) fun d =>
  some (0, d)
theorem t_X11_beginAnew {V : zW}  (hT : zo11 V)   {d dz : zD} {rv : Int} (h : f_X11_beginAnew   d = some (rv, dz)) : zMet V 3 yX11_beginAnew cX11_beginAnew 1 none [.ref (zad V 0)] d none (rv = 0) dz := by
  refine zMet_by RX11 pn11 rfl (Nat.le_of_ble_eq_true rfl) [some (.ref (zad V 0))] rfl fun X C E => ?_
  refine zP_aload_n (pc := 0) C (x := zad V 0) dX11_beginAnew_0 rfl rfl ?_
  refine zP_getR (pc := 1) (a := 0) (t := 1) C g11_10 dX11_beginAnew_1 (s_X11 hT) rfl ?_
  refine zP_aload_n (pc := 4) C (x := zad V 0) dX11_beginAnew_4 rfl rfl ?_
  refine zP_getR (pc := 5) (a := 0) (t := 12) C g11_62 dX11_beginAnew_5 (s_X11 hT) rfl ?_
  refine zP_getR (pc := 8) (a := 12) (t := 13) C g11_118 dX11_beginAnew_8 (s_X7 (o_X11_setupReader hT)) rfl ?_
  obtain ⟨_, d1, hc, h⟩ := zc_h h
  refine zP_callV (pc := 11) (As := [.ref (zad V 13)]) (st := []) C m11_121 dX11_beginAnew_11 (s_X6 (o_X11_setup hT)) rfl (t_X6_copyFrom (o_X11_setup hT) (o_X7_draft (o_X11_setupReader hT))  hc) ⟨Nat.le_of_ble_eq_true rfl, Nat.le_of_ble_eq_true rfl⟩ rfl (Nat.le_of_ble_eq_true rfl) ⟨Nat.zero_le _, Nat.zero_le _⟩ fun hw => ?_
  clear hc hw
  show zP V X 1 0 0 14 _ [] d1
  revert h
  generalize d1 = d
  intro h
  refine zP_aload_n (pc := 14) C (x := zad V 0) dX11_beginAnew_14 rfl rfl ?_
  refine zP_getR (pc := 15) (a := 0) (t := 30) C g11_21 dX11_beginAnew_15 (s_X11 hT) rfl ?_
  refine zP_aload_n (pc := 18) C (x := zad V 0) dX11_beginAnew_18 rfl rfl ?_
  refine zP_getR (pc := 19) (a := 0) (t := 12) C g11_62 dX11_beginAnew_19 (s_X11 hT) rfl ?_
  obtain ⟨_, d1, hc, h⟩ := zc_h h
  refine zP_callV (pc := 22) (As := [.ref (zad V 12)]) (st := []) C m11_124 dX11_beginAnew_22 (s_X2 (o_X11_line hT)) rfl (t_X2_begin (o_X11_line hT) (o_X11_setupReader hT)  hc) ⟨Nat.le_of_ble_eq_true rfl, Nat.le_of_ble_eq_true rfl⟩ rfl (Nat.le_of_ble_eq_true rfl) ⟨Nat.zero_le _, Nat.zero_le _⟩ fun hw => ?_
  clear hc hw
  show zP V X 1 0 0 25 _ [] d1
  revert h
  generalize d1 = d
  intro h
  refine zP_aload_n (pc := 25) C (x := zad V 0) dX11_beginAnew_25 rfl rfl ?_
  refine zP_getR (pc := 26) (a := 0) (t := 8) C g11_46 dX11_beginAnew_26 (s_X11 hT) rfl ?_
  refine zP_iconst (pc := 29) C dX11_beginAnew_29 ?_
  refine zP_putI (pc := 30) (a := 8) C p11_128 dX11_beginAnew_30 (s_X0 (o_X11_history hT)) rfl (zRk rfl) h fun d h => ?_
  refine zP_aload_n (pc := 33) C (x := zad V 0) dX11_beginAnew_33 rfl rfl ?_
  refine zP_iconst (pc := 34) C dX11_beginAnew_34 ?_
  refine zP_putZ (pc := 35) (a := 0) C p11_83 dX11_beginAnew_35 (s_X11 hT) rfl (Or.inl rfl) h fun d h => ?_
  exact zP_vret (pc := 38) C E dX11_beginAnew_38 h
def f_X11_loadLine  (d : zD) : Option (Int × zD) :=
  zc (f_X7_readText   d) fun v4 d =>
  zl (zu d 10 1 0) fun d =>
  if (v4 : Int) = 0 then (
    some ((-1), d))
  else (
    zc (f_X11_beginAnew   d) fun _ d =>
    zl (d 1 0) fun v30 =>
    some (v30, d))
theorem t_X11_loadLine {V : zW}  (hT : zo11 V)   {d dz : zD} {rv : Int} (h : f_X11_loadLine   d = some (rv, dz)) : zMet V 12 yX11_loadLine cX11_loadLine 2 (some .int) [.ref (zad V 0)] d (some (.int (zI rv))) (zR rv) dz := by
  refine zMet_by RX11 pn11 rfl (Nat.le_of_ble_eq_true rfl) [some (.ref (zad V 0)), none] rfl fun X C E => ?_
  refine zP_aload_n (pc := 0) C (x := zad V 0) dX11_loadLine_0 rfl rfl ?_
  refine zP_getR (pc := 1) (a := 0) (t := 12) C g11_62 dX11_loadLine_1 (s_X11 hT) rfl ?_
  obtain ⟨v4, d1, hc, h⟩ := zc_h h
  refine zP_callV (pc := 4) (As := []) (st := []) C m11_103 dX11_loadLine_4 (s_X7 (o_X11_setupReader hT)) rfl (t_X7_readText (o_X11_setupReader hT)  hc) ⟨Nat.le_of_ble_eq_true rfl, Nat.le_of_ble_eq_true rfl⟩ rfl (Nat.le_of_ble_eq_true rfl) ⟨Nat.zero_le _, Nat.zero_le _⟩ fun hw => ?_
  have hbv4 := hw
  have hv4 := z01 hw
  clear hc hw
  show zP V X 2 0 0 7 _ [.int (zI v4)] d1
  revert h
  generalize d1 = d
  intro h
  refine zP_istore_n (pc := 7) C (L' := [some (.ref (zad V 0)), some (.int (zI v4))]) dX11_loadLine_7 rfl (Nat.le_of_ble_eq_true rfl) rfl rfl ?_
  refine zP_aload_n (pc := 8) C (x := zad V 0) dX11_loadLine_8 rfl rfl ?_
  refine zP_getR (pc := 9) (a := 0) (t := 10) C g11_53 dX11_loadLine_9 (s_X11 hT) rfl ?_
  refine zP_iconst (pc := 12) C dX11_loadLine_12 ?_
  refine zP_putI (pc := 13) (a := 10) C p11_110 dX11_loadLine_13 (s_X9 (o_X11_tokens hT)) rfl (zRk rfl) h fun d h => ?_
  refine zP_iload_n (pc := 16) C (x := zI v4) dX11_loadLine_16 rfl rfl ?_
  refine zP_if_ne (pc := 17) (tgt := 22) C dX11_loadLine_17 rfl hv4 h (fun _ h => ?_) (fun _ h => ?_)
  · refine zP_aload_n (pc := 22) C (x := zad V 0) dX11_loadLine_22 rfl rfl ?_
    obtain ⟨_, d1, hc, h⟩ := zc_h h
    refine zP_callV (pc := 23) (As := []) (st := []) C m11_107 dX11_loadLine_23 (s_X11 hT) rfl (t_X11_beginAnew hT  hc) ⟨Nat.le_of_ble_eq_true rfl, Nat.le_of_ble_eq_true rfl⟩ rfl (Nat.le_of_ble_eq_true rfl) ⟨Nat.zero_le _, Nat.zero_le _⟩ fun hw => ?_
    clear hc hw
    show zP V X 2 0 0 26 _ [] d1
    revert h
    generalize d1 = d
    intro h
    refine zP_aload_n (pc := 26) C (x := zad V 0) dX11_loadLine_26 rfl rfl ?_
    refine zP_getR (pc := 27) (a := 0) (t := 1) C g11_10 dX11_loadLine_27 (s_X11 hT) rfl ?_
    refine zP_getI (pc := 30) (a := 1) C g11_115 dX11_loadLine_30 (s_X6 (o_X11_setup hT)) rfl h fun v30 hv30 h => ?_
    exact zP_iret (pc := 33) C E dX11_loadLine_33 hv30 h
  · refine zP_iconst (pc := 20) C dX11_loadLine_20 ?_
    exact zP_iret (pc := 21) C E dX11_loadLine_21 (zRk rfl) h
def f_X11_perform  (x1 : Int) (d : zD) : Option (Int × zD) :=
  zg 30 x1 <| zl (d 22 (x1 : Int).toNat) fun v8 =>
  zg 30 x1 <| zl (d 21 (x1 : Int).toNat) fun v18 =>
  zsw v18 [(0, (
    zc (f_X3_isFull 30  d) fun v59 d =>
    if (v59 : Int) = 0 then (
      zg 30 x1 <| zl (d 23 (x1 : Int).toNat) fun v80 =>
      zg 30 x1 <| zl (d 24 (x1 : Int).toNat) fun v89 =>
      zc (f_X2_addMessage 30 v8 v80 v89 d) fun v90 d =>
      some (1, d))
    else (
      some (0, d)))), (1, (
    zc (f_X2_setLife 30 v8 0 d) fun v102 d =>
    some (1, d))), (2, (
    zc (f_X2_setLife 30 v8 1 d) fun v114 d =>
    some (1, d))), (3, (
    zl (d 30 10) fun v124 =>
    zl (zw (v124 + v8)) fun v128 =>
    if (v128 : Int) ≤ 9999 then (
      zc (f_X1_makeTurns 6 30 v8 d) fun _ d =>
      some (1, d))
    else (
      some (0, d)))), (4, (
    zl (d 30 8) fun v151 =>
    if (v151 : Int) < 16 then (
      zc (f_X2_appendPlace 30 v8 d) fun _ d =>
      some (1, d))
    else (
      some (0, d))))] (
    zl (d 30 8) fun v176 =>
    if (v8 : Int) < v176 then (
      zc (f_X2_removePlace 30 v8 d) fun _ d =>
      some (1, d))
    else (
      some (0, d)))
def l_X11_playScript_35F  (r35 : Int → zD → Option (Int × zD)) (x2 : Int) (d : zD) : Option (Int × zD) :=
  zl (d 20 6) fun v40 =>
  if (v40 : Int) ≤ x2 then (
    some (x2, d))
  else (
    zc (f_X11_perform  x2 d) fun v48 d =>
    if (v48 : Int) = 0 then (
      some (x2, d))
    else (
      zl (zw (x2 + 1)) fun v54 =>
      r35 v54 d))
def l_X11_playScript_35   : Nat → Int → zD → Option (Int × zD)
  | 0, _, _ => none
  | q + 1, x2, d => l_X11_playScript_35F   (l_X11_playScript_35   q) x2 d
def f_X11_playScript  (d : zD) : Option (Int × zD) :=
  zc (f_X5_readText   d) fun v4 d =>
  zl (zu d 10 1 0) fun d =>
  if (v4 : Int) = 0 then (
    some ((-1), d))
  else (
    zc (f_X0_remember 30  d) fun _ d =>
    l_X11_playScript_35   zF 0 d)
def f_X11_errorCode  (d : zD) : Option (Int × zD) :=
  zl (d 10 5) fun v4 =>
  some (v4, d)
def f_X11_errorOffset  (d : zD) : Option (Int × zD) :=
  zl (d 10 6) fun v4 =>
  some (v4, d)
def l_X11_off_4F  (r4 : Int → Int → zD → Option (Int × zD)) (x1 x2 : Int) (d : zD) : Option (Int × zD) :=
  zl (d 1 0) fun v9 =>
  if (v9 : Int) ≤ x2 then (
    some (x1, d))
  else (
    zg 8 x2 <| zl (d (30 + 17) (x2 : Int).toNat) fun v26 =>
    if (v26 : Int) = 0 then (
      zl (zshl 1 x2) fun v33 =>
      zl (zor x1 v33) fun v34 =>
      zl (zw (x2 + 1)) fun v36 =>
      r4 v34 v36 d)
    else (
      zl (zw (x2 + 1)) fun v36 =>
      r4 x1 v36 d))
theorem wl_X11_off_4F {V : zW} {X : zX}  (hT : zo11 V) (C : zOk V X cX11_off RX11 3 (zrm 0) (some .int)) {rv : Int} {dz : zD} (E : zEnd V X (some (.int (zI rv))) (zR rv) dz) {r4 : Int → Int → zD → Option (Int × zD)} (hr4 : ∀ {x1 x2 : Int} {d : zD}, zR x1 → zR x2 → r4 x1 x2 d = some (rv, dz) → zP V X 3 0 0 4 [some (.ref (zad V 0)), some (.int (zI x1)), some (.int (zI x2))] [] d) {x1 x2 : Int} (hx1 : zR x1) (hx2 : zR x2) {d : zD} (h : l_X11_off_4F  r4 x1 x2 d = some (rv, dz)) : zP V X 3 0 0 4 [some (.ref (zad V 0)), some (.int (zI x1)), some (.int (zI x2))] [] d := by
  refine zP_iload_n (pc := 4) C (x := zI x2) dX11_off_4 rfl rfl ?_
  refine zP_aload_n (pc := 5) C (x := zad V 0) dX11_off_5 rfl rfl ?_
  refine zP_getR (pc := 6) (a := 0) (t := 1) C g11_10 dX11_off_6 (s_X11 hT) rfl ?_
  refine zP_getI (pc := 9) (a := 1) C g11_115 dX11_off_9 (s_X6 (o_X11_setup hT)) rfl h fun v9 hv9 h => ?_
  refine zP_icmp_ge (pc := 12) (tgt := 42) C dX11_off_12 rfl hx2 hv9 h (fun _ h => ?_) (fun _ h => ?_)
  · refine zP_iload_n (pc := 42) C (x := zI x1) dX11_off_42 rfl rfl ?_
    exact zP_iret (pc := 43) C E dX11_off_43 hx1 h
  · refine zP_aload_n (pc := 15) C (x := zad V 0) dX11_off_15 rfl rfl ?_
    refine zP_getR (pc := 16) (a := 0) (t := 30) C g11_21 dX11_off_16 (s_X11 hT) rfl ?_
    refine zP_getR (pc := 19) (a := 30) (t := 30 + 15) C g11_199 dX11_off_19 (s_X2 (o_X11_line hT)) rfl ?_
    refine zP_getR (pc := 22) (a := 30 + 15) (t := 30 + 17) C g11_203 dX11_off_22 (s_X8 (o_X11_line hT)) rfl ?_
    refine zP_iload_n (pc := 25) C (x := zI x2) dX11_off_25 rfl rfl ?_
    refine zP_iald (pc := 26) (a := 30 + 17) C dX11_off_26 (s_X8_on (o_X11_line hT)) hx2 h fun v26 hv26 h => ?_
    refine zP_if_ne (pc := 27) (tgt := 36) C dX11_off_27 rfl hv26 h (fun _ h => ?_) (fun _ h => ?_)
    · refine zP_iinc (pc := 36) C (x := x2) dX11_off_36 rfl (Nat.le_of_ble_eq_true rfl) rfl h fun v36 hv36 h => ?_
      show zP V X 3 0 0 39 [some (.ref (zad V 0)), some (.int (zI x1)), some (.int (zI v36))] _ _
      refine zP_goto (pc := 39) (tgt := 4) C dX11_off_39 rfl ?_
      exact zP_mask [true, true, true] (hr4 hx1 hv36 h)
    · refine zP_iload_n (pc := 30) C (x := zI x1) dX11_off_30 rfl rfl ?_
      refine zP_iconst (pc := 31) C dX11_off_31 ?_
      refine zP_iload_n (pc := 32) C (x := zI x2) dX11_off_32 rfl rfl ?_
      refine zP_ishl (pc := 33) C dX11_off_33 h fun v33 hv33 h => ?_
      refine zP_ior (pc := 34) C dX11_off_34 h fun v34 hv34 h => ?_
      refine zP_istore_n (pc := 35) C (L' := [some (.ref (zad V 0)), some (.int (zI v34)), some (.int (zI x2))]) dX11_off_35 rfl (Nat.le_of_ble_eq_true rfl) rfl rfl ?_
      refine zP_iinc (pc := 36) C (x := x2) dX11_off_36 rfl (Nat.le_of_ble_eq_true rfl) rfl h fun v36 hv36 h => ?_
      show zP V X 3 0 0 39 [some (.ref (zad V 0)), some (.int (zI v34)), some (.int (zI v36))] _ _
      refine zP_goto (pc := 39) (tgt := 4) C dX11_off_39 rfl ?_
      exact zP_mask [true, true, true] (hr4 hv34 hv36 h)
def l_X11_off_4   : Nat → Int → Int → zD → Option (Int × zD)
  | 0, _, _, _ => none
  | q + 1, x1, x2, d => l_X11_off_4F   (l_X11_off_4   q) x1 x2 d
theorem wl_X11_off_4 {V : zW} {X : zX}  (hT : zo11 V) (C : zOk V X cX11_off RX11 3 (zrm 0) (some .int)) {rv : Int} {dz : zD} (E : zEnd V X (some (.int (zI rv))) (zR rv) dz)  : ∀ (q : Nat) {x1 x2 : Int} (hx1 : zR x1) (hx2 : zR x2) {d : zD} (h : l_X11_off_4   q x1 x2 d = some (rv, dz)), zP V X 3 0 0 4 [some (.ref (zad V 0)), some (.int (zI x1)), some (.int (zI x2))] [] d := by
  intro q
  induction q with
  | zero => intro x1 x2 hx1 hx2 d h; cases (show (none : Option (Int × zD)) = some (rv, dz) from h)
  | succ q ih =>
    intro x1 x2 hx1 hx2 d h
    exact wl_X11_off_4F hT C E  (fun  hx1 hx2 h => ih hx1 hx2 h) hx1 hx2 h
def f_X11_off  (d : zD) : Option (Int × zD) :=
  l_X11_off_4   zF 0 0 d
theorem t_X11_off {V : zW}  (hT : zo11 V)   {d dz : zD} {rv : Int} (h : f_X11_off   d = some (rv, dz)) : zMet V 0 yX11_off cX11_off 3 (some .int) [.ref (zad V 0)] d (some (.int (zI rv))) (zR rv) dz := by
  refine zMet_by RX11 pn11 rfl (Nat.le_of_ble_eq_true rfl) [some (.ref (zad V 0)), none, none] rfl fun X C E => ?_
  refine zP_iconst (pc := 0) C dX11_off_0 ?_
  refine zP_istore_n (pc := 1) C (L' := [some (.ref (zad V 0)), some (.int (zI 0)), none]) dX11_off_1 rfl (Nat.le_of_ble_eq_true rfl) rfl rfl ?_
  refine zP_iconst (pc := 2) C dX11_off_2 ?_
  refine zP_istore_n (pc := 3) C (L' := [some (.ref (zad V 0)), some (.int (zI 0)), some (.int (zI 0))]) dX11_off_3 rfl (Nat.le_of_ble_eq_true rfl) rfl rfl ?_
  exact zP_mask [true, true, true] (wl_X11_off_4 hT C E  zF (zRk rfl) (zRk rfl) h)
def f_X11_nextKind  (d : zD) : Option (Int × zD) :=
  zl (d 30 10) fun v8 =>
  zl (zw (v8 + 1)) fun v12 =>
  zc (f_X1_choose 6 30 v12 d) fun _ d =>
  zl (d 6 1) fun v20 =>
  some (v20, d)
theorem t_X11_nextKind {V : zW}  (hT : zo11 V)   {d dz : zD} {rv : Int} (h : f_X11_nextKind   d = some (rv, dz)) : zMet V 4 yX11_nextKind cX11_nextKind 1 (some .int) [.ref (zad V 0)] d (some (.int (zI rv))) (zR rv) dz := by
  refine zMet_by RX11 pn11 rfl (Nat.le_of_ble_eq_true rfl) [some (.ref (zad V 0))] rfl fun X C E => ?_
  refine zP_aload_n (pc := 0) C (x := zad V 0) dX11_nextKind_0 rfl rfl ?_
  refine zP_getR (pc := 1) (a := 0) (t := 6) C g11_30 dX11_nextKind_1 (s_X11 hT) rfl ?_
  refine zP_aload_n (pc := 4) C (x := zad V 0) dX11_nextKind_4 rfl rfl ?_
  refine zP_getR (pc := 5) (a := 0) (t := 30) C g11_21 dX11_nextKind_5 (s_X11 hT) rfl ?_
  refine zP_getI (pc := 8) (a := 30) C g11_167 dX11_nextKind_8 (s_X2 (o_X11_line hT)) rfl h fun v8 hv8 h => ?_
  refine zP_iconst (pc := 11) C dX11_nextKind_11 ?_
  refine zP_iadd (pc := 12) C dX11_nextKind_12 h fun v12 hv12 h => ?_
  obtain ⟨_, d1, hc, h⟩ := zc_h h
  refine zP_callV (pc := 13) (As := [.int (zI v12)]) (st := []) C m11_313 dX11_nextKind_13 (s_X1 (o_X11_host hT)) rfl (t_X1_choose (o_X11_host hT) hv12 hc) ⟨Nat.le_of_ble_eq_true rfl, Nat.le_of_ble_eq_true rfl⟩ rfl (Nat.le_of_ble_eq_true rfl) ⟨Nat.zero_le _, Nat.zero_le _⟩ fun hw => ?_
  clear hc hw
  show zP V X 1 0 0 16 _ [] d1
  revert h
  generalize d1 = d
  intro h
  refine zP_aload_n (pc := 16) C (x := zad V 0) dX11_nextKind_16 rfl rfl ?_
  refine zP_getR (pc := 17) (a := 0) (t := 6) C g11_30 dX11_nextKind_17 (s_X11 hT) rfl ?_
  refine zP_getI (pc := 20) (a := 6) C g11_316 dX11_nextKind_20 (s_X1 (o_X11_host hT)) rfl h fun v20 hv20 h => ?_
  exact zP_iret (pc := 23) C E dX11_nextKind_23 hv20 h
def f_X11_nextTerminal  (d : zD) : Option (Int × zD) :=
  zl (d 30 10) fun v8 =>
  zl (zw (v8 + 1)) fun v12 =>
  zc (f_X1_choose 6 30 v12 d) fun _ d =>
  zl (d 6 2) fun v20 =>
  some (v20, d)
theorem t_X11_nextTerminal {V : zW}  (hT : zo11 V)   {d dz : zD} {rv : Int} (h : f_X11_nextTerminal   d = some (rv, dz)) : zMet V 4 yX11_nextTerminal cX11_nextTerminal 1 (some .int) [.ref (zad V 0)] d (some (.int (zI rv))) (zR rv) dz := by
  refine zMet_by RX11 pn11 rfl (Nat.le_of_ble_eq_true rfl) [some (.ref (zad V 0))] rfl fun X C E => ?_
  refine zP_aload_n (pc := 0) C (x := zad V 0) dX11_nextTerminal_0 rfl rfl ?_
  refine zP_getR (pc := 1) (a := 0) (t := 6) C g11_30 dX11_nextTerminal_1 (s_X11 hT) rfl ?_
  refine zP_aload_n (pc := 4) C (x := zad V 0) dX11_nextTerminal_4 rfl rfl ?_
  refine zP_getR (pc := 5) (a := 0) (t := 30) C g11_21 dX11_nextTerminal_5 (s_X11 hT) rfl ?_
  refine zP_getI (pc := 8) (a := 30) C g11_167 dX11_nextTerminal_8 (s_X2 (o_X11_line hT)) rfl h fun v8 hv8 h => ?_
  refine zP_iconst (pc := 11) C dX11_nextTerminal_11 ?_
  refine zP_iadd (pc := 12) C dX11_nextTerminal_12 h fun v12 hv12 h => ?_
  obtain ⟨_, d1, hc, h⟩ := zc_h h
  refine zP_callV (pc := 13) (As := [.int (zI v12)]) (st := []) C m11_313 dX11_nextTerminal_13 (s_X1 (o_X11_host hT)) rfl (t_X1_choose (o_X11_host hT) hv12 hc) ⟨Nat.le_of_ble_eq_true rfl, Nat.le_of_ble_eq_true rfl⟩ rfl (Nat.le_of_ble_eq_true rfl) ⟨Nat.zero_le _, Nat.zero_le _⟩ fun hw => ?_
  clear hc hw
  show zP V X 1 0 0 16 _ [] d1
  revert h
  generalize d1 = d
  intro h
  refine zP_aload_n (pc := 16) C (x := zad V 0) dX11_nextTerminal_16 rfl rfl ?_
  refine zP_getR (pc := 17) (a := 0) (t := 6) C g11_30 dX11_nextTerminal_17 (s_X11 hT) rfl ?_
  refine zP_getI (pc := 20) (a := 6) C g11_319 dX11_nextTerminal_20 (s_X1 (o_X11_host hT)) rfl h fun v20 hv20 h => ?_
  exact zP_iret (pc := 23) C E dX11_nextTerminal_23 hv20 h
def l_X11_gap_13F  (r13 : Int → Int → zD → Option (Int × zD)) (x1 x2 : Int) (d : zD) : Option (Int × zD) :=
  if (4 : Int) ≤ x2 then (
    some (x1, d))
  else (
    zc (f_X3_countIn 30 x2 d) fun v27 d =>
    zl (zw (x1 - v27)) fun v30 =>
    zl (zw (x2 + 1)) fun v32 =>
    r13 v30 v32 d)
theorem wl_X11_gap_13F {V : zW} {X : zX}  (hT : zo11 V) (C : zOk V X cX11_gap RX11 3 (zrm 1) (some .int)) {rv : Int} {dz : zD} (E : zEnd V X (some (.int (zI rv))) (zR rv) dz) {r13 : Int → Int → zD → Option (Int × zD)} (hr13 : ∀ {x1 x2 : Int} {d : zD}, zR x1 → zR x2 → r13 x1 x2 d = some (rv, dz) → zP V X 3 0 0 13 [some (.ref (zad V 0)), some (.int (zI x1)), some (.int (zI x2))] [] d) {x1 x2 : Int} (hx1 : zR x1) (hx2 : zR x2) {d : zD} (h : l_X11_gap_13F  r13 x1 x2 d = some (rv, dz)) : zP V X 3 0 0 13 [some (.ref (zad V 0)), some (.int (zI x1)), some (.int (zI x2))] [] d := by
  refine zP_iload_n (pc := 13) C (x := zI x2) dX11_gap_13 rfl rfl ?_
  refine zP_iconst (pc := 14) C dX11_gap_14 ?_
  refine zP_icmp_ge (pc := 15) (tgt := 38) C dX11_gap_15 rfl hx2 (zRk rfl) h (fun _ h => ?_) (fun _ h => ?_)
  · refine zP_iload_n (pc := 38) C (x := zI x1) dX11_gap_38 rfl rfl ?_
    exact zP_iret (pc := 39) C E dX11_gap_39 hx1 h
  · refine zP_iload_n (pc := 18) C (x := zI x1) dX11_gap_18 rfl rfl ?_
    refine zP_aload_n (pc := 19) C (x := zad V 0) dX11_gap_19 rfl rfl ?_
    refine zP_getR (pc := 20) (a := 0) (t := 30) C g11_21 dX11_gap_20 (s_X11 hT) rfl ?_
    refine zP_getR (pc := 23) (a := 30) (t := 30 + 1) C g11_144 dX11_gap_23 (s_X2 (o_X11_line hT)) rfl ?_
    refine zP_iload_n (pc := 26) C (x := zI x2) dX11_gap_26 rfl rfl ?_
    obtain ⟨v27, d1, hc, h⟩ := zc_h h
    refine zP_callV (pc := 27) (As := [.int (zI x2)]) (st := [.int (zI x1)]) C m11_195 dX11_gap_27 (s_X3 (o_X11_line hT)) rfl (t_X3_countIn (o_X11_line hT) hx2 hc) ⟨Nat.le_of_ble_eq_true rfl, Nat.le_of_ble_eq_true rfl⟩ rfl (Nat.le_of_ble_eq_true rfl) ⟨Nat.zero_le _, Nat.zero_le _⟩ fun hw => ?_
    have hv27 := hw
    clear hc hw
    show zP V X 3 0 0 30 _ [.int (zI v27), .int (zI x1)] d1
    revert h
    generalize d1 = d
    intro h
    refine zP_isub (pc := 30) C dX11_gap_30 h fun v30 hv30 h => ?_
    refine zP_istore_n (pc := 31) C (L' := [some (.ref (zad V 0)), some (.int (zI v30)), some (.int (zI x2))]) dX11_gap_31 rfl (Nat.le_of_ble_eq_true rfl) rfl rfl ?_
    refine zP_iinc (pc := 32) C (x := x2) dX11_gap_32 rfl (Nat.le_of_ble_eq_true rfl) rfl h fun v32 hv32 h => ?_
    show zP V X 3 0 0 35 [some (.ref (zad V 0)), some (.int (zI v30)), some (.int (zI v32))] _ _
    refine zP_goto (pc := 35) (tgt := 13) C dX11_gap_35 rfl ?_
    exact zP_mask [true, true, true] (hr13 hv30 hv32 h)
def l_X11_gap_13   : Nat → Int → Int → zD → Option (Int × zD)
  | 0, _, _, _ => none
  | q + 1, x1, x2, d => l_X11_gap_13F   (l_X11_gap_13   q) x1 x2 d
theorem wl_X11_gap_13 {V : zW} {X : zX}  (hT : zo11 V) (C : zOk V X cX11_gap RX11 3 (zrm 1) (some .int)) {rv : Int} {dz : zD} (E : zEnd V X (some (.int (zI rv))) (zR rv) dz)  : ∀ (q : Nat) {x1 x2 : Int} (hx1 : zR x1) (hx2 : zR x2) {d : zD} (h : l_X11_gap_13   q x1 x2 d = some (rv, dz)), zP V X 3 0 0 13 [some (.ref (zad V 0)), some (.int (zI x1)), some (.int (zI x2))] [] d := by
  intro q
  induction q with
  | zero => intro x1 x2 hx1 hx2 d h; cases (show (none : Option (Int × zD)) = some (rv, dz) from h)
  | succ q ih =>
    intro x1 x2 hx1 hx2 d h
    exact wl_X11_gap_13F hT C E  (fun  hx1 hx2 h => ih hx1 hx2 h) hx1 hx2 h
def f_X11_gap  (d : zD) : Option (Int × zD) :=
  zl (d (30 + 1) 0) fun v7 =>
  l_X11_gap_13   zF v7 0 d
theorem t_X11_gap {V : zW}  (hT : zo11 V)   {d dz : zD} {rv : Int} (h : f_X11_gap   d = some (rv, dz)) : zMet V 1 yX11_gap cX11_gap 3 (some .int) [.ref (zad V 0)] d (some (.int (zI rv))) (zR rv) dz := by
  refine zMet_by RX11 pn11 rfl (Nat.le_of_ble_eq_true rfl) [some (.ref (zad V 0)), none, none] rfl fun X C E => ?_
  refine zP_aload_n (pc := 0) C (x := zad V 0) dX11_gap_0 rfl rfl ?_
  refine zP_getR (pc := 1) (a := 0) (t := 30) C g11_21 dX11_gap_1 (s_X11 hT) rfl ?_
  refine zP_getR (pc := 4) (a := 30) (t := 30 + 1) C g11_144 dX11_gap_4 (s_X2 (o_X11_line hT)) rfl ?_
  refine zP_getI (pc := 7) (a := 30 + 1) C g11_188 dX11_gap_7 (s_X3 (o_X11_line hT)) rfl h fun v7 hv7 h => ?_
  refine zP_istore_n (pc := 10) C (L' := [some (.ref (zad V 0)), some (.int (zI v7)), none]) dX11_gap_10 rfl (Nat.le_of_ble_eq_true rfl) rfl rfl ?_
  refine zP_iconst (pc := 11) C dX11_gap_11 ?_
  refine zP_istore_n (pc := 12) C (L' := [some (.ref (zad V 0)), some (.int (zI v7)), some (.int (zI 0))]) dX11_gap_12 rfl (Nat.le_of_ble_eq_true rfl) rfl rfl ?_
  exact zP_mask [true, true, true] (wl_X11_gap_13 hT C E  zF hv7 (zRk rfl) h)
def l_X11_quietIn_13F  (r13 : Int → zD → Option (Int × zD)) (x1 : Int) (d : zD) : Option (Int × zD) :=
  if (200 : Int) < x1 then (
    some ((-1), d))
  else (
    zc (f_X2_delivered 60  d) fun v24 d =>
    zl (d (60 + 1) 0) fun v34 =>
    if (v24 : Int) = v34 then (
      some (x1, d))
    else (
      zc (f_X1_makeTurn 7 60  d) fun _ d =>
      zl (zw (x1 + 1)) fun v49 =>
      r13 v49 d))
theorem wl_X11_quietIn_13F {V : zW} {X : zX}  (hT : zo11 V) (C : zOk V X cX11_quietIn RX11 2 (zrm 5) (some .int)) {rv : Int} {dz : zD} (E : zEnd V X (some (.int (zI rv))) (zR rv) dz) {r13 : Int → zD → Option (Int × zD)} (hr13 : ∀ {x1 : Int} {d : zD}, zR x1 → r13 x1 d = some (rv, dz) → zP V X 2 0 0 13 [some (.ref (zad V 0)), some (.int (zI x1))] [] d) {x1 : Int} (hx1 : zR x1) {d : zD} (h : l_X11_quietIn_13F  r13 x1 d = some (rv, dz)) : zP V X 2 0 0 13 [some (.ref (zad V 0)), some (.int (zI x1))] [] d := by
  refine zP_iload_n (pc := 13) C (x := zI x1) dX11_quietIn_13 rfl rfl ?_
  refine zP_sipush (pc := 14) C dX11_quietIn_14 rfl ?_
  refine zP_icmp_gt (pc := 17) (tgt := 55) C dX11_quietIn_17 rfl hx1 (zRk rfl) h (fun _ h => ?_) (fun _ h => ?_)
  · refine zP_iconst (pc := 55) C dX11_quietIn_55 ?_
    exact zP_iret (pc := 56) C E dX11_quietIn_56 (zRk rfl) h
  · refine zP_aload_n (pc := 20) C (x := zad V 0) dX11_quietIn_20 rfl rfl ?_
    refine zP_getR (pc := 21) (a := 0) (t := 60) C g11_34 dX11_quietIn_21 (s_X11 hT) rfl ?_
    obtain ⟨v24, d1, hc, h⟩ := zc_h h
    refine zP_callV (pc := 24) (As := []) (st := []) C m11_324 dX11_quietIn_24 (s_X2 (o_X11_copy hT)) rfl (t_X2_delivered (o_X11_copy hT)  hc) ⟨Nat.le_of_ble_eq_true rfl, Nat.le_of_ble_eq_true rfl⟩ rfl (Nat.le_of_ble_eq_true rfl) ⟨Nat.zero_le _, Nat.zero_le _⟩ fun hw => ?_
    have hv24 := hw
    clear hc hw
    show zP V X 2 0 0 27 _ [.int (zI v24)] d1
    revert h
    generalize d1 = d
    intro h
    refine zP_aload_n (pc := 27) C (x := zad V 0) dX11_quietIn_27 rfl rfl ?_
    refine zP_getR (pc := 28) (a := 0) (t := 60) C g11_34 dX11_quietIn_28 (s_X11 hT) rfl ?_
    refine zP_getR (pc := 31) (a := 60) (t := 60 + 1) C g11_144 dX11_quietIn_31 (s_X2 (o_X11_copy hT)) rfl ?_
    refine zP_getI (pc := 34) (a := 60 + 1) C g11_188 dX11_quietIn_34 (s_X3 (o_X11_copy hT)) rfl h fun v34 hv34 h => ?_
    refine zP_icmp_ne (pc := 37) (tgt := 42) C dX11_quietIn_37 rfl hv24 hv34 h (fun _ h => ?_) (fun _ h => ?_)
    · refine zP_aload_n (pc := 42) C (x := zad V 0) dX11_quietIn_42 rfl rfl ?_
      refine zP_getR (pc := 43) (a := 0) (t := 7) C g11_37 dX11_quietIn_43 (s_X11 hT) rfl ?_
      obtain ⟨_, d1, hc, h⟩ := zc_h h
      refine zP_callV (pc := 46) (As := []) (st := []) C m11_327 dX11_quietIn_46 (s_X1 (o_X11_copyHost hT)) rfl (t_X1_makeTurn (o_X11_copyHost hT)  hc) ⟨Nat.le_of_ble_eq_true rfl, Nat.le_of_ble_eq_true rfl⟩ rfl (Nat.le_of_ble_eq_true rfl) ⟨Nat.zero_le _, Nat.zero_le _⟩ fun hw => ?_
      clear hc hw
      show zP V X 2 0 0 49 _ [] d1
      revert h
      generalize d1 = d
      intro h
      refine zP_iinc (pc := 49) C (x := x1) dX11_quietIn_49 rfl (Nat.le_of_ble_eq_true rfl) rfl h fun v49 hv49 h => ?_
      show zP V X 2 0 0 52 [some (.ref (zad V 0)), some (.int (zI v49))] _ _
      refine zP_goto (pc := 52) (tgt := 13) C dX11_quietIn_52 rfl ?_
      exact zP_mask [true, true] (hr13 hv49 h)
    · refine zP_iload_n (pc := 40) C (x := zI x1) dX11_quietIn_40 rfl rfl ?_
      exact zP_iret (pc := 41) C E dX11_quietIn_41 hx1 h
def l_X11_quietIn_13   : Nat → Int → zD → Option (Int × zD)
  | 0, _, _ => none
  | q + 1, x1, d => l_X11_quietIn_13F   (l_X11_quietIn_13   q) x1 d
theorem wl_X11_quietIn_13 {V : zW} {X : zX}  (hT : zo11 V) (C : zOk V X cX11_quietIn RX11 2 (zrm 5) (some .int)) {rv : Int} {dz : zD} (E : zEnd V X (some (.int (zI rv))) (zR rv) dz)  : ∀ (q : Nat) {x1 : Int} (hx1 : zR x1) {d : zD} (h : l_X11_quietIn_13   q x1 d = some (rv, dz)), zP V X 2 0 0 13 [some (.ref (zad V 0)), some (.int (zI x1))] [] d := by
  intro q
  induction q with
  | zero => intro x1 hx1 d h; cases (show (none : Option (Int × zD)) = some (rv, dz) from h)
  | succ q ih =>
    intro x1 hx1 d h
    exact wl_X11_quietIn_13F hT C E  (fun  hx1 h => ih hx1 h) hx1 h
def f_X11_quietIn  (d : zD) : Option (Int × zD) :=
  zc (f_X2_copyFrom 60 30  d) fun _ d =>
  l_X11_quietIn_13   zF 0 d
theorem t_X11_quietIn {V : zW}  (hT : zo11 V)   {d dz : zD} {rv : Int} (h : f_X11_quietIn   d = some (rv, dz)) : zMet V 5 yX11_quietIn cX11_quietIn 2 (some .int) [.ref (zad V 0)] d (some (.int (zI rv))) (zR rv) dz := by
  refine zMet_by RX11 pn11 rfl (Nat.le_of_ble_eq_true rfl) [some (.ref (zad V 0)), none] rfl fun X C E => ?_
  refine zP_aload_n (pc := 0) C (x := zad V 0) dX11_quietIn_0 rfl rfl ?_
  refine zP_getR (pc := 1) (a := 0) (t := 60) C g11_34 dX11_quietIn_1 (s_X11 hT) rfl ?_
  refine zP_aload_n (pc := 4) C (x := zad V 0) dX11_quietIn_4 rfl rfl ?_
  refine zP_getR (pc := 5) (a := 0) (t := 30) C g11_21 dX11_quietIn_5 (s_X11 hT) rfl ?_
  obtain ⟨_, d1, hc, h⟩ := zc_h h
  refine zP_callV (pc := 8) (As := [.ref (zad V 30)]) (st := []) C m11_322 dX11_quietIn_8 (s_X2 (o_X11_copy hT)) rfl (t_X2_copyFrom (o_X11_copy hT) (o_X11_line hT)  hc) ⟨Nat.le_of_ble_eq_true rfl, Nat.le_of_ble_eq_true rfl⟩ rfl (Nat.le_of_ble_eq_true rfl) ⟨Nat.zero_le _, Nat.zero_le _⟩ fun hw => ?_
  clear hc hw
  show zP V X 2 0 0 11 _ [] d1
  revert h
  generalize d1 = d
  intro h
  refine zP_iconst (pc := 11) C dX11_quietIn_11 ?_
  refine zP_istore_n (pc := 12) C (L' := [some (.ref (zad V 0)), some (.int (zI 0))]) dX11_quietIn_12 rfl (Nat.le_of_ble_eq_true rfl) rfl rfl ?_
  exact zP_mask [true, true] (wl_X11_quietIn_13 hT C E  zF (zRk rfl) h)
def f_X11_deliveredWith  (x1 x2 x3 : Int) (d : zD) : Option (Int × zD) :=
  zc (f_X2_copyFrom 60 30  d) fun _ d =>
  zg 6 x1 <| zl (zu d (60 + 27) (x1 : Int).toNat x2) fun d =>
  zc (f_X1_makeTurns 7 60 x3 d) fun _ d =>
  zc (f_X2_delivered 60  d) fun v33 d =>
  some (v33, d)
def l_X11_worst_6F  (r6 : Int → Int → Int → zD → Option (Int × zD)) (x1 x2 x3 : Int) (d : zD) : Option (Int × zD) :=
  zl (d 1 0) fun v11 =>
  if (v11 : Int) ≤ x3 then (
    some (x1, d))
  else (
    zc (f_X8_oftenOf 30 3 x3 d) fun v26 d =>
    if (v26 : Int) ≤ x2 then (
      zl (zw (x3 + 1)) fun v42 =>
      r6 x1 x2 v42 d)
    else (
      zl (zw (x3 + 1)) fun v42 =>
      r6 x3 v26 v42 d))
def l_X11_worst_6   : Nat → Int → Int → Int → zD → Option (Int × zD)
  | 0, _, _, _, _ => none
  | q + 1, x1, x2, x3, d => l_X11_worst_6F   (l_X11_worst_6   q) x1 x2 x3 d
def f_X11_worst  (d : zD) : Option (Int × zD) :=
  l_X11_worst_6   zF (-1) 0 0 d
def f_X11_isParty  (x1 : Int) (d : zD) : Option (Int × zD) :=
  if (x1 : Int) = (-1) then (
    some (1, d))
  else (
    zc (f_X6_has 1 x1 d) fun v10 d =>
    if (v10 : Int) = 0 then (
      some (0, d))
    else (
      some (1, d)))
theorem t_X11_isParty {V : zW}  (hT : zo11 V) {x1 : Int} (hx1 : zR x1) {d dz : zD} {rv : Int} (h : f_X11_isParty  x1 d = some (rv, dz)) : zMet V 1 yX11_isParty cX11_isParty 2 (some .boolean) [.ref (zad V 0), .int (zI x1)] d (some (.int (zI rv))) (rv = 0 ∨ rv = 1) dz := by
  refine zMet_by RX11 pn11 rfl (Nat.le_of_ble_eq_true rfl) [some (.ref (zad V 0)), some (.int (zI x1))] rfl fun X C E => ?_
  refine zP_iload_n (pc := 0) C (x := zI x1) dX11_isParty_0 rfl rfl ?_
  refine zP_iconst (pc := 1) C dX11_isParty_1 ?_
  refine zP_icmp_eq (pc := 2) (tgt := 16) C dX11_isParty_2 rfl hx1 (zRk rfl) h (fun _ h => ?_) (fun _ h => ?_)
  · refine zP_iconst (pc := 16) C dX11_isParty_16 ?_
    refine zP_goto (pc := 17) (tgt := 21) C dX11_isParty_17 rfl ?_
    exact zP_zret (pc := 21) C E dX11_isParty_21 (Or.inr rfl) h
  · refine zP_aload_n (pc := 5) C (x := zad V 0) dX11_isParty_5 rfl rfl ?_
    refine zP_getR (pc := 6) (a := 0) (t := 1) C g11_10 dX11_isParty_6 (s_X11 hT) rfl ?_
    refine zP_iload_n (pc := 9) C (x := zI x1) dX11_isParty_9 rfl rfl ?_
    obtain ⟨v10, d1, hc, h⟩ := zc_h h
    refine zP_callV (pc := 10) (As := [.int (zI x1)]) (st := []) C m11_224 dX11_isParty_10 (s_X6 (o_X11_setup hT)) rfl (t_X6_has (o_X11_setup hT) hx1 hc) ⟨Nat.le_of_ble_eq_true rfl, Nat.le_of_ble_eq_true rfl⟩ rfl (Nat.le_of_ble_eq_true rfl) ⟨Nat.zero_le _, Nat.zero_le _⟩ fun hw => ?_
    have hbv10 := hw
    have hv10 := z01 hw
    clear hc hw
    show zP V X 2 0 0 13 _ [.int (zI v10)] d1
    revert h
    generalize d1 = d
    intro h
    refine zP_if_eq (pc := 13) (tgt := 20) C dX11_isParty_13 rfl hv10 h (fun _ h => ?_) (fun _ h => ?_)
    · refine zP_iconst (pc := 20) C dX11_isParty_20 ?_
      exact zP_zret (pc := 21) C E dX11_isParty_21 (Or.inl rfl) h
    · refine zP_iconst (pc := 16) C dX11_isParty_16 ?_
      refine zP_goto (pc := 17) (tgt := 21) C dX11_isParty_17 rfl ?_
      exact zP_zret (pc := 21) C E dX11_isParty_21 (Or.inr rfl) h
def f_X11_writeByte  (x1 : Int) (d : zD) : Option (Int × zD) :=
  zl (d 0 11) fun v1 =>
  if (160 : Int) ≤ v1 then (
    some (0, d))
  else (
    zl (d 0 11) fun v15 =>
    zg 160 v15 <| zl (zu d 25 (v15 : Int).toNat x1) fun d =>
    zl (d 0 11) fun v22 =>
    zl (zw (v22 + 1)) fun v26 =>
    zl (zu d 0 11 v26) fun d =>
    some (0, d))
def l_X11_writeName_2F  (r2 : Int → Int → zD → Option (Int × zD)) (x1 x2 : Int) (d : zD) : Option (Int × zD) :=
  if (6 : Int) ≤ x2 then (
    some (0, d))
  else (
    zc (f_X6_letterOf 1 x1 x2 d) fun v14 d =>
    if (v14 : Int) ≤ 0 then (
      zl (zw (x2 + 1)) fun v32 =>
      r2 x1 v32 d)
    else (
      zl (zw (97 + v14)) fun v26 =>
      zl (zw (v26 - 1)) fun v28 =>
      zc (f_X11_writeByte  v28 d) fun _ d =>
      zl (zw (x2 + 1)) fun v32 =>
      r2 x1 v32 d))
def l_X11_writeName_2   : Nat → Int → Int → zD → Option (Int × zD)
  | 0, _, _, _ => none
  | q + 1, x1, x2, d => l_X11_writeName_2F   (l_X11_writeName_2   q) x1 x2 d
def f_X11_writeName  (x1 : Int) (d : zD) : Option (Int × zD) :=
  l_X11_writeName_2   zF x1 0 d
def j_X11_writeNumber_17   (x1 : Int) (d : zD) : Option (Int × zD) :=
  zn 10 <| zl (zrem x1 10) fun v23 =>
  zl (zw (48 + v23)) fun v24 =>
  zc (f_X11_writeByte  v24 d) fun _ d =>
  some (0, d)
def f_X11_writeNumber  (x1 : Int) (d : zD) : Option (Int × zD) :=
  if (x1 : Int) < 10 then (
    j_X11_writeNumber_17   x1 d)
  else (
    zn 10 <| zl (zdiv x1 10) fun v12 =>
    zl (zw (48 + v12)) fun v13 =>
    zc (f_X11_writeByte  v13 d) fun _ d =>
    j_X11_writeNumber_17   x1 d)
def j_X11_printTerminals_94  (r7 : Int → zD → Option (Int × zD)) (r77 : Int → Int → zD → Option (Int × zD)) (x1 x2 s0 : Int) (d : zD) : Option (Int × zD) :=
  zc (f_X11_writeByte  s0 d) fun _ d =>
  zc (f_X4_sizeOf 30 x2 x1 d) fun v107 d =>
  zc (f_X11_writeNumber  v107 d) fun _ d =>
  zl (zw (x2 + 1)) fun v113 =>
  r77 x1 v113 d
def l_X11_printTerminals_77F  (r7 : Int → zD → Option (Int × zD)) (r77 : Int → Int → zD → Option (Int × zD)) (x1 x2 : Int) (d : zD) : Option (Int × zD) :=
  if (3 : Int) ≤ x2 then (
    zl (zw (x1 + 1)) fun v119 =>
    r7 v119 d)
  else (
    if (x2 : Int) = 0 then (
      j_X11_printTerminals_94  r7 r77 x1 x2 58 d)
    else (
      j_X11_printTerminals_94  r7 r77 x1 x2 47 d))
def l_X11_printTerminals_77  (r7 : Int → zD → Option (Int × zD)) : Nat → Int → Int → zD → Option (Int × zD)
  | 0, _, _, _ => none
  | q + 1, x1, x2, d => l_X11_printTerminals_77F  r7 (l_X11_printTerminals_77  r7 q) x1 x2 d
def j_X11_printTerminals_54  (r7 : Int → zD → Option (Int × zD)) (x1 : Int) (d : zD) : Option (Int × zD) :=
  zg 8 x1 <| zl (d (30 + 16) (x1 : Int).toNat) fun v65 =>
  if (v65 : Int) = 0 then (
    zc (f_X11_writeByte  120 d) fun _ d =>
    l_X11_printTerminals_77  r7 zF x1 0 d)
  else (
    l_X11_printTerminals_77  r7 zF x1 0 d)
def j_X11_printTerminals_28  (r7 : Int → zD → Option (Int × zD)) (x1 : Int) (d : zD) : Option (Int × zD) :=
  zc (f_X11_writeName  x1 d) fun _ d =>
  zg 8 x1 <| zl (d (30 + 17) (x1 : Int).toNat) fun v44 =>
  if (v44 : Int) = 0 then (
    zc (f_X11_writeByte  45 d) fun _ d =>
    j_X11_printTerminals_54  r7 x1 d)
  else (
    j_X11_printTerminals_54  r7 x1 d)
def l_X11_printTerminals_7F  (r7 : Int → zD → Option (Int × zD)) (x1 : Int) (d : zD) : Option (Int × zD) :=
  zl (d 1 0) fun v12 =>
  if (v12 : Int) ≤ x1 then (
    zl (d 0 11) fun v126 =>
    some (v126, d))
  else (
    if (x1 : Int) ≤ 0 then (
      j_X11_printTerminals_28  r7 x1 d)
    else (
      zc (f_X11_writeByte  32 d) fun _ d =>
      j_X11_printTerminals_28  r7 x1 d))
def l_X11_printTerminals_7   : Nat → Int → zD → Option (Int × zD)
  | 0, _, _ => none
  | q + 1, x1, d => l_X11_printTerminals_7F   (l_X11_printTerminals_7   q) x1 d
def f_X11_printTerminals  (d : zD) : Option (Int × zD) :=
  zl (zu d 0 11 0) fun d =>
  l_X11_printTerminals_7   zF 0 d
def j_X11_printList_28  (r7 : Int → zD → Option (Int × zD)) (x1 : Int) (d : zD) : Option (Int × zD) :=
  zg 16 x1 <| zl (d (30 + 29) (x1 : Int).toNat) fun v37 =>
  zc (f_X11_writeName  v37 d) fun _ d =>
  zl (zw (x1 + 1)) fun v41 =>
  r7 v41 d
def l_X11_printList_7F  (r7 : Int → zD → Option (Int × zD)) (x1 : Int) (d : zD) : Option (Int × zD) :=
  zl (d 30 8) fun v12 =>
  if (v12 : Int) ≤ x1 then (
    zl (d 0 11) fun v48 =>
    some (v48, d))
  else (
    if (x1 : Int) ≤ 0 then (
      j_X11_printList_28  r7 x1 d)
    else (
      zc (f_X11_writeByte  32 d) fun _ d =>
      j_X11_printList_28  r7 x1 d))
def l_X11_printList_7   : Nat → Int → zD → Option (Int × zD)
  | 0, _, _ => none
  | q + 1, x1, d => l_X11_printList_7F   (l_X11_printList_7   q) x1 d
def f_X11_printList  (d : zD) : Option (Int × zD) :=
  zl (zu d 0 11 0) fun d =>
  l_X11_printList_7   zF 0 d
def f_X11_outputByte  (x1 : Int) (d : zD) : Option (Int × zD) :=
  if (x1 : Int) < 0 then (
    some ((-1), d))
  else (
    zl (d 0 11) fun v6 =>
    if (x1 : Int) < v6 then (
      zg 160 x1 <| zl (d 25 (x1 : Int).toNat) fun v19 =>
      some (v19, d))
    else (
      some ((-1), d)))
def f_X11_saveState  (d : zD) : Option (Int × zD) :=
  zc (f_X2_copyFrom 90 30  d) fun _ d =>
  zl (zu d 0 12 1) fun d =>
  zl (d 30 9) fun v20 =>
  some (v20, d)
theorem t_X11_saveState {V : zW}  (hT : zo11 V)   {d dz : zD} {rv : Int} (h : f_X11_saveState   d = some (rv, dz)) : zMet V 4 yX11_saveState cX11_saveState 1 (some .int) [.ref (zad V 0)] d (some (.int (zI rv))) (zR rv) dz := by
  refine zMet_by RX11 pn11 rfl (Nat.le_of_ble_eq_true rfl) [some (.ref (zad V 0))] rfl fun X C E => ?_
  refine zP_aload_n (pc := 0) C (x := zad V 0) dX11_saveState_0 rfl rfl ?_
  refine zP_getR (pc := 1) (a := 0) (t := 90) C g11_40 dX11_saveState_1 (s_X11 hT) rfl ?_
  refine zP_aload_n (pc := 4) C (x := zad V 0) dX11_saveState_4 rfl rfl ?_
  refine zP_getR (pc := 5) (a := 0) (t := 30) C g11_21 dX11_saveState_5 (s_X11 hT) rfl ?_
  obtain ⟨_, d1, hc, h⟩ := zc_h h
  refine zP_callV (pc := 8) (As := [.ref (zad V 30)]) (st := []) C m11_322 dX11_saveState_8 (s_X2 (o_X11_saved hT)) rfl (t_X2_copyFrom (o_X11_saved hT) (o_X11_line hT)  hc) ⟨Nat.le_of_ble_eq_true rfl, Nat.le_of_ble_eq_true rfl⟩ rfl (Nat.le_of_ble_eq_true rfl) ⟨Nat.zero_le _, Nat.zero_le _⟩ fun hw => ?_
  clear hc hw
  show zP V X 1 0 0 11 _ [] d1
  revert h
  generalize d1 = d
  intro h
  refine zP_aload_n (pc := 11) C (x := zad V 0) dX11_saveState_11 rfl rfl ?_
  refine zP_iconst (pc := 12) C dX11_saveState_12 ?_
  refine zP_putZ (pc := 13) (a := 0) C p11_83 dX11_saveState_13 (s_X11 hT) rfl (Or.inr rfl) h fun d h => ?_
  refine zP_aload_n (pc := 16) C (x := zad V 0) dX11_saveState_16 rfl rfl ?_
  refine zP_getR (pc := 17) (a := 0) (t := 30) C g11_21 dX11_saveState_17 (s_X11 hT) rfl ?_
  refine zP_getI (pc := 20) (a := 30) C g11_189 dX11_saveState_20 (s_X2 (o_X11_line hT)) rfl h fun v20 hv20 h => ?_
  exact zP_iret (pc := 23) C E dX11_saveState_23 hv20 h
