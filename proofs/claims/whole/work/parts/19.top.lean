/-! The class' methods over the pure heap. -/
def f_X11_appendInput  (x1 x2 x3 x4 x5 : Int) (d : zD) : Option (Int × zD) :=
  zl (d 10 1) fun v4 =>
  if (v4 : Int) ≤ 580 then (
    zc (f_X9_addFourBytes  x1 d) fun _ d =>
    zc (f_X9_addFourBytes  x2 d) fun _ d =>
    zc (f_X9_addFourBytes  x3 d) fun _ d =>
    zc (f_X9_addFourBytes  x4 d) fun _ d =>
    zc (f_X9_addFourBytes  x5 d) fun _ d =>
    zl (d 10 1) fun v61 =>
    some (v61, d))
  else (
    some ((-1), d))
theorem t_X11_appendInput {V : zW}  (hT : zo11 V) {x1 x2 x3 x4 x5 : Int} (hx1 : zR x1) (hx2 : zR x2) (hx3 : zR x3) (hx4 : zR x4) (hx5 : zR x5) {d dz : zD} {rv : Int} (h : f_X11_appendInput  x1 x2 x3 x4 x5 d = some (rv, dz)) : zMet V 2 yX11_appendInput cX11_appendInput 6 (some .int) [.ref (zad V 0), .int (zI x1), .int (zI x2), .int (zI x3), .int (zI x4), .int (zI x5)] d (some (.int (zI rv))) (zR rv) dz := by
  refine zMet_by RX11 pn11 rfl (Nat.le_of_ble_eq_true rfl) [some (.ref (zad V 0)), some (.int (zI x1)), some (.int (zI x2)), some (.int (zI x3)), some (.int (zI x4)), some (.int (zI x5))] rfl fun X C E => ?_
  refine zP_aload_n (pc := 0) C (x := zad V 0) dX11_appendInput_0 rfl rfl ?_
  refine zP_getR (pc := 1) (a := 0) (t := 10) C g11_53 dX11_appendInput_1 (s_X11 hT) rfl ?_
  refine zP_getI (pc := 4) (a := 10) C g11_110 dX11_appendInput_4 (s_X9 (o_X11_tokens hT)) rfl h fun v4 hv4 h => ?_
  refine zP_sipush (pc := 7) C dX11_appendInput_7 rfl ?_
  refine zP_icmp_le (pc := 10) (tgt := 15) C dX11_appendInput_10 rfl hv4 (zRk rfl) h (fun _ h => ?_) (fun _ h => ?_)
  · refine zP_aload_n (pc := 15) C (x := zad V 0) dX11_appendInput_15 rfl rfl ?_
    refine zP_getR (pc := 16) (a := 0) (t := 10) C g11_53 dX11_appendInput_16 (s_X11 hT) rfl ?_
    refine zP_iload_n (pc := 19) C (x := zI x1) dX11_appendInput_19 rfl rfl ?_
    obtain ⟨_, d1, hc, h⟩ := zc_h h
    refine zP_callV (pc := 20) (As := [.int (zI x1)]) (st := []) C m11_112 dX11_appendInput_20 (s_X9 (o_X11_tokens hT)) rfl (t_X9_addFourBytes (o_X11_tokens hT) hx1 hc) ⟨Nat.le_of_ble_eq_true rfl, Nat.le_of_ble_eq_true rfl⟩ rfl (Nat.le_of_ble_eq_true rfl) ⟨Nat.zero_le _, Nat.zero_le _⟩ fun hw => ?_
    clear hc hw
    show zP V X 6 0 0 23 _ [] d1
    revert h
    generalize d1 = d
    intro h
    refine zP_aload_n (pc := 23) C (x := zad V 0) dX11_appendInput_23 rfl rfl ?_
    refine zP_getR (pc := 24) (a := 0) (t := 10) C g11_53 dX11_appendInput_24 (s_X11 hT) rfl ?_
    refine zP_iload_n (pc := 27) C (x := zI x2) dX11_appendInput_27 rfl rfl ?_
    obtain ⟨_, d1, hc, h⟩ := zc_h h
    refine zP_callV (pc := 28) (As := [.int (zI x2)]) (st := []) C m11_112 dX11_appendInput_28 (s_X9 (o_X11_tokens hT)) rfl (t_X9_addFourBytes (o_X11_tokens hT) hx2 hc) ⟨Nat.le_of_ble_eq_true rfl, Nat.le_of_ble_eq_true rfl⟩ rfl (Nat.le_of_ble_eq_true rfl) ⟨Nat.zero_le _, Nat.zero_le _⟩ fun hw => ?_
    clear hc hw
    show zP V X 6 0 0 31 _ [] d1
    revert h
    generalize d1 = d
    intro h
    refine zP_aload_n (pc := 31) C (x := zad V 0) dX11_appendInput_31 rfl rfl ?_
    refine zP_getR (pc := 32) (a := 0) (t := 10) C g11_53 dX11_appendInput_32 (s_X11 hT) rfl ?_
    refine zP_iload_n (pc := 35) C (x := zI x3) dX11_appendInput_35 rfl rfl ?_
    obtain ⟨_, d1, hc, h⟩ := zc_h h
    refine zP_callV (pc := 36) (As := [.int (zI x3)]) (st := []) C m11_112 dX11_appendInput_36 (s_X9 (o_X11_tokens hT)) rfl (t_X9_addFourBytes (o_X11_tokens hT) hx3 hc) ⟨Nat.le_of_ble_eq_true rfl, Nat.le_of_ble_eq_true rfl⟩ rfl (Nat.le_of_ble_eq_true rfl) ⟨Nat.zero_le _, Nat.zero_le _⟩ fun hw => ?_
    clear hc hw
    show zP V X 6 0 0 39 _ [] d1
    revert h
    generalize d1 = d
    intro h
    refine zP_aload_n (pc := 39) C (x := zad V 0) dX11_appendInput_39 rfl rfl ?_
    refine zP_getR (pc := 40) (a := 0) (t := 10) C g11_53 dX11_appendInput_40 (s_X11 hT) rfl ?_
    refine zP_iload (pc := 43) C (x := zI x4) dX11_appendInput_43 rfl ?_
    obtain ⟨_, d1, hc, h⟩ := zc_h h
    refine zP_callV (pc := 45) (As := [.int (zI x4)]) (st := []) C m11_112 dX11_appendInput_45 (s_X9 (o_X11_tokens hT)) rfl (t_X9_addFourBytes (o_X11_tokens hT) hx4 hc) ⟨Nat.le_of_ble_eq_true rfl, Nat.le_of_ble_eq_true rfl⟩ rfl (Nat.le_of_ble_eq_true rfl) ⟨Nat.zero_le _, Nat.zero_le _⟩ fun hw => ?_
    clear hc hw
    show zP V X 6 0 0 48 _ [] d1
    revert h
    generalize d1 = d
    intro h
    refine zP_aload_n (pc := 48) C (x := zad V 0) dX11_appendInput_48 rfl rfl ?_
    refine zP_getR (pc := 49) (a := 0) (t := 10) C g11_53 dX11_appendInput_49 (s_X11 hT) rfl ?_
    refine zP_iload (pc := 52) C (x := zI x5) dX11_appendInput_52 rfl ?_
    obtain ⟨_, d1, hc, h⟩ := zc_h h
    refine zP_callV (pc := 54) (As := [.int (zI x5)]) (st := []) C m11_112 dX11_appendInput_54 (s_X9 (o_X11_tokens hT)) rfl (t_X9_addFourBytes (o_X11_tokens hT) hx5 hc) ⟨Nat.le_of_ble_eq_true rfl, Nat.le_of_ble_eq_true rfl⟩ rfl (Nat.le_of_ble_eq_true rfl) ⟨Nat.zero_le _, Nat.zero_le _⟩ fun hw => ?_
    clear hc hw
    show zP V X 6 0 0 57 _ [] d1
    revert h
    generalize d1 = d
    intro h
    refine zP_aload_n (pc := 57) C (x := zad V 0) dX11_appendInput_57 rfl rfl ?_
    refine zP_getR (pc := 58) (a := 0) (t := 10) C g11_53 dX11_appendInput_58 (s_X11 hT) rfl ?_
    refine zP_getI (pc := 61) (a := 10) C g11_110 dX11_appendInput_61 (s_X9 (o_X11_tokens hT)) rfl h fun v61 hv61 h => ?_
    exact zP_iret (pc := 64) C E dX11_appendInput_64 hv61 h
  · refine zP_iconst (pc := 13) C dX11_appendInput_13 ?_
    exact zP_iret (pc := 14) C E dX11_appendInput_14 (zRk rfl) h
def f_X11_truncateInput  (x1 : Int) (d : zD) : Option (Int × zD) :=
  if (x1 : Int) < 0 then (
    some (0, d))
  else (
    zl (d 10 1) fun v9 =>
    if (x1 : Int) ≤ v9 then (
      zl (zu d 10 1 x1) fun d =>
      some (1, d))
    else (
      some (0, d)))
theorem t_X11_truncateInput {V : zW}  (hT : zo11 V) {x1 : Int} (hx1 : zR x1) {d dz : zD} {rv : Int} (h : f_X11_truncateInput  x1 d = some (rv, dz)) : zMet V 0 yX11_truncateInput cX11_truncateInput 2 (some .boolean) [.ref (zad V 0), .int (zI x1)] d (some (.int (zI rv))) (rv = 0 ∨ rv = 1) dz := by
  refine zMet_by RX11 pn11 rfl (Nat.le_of_ble_eq_true rfl) [some (.ref (zad V 0)), some (.int (zI x1))] rfl fun X C E => ?_
  refine zP_iload_n (pc := 0) C (x := zI x1) dX11_truncateInput_0 rfl rfl ?_
  refine zP_if_lt (pc := 1) (tgt := 15) C dX11_truncateInput_1 rfl hx1 h (fun _ h => ?_) (fun _ h => ?_)
  · refine zP_iconst (pc := 15) C dX11_truncateInput_15 ?_
    exact zP_zret (pc := 16) C E dX11_truncateInput_16 (Or.inl rfl) h
  · refine zP_iload_n (pc := 4) C (x := zI x1) dX11_truncateInput_4 rfl rfl ?_
    refine zP_aload_n (pc := 5) C (x := zad V 0) dX11_truncateInput_5 rfl rfl ?_
    refine zP_getR (pc := 6) (a := 0) (t := 10) C g11_53 dX11_truncateInput_6 (s_X11 hT) rfl ?_
    refine zP_getI (pc := 9) (a := 10) C g11_110 dX11_truncateInput_9 (s_X9 (o_X11_tokens hT)) rfl h fun v9 hv9 h => ?_
    refine zP_icmp_le (pc := 12) (tgt := 17) C dX11_truncateInput_12 rfl hx1 hv9 h (fun _ h => ?_) (fun _ h => ?_)
    · refine zP_aload_n (pc := 17) C (x := zad V 0) dX11_truncateInput_17 rfl rfl ?_
      refine zP_getR (pc := 18) (a := 0) (t := 10) C g11_53 dX11_truncateInput_18 (s_X11 hT) rfl ?_
      refine zP_iload_n (pc := 21) C (x := zI x1) dX11_truncateInput_21 rfl rfl ?_
      refine zP_putI (pc := 22) (a := 10) C p11_110 dX11_truncateInput_22 (s_X9 (o_X11_tokens hT)) rfl hx1 h fun d h => ?_
      refine zP_iconst (pc := 25) C dX11_truncateInput_25 ?_
      exact zP_zret (pc := 26) C E dX11_truncateInput_26 (Or.inr rfl) h
    · refine zP_iconst (pc := 15) C dX11_truncateInput_15 ?_
      exact zP_zret (pc := 16) C E dX11_truncateInput_16 (Or.inl rfl) h
def f_X11_beginAnew  (d : zD) : Option (Int × zD) :=
  zc (f_X6_copyFrom 1 13  d) fun _ d =>
  zc (f_X2_begin 30  d) fun _ d =>
  zl (zu d 8 2 0) fun d =>
  zl (zu d 0 12 0) fun d =>
  some (0, d)
theorem t_X11_beginAnew {V : zW}  (hT : zo11 V)   {d dz : zD} {rv : Int} (h : f_X11_beginAnew   d = some (rv, dz)) : zMet V 3 yX11_beginAnew cX11_beginAnew 1 none [.ref (zad V 0)] d none (rv = 0) dz := by
  refine zMet_by RX11 pn11 rfl (Nat.le_of_ble_eq_true rfl) [some (.ref (zad V 0))] rfl fun X C E => ?_
  refine zP_aload_n (pc := 0) C (x := zad V 0) dX11_beginAnew_0 rfl rfl ?_
  refine zP_getR (pc := 1) (a := 0) (t := 1) C g11_10 dX11_beginAnew_1 (s_X11 hT) rfl ?_
  refine zP_aload_n (pc := 4) C (x := zad V 0) dX11_beginAnew_4 rfl rfl ?_
  refine zP_getR (pc := 5) (a := 0) (t := 12) C g11_62 dX11_beginAnew_5 (s_X11 hT) rfl ?_
  refine zP_getR (pc := 8) (a := 12) (t := 13) C g11_118 dX11_beginAnew_8 (s_X7 (o_X11_setupReader hT)) rfl ?_
  obtain ⟨_, d1, hc, h⟩ := zc_h h
  refine zP_callV (pc := 11) (As := [.ref (zad V 13)]) (st := []) C m11_121 dX11_beginAnew_11 (s_X6 (o_X11_setup hT)) rfl (t_X6_copyFrom (o_X11_setup hT) (o_X7_draft (o_X11_setupReader hT))  hc) ⟨Nat.le_of_ble_eq_true rfl, Nat.le_of_ble_eq_true rfl⟩ rfl (Nat.le_of_ble_eq_true rfl) ⟨Nat.zero_le _, Nat.zero_le _⟩ fun hw => ?_
  clear hc hw
  show zP V X 1 0 0 14 _ [] d1
  revert h
  generalize d1 = d
  intro h
  refine zP_aload_n (pc := 14) C (x := zad V 0) dX11_beginAnew_14 rfl rfl ?_
  refine zP_getR (pc := 15) (a := 0) (t := 30) C g11_21 dX11_beginAnew_15 (s_X11 hT) rfl ?_
  refine zP_aload_n (pc := 18) C (x := zad V 0) dX11_beginAnew_18 rfl rfl ?_
  refine zP_getR (pc := 19) (a := 0) (t := 12) C g11_62 dX11_beginAnew_19 (s_X11 hT) rfl ?_
  obtain ⟨_, d1, hc, h⟩ := zc_h h
  refine zP_callV (pc := 22) (As := [.ref (zad V 12)]) (st := []) C m11_124 dX11_beginAnew_22 (s_X2 (o_X11_line hT)) rfl (t_X2_begin (o_X11_line hT) (o_X11_setupReader hT)  hc) ⟨Nat.le_of_ble_eq_true rfl, Nat.le_of_ble_eq_true rfl⟩ rfl (Nat.le_of_ble_eq_true rfl) ⟨Nat.zero_le _, Nat.zero_le _⟩ fun hw => ?_
  clear hc hw
  show zP V X 1 0 0 25 _ [] d1
  revert h
  generalize d1 = d
  intro h
  refine zP_aload_n (pc := 25) C (x := zad V 0) dX11_beginAnew_25 rfl rfl ?_
  refine zP_getR (pc := 26) (a := 0) (t := 8) C g11_46 dX11_beginAnew_26 (s_X11 hT) rfl ?_
  refine zP_iconst (pc := 29) C dX11_beginAnew_29 ?_
  refine zP_putI (pc := 30) (a := 8) C p11_128 dX11_beginAnew_30 (s_X0 (o_X11_history hT)) rfl (zRk rfl) h fun d h => ?_
  refine zP_aload_n (pc := 33) C (x := zad V 0) dX11_beginAnew_33 rfl rfl ?_
  refine zP_iconst (pc := 34) C dX11_beginAnew_34 ?_
  refine zP_putZ (pc := 35) (a := 0) C p11_83 dX11_beginAnew_35 (s_X11 hT) rfl (Or.inl rfl) h fun d h => ?_
  exact zP_vret (pc := 38) C E dX11_beginAnew_38 h
def f_X11_loadLine  (d : zD) : Option (Int × zD) :=
  zc (f_X7_readText   d) fun v4 d =>
  zl (zu d 10 1 0) fun d =>
  if (v4 : Int) = 0 then (
    some ((-1), d))
  else (
    zc (f_X11_beginAnew   d) fun _ d =>
    zl (d 1 0) fun v30 =>
    some (v30, d))
theorem t_X11_loadLine {V : zW}  (hT : zo11 V)   {d dz : zD} {rv : Int} (h : f_X11_loadLine   d = some (rv, dz)) : zMet V 12 yX11_loadLine cX11_loadLine 2 (some .int) [.ref (zad V 0)] d (some (.int (zI rv))) (zR rv) dz := by
  refine zMet_by RX11 pn11 rfl (Nat.le_of_ble_eq_true rfl) [some (.ref (zad V 0)), none] rfl fun X C E => ?_
  refine zP_aload_n (pc := 0) C (x := zad V 0) dX11_loadLine_0 rfl rfl ?_
  refine zP_getR (pc := 1) (a := 0) (t := 12) C g11_62 dX11_loadLine_1 (s_X11 hT) rfl ?_
  obtain ⟨v4, d1, hc, h⟩ := zc_h h
  refine zP_callV (pc := 4) (As := []) (st := []) C m11_103 dX11_loadLine_4 (s_X7 (o_X11_setupReader hT)) rfl (t_X7_readText (o_X11_setupReader hT)  hc) ⟨Nat.le_of_ble_eq_true rfl, Nat.le_of_ble_eq_true rfl⟩ rfl (Nat.le_of_ble_eq_true rfl) ⟨Nat.zero_le _, Nat.zero_le _⟩ fun hw => ?_
  have hbv4 := hw
  have hv4 := z01 hw
  clear hc hw
  show zP V X 2 0 0 7 _ [.int (zI v4)] d1
  revert h
  generalize d1 = d
  intro h
  refine zP_istore_n (pc := 7) C (L' := [some (.ref (zad V 0)), some (.int (zI v4))]) dX11_loadLine_7 rfl (Nat.le_of_ble_eq_true rfl) rfl rfl ?_
  refine zP_aload_n (pc := 8) C (x := zad V 0) dX11_loadLine_8 rfl rfl ?_
  refine zP_getR (pc := 9) (a := 0) (t := 10) C g11_53 dX11_loadLine_9 (s_X11 hT) rfl ?_
  refine zP_iconst (pc := 12) C dX11_loadLine_12 ?_
  refine zP_putI (pc := 13) (a := 10) C p11_110 dX11_loadLine_13 (s_X9 (o_X11_tokens hT)) rfl (zRk rfl) h fun d h => ?_
  refine zP_iload_n (pc := 16) C (x := zI v4) dX11_loadLine_16 rfl rfl ?_
  refine zP_if_ne (pc := 17) (tgt := 22) C dX11_loadLine_17 rfl hv4 h (fun _ h => ?_) (fun _ h => ?_)
  · refine zP_aload_n (pc := 22) C (x := zad V 0) dX11_loadLine_22 rfl rfl ?_
    obtain ⟨_, d1, hc, h⟩ := zc_h h
    refine zP_callV (pc := 23) (As := []) (st := []) C m11_107 dX11_loadLine_23 (s_X11 hT) rfl (t_X11_beginAnew hT  hc) ⟨Nat.le_of_ble_eq_true rfl, Nat.le_of_ble_eq_true rfl⟩ rfl (Nat.le_of_ble_eq_true rfl) ⟨Nat.zero_le _, Nat.zero_le _⟩ fun hw => ?_
    clear hc hw
    show zP V X 2 0 0 26 _ [] d1
    revert h
    generalize d1 = d
    intro h
    refine zP_aload_n (pc := 26) C (x := zad V 0) dX11_loadLine_26 rfl rfl ?_
    refine zP_getR (pc := 27) (a := 0) (t := 1) C g11_10 dX11_loadLine_27 (s_X11 hT) rfl ?_
    refine zP_getI (pc := 30) (a := 1) C g11_115 dX11_loadLine_30 (s_X6 (o_X11_setup hT)) rfl h fun v30 hv30 h => ?_
    exact zP_iret (pc := 33) C E dX11_loadLine_33 hv30 h
  · refine zP_iconst (pc := 20) C dX11_loadLine_20 ?_
    exact zP_iret (pc := 21) C E dX11_loadLine_21 (zRk rfl) h
def f_X11_perform  (x1 : Int) (d : zD) : Option (Int × zD) :=
  zg 30 x1 <| zl (d 22 (x1 : Int).toNat) fun v8 =>
  zg 30 x1 <| zl (d 21 (x1 : Int).toNat) fun v18 =>
  zsw v18 [(0, (
    zc (f_X3_isFull 30  d) fun v59 d =>
    if (v59 : Int) = 0 then (
      zg 30 x1 <| zl (d 23 (x1 : Int).toNat) fun v80 =>
      zg 30 x1 <| zl (d 24 (x1 : Int).toNat) fun v89 =>
      zc (f_X2_addMessage 30 v8 v80 v89 d) fun v90 d =>
      some (1, d))
    else (
      some (0, d)))), (1, (
    zc (f_X2_setLife 30 v8 0 d) fun v102 d =>
    some (1, d))), (2, (
    zc (f_X2_setLife 30 v8 1 d) fun v114 d =>
    some (1, d))), (3, (
    zl (d 30 10) fun v124 =>
    zl (zw (v124 + v8)) fun v128 =>
    if (v128 : Int) ≤ 9999 then (
      zc (f_X1_makeTurns 6 30 v8 d) fun _ d =>
      some (1, d))
    else (
      some (0, d)))), (4, (
    zl (d 30 8) fun v151 =>
    if (v151 : Int) < 16 then (
      zc (f_X2_appendPlace 30 v8 d) fun _ d =>
      some (1, d))
    else (
      some (0, d))))] (
    zl (d 30 8) fun v176 =>
    if (v8 : Int) < v176 then (
      zc (f_X2_removePlace 30 v8 d) fun _ d =>
      some (1, d))
    else (
      some (0, d)))
theorem t_X11_perform {V : zW}  (hT : zo11 V) {x1 : Int} (hx1 : zR x1) {d dz : zD} {rv : Int} (h : f_X11_perform  x1 d = some (rv, dz)) : zMet V 6 yX11_perform cX11_perform 3 (some .boolean) [.ref (zad V 0), .int (zI x1)] d (some (.int (zI rv))) (rv = 0 ∨ rv = 1) dz := by
  refine zMet_by RX11 pn11 rfl (Nat.le_of_ble_eq_true rfl) [some (.ref (zad V 0)), some (.int (zI x1)), none] rfl fun X C E => ?_
  refine zP_aload_n (pc := 0) C (x := zad V 0) dX11_perform_0 rfl rfl ?_
  refine zP_getR (pc := 1) (a := 0) (t := 20) C g11_71 dX11_perform_1 (s_X11 hT) rfl ?_
  refine zP_getR (pc := 4) (a := 20) (t := 22) C g11_138 dX11_perform_4 (s_X5 (o_X11_script hT)) rfl ?_
  refine zP_iload_n (pc := 7) C (x := zI x1) dX11_perform_7 rfl rfl ?_
  refine zP_iald (pc := 8) (a := 22) C dX11_perform_8 (s_X5_first (o_X11_script hT)) hx1 h fun v8 hv8 h => ?_
  refine zP_istore_n (pc := 9) C (L' := [some (.ref (zad V 0)), some (.int (zI x1)), some (.int (zI v8))]) dX11_perform_9 rfl (Nat.le_of_ble_eq_true rfl) rfl rfl ?_
  refine zP_aload_n (pc := 10) C (x := zad V 0) dX11_perform_10 rfl rfl ?_
  refine zP_getR (pc := 11) (a := 0) (t := 20) C g11_71 dX11_perform_11 (s_X11 hT) rfl ?_
  refine zP_getR (pc := 14) (a := 20) (t := 21) C g11_141 dX11_perform_14 (s_X5 (o_X11_script hT)) rfl ?_
  refine zP_iload_n (pc := 17) C (x := zI x1) dX11_perform_17 rfl rfl ?_
  refine zP_iald (pc := 18) (a := 21) C dX11_perform_18 (s_X5_verbs (o_X11_script hT)) hx1 h fun v18 hv18 h => ?_
  refine zP_sw (pc := 19) C dX11_perform_19 hv18 rfl rfl h (fun _ h => ⟨171, rfl, ?_⟩) ⟨fun _ h => ⟨52, rfl, ?_⟩, fun _ h => ⟨96, rfl, ?_⟩, fun _ h => ⟨108, rfl, ?_⟩, fun _ h => ⟨120, rfl, ?_⟩, fun _ h => ⟨147, rfl, ?_⟩, trivial⟩
  · refine zP_iload_n (pc := 171) C (x := zI v8) dX11_perform_171 rfl rfl ?_
    refine zP_aload_n (pc := 172) C (x := zad V 0) dX11_perform_172 rfl rfl ?_
    refine zP_getR (pc := 173) (a := 0) (t := 30) C g11_21 dX11_perform_173 (s_X11 hT) rfl ?_
    refine zP_getI (pc := 176) (a := 30) C g11_173 dX11_perform_176 (s_X2 (o_X11_line hT)) rfl h fun v176 hv176 h => ?_
    refine zP_icmp_lt (pc := 179) (tgt := 184) C dX11_perform_179 rfl hv8 hv176 h (fun _ h => ?_) (fun _ h => ?_)
    · refine zP_aload_n (pc := 184) C (x := zad V 0) dX11_perform_184 rfl rfl ?_
      refine zP_getR (pc := 185) (a := 0) (t := 30) C g11_21 dX11_perform_185 (s_X11 hT) rfl ?_
      refine zP_iload_n (pc := 188) C (x := zI v8) dX11_perform_188 rfl rfl ?_
      obtain ⟨_, d1, hc, h⟩ := zc_h h
      refine zP_callV (pc := 189) (As := [.int (zI v8)]) (st := []) C m11_179 dX11_perform_189 (s_X2 (o_X11_line hT)) rfl (t_X2_removePlace (o_X11_line hT) hv8 hc) ⟨Nat.le_of_ble_eq_true rfl, Nat.le_of_ble_eq_true rfl⟩ rfl (Nat.le_of_ble_eq_true rfl) ⟨Nat.zero_le _, Nat.zero_le _⟩ fun hw => ?_
      clear hc hw
      show zP V X 3 0 0 192 _ [] d1
      revert h
      generalize d1 = d
      intro h
      refine zP_iconst (pc := 192) C dX11_perform_192 ?_
      exact zP_zret (pc := 193) C E dX11_perform_193 (Or.inr rfl) h
    · refine zP_iconst (pc := 182) C dX11_perform_182 ?_
      exact zP_zret (pc := 183) C E dX11_perform_183 (Or.inl rfl) h
  · refine zP_aload_n (pc := 52) C (x := zad V 0) dX11_perform_52 rfl rfl ?_
    refine zP_getR (pc := 53) (a := 0) (t := 30) C g11_21 dX11_perform_53 (s_X11 hT) rfl ?_
    refine zP_getR (pc := 56) (a := 30) (t := 30 + 1) C g11_144 dX11_perform_56 (s_X2 (o_X11_line hT)) rfl ?_
    obtain ⟨v59, d1, hc, h⟩ := zc_h h
    refine zP_callV (pc := 59) (As := []) (st := []) C m11_148 dX11_perform_59 (s_X3 (o_X11_line hT)) rfl (t_X3_isFull (o_X11_line hT)  hc) ⟨Nat.le_of_ble_eq_true rfl, Nat.le_of_ble_eq_true rfl⟩ rfl (Nat.le_of_ble_eq_true rfl) ⟨Nat.zero_le _, Nat.zero_le _⟩ fun hw => ?_
    have hbv59 := hw
    have hv59 := z01 hw
    clear hc hw
    show zP V X 3 0 0 62 _ [.int (zI v59)] d1
    revert h
    generalize d1 = d
    intro h
    refine zP_if_eq (pc := 62) (tgt := 67) C dX11_perform_62 rfl hv59 h (fun _ h => ?_) (fun _ h => ?_)
    · refine zP_aload_n (pc := 67) C (x := zad V 0) dX11_perform_67 rfl rfl ?_
      refine zP_getR (pc := 68) (a := 0) (t := 30) C g11_21 dX11_perform_68 (s_X11 hT) rfl ?_
      refine zP_iload_n (pc := 71) C (x := zI v8) dX11_perform_71 rfl rfl ?_
      refine zP_aload_n (pc := 72) C (x := zad V 0) dX11_perform_72 rfl rfl ?_
      refine zP_getR (pc := 73) (a := 0) (t := 20) C g11_71 dX11_perform_73 (s_X11 hT) rfl ?_
      refine zP_getR (pc := 76) (a := 20) (t := 23) C g11_153 dX11_perform_76 (s_X5 (o_X11_script hT)) rfl ?_
      refine zP_iload_n (pc := 79) C (x := zI x1) dX11_perform_79 rfl rfl ?_
      refine zP_iald (pc := 80) (a := 23) C dX11_perform_80 (s_X5_second (o_X11_script hT)) hx1 h fun v80 hv80 h => ?_
      refine zP_aload_n (pc := 81) C (x := zad V 0) dX11_perform_81 rfl rfl ?_
      refine zP_getR (pc := 82) (a := 0) (t := 20) C g11_71 dX11_perform_82 (s_X11 hT) rfl ?_
      refine zP_getR (pc := 85) (a := 20) (t := 24) C g11_156 dX11_perform_85 (s_X5 (o_X11_script hT)) rfl ?_
      refine zP_iload_n (pc := 88) C (x := zI x1) dX11_perform_88 rfl rfl ?_
      refine zP_iald (pc := 89) (a := 24) C dX11_perform_89 (s_X5_third (o_X11_script hT)) hx1 h fun v89 hv89 h => ?_
      obtain ⟨v90, d1, hc, h⟩ := zc_h h
      refine zP_callV (pc := 90) (As := [.int (zI v8), .int (zI v80), .int (zI v89)]) (st := []) C m11_159 dX11_perform_90 (s_X2 (o_X11_line hT)) rfl (t_X2_addMessage (o_X11_line hT) hv8 hv80 hv89 hc) ⟨Nat.le_of_ble_eq_true rfl, Nat.le_of_ble_eq_true rfl⟩ rfl (Nat.le_of_ble_eq_true rfl) ⟨Nat.zero_le _, Nat.zero_le _⟩ fun hw => ?_
      have hv90 := hw
      clear hc hw
      show zP V X 3 0 0 93 _ [.int (zI v90)] d1
      revert h
      generalize d1 = d
      intro h
      refine zP_pop (pc := 93) C dX11_perform_93 rfl ?_
      refine zP_iconst (pc := 94) C dX11_perform_94 ?_
      exact zP_zret (pc := 95) C E dX11_perform_95 (Or.inr rfl) h
    · refine zP_iconst (pc := 65) C dX11_perform_65 ?_
      exact zP_zret (pc := 66) C E dX11_perform_66 (Or.inl rfl) h
  · refine zP_aload_n (pc := 96) C (x := zad V 0) dX11_perform_96 rfl rfl ?_
    refine zP_getR (pc := 97) (a := 0) (t := 30) C g11_21 dX11_perform_97 (s_X11 hT) rfl ?_
    refine zP_iload_n (pc := 100) C (x := zI v8) dX11_perform_100 rfl rfl ?_
    refine zP_iconst (pc := 101) C dX11_perform_101 ?_
    obtain ⟨v102, d1, hc, h⟩ := zc_h h
    refine zP_callV (pc := 102) (As := [.int (zI v8), .int (zI 0)]) (st := []) C m11_163 dX11_perform_102 (s_X2 (o_X11_line hT)) rfl (t_X2_setLife (o_X11_line hT) hv8 (zRk rfl) hc) ⟨Nat.le_of_ble_eq_true rfl, Nat.le_of_ble_eq_true rfl⟩ rfl (Nat.le_of_ble_eq_true rfl) ⟨Nat.zero_le _, Nat.zero_le _⟩ fun hw => ?_
    have hv102 := hw
    clear hc hw
    show zP V X 3 0 0 105 _ [.int (zI v102)] d1
    revert h
    generalize d1 = d
    intro h
    refine zP_pop (pc := 105) C dX11_perform_105 rfl ?_
    refine zP_iconst (pc := 106) C dX11_perform_106 ?_
    exact zP_zret (pc := 107) C E dX11_perform_107 (Or.inr rfl) h
  · refine zP_aload_n (pc := 108) C (x := zad V 0) dX11_perform_108 rfl rfl ?_
    refine zP_getR (pc := 109) (a := 0) (t := 30) C g11_21 dX11_perform_109 (s_X11 hT) rfl ?_
    refine zP_iload_n (pc := 112) C (x := zI v8) dX11_perform_112 rfl rfl ?_
    refine zP_iconst (pc := 113) C dX11_perform_113 ?_
    obtain ⟨v114, d1, hc, h⟩ := zc_h h
    refine zP_callV (pc := 114) (As := [.int (zI v8), .int (zI 1)]) (st := []) C m11_163 dX11_perform_114 (s_X2 (o_X11_line hT)) rfl (t_X2_setLife (o_X11_line hT) hv8 (zRk rfl) hc) ⟨Nat.le_of_ble_eq_true rfl, Nat.le_of_ble_eq_true rfl⟩ rfl (Nat.le_of_ble_eq_true rfl) ⟨Nat.zero_le _, Nat.zero_le _⟩ fun hw => ?_
    have hv114 := hw
    clear hc hw
    show zP V X 3 0 0 117 _ [.int (zI v114)] d1
    revert h
    generalize d1 = d
    intro h
    refine zP_pop (pc := 117) C dX11_perform_117 rfl ?_
    refine zP_iconst (pc := 118) C dX11_perform_118 ?_
    exact zP_zret (pc := 119) C E dX11_perform_119 (Or.inr rfl) h
  · refine zP_aload_n (pc := 120) C (x := zad V 0) dX11_perform_120 rfl rfl ?_
    refine zP_getR (pc := 121) (a := 0) (t := 30) C g11_21 dX11_perform_121 (s_X11 hT) rfl ?_
    refine zP_getI (pc := 124) (a := 30) C g11_167 dX11_perform_124 (s_X2 (o_X11_line hT)) rfl h fun v124 hv124 h => ?_
    refine zP_iload_n (pc := 127) C (x := zI v8) dX11_perform_127 rfl rfl ?_
    refine zP_iadd (pc := 128) C dX11_perform_128 h fun v128 hv128 h => ?_
    refine zP_sipush (pc := 129) C dX11_perform_129 rfl ?_
    refine zP_icmp_le (pc := 132) (tgt := 137) C dX11_perform_132 rfl hv128 (zRk rfl) h (fun _ h => ?_) (fun _ h => ?_)
    · refine zP_aload_n (pc := 137) C (x := zad V 0) dX11_perform_137 rfl rfl ?_
      refine zP_getR (pc := 138) (a := 0) (t := 6) C g11_30 dX11_perform_138 (s_X11 hT) rfl ?_
      refine zP_iload_n (pc := 141) C (x := zI v8) dX11_perform_141 rfl rfl ?_
      obtain ⟨_, d1, hc, h⟩ := zc_h h
      refine zP_callV (pc := 142) (As := [.int (zI v8)]) (st := []) C m11_170 dX11_perform_142 (s_X1 (o_X11_host hT)) rfl (t_X1_makeTurns (o_X11_host hT) hv8 hc) ⟨Nat.le_of_ble_eq_true rfl, Nat.le_of_ble_eq_true rfl⟩ rfl (Nat.le_of_ble_eq_true rfl) ⟨Nat.zero_le _, Nat.zero_le _⟩ fun hw => ?_
      clear hc hw
      show zP V X 3 0 0 145 _ [] d1
      revert h
      generalize d1 = d
      intro h
      refine zP_iconst (pc := 145) C dX11_perform_145 ?_
      exact zP_zret (pc := 146) C E dX11_perform_146 (Or.inr rfl) h
    · refine zP_iconst (pc := 135) C dX11_perform_135 ?_
      exact zP_zret (pc := 136) C E dX11_perform_136 (Or.inl rfl) h
  · refine zP_aload_n (pc := 147) C (x := zad V 0) dX11_perform_147 rfl rfl ?_
    refine zP_getR (pc := 148) (a := 0) (t := 30) C g11_21 dX11_perform_148 (s_X11 hT) rfl ?_
    refine zP_getI (pc := 151) (a := 30) C g11_173 dX11_perform_151 (s_X2 (o_X11_line hT)) rfl h fun v151 hv151 h => ?_
    refine zP_bipush (pc := 154) C dX11_perform_154 rfl ?_
    refine zP_icmp_lt (pc := 156) (tgt := 161) C dX11_perform_156 rfl hv151 (zRk rfl) h (fun _ h => ?_) (fun _ h => ?_)
    · refine zP_aload_n (pc := 161) C (x := zad V 0) dX11_perform_161 rfl rfl ?_
      refine zP_getR (pc := 162) (a := 0) (t := 30) C g11_21 dX11_perform_162 (s_X11 hT) rfl ?_
      refine zP_iload_n (pc := 165) C (x := zI v8) dX11_perform_165 rfl rfl ?_
      obtain ⟨_, d1, hc, h⟩ := zc_h h
      refine zP_callV (pc := 166) (As := [.int (zI v8)]) (st := []) C m11_176 dX11_perform_166 (s_X2 (o_X11_line hT)) rfl (t_X2_appendPlace (o_X11_line hT) hv8 hc) ⟨Nat.le_of_ble_eq_true rfl, Nat.le_of_ble_eq_true rfl⟩ rfl (Nat.le_of_ble_eq_true rfl) ⟨Nat.zero_le _, Nat.zero_le _⟩ fun hw => ?_
      clear hc hw
      show zP V X 3 0 0 169 _ [] d1
      revert h
      generalize d1 = d
      intro h
      refine zP_iconst (pc := 169) C dX11_perform_169 ?_
      exact zP_zret (pc := 170) C E dX11_perform_170 (Or.inr rfl) h
    · refine zP_iconst (pc := 159) C dX11_perform_159 ?_
      exact zP_zret (pc := 160) C E dX11_perform_160 (Or.inl rfl) h
def l_X11_playScript_35F  (r35 : Int → zD → Option (Int × zD)) (x2 : Int) (d : zD) : Option (Int × zD) :=
  zl (d 20 6) fun v40 =>
  if (v40 : Int) ≤ x2 then (
    some (x2, d))
  else (
    zc (f_X11_perform  x2 d) fun v48 d =>
    if (v48 : Int) = 0 then (
      some (x2, d))
    else (
      zl (zw (x2 + 1)) fun v54 =>
      r35 v54 d))
theorem wl_X11_playScript_35F {V : zW} {X : zX}  (hT : zo11 V) (C : zOk V X cX11_playScript RX11 3 (zrm 13) (some .int)) {rv : Int} {dz : zD} (E : zEnd V X (some (.int (zI rv))) (zR rv) dz) {r35 : Int → zD → Option (Int × zD)} (hr35 : ∀ {x2 : Int} {d : zD}, zR x2 → r35 x2 d = some (rv, dz) → zP V X 3 0 0 35 [some (.ref (zad V 0)), none, some (.int (zI x2))] [] d) {x2 : Int} (hx2 : zR x2) {d : zD} (h : l_X11_playScript_35F  r35 x2 d = some (rv, dz)) : zP V X 3 0 0 35 [some (.ref (zad V 0)), none, some (.int (zI x2))] [] d := by
  refine zP_iload_n (pc := 35) C (x := zI x2) dX11_playScript_35 rfl rfl ?_
  refine zP_aload_n (pc := 36) C (x := zad V 0) dX11_playScript_36 rfl rfl ?_
  refine zP_getR (pc := 37) (a := 0) (t := 20) C g11_71 dX11_playScript_37 (s_X11 hT) rfl ?_
  refine zP_getI (pc := 40) (a := 20) C g11_133 dX11_playScript_40 (s_X5 (o_X11_script hT)) rfl h fun v40 hv40 h => ?_
  refine zP_icmp_ge (pc := 43) (tgt := 60) C dX11_playScript_43 rfl hx2 hv40 h (fun _ h => ?_) (fun _ h => ?_)
  · refine zP_iload_n (pc := 60) C (x := zI x2) dX11_playScript_60 rfl rfl ?_
    exact zP_iret (pc := 61) C E dX11_playScript_61 hx2 h
  · refine zP_aload_n (pc := 46) C (x := zad V 0) dX11_playScript_46 rfl rfl ?_
    refine zP_iload_n (pc := 47) C (x := zI x2) dX11_playScript_47 rfl rfl ?_
    obtain ⟨v48, d1, hc, h⟩ := zc_h h
    refine zP_callV (pc := 48) (As := [.int (zI x2)]) (st := []) C m11_134 dX11_playScript_48 (s_X11 hT) rfl (t_X11_perform hT hx2 hc) ⟨Nat.le_of_ble_eq_true rfl, Nat.le_of_ble_eq_true rfl⟩ rfl (Nat.le_of_ble_eq_true rfl) ⟨Nat.zero_le _, Nat.zero_le _⟩ fun hw => ?_
    have hbv48 := hw
    have hv48 := z01 hw
    clear hc hw
    show zP V X 3 0 0 51 _ [.int (zI v48)] d1
    revert h
    generalize d1 = d
    intro h
    refine zP_if_eq (pc := 51) (tgt := 60) C dX11_playScript_51 rfl hv48 h (fun _ h => ?_) (fun _ h => ?_)
    · refine zP_iload_n (pc := 60) C (x := zI x2) dX11_playScript_60 rfl rfl ?_
      exact zP_iret (pc := 61) C E dX11_playScript_61 hx2 h
    · refine zP_iinc (pc := 54) C (x := x2) dX11_playScript_54 rfl (Nat.le_of_ble_eq_true rfl) rfl h fun v54 hv54 h => ?_
      show zP V X 3 0 0 57 [some (.ref (zad V 0)), none, some (.int (zI v54))] _ _
      refine zP_goto (pc := 57) (tgt := 35) C dX11_playScript_57 rfl ?_
      exact zP_mask [true, false, true] (hr35 hv54 h)
def l_X11_playScript_35   : Nat → Int → zD → Option (Int × zD)
  | 0, _, _ => none
  | q + 1, x2, d => l_X11_playScript_35F   (l_X11_playScript_35   q) x2 d
theorem wl_X11_playScript_35 {V : zW} {X : zX}  (hT : zo11 V) (C : zOk V X cX11_playScript RX11 3 (zrm 13) (some .int)) {rv : Int} {dz : zD} (E : zEnd V X (some (.int (zI rv))) (zR rv) dz)  : ∀ (q : Nat) {x2 : Int} (hx2 : zR x2) {d : zD} (h : l_X11_playScript_35   q x2 d = some (rv, dz)), zP V X 3 0 0 35 [some (.ref (zad V 0)), none, some (.int (zI x2))] [] d := by
  intro q
  induction q with
  | zero => intro x2 hx2 d h; cases (show (none : Option (Int × zD)) = some (rv, dz) from h)
  | succ q ih =>
    intro x2 hx2 d h
    exact wl_X11_playScript_35F hT C E  (fun  hx2 h => ih hx2 h) hx2 h
def f_X11_playScript  (d : zD) : Option (Int × zD) :=
  zc (f_X5_readText   d) fun v4 d =>
  zl (zu d 10 1 0) fun d =>
  if (v4 : Int) = 0 then (
    some ((-1), d))
  else (
    zc (f_X0_remember 30  d) fun _ d =>
    l_X11_playScript_35   zF 0 d)
theorem t_X11_playScript {V : zW}  (hT : zo11 V)   {d dz : zD} {rv : Int} (h : f_X11_playScript   d = some (rv, dz)) : zMet V 13 yX11_playScript cX11_playScript 3 (some .int) [.ref (zad V 0)] d (some (.int (zI rv))) (zR rv) dz := by
  refine zMet_by RX11 pn11 rfl (Nat.le_of_ble_eq_true rfl) [some (.ref (zad V 0)), none, none] rfl fun X C E => ?_
  refine zP_aload_n (pc := 0) C (x := zad V 0) dX11_playScript_0 rfl rfl ?_
  refine zP_getR (pc := 1) (a := 0) (t := 20) C g11_71 dX11_playScript_1 (s_X11 hT) rfl ?_
  obtain ⟨v4, d1, hc, h⟩ := zc_h h
  refine zP_callV (pc := 4) (As := []) (st := []) C m11_129 dX11_playScript_4 (s_X5 (o_X11_script hT)) rfl (t_X5_readText (o_X11_script hT)  hc) ⟨Nat.le_of_ble_eq_true rfl, Nat.le_of_ble_eq_true rfl⟩ rfl (Nat.le_of_ble_eq_true rfl) ⟨Nat.zero_le _, Nat.zero_le _⟩ fun hw => ?_
  have hbv4 := hw
  have hv4 := z01 hw
  clear hc hw
  show zP V X 3 0 0 7 _ [.int (zI v4)] d1
  revert h
  generalize d1 = d
  intro h
  refine zP_istore_n (pc := 7) C (L' := [some (.ref (zad V 0)), some (.int (zI v4)), none]) dX11_playScript_7 rfl (Nat.le_of_ble_eq_true rfl) rfl rfl ?_
  refine zP_aload_n (pc := 8) C (x := zad V 0) dX11_playScript_8 rfl rfl ?_
  refine zP_getR (pc := 9) (a := 0) (t := 10) C g11_53 dX11_playScript_9 (s_X11 hT) rfl ?_
  refine zP_iconst (pc := 12) C dX11_playScript_12 ?_
  refine zP_putI (pc := 13) (a := 10) C p11_110 dX11_playScript_13 (s_X9 (o_X11_tokens hT)) rfl (zRk rfl) h fun d h => ?_
  refine zP_iload_n (pc := 16) C (x := zI v4) dX11_playScript_16 rfl rfl ?_
  refine zP_if_ne (pc := 17) (tgt := 22) C dX11_playScript_17 rfl hv4 h (fun _ h => ?_) (fun _ h => ?_)
  · refine zP_aload_n (pc := 22) C (x := zad V 0) dX11_playScript_22 rfl rfl ?_
    refine zP_getR (pc := 23) (a := 0) (t := 8) C g11_46 dX11_playScript_23 (s_X11 hT) rfl ?_
    refine zP_aload_n (pc := 26) C (x := zad V 0) dX11_playScript_26 rfl rfl ?_
    refine zP_getR (pc := 27) (a := 0) (t := 30) C g11_21 dX11_playScript_27 (s_X11 hT) rfl ?_
    obtain ⟨_, d1, hc, h⟩ := zc_h h
    refine zP_callV (pc := 30) (As := [.ref (zad V 30)]) (st := []) C m11_130 dX11_playScript_30 (s_X0 (o_X11_history hT)) rfl (t_X0_remember (o_X11_history hT) (o_X11_line hT)  hc) ⟨Nat.le_of_ble_eq_true rfl, Nat.le_of_ble_eq_true rfl⟩ rfl (Nat.le_of_ble_eq_true rfl) ⟨Nat.zero_le _, Nat.zero_le _⟩ fun hw => ?_
    clear hc hw
    show zP V X 3 0 0 33 _ [] d1
    revert h
    generalize d1 = d
    intro h
    refine zP_iconst (pc := 33) C dX11_playScript_33 ?_
    refine zP_istore_n (pc := 34) C (L' := [some (.ref (zad V 0)), some (.int (zI v4)), some (.int (zI 0))]) dX11_playScript_34 rfl (Nat.le_of_ble_eq_true rfl) rfl rfl ?_
    exact zP_mask [true, false, true] (wl_X11_playScript_35 hT C E  zF (zRk rfl) h)
  · refine zP_iconst (pc := 20) C dX11_playScript_20 ?_
    exact zP_iret (pc := 21) C E dX11_playScript_21 (zRk rfl) h
def f_X11_errorCode  (d : zD) : Option (Int × zD) :=
  zl (d 10 5) fun v4 =>
  some (v4, d)
theorem t_X11_errorCode {V : zW}  (hT : zo11 V)   {d dz : zD} {rv : Int} (h : f_X11_errorCode   d = some (rv, dz)) : zMet V 0 yX11_errorCode cX11_errorCode 1 (some .int) [.ref (zad V 0)] d (some (.int (zI rv))) (zR rv) dz := by
  refine zMet_by RX11 pn11 rfl (Nat.le_of_ble_eq_true rfl) [some (.ref (zad V 0))] rfl fun X C E => ?_
  refine zP_aload_n (pc := 0) C (x := zad V 0) dX11_errorCode_0 rfl rfl ?_
  refine zP_getR (pc := 1) (a := 0) (t := 10) C g11_53 dX11_errorCode_1 (s_X11 hT) rfl ?_
  refine zP_getI (pc := 4) (a := 10) C g11_182 dX11_errorCode_4 (s_X9 (o_X11_tokens hT)) rfl h fun v4 hv4 h => ?_
  exact zP_iret (pc := 7) C E dX11_errorCode_7 hv4 h
def f_X11_errorOffset  (d : zD) : Option (Int × zD) :=
  zl (d 10 6) fun v4 =>
  some (v4, d)
theorem t_X11_errorOffset {V : zW}  (hT : zo11 V)   {d dz : zD} {rv : Int} (h : f_X11_errorOffset   d = some (rv, dz)) : zMet V 0 yX11_errorOffset cX11_errorOffset 1 (some .int) [.ref (zad V 0)] d (some (.int (zI rv))) (zR rv) dz := by
  refine zMet_by RX11 pn11 rfl (Nat.le_of_ble_eq_true rfl) [some (.ref (zad V 0))] rfl fun X C E => ?_
  refine zP_aload_n (pc := 0) C (x := zad V 0) dX11_errorOffset_0 rfl rfl ?_
  refine zP_getR (pc := 1) (a := 0) (t := 10) C g11_53 dX11_errorOffset_1 (s_X11 hT) rfl ?_
  refine zP_getI (pc := 4) (a := 10) C g11_185 dX11_errorOffset_4 (s_X9 (o_X11_tokens hT)) rfl h fun v4 hv4 h => ?_
  exact zP_iret (pc := 7) C E dX11_errorOffset_7 hv4 h
def l_X11_off_4F  (r4 : Int → Int → zD → Option (Int × zD)) (x1 x2 : Int) (d : zD) : Option (Int × zD) :=
  zl (d 1 0) fun v9 =>
  if (v9 : Int) ≤ x2 then (
    some (x1, d))
  else (
    zg 8 x2 <| zl (d (30 + 17) (x2 : Int).toNat) fun v26 =>
    if (v26 : Int) = 0 then (
      zl (zshl 1 x2) fun v33 =>
      zl (zor x1 v33) fun v34 =>
      zl (zw (x2 + 1)) fun v36 =>
      r4 v34 v36 d)
    else (
      zl (zw (x2 + 1)) fun v36 =>
      r4 x1 v36 d))
theorem wl_X11_off_4F {V : zW} {X : zX}  (hT : zo11 V) (C : zOk V X cX11_off RX11 3 (zrm 0) (some .int)) {rv : Int} {dz : zD} (E : zEnd V X (some (.int (zI rv))) (zR rv) dz) {r4 : Int → Int → zD → Option (Int × zD)} (hr4 : ∀ {x1 x2 : Int} {d : zD}, zR x1 → zR x2 → r4 x1 x2 d = some (rv, dz) → zP V X 3 0 0 4 [some (.ref (zad V 0)), some (.int (zI x1)), some (.int (zI x2))] [] d) {x1 x2 : Int} (hx1 : zR x1) (hx2 : zR x2) {d : zD} (h : l_X11_off_4F  r4 x1 x2 d = some (rv, dz)) : zP V X 3 0 0 4 [some (.ref (zad V 0)), some (.int (zI x1)), some (.int (zI x2))] [] d := by
  refine zP_iload_n (pc := 4) C (x := zI x2) dX11_off_4 rfl rfl ?_
  refine zP_aload_n (pc := 5) C (x := zad V 0) dX11_off_5 rfl rfl ?_
  refine zP_getR (pc := 6) (a := 0) (t := 1) C g11_10 dX11_off_6 (s_X11 hT) rfl ?_
  refine zP_getI (pc := 9) (a := 1) C g11_115 dX11_off_9 (s_X6 (o_X11_setup hT)) rfl h fun v9 hv9 h => ?_
  refine zP_icmp_ge (pc := 12) (tgt := 42) C dX11_off_12 rfl hx2 hv9 h (fun _ h => ?_) (fun _ h => ?_)
  · refine zP_iload_n (pc := 42) C (x := zI x1) dX11_off_42 rfl rfl ?_
    exact zP_iret (pc := 43) C E dX11_off_43 hx1 h
  · refine zP_aload_n (pc := 15) C (x := zad V 0) dX11_off_15 rfl rfl ?_
    refine zP_getR (pc := 16) (a := 0) (t := 30) C g11_21 dX11_off_16 (s_X11 hT) rfl ?_
    refine zP_getR (pc := 19) (a := 30) (t := 30 + 15) C g11_199 dX11_off_19 (s_X2 (o_X11_line hT)) rfl ?_
    refine zP_getR (pc := 22) (a := 30 + 15) (t := 30 + 17) C g11_203 dX11_off_22 (s_X8 (o_X11_line hT)) rfl ?_
    refine zP_iload_n (pc := 25) C (x := zI x2) dX11_off_25 rfl rfl ?_
    refine zP_iald (pc := 26) (a := 30 + 17) C dX11_off_26 (s_X8_on (o_X11_line hT)) hx2 h fun v26 hv26 h => ?_
    refine zP_if_ne (pc := 27) (tgt := 36) C dX11_off_27 rfl hv26 h (fun _ h => ?_) (fun _ h => ?_)
    · refine zP_iinc (pc := 36) C (x := x2) dX11_off_36 rfl (Nat.le_of_ble_eq_true rfl) rfl h fun v36 hv36 h => ?_
      show zP V X 3 0 0 39 [some (.ref (zad V 0)), some (.int (zI x1)), some (.int (zI v36))] _ _
      refine zP_goto (pc := 39) (tgt := 4) C dX11_off_39 rfl ?_
      exact zP_mask [true, true, true] (hr4 hx1 hv36 h)
    · refine zP_iload_n (pc := 30) C (x := zI x1) dX11_off_30 rfl rfl ?_
      refine zP_iconst (pc := 31) C dX11_off_31 ?_
      refine zP_iload_n (pc := 32) C (x := zI x2) dX11_off_32 rfl rfl ?_
      refine zP_ishl (pc := 33) C dX11_off_33 h fun v33 hv33 h => ?_
      refine zP_ior (pc := 34) C dX11_off_34 h fun v34 hv34 h => ?_
      refine zP_istore_n (pc := 35) C (L' := [some (.ref (zad V 0)), some (.int (zI v34)), some (.int (zI x2))]) dX11_off_35 rfl (Nat.le_of_ble_eq_true rfl) rfl rfl ?_
      refine zP_iinc (pc := 36) C (x := x2) dX11_off_36 rfl (Nat.le_of_ble_eq_true rfl) rfl h fun v36 hv36 h => ?_
      show zP V X 3 0 0 39 [some (.ref (zad V 0)), some (.int (zI v34)), some (.int (zI v36))] _ _
      refine zP_goto (pc := 39) (tgt := 4) C dX11_off_39 rfl ?_
      exact zP_mask [true, true, true] (hr4 hv34 hv36 h)
def l_X11_off_4   : Nat → Int → Int → zD → Option (Int × zD)
  | 0, _, _, _ => none
  | q + 1, x1, x2, d => l_X11_off_4F   (l_X11_off_4   q) x1 x2 d
theorem wl_X11_off_4 {V : zW} {X : zX}  (hT : zo11 V) (C : zOk V X cX11_off RX11 3 (zrm 0) (some .int)) {rv : Int} {dz : zD} (E : zEnd V X (some (.int (zI rv))) (zR rv) dz)  : ∀ (q : Nat) {x1 x2 : Int} (hx1 : zR x1) (hx2 : zR x2) {d : zD} (h : l_X11_off_4   q x1 x2 d = some (rv, dz)), zP V X 3 0 0 4 [some (.ref (zad V 0)), some (.int (zI x1)), some (.int (zI x2))] [] d := by
  intro q
  induction q with
  | zero => intro x1 x2 hx1 hx2 d h; cases (show (none : Option (Int × zD)) = some (rv, dz) from h)
  | succ q ih =>
    intro x1 x2 hx1 hx2 d h
    exact wl_X11_off_4F hT C E  (fun  hx1 hx2 h => ih hx1 hx2 h) hx1 hx2 h
def f_X11_off  (d : zD) : Option (Int × zD) :=
  l_X11_off_4   zF 0 0 d
theorem t_X11_off {V : zW}  (hT : zo11 V)   {d dz : zD} {rv : Int} (h : f_X11_off   d = some (rv, dz)) : zMet V 0 yX11_off cX11_off 3 (some .int) [.ref (zad V 0)] d (some (.int (zI rv))) (zR rv) dz := by
  refine zMet_by RX11 pn11 rfl (Nat.le_of_ble_eq_true rfl) [some (.ref (zad V 0)), none, none] rfl fun X C E => ?_
  refine zP_iconst (pc := 0) C dX11_off_0 ?_
  refine zP_istore_n (pc := 1) C (L' := [some (.ref (zad V 0)), some (.int (zI 0)), none]) dX11_off_1 rfl (Nat.le_of_ble_eq_true rfl) rfl rfl ?_
  refine zP_iconst (pc := 2) C dX11_off_2 ?_
  refine zP_istore_n (pc := 3) C (L' := [some (.ref (zad V 0)), some (.int (zI 0)), some (.int (zI 0))]) dX11_off_3 rfl (Nat.le_of_ble_eq_true rfl) rfl rfl ?_
  exact zP_mask [true, true, true] (wl_X11_off_4 hT C E  zF (zRk rfl) (zRk rfl) h)
def f_X11_nextKind  (d : zD) : Option (Int × zD) :=
  zl (d 30 10) fun v8 =>
  zl (zw (v8 + 1)) fun v12 =>
  zc (f_X1_choose 6 30 v12 d) fun _ d =>
  zl (d 6 1) fun v20 =>
  some (v20, d)
theorem t_X11_nextKind {V : zW}  (hT : zo11 V)   {d dz : zD} {rv : Int} (h : f_X11_nextKind   d = some (rv, dz)) : zMet V 4 yX11_nextKind cX11_nextKind 1 (some .int) [.ref (zad V 0)] d (some (.int (zI rv))) (zR rv) dz := by
  refine zMet_by RX11 pn11 rfl (Nat.le_of_ble_eq_true rfl) [some (.ref (zad V 0))] rfl fun X C E => ?_
  refine zP_aload_n (pc := 0) C (x := zad V 0) dX11_nextKind_0 rfl rfl ?_
  refine zP_getR (pc := 1) (a := 0) (t := 6) C g11_30 dX11_nextKind_1 (s_X11 hT) rfl ?_
  refine zP_aload_n (pc := 4) C (x := zad V 0) dX11_nextKind_4 rfl rfl ?_
  refine zP_getR (pc := 5) (a := 0) (t := 30) C g11_21 dX11_nextKind_5 (s_X11 hT) rfl ?_
  refine zP_getI (pc := 8) (a := 30) C g11_167 dX11_nextKind_8 (s_X2 (o_X11_line hT)) rfl h fun v8 hv8 h => ?_
  refine zP_iconst (pc := 11) C dX11_nextKind_11 ?_
  refine zP_iadd (pc := 12) C dX11_nextKind_12 h fun v12 hv12 h => ?_
  obtain ⟨_, d1, hc, h⟩ := zc_h h
  refine zP_callV (pc := 13) (As := [.int (zI v12)]) (st := []) C m11_313 dX11_nextKind_13 (s_X1 (o_X11_host hT)) rfl (t_X1_choose (o_X11_host hT) hv12 hc) ⟨Nat.le_of_ble_eq_true rfl, Nat.le_of_ble_eq_true rfl⟩ rfl (Nat.le_of_ble_eq_true rfl) ⟨Nat.zero_le _, Nat.zero_le _⟩ fun hw => ?_
  clear hc hw
  show zP V X 1 0 0 16 _ [] d1
  revert h
  generalize d1 = d
  intro h
  refine zP_aload_n (pc := 16) C (x := zad V 0) dX11_nextKind_16 rfl rfl ?_
  refine zP_getR (pc := 17) (a := 0) (t := 6) C g11_30 dX11_nextKind_17 (s_X11 hT) rfl ?_
  refine zP_getI (pc := 20) (a := 6) C g11_316 dX11_nextKind_20 (s_X1 (o_X11_host hT)) rfl h fun v20 hv20 h => ?_
  exact zP_iret (pc := 23) C E dX11_nextKind_23 hv20 h
def f_X11_nextTerminal  (d : zD) : Option (Int × zD) :=
  zl (d 30 10) fun v8 =>
  zl (zw (v8 + 1)) fun v12 =>
  zc (f_X1_choose 6 30 v12 d) fun _ d =>
  zl (d 6 2) fun v20 =>
  some (v20, d)
theorem t_X11_nextTerminal {V : zW}  (hT : zo11 V)   {d dz : zD} {rv : Int} (h : f_X11_nextTerminal   d = some (rv, dz)) : zMet V 4 yX11_nextTerminal cX11_nextTerminal 1 (some .int) [.ref (zad V 0)] d (some (.int (zI rv))) (zR rv) dz := by
  refine zMet_by RX11 pn11 rfl (Nat.le_of_ble_eq_true rfl) [some (.ref (zad V 0))] rfl fun X C E => ?_
  refine zP_aload_n (pc := 0) C (x := zad V 0) dX11_nextTerminal_0 rfl rfl ?_
  refine zP_getR (pc := 1) (a := 0) (t := 6) C g11_30 dX11_nextTerminal_1 (s_X11 hT) rfl ?_
  refine zP_aload_n (pc := 4) C (x := zad V 0) dX11_nextTerminal_4 rfl rfl ?_
  refine zP_getR (pc := 5) (a := 0) (t := 30) C g11_21 dX11_nextTerminal_5 (s_X11 hT) rfl ?_
  refine zP_getI (pc := 8) (a := 30) C g11_167 dX11_nextTerminal_8 (s_X2 (o_X11_line hT)) rfl h fun v8 hv8 h => ?_
  refine zP_iconst (pc := 11) C dX11_nextTerminal_11 ?_
  refine zP_iadd (pc := 12) C dX11_nextTerminal_12 h fun v12 hv12 h => ?_
  obtain ⟨_, d1, hc, h⟩ := zc_h h
  refine zP_callV (pc := 13) (As := [.int (zI v12)]) (st := []) C m11_313 dX11_nextTerminal_13 (s_X1 (o_X11_host hT)) rfl (t_X1_choose (o_X11_host hT) hv12 hc) ⟨Nat.le_of_ble_eq_true rfl, Nat.le_of_ble_eq_true rfl⟩ rfl (Nat.le_of_ble_eq_true rfl) ⟨Nat.zero_le _, Nat.zero_le _⟩ fun hw => ?_
  clear hc hw
  show zP V X 1 0 0 16 _ [] d1
  revert h
  generalize d1 = d
  intro h
  refine zP_aload_n (pc := 16) C (x := zad V 0) dX11_nextTerminal_16 rfl rfl ?_
  refine zP_getR (pc := 17) (a := 0) (t := 6) C g11_30 dX11_nextTerminal_17 (s_X11 hT) rfl ?_
  refine zP_getI (pc := 20) (a := 6) C g11_319 dX11_nextTerminal_20 (s_X1 (o_X11_host hT)) rfl h fun v20 hv20 h => ?_
  exact zP_iret (pc := 23) C E dX11_nextTerminal_23 hv20 h
def l_X11_gap_13F  (r13 : Int → Int → zD → Option (Int × zD)) (x1 x2 : Int) (d : zD) : Option (Int × zD) :=
  if (4 : Int) ≤ x2 then (
    some (x1, d))
  else (
    zc (f_X3_countIn 30 x2 d) fun v27 d =>
    zl (zw (x1 - v27)) fun v30 =>
    zl (zw (x2 + 1)) fun v32 =>
    r13 v30 v32 d)
theorem wl_X11_gap_13F {V : zW} {X : zX}  (hT : zo11 V) (C : zOk V X cX11_gap RX11 3 (zrm 1) (some .int)) {rv : Int} {dz : zD} (E : zEnd V X (some (.int (zI rv))) (zR rv) dz) {r13 : Int → Int → zD → Option (Int × zD)} (hr13 : ∀ {x1 x2 : Int} {d : zD}, zR x1 → zR x2 → r13 x1 x2 d = some (rv, dz) → zP V X 3 0 0 13 [some (.ref (zad V 0)), some (.int (zI x1)), some (.int (zI x2))] [] d) {x1 x2 : Int} (hx1 : zR x1) (hx2 : zR x2) {d : zD} (h : l_X11_gap_13F  r13 x1 x2 d = some (rv, dz)) : zP V X 3 0 0 13 [some (.ref (zad V 0)), some (.int (zI x1)), some (.int (zI x2))] [] d := by
  refine zP_iload_n (pc := 13) C (x := zI x2) dX11_gap_13 rfl rfl ?_
  refine zP_iconst (pc := 14) C dX11_gap_14 ?_
  refine zP_icmp_ge (pc := 15) (tgt := 38) C dX11_gap_15 rfl hx2 (zRk rfl) h (fun _ h => ?_) (fun _ h => ?_)
  · refine zP_iload_n (pc := 38) C (x := zI x1) dX11_gap_38 rfl rfl ?_
    exact zP_iret (pc := 39) C E dX11_gap_39 hx1 h
  · refine zP_iload_n (pc := 18) C (x := zI x1) dX11_gap_18 rfl rfl ?_
    refine zP_aload_n (pc := 19) C (x := zad V 0) dX11_gap_19 rfl rfl ?_
    refine zP_getR (pc := 20) (a := 0) (t := 30) C g11_21 dX11_gap_20 (s_X11 hT) rfl ?_
    refine zP_getR (pc := 23) (a := 30) (t := 30 + 1) C g11_144 dX11_gap_23 (s_X2 (o_X11_line hT)) rfl ?_
    refine zP_iload_n (pc := 26) C (x := zI x2) dX11_gap_26 rfl rfl ?_
    obtain ⟨v27, d1, hc, h⟩ := zc_h h
    refine zP_callV (pc := 27) (As := [.int (zI x2)]) (st := [.int (zI x1)]) C m11_195 dX11_gap_27 (s_X3 (o_X11_line hT)) rfl (t_X3_countIn (o_X11_line hT) hx2 hc) ⟨Nat.le_of_ble_eq_true rfl, Nat.le_of_ble_eq_true rfl⟩ rfl (Nat.le_of_ble_eq_true rfl) ⟨Nat.zero_le _, Nat.zero_le _⟩ fun hw => ?_
    have hv27 := hw
    clear hc hw
    show zP V X 3 0 0 30 _ [.int (zI v27), .int (zI x1)] d1
    revert h
    generalize d1 = d
    intro h
    refine zP_isub (pc := 30) C dX11_gap_30 h fun v30 hv30 h => ?_
    refine zP_istore_n (pc := 31) C (L' := [some (.ref (zad V 0)), some (.int (zI v30)), some (.int (zI x2))]) dX11_gap_31 rfl (Nat.le_of_ble_eq_true rfl) rfl rfl ?_
    refine zP_iinc (pc := 32) C (x := x2) dX11_gap_32 rfl (Nat.le_of_ble_eq_true rfl) rfl h fun v32 hv32 h => ?_
    show zP V X 3 0 0 35 [some (.ref (zad V 0)), some (.int (zI v30)), some (.int (zI v32))] _ _
    refine zP_goto (pc := 35) (tgt := 13) C dX11_gap_35 rfl ?_
    exact zP_mask [true, true, true] (hr13 hv30 hv32 h)
def l_X11_gap_13   : Nat → Int → Int → zD → Option (Int × zD)
  | 0, _, _, _ => none
  | q + 1, x1, x2, d => l_X11_gap_13F   (l_X11_gap_13   q) x1 x2 d
theorem wl_X11_gap_13 {V : zW} {X : zX}  (hT : zo11 V) (C : zOk V X cX11_gap RX11 3 (zrm 1) (some .int)) {rv : Int} {dz : zD} (E : zEnd V X (some (.int (zI rv))) (zR rv) dz)  : ∀ (q : Nat) {x1 x2 : Int} (hx1 : zR x1) (hx2 : zR x2) {d : zD} (h : l_X11_gap_13   q x1 x2 d = some (rv, dz)), zP V X 3 0 0 13 [some (.ref (zad V 0)), some (.int (zI x1)), some (.int (zI x2))] [] d := by
  intro q
  induction q with
  | zero => intro x1 x2 hx1 hx2 d h; cases (show (none : Option (Int × zD)) = some (rv, dz) from h)
  | succ q ih =>
    intro x1 x2 hx1 hx2 d h
    exact wl_X11_gap_13F hT C E  (fun  hx1 hx2 h => ih hx1 hx2 h) hx1 hx2 h
def f_X11_gap  (d : zD) : Option (Int × zD) :=
  zl (d (30 + 1) 0) fun v7 =>
  l_X11_gap_13   zF v7 0 d
theorem t_X11_gap {V : zW}  (hT : zo11 V)   {d dz : zD} {rv : Int} (h : f_X11_gap   d = some (rv, dz)) : zMet V 1 yX11_gap cX11_gap 3 (some .int) [.ref (zad V 0)] d (some (.int (zI rv))) (zR rv) dz := by
  refine zMet_by RX11 pn11 rfl (Nat.le_of_ble_eq_true rfl) [some (.ref (zad V 0)), none, none] rfl fun X C E => ?_
  refine zP_aload_n (pc := 0) C (x := zad V 0) dX11_gap_0 rfl rfl ?_
  refine zP_getR (pc := 1) (a := 0) (t := 30) C g11_21 dX11_gap_1 (s_X11 hT) rfl ?_
  refine zP_getR (pc := 4) (a := 30) (t := 30 + 1) C g11_144 dX11_gap_4 (s_X2 (o_X11_line hT)) rfl ?_
  refine zP_getI (pc := 7) (a := 30 + 1) C g11_188 dX11_gap_7 (s_X3 (o_X11_line hT)) rfl h fun v7 hv7 h => ?_
  refine zP_istore_n (pc := 10) C (L' := [some (.ref (zad V 0)), some (.int (zI v7)), none]) dX11_gap_10 rfl (Nat.le_of_ble_eq_true rfl) rfl rfl ?_
  refine zP_iconst (pc := 11) C dX11_gap_11 ?_
  refine zP_istore_n (pc := 12) C (L' := [some (.ref (zad V 0)), some (.int (zI v7)), some (.int (zI 0))]) dX11_gap_12 rfl (Nat.le_of_ble_eq_true rfl) rfl rfl ?_
  exact zP_mask [true, true, true] (wl_X11_gap_13 hT C E  zF hv7 (zRk rfl) h)
def l_X11_quietIn_13F  (r13 : Int → zD → Option (Int × zD)) (x1 : Int) (d : zD) : Option (Int × zD) :=
  if (200 : Int) < x1 then (
    some ((-1), d))
  else (
    zc (f_X2_delivered 60  d) fun v24 d =>
    zl (d (60 + 1) 0) fun v34 =>
    if (v24 : Int) = v34 then (
      some (x1, d))
    else (
      zc (f_X1_makeTurn 7 60  d) fun _ d =>
      zl (zw (x1 + 1)) fun v49 =>
      r13 v49 d))
theorem wl_X11_quietIn_13F {V : zW} {X : zX}  (hT : zo11 V) (C : zOk V X cX11_quietIn RX11 2 (zrm 5) (some .int)) {rv : Int} {dz : zD} (E : zEnd V X (some (.int (zI rv))) (zR rv) dz) {r13 : Int → zD → Option (Int × zD)} (hr13 : ∀ {x1 : Int} {d : zD}, zR x1 → r13 x1 d = some (rv, dz) → zP V X 2 0 0 13 [some (.ref (zad V 0)), some (.int (zI x1))] [] d) {x1 : Int} (hx1 : zR x1) {d : zD} (h : l_X11_quietIn_13F  r13 x1 d = some (rv, dz)) : zP V X 2 0 0 13 [some (.ref (zad V 0)), some (.int (zI x1))] [] d := by
  refine zP_iload_n (pc := 13) C (x := zI x1) dX11_quietIn_13 rfl rfl ?_
  refine zP_sipush (pc := 14) C dX11_quietIn_14 rfl ?_
  refine zP_icmp_gt (pc := 17) (tgt := 55) C dX11_quietIn_17 rfl hx1 (zRk rfl) h (fun _ h => ?_) (fun _ h => ?_)
  · refine zP_iconst (pc := 55) C dX11_quietIn_55 ?_
    exact zP_iret (pc := 56) C E dX11_quietIn_56 (zRk rfl) h
  · refine zP_aload_n (pc := 20) C (x := zad V 0) dX11_quietIn_20 rfl rfl ?_
    refine zP_getR (pc := 21) (a := 0) (t := 60) C g11_34 dX11_quietIn_21 (s_X11 hT) rfl ?_
    obtain ⟨v24, d1, hc, h⟩ := zc_h h
    refine zP_callV (pc := 24) (As := []) (st := []) C m11_324 dX11_quietIn_24 (s_X2 (o_X11_copy hT)) rfl (t_X2_delivered (o_X11_copy hT)  hc) ⟨Nat.le_of_ble_eq_true rfl, Nat.le_of_ble_eq_true rfl⟩ rfl (Nat.le_of_ble_eq_true rfl) ⟨Nat.zero_le _, Nat.zero_le _⟩ fun hw => ?_
    have hv24 := hw
    clear hc hw
    show zP V X 2 0 0 27 _ [.int (zI v24)] d1
    revert h
    generalize d1 = d
    intro h
    refine zP_aload_n (pc := 27) C (x := zad V 0) dX11_quietIn_27 rfl rfl ?_
    refine zP_getR (pc := 28) (a := 0) (t := 60) C g11_34 dX11_quietIn_28 (s_X11 hT) rfl ?_
    refine zP_getR (pc := 31) (a := 60) (t := 60 + 1) C g11_144 dX11_quietIn_31 (s_X2 (o_X11_copy hT)) rfl ?_
    refine zP_getI (pc := 34) (a := 60 + 1) C g11_188 dX11_quietIn_34 (s_X3 (o_X11_copy hT)) rfl h fun v34 hv34 h => ?_
    refine zP_icmp_ne (pc := 37) (tgt := 42) C dX11_quietIn_37 rfl hv24 hv34 h (fun _ h => ?_) (fun _ h => ?_)
    · refine zP_aload_n (pc := 42) C (x := zad V 0) dX11_quietIn_42 rfl rfl ?_
      refine zP_getR (pc := 43) (a := 0) (t := 7) C g11_37 dX11_quietIn_43 (s_X11 hT) rfl ?_
      obtain ⟨_, d1, hc, h⟩ := zc_h h
      refine zP_callV (pc := 46) (As := []) (st := []) C m11_327 dX11_quietIn_46 (s_X1 (o_X11_copyHost hT)) rfl (t_X1_makeTurn (o_X11_copyHost hT)  hc) ⟨Nat.le_of_ble_eq_true rfl, Nat.le_of_ble_eq_true rfl⟩ rfl (Nat.le_of_ble_eq_true rfl) ⟨Nat.zero_le _, Nat.zero_le _⟩ fun hw => ?_
      clear hc hw
      show zP V X 2 0 0 49 _ [] d1
      revert h
      generalize d1 = d
      intro h
      refine zP_iinc (pc := 49) C (x := x1) dX11_quietIn_49 rfl (Nat.le_of_ble_eq_true rfl) rfl h fun v49 hv49 h => ?_
      show zP V X 2 0 0 52 [some (.ref (zad V 0)), some (.int (zI v49))] _ _
      refine zP_goto (pc := 52) (tgt := 13) C dX11_quietIn_52 rfl ?_
      exact zP_mask [true, true] (hr13 hv49 h)
    · refine zP_iload_n (pc := 40) C (x := zI x1) dX11_quietIn_40 rfl rfl ?_
      exact zP_iret (pc := 41) C E dX11_quietIn_41 hx1 h
def l_X11_quietIn_13   : Nat → Int → zD → Option (Int × zD)
  | 0, _, _ => none
  | q + 1, x1, d => l_X11_quietIn_13F   (l_X11_quietIn_13   q) x1 d
theorem wl_X11_quietIn_13 {V : zW} {X : zX}  (hT : zo11 V) (C : zOk V X cX11_quietIn RX11 2 (zrm 5) (some .int)) {rv : Int} {dz : zD} (E : zEnd V X (some (.int (zI rv))) (zR rv) dz)  : ∀ (q : Nat) {x1 : Int} (hx1 : zR x1) {d : zD} (h : l_X11_quietIn_13   q x1 d = some (rv, dz)), zP V X 2 0 0 13 [some (.ref (zad V 0)), some (.int (zI x1))] [] d := by
  intro q
  induction q with
  | zero => intro x1 hx1 d h; cases (show (none : Option (Int × zD)) = some (rv, dz) from h)
  | succ q ih =>
    intro x1 hx1 d h
    exact wl_X11_quietIn_13F hT C E  (fun  hx1 h => ih hx1 h) hx1 h
def f_X11_quietIn  (d : zD) : Option (Int × zD) :=
  zc (f_X2_copyFrom 60 30  d) fun _ d =>
  l_X11_quietIn_13   zF 0 d
theorem t_X11_quietIn {V : zW}  (hT : zo11 V)   {d dz : zD} {rv : Int} (h : f_X11_quietIn   d = some (rv, dz)) : zMet V 5 yX11_quietIn cX11_quietIn 2 (some .int) [.ref (zad V 0)] d (some (.int (zI rv))) (zR rv) dz := by
  refine zMet_by RX11 pn11 rfl (Nat.le_of_ble_eq_true rfl) [some (.ref (zad V 0)), none] rfl fun X C E => ?_
  refine zP_aload_n (pc := 0) C (x := zad V 0) dX11_quietIn_0 rfl rfl ?_
  refine zP_getR (pc := 1) (a := 0) (t := 60) C g11_34 dX11_quietIn_1 (s_X11 hT) rfl ?_
  refine zP_aload_n (pc := 4) C (x := zad V 0) dX11_quietIn_4 rfl rfl ?_
  refine zP_getR (pc := 5) (a := 0) (t := 30) C g11_21 dX11_quietIn_5 (s_X11 hT) rfl ?_
  obtain ⟨_, d1, hc, h⟩ := zc_h h
  refine zP_callV (pc := 8) (As := [.ref (zad V 30)]) (st := []) C m11_322 dX11_quietIn_8 (s_X2 (o_X11_copy hT)) rfl (t_X2_copyFrom (o_X11_copy hT) (o_X11_line hT)  hc) ⟨Nat.le_of_ble_eq_true rfl, Nat.le_of_ble_eq_true rfl⟩ rfl (Nat.le_of_ble_eq_true rfl) ⟨Nat.zero_le _, Nat.zero_le _⟩ fun hw => ?_
  clear hc hw
  show zP V X 2 0 0 11 _ [] d1
  revert h
  generalize d1 = d
  intro h
  refine zP_iconst (pc := 11) C dX11_quietIn_11 ?_
  refine zP_istore_n (pc := 12) C (L' := [some (.ref (zad V 0)), some (.int (zI 0))]) dX11_quietIn_12 rfl (Nat.le_of_ble_eq_true rfl) rfl rfl ?_
  exact zP_mask [true, true] (wl_X11_quietIn_13 hT C E  zF (zRk rfl) h)
def f_X11_deliveredWith  (x1 x2 x3 : Int) (d : zD) : Option (Int × zD) :=
  zc (f_X2_copyFrom 60 30  d) fun _ d =>
  zg 6 x1 <| zl (zu d (60 + 27) (x1 : Int).toNat x2) fun d =>
  zc (f_X1_makeTurns 7 60 x3 d) fun _ d =>
  zc (f_X2_delivered 60  d) fun v33 d =>
  some (v33, d)
theorem t_X11_deliveredWith {V : zW}  (hT : zo11 V) {x1 x2 x3 : Int} (hx1 : zR x1) (hx2 : zR x2) (hx3 : zR x3) {d dz : zD} {rv : Int} (h : f_X11_deliveredWith  x1 x2 x3 d = some (rv, dz)) : zMet V 6 yX11_deliveredWith cX11_deliveredWith 4 (some .int) [.ref (zad V 0), .int (zI x1), .int (zI x2), .int (zI x3)] d (some (.int (zI rv))) (zR rv) dz := by
  refine zMet_by RX11 pn11 rfl (Nat.le_of_ble_eq_true rfl) [some (.ref (zad V 0)), some (.int (zI x1)), some (.int (zI x2)), some (.int (zI x3))] rfl fun X C E => ?_
  refine zP_aload_n (pc := 0) C (x := zad V 0) dX11_deliveredWith_0 rfl rfl ?_
  refine zP_getR (pc := 1) (a := 0) (t := 60) C g11_34 dX11_deliveredWith_1 (s_X11 hT) rfl ?_
  refine zP_aload_n (pc := 4) C (x := zad V 0) dX11_deliveredWith_4 rfl rfl ?_
  refine zP_getR (pc := 5) (a := 0) (t := 30) C g11_21 dX11_deliveredWith_5 (s_X11 hT) rfl ?_
  obtain ⟨_, d1, hc, h⟩ := zc_h h
  refine zP_callV (pc := 8) (As := [.ref (zad V 30)]) (st := []) C m11_322 dX11_deliveredWith_8 (s_X2 (o_X11_copy hT)) rfl (t_X2_copyFrom (o_X11_copy hT) (o_X11_line hT)  hc) ⟨Nat.le_of_ble_eq_true rfl, Nat.le_of_ble_eq_true rfl⟩ rfl (Nat.le_of_ble_eq_true rfl) ⟨Nat.zero_le _, Nat.zero_le _⟩ fun hw => ?_
  clear hc hw
  show zP V X 4 0 0 11 _ [] d1
  revert h
  generalize d1 = d
  intro h
  refine zP_aload_n (pc := 11) C (x := zad V 0) dX11_deliveredWith_11 rfl rfl ?_
  refine zP_getR (pc := 12) (a := 0) (t := 60) C g11_34 dX11_deliveredWith_12 (s_X11 hT) rfl ?_
  refine zP_getR (pc := 15) (a := 60) (t := 60 + 27) C g11_221 dX11_deliveredWith_15 (s_X2 (o_X11_copy hT)) rfl ?_
  refine zP_iload_n (pc := 18) C (x := zI x1) dX11_deliveredWith_18 rfl rfl ?_
  refine zP_iload_n (pc := 19) C (x := zI x2) dX11_deliveredWith_19 rfl rfl ?_
  refine zP_iast (pc := 20) (a := 60 + 27) C dX11_deliveredWith_20 (s_X2_settings (o_X11_copy hT)) hx1 hx2 h fun d h => ?_
  refine zP_aload_n (pc := 21) C (x := zad V 0) dX11_deliveredWith_21 rfl rfl ?_
  refine zP_getR (pc := 22) (a := 0) (t := 7) C g11_37 dX11_deliveredWith_22 (s_X11 hT) rfl ?_
  refine zP_iload_n (pc := 25) C (x := zI x3) dX11_deliveredWith_25 rfl rfl ?_
  obtain ⟨_, d1, hc, h⟩ := zc_h h
  refine zP_callV (pc := 26) (As := [.int (zI x3)]) (st := []) C m11_170 dX11_deliveredWith_26 (s_X1 (o_X11_copyHost hT)) rfl (t_X1_makeTurns (o_X11_copyHost hT) hx3 hc) ⟨Nat.le_of_ble_eq_true rfl, Nat.le_of_ble_eq_true rfl⟩ rfl (Nat.le_of_ble_eq_true rfl) ⟨Nat.zero_le _, Nat.zero_le _⟩ fun hw => ?_
  clear hc hw
  show zP V X 4 0 0 29 _ [] d1
  revert h
  generalize d1 = d
  intro h
  refine zP_aload_n (pc := 29) C (x := zad V 0) dX11_deliveredWith_29 rfl rfl ?_
  refine zP_getR (pc := 30) (a := 0) (t := 60) C g11_34 dX11_deliveredWith_30 (s_X11 hT) rfl ?_
  obtain ⟨v33, d1, hc, h⟩ := zc_h h
  refine zP_callV (pc := 33) (As := []) (st := []) C m11_324 dX11_deliveredWith_33 (s_X2 (o_X11_copy hT)) rfl (t_X2_delivered (o_X11_copy hT)  hc) ⟨Nat.le_of_ble_eq_true rfl, Nat.le_of_ble_eq_true rfl⟩ rfl (Nat.le_of_ble_eq_true rfl) ⟨Nat.zero_le _, Nat.zero_le _⟩ fun hw => ?_
  have hv33 := hw
  clear hc hw
  show zP V X 4 0 0 36 _ [.int (zI v33)] d1
  revert h
  generalize d1 = d
  intro h
  exact zP_iret (pc := 36) C E dX11_deliveredWith_36 hv33 h
def l_X11_worst_6F  (r6 : Int → Int → Int → zD → Option (Int × zD)) (x1 x2 x3 : Int) (d : zD) : Option (Int × zD) :=
  zl (d 1 0) fun v11 =>
  if (v11 : Int) ≤ x3 then (
    some (x1, d))
  else (
    zc (f_X8_oftenOf 30 3 x3 d) fun v26 d =>
    if (v26 : Int) ≤ x2 then (
      zl (zw (x3 + 1)) fun v42 =>
      r6 x1 x2 v42 d)
    else (
      zl (zw (x3 + 1)) fun v42 =>
      r6 x3 v26 v42 d))
theorem wl_X11_worst_6F {V : zW} {X : zX}  (hT : zo11 V) (C : zOk V X cX11_worst RX11 5 (zrm 1) (some .int)) {rv : Int} {dz : zD} (E : zEnd V X (some (.int (zI rv))) (zR rv) dz) {r6 : Int → Int → Int → zD → Option (Int × zD)} (hr6 : ∀ {x1 x2 x3 : Int} {d : zD}, zR x1 → zR x2 → zR x3 → r6 x1 x2 x3 d = some (rv, dz) → zP V X 5 0 0 6 [some (.ref (zad V 0)), some (.int (zI x1)), some (.int (zI x2)), some (.int (zI x3)), none] [] d) {x1 x2 x3 : Int} (hx1 : zR x1) (hx2 : zR x2) (hx3 : zR x3) {d : zD} (h : l_X11_worst_6F  r6 x1 x2 x3 d = some (rv, dz)) : zP V X 5 0 0 6 [some (.ref (zad V 0)), some (.int (zI x1)), some (.int (zI x2)), some (.int (zI x3)), none] [] d := by
  refine zP_iload_n (pc := 6) C (x := zI x3) dX11_worst_6 rfl rfl ?_
  refine zP_aload_n (pc := 7) C (x := zad V 0) dX11_worst_7 rfl rfl ?_
  refine zP_getR (pc := 8) (a := 0) (t := 1) C g11_10 dX11_worst_8 (s_X11 hT) rfl ?_
  refine zP_getI (pc := 11) (a := 1) C g11_115 dX11_worst_11 (s_X6 (o_X11_setup hT)) rfl h fun v11 hv11 h => ?_
  refine zP_icmp_ge (pc := 14) (tgt := 48) C dX11_worst_14 rfl hx3 hv11 h (fun _ h => ?_) (fun _ h => ?_)
  · refine zP_iload_n (pc := 48) C (x := zI x1) dX11_worst_48 rfl rfl ?_
    exact zP_iret (pc := 49) C E dX11_worst_49 hx1 h
  · refine zP_aload_n (pc := 17) C (x := zad V 0) dX11_worst_17 rfl rfl ?_
    refine zP_getR (pc := 18) (a := 0) (t := 30) C g11_21 dX11_worst_18 (s_X11 hT) rfl ?_
    refine zP_getR (pc := 21) (a := 30) (t := 30 + 15) C g11_199 dX11_worst_21 (s_X2 (o_X11_line hT)) rfl ?_
    refine zP_iconst (pc := 24) C dX11_worst_24 ?_
    refine zP_iload_n (pc := 25) C (x := zI x3) dX11_worst_25 rfl rfl ?_
    obtain ⟨v26, d1, hc, h⟩ := zc_h h
    refine zP_callV (pc := 26) (As := [.int (zI 3), .int (zI x3)]) (st := []) C m11_339 dX11_worst_26 (s_X8 (o_X11_line hT)) rfl (t_X8_oftenOf (o_X11_line hT) (zRk rfl) hx3 hc) ⟨Nat.le_of_ble_eq_true rfl, Nat.le_of_ble_eq_true rfl⟩ rfl (Nat.le_of_ble_eq_true rfl) ⟨Nat.zero_le _, Nat.zero_le _⟩ fun hw => ?_
    have hv26 := hw
    clear hc hw
    show zP V X 5 0 0 29 _ [.int (zI v26)] d1
    revert h
    generalize d1 = d
    intro h
    refine zP_istore (pc := 29) C (L' := [some (.ref (zad V 0)), some (.int (zI x1)), some (.int (zI x2)), some (.int (zI x3)), some (.int (zI v26))]) dX11_worst_29 (Nat.le_of_ble_eq_true rfl) rfl rfl ?_
    refine zP_iload (pc := 31) C (x := zI v26) dX11_worst_31 rfl ?_
    refine zP_iload_n (pc := 33) C (x := zI x2) dX11_worst_33 rfl rfl ?_
    refine zP_icmp_le (pc := 34) (tgt := 42) C dX11_worst_34 rfl hv26 hx2 h (fun _ h => ?_) (fun _ h => ?_)
    · refine zP_iinc (pc := 42) C (x := x3) dX11_worst_42 rfl (Nat.le_of_ble_eq_true rfl) rfl h fun v42 hv42 h => ?_
      show zP V X 5 0 0 45 [some (.ref (zad V 0)), some (.int (zI x1)), some (.int (zI x2)), some (.int (zI v42)), some (.int (zI v26))] _ _
      refine zP_goto (pc := 45) (tgt := 6) C dX11_worst_45 rfl ?_
      exact zP_mask [true, true, true, true, false] (hr6 hx1 hx2 hv42 h)
    · refine zP_iload (pc := 37) C (x := zI v26) dX11_worst_37 rfl ?_
      refine zP_istore_n (pc := 39) C (L' := [some (.ref (zad V 0)), some (.int (zI x1)), some (.int (zI v26)), some (.int (zI x3)), some (.int (zI v26))]) dX11_worst_39 rfl (Nat.le_of_ble_eq_true rfl) rfl rfl ?_
      refine zP_iload_n (pc := 40) C (x := zI x3) dX11_worst_40 rfl rfl ?_
      refine zP_istore_n (pc := 41) C (L' := [some (.ref (zad V 0)), some (.int (zI x3)), some (.int (zI v26)), some (.int (zI x3)), some (.int (zI v26))]) dX11_worst_41 rfl (Nat.le_of_ble_eq_true rfl) rfl rfl ?_
      refine zP_iinc (pc := 42) C (x := x3) dX11_worst_42 rfl (Nat.le_of_ble_eq_true rfl) rfl h fun v42 hv42 h => ?_
      show zP V X 5 0 0 45 [some (.ref (zad V 0)), some (.int (zI x3)), some (.int (zI v26)), some (.int (zI v42)), some (.int (zI v26))] _ _
      refine zP_goto (pc := 45) (tgt := 6) C dX11_worst_45 rfl ?_
      exact zP_mask [true, true, true, true, false] (hr6 hx3 hv26 hv42 h)
def l_X11_worst_6   : Nat → Int → Int → Int → zD → Option (Int × zD)
  | 0, _, _, _, _ => none
  | q + 1, x1, x2, x3, d => l_X11_worst_6F   (l_X11_worst_6   q) x1 x2 x3 d
theorem wl_X11_worst_6 {V : zW} {X : zX}  (hT : zo11 V) (C : zOk V X cX11_worst RX11 5 (zrm 1) (some .int)) {rv : Int} {dz : zD} (E : zEnd V X (some (.int (zI rv))) (zR rv) dz)  : ∀ (q : Nat) {x1 x2 x3 : Int} (hx1 : zR x1) (hx2 : zR x2) (hx3 : zR x3) {d : zD} (h : l_X11_worst_6   q x1 x2 x3 d = some (rv, dz)), zP V X 5 0 0 6 [some (.ref (zad V 0)), some (.int (zI x1)), some (.int (zI x2)), some (.int (zI x3)), none] [] d := by
  intro q
  induction q with
  | zero => intro x1 x2 x3 hx1 hx2 hx3 d h; cases (show (none : Option (Int × zD)) = some (rv, dz) from h)
  | succ q ih =>
    intro x1 x2 x3 hx1 hx2 hx3 d h
    exact wl_X11_worst_6F hT C E  (fun  hx1 hx2 hx3 h => ih hx1 hx2 hx3 h) hx1 hx2 hx3 h
def f_X11_worst  (d : zD) : Option (Int × zD) :=
  l_X11_worst_6   zF (-1) 0 0 d
theorem t_X11_worst {V : zW}  (hT : zo11 V)   {d dz : zD} {rv : Int} (h : f_X11_worst   d = some (rv, dz)) : zMet V 1 yX11_worst cX11_worst 5 (some .int) [.ref (zad V 0)] d (some (.int (zI rv))) (zR rv) dz := by
  refine zMet_by RX11 pn11 rfl (Nat.le_of_ble_eq_true rfl) [some (.ref (zad V 0)), none, none, none, none] rfl fun X C E => ?_
  refine zP_iconst (pc := 0) C dX11_worst_0 ?_
  refine zP_istore_n (pc := 1) C (L' := [some (.ref (zad V 0)), some (.int (zI (-1))), none, none, none]) dX11_worst_1 rfl (Nat.le_of_ble_eq_true rfl) rfl rfl ?_
  refine zP_iconst (pc := 2) C dX11_worst_2 ?_
  refine zP_istore_n (pc := 3) C (L' := [some (.ref (zad V 0)), some (.int (zI (-1))), some (.int (zI 0)), none, none]) dX11_worst_3 rfl (Nat.le_of_ble_eq_true rfl) rfl rfl ?_
  refine zP_iconst (pc := 4) C dX11_worst_4 ?_
  refine zP_istore_n (pc := 5) C (L' := [some (.ref (zad V 0)), some (.int (zI (-1))), some (.int (zI 0)), some (.int (zI 0)), none]) dX11_worst_5 rfl (Nat.le_of_ble_eq_true rfl) rfl rfl ?_
  exact zP_mask [true, true, true, true, false] (wl_X11_worst_6 hT C E  zF (zRk rfl) (zRk rfl) (zRk rfl) h)
def f_X11_isParty  (x1 : Int) (d : zD) : Option (Int × zD) :=
  if (x1 : Int) = (-1) then (
    some (1, d))
  else (
    zc (f_X6_has 1 x1 d) fun v10 d =>
    if (v10 : Int) = 0 then (
      some (0, d))
    else (
      some (1, d)))
theorem t_X11_isParty {V : zW}  (hT : zo11 V) {x1 : Int} (hx1 : zR x1) {d dz : zD} {rv : Int} (h : f_X11_isParty  x1 d = some (rv, dz)) : zMet V 1 yX11_isParty cX11_isParty 2 (some .boolean) [.ref (zad V 0), .int (zI x1)] d (some (.int (zI rv))) (rv = 0 ∨ rv = 1) dz := by
  refine zMet_by RX11 pn11 rfl (Nat.le_of_ble_eq_true rfl) [some (.ref (zad V 0)), some (.int (zI x1))] rfl fun X C E => ?_
  refine zP_iload_n (pc := 0) C (x := zI x1) dX11_isParty_0 rfl rfl ?_
  refine zP_iconst (pc := 1) C dX11_isParty_1 ?_
  refine zP_icmp_eq (pc := 2) (tgt := 16) C dX11_isParty_2 rfl hx1 (zRk rfl) h (fun _ h => ?_) (fun _ h => ?_)
  · refine zP_iconst (pc := 16) C dX11_isParty_16 ?_
    refine zP_goto (pc := 17) (tgt := 21) C dX11_isParty_17 rfl ?_
    exact zP_zret (pc := 21) C E dX11_isParty_21 (Or.inr rfl) h
  · refine zP_aload_n (pc := 5) C (x := zad V 0) dX11_isParty_5 rfl rfl ?_
    refine zP_getR (pc := 6) (a := 0) (t := 1) C g11_10 dX11_isParty_6 (s_X11 hT) rfl ?_
    refine zP_iload_n (pc := 9) C (x := zI x1) dX11_isParty_9 rfl rfl ?_
    obtain ⟨v10, d1, hc, h⟩ := zc_h h
    refine zP_callV (pc := 10) (As := [.int (zI x1)]) (st := []) C m11_224 dX11_isParty_10 (s_X6 (o_X11_setup hT)) rfl (t_X6_has (o_X11_setup hT) hx1 hc) ⟨Nat.le_of_ble_eq_true rfl, Nat.le_of_ble_eq_true rfl⟩ rfl (Nat.le_of_ble_eq_true rfl) ⟨Nat.zero_le _, Nat.zero_le _⟩ fun hw => ?_
    have hbv10 := hw
    have hv10 := z01 hw
    clear hc hw
    show zP V X 2 0 0 13 _ [.int (zI v10)] d1
    revert h
    generalize d1 = d
    intro h
    refine zP_if_eq (pc := 13) (tgt := 20) C dX11_isParty_13 rfl hv10 h (fun _ h => ?_) (fun _ h => ?_)
    · refine zP_iconst (pc := 20) C dX11_isParty_20 ?_
      exact zP_zret (pc := 21) C E dX11_isParty_21 (Or.inl rfl) h
    · refine zP_iconst (pc := 16) C dX11_isParty_16 ?_
      refine zP_goto (pc := 17) (tgt := 21) C dX11_isParty_17 rfl ?_
      exact zP_zret (pc := 21) C E dX11_isParty_21 (Or.inr rfl) h
def f_X11_writeByte  (x1 : Int) (d : zD) : Option (Int × zD) :=
  zl (d 0 11) fun v1 =>
  if (160 : Int) ≤ v1 then (
    some (0, d))
  else (
    zl (d 0 11) fun v15 =>
    zg 160 v15 <| zl (zu d 25 (v15 : Int).toNat x1) fun d =>
    zl (d 0 11) fun v22 =>
    zl (zw (v22 + 1)) fun v26 =>
    zl (zu d 0 11 v26) fun d =>
    some (0, d))
theorem t_X11_writeByte {V : zW}  (hT : zo11 V) {x1 : Int} (hx1 : zR x1) {d dz : zD} {rv : Int} (h : f_X11_writeByte  x1 d = some (rv, dz)) : zMet V 0 yX11_writeByte cX11_writeByte 2 none [.ref (zad V 0), .int (zI x1)] d none (rv = 0) dz := by
  refine zMet_by RX11 pn11 rfl (Nat.le_of_ble_eq_true rfl) [some (.ref (zad V 0)), some (.int (zI x1))] rfl fun X C E => ?_
  refine zP_aload_n (pc := 0) C (x := zad V 0) dX11_writeByte_0 rfl rfl ?_
  refine zP_getI (pc := 1) (a := 0) C g11_79 dX11_writeByte_1 (s_X11 hT) rfl h fun v1 hv1 h => ?_
  refine zP_sipush (pc := 4) C dX11_writeByte_4 rfl ?_
  refine zP_icmp_ge (pc := 7) (tgt := 30) C dX11_writeByte_7 rfl hv1 (zRk rfl) h (fun _ h => ?_) (fun _ h => ?_)
  · exact zP_vret (pc := 30) C E dX11_writeByte_30 h
  · refine zP_aload_n (pc := 10) C (x := zad V 0) dX11_writeByte_10 rfl rfl ?_
    refine zP_getR (pc := 11) (a := 0) (t := 25) C g11_75 dX11_writeByte_11 (s_X11 hT) rfl ?_
    refine zP_aload_n (pc := 14) C (x := zad V 0) dX11_writeByte_14 rfl rfl ?_
    refine zP_getI (pc := 15) (a := 0) C g11_79 dX11_writeByte_15 (s_X11 hT) rfl h fun v15 hv15 h => ?_
    refine zP_iload_n (pc := 18) C (x := zI x1) dX11_writeByte_18 rfl rfl ?_
    refine zP_iast (pc := 19) (a := 25) C dX11_writeByte_19 (s_X11_output hT) hv15 hx1 h fun d h => ?_
    refine zP_aload_n (pc := 20) C (x := zad V 0) dX11_writeByte_20 rfl rfl ?_
    refine zP_dup (pc := 21) C dX11_writeByte_21 rfl ?_
    refine zP_getI (pc := 22) (a := 0) C g11_79 dX11_writeByte_22 (s_X11 hT) rfl h fun v22 hv22 h => ?_
    refine zP_iconst (pc := 25) C dX11_writeByte_25 ?_
    refine zP_iadd (pc := 26) C dX11_writeByte_26 h fun v26 hv26 h => ?_
    refine zP_putI (pc := 27) (a := 0) C p11_79 dX11_writeByte_27 (s_X11 hT) rfl hv26 h fun d h => ?_
    exact zP_vret (pc := 30) C E dX11_writeByte_30 h
def l_X11_writeName_2F  (r2 : Int → Int → zD → Option (Int × zD)) (x1 x2 : Int) (d : zD) : Option (Int × zD) :=
  if (6 : Int) ≤ x2 then (
    some (0, d))
  else (
    zc (f_X6_letterOf 1 x1 x2 d) fun v14 d =>
    if (v14 : Int) ≤ 0 then (
      zl (zw (x2 + 1)) fun v32 =>
      r2 x1 v32 d)
    else (
      zl (zw (97 + v14)) fun v26 =>
      zl (zw (v26 - 1)) fun v28 =>
      zc (f_X11_writeByte  v28 d) fun _ d =>
      zl (zw (x2 + 1)) fun v32 =>
      r2 x1 v32 d))
theorem wl_X11_writeName_2F {V : zW} {X : zX}  (hT : zo11 V) (C : zOk V X cX11_writeName RX11 4 (zrm 2) none) {rv : Int} {dz : zD} (E : zEnd V X none (rv = 0) dz) {r2 : Int → Int → zD → Option (Int × zD)} (hr2 : ∀ {x1 x2 : Int} {d : zD}, zR x1 → zR x2 → r2 x1 x2 d = some (rv, dz) → zP V X 4 0 0 2 [some (.ref (zad V 0)), some (.int (zI x1)), some (.int (zI x2)), none] [] d) {x1 x2 : Int} (hx1 : zR x1) (hx2 : zR x2) {d : zD} (h : l_X11_writeName_2F  r2 x1 x2 d = some (rv, dz)) : zP V X 4 0 0 2 [some (.ref (zad V 0)), some (.int (zI x1)), some (.int (zI x2)), none] [] d := by
  refine zP_iload_n (pc := 2) C (x := zI x2) dX11_writeName_2 rfl rfl ?_
  refine zP_bipush (pc := 3) C dX11_writeName_3 rfl ?_
  refine zP_icmp_ge (pc := 5) (tgt := 38) C dX11_writeName_5 rfl hx2 (zRk rfl) h (fun _ h => ?_) (fun _ h => ?_)
  · exact zP_vret (pc := 38) C E dX11_writeName_38 h
  · refine zP_aload_n (pc := 8) C (x := zad V 0) dX11_writeName_8 rfl rfl ?_
    refine zP_getR (pc := 9) (a := 0) (t := 1) C g11_10 dX11_writeName_9 (s_X11 hT) rfl ?_
    refine zP_iload_n (pc := 12) C (x := zI x1) dX11_writeName_12 rfl rfl ?_
    refine zP_iload_n (pc := 13) C (x := zI x2) dX11_writeName_13 rfl rfl ?_
    obtain ⟨v14, d1, hc, h⟩ := zc_h h
    refine zP_callV (pc := 14) (As := [.int (zI x1), .int (zI x2)]) (st := []) C m11_266 dX11_writeName_14 (s_X6 (o_X11_setup hT)) rfl (t_X6_letterOf (o_X11_setup hT) hx1 hx2 hc) ⟨Nat.le_of_ble_eq_true rfl, Nat.le_of_ble_eq_true rfl⟩ rfl (Nat.le_of_ble_eq_true rfl) ⟨Nat.zero_le _, Nat.zero_le _⟩ fun hw => ?_
    have hv14 := hw
    clear hc hw
    show zP V X 4 0 0 17 _ [.int (zI v14)] d1
    revert h
    generalize d1 = d
    intro h
    refine zP_istore_n (pc := 17) C (L' := [some (.ref (zad V 0)), some (.int (zI x1)), some (.int (zI x2)), some (.int (zI v14))]) dX11_writeName_17 rfl (Nat.le_of_ble_eq_true rfl) rfl rfl ?_
    refine zP_iload_n (pc := 18) C (x := zI v14) dX11_writeName_18 rfl rfl ?_
    refine zP_if_le (pc := 19) (tgt := 32) C dX11_writeName_19 rfl hv14 h (fun _ h => ?_) (fun _ h => ?_)
    · refine zP_iinc (pc := 32) C (x := x2) dX11_writeName_32 rfl (Nat.le_of_ble_eq_true rfl) rfl h fun v32 hv32 h => ?_
      show zP V X 4 0 0 35 [some (.ref (zad V 0)), some (.int (zI x1)), some (.int (zI v32)), some (.int (zI v14))] _ _
      refine zP_goto (pc := 35) (tgt := 2) C dX11_writeName_35 rfl ?_
      exact zP_mask [true, true, true, false] (hr2 hx1 hv32 h)
    · refine zP_aload_n (pc := 22) C (x := zad V 0) dX11_writeName_22 rfl rfl ?_
      refine zP_bipush (pc := 23) C dX11_writeName_23 rfl ?_
      refine zP_iload_n (pc := 25) C (x := zI v14) dX11_writeName_25 rfl rfl ?_
      refine zP_iadd (pc := 26) C dX11_writeName_26 h fun v26 hv26 h => ?_
      refine zP_iconst (pc := 27) C dX11_writeName_27 ?_
      refine zP_isub (pc := 28) C dX11_writeName_28 h fun v28 hv28 h => ?_
      obtain ⟨_, d1, hc, h⟩ := zc_h h
      refine zP_callV (pc := 29) (As := [.int (zI v28)]) (st := []) C m11_357 dX11_writeName_29 (s_X11 hT) rfl (t_X11_writeByte hT hv28 hc) ⟨Nat.le_of_ble_eq_true rfl, Nat.le_of_ble_eq_true rfl⟩ rfl (Nat.le_of_ble_eq_true rfl) ⟨Nat.zero_le _, Nat.zero_le _⟩ fun hw => ?_
      clear hc hw
      show zP V X 4 0 0 32 _ [] d1
      revert h
      generalize d1 = d
      intro h
      refine zP_iinc (pc := 32) C (x := x2) dX11_writeName_32 rfl (Nat.le_of_ble_eq_true rfl) rfl h fun v32 hv32 h => ?_
      show zP V X 4 0 0 35 [some (.ref (zad V 0)), some (.int (zI x1)), some (.int (zI v32)), some (.int (zI v14))] _ _
      refine zP_goto (pc := 35) (tgt := 2) C dX11_writeName_35 rfl ?_
      exact zP_mask [true, true, true, false] (hr2 hx1 hv32 h)
def l_X11_writeName_2   : Nat → Int → Int → zD → Option (Int × zD)
  | 0, _, _, _ => none
  | q + 1, x1, x2, d => l_X11_writeName_2F   (l_X11_writeName_2   q) x1 x2 d
theorem wl_X11_writeName_2 {V : zW} {X : zX}  (hT : zo11 V) (C : zOk V X cX11_writeName RX11 4 (zrm 2) none) {rv : Int} {dz : zD} (E : zEnd V X none (rv = 0) dz)  : ∀ (q : Nat) {x1 x2 : Int} (hx1 : zR x1) (hx2 : zR x2) {d : zD} (h : l_X11_writeName_2   q x1 x2 d = some (rv, dz)), zP V X 4 0 0 2 [some (.ref (zad V 0)), some (.int (zI x1)), some (.int (zI x2)), none] [] d := by
  intro q
  induction q with
  | zero => intro x1 x2 hx1 hx2 d h; cases (show (none : Option (Int × zD)) = some (rv, dz) from h)
  | succ q ih =>
    intro x1 x2 hx1 hx2 d h
    exact wl_X11_writeName_2F hT C E  (fun  hx1 hx2 h => ih hx1 hx2 h) hx1 hx2 h
def f_X11_writeName  (x1 : Int) (d : zD) : Option (Int × zD) :=
  l_X11_writeName_2   zF x1 0 d
theorem t_X11_writeName {V : zW}  (hT : zo11 V) {x1 : Int} (hx1 : zR x1) {d dz : zD} {rv : Int} (h : f_X11_writeName  x1 d = some (rv, dz)) : zMet V 2 yX11_writeName cX11_writeName 4 none [.ref (zad V 0), .int (zI x1)] d none (rv = 0) dz := by
  refine zMet_by RX11 pn11 rfl (Nat.le_of_ble_eq_true rfl) [some (.ref (zad V 0)), some (.int (zI x1)), none, none] rfl fun X C E => ?_
  refine zP_iconst (pc := 0) C dX11_writeName_0 ?_
  refine zP_istore_n (pc := 1) C (L' := [some (.ref (zad V 0)), some (.int (zI x1)), some (.int (zI 0)), none]) dX11_writeName_1 rfl (Nat.le_of_ble_eq_true rfl) rfl rfl ?_
  exact zP_mask [true, true, true, false] (wl_X11_writeName_2 hT C E  zF hx1 (zRk rfl) h)
def j_X11_writeNumber_17   (x1 : Int) (d : zD) : Option (Int × zD) :=
  zn 10 <| zl (zrem x1 10) fun v23 =>
  zl (zw (48 + v23)) fun v24 =>
  zc (f_X11_writeByte  v24 d) fun _ d =>
  some (0, d)
theorem wj_X11_writeNumber_17 {V : zW} {X : zX}  (hT : zo11 V) (C : zOk V X cX11_writeNumber RX11 2 (zrm 1) none) {rv : Int} {dz : zD} (E : zEnd V X none (rv = 0) dz)  {x1 : Int} (hx1 : zR x1) {d : zD} (h : j_X11_writeNumber_17   x1 d = some (rv, dz)) : zP V X 2 0 0 17 [some (.ref (zad V 0)), some (.int (zI x1))] [] d := by
  refine zP_aload_n (pc := 17) C (x := zad V 0) dX11_writeNumber_17 rfl rfl ?_
  refine zP_bipush (pc := 18) C dX11_writeNumber_18 rfl ?_
  refine zP_iload_n (pc := 20) C (x := zI x1) dX11_writeNumber_20 rfl rfl ?_
  refine zP_bipush (pc := 21) C dX11_writeNumber_21 rfl ?_
  refine zP_irem (pc := 23) C dX11_writeNumber_23 (zRk rfl) h fun v23 hv23 h => ?_
  refine zP_iadd (pc := 24) C dX11_writeNumber_24 h fun v24 hv24 h => ?_
  obtain ⟨_, d1, hc, h⟩ := zc_h h
  refine zP_callV (pc := 25) (As := [.int (zI v24)]) (st := []) C m11_357 dX11_writeNumber_25 (s_X11 hT) rfl (t_X11_writeByte hT hv24 hc) ⟨Nat.le_of_ble_eq_true rfl, Nat.le_of_ble_eq_true rfl⟩ rfl (Nat.le_of_ble_eq_true rfl) ⟨Nat.zero_le _, Nat.zero_le _⟩ fun hw => ?_
  clear hc hw
  show zP V X 2 0 0 28 _ [] d1
  revert h
  generalize d1 = d
  intro h
  exact zP_vret (pc := 28) C E dX11_writeNumber_28 h
def f_X11_writeNumber  (x1 : Int) (d : zD) : Option (Int × zD) :=
  if (x1 : Int) < 10 then (
    j_X11_writeNumber_17   x1 d)
  else (
    zn 10 <| zl (zdiv x1 10) fun v12 =>
    zl (zw (48 + v12)) fun v13 =>
    zc (f_X11_writeByte  v13 d) fun _ d =>
    j_X11_writeNumber_17   x1 d)
theorem t_X11_writeNumber {V : zW}  (hT : zo11 V) {x1 : Int} (hx1 : zR x1) {d dz : zD} {rv : Int} (h : f_X11_writeNumber  x1 d = some (rv, dz)) : zMet V 1 yX11_writeNumber cX11_writeNumber 2 none [.ref (zad V 0), .int (zI x1)] d none (rv = 0) dz := by
  refine zMet_by RX11 pn11 rfl (Nat.le_of_ble_eq_true rfl) [some (.ref (zad V 0)), some (.int (zI x1))] rfl fun X C E => ?_
  refine zP_iload_n (pc := 0) C (x := zI x1) dX11_writeNumber_0 rfl rfl ?_
  refine zP_bipush (pc := 1) C dX11_writeNumber_1 rfl ?_
  refine zP_icmp_lt (pc := 3) (tgt := 17) C dX11_writeNumber_3 rfl hx1 (zRk rfl) h (fun _ h => ?_) (fun _ h => ?_)
  · exact zP_mask [true, true] (wj_X11_writeNumber_17 hT C E  hx1 h)
  · refine zP_aload_n (pc := 6) C (x := zad V 0) dX11_writeNumber_6 rfl rfl ?_
    refine zP_bipush (pc := 7) C dX11_writeNumber_7 rfl ?_
    refine zP_iload_n (pc := 9) C (x := zI x1) dX11_writeNumber_9 rfl rfl ?_
    refine zP_bipush (pc := 10) C dX11_writeNumber_10 rfl ?_
    refine zP_idiv (pc := 12) C dX11_writeNumber_12 (zRk rfl) h fun v12 hv12 h => ?_
    refine zP_iadd (pc := 13) C dX11_writeNumber_13 h fun v13 hv13 h => ?_
    obtain ⟨_, d1, hc, h⟩ := zc_h h
    refine zP_callV (pc := 14) (As := [.int (zI v13)]) (st := []) C m11_357 dX11_writeNumber_14 (s_X11 hT) rfl (t_X11_writeByte hT hv13 hc) ⟨Nat.le_of_ble_eq_true rfl, Nat.le_of_ble_eq_true rfl⟩ rfl (Nat.le_of_ble_eq_true rfl) ⟨Nat.zero_le _, Nat.zero_le _⟩ fun hw => ?_
    clear hc hw
    show zP V X 2 0 0 17 _ [] d1
    revert h
    generalize d1 = d
    intro h
    exact zP_mask [true, true] (wj_X11_writeNumber_17 hT C E  hx1 h)
def j_X11_printTerminals_94  (r7 : Int → zD → Option (Int × zD)) (r77 : Int → Int → zD → Option (Int × zD)) (x1 x2 s0 : Int) (d : zD) : Option (Int × zD) :=
  zc (f_X11_writeByte  s0 d) fun _ d =>
  zc (f_X4_sizeOf 30 x2 x1 d) fun v107 d =>
  zc (f_X11_writeNumber  v107 d) fun _ d =>
  zl (zw (x2 + 1)) fun v113 =>
  r77 x1 v113 d
theorem wj_X11_printTerminals_94 {V : zW} {X : zX}  (hT : zo11 V) (C : zOk V X cX11_printTerminals RX11 3 (zrm 3) (some .int)) {rv : Int} {dz : zD} (E : zEnd V X (some (.int (zI rv))) (zR rv) dz) {r7 : Int → zD → Option (Int × zD)} (hr7 : ∀ {x1 : Int} {d : zD}, zR x1 → r7 x1 d = some (rv, dz) → zP V X 3 0 0 7 [some (.ref (zad V 0)), some (.int (zI x1)), none] [] d) {r77 : Int → Int → zD → Option (Int × zD)} (hr77 : ∀ {x1 x2 : Int} {d : zD}, zR x1 → zR x2 → r77 x1 x2 d = some (rv, dz) → zP V X 3 0 0 77 [some (.ref (zad V 0)), some (.int (zI x1)), some (.int (zI x2))] [] d) {x1 x2 s0 : Int} (hx1 : zR x1) (hx2 : zR x2) (hs0 : zR s0) {d : zD} (h : j_X11_printTerminals_94  r7 r77 x1 x2 s0 d = some (rv, dz)) : zP V X 3 0 0 94 [some (.ref (zad V 0)), some (.int (zI x1)), some (.int (zI x2))] [.int (zI s0), .ref (zad V 0)] d := by
  obtain ⟨_, d1, hc, h⟩ := zc_h h
  refine zP_callV (pc := 94) (As := [.int (zI s0)]) (st := []) C m11_357 dX11_printTerminals_94 (s_X11 hT) rfl (t_X11_writeByte hT hs0 hc) ⟨Nat.le_of_ble_eq_true rfl, Nat.le_of_ble_eq_true rfl⟩ rfl (Nat.le_of_ble_eq_true rfl) ⟨Nat.zero_le _, Nat.zero_le _⟩ fun hw => ?_
  clear hc hw
  show zP V X 3 0 0 97 _ [] d1
  revert h
  generalize d1 = d
  intro h
  refine zP_aload_n (pc := 97) C (x := zad V 0) dX11_printTerminals_97 rfl rfl ?_
  refine zP_aload_n (pc := 98) C (x := zad V 0) dX11_printTerminals_98 rfl rfl ?_
  refine zP_getR (pc := 99) (a := 0) (t := 30) C g11_21 dX11_printTerminals_99 (s_X11 hT) rfl ?_
  refine zP_getR (pc := 102) (a := 30) (t := 30 + 10) C g11_242 dX11_printTerminals_102 (s_X2 (o_X11_line hT)) rfl ?_
  refine zP_iload_n (pc := 105) C (x := zI x2) dX11_printTerminals_105 rfl rfl ?_
  refine zP_iload_n (pc := 106) C (x := zI x1) dX11_printTerminals_106 rfl rfl ?_
  obtain ⟨v107, d1, hc, h⟩ := zc_h h
  refine zP_callV (pc := 107) (As := [.int (zI x2), .int (zI x1)]) (st := [.ref (zad V 0)]) C m11_246 dX11_printTerminals_107 (s_X4 (o_X11_line hT)) rfl (t_X4_sizeOf (o_X11_line hT) hx2 hx1 hc) ⟨Nat.le_of_ble_eq_true rfl, Nat.le_of_ble_eq_true rfl⟩ rfl (Nat.le_of_ble_eq_true rfl) ⟨Nat.zero_le _, Nat.zero_le _⟩ fun hw => ?_
  have hv107 := hw
  clear hc hw
  show zP V X 3 0 0 110 _ [.int (zI v107), .ref (zad V 0)] d1
  revert h
  generalize d1 = d
  intro h
  obtain ⟨_, d1, hc, h⟩ := zc_h h
  refine zP_callV (pc := 110) (As := [.int (zI v107)]) (st := []) C m11_363 dX11_printTerminals_110 (s_X11 hT) rfl (t_X11_writeNumber hT hv107 hc) ⟨Nat.le_of_ble_eq_true rfl, Nat.le_of_ble_eq_true rfl⟩ rfl (Nat.le_of_ble_eq_true rfl) ⟨Nat.zero_le _, Nat.zero_le _⟩ fun hw => ?_
  clear hc hw
  show zP V X 3 0 0 113 _ [] d1
  revert h
  generalize d1 = d
  intro h
  refine zP_iinc (pc := 113) C (x := x2) dX11_printTerminals_113 rfl (Nat.le_of_ble_eq_true rfl) rfl h fun v113 hv113 h => ?_
  show zP V X 3 0 0 116 [some (.ref (zad V 0)), some (.int (zI x1)), some (.int (zI v113))] _ _
  refine zP_goto (pc := 116) (tgt := 77) C dX11_printTerminals_116 rfl ?_
  exact zP_mask [true, true, true] (hr77 hx1 hv113 h)
def l_X11_printTerminals_77F  (r7 : Int → zD → Option (Int × zD)) (r77 : Int → Int → zD → Option (Int × zD)) (x1 x2 : Int) (d : zD) : Option (Int × zD) :=
  if (3 : Int) ≤ x2 then (
    zl (zw (x1 + 1)) fun v119 =>
    r7 v119 d)
  else (
    if (x2 : Int) = 0 then (
      j_X11_printTerminals_94  r7 r77 x1 x2 58 d)
    else (
      j_X11_printTerminals_94  r7 r77 x1 x2 47 d))
theorem wl_X11_printTerminals_77F {V : zW} {X : zX}  (hT : zo11 V) (C : zOk V X cX11_printTerminals RX11 3 (zrm 3) (some .int)) {rv : Int} {dz : zD} (E : zEnd V X (some (.int (zI rv))) (zR rv) dz) {r7 : Int → zD → Option (Int × zD)} (hr7 : ∀ {x1 : Int} {d : zD}, zR x1 → r7 x1 d = some (rv, dz) → zP V X 3 0 0 7 [some (.ref (zad V 0)), some (.int (zI x1)), none] [] d) {r77 : Int → Int → zD → Option (Int × zD)} (hr77 : ∀ {x1 x2 : Int} {d : zD}, zR x1 → zR x2 → r77 x1 x2 d = some (rv, dz) → zP V X 3 0 0 77 [some (.ref (zad V 0)), some (.int (zI x1)), some (.int (zI x2))] [] d) {x1 x2 : Int} (hx1 : zR x1) (hx2 : zR x2) {d : zD} (h : l_X11_printTerminals_77F  r7 r77 x1 x2 d = some (rv, dz)) : zP V X 3 0 0 77 [some (.ref (zad V 0)), some (.int (zI x1)), some (.int (zI x2))] [] d := by
  refine zP_iload_n (pc := 77) C (x := zI x2) dX11_printTerminals_77 rfl rfl ?_
  refine zP_iconst (pc := 78) C dX11_printTerminals_78 ?_
  refine zP_icmp_ge (pc := 79) (tgt := 119) C dX11_printTerminals_79 rfl hx2 (zRk rfl) h (fun _ h => ?_) (fun _ h => ?_)
  · refine zP_iinc (pc := 119) C (x := x1) dX11_printTerminals_119 rfl (Nat.le_of_ble_eq_true rfl) rfl h fun v119 hv119 h => ?_
    show zP V X 3 0 0 122 [some (.ref (zad V 0)), some (.int (zI v119)), some (.int (zI x2))] _ _
    refine zP_goto (pc := 122) (tgt := 7) C dX11_printTerminals_122 rfl ?_
    exact zP_mask [true, true, false] (hr7 hv119 h)
  · refine zP_aload_n (pc := 82) C (x := zad V 0) dX11_printTerminals_82 rfl rfl ?_
    refine zP_iload_n (pc := 83) C (x := zI x2) dX11_printTerminals_83 rfl rfl ?_
    refine zP_if_ne (pc := 84) (tgt := 92) C dX11_printTerminals_84 rfl hx2 h (fun _ h => ?_) (fun _ h => ?_)
    · refine zP_bipush (pc := 92) C dX11_printTerminals_92 rfl ?_
      exact zP_mask [true, true, true] (wj_X11_printTerminals_94 hT C E hr7 hr77 hx1 hx2 (zRk rfl) h)
    · refine zP_bipush (pc := 87) C dX11_printTerminals_87 rfl ?_
      refine zP_goto (pc := 89) (tgt := 94) C dX11_printTerminals_89 rfl ?_
      exact zP_mask [true, true, true] (wj_X11_printTerminals_94 hT C E hr7 hr77 hx1 hx2 (zRk rfl) h)
def l_X11_printTerminals_77  (r7 : Int → zD → Option (Int × zD)) : Nat → Int → Int → zD → Option (Int × zD)
  | 0, _, _, _ => none
  | q + 1, x1, x2, d => l_X11_printTerminals_77F  r7 (l_X11_printTerminals_77  r7 q) x1 x2 d
theorem wl_X11_printTerminals_77 {V : zW} {X : zX}  (hT : zo11 V) (C : zOk V X cX11_printTerminals RX11 3 (zrm 3) (some .int)) {rv : Int} {dz : zD} (E : zEnd V X (some (.int (zI rv))) (zR rv) dz) {r7 : Int → zD → Option (Int × zD)} (hr7 : ∀ {x1 : Int} {d : zD}, zR x1 → r7 x1 d = some (rv, dz) → zP V X 3 0 0 7 [some (.ref (zad V 0)), some (.int (zI x1)), none] [] d) : ∀ (q : Nat) {x1 x2 : Int} (hx1 : zR x1) (hx2 : zR x2) {d : zD} (h : l_X11_printTerminals_77  r7 q x1 x2 d = some (rv, dz)), zP V X 3 0 0 77 [some (.ref (zad V 0)), some (.int (zI x1)), some (.int (zI x2))] [] d := by
  intro q
  induction q with
  | zero => intro x1 x2 hx1 hx2 d h; cases (show (none : Option (Int × zD)) = some (rv, dz) from h)
  | succ q ih =>
    intro x1 x2 hx1 hx2 d h
    exact wl_X11_printTerminals_77F hT C E hr7 (fun  hx1 hx2 h => ih hx1 hx2 h) hx1 hx2 h
def j_X11_printTerminals_54  (r7 : Int → zD → Option (Int × zD)) (x1 : Int) (d : zD) : Option (Int × zD) :=
  zg 8 x1 <| zl (d (30 + 16) (x1 : Int).toNat) fun v65 =>
  if (v65 : Int) = 0 then (
    zc (f_X11_writeByte  120 d) fun _ d =>
    l_X11_printTerminals_77  r7 zF x1 0 d)
  else (
    l_X11_printTerminals_77  r7 zF x1 0 d)
theorem wj_X11_printTerminals_54 {V : zW} {X : zX}  (hT : zo11 V) (C : zOk V X cX11_printTerminals RX11 3 (zrm 3) (some .int)) {rv : Int} {dz : zD} (E : zEnd V X (some (.int (zI rv))) (zR rv) dz) {r7 : Int → zD → Option (Int × zD)} (hr7 : ∀ {x1 : Int} {d : zD}, zR x1 → r7 x1 d = some (rv, dz) → zP V X 3 0 0 7 [some (.ref (zad V 0)), some (.int (zI x1)), none] [] d) {x1 : Int} (hx1 : zR x1) {d : zD} (h : j_X11_printTerminals_54  r7 x1 d = some (rv, dz)) : zP V X 3 0 0 54 [some (.ref (zad V 0)), some (.int (zI x1)), none] [] d := by
  refine zP_aload_n (pc := 54) C (x := zad V 0) dX11_printTerminals_54 rfl rfl ?_
  refine zP_getR (pc := 55) (a := 0) (t := 30) C g11_21 dX11_printTerminals_55 (s_X11 hT) rfl ?_
  refine zP_getR (pc := 58) (a := 30) (t := 30 + 15) C g11_199 dX11_printTerminals_58 (s_X2 (o_X11_line hT)) rfl ?_
  refine zP_getR (pc := 61) (a := 30 + 15) (t := 30 + 16) C g11_212 dX11_printTerminals_61 (s_X8 (o_X11_line hT)) rfl ?_
  refine zP_iload_n (pc := 64) C (x := zI x1) dX11_printTerminals_64 rfl rfl ?_
  refine zP_iald (pc := 65) (a := 30 + 16) C dX11_printTerminals_65 (s_X8_alive (o_X11_line hT)) hx1 h fun v65 hv65 h => ?_
  refine zP_if_ne (pc := 66) (tgt := 75) C dX11_printTerminals_66 rfl hv65 h (fun _ h => ?_) (fun _ h => ?_)
  · refine zP_iconst (pc := 75) C dX11_printTerminals_75 ?_
    refine zP_istore_n (pc := 76) C (L' := [some (.ref (zad V 0)), some (.int (zI x1)), some (.int (zI 0))]) dX11_printTerminals_76 rfl (Nat.le_of_ble_eq_true rfl) rfl rfl ?_
    exact zP_mask [true, true, true] (wl_X11_printTerminals_77 hT C E hr7 zF hx1 (zRk rfl) h)
  · refine zP_aload_n (pc := 69) C (x := zad V 0) dX11_printTerminals_69 rfl rfl ?_
    refine zP_bipush (pc := 70) C dX11_printTerminals_70 rfl ?_
    obtain ⟨_, d1, hc, h⟩ := zc_h h
    refine zP_callV (pc := 72) (As := [.int (zI 120)]) (st := []) C m11_357 dX11_printTerminals_72 (s_X11 hT) rfl (t_X11_writeByte hT (zRk rfl) hc) ⟨Nat.le_of_ble_eq_true rfl, Nat.le_of_ble_eq_true rfl⟩ rfl (Nat.le_of_ble_eq_true rfl) ⟨Nat.zero_le _, Nat.zero_le _⟩ fun hw => ?_
    clear hc hw
    show zP V X 3 0 0 75 _ [] d1
    revert h
    generalize d1 = d
    intro h
    refine zP_iconst (pc := 75) C dX11_printTerminals_75 ?_
    refine zP_istore_n (pc := 76) C (L' := [some (.ref (zad V 0)), some (.int (zI x1)), some (.int (zI 0))]) dX11_printTerminals_76 rfl (Nat.le_of_ble_eq_true rfl) rfl rfl ?_
    exact zP_mask [true, true, true] (wl_X11_printTerminals_77 hT C E hr7 zF hx1 (zRk rfl) h)
def j_X11_printTerminals_28  (r7 : Int → zD → Option (Int × zD)) (x1 : Int) (d : zD) : Option (Int × zD) :=
  zc (f_X11_writeName  x1 d) fun _ d =>
  zg 8 x1 <| zl (d (30 + 17) (x1 : Int).toNat) fun v44 =>
  if (v44 : Int) = 0 then (
    zc (f_X11_writeByte  45 d) fun _ d =>
    j_X11_printTerminals_54  r7 x1 d)
  else (
    j_X11_printTerminals_54  r7 x1 d)
theorem wj_X11_printTerminals_28 {V : zW} {X : zX}  (hT : zo11 V) (C : zOk V X cX11_printTerminals RX11 3 (zrm 3) (some .int)) {rv : Int} {dz : zD} (E : zEnd V X (some (.int (zI rv))) (zR rv) dz) {r7 : Int → zD → Option (Int × zD)} (hr7 : ∀ {x1 : Int} {d : zD}, zR x1 → r7 x1 d = some (rv, dz) → zP V X 3 0 0 7 [some (.ref (zad V 0)), some (.int (zI x1)), none] [] d) {x1 : Int} (hx1 : zR x1) {d : zD} (h : j_X11_printTerminals_28  r7 x1 d = some (rv, dz)) : zP V X 3 0 0 28 [some (.ref (zad V 0)), some (.int (zI x1)), none] [] d := by
  refine zP_aload_n (pc := 28) C (x := zad V 0) dX11_printTerminals_28 rfl rfl ?_
  refine zP_iload_n (pc := 29) C (x := zI x1) dX11_printTerminals_29 rfl rfl ?_
  obtain ⟨_, d1, hc, h⟩ := zc_h h
  refine zP_callV (pc := 30) (As := [.int (zI x1)]) (st := []) C m11_360 dX11_printTerminals_30 (s_X11 hT) rfl (t_X11_writeName hT hx1 hc) ⟨Nat.le_of_ble_eq_true rfl, Nat.le_of_ble_eq_true rfl⟩ rfl (Nat.le_of_ble_eq_true rfl) ⟨Nat.zero_le _, Nat.zero_le _⟩ fun hw => ?_
  clear hc hw
  show zP V X 3 0 0 33 _ [] d1
  revert h
  generalize d1 = d
  intro h
  refine zP_aload_n (pc := 33) C (x := zad V 0) dX11_printTerminals_33 rfl rfl ?_
  refine zP_getR (pc := 34) (a := 0) (t := 30) C g11_21 dX11_printTerminals_34 (s_X11 hT) rfl ?_
  refine zP_getR (pc := 37) (a := 30) (t := 30 + 15) C g11_199 dX11_printTerminals_37 (s_X2 (o_X11_line hT)) rfl ?_
  refine zP_getR (pc := 40) (a := 30 + 15) (t := 30 + 17) C g11_203 dX11_printTerminals_40 (s_X8 (o_X11_line hT)) rfl ?_
  refine zP_iload_n (pc := 43) C (x := zI x1) dX11_printTerminals_43 rfl rfl ?_
  refine zP_iald (pc := 44) (a := 30 + 17) C dX11_printTerminals_44 (s_X8_on (o_X11_line hT)) hx1 h fun v44 hv44 h => ?_
  refine zP_if_ne (pc := 45) (tgt := 54) C dX11_printTerminals_45 rfl hv44 h (fun _ h => ?_) (fun _ h => ?_)
  · exact zP_mask [true, true, false] (wj_X11_printTerminals_54 hT C E hr7 hx1 h)
  · refine zP_aload_n (pc := 48) C (x := zad V 0) dX11_printTerminals_48 rfl rfl ?_
    refine zP_bipush (pc := 49) C dX11_printTerminals_49 rfl ?_
    obtain ⟨_, d1, hc, h⟩ := zc_h h
    refine zP_callV (pc := 51) (As := [.int (zI 45)]) (st := []) C m11_357 dX11_printTerminals_51 (s_X11 hT) rfl (t_X11_writeByte hT (zRk rfl) hc) ⟨Nat.le_of_ble_eq_true rfl, Nat.le_of_ble_eq_true rfl⟩ rfl (Nat.le_of_ble_eq_true rfl) ⟨Nat.zero_le _, Nat.zero_le _⟩ fun hw => ?_
    clear hc hw
    show zP V X 3 0 0 54 _ [] d1
    revert h
    generalize d1 = d
    intro h
    exact zP_mask [true, true, false] (wj_X11_printTerminals_54 hT C E hr7 hx1 h)
def l_X11_printTerminals_7F  (r7 : Int → zD → Option (Int × zD)) (x1 : Int) (d : zD) : Option (Int × zD) :=
  zl (d 1 0) fun v12 =>
  if (v12 : Int) ≤ x1 then (
    zl (d 0 11) fun v126 =>
    some (v126, d))
  else (
    if (x1 : Int) ≤ 0 then (
      j_X11_printTerminals_28  r7 x1 d)
    else (
      zc (f_X11_writeByte  32 d) fun _ d =>
      j_X11_printTerminals_28  r7 x1 d))
theorem wl_X11_printTerminals_7F {V : zW} {X : zX}  (hT : zo11 V) (C : zOk V X cX11_printTerminals RX11 3 (zrm 3) (some .int)) {rv : Int} {dz : zD} (E : zEnd V X (some (.int (zI rv))) (zR rv) dz) {r7 : Int → zD → Option (Int × zD)} (hr7 : ∀ {x1 : Int} {d : zD}, zR x1 → r7 x1 d = some (rv, dz) → zP V X 3 0 0 7 [some (.ref (zad V 0)), some (.int (zI x1)), none] [] d) {x1 : Int} (hx1 : zR x1) {d : zD} (h : l_X11_printTerminals_7F  r7 x1 d = some (rv, dz)) : zP V X 3 0 0 7 [some (.ref (zad V 0)), some (.int (zI x1)), none] [] d := by
  refine zP_iload_n (pc := 7) C (x := zI x1) dX11_printTerminals_7 rfl rfl ?_
  refine zP_aload_n (pc := 8) C (x := zad V 0) dX11_printTerminals_8 rfl rfl ?_
  refine zP_getR (pc := 9) (a := 0) (t := 1) C g11_10 dX11_printTerminals_9 (s_X11 hT) rfl ?_
  refine zP_getI (pc := 12) (a := 1) C g11_115 dX11_printTerminals_12 (s_X6 (o_X11_setup hT)) rfl h fun v12 hv12 h => ?_
  refine zP_icmp_ge (pc := 15) (tgt := 125) C dX11_printTerminals_15 rfl hx1 hv12 h (fun _ h => ?_) (fun _ h => ?_)
  · refine zP_aload_n (pc := 125) C (x := zad V 0) dX11_printTerminals_125 rfl rfl ?_
    refine zP_getI (pc := 126) (a := 0) C g11_79 dX11_printTerminals_126 (s_X11 hT) rfl h fun v126 hv126 h => ?_
    exact zP_iret (pc := 129) C E dX11_printTerminals_129 hv126 h
  · refine zP_iload_n (pc := 18) C (x := zI x1) dX11_printTerminals_18 rfl rfl ?_
    refine zP_if_le (pc := 19) (tgt := 28) C dX11_printTerminals_19 rfl hx1 h (fun _ h => ?_) (fun _ h => ?_)
    · exact zP_mask [true, true, false] (wj_X11_printTerminals_28 hT C E hr7 hx1 h)
    · refine zP_aload_n (pc := 22) C (x := zad V 0) dX11_printTerminals_22 rfl rfl ?_
      refine zP_bipush (pc := 23) C dX11_printTerminals_23 rfl ?_
      obtain ⟨_, d1, hc, h⟩ := zc_h h
      refine zP_callV (pc := 25) (As := [.int (zI 32)]) (st := []) C m11_357 dX11_printTerminals_25 (s_X11 hT) rfl (t_X11_writeByte hT (zRk rfl) hc) ⟨Nat.le_of_ble_eq_true rfl, Nat.le_of_ble_eq_true rfl⟩ rfl (Nat.le_of_ble_eq_true rfl) ⟨Nat.zero_le _, Nat.zero_le _⟩ fun hw => ?_
      clear hc hw
      show zP V X 3 0 0 28 _ [] d1
      revert h
      generalize d1 = d
      intro h
      exact zP_mask [true, true, false] (wj_X11_printTerminals_28 hT C E hr7 hx1 h)
def l_X11_printTerminals_7   : Nat → Int → zD → Option (Int × zD)
  | 0, _, _ => none
  | q + 1, x1, d => l_X11_printTerminals_7F   (l_X11_printTerminals_7   q) x1 d
theorem wl_X11_printTerminals_7 {V : zW} {X : zX}  (hT : zo11 V) (C : zOk V X cX11_printTerminals RX11 3 (zrm 3) (some .int)) {rv : Int} {dz : zD} (E : zEnd V X (some (.int (zI rv))) (zR rv) dz)  : ∀ (q : Nat) {x1 : Int} (hx1 : zR x1) {d : zD} (h : l_X11_printTerminals_7   q x1 d = some (rv, dz)), zP V X 3 0 0 7 [some (.ref (zad V 0)), some (.int (zI x1)), none] [] d := by
  intro q
  induction q with
  | zero => intro x1 hx1 d h; cases (show (none : Option (Int × zD)) = some (rv, dz) from h)
  | succ q ih =>
    intro x1 hx1 d h
    exact wl_X11_printTerminals_7F hT C E  (fun  hx1 h => ih hx1 h) hx1 h
def f_X11_printTerminals  (d : zD) : Option (Int × zD) :=
  zl (zu d 0 11 0) fun d =>
  l_X11_printTerminals_7   zF 0 d
theorem t_X11_printTerminals {V : zW}  (hT : zo11 V)   {d dz : zD} {rv : Int} (h : f_X11_printTerminals   d = some (rv, dz)) : zMet V 3 yX11_printTerminals cX11_printTerminals 3 (some .int) [.ref (zad V 0)] d (some (.int (zI rv))) (zR rv) dz := by
  refine zMet_by RX11 pn11 rfl (Nat.le_of_ble_eq_true rfl) [some (.ref (zad V 0)), none, none] rfl fun X C E => ?_
  refine zP_aload_n (pc := 0) C (x := zad V 0) dX11_printTerminals_0 rfl rfl ?_
  refine zP_iconst (pc := 1) C dX11_printTerminals_1 ?_
  refine zP_putI (pc := 2) (a := 0) C p11_79 dX11_printTerminals_2 (s_X11 hT) rfl (zRk rfl) h fun d h => ?_
  refine zP_iconst (pc := 5) C dX11_printTerminals_5 ?_
  refine zP_istore_n (pc := 6) C (L' := [some (.ref (zad V 0)), some (.int (zI 0)), none]) dX11_printTerminals_6 rfl (Nat.le_of_ble_eq_true rfl) rfl rfl ?_
  exact zP_mask [true, true, false] (wl_X11_printTerminals_7 hT C E  zF (zRk rfl) h)
def j_X11_printList_28  (r7 : Int → zD → Option (Int × zD)) (x1 : Int) (d : zD) : Option (Int × zD) :=
  zg 16 x1 <| zl (d (30 + 29) (x1 : Int).toNat) fun v37 =>
  zc (f_X11_writeName  v37 d) fun _ d =>
  zl (zw (x1 + 1)) fun v41 =>
  r7 v41 d
theorem wj_X11_printList_28 {V : zW} {X : zX}  (hT : zo11 V) (C : zOk V X cX11_printList RX11 2 (zrm 3) (some .int)) {rv : Int} {dz : zD} (E : zEnd V X (some (.int (zI rv))) (zR rv) dz) {r7 : Int → zD → Option (Int × zD)} (hr7 : ∀ {x1 : Int} {d : zD}, zR x1 → r7 x1 d = some (rv, dz) → zP V X 2 0 0 7 [some (.ref (zad V 0)), some (.int (zI x1))] [] d) {x1 : Int} (hx1 : zR x1) {d : zD} (h : j_X11_printList_28  r7 x1 d = some (rv, dz)) : zP V X 2 0 0 28 [some (.ref (zad V 0)), some (.int (zI x1))] [] d := by
  refine zP_aload_n (pc := 28) C (x := zad V 0) dX11_printList_28 rfl rfl ?_
  refine zP_aload_n (pc := 29) C (x := zad V 0) dX11_printList_29 rfl rfl ?_
  refine zP_getR (pc := 30) (a := 0) (t := 30) C g11_21 dX11_printList_30 (s_X11 hT) rfl ?_
  refine zP_getR (pc := 33) (a := 30) (t := 30 + 29) C g11_300 dX11_printList_33 (s_X2 (o_X11_line hT)) rfl ?_
  refine zP_iload_n (pc := 36) C (x := zI x1) dX11_printList_36 rfl rfl ?_
  refine zP_iald (pc := 37) (a := 30 + 29) C dX11_printList_37 (s_X2_list (o_X11_line hT)) hx1 h fun v37 hv37 h => ?_
  obtain ⟨_, d1, hc, h⟩ := zc_h h
  refine zP_callV (pc := 38) (As := [.int (zI v37)]) (st := []) C m11_360 dX11_printList_38 (s_X11 hT) rfl (t_X11_writeName hT hv37 hc) ⟨Nat.le_of_ble_eq_true rfl, Nat.le_of_ble_eq_true rfl⟩ rfl (Nat.le_of_ble_eq_true rfl) ⟨Nat.zero_le _, Nat.zero_le _⟩ fun hw => ?_
  clear hc hw
  show zP V X 2 0 0 41 _ [] d1
  revert h
  generalize d1 = d
  intro h
  refine zP_iinc (pc := 41) C (x := x1) dX11_printList_41 rfl (Nat.le_of_ble_eq_true rfl) rfl h fun v41 hv41 h => ?_
  show zP V X 2 0 0 44 [some (.ref (zad V 0)), some (.int (zI v41))] _ _
  refine zP_goto (pc := 44) (tgt := 7) C dX11_printList_44 rfl ?_
  exact zP_mask [true, true] (hr7 hv41 h)
def l_X11_printList_7F  (r7 : Int → zD → Option (Int × zD)) (x1 : Int) (d : zD) : Option (Int × zD) :=
  zl (d 30 8) fun v12 =>
  if (v12 : Int) ≤ x1 then (
    zl (d 0 11) fun v48 =>
    some (v48, d))
  else (
    if (x1 : Int) ≤ 0 then (
      j_X11_printList_28  r7 x1 d)
    else (
      zc (f_X11_writeByte  32 d) fun _ d =>
      j_X11_printList_28  r7 x1 d))
theorem wl_X11_printList_7F {V : zW} {X : zX}  (hT : zo11 V) (C : zOk V X cX11_printList RX11 2 (zrm 3) (some .int)) {rv : Int} {dz : zD} (E : zEnd V X (some (.int (zI rv))) (zR rv) dz) {r7 : Int → zD → Option (Int × zD)} (hr7 : ∀ {x1 : Int} {d : zD}, zR x1 → r7 x1 d = some (rv, dz) → zP V X 2 0 0 7 [some (.ref (zad V 0)), some (.int (zI x1))] [] d) {x1 : Int} (hx1 : zR x1) {d : zD} (h : l_X11_printList_7F  r7 x1 d = some (rv, dz)) : zP V X 2 0 0 7 [some (.ref (zad V 0)), some (.int (zI x1))] [] d := by
  refine zP_iload_n (pc := 7) C (x := zI x1) dX11_printList_7 rfl rfl ?_
  refine zP_aload_n (pc := 8) C (x := zad V 0) dX11_printList_8 rfl rfl ?_
  refine zP_getR (pc := 9) (a := 0) (t := 30) C g11_21 dX11_printList_9 (s_X11 hT) rfl ?_
  refine zP_getI (pc := 12) (a := 30) C g11_173 dX11_printList_12 (s_X2 (o_X11_line hT)) rfl h fun v12 hv12 h => ?_
  refine zP_icmp_ge (pc := 15) (tgt := 47) C dX11_printList_15 rfl hx1 hv12 h (fun _ h => ?_) (fun _ h => ?_)
  · refine zP_aload_n (pc := 47) C (x := zad V 0) dX11_printList_47 rfl rfl ?_
    refine zP_getI (pc := 48) (a := 0) C g11_79 dX11_printList_48 (s_X11 hT) rfl h fun v48 hv48 h => ?_
    exact zP_iret (pc := 51) C E dX11_printList_51 hv48 h
  · refine zP_iload_n (pc := 18) C (x := zI x1) dX11_printList_18 rfl rfl ?_
    refine zP_if_le (pc := 19) (tgt := 28) C dX11_printList_19 rfl hx1 h (fun _ h => ?_) (fun _ h => ?_)
    · exact zP_mask [true, true] (wj_X11_printList_28 hT C E hr7 hx1 h)
    · refine zP_aload_n (pc := 22) C (x := zad V 0) dX11_printList_22 rfl rfl ?_
      refine zP_bipush (pc := 23) C dX11_printList_23 rfl ?_
      obtain ⟨_, d1, hc, h⟩ := zc_h h
      refine zP_callV (pc := 25) (As := [.int (zI 32)]) (st := []) C m11_357 dX11_printList_25 (s_X11 hT) rfl (t_X11_writeByte hT (zRk rfl) hc) ⟨Nat.le_of_ble_eq_true rfl, Nat.le_of_ble_eq_true rfl⟩ rfl (Nat.le_of_ble_eq_true rfl) ⟨Nat.zero_le _, Nat.zero_le _⟩ fun hw => ?_
      clear hc hw
      show zP V X 2 0 0 28 _ [] d1
      revert h
      generalize d1 = d
      intro h
      exact zP_mask [true, true] (wj_X11_printList_28 hT C E hr7 hx1 h)
def l_X11_printList_7   : Nat → Int → zD → Option (Int × zD)
  | 0, _, _ => none
  | q + 1, x1, d => l_X11_printList_7F   (l_X11_printList_7   q) x1 d
theorem wl_X11_printList_7 {V : zW} {X : zX}  (hT : zo11 V) (C : zOk V X cX11_printList RX11 2 (zrm 3) (some .int)) {rv : Int} {dz : zD} (E : zEnd V X (some (.int (zI rv))) (zR rv) dz)  : ∀ (q : Nat) {x1 : Int} (hx1 : zR x1) {d : zD} (h : l_X11_printList_7   q x1 d = some (rv, dz)), zP V X 2 0 0 7 [some (.ref (zad V 0)), some (.int (zI x1))] [] d := by
  intro q
  induction q with
  | zero => intro x1 hx1 d h; cases (show (none : Option (Int × zD)) = some (rv, dz) from h)
  | succ q ih =>
    intro x1 hx1 d h
    exact wl_X11_printList_7F hT C E  (fun  hx1 h => ih hx1 h) hx1 h
def f_X11_printList  (d : zD) : Option (Int × zD) :=
  zl (zu d 0 11 0) fun d =>
  l_X11_printList_7   zF 0 d
theorem t_X11_printList {V : zW}  (hT : zo11 V)   {d dz : zD} {rv : Int} (h : f_X11_printList   d = some (rv, dz)) : zMet V 3 yX11_printList cX11_printList 2 (some .int) [.ref (zad V 0)] d (some (.int (zI rv))) (zR rv) dz := by
  refine zMet_by RX11 pn11 rfl (Nat.le_of_ble_eq_true rfl) [some (.ref (zad V 0)), none] rfl fun X C E => ?_
  refine zP_aload_n (pc := 0) C (x := zad V 0) dX11_printList_0 rfl rfl ?_
  refine zP_iconst (pc := 1) C dX11_printList_1 ?_
  refine zP_putI (pc := 2) (a := 0) C p11_79 dX11_printList_2 (s_X11 hT) rfl (zRk rfl) h fun d h => ?_
  refine zP_iconst (pc := 5) C dX11_printList_5 ?_
  refine zP_istore_n (pc := 6) C (L' := [some (.ref (zad V 0)), some (.int (zI 0))]) dX11_printList_6 rfl (Nat.le_of_ble_eq_true rfl) rfl rfl ?_
  exact zP_mask [true, true] (wl_X11_printList_7 hT C E  zF (zRk rfl) h)
def f_X11_outputByte  (x1 : Int) (d : zD) : Option (Int × zD) :=
  if (x1 : Int) < 0 then (
    some ((-1), d))
  else (
    zl (d 0 11) fun v6 =>
    if (x1 : Int) < v6 then (
      zg 160 x1 <| zl (d 25 (x1 : Int).toNat) fun v19 =>
      some (v19, d))
    else (
      some ((-1), d)))
theorem t_X11_outputByte {V : zW}  (hT : zo11 V) {x1 : Int} (hx1 : zR x1) {d dz : zD} {rv : Int} (h : f_X11_outputByte  x1 d = some (rv, dz)) : zMet V 0 yX11_outputByte cX11_outputByte 2 (some .int) [.ref (zad V 0), .int (zI x1)] d (some (.int (zI rv))) (zR rv) dz := by
  refine zMet_by RX11 pn11 rfl (Nat.le_of_ble_eq_true rfl) [some (.ref (zad V 0)), some (.int (zI x1))] rfl fun X C E => ?_
  refine zP_iload_n (pc := 0) C (x := zI x1) dX11_outputByte_0 rfl rfl ?_
  refine zP_if_lt (pc := 1) (tgt := 12) C dX11_outputByte_1 rfl hx1 h (fun _ h => ?_) (fun _ h => ?_)
  · refine zP_iconst (pc := 12) C dX11_outputByte_12 ?_
    exact zP_iret (pc := 13) C E dX11_outputByte_13 (zRk rfl) h
  · refine zP_iload_n (pc := 4) C (x := zI x1) dX11_outputByte_4 rfl rfl ?_
    refine zP_aload_n (pc := 5) C (x := zad V 0) dX11_outputByte_5 rfl rfl ?_
    refine zP_getI (pc := 6) (a := 0) C g11_79 dX11_outputByte_6 (s_X11 hT) rfl h fun v6 hv6 h => ?_
    refine zP_icmp_lt (pc := 9) (tgt := 14) C dX11_outputByte_9 rfl hx1 hv6 h (fun _ h => ?_) (fun _ h => ?_)
    · refine zP_aload_n (pc := 14) C (x := zad V 0) dX11_outputByte_14 rfl rfl ?_
      refine zP_getR (pc := 15) (a := 0) (t := 25) C g11_75 dX11_outputByte_15 (s_X11 hT) rfl ?_
      refine zP_iload_n (pc := 18) C (x := zI x1) dX11_outputByte_18 rfl rfl ?_
      refine zP_iald (pc := 19) (a := 25) C dX11_outputByte_19 (s_X11_output hT) hx1 h fun v19 hv19 h => ?_
      exact zP_iret (pc := 20) C E dX11_outputByte_20 hv19 h
    · refine zP_iconst (pc := 12) C dX11_outputByte_12 ?_
      exact zP_iret (pc := 13) C E dX11_outputByte_13 (zRk rfl) h
def f_X11_saveState  (d : zD) : Option (Int × zD) :=
  zc (f_X2_copyFrom 90 30  d) fun _ d =>
  zl (zu d 0 12 1) fun d =>
  zl (d 30 9) fun v20 =>
  some (v20, d)
theorem t_X11_saveState {V : zW}  (hT : zo11 V)   {d dz : zD} {rv : Int} (h : f_X11_saveState   d = some (rv, dz)) : zMet V 4 yX11_saveState cX11_saveState 1 (some .int) [.ref (zad V 0)] d (some (.int (zI rv))) (zR rv) dz := by
  refine zMet_by RX11 pn11 rfl (Nat.le_of_ble_eq_true rfl) [some (.ref (zad V 0))] rfl fun X C E => ?_
  refine zP_aload_n (pc := 0) C (x := zad V 0) dX11_saveState_0 rfl rfl ?_
  refine zP_getR (pc := 1) (a := 0) (t := 90) C g11_40 dX11_saveState_1 (s_X11 hT) rfl ?_
  refine zP_aload_n (pc := 4) C (x := zad V 0) dX11_saveState_4 rfl rfl ?_
  refine zP_getR (pc := 5) (a := 0) (t := 30) C g11_21 dX11_saveState_5 (s_X11 hT) rfl ?_
  obtain ⟨_, d1, hc, h⟩ := zc_h h
  refine zP_callV (pc := 8) (As := [.ref (zad V 30)]) (st := []) C m11_322 dX11_saveState_8 (s_X2 (o_X11_saved hT)) rfl (t_X2_copyFrom (o_X11_saved hT) (o_X11_line hT)  hc) ⟨Nat.le_of_ble_eq_true rfl, Nat.le_of_ble_eq_true rfl⟩ rfl (Nat.le_of_ble_eq_true rfl) ⟨Nat.zero_le _, Nat.zero_le _⟩ fun hw => ?_
  clear hc hw
  show zP V X 1 0 0 11 _ [] d1
  revert h
  generalize d1 = d
  intro h
  refine zP_aload_n (pc := 11) C (x := zad V 0) dX11_saveState_11 rfl rfl ?_
  refine zP_iconst (pc := 12) C dX11_saveState_12 ?_
  refine zP_putZ (pc := 13) (a := 0) C p11_83 dX11_saveState_13 (s_X11 hT) rfl (Or.inr rfl) h fun d h => ?_
  refine zP_aload_n (pc := 16) C (x := zad V 0) dX11_saveState_16 rfl rfl ?_
  refine zP_getR (pc := 17) (a := 0) (t := 30) C g11_21 dX11_saveState_17 (s_X11 hT) rfl ?_
  refine zP_getI (pc := 20) (a := 30) C g11_189 dX11_saveState_20 (s_X2 (o_X11_line hT)) rfl h fun v20 hv20 h => ?_
  exact zP_iret (pc := 23) C E dX11_saveState_23 hv20 h
