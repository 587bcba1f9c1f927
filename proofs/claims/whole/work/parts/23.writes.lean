/-! The reference's number writer, which calls itself, and what uses it. -/
def j_X12_writesNumber_14 (x1 : Int) (d : zD) : Option (Int × zD) :=
  zn 10 <| zl (zrem x1 10) fun v20 =>
  zl (zw (48 + v20)) fun v21 =>
  zc (f_X12_writes v21 d) fun _ d =>
  some (0, d)
def f_X12_writesNumberR : Nat → Int → zD → Option (Int × zD)
  | 0, _, _ => none
  | q + 1, x1, d =>
    if x1 ≤ 9 then j_X12_writesNumber_14 x1 d else
    zn 10 <| zl (zdiv x1 10) fun v10 =>
    zc (f_X12_writesNumberR q v10 d) fun _ d =>
    j_X12_writesNumber_14 x1 d
theorem zfit_q {q dp nn : Nat} (h1 : nn ≤ 21) (h2 : dp ≤ q) : zfit dp nn (zrm (q + 1)) := by
  constructor
  · show dp + 1 ≤ q + 1
    omega
  · show 8 + (nn + 11) + 40 * dp ≤ 40 * (q + 1)
    omega
theorem wj_X12_writesNumber_14 {V : zW} {X : zX} (hT : zo12 V) {q : Nat} (C : zOk V X cX12_writesNumber RX12 2 (zrm (q + 1)) none) {rv : Int} {dz : zD} (E : zEnd V X none (rv = 0) dz) {x1 : Int} (hx1 : zR x1) {d : zD} (h : j_X12_writesNumber_14 x1 d = some (rv, dz)) : zP V X 2 0 0 14 [some (.ref (zad V 400)), some (.int (zI x1))] [] d := by
  refine zP_aload_n (pc := 14) C (x := zad V 400) dX12_writesNumber_14 rfl rfl ?_
  refine zP_bipush (pc := 15) C dX12_writesNumber_15 rfl ?_
  refine zP_iload_n (pc := 17) C (x := zI x1) dX12_writesNumber_17 rfl rfl ?_
  refine zP_bipush (pc := 18) C dX12_writesNumber_18 rfl ?_
  refine zP_irem (pc := 20) C dX12_writesNumber_20 (zRk rfl) h fun v20 hv20 h => ?_
  refine zP_iadd (pc := 21) C dX12_writesNumber_21 h fun v21 hv21 h => ?_
  obtain ⟨_, d1, hc, h⟩ := zc_h h
  refine zP_callV (pc := 22) (As := [.int (zI v21)]) (st := []) C m12_397 dX12_writesNumber_22 (s_X12 hT) rfl (t_X12_writes hT hv21 hc) (zfit_q (Nat.le_of_ble_eq_true rfl) (Nat.zero_le _)) rfl (Nat.le_of_ble_eq_true rfl) ⟨Nat.zero_le _, Nat.zero_le _⟩ fun hw => ?_
  exact zP_vret (pc := 25) C E dX12_writesNumber_25 h
theorem t_X12_writesNumberR {V : zW} (hT : zo12 V) : ∀ (q : Nat) {x1 : Int} (hx1 : zR x1) {d dz : zD} {rv : Int} (h : f_X12_writesNumberR q x1 d = some (rv, dz)), zMet V (q + 1) yX12_writesNumber cX12_writesNumber 2 none [.ref (zad V 400), .int (zI x1)] d none (rv = 0) dz := by
  intro q
  induction q with
  | zero => intro x1 hx1 d dz rv h; cases (show (none : Option (Int × zD)) = some (rv, dz) from h)
  | succ q ih =>
    intro x1 hx1 d dz rv h
    refine zMet_by RX12 pn12 rfl (Nat.le_of_ble_eq_true rfl) [some (.ref (zad V 400)), some (.int (zI x1))] rfl fun X C E => ?_
    refine zP_iload_n (pc := 0) C (x := zI x1) dX12_writesNumber_0 rfl rfl ?_
    refine zP_bipush (pc := 1) C dX12_writesNumber_1 rfl ?_
    refine zP_icmp_le (pc := 3) (tgt := 14) C dX12_writesNumber_3 rfl hx1 (zRk rfl) h (fun _ h => ?_) (fun _ h => ?_)
    · exact wj_X12_writesNumber_14 hT C E hx1 h
    · refine zP_aload_n (pc := 6) C (x := zad V 400) dX12_writesNumber_6 rfl rfl ?_
      refine zP_iload_n (pc := 7) C (x := zI x1) dX12_writesNumber_7 rfl rfl ?_
      refine zP_bipush (pc := 8) C dX12_writesNumber_8 rfl ?_
      refine zP_idiv (pc := 10) C dX12_writesNumber_10 (zRk rfl) h fun v10 hv10 h => ?_
      obtain ⟨_, d1, hc, h⟩ := zc_h h
      refine zP_callV (pc := 11) (As := [.int (zI v10)]) (st := []) C m12_394 dX12_writesNumber_11 (s_X12 hT) rfl (ih hv10 hc) (zfit_q (Nat.le_of_ble_eq_true rfl) (Nat.le_refl _)) rfl (Nat.le_of_ble_eq_true rfl) ⟨Nat.zero_le _, Nat.zero_le _⟩ fun hw => ?_
      exact wj_X12_writesNumber_14 hT C E hx1 h
def f_X12_writesNumber (x1 : Int) (d : zD) : Option (Int × zD) := f_X12_writesNumberR 11 x1 d
theorem t_X12_writesNumber {V : zW} (hT : zo12 V) {x1 : Int} (hx1 : zR x1) {d dz : zD} {rv : Int} (h : f_X12_writesNumber x1 d = some (rv, dz)) : zMet V 12 yX12_writesNumber cX12_writesNumber 2 none [.ref (zad V 400), .int (zI x1)] d none (rv = 0) dz := t_X12_writesNumberR hT 11 hx1 h
def j_X12_printTerminals_84  (r12 : Int → zD → Option (Int × zD)) (r67 : Int → Int → zD → Option (Int × zD)) (x1 x2 s0 : Int) (d : zD) : Option (Int × zD) :=
  zc (f_X12_writes  s0 d) fun _ d =>
  zc (f_X12_inRowMany  x1 x2 d) fun v91 d =>
  zc (f_X12_writesNumber  v91 d) fun _ d =>
  zl (zw (x2 + 1)) fun v97 =>
  r67 x1 v97 d
theorem wj_X12_printTerminals_84 {V : zW} {X : zX}  (hT : zo12 V) (C : zOk V X cX12_printTerminals RX12 3 (zrm 13) (some .int)) {rv : Int} {dz : zD} (E : zEnd V X (some (.int (zI rv))) (zR rv) dz) {r12 : Int → zD → Option (Int × zD)} (hr12 : ∀ {x1 : Int} {d : zD}, zR x1 → r12 x1 d = some (rv, dz) → zP V X 3 0 0 12 [some (.ref (zad V 400)), some (.int (zI x1)), none] [] d) {r67 : Int → Int → zD → Option (Int × zD)} (hr67 : ∀ {x1 x2 : Int} {d : zD}, zR x1 → zR x2 → r67 x1 x2 d = some (rv, dz) → zP V X 3 0 0 67 [some (.ref (zad V 400)), some (.int (zI x1)), some (.int (zI x2))] [] d) {x1 x2 s0 : Int} (hx1 : zR x1) (hx2 : zR x2) (hs0 : zR s0) {d : zD} (h : j_X12_printTerminals_84  r12 r67 x1 x2 s0 d = some (rv, dz)) : zP V X 3 0 0 84 [some (.ref (zad V 400)), some (.int (zI x1)), some (.int (zI x2))] [.int (zI s0), .ref (zad V 400)] d := by
  obtain ⟨_, d1, hc, h⟩ := zc_h h
  refine zP_callV (pc := 84) (As := [.int (zI s0)]) (st := []) C m12_397 dX12_printTerminals_84 (s_X12 hT) rfl (t_X12_writes hT hs0 hc) ⟨Nat.le_of_ble_eq_true rfl, Nat.le_of_ble_eq_true rfl⟩ rfl (Nat.le_of_ble_eq_true rfl) ⟨Nat.zero_le _, Nat.zero_le _⟩ fun hw => ?_
  clear hc hw
  show zP V X 3 0 0 87 _ [] d1
  revert h
  generalize d1 = d
  intro h
  refine zP_aload_n (pc := 87) C (x := zad V 400) dX12_printTerminals_87 rfl rfl ?_
  refine zP_aload_n (pc := 88) C (x := zad V 400) dX12_printTerminals_88 rfl rfl ?_
  refine zP_iload_n (pc := 89) C (x := zI x1) dX12_printTerminals_89 rfl rfl ?_
  refine zP_iload_n (pc := 90) C (x := zI x2) dX12_printTerminals_90 rfl rfl ?_
  obtain ⟨v91, d1, hc, h⟩ := zc_h h
  refine zP_callV (pc := 91) (As := [.int (zI x1), .int (zI x2)]) (st := [.ref (zad V 400)]) C m12_115 dX12_printTerminals_91 (s_X12 hT) rfl (t_X12_inRowMany hT hx1 hx2 hc) ⟨Nat.le_of_ble_eq_true rfl, Nat.le_of_ble_eq_true rfl⟩ rfl (Nat.le_of_ble_eq_true rfl) ⟨Nat.zero_le _, Nat.zero_le _⟩ fun hw => ?_
  have hv91 := hw
  clear hc hw
  show zP V X 3 0 0 94 _ [.int (zI v91), .ref (zad V 400)] d1
  revert h
  generalize d1 = d
  intro h
  obtain ⟨_, d1, hc, h⟩ := zc_h h
  refine zP_callV (pc := 94) (As := [.int (zI v91)]) (st := []) C m12_394 dX12_printTerminals_94 (s_X12 hT) rfl (t_X12_writesNumber hT hv91 hc) ⟨Nat.le_of_ble_eq_true rfl, Nat.le_of_ble_eq_true rfl⟩ rfl (Nat.le_of_ble_eq_true rfl) ⟨Nat.zero_le _, Nat.zero_le _⟩ fun hw => ?_
  clear hc hw
  show zP V X 3 0 0 97 _ [] d1
  revert h
  generalize d1 = d
  intro h
  refine zP_iinc (pc := 97) C (x := x2) dX12_printTerminals_97 rfl (Nat.le_of_ble_eq_true rfl) rfl h fun v97 hv97 h => ?_
  show zP V X 3 0 0 100 [some (.ref (zad V 400)), some (.int (zI x1)), some (.int (zI v97))] _ _
  refine zP_goto (pc := 100) (tgt := 67) C dX12_printTerminals_100 rfl ?_
  exact zP_mask [true, true, true] (hr67 hx1 hv97 h)
def l_X12_printTerminals_67F  (r12 : Int → zD → Option (Int × zD)) (r67 : Int → Int → zD → Option (Int × zD)) (x1 x2 : Int) (d : zD) : Option (Int × zD) :=
  if (3 : Int) ≤ x2 then (
    zl (zw (x1 + 1)) fun v103 =>
    r12 v103 d)
  else (
    if (x2 : Int) = 0 then (
      j_X12_printTerminals_84  r12 r67 x1 x2 58 d)
    else (
      j_X12_printTerminals_84  r12 r67 x1 x2 47 d))
theorem wl_X12_printTerminals_67F {V : zW} {X : zX}  (hT : zo12 V) (C : zOk V X cX12_printTerminals RX12 3 (zrm 13) (some .int)) {rv : Int} {dz : zD} (E : zEnd V X (some (.int (zI rv))) (zR rv) dz) {r12 : Int → zD → Option (Int × zD)} (hr12 : ∀ {x1 : Int} {d : zD}, zR x1 → r12 x1 d = some (rv, dz) → zP V X 3 0 0 12 [some (.ref (zad V 400)), some (.int (zI x1)), none] [] d) {r67 : Int → Int → zD → Option (Int × zD)} (hr67 : ∀ {x1 x2 : Int} {d : zD}, zR x1 → zR x2 → r67 x1 x2 d = some (rv, dz) → zP V X 3 0 0 67 [some (.ref (zad V 400)), some (.int (zI x1)), some (.int (zI x2))] [] d) {x1 x2 : Int} (hx1 : zR x1) (hx2 : zR x2) {d : zD} (h : l_X12_printTerminals_67F  r12 r67 x1 x2 d = some (rv, dz)) : zP V X 3 0 0 67 [some (.ref (zad V 400)), some (.int (zI x1)), some (.int (zI x2))] [] d := by
  refine zP_iload_n (pc := 67) C (x := zI x2) dX12_printTerminals_67 rfl rfl ?_
  refine zP_iconst (pc := 68) C dX12_printTerminals_68 ?_
  refine zP_icmp_ge (pc := 69) (tgt := 103) C dX12_printTerminals_69 rfl hx2 (zRk rfl) h (fun _ h => ?_) (fun _ h => ?_)
  · refine zP_iinc (pc := 103) C (x := x1) dX12_printTerminals_103 rfl (Nat.le_of_ble_eq_true rfl) rfl h fun v103 hv103 h => ?_
    show zP V X 3 0 0 106 [some (.ref (zad V 400)), some (.int (zI v103)), some (.int (zI x2))] _ _
    refine zP_goto (pc := 106) (tgt := 12) C dX12_printTerminals_106 rfl ?_
    exact zP_mask [true, true, false] (hr12 hv103 h)
  · refine zP_aload_n (pc := 72) C (x := zad V 400) dX12_printTerminals_72 rfl rfl ?_
    refine zP_iload_n (pc := 73) C (x := zI x2) dX12_printTerminals_73 rfl rfl ?_
    refine zP_if_ne (pc := 74) (tgt := 82) C dX12_printTerminals_74 rfl hx2 h (fun _ h => ?_) (fun _ h => ?_)
    · refine zP_bipush (pc := 82) C dX12_printTerminals_82 rfl ?_
      exact zP_mask [true, true, true] (wj_X12_printTerminals_84 hT C E hr12 hr67 hx1 hx2 (zRk rfl) h)
    · refine zP_bipush (pc := 77) C dX12_printTerminals_77 rfl ?_
      refine zP_goto (pc := 79) (tgt := 84) C dX12_printTerminals_79 rfl ?_
      exact zP_mask [true, true, true] (wj_X12_printTerminals_84 hT C E hr12 hr67 hx1 hx2 (zRk rfl) h)
def l_X12_printTerminals_67  (r12 : Int → zD → Option (Int × zD)) : Nat → Int → Int → zD → Option (Int × zD)
  | 0, _, _, _ => none
  | q + 1, x1, x2, d => l_X12_printTerminals_67F  r12 (l_X12_printTerminals_67  r12 q) x1 x2 d
theorem wl_X12_printTerminals_67 {V : zW} {X : zX}  (hT : zo12 V) (C : zOk V X cX12_printTerminals RX12 3 (zrm 13) (some .int)) {rv : Int} {dz : zD} (E : zEnd V X (some (.int (zI rv))) (zR rv) dz) {r12 : Int → zD → Option (Int × zD)} (hr12 : ∀ {x1 : Int} {d : zD}, zR x1 → r12 x1 d = some (rv, dz) → zP V X 3 0 0 12 [some (.ref (zad V 400)), some (.int (zI x1)), none] [] d) : ∀ (q : Nat) {x1 x2 : Int} (hx1 : zR x1) (hx2 : zR x2) {d : zD} (h : l_X12_printTerminals_67  r12 q x1 x2 d = some (rv, dz)), zP V X 3 0 0 67 [some (.ref (zad V 400)), some (.int (zI x1)), some (.int (zI x2))] [] d := by
  intro q
  induction q with
  | zero => intro x1 x2 hx1 hx2 d h; cases (show (none : Option (Int × zD)) = some (rv, dz) from h)
  | succ q ih =>
    intro x1 x2 hx1 hx2 d h
    exact wl_X12_printTerminals_67F hT C E hr12 (fun  hx1 hx2 h => ih hx1 hx2 h) hx1 hx2 h
def j_X12_printTerminals_50  (r12 : Int → zD → Option (Int × zD)) (x1 : Int) (d : zD) : Option (Int × zD) :=
  zc (f_X12_of  x1 3 d) fun v53 d =>
  if (v53 : Int) = 0 then (
    zc (f_X12_writes  120 d) fun _ d =>
    l_X12_printTerminals_67  r12 zF x1 0 d)
  else (
    l_X12_printTerminals_67  r12 zF x1 0 d)
theorem wj_X12_printTerminals_50 {V : zW} {X : zX}  (hT : zo12 V) (C : zOk V X cX12_printTerminals RX12 3 (zrm 13) (some .int)) {rv : Int} {dz : zD} (E : zEnd V X (some (.int (zI rv))) (zR rv) dz) {r12 : Int → zD → Option (Int × zD)} (hr12 : ∀ {x1 : Int} {d : zD}, zR x1 → r12 x1 d = some (rv, dz) → zP V X 3 0 0 12 [some (.ref (zad V 400)), some (.int (zI x1)), none] [] d) {x1 : Int} (hx1 : zR x1) {d : zD} (h : j_X12_printTerminals_50  r12 x1 d = some (rv, dz)) : zP V X 3 0 0 50 [some (.ref (zad V 400)), some (.int (zI x1)), none] [] d := by
  refine zP_aload_n (pc := 50) C (x := zad V 400) dX12_printTerminals_50 rfl rfl ?_
  refine zP_iload_n (pc := 51) C (x := zI x1) dX12_printTerminals_51 rfl rfl ?_
  refine zP_iconst (pc := 52) C dX12_printTerminals_52 ?_
  obtain ⟨v53, d1, hc, h⟩ := zc_h h
  refine zP_callV (pc := 53) (As := [.int (zI x1), .int (zI 3)]) (st := []) C m12_57 dX12_printTerminals_53 (s_X12 hT) rfl (t_X12_of hT hx1 (zRk rfl) hc) ⟨Nat.le_of_ble_eq_true rfl, Nat.le_of_ble_eq_true rfl⟩ rfl (Nat.le_of_ble_eq_true rfl) ⟨Nat.zero_le _, Nat.zero_le _⟩ fun hw => ?_
  have hv53 := hw
  clear hc hw
  show zP V X 3 0 0 56 _ [.int (zI v53)] d1
  revert h
  generalize d1 = d
  intro h
  refine zP_if_ne (pc := 56) (tgt := 65) C dX12_printTerminals_56 rfl hv53 h (fun _ h => ?_) (fun _ h => ?_)
  · refine zP_iconst (pc := 65) C dX12_printTerminals_65 ?_
    refine zP_istore_n (pc := 66) C (L' := [some (.ref (zad V 400)), some (.int (zI x1)), some (.int (zI 0))]) dX12_printTerminals_66 rfl (Nat.le_of_ble_eq_true rfl) rfl rfl ?_
    exact zP_mask [true, true, true] (wl_X12_printTerminals_67 hT C E hr12 zF hx1 (zRk rfl) h)
  · refine zP_aload_n (pc := 59) C (x := zad V 400) dX12_printTerminals_59 rfl rfl ?_
    refine zP_bipush (pc := 60) C dX12_printTerminals_60 rfl ?_
    obtain ⟨_, d1, hc, h⟩ := zc_h h
    refine zP_callV (pc := 62) (As := [.int (zI 120)]) (st := []) C m12_397 dX12_printTerminals_62 (s_X12 hT) rfl (t_X12_writes hT (zRk rfl) hc) ⟨Nat.le_of_ble_eq_true rfl, Nat.le_of_ble_eq_true rfl⟩ rfl (Nat.le_of_ble_eq_true rfl) ⟨Nat.zero_le _, Nat.zero_le _⟩ fun hw => ?_
    clear hc hw
    show zP V X 3 0 0 65 _ [] d1
    revert h
    generalize d1 = d
    intro h
    refine zP_iconst (pc := 65) C dX12_printTerminals_65 ?_
    refine zP_istore_n (pc := 66) C (L' := [some (.ref (zad V 400)), some (.int (zI x1)), some (.int (zI 0))]) dX12_printTerminals_66 rfl (Nat.le_of_ble_eq_true rfl) rfl rfl ?_
    exact zP_mask [true, true, true] (wl_X12_printTerminals_67 hT C E hr12 zF hx1 (zRk rfl) h)
def j_X12_printTerminals_30  (r12 : Int → zD → Option (Int × zD)) (x1 : Int) (d : zD) : Option (Int × zD) :=
  zc (f_X12_writesName  x1 d) fun _ d =>
  zc (f_X12_of  x1 4 d) fun v38 d =>
  if (v38 : Int) = 0 then (
    zc (f_X12_writes  45 d) fun _ d =>
    j_X12_printTerminals_50  r12 x1 d)
  else (
    j_X12_printTerminals_50  r12 x1 d)
theorem wj_X12_printTerminals_30 {V : zW} {X : zX}  (hT : zo12 V) (C : zOk V X cX12_printTerminals RX12 3 (zrm 13) (some .int)) {rv : Int} {dz : zD} (E : zEnd V X (some (.int (zI rv))) (zR rv) dz) {r12 : Int → zD → Option (Int × zD)} (hr12 : ∀ {x1 : Int} {d : zD}, zR x1 → r12 x1 d = some (rv, dz) → zP V X 3 0 0 12 [some (.ref (zad V 400)), some (.int (zI x1)), none] [] d) {x1 : Int} (hx1 : zR x1) {d : zD} (h : j_X12_printTerminals_30  r12 x1 d = some (rv, dz)) : zP V X 3 0 0 30 [some (.ref (zad V 400)), some (.int (zI x1)), none] [] d := by
  refine zP_aload_n (pc := 30) C (x := zad V 400) dX12_printTerminals_30 rfl rfl ?_
  refine zP_iload_n (pc := 31) C (x := zI x1) dX12_printTerminals_31 rfl rfl ?_
  obtain ⟨_, d1, hc, h⟩ := zc_h h
  refine zP_callV (pc := 32) (As := [.int (zI x1)]) (st := []) C m12_400 dX12_printTerminals_32 (s_X12 hT) rfl (t_X12_writesName hT hx1 hc) ⟨Nat.le_of_ble_eq_true rfl, Nat.le_of_ble_eq_true rfl⟩ rfl (Nat.le_of_ble_eq_true rfl) ⟨Nat.zero_le _, Nat.zero_le _⟩ fun hw => ?_
  clear hc hw
  show zP V X 3 0 0 35 _ [] d1
  revert h
  generalize d1 = d
  intro h
  refine zP_aload_n (pc := 35) C (x := zad V 400) dX12_printTerminals_35 rfl rfl ?_
  refine zP_iload_n (pc := 36) C (x := zI x1) dX12_printTerminals_36 rfl rfl ?_
  refine zP_iconst (pc := 37) C dX12_printTerminals_37 ?_
  obtain ⟨v38, d1, hc, h⟩ := zc_h h
  refine zP_callV (pc := 38) (As := [.int (zI x1), .int (zI 4)]) (st := []) C m12_57 dX12_printTerminals_38 (s_X12 hT) rfl (t_X12_of hT hx1 (zRk rfl) hc) ⟨Nat.le_of_ble_eq_true rfl, Nat.le_of_ble_eq_true rfl⟩ rfl (Nat.le_of_ble_eq_true rfl) ⟨Nat.zero_le _, Nat.zero_le _⟩ fun hw => ?_
  have hv38 := hw
  clear hc hw
  show zP V X 3 0 0 41 _ [.int (zI v38)] d1
  revert h
  generalize d1 = d
  intro h
  refine zP_if_ne (pc := 41) (tgt := 50) C dX12_printTerminals_41 rfl hv38 h (fun _ h => ?_) (fun _ h => ?_)
  · exact zP_mask [true, true, false] (wj_X12_printTerminals_50 hT C E hr12 hx1 h)
  · refine zP_aload_n (pc := 44) C (x := zad V 400) dX12_printTerminals_44 rfl rfl ?_
    refine zP_bipush (pc := 45) C dX12_printTerminals_45 rfl ?_
    obtain ⟨_, d1, hc, h⟩ := zc_h h
    refine zP_callV (pc := 47) (As := [.int (zI 45)]) (st := []) C m12_397 dX12_printTerminals_47 (s_X12 hT) rfl (t_X12_writes hT (zRk rfl) hc) ⟨Nat.le_of_ble_eq_true rfl, Nat.le_of_ble_eq_true rfl⟩ rfl (Nat.le_of_ble_eq_true rfl) ⟨Nat.zero_le _, Nat.zero_le _⟩ fun hw => ?_
    clear hc hw
    show zP V X 3 0 0 50 _ [] d1
    revert h
    generalize d1 = d
    intro h
    exact zP_mask [true, true, false] (wj_X12_printTerminals_50 hT C E hr12 hx1 h)
def l_X12_printTerminals_12F  (r12 : Int → zD → Option (Int × zD)) (x1 : Int) (d : zD) : Option (Int × zD) :=
  zc (f_X12_many   d) fun v14 d =>
  if (v14 : Int) ≤ x1 then (
    zl (d 400 24) fun v110 =>
    some (v110, d))
  else (
    if (x1 : Int) ≤ 0 then (
      j_X12_printTerminals_30  r12 x1 d)
    else (
      zc (f_X12_writes  32 d) fun _ d =>
      j_X12_printTerminals_30  r12 x1 d))
theorem wl_X12_printTerminals_12F {V : zW} {X : zX}  (hT : zo12 V) (C : zOk V X cX12_printTerminals RX12 3 (zrm 13) (some .int)) {rv : Int} {dz : zD} (E : zEnd V X (some (.int (zI rv))) (zR rv) dz) {r12 : Int → zD → Option (Int × zD)} (hr12 : ∀ {x1 : Int} {d : zD}, zR x1 → r12 x1 d = some (rv, dz) → zP V X 3 0 0 12 [some (.ref (zad V 400)), some (.int (zI x1)), none] [] d) {x1 : Int} (hx1 : zR x1) {d : zD} (h : l_X12_printTerminals_12F  r12 x1 d = some (rv, dz)) : zP V X 3 0 0 12 [some (.ref (zad V 400)), some (.int (zI x1)), none] [] d := by
  refine zP_iload_n (pc := 12) C (x := zI x1) dX12_printTerminals_12 rfl rfl ?_
  refine zP_aload_n (pc := 13) C (x := zad V 400) dX12_printTerminals_13 rfl rfl ?_
  obtain ⟨v14, d1, hc, h⟩ := zc_h h
  refine zP_callV (pc := 14) (As := []) (st := [.int (zI x1)]) C m12_49 dX12_printTerminals_14 (s_X12 hT) rfl (t_X12_many hT  hc) ⟨Nat.le_of_ble_eq_true rfl, Nat.le_of_ble_eq_true rfl⟩ rfl (Nat.le_of_ble_eq_true rfl) ⟨Nat.zero_le _, Nat.zero_le _⟩ fun hw => ?_
  have hv14 := hw
  clear hc hw
  show zP V X 3 0 0 17 _ [.int (zI v14), .int (zI x1)] d1
  revert h
  generalize d1 = d
  intro h
  refine zP_icmp_ge (pc := 17) (tgt := 109) C dX12_printTerminals_17 rfl hx1 hv14 h (fun _ h => ?_) (fun _ h => ?_)
  · refine zP_aload_n (pc := 109) C (x := zad V 400) dX12_printTerminals_109 rfl rfl ?_
    refine zP_getI (pc := 110) (a := 400) C g12_391 dX12_printTerminals_110 (s_X12 hT) rfl h fun v110 hv110 h => ?_
    exact zP_iret (pc := 113) C E dX12_printTerminals_113 hv110 h
  · refine zP_iload_n (pc := 20) C (x := zI x1) dX12_printTerminals_20 rfl rfl ?_
    refine zP_if_le (pc := 21) (tgt := 30) C dX12_printTerminals_21 rfl hx1 h (fun _ h => ?_) (fun _ h => ?_)
    · exact zP_mask [true, true, false] (wj_X12_printTerminals_30 hT C E hr12 hx1 h)
    · refine zP_aload_n (pc := 24) C (x := zad V 400) dX12_printTerminals_24 rfl rfl ?_
      refine zP_bipush (pc := 25) C dX12_printTerminals_25 rfl ?_
      obtain ⟨_, d1, hc, h⟩ := zc_h h
      refine zP_callV (pc := 27) (As := [.int (zI 32)]) (st := []) C m12_397 dX12_printTerminals_27 (s_X12 hT) rfl (t_X12_writes hT (zRk rfl) hc) ⟨Nat.le_of_ble_eq_true rfl, Nat.le_of_ble_eq_true rfl⟩ rfl (Nat.le_of_ble_eq_true rfl) ⟨Nat.zero_le _, Nat.zero_le _⟩ fun hw => ?_
      clear hc hw
      show zP V X 3 0 0 30 _ [] d1
      revert h
      generalize d1 = d
      intro h
      exact zP_mask [true, true, false] (wj_X12_printTerminals_30 hT C E hr12 hx1 h)
def l_X12_printTerminals_12   : Nat → Int → zD → Option (Int × zD)
  | 0, _, _ => none
  | q + 1, x1, d => l_X12_printTerminals_12F   (l_X12_printTerminals_12   q) x1 d
theorem wl_X12_printTerminals_12 {V : zW} {X : zX}  (hT : zo12 V) (C : zOk V X cX12_printTerminals RX12 3 (zrm 13) (some .int)) {rv : Int} {dz : zD} (E : zEnd V X (some (.int (zI rv))) (zR rv) dz)  : ∀ (q : Nat) {x1 : Int} (hx1 : zR x1) {d : zD} (h : l_X12_printTerminals_12   q x1 d = some (rv, dz)), zP V X 3 0 0 12 [some (.ref (zad V 400)), some (.int (zI x1)), none] [] d := by
  intro q
  induction q with
  | zero => intro x1 hx1 d h; cases (show (none : Option (Int × zD)) = some (rv, dz) from h)
  | succ q ih =>
    intro x1 hx1 d h
    exact wl_X12_printTerminals_12F hT C E  (fun  hx1 h => ih hx1 h) hx1 h
def f_X12_printTerminals  (d : zD) : Option (Int × zD) :=
  zl (zu d 400 0 0) fun d =>
  zl (zu d 400 24 0) fun d =>
  l_X12_printTerminals_12   zF 0 d
theorem t_X12_printTerminals {V : zW}  (hT : zo12 V)   {d dz : zD} {rv : Int} (h : f_X12_printTerminals   d = some (rv, dz)) : zMet V 13 yX12_printTerminals cX12_printTerminals 3 (some .int) [.ref (zad V 400)] d (some (.int (zI rv))) (zR rv) dz := by
  refine zMet_by RX12 pn12 rfl (Nat.le_of_ble_eq_true rfl) [some (.ref (zad V 400)), none, none] rfl fun X C E => ?_
  refine zP_aload_n (pc := 0) C (x := zad V 400) dX12_printTerminals_0 rfl rfl ?_
  refine zP_iconst (pc := 1) C dX12_printTerminals_1 ?_
  refine zP_putI (pc := 2) (a := 400) C p12_1 dX12_printTerminals_2 (s_X12 hT) rfl (zRk rfl) h fun d h => ?_
  refine zP_aload_n (pc := 5) C (x := zad V 400) dX12_printTerminals_5 rfl rfl ?_
  refine zP_iconst (pc := 6) C dX12_printTerminals_6 ?_
  refine zP_putI (pc := 7) (a := 400) C p12_391 dX12_printTerminals_7 (s_X12 hT) rfl (zRk rfl) h fun d h => ?_
  refine zP_iconst (pc := 10) C dX12_printTerminals_10 ?_
  refine zP_istore_n (pc := 11) C (L' := [some (.ref (zad V 400)), some (.int (zI 0)), none]) dX12_printTerminals_11 rfl (Nat.le_of_ble_eq_true rfl) rfl rfl ?_
  exact zP_mask [true, true, false] (wl_X12_printTerminals_12 hT C E  zF (zRk rfl) h)
