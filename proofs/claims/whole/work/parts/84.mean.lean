/-! The reference's mean. -/
def l_X12_meanTime_9F (r9 : Int → Int → zD → Option (Int × zD)) (x1 x2 : Int) (d : zD) : Option (Int × zD) :=
  zg 800 2 <| zl (d 401 (2 : Int).toNat) fun v15 =>
  if (v15 : Int) ≤ x2 then (
    some (x1, d))
  else (
    zc (f_X12_message0 x2 3 d) fun v22 d =>
    if (v22 : Int) = 3 then (
      zc (f_X12_message0 x2 7 d) fun v34 d =>
      zl (zw (x1 + v34)) fun v37 =>
      zc (f_X12_message0 x2 4 d) fun v41 d =>
      zl (zw (v37 - v41)) fun v44 =>
      zl (zw (x2 + 1)) fun v46 =>
      r9 v44 v46 d)
    else (
      zl (zw (x2 + 1)) fun v46 =>
      r9 x1 v46 d))
def l_X12_meanTime_9 : Nat → Int → Int → zD → Option (Int × zD)
  | 0, _, _, _ => none
  | q + 1, x1, x2, d => l_X12_meanTime_9F (l_X12_meanTime_9 q) x1 x2 d
/-- what follows the sum -/
def zMn (V : zW) (X : zX) (rv : Int) (dz : zD) : Prop := ∀ x2 : Int, zR rv → zP V X 3 0 0 52 [some (.ref (zad V 400)), some (.int (zI rv)), some (.int (zI x2))] [] dz
theorem wl_X12_meanTime_9F {V : zW} {X : zX} (hT : zo12 V) (C : zOk V X cX12_meanTime RX12 3 (zrm 2) (some .double)) {rv : Int} {dz : zD} (E : zMn V X rv dz) {r9 : Int → Int → zD → Option (Int × zD)} (hr9 : ∀ {x1 x2 : Int} {d : zD}, zR x1 → zR x2 → r9 x1 x2 d = some (rv, dz) → zP V X 3 0 0 9 [some (.ref (zad V 400)), some (.int (zI x1)), some (.int (zI x2))] [] d) {x1 x2 : Int} (hx1 : zR x1) (hx2 : zR x2) {d : zD} (h : l_X12_meanTime_9F r9 x1 x2 d = some (rv, dz)) : zP V X 3 0 0 9 [some (.ref (zad V 400)), some (.int (zI x1)), some (.int (zI x2))] [] d := by
  refine zP_iload_n (pc := 9) C (x := zI x2) dX12_meanTime_9 rfl rfl ?_
  refine zP_aload_n (pc := 10) C (x := zad V 400) dX12_meanTime_10 rfl rfl ?_
  refine zP_getR (pc := 11) (a := 400) (t := 401) C g12_13 dX12_meanTime_11 (s_X12 hT) rfl ?_
  refine zP_iconst (pc := 14) C dX12_meanTime_14 ?_
  refine zP_iald (pc := 15) (a := 401) C dX12_meanTime_15 (s_X12_s hT) (zRk rfl) h fun v15 hv15 h => ?_
  refine zP_icmp_ge (pc := 16) (tgt := 52) C dX12_meanTime_16 rfl hx2 hv15 h (fun _ h => ?_) (fun _ h => ?_)
  · have e := Option.some.inj h
    have e1 : x1 = rv := congrArg Prod.fst e
    have e2 : d = dz := congrArg Prod.snd e
    subst e1
    subst e2
    exact E x2 hx1
  · refine zP_aload_n (pc := 19) C (x := zad V 400) dX12_meanTime_19 rfl rfl ?_
    refine zP_iload_n (pc := 20) C (x := zI x2) dX12_meanTime_20 rfl rfl ?_
    refine zP_iconst (pc := 21) C dX12_meanTime_21 ?_
    obtain ⟨v22, d1, hc, h⟩ := zc_h h
    refine zP_callV (pc := 22) (As := [.int (zI x2), .int (zI 3)]) (st := []) C m12_65 dX12_meanTime_22 (s_X12 hT) rfl (t_X12_message0 hT hx2 (zRk rfl) hc) ⟨Nat.le_of_ble_eq_true rfl, Nat.le_of_ble_eq_true rfl⟩ rfl (Nat.le_of_ble_eq_true rfl) ⟨Nat.zero_le _, Nat.zero_le _⟩ fun hw => ?_
    have hv22 := hw
    clear hc hw
    show zP V X 3 0 0 25 _ [.int (zI v22)] d1
    revert h
    generalize d1 = d
    intro h
    refine zP_iconst (pc := 25) C dX12_meanTime_25 ?_
    refine zP_icmp_ne (pc := 26) (tgt := 46) C dX12_meanTime_26 rfl hv22 (zRk rfl) h (fun _ h => ?_) (fun _ h => ?_)
    · refine zP_iinc (pc := 46) C (x := x2) dX12_meanTime_46 rfl (Nat.le_of_ble_eq_true rfl) rfl h fun v46 hv46 h => ?_
      show zP V X 3 0 0 49 [some (.ref (zad V 400)), some (.int (zI x1)), some (.int (zI v46))] _ _
      refine zP_goto (pc := 49) (tgt := 9) C dX12_meanTime_49 rfl ?_
      exact zP_mask [true, true, true] (hr9 hx1 hv46 h)
    · refine zP_iload_n (pc := 29) C (x := zI x1) dX12_meanTime_29 rfl rfl ?_
      refine zP_aload_n (pc := 30) C (x := zad V 400) dX12_meanTime_30 rfl rfl ?_
      refine zP_iload_n (pc := 31) C (x := zI x2) dX12_meanTime_31 rfl rfl ?_
      refine zP_bipush (pc := 32) C dX12_meanTime_32 rfl ?_
      obtain ⟨v34, d1, hc, h⟩ := zc_h h
      refine zP_callV (pc := 34) (As := [.int (zI x2), .int (zI 7)]) (st := [.int (zI x1)]) C m12_65 dX12_meanTime_34 (s_X12 hT) rfl (t_X12_message0 hT hx2 (zRk rfl) hc) ⟨Nat.le_of_ble_eq_true rfl, Nat.le_of_ble_eq_true rfl⟩ rfl (Nat.le_of_ble_eq_true rfl) ⟨Nat.zero_le _, Nat.zero_le _⟩ fun hw => ?_
      have hv34 := hw
      clear hc hw
      show zP V X 3 0 0 37 _ [.int (zI v34), .int (zI x1)] d1
      revert h
      generalize d1 = d
      intro h
      refine zP_iadd (pc := 37) C dX12_meanTime_37 h fun v37 hv37 h => ?_
      refine zP_aload_n (pc := 38) C (x := zad V 400) dX12_meanTime_38 rfl rfl ?_
      refine zP_iload_n (pc := 39) C (x := zI x2) dX12_meanTime_39 rfl rfl ?_
      refine zP_iconst (pc := 40) C dX12_meanTime_40 ?_
      obtain ⟨v41, d1, hc, h⟩ := zc_h h
      refine zP_callV (pc := 41) (As := [.int (zI x2), .int (zI 4)]) (st := [.int (zI v37)]) C m12_65 dX12_meanTime_41 (s_X12 hT) rfl (t_X12_message0 hT hx2 (zRk rfl) hc) ⟨Nat.le_of_ble_eq_true rfl, Nat.le_of_ble_eq_true rfl⟩ rfl (Nat.le_of_ble_eq_true rfl) ⟨Nat.zero_le _, Nat.zero_le _⟩ fun hw => ?_
      have hv41 := hw
      clear hc hw
      show zP V X 3 0 0 44 _ [.int (zI v41), .int (zI v37)] d1
      revert h
      generalize d1 = d
      intro h
      refine zP_isub (pc := 44) C dX12_meanTime_44 h fun v44 hv44 h => ?_
      refine zP_istore_n (pc := 45) C (L' := [some (.ref (zad V 400)), some (.int (zI v44)), some (.int (zI x2))]) dX12_meanTime_45 rfl (Nat.le_of_ble_eq_true rfl) rfl rfl ?_
      refine zP_iinc (pc := 46) C (x := x2) dX12_meanTime_46 rfl (Nat.le_of_ble_eq_true rfl) rfl h fun v46 hv46 h => ?_
      show zP V X 3 0 0 49 [some (.ref (zad V 400)), some (.int (zI v44)), some (.int (zI v46))] _ _
      refine zP_goto (pc := 49) (tgt := 9) C dX12_meanTime_49 rfl ?_
      exact zP_mask [true, true, true] (hr9 hv44 hv46 h)
theorem wl_X12_meanTime_9 {V : zW} {X : zX} (hT : zo12 V) (C : zOk V X cX12_meanTime RX12 3 (zrm 2) (some .double)) {rv : Int} {dz : zD} (E : zMn V X rv dz) : ∀ (q : Nat) {x1 x2 : Int} (_ : zR x1) (_ : zR x2) {d : zD} (_ : l_X12_meanTime_9 q x1 x2 d = some (rv, dz)), zP V X 3 0 0 9 [some (.ref (zad V 400)), some (.int (zI x1)), some (.int (zI x2))] [] d := by
  intro q
  induction q with
  | zero => intro x1 x2 _ _ d h; cases h
  | succ q ih =>
    intro x1 x2 hx1 hx2 d h
    exact wl_X12_meanTime_9F hT C E (fun h1 h2 h3 => ih h1 h2 h3) hx1 hx2 h
theorem t_X12_meanTime {V : zW} (hT : zo12 V) (hN : NN64) {d d1 d2 dz : zD} {nv mv tv : Int} (h1 : l_X12_meanTime_9 zF 0 0 (zu d 400 0 0) = some (tv, d1)) (h2 : f_X12_inState 3 d1 = some (nv, d2)) (h3 : nv = 0 ∧ dz = d2 ∨ nv ≠ 0 ∧ f_X12_inState 3 d2 = some (mv, dz) ∧ mv = nv) : zMet V 2 yX12_meanTime cX12_meanTime 3 (some .double) [.ref (zad V 400)] d (some (.double (zdv tv nv))) True dz := by
  refine zMet_by RX12 pn12 rfl (Nat.le_of_ble_eq_true rfl) [some (.ref (zad V 400)), none, none] rfl fun X C E => ?_
  refine zP_aload_n (pc := 0) C (x := zad V 400) dX12_meanTime_0 rfl rfl ?_
  refine zP_iconst (pc := 1) C dX12_meanTime_1 ?_
  refine zP_putI (K := fun q => some q) (r := zu d 400 0 0) (pc := 2) (a := 400) C p12_1 dX12_meanTime_2 (s_X12 hT) rfl (zRk rfl) (by rw [zl_n]) fun d' h => ?_
  cases h
  refine zP_iconst (pc := 5) C dX12_meanTime_5 ?_
  refine zP_istore_n (pc := 6) C (L' := [some (.ref (zad V 400)), some (.int (zI 0)), none]) dX12_meanTime_6 rfl (Nat.le_of_ble_eq_true rfl) rfl rfl ?_
  refine zP_iconst (pc := 7) C dX12_meanTime_7 ?_
  refine zP_istore_n (pc := 8) C (L' := [some (.ref (zad V 400)), some (.int (zI 0)), some (.int (zI 0))]) dX12_meanTime_8 rfl (Nat.le_of_ble_eq_true rfl) rfl rfl ?_
  refine wl_X12_meanTime_9 hT C (rv := tv) (dz := d1) (fun x2 htv => ?_) zF (zRk rfl) (zRk rfl) h1
  refine zP_aload_n (pc := 52) C (x := zad V 400) dX12_meanTime_52 rfl rfl ?_
  refine zP_iconst (pc := 53) C dX12_meanTime_53 ?_
  refine zP_callV (pc := 54) (As := [.int (zI 3)]) (st := []) C m12_168 dX12_meanTime_54 (s_X12 hT) rfl (t_X12_inState hT (zRk rfl) h2) ⟨Nat.le_of_ble_eq_true rfl, Nat.le_of_ble_eq_true rfl⟩ rfl (Nat.le_of_ble_eq_true rfl) ⟨Nat.zero_le _, Nat.zero_le _⟩ fun hnv => ?_
  have hc : (if nv = 0 then some (0 : Int) else some 1) = some (if nv = 0 then 0 else 1) := by split <;> rfl
  refine zP_if_ne (pc := 57) (tgt := 64) C dX12_meanTime_57 rfl hnv hc (fun hn _ => ?_) (fun hn _ => ?_)
  · rcases h3 with ⟨e, -⟩ | ⟨-, h3, em⟩
    · exact absurd e hn
    · subst em
      have ez : zdv tv mv = FP.ddiv (FP.i2d (zI tv)) (FP.i2d (zI mv)) := if_neg hn
      rw [ez] at E
      refine zP_iload_n (pc := 64) C (x := zI tv) dX12_meanTime_64 rfl rfl ?_
      refine zP_i2d (pc := 65) C dX12_meanTime_65 ?_
      refine zP_aload_n (pc := 66) C (x := zad V 400) dX12_meanTime_66 rfl rfl ?_
      refine zP_iconst (pc := 67) C dX12_meanTime_67 ?_
      refine zP_callV (pc := 68) (As := [.int (zI 3)]) (st := [.double (FP.i2d (zI tv))]) C m12_168 dX12_meanTime_68 (s_X12 hT) rfl (t_X12_inState hT (zRk rfl) h3) ⟨Nat.le_of_ble_eq_true rfl, Nat.le_of_ble_eq_true rfl⟩ rfl (Nat.le_of_ble_eq_true rfl) ⟨Nat.zero_le _, Nat.zero_le _⟩ fun hmv => ?_
      refine zP_i2d (pc := 71) C dX12_meanTime_71 ?_
      refine zP_ddiv (pc := 72) C dX12_meanTime_72 (hN tv mv hnv hn) ?_
      exact zP_dret (pc := 73) C E dX12_meanTime_73
  · rcases h3 with ⟨e, e2⟩ | ⟨e, -⟩
    · have ez : zdv tv nv = FP.dconst0 := if_pos hn
      rw [ez] at E
      subst e2
      refine zP_dconst0 (pc := 60) C dX12_meanTime_60 ?_
      refine zP_goto (pc := 61) (tgt := 73) C dX12_meanTime_61 rfl ?_
      exact zP_dret (pc := 73) C E dX12_meanTime_73
    · exact absurd hn e
