/-! The law's own methods: each calls one of the class's that may throw, and tells which throw it was. -/
theorem pnL : plainName RL = true := by decide +kernel
theorem clL_13 : Cond.classLink RL 13 (zXn 0) ∈ zT := (zin 1084 (by decide +kernel) (by decide +kernel))
theorem clL_25 : Cond.classLink RL 25 (zXn 1) ∈ zT := (zin 1174 (by decide +kernel) (by decide +kernel))
theorem clL_67 : Cond.classLink RL 67 (zXn 2) ∈ zT := (zin 1304 (by decide +kernel) (by decide +kernel))
theorem clL_91 : Cond.classLink RL 91 (zXn 3) ∈ zT := (zin 1373 (by decide +kernel) (by decide +kernel))
theorem mvL_7 : zMV RL 7 RX11 yX11_count cX11_count 2 (some .int) 1 := ⟨(zin 1085 (by decide +kernel) (by decide +kernel)), (zin 1086 (by decide +kernel) (by decide +kernel)), (zin 1087 (by decide +kernel) (by decide +kernel)), (zin 112 (by decide +kernel) (by decide +kernel)), (zin 1088 (by decide +kernel) (by decide +kernel)), rfl, ⟨by decide +kernel, by decide +kernel⟩, by decide +kernel⟩
theorem tL_count {V : zW} (hT : zo11 V) (hO : zsh V 399 = some (4, 1, zk0)) {x1 : Int} (hx1 : zR x1) {d d1 dz : zD} {v kv : Int} (h : f_X11_count x1 d = some (v, d1)) (hv : (zR v ∧ kv = 0 ∧ dz = zu d1 399 0 v) ∨ ∃ i j : Nat, ([0] : List Nat)[i]? = some j ∧ v = 4294967296 + (j : Int) ∧ kv = (i : Int) + 1 ∧ dz = d1) : zMetT V yL_count cL_count 4 [(0, 9, 12, 13)] [.ref (zad V 0), .int (zI x1), .ref (zad V 399)] d kv dz := by
  refine zMetT_by RL pnL rfl (Nat.le_of_ble_eq_true rfl) [some (.ref (zad V 0)), some (.int (zI x1)), some (.ref (zad V 399)), none] rfl fun X C E => ?_
  refine zP_aload_n (pc := 0) C (x := zad V 399) dL_count_0 rfl rfl ?_
  refine zP_iconst (pc := 1) C dL_count_1 ?_
  refine zP_aload_n (pc := 2) C (x := zad V 0) dL_count_2 rfl rfl ?_
  refine zP_iload_n (pc := 3) C (x := zI x1) dL_count_3 rfl rfl ?_
  refine zP_callX (pc := 4) (As := [.int (zI x1)]) (st := [.int (zI 0), .ref (zad V 399)]) C E mvL_7 dL_count_4 (s_X11 hT) (t_X11_count hT hx1 h) ⟨Nat.le_of_ble_eq_true rfl, Nat.le_of_ble_eq_true rfl⟩ rfl (Nat.le_of_ble_eq_true rfl) (fun hr => ?_) (fun j hj hvj => ?_)
  · rcases hv with ⟨-, rfl, rfl⟩ | ⟨i, j, -, e, -⟩
    · refine zP_i2l (pc := 7) C dL_count_7 ?_
      refine zP_last (pc := 8) (a := 399) (i := 0) C dL_count_8 hO (zRk rfl) hr ⟨by decide, by decide⟩ ?_
      refine zP_goto (pc := 9) (tgt := 15) C dL_count_9 rfl ?_
      refine zP_iconst (pc := 15) C dL_count_15 ?_
      exact zP_iretT (pc := 16) C E ⟨Nat.le_of_ble_eq_true rfl, Nat.le_of_ble_eq_true rfl⟩ dL_count_16 (zRk rfl) rfl rfl
    · exfalso
      obtain ⟨-, hr⟩ := hr
      omega
  · rcases hv with ⟨hr, -⟩ | ⟨i, j1, he, e, rfl, rfl⟩
    · exfalso
      obtain ⟨-, hr⟩ := hr
      omega
    · have ej : j1 = j := by omega
      subst ej
      match i, he with
      | 0, he =>
        have e1 : 0 = j1 := Option.some.inj (show some 0 = some j1 from he)
        subst e1
        refine ⟨[], ⟨0, 9, 12, 13⟩, [], rfl, fun z hz => ?_, rfl, by decide, clL_13, fun w => ?_⟩
        · cases hz
        · refine zP_astore_n (pc := 12) C (L' := [some (.ref (zad V 0)), some (.int (zI x1)), some (.ref (zad V 399)), some (.ref w)]) dL_count_12 rfl (Nat.le_of_ble_eq_true rfl) rfl rfl ?_
          refine zP_iconst (pc := 13) C dL_count_13 ?_
          exact zP_iretT (pc := 14) C E ⟨Nat.le_of_ble_eq_true rfl, Nat.le_of_ble_eq_true rfl⟩ dL_count_14 (zRk rfl) rfl rfl
      | q + 1, he => cases (show (none : Option Nat) = some j1 from he)
theorem mvL_15 : zMV RL 15 RX11 yX11_account cX11_account 2 (some .int) 1 := ⟨(zin 1160 (by decide +kernel) (by decide +kernel)), (zin 1161 (by decide +kernel) (by decide +kernel)), (zin 1162 (by decide +kernel) (by decide +kernel)), (zin 112 (by decide +kernel) (by decide +kernel)), (zin 1163 (by decide +kernel) (by decide +kernel)), rfl, ⟨by decide +kernel, by decide +kernel⟩, by decide +kernel⟩
theorem tL_account {V : zW} (hT : zo11 V) (hO : zsh V 399 = some (4, 1, zk0)) {x1 : Int} (hx1 : zR x1) {d d1 dz : zD} {v kv : Int} (h : f_X11_account x1 d = some (v, d1)) (hv : (zR v ∧ kv = 0 ∧ dz = zu d1 399 0 v) ∨ ∃ i j : Nat, ([0] : List Nat)[i]? = some j ∧ v = 4294967296 + (j : Int) ∧ kv = (i : Int) + 1 ∧ dz = d1) : zMetT V yL_account cL_account 4 [(0, 9, 12, 13)] [.ref (zad V 0), .int (zI x1), .ref (zad V 399)] d kv dz := by
  refine zMetT_by RL pnL rfl (Nat.le_of_ble_eq_true rfl) [some (.ref (zad V 0)), some (.int (zI x1)), some (.ref (zad V 399)), none] rfl fun X C E => ?_
  refine zP_aload_n (pc := 0) C (x := zad V 399) dL_account_0 rfl rfl ?_
  refine zP_iconst (pc := 1) C dL_account_1 ?_
  refine zP_aload_n (pc := 2) C (x := zad V 0) dL_account_2 rfl rfl ?_
  refine zP_iload_n (pc := 3) C (x := zI x1) dL_account_3 rfl rfl ?_
  refine zP_callX (pc := 4) (As := [.int (zI x1)]) (st := [.int (zI 0), .ref (zad V 399)]) C E mvL_15 dL_account_4 (s_X11 hT) (t_X11_account hT hx1 h) ⟨Nat.le_of_ble_eq_true rfl, Nat.le_of_ble_eq_true rfl⟩ rfl (Nat.le_of_ble_eq_true rfl) (fun hr => ?_) (fun j hj hvj => ?_)
  · rcases hv with ⟨-, rfl, rfl⟩ | ⟨i, j, -, e, -⟩
    · refine zP_i2l (pc := 7) C dL_account_7 ?_
      refine zP_last (pc := 8) (a := 399) (i := 0) C dL_account_8 hO (zRk rfl) hr ⟨by decide, by decide⟩ ?_
      refine zP_goto (pc := 9) (tgt := 15) C dL_account_9 rfl ?_
      refine zP_iconst (pc := 15) C dL_account_15 ?_
      exact zP_iretT (pc := 16) C E ⟨Nat.le_of_ble_eq_true rfl, Nat.le_of_ble_eq_true rfl⟩ dL_account_16 (zRk rfl) rfl rfl
    · exfalso
      obtain ⟨-, hr⟩ := hr
      omega
  · rcases hv with ⟨hr, -⟩ | ⟨i, j1, he, e, rfl, rfl⟩
    · exfalso
      obtain ⟨-, hr⟩ := hr
      omega
    · have ej : j1 = j := by omega
      subst ej
      match i, he with
      | 0, he =>
        have e1 : 0 = j1 := Option.some.inj (show some 0 = some j1 from he)
        subst e1
        refine ⟨[], ⟨0, 9, 12, 13⟩, [], rfl, fun z hz => ?_, rfl, by decide, clL_13, fun w => ?_⟩
        · cases hz
        · refine zP_astore_n (pc := 12) C (L' := [some (.ref (zad V 0)), some (.int (zI x1)), some (.ref (zad V 399)), some (.ref w)]) dL_account_12 rfl (Nat.le_of_ble_eq_true rfl) rfl rfl ?_
          refine zP_iconst (pc := 13) C dL_account_13 ?_
          exact zP_iretT (pc := 14) C E ⟨Nat.le_of_ble_eq_true rfl, Nat.le_of_ble_eq_true rfl⟩ dL_account_14 (zRk rfl) rfl rfl
      | q + 1, he => cases (show (none : Option Nat) = some j1 from he)
theorem mvL_18 : zMV RL 18 RX11 yX11_setting cX11_setting 2 (some .int) 1 := ⟨(zin 1167 (by decide +kernel) (by decide +kernel)), (zin 1168 (by decide +kernel) (by decide +kernel)), (zin 1169 (by decide +kernel) (by decide +kernel)), (zin 112 (by decide +kernel) (by decide +kernel)), (zin 1170 (by decide +kernel) (by decide +kernel)), rfl, ⟨by decide +kernel, by decide +kernel⟩, by decide +kernel⟩
theorem tL_setting {V : zW} (hT : zo11 V) (hO : zsh V 399 = some (4, 1, zk0)) {x1 : Int} (hx1 : zR x1) {d d1 dz : zD} {v kv : Int} (h : f_X11_setting x1 d = some (v, d1)) (hv : (zR v ∧ kv = 0 ∧ dz = zu d1 399 0 v) ∨ ∃ i j : Nat, ([0] : List Nat)[i]? = some j ∧ v = 4294967296 + (j : Int) ∧ kv = (i : Int) + 1 ∧ dz = d1) : zMetT V yL_setting cL_setting 4 [(0, 9, 12, 13)] [.ref (zad V 0), .int (zI x1), .ref (zad V 399)] d kv dz := by
  refine zMetT_by RL pnL rfl (Nat.le_of_ble_eq_true rfl) [some (.ref (zad V 0)), some (.int (zI x1)), some (.ref (zad V 399)), none] rfl fun X C E => ?_
  refine zP_aload_n (pc := 0) C (x := zad V 399) dL_setting_0 rfl rfl ?_
  refine zP_iconst (pc := 1) C dL_setting_1 ?_
  refine zP_aload_n (pc := 2) C (x := zad V 0) dL_setting_2 rfl rfl ?_
  refine zP_iload_n (pc := 3) C (x := zI x1) dL_setting_3 rfl rfl ?_
  refine zP_callX (pc := 4) (As := [.int (zI x1)]) (st := [.int (zI 0), .ref (zad V 399)]) C E mvL_18 dL_setting_4 (s_X11 hT) (t_X11_setting hT hx1 h) ⟨Nat.le_of_ble_eq_true rfl, Nat.le_of_ble_eq_true rfl⟩ rfl (Nat.le_of_ble_eq_true rfl) (fun hr => ?_) (fun j hj hvj => ?_)
  · rcases hv with ⟨-, rfl, rfl⟩ | ⟨i, j, -, e, -⟩
    · refine zP_i2l (pc := 7) C dL_setting_7 ?_
      refine zP_last (pc := 8) (a := 399) (i := 0) C dL_setting_8 hO (zRk rfl) hr ⟨by decide, by decide⟩ ?_
      refine zP_goto (pc := 9) (tgt := 15) C dL_setting_9 rfl ?_
      refine zP_iconst (pc := 15) C dL_setting_15 ?_
      exact zP_iretT (pc := 16) C E ⟨Nat.le_of_ble_eq_true rfl, Nat.le_of_ble_eq_true rfl⟩ dL_setting_16 (zRk rfl) rfl rfl
    · exfalso
      obtain ⟨-, hr⟩ := hr
      omega
  · rcases hv with ⟨hr, -⟩ | ⟨i, j1, he, e, rfl, rfl⟩
    · exfalso
      obtain ⟨-, hr⟩ := hr
      omega
    · have ej : j1 = j := by omega
      subst ej
      match i, he with
      | 0, he =>
        have e1 : 0 = j1 := Option.some.inj (show some 0 = some j1 from he)
        subst e1
        refine ⟨[], ⟨0, 9, 12, 13⟩, [], rfl, fun z hz => ?_, rfl, by decide, clL_13, fun w => ?_⟩
        · cases hz
        · refine zP_astore_n (pc := 12) C (L' := [some (.ref (zad V 0)), some (.int (zI x1)), some (.ref (zad V 399)), some (.ref w)]) dL_setting_12 rfl (Nat.le_of_ble_eq_true rfl) rfl rfl ?_
          refine zP_iconst (pc := 13) C dL_setting_13 ?_
          exact zP_iretT (pc := 14) C E ⟨Nat.le_of_ble_eq_true rfl, Nat.le_of_ble_eq_true rfl⟩ dL_setting_14 (zRk rfl) rfl rfl
      | q + 1, he => cases (show (none : Option Nat) = some j1 from he)
theorem mvL_21 : zMV RL 21 RX11 yX11_terminal cX11_terminal 3 (some .int) 2 := ⟨(zin 1175 (by decide +kernel) (by decide +kernel)), (zin 1176 (by decide +kernel) (by decide +kernel)), (zin 1177 (by decide +kernel) (by decide +kernel)), (zin 112 (by decide +kernel) (by decide +kernel)), (zin 1178 (by decide +kernel) (by decide +kernel)), rfl, ⟨by decide +kernel, by decide +kernel⟩, by decide +kernel⟩
theorem tL_terminal {V : zW} (hT : zo11 V) (hO : zsh V 399 = some (4, 1, zk0)) {x1 x2 : Int} (hx1 : zR x1) (hx2 : zR x2) {d d1 dz : zD} {v kv : Int} (h : f_X11_terminal x1 x2 d = some (v, d1)) (hv : (zR v ∧ kv = 0 ∧ dz = zu d1 399 0 v) ∨ ∃ i j : Nat, ([1, 0] : List Nat)[i]? = some j ∧ v = 4294967296 + (j : Int) ∧ kv = (i : Int) + 1 ∧ dz = d1) : zMetT V yL_terminal cL_terminal 5 [(0, 10, 13, 25), (0, 10, 17, 13)] [.ref (zad V 0), .int (zI x1), .int (zI x2), .ref (zad V 399)] d kv dz := by
  refine zMetT_by RL pnL rfl (Nat.le_of_ble_eq_true rfl) [some (.ref (zad V 0)), some (.int (zI x1)), some (.int (zI x2)), some (.ref (zad V 399)), none] rfl fun X C E => ?_
  refine zP_aload_n (pc := 0) C (x := zad V 399) dL_terminal_0 rfl rfl ?_
  refine zP_iconst (pc := 1) C dL_terminal_1 ?_
  refine zP_aload_n (pc := 2) C (x := zad V 0) dL_terminal_2 rfl rfl ?_
  refine zP_iload_n (pc := 3) C (x := zI x1) dL_terminal_3 rfl rfl ?_
  refine zP_iload_n (pc := 4) C (x := zI x2) dL_terminal_4 rfl rfl ?_
  refine zP_callX (pc := 5) (As := [.int (zI x1), .int (zI x2)]) (st := [.int (zI 0), .ref (zad V 399)]) C E mvL_21 dL_terminal_5 (s_X11 hT) (t_X11_terminal hT hx1 hx2 h) ⟨Nat.le_of_ble_eq_true rfl, Nat.le_of_ble_eq_true rfl⟩ rfl (Nat.le_of_ble_eq_true rfl) (fun hr => ?_) (fun j hj hvj => ?_)
  · rcases hv with ⟨-, rfl, rfl⟩ | ⟨i, j, -, e, -⟩
    · refine zP_i2l (pc := 8) C dL_terminal_8 ?_
      refine zP_last (pc := 9) (a := 399) (i := 0) C dL_terminal_9 hO (zRk rfl) hr ⟨by decide, by decide⟩ ?_
      refine zP_goto (pc := 10) (tgt := 21) C dL_terminal_10 rfl ?_
      refine zP_iconst (pc := 21) C dL_terminal_21 ?_
      exact zP_iretT (pc := 22) C E ⟨Nat.le_of_ble_eq_true rfl, Nat.le_of_ble_eq_true rfl⟩ dL_terminal_22 (zRk rfl) rfl rfl
    · exfalso
      obtain ⟨-, hr⟩ := hr
      omega
  · rcases hv with ⟨hr, -⟩ | ⟨i, j1, he, e, rfl, rfl⟩
    · exfalso
      obtain ⟨-, hr⟩ := hr
      omega
    · have ej : j1 = j := by omega
      subst ej
      match i, he with
      | 0, he =>
        have e1 : 1 = j1 := Option.some.inj (show some 1 = some j1 from he)
        subst e1
        refine ⟨[], ⟨0, 10, 13, 25⟩, [⟨0, 10, 17, 13⟩], rfl, fun z hz => ?_, rfl, by decide, clL_25, fun w => ?_⟩
        · cases hz
        · refine zP_astore (pc := 13) C (L' := [some (.ref (zad V 0)), some (.int (zI x1)), some (.int (zI x2)), some (.ref (zad V 399)), some (.ref w)]) dL_terminal_13 (Nat.le_of_ble_eq_true rfl) rfl rfl ?_
          refine zP_iconst (pc := 15) C dL_terminal_15 ?_
          exact zP_iretT (pc := 16) C E ⟨Nat.le_of_ble_eq_true rfl, Nat.le_of_ble_eq_true rfl⟩ dL_terminal_16 (zRk rfl) rfl rfl
      | 1, he =>
        have e1 : 0 = j1 := Option.some.inj (show some 0 = some j1 from he)
        subst e1
        refine ⟨[⟨0, 10, 13, 25⟩], ⟨0, 10, 17, 13⟩, [], rfl, fun z hz => ?_, rfl, by decide, clL_13, fun w => ?_⟩
        · simp only [List.mem_cons, List.not_mem_nil, or_false] at hz
          subst hz
          exact ⟨by decide, 1, by decide, by decide, clL_25⟩
        · refine zP_astore (pc := 17) C (L' := [some (.ref (zad V 0)), some (.int (zI x1)), some (.int (zI x2)), some (.ref (zad V 399)), some (.ref w)]) dL_terminal_17 (Nat.le_of_ble_eq_true rfl) rfl rfl ?_
          refine zP_iconst (pc := 19) C dL_terminal_19 ?_
          exact zP_iretT (pc := 20) C E ⟨Nat.le_of_ble_eq_true rfl, Nat.le_of_ble_eq_true rfl⟩ dL_terminal_20 (zRk rfl) rfl rfl
      | q + 2, he => cases (show (none : Option Nat) = some j1 from he)
theorem mvL_27 : zMV RL 27 RX11 yX11_nameLetter cX11_nameLetter 3 (some .int) 2 := ⟨(zin 1202 (by decide +kernel) (by decide +kernel)), (zin 1203 (by decide +kernel) (by decide +kernel)), (zin 1204 (by decide +kernel) (by decide +kernel)), (zin 112 (by decide +kernel) (by decide +kernel)), (zin 1205 (by decide +kernel) (by decide +kernel)), rfl, ⟨by decide +kernel, by decide +kernel⟩, by decide +kernel⟩
theorem tL_nameLetter {V : zW} (hT : zo11 V) (hO : zsh V 399 = some (4, 1, zk0)) {x1 x2 : Int} (hx1 : zR x1) (hx2 : zR x2) {d d1 dz : zD} {v kv : Int} (h : f_X11_nameLetter x1 x2 d = some (v, d1)) (hv : (zR v ∧ kv = 0 ∧ dz = zu d1 399 0 v) ∨ ∃ i j : Nat, ([1] : List Nat)[i]? = some j ∧ v = 4294967296 + (j : Int) ∧ kv = (i : Int) + 1 ∧ dz = d1) : zMetT V yL_nameLetter cL_nameLetter 5 [(0, 10, 13, 25)] [.ref (zad V 0), .int (zI x1), .int (zI x2), .ref (zad V 399)] d kv dz := by
  refine zMetT_by RL pnL rfl (Nat.le_of_ble_eq_true rfl) [some (.ref (zad V 0)), some (.int (zI x1)), some (.int (zI x2)), some (.ref (zad V 399)), none] rfl fun X C E => ?_
  refine zP_aload_n (pc := 0) C (x := zad V 399) dL_nameLetter_0 rfl rfl ?_
  refine zP_iconst (pc := 1) C dL_nameLetter_1 ?_
  refine zP_aload_n (pc := 2) C (x := zad V 0) dL_nameLetter_2 rfl rfl ?_
  refine zP_iload_n (pc := 3) C (x := zI x1) dL_nameLetter_3 rfl rfl ?_
  refine zP_iload_n (pc := 4) C (x := zI x2) dL_nameLetter_4 rfl rfl ?_
  refine zP_callX (pc := 5) (As := [.int (zI x1), .int (zI x2)]) (st := [.int (zI 0), .ref (zad V 399)]) C E mvL_27 dL_nameLetter_5 (s_X11 hT) (t_X11_nameLetter hT hx1 hx2 h) ⟨Nat.le_of_ble_eq_true rfl, Nat.le_of_ble_eq_true rfl⟩ rfl (Nat.le_of_ble_eq_true rfl) (fun hr => ?_) (fun j hj hvj => ?_)
  · rcases hv with ⟨-, rfl, rfl⟩ | ⟨i, j, -, e, -⟩
    · refine zP_i2l (pc := 8) C dL_nameLetter_8 ?_
      refine zP_last (pc := 9) (a := 399) (i := 0) C dL_nameLetter_9 hO (zRk rfl) hr ⟨by decide, by decide⟩ ?_
      refine zP_goto (pc := 10) (tgt := 17) C dL_nameLetter_10 rfl ?_
      refine zP_iconst (pc := 17) C dL_nameLetter_17 ?_
      exact zP_iretT (pc := 18) C E ⟨Nat.le_of_ble_eq_true rfl, Nat.le_of_ble_eq_true rfl⟩ dL_nameLetter_18 (zRk rfl) rfl rfl
    · exfalso
      obtain ⟨-, hr⟩ := hr
      omega
  · rcases hv with ⟨hr, -⟩ | ⟨i, j1, he, e, rfl, rfl⟩
    · exfalso
      obtain ⟨-, hr⟩ := hr
      omega
    · have ej : j1 = j := by omega
      subst ej
      match i, he with
      | 0, he =>
        have e1 : 1 = j1 := Option.some.inj (show some 1 = some j1 from he)
        subst e1
        refine ⟨[], ⟨0, 10, 13, 25⟩, [], rfl, fun z hz => ?_, rfl, by decide, clL_25, fun w => ?_⟩
        · cases hz
        · refine zP_astore (pc := 13) C (L' := [some (.ref (zad V 0)), some (.int (zI x1)), some (.int (zI x2)), some (.ref (zad V 399)), some (.ref w)]) dL_nameLetter_13 (Nat.le_of_ble_eq_true rfl) rfl rfl ?_
          refine zP_iconst (pc := 15) C dL_nameLetter_15 ?_
          exact zP_iretT (pc := 16) C E ⟨Nat.le_of_ble_eq_true rfl, Nat.le_of_ble_eq_true rfl⟩ dL_nameLetter_16 (zRk rfl) rfl rfl
      | q + 1, he => cases (show (none : Option Nat) = some j1 from he)
theorem mvL_30 : zMV RL 30 RX11 yX11_message cX11_message 4 (some .int) 2 := ⟨(zin 1209 (by decide +kernel) (by decide +kernel)), (zin 1210 (by decide +kernel) (by decide +kernel)), (zin 1211 (by decide +kernel) (by decide +kernel)), (zin 112 (by decide +kernel) (by decide +kernel)), (zin 1212 (by decide +kernel) (by decide +kernel)), rfl, ⟨by decide +kernel, by decide +kernel⟩, by decide +kernel⟩
theorem tL_message {V : zW} (hT : zo11 V) (hO : zsh V 399 = some (4, 1, zk0)) {x1 x2 : Int} (hx1 : zR x1) (hx2 : zR x2) {d d1 dz : zD} {v kv : Int} (h : f_X11_message x1 x2 d = some (v, d1)) (hv : (zR v ∧ kv = 0 ∧ dz = zu d1 399 0 v) ∨ ∃ i j : Nat, ([1, 0] : List Nat)[i]? = some j ∧ v = 4294967296 + (j : Int) ∧ kv = (i : Int) + 1 ∧ dz = d1) : zMetT V yL_message cL_message 5 [(0, 10, 13, 25), (0, 10, 17, 13)] [.ref (zad V 0), .int (zI x1), .int (zI x2), .ref (zad V 399)] d kv dz := by
  refine zMetT_by RL pnL rfl (Nat.le_of_ble_eq_true rfl) [some (.ref (zad V 0)), some (.int (zI x1)), some (.int (zI x2)), some (.ref (zad V 399)), none] rfl fun X C E => ?_
  refine zP_aload_n (pc := 0) C (x := zad V 399) dL_message_0 rfl rfl ?_
  refine zP_iconst (pc := 1) C dL_message_1 ?_
  refine zP_aload_n (pc := 2) C (x := zad V 0) dL_message_2 rfl rfl ?_
  refine zP_iload_n (pc := 3) C (x := zI x1) dL_message_3 rfl rfl ?_
  refine zP_iload_n (pc := 4) C (x := zI x2) dL_message_4 rfl rfl ?_
  refine zP_callX (pc := 5) (As := [.int (zI x1), .int (zI x2)]) (st := [.int (zI 0), .ref (zad V 399)]) C E mvL_30 dL_message_5 (s_X11 hT) (t_X11_message hT hx1 hx2 h) ⟨Nat.le_of_ble_eq_true rfl, Nat.le_of_ble_eq_true rfl⟩ rfl (Nat.le_of_ble_eq_true rfl) (fun hr => ?_) (fun j hj hvj => ?_)
  · rcases hv with ⟨-, rfl, rfl⟩ | ⟨i, j, -, e, -⟩
    · refine zP_i2l (pc := 8) C dL_message_8 ?_
      refine zP_last (pc := 9) (a := 399) (i := 0) C dL_message_9 hO (zRk rfl) hr ⟨by decide, by decide⟩ ?_
      refine zP_goto (pc := 10) (tgt := 21) C dL_message_10 rfl ?_
      refine zP_iconst (pc := 21) C dL_message_21 ?_
      exact zP_iretT (pc := 22) C E ⟨Nat.le_of_ble_eq_true rfl, Nat.le_of_ble_eq_true rfl⟩ dL_message_22 (zRk rfl) rfl rfl
    · exfalso
      obtain ⟨-, hr⟩ := hr
      omega
  · rcases hv with ⟨hr, -⟩ | ⟨i, j1, he, e, rfl, rfl⟩
    · exfalso
      obtain ⟨-, hr⟩ := hr
      omega
    · have ej : j1 = j := by omega
      subst ej
      match i, he with
      | 0, he =>
        have e1 : 1 = j1 := Option.some.inj (show some 1 = some j1 from he)
        subst e1
        refine ⟨[], ⟨0, 10, 13, 25⟩, [⟨0, 10, 17, 13⟩], rfl, fun z hz => ?_, rfl, by decide, clL_25, fun w => ?_⟩
        · cases hz
        · refine zP_astore (pc := 13) C (L' := [some (.ref (zad V 0)), some (.int (zI x1)), some (.int (zI x2)), some (.ref (zad V 399)), some (.ref w)]) dL_message_13 (Nat.le_of_ble_eq_true rfl) rfl rfl ?_
          refine zP_iconst (pc := 15) C dL_message_15 ?_
          exact zP_iretT (pc := 16) C E ⟨Nat.le_of_ble_eq_true rfl, Nat.le_of_ble_eq_true rfl⟩ dL_message_16 (zRk rfl) rfl rfl
      | 1, he =>
        have e1 : 0 = j1 := Option.some.inj (show some 0 = some j1 from he)
        subst e1
        refine ⟨[⟨0, 10, 13, 25⟩], ⟨0, 10, 17, 13⟩, [], rfl, fun z hz => ?_, rfl, by decide, clL_13, fun w => ?_⟩
        · simp only [List.mem_cons, List.not_mem_nil, or_false] at hz
          subst hz
          exact ⟨by decide, 1, by decide, by decide, clL_25⟩
        · refine zP_astore (pc := 17) C (L' := [some (.ref (zad V 0)), some (.int (zI x1)), some (.int (zI x2)), some (.ref (zad V 399)), some (.ref w)]) dL_message_17 (Nat.le_of_ble_eq_true rfl) rfl rfl ?_
          refine zP_iconst (pc := 19) C dL_message_19 ?_
          exact zP_iretT (pc := 20) C E ⟨Nat.le_of_ble_eq_true rfl, Nat.le_of_ble_eq_true rfl⟩ dL_message_20 (zRk rfl) rfl rfl
      | q + 2, he => cases (show (none : Option Nat) = some j1 from he)
theorem mvL_33 : zMV RL 33 RX11 yX11_inRow cX11_inRow 4 (some .int) 3 := ⟨(zin 1217 (by decide +kernel) (by decide +kernel)), (zin 1218 (by decide +kernel) (by decide +kernel)), (zin 1219 (by decide +kernel) (by decide +kernel)), (zin 112 (by decide +kernel) (by decide +kernel)), (zin 1220 (by decide +kernel) (by decide +kernel)), rfl, ⟨by decide +kernel, by decide +kernel⟩, by decide +kernel⟩
theorem tL_inRow {V : zW} (hT : zo11 V) (hO : zsh V 399 = some (4, 1, zk0)) {x1 x2 x3 : Int} (hx1 : zR x1) (hx2 : zR x2) (hx3 : zR x3) {d d1 dz : zD} {v kv : Int} (h : f_X11_inRow x1 x2 x3 d = some (v, d1)) (hv : (zR v ∧ kv = 0 ∧ dz = zu d1 399 0 v) ∨ ∃ i j : Nat, ([1, 0] : List Nat)[i]? = some j ∧ v = 4294967296 + (j : Int) ∧ kv = (i : Int) + 1 ∧ dz = d1) : zMetT V yL_inRow cL_inRow 6 [(0, 12, 15, 25), (0, 12, 19, 13)] [.ref (zad V 0), .int (zI x1), .int (zI x2), .int (zI x3), .ref (zad V 399)] d kv dz := by
  refine zMetT_by RL pnL rfl (Nat.le_of_ble_eq_true rfl) [some (.ref (zad V 0)), some (.int (zI x1)), some (.int (zI x2)), some (.int (zI x3)), some (.ref (zad V 399)), none] rfl fun X C E => ?_
  refine zP_aload (pc := 0) C (x := zad V 399) dL_inRow_0 rfl ?_
  refine zP_iconst (pc := 2) C dL_inRow_2 ?_
  refine zP_aload_n (pc := 3) C (x := zad V 0) dL_inRow_3 rfl rfl ?_
  refine zP_iload_n (pc := 4) C (x := zI x1) dL_inRow_4 rfl rfl ?_
  refine zP_iload_n (pc := 5) C (x := zI x2) dL_inRow_5 rfl rfl ?_
  refine zP_iload_n (pc := 6) C (x := zI x3) dL_inRow_6 rfl rfl ?_
  refine zP_callX (pc := 7) (As := [.int (zI x1), .int (zI x2), .int (zI x3)]) (st := [.int (zI 0), .ref (zad V 399)]) C E mvL_33 dL_inRow_7 (s_X11 hT) (t_X11_inRow hT hx1 hx2 hx3 h) ⟨Nat.le_of_ble_eq_true rfl, Nat.le_of_ble_eq_true rfl⟩ rfl (Nat.le_of_ble_eq_true rfl) (fun hr => ?_) (fun j hj hvj => ?_)
  · rcases hv with ⟨-, rfl, rfl⟩ | ⟨i, j, -, e, -⟩
    · refine zP_i2l (pc := 10) C dL_inRow_10 ?_
      refine zP_last (pc := 11) (a := 399) (i := 0) C dL_inRow_11 hO (zRk rfl) hr ⟨by decide, by decide⟩ ?_
      refine zP_goto (pc := 12) (tgt := 23) C dL_inRow_12 rfl ?_
      refine zP_iconst (pc := 23) C dL_inRow_23 ?_
      exact zP_iretT (pc := 24) C E ⟨Nat.le_of_ble_eq_true rfl, Nat.le_of_ble_eq_true rfl⟩ dL_inRow_24 (zRk rfl) rfl rfl
    · exfalso
      obtain ⟨-, hr⟩ := hr
      omega
  · rcases hv with ⟨hr, -⟩ | ⟨i, j1, he, e, rfl, rfl⟩
    · exfalso
      obtain ⟨-, hr⟩ := hr
      omega
    · have ej : j1 = j := by omega
      subst ej
      match i, he with
      | 0, he =>
        have e1 : 1 = j1 := Option.some.inj (show some 1 = some j1 from he)
        subst e1
        refine ⟨[], ⟨0, 12, 15, 25⟩, [⟨0, 12, 19, 13⟩], rfl, fun z hz => ?_, rfl, by decide, clL_25, fun w => ?_⟩
        · cases hz
        · refine zP_astore (pc := 15) C (L' := [some (.ref (zad V 0)), some (.int (zI x1)), some (.int (zI x2)), some (.int (zI x3)), some (.ref (zad V 399)), some (.ref w)]) dL_inRow_15 (Nat.le_of_ble_eq_true rfl) rfl rfl ?_
          refine zP_iconst (pc := 17) C dL_inRow_17 ?_
          exact zP_iretT (pc := 18) C E ⟨Nat.le_of_ble_eq_true rfl, Nat.le_of_ble_eq_true rfl⟩ dL_inRow_18 (zRk rfl) rfl rfl
      | 1, he =>
        have e1 : 0 = j1 := Option.some.inj (show some 0 = some j1 from he)
        subst e1
        refine ⟨[⟨0, 12, 15, 25⟩], ⟨0, 12, 19, 13⟩, [], rfl, fun z hz => ?_, rfl, by decide, clL_13, fun w => ?_⟩
        · simp only [List.mem_cons, List.not_mem_nil, or_false] at hz
          subst hz
          exact ⟨by decide, 1, by decide, by decide, clL_25⟩
        · refine zP_astore (pc := 19) C (L' := [some (.ref (zad V 0)), some (.int (zI x1)), some (.int (zI x2)), some (.int (zI x3)), some (.ref (zad V 399)), some (.ref w)]) dL_inRow_19 (Nat.le_of_ble_eq_true rfl) rfl rfl ?_
          refine zP_iconst (pc := 21) C dL_inRow_21 ?_
          exact zP_iretT (pc := 22) C E ⟨Nat.le_of_ble_eq_true rfl, Nat.le_of_ble_eq_true rfl⟩ dL_inRow_22 (zRk rfl) rfl rfl
      | q + 2, he => cases (show (none : Option Nat) = some j1 from he)
theorem mvL_37 : zMV RL 37 RX11 yX11_place cX11_place 2 (some .int) 1 := ⟨(zin 1230 (by decide +kernel) (by decide +kernel)), (zin 1231 (by decide +kernel) (by decide +kernel)), (zin 1232 (by decide +kernel) (by decide +kernel)), (zin 112 (by decide +kernel) (by decide +kernel)), (zin 1233 (by decide +kernel) (by decide +kernel)), rfl, ⟨by decide +kernel, by decide +kernel⟩, by decide +kernel⟩
theorem tL_place {V : zW} (hT : zo11 V) (hO : zsh V 399 = some (4, 1, zk0)) {x1 : Int} (hx1 : zR x1) {d d1 dz : zD} {v kv : Int} (h : f_X11_place x1 d = some (v, d1)) (hv : (zR v ∧ kv = 0 ∧ dz = zu d1 399 0 v) ∨ ∃ i j : Nat, ([1] : List Nat)[i]? = some j ∧ v = 4294967296 + (j : Int) ∧ kv = (i : Int) + 1 ∧ dz = d1) : zMetT V yL_place cL_place 4 [(0, 9, 12, 25)] [.ref (zad V 0), .int (zI x1), .ref (zad V 399)] d kv dz := by
  refine zMetT_by RL pnL rfl (Nat.le_of_ble_eq_true rfl) [some (.ref (zad V 0)), some (.int (zI x1)), some (.ref (zad V 399)), none] rfl fun X C E => ?_
  refine zP_aload_n (pc := 0) C (x := zad V 399) dL_place_0 rfl rfl ?_
  refine zP_iconst (pc := 1) C dL_place_1 ?_
  refine zP_aload_n (pc := 2) C (x := zad V 0) dL_place_2 rfl rfl ?_
  refine zP_iload_n (pc := 3) C (x := zI x1) dL_place_3 rfl rfl ?_
  refine zP_callX (pc := 4) (As := [.int (zI x1)]) (st := [.int (zI 0), .ref (zad V 399)]) C E mvL_37 dL_place_4 (s_X11 hT) (t_X11_place hT hx1 h) ⟨Nat.le_of_ble_eq_true rfl, Nat.le_of_ble_eq_true rfl⟩ rfl (Nat.le_of_ble_eq_true rfl) (fun hr => ?_) (fun j hj hvj => ?_)
  · rcases hv with ⟨-, rfl, rfl⟩ | ⟨i, j, -, e, -⟩
    · refine zP_i2l (pc := 7) C dL_place_7 ?_
      refine zP_last (pc := 8) (a := 399) (i := 0) C dL_place_8 hO (zRk rfl) hr ⟨by decide, by decide⟩ ?_
      refine zP_goto (pc := 9) (tgt := 15) C dL_place_9 rfl ?_
      refine zP_iconst (pc := 15) C dL_place_15 ?_
      exact zP_iretT (pc := 16) C E ⟨Nat.le_of_ble_eq_true rfl, Nat.le_of_ble_eq_true rfl⟩ dL_place_16 (zRk rfl) rfl rfl
    · exfalso
      obtain ⟨-, hr⟩ := hr
      omega
  · rcases hv with ⟨hr, -⟩ | ⟨i, j1, he, e, rfl, rfl⟩
    · exfalso
      obtain ⟨-, hr⟩ := hr
      omega
    · have ej : j1 = j := by omega
      subst ej
      match i, he with
      | 0, he =>
        have e1 : 1 = j1 := Option.some.inj (show some 1 = some j1 from he)
        subst e1
        refine ⟨[], ⟨0, 9, 12, 25⟩, [], rfl, fun z hz => ?_, rfl, by decide, clL_25, fun w => ?_⟩
        · cases hz
        · refine zP_astore_n (pc := 12) C (L' := [some (.ref (zad V 0)), some (.int (zI x1)), some (.ref (zad V 399)), some (.ref w)]) dL_place_12 rfl (Nat.le_of_ble_eq_true rfl) rfl rfl ?_
          refine zP_iconst (pc := 13) C dL_place_13 ?_
          exact zP_iretT (pc := 14) C E ⟨Nat.le_of_ble_eq_true rfl, Nat.le_of_ble_eq_true rfl⟩ dL_place_14 (zRk rfl) rfl rfl
      | q + 1, he => cases (show (none : Option Nat) = some j1 from he)
theorem mvL_40 : zMV RL 40 RX11 yX11_turn cX11_turn 3 (some .int) 2 := ⟨(zin 1238 (by decide +kernel) (by decide +kernel)), (zin 1239 (by decide +kernel) (by decide +kernel)), (zin 1240 (by decide +kernel) (by decide +kernel)), (zin 112 (by decide +kernel) (by decide +kernel)), (zin 1241 (by decide +kernel) (by decide +kernel)), rfl, ⟨by decide +kernel, by decide +kernel⟩, by decide +kernel⟩
theorem tL_turn {V : zW} (hT : zo11 V) (hO : zsh V 399 = some (4, 1, zk0)) {x1 x2 : Int} (hx1 : zR x1) (hx2 : zR x2) {d d1 dz : zD} {v kv : Int} (h : f_X11_turn x1 x2 d = some (v, d1)) (hv : (zR v ∧ kv = 0 ∧ dz = zu d1 399 0 v) ∨ ∃ i j : Nat, ([1, 0] : List Nat)[i]? = some j ∧ v = 4294967296 + (j : Int) ∧ kv = (i : Int) + 1 ∧ dz = d1) : zMetT V yL_turn cL_turn 5 [(0, 10, 13, 25), (0, 10, 17, 13)] [.ref (zad V 0), .int (zI x1), .int (zI x2), .ref (zad V 399)] d kv dz := by
  refine zMetT_by RL pnL rfl (Nat.le_of_ble_eq_true rfl) [some (.ref (zad V 0)), some (.int (zI x1)), some (.int (zI x2)), some (.ref (zad V 399)), none] rfl fun X C E => ?_
  refine zP_aload_n (pc := 0) C (x := zad V 399) dL_turn_0 rfl rfl ?_
  refine zP_iconst (pc := 1) C dL_turn_1 ?_
  refine zP_aload_n (pc := 2) C (x := zad V 0) dL_turn_2 rfl rfl ?_
  refine zP_iload_n (pc := 3) C (x := zI x1) dL_turn_3 rfl rfl ?_
  refine zP_iload_n (pc := 4) C (x := zI x2) dL_turn_4 rfl rfl ?_
  refine zP_callX (pc := 5) (As := [.int (zI x1), .int (zI x2)]) (st := [.int (zI 0), .ref (zad V 399)]) C E mvL_40 dL_turn_5 (s_X11 hT) (t_X11_turn hT hx1 hx2 h) ⟨Nat.le_of_ble_eq_true rfl, Nat.le_of_ble_eq_true rfl⟩ rfl (Nat.le_of_ble_eq_true rfl) (fun hr => ?_) (fun j hj hvj => ?_)
  · rcases hv with ⟨-, rfl, rfl⟩ | ⟨i, j, -, e, -⟩
    · refine zP_i2l (pc := 8) C dL_turn_8 ?_
      refine zP_last (pc := 9) (a := 399) (i := 0) C dL_turn_9 hO (zRk rfl) hr ⟨by decide, by decide⟩ ?_
      refine zP_goto (pc := 10) (tgt := 21) C dL_turn_10 rfl ?_
      refine zP_iconst (pc := 21) C dL_turn_21 ?_
      exact zP_iretT (pc := 22) C E ⟨Nat.le_of_ble_eq_true rfl, Nat.le_of_ble_eq_true rfl⟩ dL_turn_22 (zRk rfl) rfl rfl
    · exfalso
      obtain ⟨-, hr⟩ := hr
      omega
  · rcases hv with ⟨hr, -⟩ | ⟨i, j1, he, e, rfl, rfl⟩
    · exfalso
      obtain ⟨-, hr⟩ := hr
      omega
    · have ej : j1 = j := by omega
      subst ej
      match i, he with
      | 0, he =>
        have e1 : 1 = j1 := Option.some.inj (show some 1 = some j1 from he)
        subst e1
        refine ⟨[], ⟨0, 10, 13, 25⟩, [⟨0, 10, 17, 13⟩], rfl, fun z hz => ?_, rfl, by decide, clL_25, fun w => ?_⟩
        · cases hz
        · refine zP_astore (pc := 13) C (L' := [some (.ref (zad V 0)), some (.int (zI x1)), some (.int (zI x2)), some (.ref (zad V 399)), some (.ref w)]) dL_turn_13 (Nat.le_of_ble_eq_true rfl) rfl rfl ?_
          refine zP_iconst (pc := 15) C dL_turn_15 ?_
          exact zP_iretT (pc := 16) C E ⟨Nat.le_of_ble_eq_true rfl, Nat.le_of_ble_eq_true rfl⟩ dL_turn_16 (zRk rfl) rfl rfl
      | 1, he =>
        have e1 : 0 = j1 := Option.some.inj (show some 0 = some j1 from he)
        subst e1
        refine ⟨[⟨0, 10, 13, 25⟩], ⟨0, 10, 17, 13⟩, [], rfl, fun z hz => ?_, rfl, by decide, clL_13, fun w => ?_⟩
        · simp only [List.mem_cons, List.not_mem_nil, or_false] at hz
          subst hz
          exact ⟨by decide, 1, by decide, by decide, clL_25⟩
        · refine zP_astore (pc := 17) C (L' := [some (.ref (zad V 0)), some (.int (zI x1)), some (.int (zI x2)), some (.ref (zad V 399)), some (.ref w)]) dL_turn_17 (Nat.le_of_ble_eq_true rfl) rfl rfl ?_
          refine zP_iconst (pc := 19) C dL_turn_19 ?_
          exact zP_iretT (pc := 20) C E ⟨Nat.le_of_ble_eq_true rfl, Nat.le_of_ble_eq_true rfl⟩ dL_turn_20 (zRk rfl) rfl rfl
      | q + 2, he => cases (show (none : Option Nat) = some j1 from he)
theorem mvL_43 : zMV RL 43 RX11 yX11_deliveredIn cX11_deliveredIn 2 (some .int) 1 := ⟨(zin 1249 (by decide +kernel) (by decide +kernel)), (zin 1250 (by decide +kernel) (by decide +kernel)), (zin 1251 (by decide +kernel) (by decide +kernel)), (zin 112 (by decide +kernel) (by decide +kernel)), (zin 1252 (by decide +kernel) (by decide +kernel)), rfl, ⟨by decide +kernel, by decide +kernel⟩, by decide +kernel⟩
theorem tL_deliveredIn {V : zW} (hT : zo11 V) (hO : zsh V 399 = some (4, 1, zk0)) {x1 : Int} (hx1 : zR x1) {d d1 dz : zD} {v kv : Int} (h : f_X11_deliveredIn x1 d = some (v, d1)) (hv : (zR v ∧ kv = 0 ∧ dz = zu d1 399 0 v) ∨ ∃ i j : Nat, ([0] : List Nat)[i]? = some j ∧ v = 4294967296 + (j : Int) ∧ kv = (i : Int) + 1 ∧ dz = d1) : zMetT V yL_deliveredIn cL_deliveredIn 4 [(0, 9, 12, 13)] [.ref (zad V 0), .int (zI x1), .ref (zad V 399)] d kv dz := by
  refine zMetT_by RL pnL rfl (Nat.le_of_ble_eq_true rfl) [some (.ref (zad V 0)), some (.int (zI x1)), some (.ref (zad V 399)), none] rfl fun X C E => ?_
  refine zP_aload_n (pc := 0) C (x := zad V 399) dL_deliveredIn_0 rfl rfl ?_
  refine zP_iconst (pc := 1) C dL_deliveredIn_1 ?_
  refine zP_aload_n (pc := 2) C (x := zad V 0) dL_deliveredIn_2 rfl rfl ?_
  refine zP_iload_n (pc := 3) C (x := zI x1) dL_deliveredIn_3 rfl rfl ?_
  refine zP_callX (pc := 4) (As := [.int (zI x1)]) (st := [.int (zI 0), .ref (zad V 399)]) C E mvL_43 dL_deliveredIn_4 (s_X11 hT) (t_X11_deliveredIn hT hx1 h) ⟨Nat.le_of_ble_eq_true rfl, Nat.le_of_ble_eq_true rfl⟩ rfl (Nat.le_of_ble_eq_true rfl) (fun hr => ?_) (fun j hj hvj => ?_)
  · rcases hv with ⟨-, rfl, rfl⟩ | ⟨i, j, -, e, -⟩
    · refine zP_i2l (pc := 7) C dL_deliveredIn_7 ?_
      refine zP_last (pc := 8) (a := 399) (i := 0) C dL_deliveredIn_8 hO (zRk rfl) hr ⟨by decide, by decide⟩ ?_
      refine zP_goto (pc := 9) (tgt := 15) C dL_deliveredIn_9 rfl ?_
      refine zP_iconst (pc := 15) C dL_deliveredIn_15 ?_
      exact zP_iretT (pc := 16) C E ⟨Nat.le_of_ble_eq_true rfl, Nat.le_of_ble_eq_true rfl⟩ dL_deliveredIn_16 (zRk rfl) rfl rfl
    · exfalso
      obtain ⟨-, hr⟩ := hr
      omega
  · rcases hv with ⟨hr, -⟩ | ⟨i, j1, he, e, rfl, rfl⟩
    · exfalso
      obtain ⟨-, hr⟩ := hr
      omega
    · have ej : j1 = j := by omega
      subst ej
      match i, he with
      | 0, he =>
        have e1 : 0 = j1 := Option.some.inj (show some 0 = some j1 from he)
        subst e1
        refine ⟨[], ⟨0, 9, 12, 13⟩, [], rfl, fun z hz => ?_, rfl, by decide, clL_13, fun w => ?_⟩
        · cases hz
        · refine zP_astore_n (pc := 12) C (L' := [some (.ref (zad V 0)), some (.int (zI x1)), some (.ref (zad V 399)), some (.ref w)]) dL_deliveredIn_12 rfl (Nat.le_of_ble_eq_true rfl) rfl rfl ?_
          refine zP_iconst (pc := 13) C dL_deliveredIn_13 ?_
          exact zP_iretT (pc := 14) C E ⟨Nat.le_of_ble_eq_true rfl, Nat.le_of_ble_eq_true rfl⟩ dL_deliveredIn_14 (zRk rfl) rfl rfl
      | q + 1, he => cases (show (none : Option Nat) = some j1 from he)
theorem mvL_46 : zMV RL 46 RX11 yX11_timeIn cX11_timeIn 2 (some .int) 1 := ⟨(zin 1256 (by decide +kernel) (by decide +kernel)), (zin 1257 (by decide +kernel) (by decide +kernel)), (zin 1258 (by decide +kernel) (by decide +kernel)), (zin 112 (by decide +kernel) (by decide +kernel)), (zin 1259 (by decide +kernel) (by decide +kernel)), rfl, ⟨by decide +kernel, by decide +kernel⟩, by decide +kernel⟩
theorem tL_timeIn {V : zW} (hT : zo11 V) (hO : zsh V 399 = some (4, 1, zk0)) {x1 : Int} (hx1 : zR x1) {d d1 dz : zD} {v kv : Int} (h : f_X11_timeIn x1 d = some (v, d1)) (hv : (zR v ∧ kv = 0 ∧ dz = zu d1 399 0 v) ∨ ∃ i j : Nat, ([0] : List Nat)[i]? = some j ∧ v = 4294967296 + (j : Int) ∧ kv = (i : Int) + 1 ∧ dz = d1) : zMetT V yL_timeIn cL_timeIn 4 [(0, 9, 12, 13)] [.ref (zad V 0), .int (zI x1), .ref (zad V 399)] d kv dz := by
  refine zMetT_by RL pnL rfl (Nat.le_of_ble_eq_true rfl) [some (.ref (zad V 0)), some (.int (zI x1)), some (.ref (zad V 399)), none] rfl fun X C E => ?_
  refine zP_aload_n (pc := 0) C (x := zad V 399) dL_timeIn_0 rfl rfl ?_
  refine zP_iconst (pc := 1) C dL_timeIn_1 ?_
  refine zP_aload_n (pc := 2) C (x := zad V 0) dL_timeIn_2 rfl rfl ?_
  refine zP_iload_n (pc := 3) C (x := zI x1) dL_timeIn_3 rfl rfl ?_
  refine zP_callX (pc := 4) (As := [.int (zI x1)]) (st := [.int (zI 0), .ref (zad V 399)]) C E mvL_46 dL_timeIn_4 (s_X11 hT) (t_X11_timeIn hT hx1 h) ⟨Nat.le_of_ble_eq_true rfl, Nat.le_of_ble_eq_true rfl⟩ rfl (Nat.le_of_ble_eq_true rfl) (fun hr => ?_) (fun j hj hvj => ?_)
  · rcases hv with ⟨-, rfl, rfl⟩ | ⟨i, j, -, e, -⟩
    · refine zP_i2l (pc := 7) C dL_timeIn_7 ?_
      refine zP_last (pc := 8) (a := 399) (i := 0) C dL_timeIn_8 hO (zRk rfl) hr ⟨by decide, by decide⟩ ?_
      refine zP_goto (pc := 9) (tgt := 15) C dL_timeIn_9 rfl ?_
      refine zP_iconst (pc := 15) C dL_timeIn_15 ?_
      exact zP_iretT (pc := 16) C E ⟨Nat.le_of_ble_eq_true rfl, Nat.le_of_ble_eq_true rfl⟩ dL_timeIn_16 (zRk rfl) rfl rfl
    · exfalso
      obtain ⟨-, hr⟩ := hr
      omega
  · rcases hv with ⟨hr, -⟩ | ⟨i, j1, he, e, rfl, rfl⟩
    · exfalso
      obtain ⟨-, hr⟩ := hr
      omega
    · have ej : j1 = j := by omega
      subst ej
      match i, he with
      | 0, he =>
        have e1 : 0 = j1 := Option.some.inj (show some 0 = some j1 from he)
        subst e1
        refine ⟨[], ⟨0, 9, 12, 13⟩, [], rfl, fun z hz => ?_, rfl, by decide, clL_13, fun w => ?_⟩
        · cases hz
        · refine zP_astore_n (pc := 12) C (L' := [some (.ref (zad V 0)), some (.int (zI x1)), some (.ref (zad V 399)), some (.ref w)]) dL_timeIn_12 rfl (Nat.le_of_ble_eq_true rfl) rfl rfl ?_
          refine zP_iconst (pc := 13) C dL_timeIn_13 ?_
          exact zP_iretT (pc := 14) C E ⟨Nat.le_of_ble_eq_true rfl, Nat.le_of_ble_eq_true rfl⟩ dL_timeIn_14 (zRk rfl) rfl rfl
      | q + 1, he => cases (show (none : Option Nat) = some j1 from he)
theorem mvL_49 : zMV RL 49 RX11 yX11_deliversIn cX11_deliversIn 3 (some .int) 1 := ⟨(zin 1263 (by decide +kernel) (by decide +kernel)), (zin 1264 (by decide +kernel) (by decide +kernel)), (zin 1265 (by decide +kernel) (by decide +kernel)), (zin 112 (by decide +kernel) (by decide +kernel)), (zin 1266 (by decide +kernel) (by decide +kernel)), rfl, ⟨by decide +kernel, by decide +kernel⟩, by decide +kernel⟩
theorem tL_deliversIn {V : zW} (hT : zo11 V) (hO : zsh V 399 = some (4, 1, zk0)) {x1 : Int} (hx1 : zR x1) {d d1 dz : zD} {v kv : Int} (h : f_X11_deliversIn x1 d = some (v, d1)) (hv : (zR v ∧ kv = 0 ∧ dz = zu d1 399 0 v) ∨ ∃ i j : Nat, ([1] : List Nat)[i]? = some j ∧ v = 4294967296 + (j : Int) ∧ kv = (i : Int) + 1 ∧ dz = d1) : zMetT V yL_deliversIn cL_deliversIn 4 [(0, 9, 12, 25)] [.ref (zad V 0), .int (zI x1), .ref (zad V 399)] d kv dz := by
  refine zMetT_by RL pnL rfl (Nat.le_of_ble_eq_true rfl) [some (.ref (zad V 0)), some (.int (zI x1)), some (.ref (zad V 399)), none] rfl fun X C E => ?_
  refine zP_aload_n (pc := 0) C (x := zad V 399) dL_deliversIn_0 rfl rfl ?_
  refine zP_iconst (pc := 1) C dL_deliversIn_1 ?_
  refine zP_aload_n (pc := 2) C (x := zad V 0) dL_deliversIn_2 rfl rfl ?_
  refine zP_iload_n (pc := 3) C (x := zI x1) dL_deliversIn_3 rfl rfl ?_
  refine zP_callX (pc := 4) (As := [.int (zI x1)]) (st := [.int (zI 0), .ref (zad V 399)]) C E mvL_49 dL_deliversIn_4 (s_X11 hT) (t_X11_deliversIn hT hx1 h) ⟨Nat.le_of_ble_eq_true rfl, Nat.le_of_ble_eq_true rfl⟩ rfl (Nat.le_of_ble_eq_true rfl) (fun hr => ?_) (fun j hj hvj => ?_)
  · rcases hv with ⟨-, rfl, rfl⟩ | ⟨i, j, -, e, -⟩
    · refine zP_i2l (pc := 7) C dL_deliversIn_7 ?_
      refine zP_last (pc := 8) (a := 399) (i := 0) C dL_deliversIn_8 hO (zRk rfl) hr ⟨by decide, by decide⟩ ?_
      refine zP_goto (pc := 9) (tgt := 15) C dL_deliversIn_9 rfl ?_
      refine zP_iconst (pc := 15) C dL_deliversIn_15 ?_
      exact zP_iretT (pc := 16) C E ⟨Nat.le_of_ble_eq_true rfl, Nat.le_of_ble_eq_true rfl⟩ dL_deliversIn_16 (zRk rfl) rfl rfl
    · exfalso
      obtain ⟨-, hr⟩ := hr
      omega
  · rcases hv with ⟨hr, -⟩ | ⟨i, j1, he, e, rfl, rfl⟩
    · exfalso
      obtain ⟨-, hr⟩ := hr
      omega
    · have ej : j1 = j := by omega
      subst ej
      match i, he with
      | 0, he =>
        have e1 : 1 = j1 := Option.some.inj (show some 1 = some j1 from he)
        subst e1
        refine ⟨[], ⟨0, 9, 12, 25⟩, [], rfl, fun z hz => ?_, rfl, by decide, clL_25, fun w => ?_⟩
        · cases hz
        · refine zP_astore_n (pc := 12) C (L' := [some (.ref (zad V 0)), some (.int (zI x1)), some (.ref (zad V 399)), some (.ref w)]) dL_deliversIn_12 rfl (Nat.le_of_ble_eq_true rfl) rfl rfl ?_
          refine zP_iconst (pc := 13) C dL_deliversIn_13 ?_
          exact zP_iretT (pc := 14) C E ⟨Nat.le_of_ble_eq_true rfl, Nat.le_of_ble_eq_true rfl⟩ dL_deliversIn_14 (zRk rfl) rfl rfl
      | q + 1, he => cases (show (none : Option Nat) = some j1 from he)
theorem mvL_52 : zMV RL 52 RX11 yX11_switchesIn cX11_switchesIn 3 (some .int) 1 := ⟨(zin 1270 (by decide +kernel) (by decide +kernel)), (zin 1271 (by decide +kernel) (by decide +kernel)), (zin 1272 (by decide +kernel) (by decide +kernel)), (zin 112 (by decide +kernel) (by decide +kernel)), (zin 1273 (by decide +kernel) (by decide +kernel)), rfl, ⟨by decide +kernel, by decide +kernel⟩, by decide +kernel⟩
theorem tL_switchesIn {V : zW} (hT : zo11 V) (hO : zsh V 399 = some (4, 1, zk0)) {x1 : Int} (hx1 : zR x1) {d d1 dz : zD} {v kv : Int} (h : f_X11_switchesIn x1 d = some (v, d1)) (hv : (zR v ∧ kv = 0 ∧ dz = zu d1 399 0 v) ∨ ∃ i j : Nat, ([1] : List Nat)[i]? = some j ∧ v = 4294967296 + (j : Int) ∧ kv = (i : Int) + 1 ∧ dz = d1) : zMetT V yL_switchesIn cL_switchesIn 4 [(0, 9, 12, 25)] [.ref (zad V 0), .int (zI x1), .ref (zad V 399)] d kv dz := by
  refine zMetT_by RL pnL rfl (Nat.le_of_ble_eq_true rfl) [some (.ref (zad V 0)), some (.int (zI x1)), some (.ref (zad V 399)), none] rfl fun X C E => ?_
  refine zP_aload_n (pc := 0) C (x := zad V 399) dL_switchesIn_0 rfl rfl ?_
  refine zP_iconst (pc := 1) C dL_switchesIn_1 ?_
  refine zP_aload_n (pc := 2) C (x := zad V 0) dL_switchesIn_2 rfl rfl ?_
  refine zP_iload_n (pc := 3) C (x := zI x1) dL_switchesIn_3 rfl rfl ?_
  refine zP_callX (pc := 4) (As := [.int (zI x1)]) (st := [.int (zI 0), .ref (zad V 399)]) C E mvL_52 dL_switchesIn_4 (s_X11 hT) (t_X11_switchesIn hT hx1 h) ⟨Nat.le_of_ble_eq_true rfl, Nat.le_of_ble_eq_true rfl⟩ rfl (Nat.le_of_ble_eq_true rfl) (fun hr => ?_) (fun j hj hvj => ?_)
  · rcases hv with ⟨-, rfl, rfl⟩ | ⟨i, j, -, e, -⟩
    · refine zP_i2l (pc := 7) C dL_switchesIn_7 ?_
      refine zP_last (pc := 8) (a := 399) (i := 0) C dL_switchesIn_8 hO (zRk rfl) hr ⟨by decide, by decide⟩ ?_
      refine zP_goto (pc := 9) (tgt := 15) C dL_switchesIn_9 rfl ?_
      refine zP_iconst (pc := 15) C dL_switchesIn_15 ?_
      exact zP_iretT (pc := 16) C E ⟨Nat.le_of_ble_eq_true rfl, Nat.le_of_ble_eq_true rfl⟩ dL_switchesIn_16 (zRk rfl) rfl rfl
    · exfalso
      obtain ⟨-, hr⟩ := hr
      omega
  · rcases hv with ⟨hr, -⟩ | ⟨i, j1, he, e, rfl, rfl⟩
    · exfalso
      obtain ⟨-, hr⟩ := hr
      omega
    · have ej : j1 = j := by omega
      subst ej
      match i, he with
      | 0, he =>
        have e1 : 1 = j1 := Option.some.inj (show some 1 = some j1 from he)
        subst e1
        refine ⟨[], ⟨0, 9, 12, 25⟩, [], rfl, fun z hz => ?_, rfl, by decide, clL_25, fun w => ?_⟩
        · cases hz
        · refine zP_astore_n (pc := 12) C (L' := [some (.ref (zad V 0)), some (.int (zI x1)), some (.ref (zad V 399)), some (.ref w)]) dL_switchesIn_12 rfl (Nat.le_of_ble_eq_true rfl) rfl rfl ?_
          refine zP_iconst (pc := 13) C dL_switchesIn_13 ?_
          exact zP_iretT (pc := 14) C E ⟨Nat.le_of_ble_eq_true rfl, Nat.le_of_ble_eq_true rfl⟩ dL_switchesIn_14 (zRk rfl) rfl rfl
      | q + 1, he => cases (show (none : Option Nat) = some j1 from he)
theorem mvL_55 : zMV RL 55 RX11 yX11_bestTries cX11_bestTries 6 (some .int) 1 := ⟨(zin 1277 (by decide +kernel) (by decide +kernel)), (zin 1278 (by decide +kernel) (by decide +kernel)), (zin 1279 (by decide +kernel) (by decide +kernel)), (zin 112 (by decide +kernel) (by decide +kernel)), (zin 1280 (by decide +kernel) (by decide +kernel)), rfl, ⟨by decide +kernel, by decide +kernel⟩, by decide +kernel⟩
theorem tL_bestTries {V : zW} (hT : zo11 V) (hO : zsh V 399 = some (4, 1, zk0)) {x1 : Int} (hx1 : zR x1) {d d1 dz : zD} {v kv : Int} (h : f_X11_bestTries x1 d = some (v, d1)) (hv : (zR v ∧ kv = 0 ∧ dz = zu d1 399 0 v) ∨ ∃ i j : Nat, ([0] : List Nat)[i]? = some j ∧ v = 4294967296 + (j : Int) ∧ kv = (i : Int) + 1 ∧ dz = d1) : zMetT V yL_bestTries cL_bestTries 4 [(0, 9, 12, 13)] [.ref (zad V 0), .int (zI x1), .ref (zad V 399)] d kv dz := by
  refine zMetT_by RL pnL rfl (Nat.le_of_ble_eq_true rfl) [some (.ref (zad V 0)), some (.int (zI x1)), some (.ref (zad V 399)), none] rfl fun X C E => ?_
  refine zP_aload_n (pc := 0) C (x := zad V 399) dL_bestTries_0 rfl rfl ?_
  refine zP_iconst (pc := 1) C dL_bestTries_1 ?_
  refine zP_aload_n (pc := 2) C (x := zad V 0) dL_bestTries_2 rfl rfl ?_
  refine zP_iload_n (pc := 3) C (x := zI x1) dL_bestTries_3 rfl rfl ?_
  refine zP_callX (pc := 4) (As := [.int (zI x1)]) (st := [.int (zI 0), .ref (zad V 399)]) C E mvL_55 dL_bestTries_4 (s_X11 hT) (t_X11_bestTries hT hx1 h) ⟨Nat.le_of_ble_eq_true rfl, Nat.le_of_ble_eq_true rfl⟩ rfl (Nat.le_of_ble_eq_true rfl) (fun hr => ?_) (fun j hj hvj => ?_)
  · rcases hv with ⟨-, rfl, rfl⟩ | ⟨i, j, -, e, -⟩
    · refine zP_i2l (pc := 7) C dL_bestTries_7 ?_
      refine zP_last (pc := 8) (a := 399) (i := 0) C dL_bestTries_8 hO (zRk rfl) hr ⟨by decide, by decide⟩ ?_
      refine zP_goto (pc := 9) (tgt := 15) C dL_bestTries_9 rfl ?_
      refine zP_iconst (pc := 15) C dL_bestTries_15 ?_
      exact zP_iretT (pc := 16) C E ⟨Nat.le_of_ble_eq_true rfl, Nat.le_of_ble_eq_true rfl⟩ dL_bestTries_16 (zRk rfl) rfl rfl
    · exfalso
      obtain ⟨-, hr⟩ := hr
      omega
  · rcases hv with ⟨hr, -⟩ | ⟨i, j1, he, e, rfl, rfl⟩
    · exfalso
      obtain ⟨-, hr⟩ := hr
      omega
    · have ej : j1 = j := by omega
      subst ej
      match i, he with
      | 0, he =>
        have e1 : 0 = j1 := Option.some.inj (show some 0 = some j1 from he)
        subst e1
        refine ⟨[], ⟨0, 9, 12, 13⟩, [], rfl, fun z hz => ?_, rfl, by decide, clL_13, fun w => ?_⟩
        · cases hz
        · refine zP_astore_n (pc := 12) C (L' := [some (.ref (zad V 0)), some (.int (zI x1)), some (.ref (zad V 399)), some (.ref w)]) dL_bestTries_12 rfl (Nat.le_of_ble_eq_true rfl) rfl rfl ?_
          refine zP_iconst (pc := 13) C dL_bestTries_13 ?_
          exact zP_iretT (pc := 14) C E ⟨Nat.le_of_ble_eq_true rfl, Nat.le_of_ble_eq_true rfl⟩ dL_bestTries_14 (zRk rfl) rfl rfl
      | q + 1, he => cases (show (none : Option Nat) = some j1 from he)
theorem mvL_58 : zMV RL 58 RX11 yX11_lostByNoise cX11_lostByNoise 2 (some .int) 1 := ⟨(zin 1290 (by decide +kernel) (by decide +kernel)), (zin 1291 (by decide +kernel) (by decide +kernel)), (zin 1292 (by decide +kernel) (by decide +kernel)), (zin 112 (by decide +kernel) (by decide +kernel)), (zin 1293 (by decide +kernel) (by decide +kernel)), rfl, ⟨by decide +kernel, by decide +kernel⟩, by decide +kernel⟩
theorem tL_lostByNoise {V : zW} (hT : zo11 V) (hO : zsh V 399 = some (4, 1, zk0)) {x1 : Int} (hx1 : zR x1) {d d1 dz : zD} {v kv : Int} (h : f_X11_lostByNoise x1 d = some (v, d1)) (hv : (zR v ∧ kv = 0 ∧ dz = zu d1 399 0 v) ∨ ∃ i j : Nat, ([0] : List Nat)[i]? = some j ∧ v = 4294967296 + (j : Int) ∧ kv = (i : Int) + 1 ∧ dz = d1) : zMetT V yL_lostByNoise cL_lostByNoise 4 [(0, 9, 12, 13)] [.ref (zad V 0), .int (zI x1), .ref (zad V 399)] d kv dz := by
  refine zMetT_by RL pnL rfl (Nat.le_of_ble_eq_true rfl) [some (.ref (zad V 0)), some (.int (zI x1)), some (.ref (zad V 399)), none] rfl fun X C E => ?_
  refine zP_aload_n (pc := 0) C (x := zad V 399) dL_lostByNoise_0 rfl rfl ?_
  refine zP_iconst (pc := 1) C dL_lostByNoise_1 ?_
  refine zP_aload_n (pc := 2) C (x := zad V 0) dL_lostByNoise_2 rfl rfl ?_
  refine zP_iload_n (pc := 3) C (x := zI x1) dL_lostByNoise_3 rfl rfl ?_
  refine zP_callX (pc := 4) (As := [.int (zI x1)]) (st := [.int (zI 0), .ref (zad V 399)]) C E mvL_58 dL_lostByNoise_4 (s_X11 hT) (t_X11_lostByNoise hT hx1 h) ⟨Nat.le_of_ble_eq_true rfl, Nat.le_of_ble_eq_true rfl⟩ rfl (Nat.le_of_ble_eq_true rfl) (fun hr => ?_) (fun j hj hvj => ?_)
  · rcases hv with ⟨-, rfl, rfl⟩ | ⟨i, j, -, e, -⟩
    · refine zP_i2l (pc := 7) C dL_lostByNoise_7 ?_
      refine zP_last (pc := 8) (a := 399) (i := 0) C dL_lostByNoise_8 hO (zRk rfl) hr ⟨by decide, by decide⟩ ?_
      refine zP_goto (pc := 9) (tgt := 15) C dL_lostByNoise_9 rfl ?_
      refine zP_iconst (pc := 15) C dL_lostByNoise_15 ?_
      exact zP_iretT (pc := 16) C E ⟨Nat.le_of_ble_eq_true rfl, Nat.le_of_ble_eq_true rfl⟩ dL_lostByNoise_16 (zRk rfl) rfl rfl
    · exfalso
      obtain ⟨-, hr⟩ := hr
      omega
  · rcases hv with ⟨hr, -⟩ | ⟨i, j1, he, e, rfl, rfl⟩
    · exfalso
      obtain ⟨-, hr⟩ := hr
      omega
    · have ej : j1 = j := by omega
      subst ej
      match i, he with
      | 0, he =>
        have e1 : 0 = j1 := Option.some.inj (show some 0 = some j1 from he)
        subst e1
        refine ⟨[], ⟨0, 9, 12, 13⟩, [], rfl, fun z hz => ?_, rfl, by decide, clL_13, fun w => ?_⟩
        · cases hz
        · refine zP_astore_n (pc := 12) C (L' := [some (.ref (zad V 0)), some (.int (zI x1)), some (.ref (zad V 399)), some (.ref w)]) dL_lostByNoise_12 rfl (Nat.le_of_ble_eq_true rfl) rfl rfl ?_
          refine zP_iconst (pc := 13) C dL_lostByNoise_13 ?_
          exact zP_iretT (pc := 14) C E ⟨Nat.le_of_ble_eq_true rfl, Nat.le_of_ble_eq_true rfl⟩ dL_lostByNoise_14 (zRk rfl) rfl rfl
      | q + 1, he => cases (show (none : Option Nat) = some j1 from he)
theorem mvL_61 : zMV RL 61 RX11 yX11_often cX11_often 3 (some .int) 2 := ⟨(zin 1297 (by decide +kernel) (by decide +kernel)), (zin 1298 (by decide +kernel) (by decide +kernel)), (zin 1299 (by decide +kernel) (by decide +kernel)), (zin 112 (by decide +kernel) (by decide +kernel)), (zin 1300 (by decide +kernel) (by decide +kernel)), rfl, ⟨by decide +kernel, by decide +kernel⟩, by decide +kernel⟩
theorem tL_often {V : zW} (hT : zo11 V) (hO : zsh V 399 = some (4, 1, zk0)) {x1 x2 : Int} (hx1 : zR x1) (hx2 : zR x2) {d d1 dz : zD} {v kv : Int} (h : f_X11_often x1 x2 d = some (v, d1)) (hv : (zR v ∧ kv = 0 ∧ dz = zu d1 399 0 v) ∨ ∃ i j : Nat, ([1, 0] : List Nat)[i]? = some j ∧ v = 4294967296 + (j : Int) ∧ kv = (i : Int) + 1 ∧ dz = d1) : zMetT V yL_often cL_often 5 [(0, 10, 13, 25), (0, 10, 17, 13)] [.ref (zad V 0), .int (zI x1), .int (zI x2), .ref (zad V 399)] d kv dz := by
  refine zMetT_by RL pnL rfl (Nat.le_of_ble_eq_true rfl) [some (.ref (zad V 0)), some (.int (zI x1)), some (.int (zI x2)), some (.ref (zad V 399)), none] rfl fun X C E => ?_
  refine zP_aload_n (pc := 0) C (x := zad V 399) dL_often_0 rfl rfl ?_
  refine zP_iconst (pc := 1) C dL_often_1 ?_
  refine zP_aload_n (pc := 2) C (x := zad V 0) dL_often_2 rfl rfl ?_
  refine zP_iload_n (pc := 3) C (x := zI x1) dL_often_3 rfl rfl ?_
  refine zP_iload_n (pc := 4) C (x := zI x2) dL_often_4 rfl rfl ?_
  refine zP_callX (pc := 5) (As := [.int (zI x1), .int (zI x2)]) (st := [.int (zI 0), .ref (zad V 399)]) C E mvL_61 dL_often_5 (s_X11 hT) (t_X11_often hT hx1 hx2 h) ⟨Nat.le_of_ble_eq_true rfl, Nat.le_of_ble_eq_true rfl⟩ rfl (Nat.le_of_ble_eq_true rfl) (fun hr => ?_) (fun j hj hvj => ?_)
  · rcases hv with ⟨-, rfl, rfl⟩ | ⟨i, j, -, e, -⟩
    · refine zP_i2l (pc := 8) C dL_often_8 ?_
      refine zP_last (pc := 9) (a := 399) (i := 0) C dL_often_9 hO (zRk rfl) hr ⟨by decide, by decide⟩ ?_
      refine zP_goto (pc := 10) (tgt := 21) C dL_often_10 rfl ?_
      refine zP_iconst (pc := 21) C dL_often_21 ?_
      exact zP_iretT (pc := 22) C E ⟨Nat.le_of_ble_eq_true rfl, Nat.le_of_ble_eq_true rfl⟩ dL_often_22 (zRk rfl) rfl rfl
    · exfalso
      obtain ⟨-, hr⟩ := hr
      omega
  · rcases hv with ⟨hr, -⟩ | ⟨i, j1, he, e, rfl, rfl⟩
    · exfalso
      obtain ⟨-, hr⟩ := hr
      omega
    · have ej : j1 = j := by omega
      subst ej
      match i, he with
      | 0, he =>
        have e1 : 1 = j1 := Option.some.inj (show some 1 = some j1 from he)
        subst e1
        refine ⟨[], ⟨0, 10, 13, 25⟩, [⟨0, 10, 17, 13⟩], rfl, fun z hz => ?_, rfl, by decide, clL_25, fun w => ?_⟩
        · cases hz
        · refine zP_astore (pc := 13) C (L' := [some (.ref (zad V 0)), some (.int (zI x1)), some (.int (zI x2)), some (.ref (zad V 399)), some (.ref w)]) dL_often_13 (Nat.le_of_ble_eq_true rfl) rfl rfl ?_
          refine zP_iconst (pc := 15) C dL_often_15 ?_
          exact zP_iretT (pc := 16) C E ⟨Nat.le_of_ble_eq_true rfl, Nat.le_of_ble_eq_true rfl⟩ dL_often_16 (zRk rfl) rfl rfl
      | 1, he =>
        have e1 : 0 = j1 := Option.some.inj (show some 0 = some j1 from he)
        subst e1
        refine ⟨[⟨0, 10, 13, 25⟩], ⟨0, 10, 17, 13⟩, [], rfl, fun z hz => ?_, rfl, by decide, clL_13, fun w => ?_⟩
        · simp only [List.mem_cons, List.not_mem_nil, or_false] at hz
          subst hz
          exact ⟨by decide, 1, by decide, by decide, clL_25⟩
        · refine zP_astore (pc := 17) C (L' := [some (.ref (zad V 0)), some (.int (zI x1)), some (.int (zI x2)), some (.ref (zad V 399)), some (.ref w)]) dL_often_17 (Nat.le_of_ble_eq_true rfl) rfl rfl ?_
          refine zP_iconst (pc := 19) C dL_often_19 ?_
          exact zP_iretT (pc := 20) C E ⟨Nat.le_of_ble_eq_true rfl, Nat.le_of_ble_eq_true rfl⟩ dL_often_20 (zRk rfl) rfl rfl
      | q + 2, he => cases (show (none : Option Nat) = some j1 from he)
theorem mvL_64 : zMV RL 64 RX11 yX11_post cX11_post 4 (some .int) 3 := ⟨(zin 1305 (by decide +kernel) (by decide +kernel)), (zin 1306 (by decide +kernel) (by decide +kernel)), (zin 1307 (by decide +kernel) (by decide +kernel)), (zin 112 (by decide +kernel) (by decide +kernel)), (zin 1308 (by decide +kernel) (by decide +kernel)), rfl, ⟨by decide +kernel, by decide +kernel⟩, by decide +kernel⟩
theorem tL_post {V : zW} (hT : zo11 V) (hO : zsh V 399 = some (4, 1, zk0)) {x1 x2 x3 : Int} (hx1 : zR x1) (hx2 : zR x2) (hx3 : zR x3) {d d1 dz : zD} {v kv : Int} (h : f_X11_post x1 x2 x3 d = some (v, d1)) (hv : (zR v ∧ kv = 0 ∧ dz = zu d1 399 0 v) ∨ ∃ i j : Nat, ([1, 0, 2] : List Nat)[i]? = some j ∧ v = 4294967296 + (j : Int) ∧ kv = (i : Int) + 1 ∧ dz = d1) : zMetT V yL_post cL_post 6 [(0, 12, 15, 25), (0, 12, 19, 13), (0, 12, 23, 67)] [.ref (zad V 0), .int (zI x1), .int (zI x2), .int (zI x3), .ref (zad V 399)] d kv dz := by
  refine zMetT_by RL pnL rfl (Nat.le_of_ble_eq_true rfl) [some (.ref (zad V 0)), some (.int (zI x1)), some (.int (zI x2)), some (.int (zI x3)), some (.ref (zad V 399)), none] rfl fun X C E => ?_
  refine zP_aload (pc := 0) C (x := zad V 399) dL_post_0 rfl ?_
  refine zP_iconst (pc := 2) C dL_post_2 ?_
  refine zP_aload_n (pc := 3) C (x := zad V 0) dL_post_3 rfl rfl ?_
  refine zP_iload_n (pc := 4) C (x := zI x1) dL_post_4 rfl rfl ?_
  refine zP_iload_n (pc := 5) C (x := zI x2) dL_post_5 rfl rfl ?_
  refine zP_iload_n (pc := 6) C (x := zI x3) dL_post_6 rfl rfl ?_
  refine zP_callX (pc := 7) (As := [.int (zI x1), .int (zI x2), .int (zI x3)]) (st := [.int (zI 0), .ref (zad V 399)]) C E mvL_64 dL_post_7 (s_X11 hT) (t_X11_post hT hx1 hx2 hx3 h) ⟨Nat.le_of_ble_eq_true rfl, Nat.le_of_ble_eq_true rfl⟩ rfl (Nat.le_of_ble_eq_true rfl) (fun hr => ?_) (fun j hj hvj => ?_)
  · rcases hv with ⟨-, rfl, rfl⟩ | ⟨i, j, -, e, -⟩
    · refine zP_i2l (pc := 10) C dL_post_10 ?_
      refine zP_last (pc := 11) (a := 399) (i := 0) C dL_post_11 hO (zRk rfl) hr ⟨by decide, by decide⟩ ?_
      refine zP_goto (pc := 12) (tgt := 27) C dL_post_12 rfl ?_
      refine zP_iconst (pc := 27) C dL_post_27 ?_
      exact zP_iretT (pc := 28) C E ⟨Nat.le_of_ble_eq_true rfl, Nat.le_of_ble_eq_true rfl⟩ dL_post_28 (zRk rfl) rfl rfl
    · exfalso
      obtain ⟨-, hr⟩ := hr
      omega
  · rcases hv with ⟨hr, -⟩ | ⟨i, j1, he, e, rfl, rfl⟩
    · exfalso
      obtain ⟨-, hr⟩ := hr
      omega
    · have ej : j1 = j := by omega
      subst ej
      match i, he with
      | 0, he =>
        have e1 : 1 = j1 := Option.some.inj (show some 1 = some j1 from he)
        subst e1
        refine ⟨[], ⟨0, 12, 15, 25⟩, [⟨0, 12, 19, 13⟩, ⟨0, 12, 23, 67⟩], rfl, fun z hz => ?_, rfl, by decide, clL_25, fun w => ?_⟩
        · cases hz
        · refine zP_astore (pc := 15) C (L' := [some (.ref (zad V 0)), some (.int (zI x1)), some (.int (zI x2)), some (.int (zI x3)), some (.ref (zad V 399)), some (.ref w)]) dL_post_15 (Nat.le_of_ble_eq_true rfl) rfl rfl ?_
          refine zP_iconst (pc := 17) C dL_post_17 ?_
          exact zP_iretT (pc := 18) C E ⟨Nat.le_of_ble_eq_true rfl, Nat.le_of_ble_eq_true rfl⟩ dL_post_18 (zRk rfl) rfl rfl
      | 1, he =>
        have e1 : 0 = j1 := Option.some.inj (show some 0 = some j1 from he)
        subst e1
        refine ⟨[⟨0, 12, 15, 25⟩], ⟨0, 12, 19, 13⟩, [⟨0, 12, 23, 67⟩], rfl, fun z hz => ?_, rfl, by decide, clL_13, fun w => ?_⟩
        · simp only [List.mem_cons, List.not_mem_nil, or_false] at hz
          subst hz
          exact ⟨by decide, 1, by decide, by decide, clL_25⟩
        · refine zP_astore (pc := 19) C (L' := [some (.ref (zad V 0)), some (.int (zI x1)), some (.int (zI x2)), some (.int (zI x3)), some (.ref (zad V 399)), some (.ref w)]) dL_post_19 (Nat.le_of_ble_eq_true rfl) rfl rfl ?_
          refine zP_iconst (pc := 21) C dL_post_21 ?_
          exact zP_iretT (pc := 22) C E ⟨Nat.le_of_ble_eq_true rfl, Nat.le_of_ble_eq_true rfl⟩ dL_post_22 (zRk rfl) rfl rfl
      | 2, he =>
        have e1 : 2 = j1 := Option.some.inj (show some 2 = some j1 from he)
        subst e1
        refine ⟨[⟨0, 12, 15, 25⟩, ⟨0, 12, 19, 13⟩], ⟨0, 12, 23, 67⟩, [], rfl, fun z hz => ?_, rfl, by decide, clL_67, fun w => ?_⟩
        · simp only [List.mem_cons, List.not_mem_nil, or_false] at hz
          rcases hz with rfl | rfl
          · exact ⟨by decide, 1, by decide, by decide, clL_25⟩
          · exact ⟨by decide, 0, by decide, by decide, clL_13⟩
        · refine zP_astore (pc := 23) C (L' := [some (.ref (zad V 0)), some (.int (zI x1)), some (.int (zI x2)), some (.int (zI x3)), some (.ref (zad V 399)), some (.ref w)]) dL_post_23 (Nat.le_of_ble_eq_true rfl) rfl rfl ?_
          refine zP_iconst (pc := 25) C dL_post_25 ?_
          exact zP_iretT (pc := 26) C E ⟨Nat.le_of_ble_eq_true rfl, Nat.le_of_ble_eq_true rfl⟩ dL_post_26 (zRk rfl) rfl rfl
      | q + 3, he => cases (show (none : Option Nat) = some j1 from he)
theorem mvL_69 : zMV RL 69 RX11 yX11_kill cX11_kill 2 (some .int) 1 := ⟨(zin 1331 (by decide +kernel) (by decide +kernel)), (zin 1332 (by decide +kernel) (by decide +kernel)), (zin 1333 (by decide +kernel) (by decide +kernel)), (zin 112 (by decide +kernel) (by decide +kernel)), (zin 1334 (by decide +kernel) (by decide +kernel)), rfl, ⟨by decide +kernel, by decide +kernel⟩, by decide +kernel⟩
theorem tL_kill {V : zW} (hT : zo11 V) (hO : zsh V 399 = some (4, 1, zk0)) {x1 : Int} (hx1 : zR x1) {d d1 dz : zD} {v kv : Int} (h : f_X11_kill x1 d = some (v, d1)) (hv : (zR v ∧ kv = 0 ∧ dz = zu d1 399 0 v) ∨ ∃ i j : Nat, ([1] : List Nat)[i]? = some j ∧ v = 4294967296 + (j : Int) ∧ kv = (i : Int) + 1 ∧ dz = d1) : zMetT V yL_kill cL_kill 4 [(0, 9, 12, 25)] [.ref (zad V 0), .int (zI x1), .ref (zad V 399)] d kv dz := by
  refine zMetT_by RL pnL rfl (Nat.le_of_ble_eq_true rfl) [some (.ref (zad V 0)), some (.int (zI x1)), some (.ref (zad V 399)), none] rfl fun X C E => ?_
  refine zP_aload_n (pc := 0) C (x := zad V 399) dL_kill_0 rfl rfl ?_
  refine zP_iconst (pc := 1) C dL_kill_1 ?_
  refine zP_aload_n (pc := 2) C (x := zad V 0) dL_kill_2 rfl rfl ?_
  refine zP_iload_n (pc := 3) C (x := zI x1) dL_kill_3 rfl rfl ?_
  refine zP_callX (pc := 4) (As := [.int (zI x1)]) (st := [.int (zI 0), .ref (zad V 399)]) C E mvL_69 dL_kill_4 (s_X11 hT) (t_X11_kill hT hx1 h) ⟨Nat.le_of_ble_eq_true rfl, Nat.le_of_ble_eq_true rfl⟩ rfl (Nat.le_of_ble_eq_true rfl) (fun hr => ?_) (fun j hj hvj => ?_)
  · rcases hv with ⟨-, rfl, rfl⟩ | ⟨i, j, -, e, -⟩
    · refine zP_i2l (pc := 7) C dL_kill_7 ?_
      refine zP_last (pc := 8) (a := 399) (i := 0) C dL_kill_8 hO (zRk rfl) hr ⟨by decide, by decide⟩ ?_
      refine zP_goto (pc := 9) (tgt := 15) C dL_kill_9 rfl ?_
      refine zP_iconst (pc := 15) C dL_kill_15 ?_
      exact zP_iretT (pc := 16) C E ⟨Nat.le_of_ble_eq_true rfl, Nat.le_of_ble_eq_true rfl⟩ dL_kill_16 (zRk rfl) rfl rfl
    · exfalso
      obtain ⟨-, hr⟩ := hr
      omega
  · rcases hv with ⟨hr, -⟩ | ⟨i, j1, he, e, rfl, rfl⟩
    · exfalso
      obtain ⟨-, hr⟩ := hr
      omega
    · have ej : j1 = j := by omega
      subst ej
      match i, he with
      | 0, he =>
        have e1 : 1 = j1 := Option.some.inj (show some 1 = some j1 from he)
        subst e1
        refine ⟨[], ⟨0, 9, 12, 25⟩, [], rfl, fun z hz => ?_, rfl, by decide, clL_25, fun w => ?_⟩
        · cases hz
        · refine zP_astore_n (pc := 12) C (L' := [some (.ref (zad V 0)), some (.int (zI x1)), some (.ref (zad V 399)), some (.ref w)]) dL_kill_12 rfl (Nat.le_of_ble_eq_true rfl) rfl rfl ?_
          refine zP_iconst (pc := 13) C dL_kill_13 ?_
          exact zP_iretT (pc := 14) C E ⟨Nat.le_of_ble_eq_true rfl, Nat.le_of_ble_eq_true rfl⟩ dL_kill_14 (zRk rfl) rfl rfl
      | q + 1, he => cases (show (none : Option Nat) = some j1 from he)
theorem mvL_72 : zMV RL 72 RX11 yX11_wake cX11_wake 2 (some .int) 1 := ⟨(zin 1338 (by decide +kernel) (by decide +kernel)), (zin 1339 (by decide +kernel) (by decide +kernel)), (zin 1340 (by decide +kernel) (by decide +kernel)), (zin 112 (by decide +kernel) (by decide +kernel)), (zin 1341 (by decide +kernel) (by decide +kernel)), rfl, ⟨by decide +kernel, by decide +kernel⟩, by decide +kernel⟩
theorem tL_wake {V : zW} (hT : zo11 V) (hO : zsh V 399 = some (4, 1, zk0)) {x1 : Int} (hx1 : zR x1) {d d1 dz : zD} {v kv : Int} (h : f_X11_wake x1 d = some (v, d1)) (hv : (zR v ∧ kv = 0 ∧ dz = zu d1 399 0 v) ∨ ∃ i j : Nat, ([1] : List Nat)[i]? = some j ∧ v = 4294967296 + (j : Int) ∧ kv = (i : Int) + 1 ∧ dz = d1) : zMetT V yL_wake cL_wake 4 [(0, 9, 12, 25)] [.ref (zad V 0), .int (zI x1), .ref (zad V 399)] d kv dz := by
  refine zMetT_by RL pnL rfl (Nat.le_of_ble_eq_true rfl) [some (.ref (zad V 0)), some (.int (zI x1)), some (.ref (zad V 399)), none] rfl fun X C E => ?_
  refine zP_aload_n (pc := 0) C (x := zad V 399) dL_wake_0 rfl rfl ?_
  refine zP_iconst (pc := 1) C dL_wake_1 ?_
  refine zP_aload_n (pc := 2) C (x := zad V 0) dL_wake_2 rfl rfl ?_
  refine zP_iload_n (pc := 3) C (x := zI x1) dL_wake_3 rfl rfl ?_
  refine zP_callX (pc := 4) (As := [.int (zI x1)]) (st := [.int (zI 0), .ref (zad V 399)]) C E mvL_72 dL_wake_4 (s_X11 hT) (t_X11_wake hT hx1 h) ⟨Nat.le_of_ble_eq_true rfl, Nat.le_of_ble_eq_true rfl⟩ rfl (Nat.le_of_ble_eq_true rfl) (fun hr => ?_) (fun j hj hvj => ?_)
  · rcases hv with ⟨-, rfl, rfl⟩ | ⟨i, j, -, e, -⟩
    · refine zP_i2l (pc := 7) C dL_wake_7 ?_
      refine zP_last (pc := 8) (a := 399) (i := 0) C dL_wake_8 hO (zRk rfl) hr ⟨by decide, by decide⟩ ?_
      refine zP_goto (pc := 9) (tgt := 15) C dL_wake_9 rfl ?_
      refine zP_iconst (pc := 15) C dL_wake_15 ?_
      exact zP_iretT (pc := 16) C E ⟨Nat.le_of_ble_eq_true rfl, Nat.le_of_ble_eq_true rfl⟩ dL_wake_16 (zRk rfl) rfl rfl
    · exfalso
      obtain ⟨-, hr⟩ := hr
      omega
  · rcases hv with ⟨hr, -⟩ | ⟨i, j1, he, e, rfl, rfl⟩
    · exfalso
      obtain ⟨-, hr⟩ := hr
      omega
    · have ej : j1 = j := by omega
      subst ej
      match i, he with
      | 0, he =>
        have e1 : 1 = j1 := Option.some.inj (show some 1 = some j1 from he)
        subst e1
        refine ⟨[], ⟨0, 9, 12, 25⟩, [], rfl, fun z hz => ?_, rfl, by decide, clL_25, fun w => ?_⟩
        · cases hz
        · refine zP_astore_n (pc := 12) C (L' := [some (.ref (zad V 0)), some (.int (zI x1)), some (.ref (zad V 399)), some (.ref w)]) dL_wake_12 rfl (Nat.le_of_ble_eq_true rfl) rfl rfl ?_
          refine zP_iconst (pc := 13) C dL_wake_13 ?_
          exact zP_iretT (pc := 14) C E ⟨Nat.le_of_ble_eq_true rfl, Nat.le_of_ble_eq_true rfl⟩ dL_wake_14 (zRk rfl) rfl rfl
      | q + 1, he => cases (show (none : Option Nat) = some j1 from he)
theorem mvL_75 : zMV RL 75 RX11 yX11_run cX11_run 3 (some .int) 1 := ⟨(zin 1345 (by decide +kernel) (by decide +kernel)), (zin 1346 (by decide +kernel) (by decide +kernel)), (zin 1347 (by decide +kernel) (by decide +kernel)), (zin 112 (by decide +kernel) (by decide +kernel)), (zin 1348 (by decide +kernel) (by decide +kernel)), rfl, ⟨by decide +kernel, by decide +kernel⟩, by decide +kernel⟩
theorem tL_run {V : zW} (hT : zo11 V) (hO : zsh V 399 = some (4, 1, zk0)) {x1 : Int} (hx1 : zR x1) {d d1 dz : zD} {v kv : Int} (h : f_X11_run x1 d = some (v, d1)) (hv : (zR v ∧ kv = 0 ∧ dz = zu d1 399 0 v) ∨ ∃ i j : Nat, ([0] : List Nat)[i]? = some j ∧ v = 4294967296 + (j : Int) ∧ kv = (i : Int) + 1 ∧ dz = d1) : zMetT V yL_run cL_run 4 [(0, 9, 12, 13)] [.ref (zad V 0), .int (zI x1), .ref (zad V 399)] d kv dz := by
  refine zMetT_by RL pnL rfl (Nat.le_of_ble_eq_true rfl) [some (.ref (zad V 0)), some (.int (zI x1)), some (.ref (zad V 399)), none] rfl fun X C E => ?_
  refine zP_aload_n (pc := 0) C (x := zad V 399) dL_run_0 rfl rfl ?_
  refine zP_iconst (pc := 1) C dL_run_1 ?_
  refine zP_aload_n (pc := 2) C (x := zad V 0) dL_run_2 rfl rfl ?_
  refine zP_iload_n (pc := 3) C (x := zI x1) dL_run_3 rfl rfl ?_
  refine zP_callX (pc := 4) (As := [.int (zI x1)]) (st := [.int (zI 0), .ref (zad V 399)]) C E mvL_75 dL_run_4 (s_X11 hT) (t_X11_run hT hx1 h) ⟨Nat.le_of_ble_eq_true rfl, Nat.le_of_ble_eq_true rfl⟩ rfl (Nat.le_of_ble_eq_true rfl) (fun hr => ?_) (fun j hj hvj => ?_)
  · rcases hv with ⟨-, rfl, rfl⟩ | ⟨i, j, -, e, -⟩
    · refine zP_i2l (pc := 7) C dL_run_7 ?_
      refine zP_last (pc := 8) (a := 399) (i := 0) C dL_run_8 hO (zRk rfl) hr ⟨by decide, by decide⟩ ?_
      refine zP_goto (pc := 9) (tgt := 15) C dL_run_9 rfl ?_
      refine zP_iconst (pc := 15) C dL_run_15 ?_
      exact zP_iretT (pc := 16) C E ⟨Nat.le_of_ble_eq_true rfl, Nat.le_of_ble_eq_true rfl⟩ dL_run_16 (zRk rfl) rfl rfl
    · exfalso
      obtain ⟨-, hr⟩ := hr
      omega
  · rcases hv with ⟨hr, -⟩ | ⟨i, j1, he, e, rfl, rfl⟩
    · exfalso
      obtain ⟨-, hr⟩ := hr
      omega
    · have ej : j1 = j := by omega
      subst ej
      match i, he with
      | 0, he =>
        have e1 : 0 = j1 := Option.some.inj (show some 0 = some j1 from he)
        subst e1
        refine ⟨[], ⟨0, 9, 12, 13⟩, [], rfl, fun z hz => ?_, rfl, by decide, clL_13, fun w => ?_⟩
        · cases hz
        · refine zP_astore_n (pc := 12) C (L' := [some (.ref (zad V 0)), some (.int (zI x1)), some (.ref (zad V 399)), some (.ref w)]) dL_run_12 rfl (Nat.le_of_ble_eq_true rfl) rfl rfl ?_
          refine zP_iconst (pc := 13) C dL_run_13 ?_
          exact zP_iretT (pc := 14) C E ⟨Nat.le_of_ble_eq_true rfl, Nat.le_of_ble_eq_true rfl⟩ dL_run_14 (zRk rfl) rfl rfl
      | q + 1, he => cases (show (none : Option Nat) = some j1 from he)
theorem mvL_78 : zMV RL 78 RX11 yX11_addPlace cX11_addPlace 2 (some .int) 1 := ⟨(zin 1352 (by decide +kernel) (by decide +kernel)), (zin 1353 (by decide +kernel) (by decide +kernel)), (zin 1354 (by decide +kernel) (by decide +kernel)), (zin 112 (by decide +kernel) (by decide +kernel)), (zin 1355 (by decide +kernel) (by decide +kernel)), rfl, ⟨by decide +kernel, by decide +kernel⟩, by decide +kernel⟩
theorem tL_addPlace {V : zW} (hT : zo11 V) (hO : zsh V 399 = some (4, 1, zk0)) {x1 : Int} (hx1 : zR x1) {d d1 dz : zD} {v kv : Int} (h : f_X11_addPlace x1 d = some (v, d1)) (hv : (zR v ∧ kv = 0 ∧ dz = zu d1 399 0 v) ∨ ∃ i j : Nat, ([1, 2] : List Nat)[i]? = some j ∧ v = 4294967296 + (j : Int) ∧ kv = (i : Int) + 1 ∧ dz = d1) : zMetT V yL_addPlace cL_addPlace 4 [(0, 9, 12, 25), (0, 9, 15, 67)] [.ref (zad V 0), .int (zI x1), .ref (zad V 399)] d kv dz := by
  refine zMetT_by RL pnL rfl (Nat.le_of_ble_eq_true rfl) [some (.ref (zad V 0)), some (.int (zI x1)), some (.ref (zad V 399)), none] rfl fun X C E => ?_
  refine zP_aload_n (pc := 0) C (x := zad V 399) dL_addPlace_0 rfl rfl ?_
  refine zP_iconst (pc := 1) C dL_addPlace_1 ?_
  refine zP_aload_n (pc := 2) C (x := zad V 0) dL_addPlace_2 rfl rfl ?_
  refine zP_iload_n (pc := 3) C (x := zI x1) dL_addPlace_3 rfl rfl ?_
  refine zP_callX (pc := 4) (As := [.int (zI x1)]) (st := [.int (zI 0), .ref (zad V 399)]) C E mvL_78 dL_addPlace_4 (s_X11 hT) (t_X11_addPlace hT hx1 h) ⟨Nat.le_of_ble_eq_true rfl, Nat.le_of_ble_eq_true rfl⟩ rfl (Nat.le_of_ble_eq_true rfl) (fun hr => ?_) (fun j hj hvj => ?_)
  · rcases hv with ⟨-, rfl, rfl⟩ | ⟨i, j, -, e, -⟩
    · refine zP_i2l (pc := 7) C dL_addPlace_7 ?_
      refine zP_last (pc := 8) (a := 399) (i := 0) C dL_addPlace_8 hO (zRk rfl) hr ⟨by decide, by decide⟩ ?_
      refine zP_goto (pc := 9) (tgt := 18) C dL_addPlace_9 rfl ?_
      refine zP_iconst (pc := 18) C dL_addPlace_18 ?_
      exact zP_iretT (pc := 19) C E ⟨Nat.le_of_ble_eq_true rfl, Nat.le_of_ble_eq_true rfl⟩ dL_addPlace_19 (zRk rfl) rfl rfl
    · exfalso
      obtain ⟨-, hr⟩ := hr
      omega
  · rcases hv with ⟨hr, -⟩ | ⟨i, j1, he, e, rfl, rfl⟩
    · exfalso
      obtain ⟨-, hr⟩ := hr
      omega
    · have ej : j1 = j := by omega
      subst ej
      match i, he with
      | 0, he =>
        have e1 : 1 = j1 := Option.some.inj (show some 1 = some j1 from he)
        subst e1
        refine ⟨[], ⟨0, 9, 12, 25⟩, [⟨0, 9, 15, 67⟩], rfl, fun z hz => ?_, rfl, by decide, clL_25, fun w => ?_⟩
        · cases hz
        · refine zP_astore_n (pc := 12) C (L' := [some (.ref (zad V 0)), some (.int (zI x1)), some (.ref (zad V 399)), some (.ref w)]) dL_addPlace_12 rfl (Nat.le_of_ble_eq_true rfl) rfl rfl ?_
          refine zP_iconst (pc := 13) C dL_addPlace_13 ?_
          exact zP_iretT (pc := 14) C E ⟨Nat.le_of_ble_eq_true rfl, Nat.le_of_ble_eq_true rfl⟩ dL_addPlace_14 (zRk rfl) rfl rfl
      | 1, he =>
        have e1 : 2 = j1 := Option.some.inj (show some 2 = some j1 from he)
        subst e1
        refine ⟨[⟨0, 9, 12, 25⟩], ⟨0, 9, 15, 67⟩, [], rfl, fun z hz => ?_, rfl, by decide, clL_67, fun w => ?_⟩
        · simp only [List.mem_cons, List.not_mem_nil, or_false] at hz
          subst hz
          exact ⟨by decide, 1, by decide, by decide, clL_25⟩
        · refine zP_astore_n (pc := 15) C (L' := [some (.ref (zad V 0)), some (.int (zI x1)), some (.ref (zad V 399)), some (.ref w)]) dL_addPlace_15 rfl (Nat.le_of_ble_eq_true rfl) rfl rfl ?_
          refine zP_iconst (pc := 16) C dL_addPlace_16 ?_
          exact zP_iretT (pc := 17) C E ⟨Nat.le_of_ble_eq_true rfl, Nat.le_of_ble_eq_true rfl⟩ dL_addPlace_17 (zRk rfl) rfl rfl
      | q + 2, he => cases (show (none : Option Nat) = some j1 from he)
theorem mvL_81 : zMV RL 81 RX11 yX11_dropPlace cX11_dropPlace 3 (some .int) 1 := ⟨(zin 1359 (by decide +kernel) (by decide +kernel)), (zin 1360 (by decide +kernel) (by decide +kernel)), (zin 1361 (by decide +kernel) (by decide +kernel)), (zin 112 (by decide +kernel) (by decide +kernel)), (zin 1362 (by decide +kernel) (by decide +kernel)), rfl, ⟨by decide +kernel, by decide +kernel⟩, by decide +kernel⟩
theorem tL_dropPlace {V : zW} (hT : zo11 V) (hO : zsh V 399 = some (4, 1, zk0)) {x1 : Int} (hx1 : zR x1) {d d1 dz : zD} {v kv : Int} (h : f_X11_dropPlace x1 d = some (v, d1)) (hv : (zR v ∧ kv = 0 ∧ dz = zu d1 399 0 v) ∨ ∃ i j : Nat, ([1] : List Nat)[i]? = some j ∧ v = 4294967296 + (j : Int) ∧ kv = (i : Int) + 1 ∧ dz = d1) : zMetT V yL_dropPlace cL_dropPlace 4 [(0, 9, 12, 25)] [.ref (zad V 0), .int (zI x1), .ref (zad V 399)] d kv dz := by
  refine zMetT_by RL pnL rfl (Nat.le_of_ble_eq_true rfl) [some (.ref (zad V 0)), some (.int (zI x1)), some (.ref (zad V 399)), none] rfl fun X C E => ?_
  refine zP_aload_n (pc := 0) C (x := zad V 399) dL_dropPlace_0 rfl rfl ?_
  refine zP_iconst (pc := 1) C dL_dropPlace_1 ?_
  refine zP_aload_n (pc := 2) C (x := zad V 0) dL_dropPlace_2 rfl rfl ?_
  refine zP_iload_n (pc := 3) C (x := zI x1) dL_dropPlace_3 rfl rfl ?_
  refine zP_callX (pc := 4) (As := [.int (zI x1)]) (st := [.int (zI 0), .ref (zad V 399)]) C E mvL_81 dL_dropPlace_4 (s_X11 hT) (t_X11_dropPlace hT hx1 h) ⟨Nat.le_of_ble_eq_true rfl, Nat.le_of_ble_eq_true rfl⟩ rfl (Nat.le_of_ble_eq_true rfl) (fun hr => ?_) (fun j hj hvj => ?_)
  · rcases hv with ⟨-, rfl, rfl⟩ | ⟨i, j, -, e, -⟩
    · refine zP_i2l (pc := 7) C dL_dropPlace_7 ?_
      refine zP_last (pc := 8) (a := 399) (i := 0) C dL_dropPlace_8 hO (zRk rfl) hr ⟨by decide, by decide⟩ ?_
      refine zP_goto (pc := 9) (tgt := 15) C dL_dropPlace_9 rfl ?_
      refine zP_iconst (pc := 15) C dL_dropPlace_15 ?_
      exact zP_iretT (pc := 16) C E ⟨Nat.le_of_ble_eq_true rfl, Nat.le_of_ble_eq_true rfl⟩ dL_dropPlace_16 (zRk rfl) rfl rfl
    · exfalso
      obtain ⟨-, hr⟩ := hr
      omega
  · rcases hv with ⟨hr, -⟩ | ⟨i, j1, he, e, rfl, rfl⟩
    · exfalso
      obtain ⟨-, hr⟩ := hr
      omega
    · have ej : j1 = j := by omega
      subst ej
      match i, he with
      | 0, he =>
        have e1 : 1 = j1 := Option.some.inj (show some 1 = some j1 from he)
        subst e1
        refine ⟨[], ⟨0, 9, 12, 25⟩, [], rfl, fun z hz => ?_, rfl, by decide, clL_25, fun w => ?_⟩
        · cases hz
        · refine zP_astore_n (pc := 12) C (L' := [some (.ref (zad V 0)), some (.int (zI x1)), some (.ref (zad V 399)), some (.ref w)]) dL_dropPlace_12 rfl (Nat.le_of_ble_eq_true rfl) rfl rfl ?_
          refine zP_iconst (pc := 13) C dL_dropPlace_13 ?_
          exact zP_iretT (pc := 14) C E ⟨Nat.le_of_ble_eq_true rfl, Nat.le_of_ble_eq_true rfl⟩ dL_dropPlace_14 (zRk rfl) rfl rfl
      | q + 1, he => cases (show (none : Option Nat) = some j1 from he)
theorem mvL_84 : zMV RL 84 RX11 yX11_set cX11_set 4 (some .int) 2 := ⟨(zin 1366 (by decide +kernel) (by decide +kernel)), (zin 1367 (by decide +kernel) (by decide +kernel)), (zin 1368 (by decide +kernel) (by decide +kernel)), (zin 112 (by decide +kernel) (by decide +kernel)), (zin 1369 (by decide +kernel) (by decide +kernel)), rfl, ⟨by decide +kernel, by decide +kernel⟩, by decide +kernel⟩
theorem tL_set {V : zW} (hT : zo11 V) (hO : zsh V 399 = some (4, 1, zk0)) {x1 x2 : Int} (hx1 : zR x1) (hx2 : zR x2) {d d1 dz : zD} {v kv : Int} (h : f_X11_set x1 x2 d = some (v, d1)) (hv : (zR v ∧ kv = 0 ∧ dz = zu d1 399 0 v) ∨ ∃ i j : Nat, ([0] : List Nat)[i]? = some j ∧ v = 4294967296 + (j : Int) ∧ kv = (i : Int) + 1 ∧ dz = d1) : zMetT V yL_set cL_set 5 [(0, 10, 13, 13)] [.ref (zad V 0), .int (zI x1), .int (zI x2), .ref (zad V 399)] d kv dz := by
  refine zMetT_by RL pnL rfl (Nat.le_of_ble_eq_true rfl) [some (.ref (zad V 0)), some (.int (zI x1)), some (.int (zI x2)), some (.ref (zad V 399)), none] rfl fun X C E => ?_
  refine zP_aload_n (pc := 0) C (x := zad V 399) dL_set_0 rfl rfl ?_
  refine zP_iconst (pc := 1) C dL_set_1 ?_
  refine zP_aload_n (pc := 2) C (x := zad V 0) dL_set_2 rfl rfl ?_
  refine zP_iload_n (pc := 3) C (x := zI x1) dL_set_3 rfl rfl ?_
  refine zP_iload_n (pc := 4) C (x := zI x2) dL_set_4 rfl rfl ?_
  refine zP_callX (pc := 5) (As := [.int (zI x1), .int (zI x2)]) (st := [.int (zI 0), .ref (zad V 399)]) C E mvL_84 dL_set_5 (s_X11 hT) (t_X11_set hT hx1 hx2 h) ⟨Nat.le_of_ble_eq_true rfl, Nat.le_of_ble_eq_true rfl⟩ rfl (Nat.le_of_ble_eq_true rfl) (fun hr => ?_) (fun j hj hvj => ?_)
  · rcases hv with ⟨-, rfl, rfl⟩ | ⟨i, j, -, e, -⟩
    · refine zP_i2l (pc := 8) C dL_set_8 ?_
      refine zP_last (pc := 9) (a := 399) (i := 0) C dL_set_9 hO (zRk rfl) hr ⟨by decide, by decide⟩ ?_
      refine zP_goto (pc := 10) (tgt := 17) C dL_set_10 rfl ?_
      refine zP_iconst (pc := 17) C dL_set_17 ?_
      exact zP_iretT (pc := 18) C E ⟨Nat.le_of_ble_eq_true rfl, Nat.le_of_ble_eq_true rfl⟩ dL_set_18 (zRk rfl) rfl rfl
    · exfalso
      obtain ⟨-, hr⟩ := hr
      omega
  · rcases hv with ⟨hr, -⟩ | ⟨i, j1, he, e, rfl, rfl⟩
    · exfalso
      obtain ⟨-, hr⟩ := hr
      omega
    · have ej : j1 = j := by omega
      subst ej
      match i, he with
      | 0, he =>
        have e1 : 0 = j1 := Option.some.inj (show some 0 = some j1 from he)
        subst e1
        refine ⟨[], ⟨0, 10, 13, 13⟩, [], rfl, fun z hz => ?_, rfl, by decide, clL_13, fun w => ?_⟩
        · cases hz
        · refine zP_astore (pc := 13) C (L' := [some (.ref (zad V 0)), some (.int (zI x1)), some (.int (zI x2)), some (.ref (zad V 399)), some (.ref w)]) dL_set_13 (Nat.le_of_ble_eq_true rfl) rfl rfl ?_
          refine zP_iconst (pc := 15) C dL_set_15 ?_
          exact zP_iretT (pc := 16) C E ⟨Nat.le_of_ble_eq_true rfl, Nat.le_of_ble_eq_true rfl⟩ dL_set_16 (zRk rfl) rfl rfl
      | q + 1, he => cases (show (none : Option Nat) = some j1 from he)
theorem mvL_87 : zMV RL 87 RX11 yX11_undo cX11_undo 1 (some .int) 0 := ⟨(zin 1374 (by decide +kernel) (by decide +kernel)), (zin 1375 (by decide +kernel) (by decide +kernel)), (zin 1376 (by decide +kernel) (by decide +kernel)), (zin 112 (by decide +kernel) (by decide +kernel)), (zin 1377 (by decide +kernel) (by decide +kernel)), rfl, ⟨by decide +kernel, by decide +kernel⟩, by decide +kernel⟩
theorem tL_undo {V : zW} (hT : zo11 V) (hO : zsh V 399 = some (4, 1, zk0)) {d d1 dz : zD} {v kv : Int} (h : f_X11_undo d = some (v, d1)) (hv : (zR v ∧ kv = 0 ∧ dz = zu d1 399 0 v) ∨ ∃ i j : Nat, ([3] : List Nat)[i]? = some j ∧ v = 4294967296 + (j : Int) ∧ kv = (i : Int) + 1 ∧ dz = d1) : zMetT V yL_undo cL_undo 3 [(0, 8, 11, 91)] [.ref (zad V 0), .ref (zad V 399)] d kv dz := by
  refine zMetT_by RL pnL rfl (Nat.le_of_ble_eq_true rfl) [some (.ref (zad V 0)), some (.ref (zad V 399)), none] rfl fun X C E => ?_
  refine zP_aload_n (pc := 0) C (x := zad V 399) dL_undo_0 rfl rfl ?_
  refine zP_iconst (pc := 1) C dL_undo_1 ?_
  refine zP_aload_n (pc := 2) C (x := zad V 0) dL_undo_2 rfl rfl ?_
  refine zP_callX (pc := 3) (As := []) (st := [.int (zI 0), .ref (zad V 399)]) C E mvL_87 dL_undo_3 (s_X11 hT) (t_X11_undo hT h) ⟨Nat.le_of_ble_eq_true rfl, Nat.le_of_ble_eq_true rfl⟩ rfl (Nat.le_of_ble_eq_true rfl) (fun hr => ?_) (fun j hj hvj => ?_)
  · rcases hv with ⟨-, rfl, rfl⟩ | ⟨i, j, -, e, -⟩
    · refine zP_i2l (pc := 6) C dL_undo_6 ?_
      refine zP_last (pc := 7) (a := 399) (i := 0) C dL_undo_7 hO (zRk rfl) hr ⟨by decide, by decide⟩ ?_
      refine zP_goto (pc := 8) (tgt := 14) C dL_undo_8 rfl ?_
      refine zP_iconst (pc := 14) C dL_undo_14 ?_
      exact zP_iretT (pc := 15) C E ⟨Nat.le_of_ble_eq_true rfl, Nat.le_of_ble_eq_true rfl⟩ dL_undo_15 (zRk rfl) rfl rfl
    · exfalso
      obtain ⟨-, hr⟩ := hr
      omega
  · rcases hv with ⟨hr, -⟩ | ⟨i, j1, he, e, rfl, rfl⟩
    · exfalso
      obtain ⟨-, hr⟩ := hr
      omega
    · have ej : j1 = j := by omega
      subst ej
      match i, he with
      | 0, he =>
        have e1 : 3 = j1 := Option.some.inj (show some 3 = some j1 from he)
        subst e1
        refine ⟨[], ⟨0, 8, 11, 91⟩, [], rfl, fun z hz => ?_, rfl, by decide, clL_91, fun w => ?_⟩
        · cases hz
        · refine zP_astore_n (pc := 11) C (L' := [some (.ref (zad V 0)), some (.ref (zad V 399)), some (.ref w)]) dL_undo_11 rfl (Nat.le_of_ble_eq_true rfl) rfl rfl ?_
          refine zP_iconst (pc := 12) C dL_undo_12 ?_
          exact zP_iretT (pc := 13) C E ⟨Nat.le_of_ble_eq_true rfl, Nat.le_of_ble_eq_true rfl⟩ dL_undo_13 (zRk rfl) rfl rfl
      | q + 1, he => cases (show (none : Option Nat) = some j1 from he)
theorem mvL_93 : zMV RL 93 RX11 yX11_restoreState cX11_restoreState 1 (some .int) 0 := ⟨(zin 1400 (by decide +kernel) (by decide +kernel)), (zin 1401 (by decide +kernel) (by decide +kernel)), (zin 1402 (by decide +kernel) (by decide +kernel)), (zin 112 (by decide +kernel) (by decide +kernel)), (zin 1403 (by decide +kernel) (by decide +kernel)), rfl, ⟨by decide +kernel, by decide +kernel⟩, by decide +kernel⟩
theorem tL_restoreState {V : zW} (hT : zo11 V) (hO : zsh V 399 = some (4, 1, zk0)) {d d1 dz : zD} {v kv : Int} (h : f_X11_restoreState d = some (v, d1)) (hv : (zR v ∧ kv = 0 ∧ dz = zu d1 399 0 v) ∨ ∃ i j : Nat, ([3] : List Nat)[i]? = some j ∧ v = 4294967296 + (j : Int) ∧ kv = (i : Int) + 1 ∧ dz = d1) : zMetT V yL_restoreState cL_restoreState 3 [(0, 8, 11, 91)] [.ref (zad V 0), .ref (zad V 399)] d kv dz := by
  refine zMetT_by RL pnL rfl (Nat.le_of_ble_eq_true rfl) [some (.ref (zad V 0)), some (.ref (zad V 399)), none] rfl fun X C E => ?_
  refine zP_aload_n (pc := 0) C (x := zad V 399) dL_restoreState_0 rfl rfl ?_
  refine zP_iconst (pc := 1) C dL_restoreState_1 ?_
  refine zP_aload_n (pc := 2) C (x := zad V 0) dL_restoreState_2 rfl rfl ?_
  refine zP_callX (pc := 3) (As := []) (st := [.int (zI 0), .ref (zad V 399)]) C E mvL_93 dL_restoreState_3 (s_X11 hT) (t_X11_restoreState hT h) ⟨Nat.le_of_ble_eq_true rfl, Nat.le_of_ble_eq_true rfl⟩ rfl (Nat.le_of_ble_eq_true rfl) (fun hr => ?_) (fun j hj hvj => ?_)
  · rcases hv with ⟨-, rfl, rfl⟩ | ⟨i, j, -, e, -⟩
    · refine zP_i2l (pc := 6) C dL_restoreState_6 ?_
      refine zP_last (pc := 7) (a := 399) (i := 0) C dL_restoreState_7 hO (zRk rfl) hr ⟨by decide, by decide⟩ ?_
      refine zP_goto (pc := 8) (tgt := 14) C dL_restoreState_8 rfl ?_
      refine zP_iconst (pc := 14) C dL_restoreState_14 ?_
      exact zP_iretT (pc := 15) C E ⟨Nat.le_of_ble_eq_true rfl, Nat.le_of_ble_eq_true rfl⟩ dL_restoreState_15 (zRk rfl) rfl rfl
    · exfalso
      obtain ⟨-, hr⟩ := hr
      omega
  · rcases hv with ⟨hr, -⟩ | ⟨i, j1, he, e, rfl, rfl⟩
    · exfalso
      obtain ⟨-, hr⟩ := hr
      omega
    · have ej : j1 = j := by omega
      subst ej
      match i, he with
      | 0, he =>
        have e1 : 3 = j1 := Option.some.inj (show some 3 = some j1 from he)
        subst e1
        refine ⟨[], ⟨0, 8, 11, 91⟩, [], rfl, fun z hz => ?_, rfl, by decide, clL_91, fun w => ?_⟩
        · cases hz
        · refine zP_astore_n (pc := 11) C (L' := [some (.ref (zad V 0)), some (.ref (zad V 399)), some (.ref w)]) dL_restoreState_11 rfl (Nat.le_of_ble_eq_true rfl) rfl rfl ?_
          refine zP_iconst (pc := 12) C dL_restoreState_12 ?_
          exact zP_iretT (pc := 13) C E ⟨Nat.le_of_ble_eq_true rfl, Nat.le_of_ble_eq_true rfl⟩ dL_restoreState_13 (zRk rfl) rfl rfl
      | q + 1, he => cases (show (none : Option Nat) = some j1 from he)
