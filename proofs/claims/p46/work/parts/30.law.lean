/-! The law's methods over the pure heap: those that ask. -/
theorem pn99 : plainName RL = true := by decide +kernel
theorem zq_nat0 : ∀ j, j < 261 → Int32.ofNat j = zI ((j : Nat) : Int) := by decide +kernel
theorem zq_nat (j : Nat) (h : j ≤ 260) : Int32.ofNat j = zI ((j : Nat) : Int) := zq_nat0 j (by omega)
section SCRIPT
variable {V : zW} {X : zX} {cc : ByteArray} {own : String} {nL k n pc : Nat} {R0 : Room} {ret : Option FieldType} {L L' : List (Option Value)} {st : List Value} {d : zD} {β : Type} {r : β}
theorem zP_qld (C : zOk V X cc own nL R0 ret) {i : Int} {K : Int → Option β} (hdg : decode cc pc = .ok (.iaload, 1)) (hi : zR i) (h : zg (zqn V) i (zl (zqf V i.toNat) K) = some r) (kk : ∀ v, zR v → K v = some r → zP V X nL k n (pc + 1) L (.int (zI v) :: st) d) : zP V X nL k n pc L (.int (zI i) :: .ref (zqa V) :: st) d := by
  obtain ⟨p, l, e, R, s, m, args, below, meth, c, Q⟩ := X
  obtain ⟨hx, hb, hml, hown, hts, hK, hlk, hR, hret, hsz⟩ := C
  intro ls H locs hl hP hS
  obtain ⟨hg, h⟩ := zg_h h
  obtain ⟨-, -, -, -, -, h6, h7⟩ := hK.2
  refine va_ti hx hb h6 hS (zI_in hi hg) (v := .int (zI (zqf V i.toNat))) (by rw [zI_cl hi]) hdg ?_
  exact kk _ (h7.1 _) h ls H locs hl hP hS
theorem zP_qlen (C : zOk V X cc own nL R0 ret) {K : Int → Option β} (hqn : zqn V ≤ 260) (hdg : decode cc pc = .ok (.arraylength, 1)) (h : zl ((zqn V : Nat) : Int) K = some r) (kk : ∀ v, zR v → K v = some r → zP V X nL k n (pc + 1) L (.int (zI v) :: st) d) : zP V X nL k n pc L (.ref (zqa V) :: st) d := by
  obtain ⟨p, l, e, R, s, m, args, below, meth, c, Q⟩ := X
  obtain ⟨hx, hb, hml, hown, hts, hK, hlk, hR, hret, hsz⟩ := C
  intro ls H locs hl hP hS
  obtain ⟨-, -, -, -, -, h6, h7⟩ := hK.2
  exact va_tlen hx hb h6 hS (v := zI ((zqn V : Nat) : Int)) (zq_nat _ hqn) hdg (kk _ ⟨by omega, by omega⟩ h ls H locs hl hP hS)
end SCRIPT
theorem m99_8 : zMS RL 8 yL_cell cL_cell 2 (Option.some FieldType.int) 2 := ⟨q967, q968, q21, q969, ⟨by decide +kernel, by decide +kernel⟩, by decide +kernel⟩
theorem m99_25 : zMV RL 25 RX11 yX11_appendInput cX11_appendInput 6 (Option.some FieldType.int) 5 := ⟨q980, q981, q982, q22, q983, rfl, ⟨by decide +kernel, by decide +kernel⟩, by decide +kernel⟩
theorem m99_31 : zMV RL 31 RX11 yX11_truncateInput cX11_truncateInput 2 (Option.some FieldType.boolean) 1 := ⟨q989, q990, q991, q22, q992, rfl, ⟨by decide +kernel, by decide +kernel⟩, by decide +kernel⟩
theorem m99_35 : zMS RL 35 yL_feeds cL_feeds 5 (Option.none : Option FieldType) 2 := ⟨q975, q976, q21, q977, ⟨by decide +kernel, by decide +kernel⟩, by decide +kernel⟩
theorem m99_39 : zMV RL 39 RX11 yX11_loadLine cX11_loadLine 2 (Option.some FieldType.int) 0 := ⟨q993, q994, q995, q22, q996, rfl, ⟨by decide +kernel, by decide +kernel⟩, by decide +kernel⟩
theorem m99_51 : zMS RL 51 yL_letter cL_letter 1 (Option.some FieldType.char) 1 := ⟨q1130, q1131, q21, q1132, ⟨by decide +kernel, by decide +kernel⟩, by decide +kernel⟩
theorem m99_59 : zMS RL 59 yL_draw cL_draw 4 (Option.some FieldType.int) 4 := ⟨q964, q965, q21, q966, ⟨by decide +kernel, by decide +kernel⟩, by decide +kernel⟩
theorem m99_82 : zMV RL 82 RX11 yX11_inRow cX11_inRow 4 (Option.some FieldType.int) 3 := ⟨q1262, q1263, q1264, q22, q1265, rfl, ⟨by decide +kernel, by decide +kernel⟩, by decide +kernel⟩
theorem m99_86 : zMV RL 86 RX11 yX11_terminal cX11_terminal 3 (Option.some FieldType.int) 2 := ⟨q1252, q1253, q1254, q22, q1255, rfl, ⟨by decide +kernel, by decide +kernel⟩, by decide +kernel⟩
theorem m99_90 : zMV RL 90 RX11 yX11_message cX11_message 4 (Option.some FieldType.int) 2 := ⟨q748, q749, q750, q22, q751, rfl, ⟨by decide +kernel, by decide +kernel⟩, by decide +kernel⟩
theorem m99_93 : zMS RL 93 yL_isInRow cL_isInRow 5 (Option.some FieldType.boolean) 4 := ⟨q1249, q1250, q21, q1251, ⟨by decide +kernel, by decide +kernel⟩, by decide +kernel⟩
theorem m99_97 : zMV RL 97 RX11 yX11_count cX11_count 2 (Option.some FieldType.int) 1 := ⟨q672, q673, q674, q22, q675, rfl, ⟨by decide +kernel, by decide +kernel⟩, by decide +kernel⟩
theorem m99_101 : zMS RL 101 yL_rowMany cL_rowMany 4 (Option.some FieldType.int) 3 := ⟨q1275, q1276, q21, q1277, ⟨by decide +kernel, by decide +kernel⟩, by decide +kernel⟩
theorem m99_105 : zMV RL 105 RX11 yX11_off cX11_off 3 (Option.some FieldType.int) 0 := ⟨q1278, q1279, q1280, q22, q1281, rfl, ⟨by decide +kernel, by decide +kernel⟩, by decide +kernel⟩
theorem m99_108 : zMV RL 108 RX11 yX11_gap cX11_gap 3 (Option.some FieldType.int) 0 := ⟨q1238, q1239, q1240, q22, q1241, rfl, ⟨by decide +kernel, by decide +kernel⟩, by decide +kernel⟩
theorem m99_111 : zMV RL 111 RX11 yX11_account cX11_account 2 (Option.some FieldType.int) 1 := ⟨q1242, q1243, q1244, q22, q1245, rfl, ⟨by decide +kernel, by decide +kernel⟩, by decide +kernel⟩
theorem m99_114 : zMS RL 114 yL_isMessage cL_isMessage 8 (Option.some FieldType.boolean) 2 := ⟨q1246, q1247, q21, q1248, ⟨by decide +kernel, by decide +kernel⟩, by decide +kernel⟩
theorem m99_118 : zMS RL 118 yL_isTerminal cL_isTerminal 6 (Option.some FieldType.boolean) 2 := ⟨q1272, q1273, q21, q1274, ⟨by decide +kernel, by decide +kernel⟩, by decide +kernel⟩
theorem m99_121 : zMV RL 121 RX11 yX11_nextKind cX11_nextKind 1 (Option.some FieldType.int) 0 := ⟨q1285, q1286, q1287, q22, q1288, rfl, ⟨by decide +kernel, by decide +kernel⟩, by decide +kernel⟩
theorem m99_124 : zMV RL 124 RX11 yX11_nextTerminal cX11_nextTerminal 1 (Option.some FieldType.int) 0 := ⟨q1290, q1291, q1292, q22, q1293, rfl, ⟨by decide +kernel, by decide +kernel⟩, by decide +kernel⟩
theorem m99_127 : zMV RL 127 RX11 yX11_timeIn cX11_timeIn 2 (Option.some FieldType.int) 1 := ⟨q1294, q1295, q1296, q22, q1297, rfl, ⟨by decide +kernel, by decide +kernel⟩, by decide +kernel⟩
theorem m99_130 : zMV RL 130 RX11 yX11_deliveredIn cX11_deliveredIn 2 (Option.some FieldType.int) 1 := ⟨q771, q772, q773, q22, q774, rfl, ⟨by decide +kernel, by decide +kernel⟩, by decide +kernel⟩
theorem m99_133 : zMV RL 133 RX11 yX11_often cX11_often 3 (Option.some FieldType.int) 2 := ⟨q1298, q1299, q1300, q22, q1301, rfl, ⟨by decide +kernel, by decide +kernel⟩, by decide +kernel⟩
theorem m99_136 : zMV RL 136 RX11 yX11_run cX11_run 3 (Option.some FieldType.int) 1 := ⟨q924, q925, q926, q22, q927, rfl, ⟨by decide +kernel, by decide +kernel⟩, by decide +kernel⟩
theorem m99_139 : zMV RL 139 RX11 yX11_turn cX11_turn 3 (Option.some FieldType.int) 2 := ⟨q1306, q1307, q1308, q22, q1309, rfl, ⟨by decide +kernel, by decide +kernel⟩, by decide +kernel⟩
theorem m99_142 : zMV RL 142 RX11 yX11_setting cX11_setting 2 (Option.some FieldType.int) 1 := ⟨q1314, q1315, q1316, q22, q1317, rfl, ⟨by decide +kernel, by decide +kernel⟩, by decide +kernel⟩
theorem m99_145 : zMV RL 145 RX11 yX11_post cX11_post 4 (Option.some FieldType.int) 3 := ⟨q1321, q1322, q1323, q22, q1324, rfl, ⟨by decide +kernel, by decide +kernel⟩, by decide +kernel⟩
theorem m99_148 : zMV RL 148 RX11 yX11_kill cX11_kill 2 (Option.some FieldType.int) 1 := ⟨q1352, q1353, q1354, q22, q1355, rfl, ⟨by decide +kernel, by decide +kernel⟩, by decide +kernel⟩
theorem m99_151 : zMV RL 151 RX11 yX11_wake cX11_wake 2 (Option.some FieldType.int) 1 := ⟨q1360, q1361, q1362, q22, q1363, rfl, ⟨by decide +kernel, by decide +kernel⟩, by decide +kernel⟩
theorem m99_154 : zMV RL 154 RX11 yX11_addPlace cX11_addPlace 2 (Option.some FieldType.int) 1 := ⟨q1364, q1365, q1366, q22, q1367, rfl, ⟨by decide +kernel, by decide +kernel⟩, by decide +kernel⟩
theorem m99_157 : zMV RL 157 RX11 yX11_dropPlace cX11_dropPlace 3 (Option.some FieldType.int) 1 := ⟨q1372, q1373, q1374, q22, q1375, rfl, ⟨by decide +kernel, by decide +kernel⟩, by decide +kernel⟩
theorem m99_161 : zMS RL 161 yL_setup cL_setup 5 (Option.some (FieldType.object RJ0)) 2 := ⟨q997, q998, q21, q999, ⟨by decide +kernel, by decide +kernel⟩, by decide +kernel⟩
theorem m99_165 : zMS RL 165 yL_loaded cL_loaded 2 (Option.some FieldType.int) 2 := ⟨q972, q973, q21, q974, ⟨by decide +kernel, by decide +kernel⟩, by decide +kernel⟩
theorem m99_169 : zMS RL 169 yL_isSound cL_isSound 3 (Option.some FieldType.boolean) 1 := ⟨q1235, q1236, q21, q1237, ⟨by decide +kernel, by decide +kernel⟩, by decide +kernel⟩
theorem m99_173 : zMS RL 173 yL_acts cL_acts 8 (Option.none : Option FieldType) 4 := ⟨q1318, q1319, q21, q1320, ⟨by decide +kernel, by decide +kernel⟩, by decide +kernel⟩
theorem m99_177 : zMS RL 177 yL_isTurned cL_isTurned 13 (Option.some FieldType.boolean) 1 := ⟨q1282, q1283, q21, q1284, ⟨by decide +kernel, by decide +kernel⟩, by decide +kernel⟩
theorem m99_180 : zMV RL 180 RX11 yX11_saveState cX11_saveState 1 (Option.some FieldType.int) 0 := ⟨q956, q957, q958, q22, q959, rfl, ⟨by decide +kernel, by decide +kernel⟩, by decide +kernel⟩
theorem m99_183 : zMV RL 183 RX11 yX11_quietIn cX11_quietIn 2 (Option.some FieldType.int) 0 := ⟨q920, q921, q922, q22, q923, rfl, ⟨by decide +kernel, by decide +kernel⟩, by decide +kernel⟩
theorem m99_186 : zMV RL 186 RX11 yX11_deliversIn cX11_deliversIn 3 (Option.some FieldType.int) 1 := ⟨q915, q916, q917, q22, q918, rfl, ⟨by decide +kernel, by decide +kernel⟩, by decide +kernel⟩
theorem m99_189 : zMV RL 189 RX11 yX11_undo cX11_undo 1 (Option.some FieldType.int) 0 := ⟨q933, q934, q935, q22, q936, rfl, ⟨by decide +kernel, by decide +kernel⟩, by decide +kernel⟩
theorem m99_192 : zMV RL 192 RX11 yX11_restoreState cX11_restoreState 1 (Option.some FieldType.int) 0 := ⟨q960, q961, q962, q22, q963, rfl, ⟨by decide +kernel, by decide +kernel⟩, by decide +kernel⟩
def f_L_cell (V : zW) (x1 : Int) (d : zD) : Option (Int × zD) :=
  zl ((zqn V : Nat) : Int) fun v2 =>
  if (v2 : Int) ≤ x1 then (
    zl (zw (8191 * x1)) fun v16 =>
    zl (zw (v16 + 131071)) fun v19 =>
    some (v19, d))
  else (
    zg (zqn V) x1 <| zl (zqf V (x1 : Int).toNat) fun v8 =>
    some (v8, d))
theorem t_L_cell {V : zW}  (hqn : zqn V ≤ 260) {x1 : Int} (hx1 : zR x1) {d dz : zD} {rv : Int} (h : f_L_cell V x1 d = some (rv, dz)) : zMet V 0 yL_cell cL_cell 2 (some .int) [.ref (zqa V), .int (zI x1)] d (some (.int (zI rv))) (zR rv) dz := by
  refine zMet_by RL pn99 rfl (Nat.le_of_ble_eq_true rfl) [some (.ref (zqa V)), some (.int (zI x1))] rfl fun X C E => ?_
  refine zP_iload_n (pc := 0) C (x := zI x1) dL_cell_0 rfl rfl ?_
  refine zP_aload_n (pc := 1) C (x := zqa V) dL_cell_1 rfl rfl ?_
  refine zP_qlen (pc := 2) C hqn dL_cell_2 h fun v2 hv2 h => ?_
  refine zP_icmp_ge (pc := 3) (tgt := 12) C dL_cell_3 rfl hx1 hv2 h (fun _ h => ?_) (fun _ h => ?_)
  · refine zP_sipush (pc := 12) C dL_cell_12 rfl ?_
    refine zP_iload_n (pc := 15) C (x := zI x1) dL_cell_15 rfl rfl ?_
    refine zP_imul (pc := 16) C dL_cell_16 h fun v16 hv16 h => ?_
    refine zP_ldc (pc := 17) C dL_cell_17 q970 ?_
    refine zP_iadd (pc := 19) C dL_cell_19 h fun v19 hv19 h => ?_
    exact zP_iret (pc := 20) C E dL_cell_20 hv19 h
  · refine zP_aload_n (pc := 6) C (x := zqa V) dL_cell_6 rfl rfl ?_
    refine zP_iload_n (pc := 7) C (x := zI x1) dL_cell_7 rfl rfl ?_
    refine zP_qld (pc := 8) C dL_cell_8 hx1 h fun v8 hv8 h => ?_
    refine zP_goto (pc := 9) (tgt := 20) C dL_cell_9 rfl ?_
    exact zP_iret (pc := 20) C E dL_cell_20 hv8 h
def f_L_draw (V : zW) (x1 x2 x3 : Int) (d : zD) : Option (Int × zD) :=
  zc (f_L_cell V x1 d) fun v3 d =>
  zl (zand v3 2147483647) fun v8 =>
  zl (zw (x3 - x2)) fun v11 =>
  zl (zw (v11 + 1)) fun v13 =>
  zn v13 <| zl (zrem v8 v13) fun v14 =>
  zl (zw (x2 + v14)) fun v15 =>
  some (v15, d)
theorem t_L_draw {V : zW}  (hqn : zqn V ≤ 260) {x1 x2 x3 : Int} (hx1 : zR x1) (hx2 : zR x2) (hx3 : zR x3) {d dz : zD} {rv : Int} (h : f_L_draw V x1 x2 x3 d = some (rv, dz)) : zMet V 1 yL_draw cL_draw 4 (some .int) [.ref (zqa V), .int (zI x1), .int (zI x2), .int (zI x3)] d (some (.int (zI rv))) (zR rv) dz := by
  refine zMet_by RL pn99 rfl (Nat.le_of_ble_eq_true rfl) [some (.ref (zqa V)), some (.int (zI x1)), some (.int (zI x2)), some (.int (zI x3))] rfl fun X C E => ?_
  refine zP_iload_n (pc := 0) C (x := zI x2) dL_draw_0 rfl rfl ?_
  refine zP_aload_n (pc := 1) C (x := zqa V) dL_draw_1 rfl rfl ?_
  refine zP_iload_n (pc := 2) C (x := zI x1) dL_draw_2 rfl rfl ?_
  obtain ⟨v3, d1, hc, h⟩ := zc_h h
  refine zP_callS (pc := 3) (As := [.ref (zqa V), .int (zI x1)]) (st := [.int (zI x2)]) C m99_8 dL_draw_3 (t_L_cell hqn hx1 hc) ⟨Nat.le_of_ble_eq_true rfl, Nat.le_of_ble_eq_true rfl⟩ rfl (Nat.le_of_ble_eq_true rfl) ⟨Nat.zero_le _, Nat.zero_le _⟩ fun hw => ?_
  have hv3 := hw
  clear hc hw
  show zP V X 4 0 0 6 _ [.int (zI v3), .int (zI x2)] d1
  revert h
  generalize d1 = d
  intro h
  refine zP_ldc (pc := 6) C dL_draw_6 q971 ?_
  refine zP_iand (pc := 8) C dL_draw_8 h fun v8 hv8 h => ?_
  refine zP_iload_n (pc := 9) C (x := zI x3) dL_draw_9 rfl rfl ?_
  refine zP_iload_n (pc := 10) C (x := zI x2) dL_draw_10 rfl rfl ?_
  refine zP_isub (pc := 11) C dL_draw_11 h fun v11 hv11 h => ?_
  refine zP_iconst (pc := 12) C dL_draw_12 ?_
  refine zP_iadd (pc := 13) C dL_draw_13 h fun v13 hv13 h => ?_
  refine zP_irem (pc := 14) C dL_draw_14 hv13 h fun v14 hv14 h => ?_
  refine zP_iadd (pc := 15) C dL_draw_15 h fun v15 hv15 h => ?_
  exact zP_iret (pc := 16) C E dL_draw_16 hv15 h
def l_L_rowMany_2F  (r2 : Int → Int → Int → zD → Option (Int × zD)) (x1 x2 x3 : Int) (d : zD) : Option (Int × zD) :=
  zc (f_X11_inRow  x1 x2 x3 d) fun v6 d => zx v6 <|
  if (v6 : Int) = (-1) then (
    some (x3, d))
  else (
    zl (zw (x3 + 1)) fun v13 =>
    r2 x1 x2 v13 d)
theorem wl_L_rowMany_2F {V : zW} {X : zX}  (hT0 : zo11 V) (C : zOk V X cL_rowMany RL 4 (zrm 3) (some .int)) {rv : Int} {dz : zD} (E : zEnd V X (some (.int (zI rv))) (zR rv) dz) {r2 : Int → Int → Int → zD → Option (Int × zD)} (hr2 : ∀ {x1 x2 x3 : Int} {d : zD}, zR x1 → zR x2 → zR x3 → r2 x1 x2 x3 d = some (rv, dz) → zP V X 4 0 0 2 [some (.ref (zad V 0)), some (.int (zI x1)), some (.int (zI x2)), some (.int (zI x3))] [] d) {x1 x2 x3 : Int} (hx1 : zR x1) (hx2 : zR x2) (hx3 : zR x3) {d : zD} (h : l_L_rowMany_2F  r2 x1 x2 x3 d = some (rv, dz)) : zP V X 4 0 0 2 [some (.ref (zad V 0)), some (.int (zI x1)), some (.int (zI x2)), some (.int (zI x3))] [] d := by
  refine zP_aload_n (pc := 2) C (x := zad V 0) dL_rowMany_2 rfl rfl ?_
  refine zP_iload_n (pc := 3) C (x := zI x1) dL_rowMany_3 rfl rfl ?_
  refine zP_iload_n (pc := 4) C (x := zI x2) dL_rowMany_4 rfl rfl ?_
  refine zP_iload_n (pc := 5) C (x := zI x3) dL_rowMany_5 rfl rfl ?_
  obtain ⟨v6, d1, hc, h⟩ := zc_h h
  obtain ⟨hnv6, h⟩ := zx_h h
  refine zP_callV (pc := 6) (As := [.int (zI x1), .int (zI x2), .int (zI x3)]) (st := []) C m99_82 dL_rowMany_6 (s_X11 hT0) rfl (t_X11_inRow hT0 hx1 hx2 hx3 hc hnv6) ⟨Nat.le_of_ble_eq_true rfl, Nat.le_of_ble_eq_true rfl⟩ rfl (Nat.le_of_ble_eq_true rfl) ⟨Nat.zero_le _, Nat.zero_le _⟩ fun hw => ?_
  have hv6 := hw
  clear hc hw
  show zP V X 4 0 0 9 _ [.int (zI v6)] d1
  revert h
  generalize d1 = d
  intro h
  refine zP_iconst (pc := 9) C dL_rowMany_9 ?_
  refine zP_icmp_eq (pc := 10) (tgt := 19) C dL_rowMany_10 rfl hv6 (zRk rfl) h (fun _ h => ?_) (fun _ h => ?_)
  · refine zP_iload_n (pc := 19) C (x := zI x3) dL_rowMany_19 rfl rfl ?_
    exact zP_iret (pc := 20) C E dL_rowMany_20 hx3 h
  · refine zP_iinc (pc := 13) C (x := x3) dL_rowMany_13 rfl (Nat.le_of_ble_eq_true rfl) rfl h fun v13 hv13 h => ?_
    show zP V X 4 0 0 16 [some (.ref (zad V 0)), some (.int (zI x1)), some (.int (zI x2)), some (.int (zI v13))] _ _
    refine zP_goto (pc := 16) (tgt := 2) C dL_rowMany_16 rfl ?_
    exact zP_mask [true, true, true, true] (hr2 hx1 hx2 hv13 h)
def l_L_rowMany_2   : Nat → Int → Int → Int → zD → Option (Int × zD)
  | 0, _, _, _, _ => none
  | q + 1, x1, x2, x3, d => l_L_rowMany_2F   (l_L_rowMany_2   q) x1 x2 x3 d
theorem wl_L_rowMany_2 {V : zW} {X : zX}  (hT0 : zo11 V) (C : zOk V X cL_rowMany RL 4 (zrm 3) (some .int)) {rv : Int} {dz : zD} (E : zEnd V X (some (.int (zI rv))) (zR rv) dz)  : ∀ (q : Nat) {x1 x2 x3 : Int} (hx1 : zR x1) (hx2 : zR x2) (hx3 : zR x3) {d : zD} (h : l_L_rowMany_2   q x1 x2 x3 d = some (rv, dz)), zP V X 4 0 0 2 [some (.ref (zad V 0)), some (.int (zI x1)), some (.int (zI x2)), some (.int (zI x3))] [] d := by
  intro q
  induction q with
  | zero => intro x1 x2 x3 hx1 hx2 hx3 d h; cases (show (none : Option (Int × zD)) = some (rv, dz) from h)
  | succ q ih =>
    intro x1 x2 x3 hx1 hx2 hx3 d h
    exact wl_L_rowMany_2F hT0 C E  (fun  hx1 hx2 hx3 h => ih hx1 hx2 hx3 h) hx1 hx2 hx3 h
def f_L_rowMany  (x1 x2 : Int) (d : zD) : Option (Int × zD) :=
  l_L_rowMany_2   zF x1 x2 0 d
theorem t_L_rowMany {V : zW}  (hT0 : zo11 V) {x1 x2 : Int} (hx1 : zR x1) (hx2 : zR x2) {d dz : zD} {rv : Int} (h : f_L_rowMany  x1 x2 d = some (rv, dz)) : zMet V 3 yL_rowMany cL_rowMany 4 (some .int) [.ref (zad V 0), .int (zI x1), .int (zI x2)] d (some (.int (zI rv))) (zR rv) dz := by
  refine zMet_by RL pn99 rfl (Nat.le_of_ble_eq_true rfl) [some (.ref (zad V 0)), some (.int (zI x1)), some (.int (zI x2)), none] rfl fun X C E => ?_
  refine zP_iconst (pc := 0) C dL_rowMany_0 ?_
  refine zP_istore_n (pc := 1) C (L' := [some (.ref (zad V 0)), some (.int (zI x1)), some (.int (zI x2)), some (.int (zI 0))]) dL_rowMany_1 rfl (Nat.le_of_ble_eq_true rfl) rfl rfl ?_
  exact zP_mask [true, true, true, true] (wl_L_rowMany_2 hT0 C E  zF hx1 hx2 (zRk rfl) h)
def l_L_isInRow_3F  (r3 : Int → Int → Int → Int → zD → Option (Int × zD)) (x1 x2 x3 x4 : Int) (d : zD) : Option (Int × zD) :=
  zl (zw (6 + x3)) fun v10 =>
  zc (f_X11_terminal  x2 v10 d) fun v11 d => zx v11 <|
  if (v11 : Int) ≤ x4 then (
    some (0, d))
  else (
    zc (f_X11_inRow  x2 x3 x4 d) fun v22 d => zx v22 <|
    if (v22 : Int) = x1 then (
      some (1, d))
    else (
      zl (zw (x4 + 1)) fun v31 =>
      r3 x1 x2 x3 v31 d))
theorem wl_L_isInRow_3F {V : zW} {X : zX}  (hT0 : zo11 V) (C : zOk V X cL_isInRow RL 5 (zrm 3) (some .boolean)) {rv : Int} {dz : zD} (E : zEnd V X (some (.int (zI rv))) (rv = 0 ∨ rv = 1) dz) {r3 : Int → Int → Int → Int → zD → Option (Int × zD)} (hr3 : ∀ {x1 x2 x3 x4 : Int} {d : zD}, zR x1 → zR x2 → zR x3 → zR x4 → r3 x1 x2 x3 x4 d = some (rv, dz) → zP V X 5 0 0 3 [some (.ref (zad V 0)), some (.int (zI x1)), some (.int (zI x2)), some (.int (zI x3)), some (.int (zI x4))] [] d) {x1 x2 x3 x4 : Int} (hx1 : zR x1) (hx2 : zR x2) (hx3 : zR x3) (hx4 : zR x4) {d : zD} (h : l_L_isInRow_3F  r3 x1 x2 x3 x4 d = some (rv, dz)) : zP V X 5 0 0 3 [some (.ref (zad V 0)), some (.int (zI x1)), some (.int (zI x2)), some (.int (zI x3)), some (.int (zI x4))] [] d := by
  refine zP_iload (pc := 3) C (x := zI x4) dL_isInRow_3 rfl ?_
  refine zP_aload_n (pc := 5) C (x := zad V 0) dL_isInRow_5 rfl rfl ?_
  refine zP_iload_n (pc := 6) C (x := zI x2) dL_isInRow_6 rfl rfl ?_
  refine zP_bipush (pc := 7) C dL_isInRow_7 rfl ?_
  refine zP_iload_n (pc := 9) C (x := zI x3) dL_isInRow_9 rfl rfl ?_
  refine zP_iadd (pc := 10) C dL_isInRow_10 h fun v10 hv10 h => ?_
  obtain ⟨v11, d1, hc, h⟩ := zc_h h
  obtain ⟨hnv11, h⟩ := zx_h h
  refine zP_callV (pc := 11) (As := [.int (zI x2), .int (zI v10)]) (st := [.int (zI x4)]) C m99_86 dL_isInRow_11 (s_X11 hT0) rfl (t_X11_terminal hT0 hx2 hv10 hc hnv11) ⟨Nat.le_of_ble_eq_true rfl, Nat.le_of_ble_eq_true rfl⟩ rfl (Nat.le_of_ble_eq_true rfl) ⟨Nat.zero_le _, Nat.zero_le _⟩ fun hw => ?_
  have hv11 := hw
  clear hc hw
  show zP V X 5 0 0 14 _ [.int (zI v11), .int (zI x4)] d1
  revert h
  generalize d1 = d
  intro h
  refine zP_icmp_ge (pc := 14) (tgt := 37) C dL_isInRow_14 rfl hx4 hv11 h (fun _ h => ?_) (fun _ h => ?_)
  · refine zP_iconst (pc := 37) C dL_isInRow_37 ?_
    exact zP_zret (pc := 38) C E dL_isInRow_38 (Or.inl rfl) h
  · refine zP_aload_n (pc := 17) C (x := zad V 0) dL_isInRow_17 rfl rfl ?_
    refine zP_iload_n (pc := 18) C (x := zI x2) dL_isInRow_18 rfl rfl ?_
    refine zP_iload_n (pc := 19) C (x := zI x3) dL_isInRow_19 rfl rfl ?_
    refine zP_iload (pc := 20) C (x := zI x4) dL_isInRow_20 rfl ?_
    obtain ⟨v22, d1, hc, h⟩ := zc_h h
    obtain ⟨hnv22, h⟩ := zx_h h
    refine zP_callV (pc := 22) (As := [.int (zI x2), .int (zI x3), .int (zI x4)]) (st := []) C m99_82 dL_isInRow_22 (s_X11 hT0) rfl (t_X11_inRow hT0 hx2 hx3 hx4 hc hnv22) ⟨Nat.le_of_ble_eq_true rfl, Nat.le_of_ble_eq_true rfl⟩ rfl (Nat.le_of_ble_eq_true rfl) ⟨Nat.zero_le _, Nat.zero_le _⟩ fun hw => ?_
    have hv22 := hw
    clear hc hw
    show zP V X 5 0 0 25 _ [.int (zI v22)] d1
    revert h
    generalize d1 = d
    intro h
    refine zP_iload_n (pc := 25) C (x := zI x1) dL_isInRow_25 rfl rfl ?_
    refine zP_icmp_ne (pc := 26) (tgt := 31) C dL_isInRow_26 rfl hv22 hx1 h (fun _ h => ?_) (fun _ h => ?_)
    · refine zP_iinc (pc := 31) C (x := x4) dL_isInRow_31 rfl (Nat.le_of_ble_eq_true rfl) rfl h fun v31 hv31 h => ?_
      show zP V X 5 0 0 34 [some (.ref (zad V 0)), some (.int (zI x1)), some (.int (zI x2)), some (.int (zI x3)), some (.int (zI v31))] _ _
      refine zP_goto (pc := 34) (tgt := 3) C dL_isInRow_34 rfl ?_
      exact zP_mask [true, true, true, true, true] (hr3 hx1 hx2 hx3 hv31 h)
    · refine zP_iconst (pc := 29) C dL_isInRow_29 ?_
      exact zP_zret (pc := 30) C E dL_isInRow_30 (Or.inr rfl) h
def l_L_isInRow_3   : Nat → Int → Int → Int → Int → zD → Option (Int × zD)
  | 0, _, _, _, _, _ => none
  | q + 1, x1, x2, x3, x4, d => l_L_isInRow_3F   (l_L_isInRow_3   q) x1 x2 x3 x4 d
theorem wl_L_isInRow_3 {V : zW} {X : zX}  (hT0 : zo11 V) (C : zOk V X cL_isInRow RL 5 (zrm 3) (some .boolean)) {rv : Int} {dz : zD} (E : zEnd V X (some (.int (zI rv))) (rv = 0 ∨ rv = 1) dz)  : ∀ (q : Nat) {x1 x2 x3 x4 : Int} (hx1 : zR x1) (hx2 : zR x2) (hx3 : zR x3) (hx4 : zR x4) {d : zD} (h : l_L_isInRow_3   q x1 x2 x3 x4 d = some (rv, dz)), zP V X 5 0 0 3 [some (.ref (zad V 0)), some (.int (zI x1)), some (.int (zI x2)), some (.int (zI x3)), some (.int (zI x4))] [] d := by
  intro q
  induction q with
  | zero => intro x1 x2 x3 x4 hx1 hx2 hx3 hx4 d h; cases (show (none : Option (Int × zD)) = some (rv, dz) from h)
  | succ q ih =>
    intro x1 x2 x3 x4 hx1 hx2 hx3 hx4 d h
    exact wl_L_isInRow_3F hT0 C E  (fun  hx1 hx2 hx3 hx4 h => ih hx1 hx2 hx3 hx4 h) hx1 hx2 hx3 hx4 h
def f_L_isInRow  (x1 x2 x3 : Int) (d : zD) : Option (Int × zD) :=
  l_L_isInRow_3   zF x1 x2 x3 0 d
theorem t_L_isInRow {V : zW}  (hT0 : zo11 V) {x1 x2 x3 : Int} (hx1 : zR x1) (hx2 : zR x2) (hx3 : zR x3) {d dz : zD} {rv : Int} (h : f_L_isInRow  x1 x2 x3 d = some (rv, dz)) : zMet V 3 yL_isInRow cL_isInRow 5 (some .boolean) [.ref (zad V 0), .int (zI x1), .int (zI x2), .int (zI x3)] d (some (.int (zI rv))) (rv = 0 ∨ rv = 1) dz := by
  refine zMet_by RL pn99 rfl (Nat.le_of_ble_eq_true rfl) [some (.ref (zad V 0)), some (.int (zI x1)), some (.int (zI x2)), some (.int (zI x3)), none] rfl fun X C E => ?_
  refine zP_iconst (pc := 0) C dL_isInRow_0 ?_
  refine zP_istore (pc := 1) C (L' := [some (.ref (zad V 0)), some (.int (zI x1)), some (.int (zI x2)), some (.int (zI x3)), some (.int (zI 0))]) dL_isInRow_1 (Nat.le_of_ble_eq_true rfl) rfl rfl ?_
  exact zP_mask [true, true, true, true, true] (wl_L_isInRow_3 hT0 C E  zF hx1 hx2 hx3 (zRk rfl) h)
def j_L_isMessage_245   (x1 x3 x4 x6 x7 : Int) (d : zD) : Option (Int × zD) :=
  if (x4 : Int) < 3 then (
    some (1, d))
  else (
    zc (f_X11_terminal  x3 2 d) fun v258 d => zx v258 <|
    zl (zw (x6 + v258)) fun v261 =>
    if (x7 : Int) < v261 then (
      some (0, d))
    else (
      zc (f_X11_count  3 d) fun v269 d => zx v269 <|
      if (v269 : Int) < x7 then (
        some (0, d))
      else (
        zc (f_L_isInRow  x1 x3 2 d) fun v279 d =>
        if (v279 : Int) = 0 then (
          some (1, d))
        else (
          some (0, d)))))
theorem wj_L_isMessage_245 {V : zW} {X : zX}  (hT0 : zo11 V) (C : zOk V X cL_isMessage RL 8 (zrm 4) (some .boolean)) {rv : Int} {dz : zD} (E : zEnd V X (some (.int (zI rv))) (rv = 0 ∨ rv = 1) dz)  {x1 x3 x4 x6 x7 : Int} (hx1 : zR x1) (hx3 : zR x3) (hx4 : zR x4) (hx6 : zR x6) (hx7 : zR x7) {d : zD} (h : j_L_isMessage_245   x1 x3 x4 x6 x7 d = some (rv, dz)) : zP V X 8 0 0 245 [some (.ref (zad V 0)), some (.int (zI x1)), none, some (.int (zI x3)), some (.int (zI x4)), none, some (.int (zI x6)), some (.int (zI x7))] [] d := by
  refine zP_iload (pc := 245) C (x := zI x4) dL_isMessage_245 rfl ?_
  refine zP_iconst (pc := 247) C dL_isMessage_247 ?_
  refine zP_icmp_lt (pc := 248) (tgt := 285) C dL_isMessage_248 rfl hx4 (zRk rfl) h (fun _ h => ?_) (fun _ h => ?_)
  · refine zP_iconst (pc := 285) C dL_isMessage_285 ?_
    refine zP_goto (pc := 286) (tgt := 290) C dL_isMessage_286 rfl ?_
    exact zP_zret (pc := 290) C E dL_isMessage_290 (Or.inr rfl) h
  · refine zP_iload (pc := 251) C (x := zI x7) dL_isMessage_251 rfl ?_
    refine zP_iload (pc := 253) C (x := zI x6) dL_isMessage_253 rfl ?_
    refine zP_aload_n (pc := 255) C (x := zad V 0) dL_isMessage_255 rfl rfl ?_
    refine zP_iload_n (pc := 256) C (x := zI x3) dL_isMessage_256 rfl rfl ?_
    refine zP_iconst (pc := 257) C dL_isMessage_257 ?_
    obtain ⟨v258, d1, hc, h⟩ := zc_h h
    obtain ⟨hnv258, h⟩ := zx_h h
    refine zP_callV (pc := 258) (As := [.int (zI x3), .int (zI 2)]) (st := [.int (zI x6), .int (zI x7)]) C m99_86 dL_isMessage_258 (s_X11 hT0) rfl (t_X11_terminal hT0 hx3 (zRk rfl) hc hnv258) ⟨Nat.le_of_ble_eq_true rfl, Nat.le_of_ble_eq_true rfl⟩ rfl (Nat.le_of_ble_eq_true rfl) ⟨Nat.zero_le _, Nat.zero_le _⟩ fun hw => ?_
    have hv258 := hw
    clear hc hw
    show zP V X 8 0 0 261 _ [.int (zI v258), .int (zI x6), .int (zI x7)] d1
    revert h
    generalize d1 = d
    intro h
    refine zP_iadd (pc := 261) C dL_isMessage_261 h fun v261 hv261 h => ?_
    refine zP_icmp_lt (pc := 262) (tgt := 289) C dL_isMessage_262 rfl hx7 hv261 h (fun _ h => ?_) (fun _ h => ?_)
    · refine zP_iconst (pc := 289) C dL_isMessage_289 ?_
      exact zP_zret (pc := 290) C E dL_isMessage_290 (Or.inl rfl) h
    · refine zP_iload (pc := 265) C (x := zI x7) dL_isMessage_265 rfl ?_
      refine zP_aload_n (pc := 267) C (x := zad V 0) dL_isMessage_267 rfl rfl ?_
      refine zP_iconst (pc := 268) C dL_isMessage_268 ?_
      obtain ⟨v269, d1, hc, h⟩ := zc_h h
      obtain ⟨hnv269, h⟩ := zx_h h
      refine zP_callV (pc := 269) (As := [.int (zI 3)]) (st := [.int (zI x7)]) C m99_97 dL_isMessage_269 (s_X11 hT0) rfl (t_X11_count hT0 (zRk rfl) hc hnv269) ⟨Nat.le_of_ble_eq_true rfl, Nat.le_of_ble_eq_true rfl⟩ rfl (Nat.le_of_ble_eq_true rfl) ⟨Nat.zero_le _, Nat.zero_le _⟩ fun hw => ?_
      have hv269 := hw
      clear hc hw
      show zP V X 8 0 0 272 _ [.int (zI v269), .int (zI x7)] d1
      revert h
      generalize d1 = d
      intro h
      refine zP_icmp_gt (pc := 272) (tgt := 289) C dL_isMessage_272 rfl hx7 hv269 h (fun _ h => ?_) (fun _ h => ?_)
      · refine zP_iconst (pc := 289) C dL_isMessage_289 ?_
        exact zP_zret (pc := 290) C E dL_isMessage_290 (Or.inl rfl) h
      · refine zP_aload_n (pc := 275) C (x := zad V 0) dL_isMessage_275 rfl rfl ?_
        refine zP_iload_n (pc := 276) C (x := zI x1) dL_isMessage_276 rfl rfl ?_
        refine zP_iload_n (pc := 277) C (x := zI x3) dL_isMessage_277 rfl rfl ?_
        refine zP_iconst (pc := 278) C dL_isMessage_278 ?_
        obtain ⟨v279, d1, hc, h⟩ := zc_h h
        refine zP_callS (pc := 279) (As := [.ref (zad V 0), .int (zI x1), .int (zI x3), .int (zI 2)]) (st := []) C m99_93 dL_isMessage_279 (t_L_isInRow hT0 hx1 hx3 (zRk rfl) hc) ⟨Nat.le_of_ble_eq_true rfl, Nat.le_of_ble_eq_true rfl⟩ rfl (Nat.le_of_ble_eq_true rfl) ⟨Nat.zero_le _, Nat.zero_le _⟩ fun hw => ?_
        have hbv279 := hw
        have hv279 := z01 hw
        clear hc hw
        show zP V X 8 0 0 282 _ [.int (zI v279)] d1
        revert h
        generalize d1 = d
        intro h
        refine zP_if_ne (pc := 282) (tgt := 289) C dL_isMessage_282 rfl hv279 h (fun _ h => ?_) (fun _ h => ?_)
        · refine zP_iconst (pc := 289) C dL_isMessage_289 ?_
          exact zP_zret (pc := 290) C E dL_isMessage_290 (Or.inl rfl) h
        · refine zP_iconst (pc := 285) C dL_isMessage_285 ?_
          refine zP_goto (pc := 286) (tgt := 290) C dL_isMessage_286 rfl ?_
          exact zP_zret (pc := 290) C E dL_isMessage_290 (Or.inr rfl) h
def j_L_isMessage_221   (x1 x3 x4 x6 x7 : Int) (d : zD) : Option (Int × zD) :=
  if (x4 : Int) = 2 then (
    if (x7 : Int) = (-1) then (
      zc (f_L_isInRow  x1 x3 2 d) fun v237 d =>
      if (v237 : Int) = 0 then (
        some (0, d))
      else (
        j_L_isMessage_245   x1 x3 x4 x6 x7 d))
    else (
      some (0, d)))
  else (
    j_L_isMessage_245   x1 x3 x4 x6 x7 d)
theorem wj_L_isMessage_221 {V : zW} {X : zX}  (hT0 : zo11 V) (C : zOk V X cL_isMessage RL 8 (zrm 4) (some .boolean)) {rv : Int} {dz : zD} (E : zEnd V X (some (.int (zI rv))) (rv = 0 ∨ rv = 1) dz)  {x1 x3 x4 x6 x7 : Int} (hx1 : zR x1) (hx3 : zR x3) (hx4 : zR x4) (hx6 : zR x6) (hx7 : zR x7) {d : zD} (h : j_L_isMessage_221   x1 x3 x4 x6 x7 d = some (rv, dz)) : zP V X 8 0 0 221 [some (.ref (zad V 0)), some (.int (zI x1)), none, some (.int (zI x3)), some (.int (zI x4)), none, some (.int (zI x6)), some (.int (zI x7))] [] d := by
  refine zP_iload (pc := 221) C (x := zI x4) dL_isMessage_221 rfl ?_
  refine zP_iconst (pc := 223) C dL_isMessage_223 ?_
  refine zP_icmp_ne (pc := 224) (tgt := 245) C dL_isMessage_224 rfl hx4 (zRk rfl) h (fun _ h => ?_) (fun _ h => ?_)
  · exact zP_mask [true, true, false, true, true, false, true, true] (wj_L_isMessage_245 hT0 C E  hx1 hx3 hx4 hx6 hx7 h)
  · refine zP_iload (pc := 227) C (x := zI x7) dL_isMessage_227 rfl ?_
    refine zP_iconst (pc := 229) C dL_isMessage_229 ?_
    refine zP_icmp_ne (pc := 230) (tgt := 243) C dL_isMessage_230 rfl hx7 (zRk rfl) h (fun _ h => ?_) (fun _ h => ?_)
    · refine zP_iconst (pc := 243) C dL_isMessage_243 ?_
      exact zP_zret (pc := 244) C E dL_isMessage_244 (Or.inl rfl) h
    · refine zP_aload_n (pc := 233) C (x := zad V 0) dL_isMessage_233 rfl rfl ?_
      refine zP_iload_n (pc := 234) C (x := zI x1) dL_isMessage_234 rfl rfl ?_
      refine zP_iload_n (pc := 235) C (x := zI x3) dL_isMessage_235 rfl rfl ?_
      refine zP_iconst (pc := 236) C dL_isMessage_236 ?_
      obtain ⟨v237, d1, hc, h⟩ := zc_h h
      refine zP_callS (pc := 237) (As := [.ref (zad V 0), .int (zI x1), .int (zI x3), .int (zI 2)]) (st := []) C m99_93 dL_isMessage_237 (t_L_isInRow hT0 hx1 hx3 (zRk rfl) hc) ⟨Nat.le_of_ble_eq_true rfl, Nat.le_of_ble_eq_true rfl⟩ rfl (Nat.le_of_ble_eq_true rfl) ⟨Nat.zero_le _, Nat.zero_le _⟩ fun hw => ?_
      have hbv237 := hw
      have hv237 := z01 hw
      clear hc hw
      show zP V X 8 0 0 240 _ [.int (zI v237)] d1
      revert h
      generalize d1 = d
      intro h
      refine zP_if_ne (pc := 240) (tgt := 245) C dL_isMessage_240 rfl hv237 h (fun _ h => ?_) (fun _ h => ?_)
      · exact zP_mask [true, true, false, true, true, false, true, true] (wj_L_isMessage_245 hT0 C E  hx1 hx3 hx4 hx6 hx7 h)
      · refine zP_iconst (pc := 243) C dL_isMessage_243 ?_
        exact zP_zret (pc := 244) C E dL_isMessage_244 (Or.inl rfl) h
def j_L_isMessage_199   (x1 x3 x4 x5 x6 x7 : Int) (d : zD) : Option (Int × zD) :=
  if (x4 : Int) ≤ 1 then (
    j_L_isMessage_221   x1 x3 x4 x6 x7 d)
  else (
    zc (f_X11_message  x1 2 d) fun v212 d => zx v212 <|
    zl (zw (x5 + v212)) fun v215 =>
    if (v215 : Int) ≤ x6 then (
      j_L_isMessage_221   x1 x3 x4 x6 x7 d)
    else (
      some (0, d)))
theorem wj_L_isMessage_199 {V : zW} {X : zX}  (hT0 : zo11 V) (C : zOk V X cL_isMessage RL 8 (zrm 4) (some .boolean)) {rv : Int} {dz : zD} (E : zEnd V X (some (.int (zI rv))) (rv = 0 ∨ rv = 1) dz)  {x1 x3 x4 x5 x6 x7 : Int} (hx1 : zR x1) (hx3 : zR x3) (hx4 : zR x4) (hx5 : zR x5) (hx6 : zR x6) (hx7 : zR x7) {d : zD} (h : j_L_isMessage_199   x1 x3 x4 x5 x6 x7 d = some (rv, dz)) : zP V X 8 0 0 199 [some (.ref (zad V 0)), some (.int (zI x1)), none, some (.int (zI x3)), some (.int (zI x4)), some (.int (zI x5)), some (.int (zI x6)), some (.int (zI x7))] [] d := by
  refine zP_iload (pc := 199) C (x := zI x4) dL_isMessage_199 rfl ?_
  refine zP_iconst (pc := 201) C dL_isMessage_201 ?_
  refine zP_icmp_le (pc := 202) (tgt := 221) C dL_isMessage_202 rfl hx4 (zRk rfl) h (fun _ h => ?_) (fun _ h => ?_)
  · exact zP_mask [true, true, false, true, true, false, true, true] (wj_L_isMessage_221 hT0 C E  hx1 hx3 hx4 hx6 hx7 h)
  · refine zP_iload (pc := 205) C (x := zI x6) dL_isMessage_205 rfl ?_
    refine zP_iload (pc := 207) C (x := zI x5) dL_isMessage_207 rfl ?_
    refine zP_aload_n (pc := 209) C (x := zad V 0) dL_isMessage_209 rfl rfl ?_
    refine zP_iload_n (pc := 210) C (x := zI x1) dL_isMessage_210 rfl rfl ?_
    refine zP_iconst (pc := 211) C dL_isMessage_211 ?_
    obtain ⟨v212, d1, hc, h⟩ := zc_h h
    obtain ⟨hnv212, h⟩ := zx_h h
    refine zP_callV (pc := 212) (As := [.int (zI x1), .int (zI 2)]) (st := [.int (zI x5), .int (zI x6)]) C m99_90 dL_isMessage_212 (s_X11 hT0) rfl (t_X11_message hT0 hx1 (zRk rfl) hc hnv212) ⟨Nat.le_of_ble_eq_true rfl, Nat.le_of_ble_eq_true rfl⟩ rfl (Nat.le_of_ble_eq_true rfl) ⟨Nat.zero_le _, Nat.zero_le _⟩ fun hw => ?_
    have hv212 := hw
    clear hc hw
    show zP V X 8 0 0 215 _ [.int (zI v212), .int (zI x5), .int (zI x6)] d1
    revert h
    generalize d1 = d
    intro h
    refine zP_iadd (pc := 215) C dL_isMessage_215 h fun v215 hv215 h => ?_
    refine zP_icmp_ge (pc := 216) (tgt := 221) C dL_isMessage_216 rfl hx6 hv215 h (fun _ h => ?_) (fun _ h => ?_)
    · exact zP_mask [true, true, false, true, true, false, true, true] (wj_L_isMessage_221 hT0 C E  hx1 hx3 hx4 hx6 hx7 h)
    · refine zP_iconst (pc := 219) C dL_isMessage_219 ?_
      exact zP_zret (pc := 220) C E dL_isMessage_220 (Or.inl rfl) h
def j_L_isMessage_124   (x1 x3 x4 x5 x6 x7 : Int) (d : zD) : Option (Int × zD) :=
  if (x3 : Int) = (-1) then (
    if (x4 : Int) = 0 then (
      some (1, d))
    else (
      if (x4 : Int) = 3 then (
        if (x7 : Int) = x5 then (
          if (x6 : Int) = (-1) then (
            some (1, d))
          else (
            some (0, d)))
        else (
          some (0, d)))
      else (
        some (0, d))))
  else (
    if (x4 : Int) = 1 then (
      if (x6 : Int) = (-1) then (
        if (x7 : Int) = (-1) then (
          zc (f_L_isInRow  x1 x3 1 d) fun v181 d =>
          if (v181 : Int) = 0 then (
            some (0, d))
          else (
            zc (f_L_isInRow  x1 x3 2 d) fun v191 d =>
            if (v191 : Int) = 0 then (
              j_L_isMessage_199   x1 x3 x4 x5 x6 x7 d)
            else (
              some (0, d))))
        else (
          some (0, d)))
      else (
        some (0, d)))
    else (
      j_L_isMessage_199   x1 x3 x4 x5 x6 x7 d))
theorem wj_L_isMessage_124 {V : zW} {X : zX}  (hT0 : zo11 V) (C : zOk V X cL_isMessage RL 8 (zrm 4) (some .boolean)) {rv : Int} {dz : zD} (E : zEnd V X (some (.int (zI rv))) (rv = 0 ∨ rv = 1) dz)  {x1 x3 x4 x5 x6 x7 : Int} (hx1 : zR x1) (hx3 : zR x3) (hx4 : zR x4) (hx5 : zR x5) (hx6 : zR x6) (hx7 : zR x7) {d : zD} (h : j_L_isMessage_124   x1 x3 x4 x5 x6 x7 d = some (rv, dz)) : zP V X 8 0 0 124 [some (.ref (zad V 0)), some (.int (zI x1)), none, some (.int (zI x3)), some (.int (zI x4)), some (.int (zI x5)), some (.int (zI x6)), some (.int (zI x7))] [] d := by
  refine zP_iload_n (pc := 124) C (x := zI x3) dL_isMessage_124 rfl rfl ?_
  refine zP_iconst (pc := 125) C dL_isMessage_125 ?_
  refine zP_icmp_ne (pc := 126) (tgt := 159) C dL_isMessage_126 rfl hx3 (zRk rfl) h (fun _ h => ?_) (fun _ h => ?_)
  · refine zP_iload (pc := 159) C (x := zI x4) dL_isMessage_159 rfl ?_
    refine zP_iconst (pc := 161) C dL_isMessage_161 ?_
    refine zP_icmp_ne (pc := 162) (tgt := 199) C dL_isMessage_162 rfl hx4 (zRk rfl) h (fun _ h => ?_) (fun _ h => ?_)
    · exact zP_mask [true, true, false, true, true, true, true, true] (wj_L_isMessage_199 hT0 C E  hx1 hx3 hx4 hx5 hx6 hx7 h)
    · refine zP_iload (pc := 165) C (x := zI x6) dL_isMessage_165 rfl ?_
      refine zP_iconst (pc := 167) C dL_isMessage_167 ?_
      refine zP_icmp_ne (pc := 168) (tgt := 197) C dL_isMessage_168 rfl hx6 (zRk rfl) h (fun _ h => ?_) (fun _ h => ?_)
      · refine zP_iconst (pc := 197) C dL_isMessage_197 ?_
        exact zP_zret (pc := 198) C E dL_isMessage_198 (Or.inl rfl) h
      · refine zP_iload (pc := 171) C (x := zI x7) dL_isMessage_171 rfl ?_
        refine zP_iconst (pc := 173) C dL_isMessage_173 ?_
        refine zP_icmp_ne (pc := 174) (tgt := 197) C dL_isMessage_174 rfl hx7 (zRk rfl) h (fun _ h => ?_) (fun _ h => ?_)
        · refine zP_iconst (pc := 197) C dL_isMessage_197 ?_
          exact zP_zret (pc := 198) C E dL_isMessage_198 (Or.inl rfl) h
        · refine zP_aload_n (pc := 177) C (x := zad V 0) dL_isMessage_177 rfl rfl ?_
          refine zP_iload_n (pc := 178) C (x := zI x1) dL_isMessage_178 rfl rfl ?_
          refine zP_iload_n (pc := 179) C (x := zI x3) dL_isMessage_179 rfl rfl ?_
          refine zP_iconst (pc := 180) C dL_isMessage_180 ?_
          obtain ⟨v181, d1, hc, h⟩ := zc_h h
          refine zP_callS (pc := 181) (As := [.ref (zad V 0), .int (zI x1), .int (zI x3), .int (zI 1)]) (st := []) C m99_93 dL_isMessage_181 (t_L_isInRow hT0 hx1 hx3 (zRk rfl) hc) ⟨Nat.le_of_ble_eq_true rfl, Nat.le_of_ble_eq_true rfl⟩ rfl (Nat.le_of_ble_eq_true rfl) ⟨Nat.zero_le _, Nat.zero_le _⟩ fun hw => ?_
          have hbv181 := hw
          have hv181 := z01 hw
          clear hc hw
          show zP V X 8 0 0 184 _ [.int (zI v181)] d1
          revert h
          generalize d1 = d
          intro h
          refine zP_if_eq (pc := 184) (tgt := 197) C dL_isMessage_184 rfl hv181 h (fun _ h => ?_) (fun _ h => ?_)
          · refine zP_iconst (pc := 197) C dL_isMessage_197 ?_
            exact zP_zret (pc := 198) C E dL_isMessage_198 (Or.inl rfl) h
          · refine zP_aload_n (pc := 187) C (x := zad V 0) dL_isMessage_187 rfl rfl ?_
            refine zP_iload_n (pc := 188) C (x := zI x1) dL_isMessage_188 rfl rfl ?_
            refine zP_iload_n (pc := 189) C (x := zI x3) dL_isMessage_189 rfl rfl ?_
            refine zP_iconst (pc := 190) C dL_isMessage_190 ?_
            obtain ⟨v191, d1, hc, h⟩ := zc_h h
            refine zP_callS (pc := 191) (As := [.ref (zad V 0), .int (zI x1), .int (zI x3), .int (zI 2)]) (st := []) C m99_93 dL_isMessage_191 (t_L_isInRow hT0 hx1 hx3 (zRk rfl) hc) ⟨Nat.le_of_ble_eq_true rfl, Nat.le_of_ble_eq_true rfl⟩ rfl (Nat.le_of_ble_eq_true rfl) ⟨Nat.zero_le _, Nat.zero_le _⟩ fun hw => ?_
            have hbv191 := hw
            have hv191 := z01 hw
            clear hc hw
            show zP V X 8 0 0 194 _ [.int (zI v191)] d1
            revert h
            generalize d1 = d
            intro h
            refine zP_if_eq (pc := 194) (tgt := 199) C dL_isMessage_194 rfl hv191 h (fun _ h => ?_) (fun _ h => ?_)
            · exact zP_mask [true, true, false, true, true, true, true, true] (wj_L_isMessage_199 hT0 C E  hx1 hx3 hx4 hx5 hx6 hx7 h)
            · refine zP_iconst (pc := 197) C dL_isMessage_197 ?_
              exact zP_zret (pc := 198) C E dL_isMessage_198 (Or.inl rfl) h
  · refine zP_iload (pc := 129) C (x := zI x4) dL_isMessage_129 rfl ?_
    refine zP_if_eq (pc := 131) (tgt := 153) C dL_isMessage_131 rfl hx4 h (fun _ h => ?_) (fun _ h => ?_)
    · refine zP_iconst (pc := 153) C dL_isMessage_153 ?_
      refine zP_goto (pc := 154) (tgt := 158) C dL_isMessage_154 rfl ?_
      exact zP_zret (pc := 158) C E dL_isMessage_158 (Or.inr rfl) h
    · refine zP_iload (pc := 134) C (x := zI x4) dL_isMessage_134 rfl ?_
      refine zP_iconst (pc := 136) C dL_isMessage_136 ?_
      refine zP_icmp_ne (pc := 137) (tgt := 157) C dL_isMessage_137 rfl hx4 (zRk rfl) h (fun _ h => ?_) (fun _ h => ?_)
      · refine zP_iconst (pc := 157) C dL_isMessage_157 ?_
        exact zP_zret (pc := 158) C E dL_isMessage_158 (Or.inl rfl) h
      · refine zP_iload (pc := 140) C (x := zI x7) dL_isMessage_140 rfl ?_
        refine zP_iload (pc := 142) C (x := zI x5) dL_isMessage_142 rfl ?_
        refine zP_icmp_ne (pc := 144) (tgt := 157) C dL_isMessage_144 rfl hx7 hx5 h (fun _ h => ?_) (fun _ h => ?_)
        · refine zP_iconst (pc := 157) C dL_isMessage_157 ?_
          exact zP_zret (pc := 158) C E dL_isMessage_158 (Or.inl rfl) h
        · refine zP_iload (pc := 147) C (x := zI x6) dL_isMessage_147 rfl ?_
          refine zP_iconst (pc := 149) C dL_isMessage_149 ?_
          refine zP_icmp_ne (pc := 150) (tgt := 157) C dL_isMessage_150 rfl hx6 (zRk rfl) h (fun _ h => ?_) (fun _ h => ?_)
          · refine zP_iconst (pc := 157) C dL_isMessage_157 ?_
            exact zP_zret (pc := 158) C E dL_isMessage_158 (Or.inl rfl) h
          · refine zP_iconst (pc := 153) C dL_isMessage_153 ?_
            refine zP_goto (pc := 154) (tgt := 158) C dL_isMessage_154 rfl ?_
            exact zP_zret (pc := 158) C E dL_isMessage_158 (Or.inr rfl) h
def j_L_isMessage_83   (x1 x2 x3 x4 x5 x6 x7 : Int) (d : zD) : Option (Int × zD) :=
  if (x4 : Int) ≤ 0 then (
    j_L_isMessage_124   x1 x3 x4 x5 x6 x7 d)
  else (
    zc (f_X11_message  x1 4 d) fun v93 d => zx v93 <|
    if (x5 : Int) < v93 then (
      some (0, d))
    else (
      if (x2 : Int) = (-1) then (
        j_L_isMessage_124   x1 x3 x4 x5 x6 x7 d)
      else (
        zc (f_X11_message  x1 4 d) fun v109 d => zx v109 <|
        zc (f_X11_message  x1 2 d) fun v115 d => zx v115 <|
        zl (zw (v109 + v115)) fun v118 =>
        if (v118 : Int) ≤ x5 then (
          j_L_isMessage_124   x1 x3 x4 x5 x6 x7 d)
        else (
          some (0, d)))))
theorem wj_L_isMessage_83 {V : zW} {X : zX}  (hT0 : zo11 V) (C : zOk V X cL_isMessage RL 8 (zrm 4) (some .boolean)) {rv : Int} {dz : zD} (E : zEnd V X (some (.int (zI rv))) (rv = 0 ∨ rv = 1) dz)  {x1 x2 x3 x4 x5 x6 x7 : Int} (hx1 : zR x1) (hx2 : zR x2) (hx3 : zR x3) (hx4 : zR x4) (hx5 : zR x5) (hx6 : zR x6) (hx7 : zR x7) {d : zD} (h : j_L_isMessage_83   x1 x2 x3 x4 x5 x6 x7 d = some (rv, dz)) : zP V X 8 0 0 83 [some (.ref (zad V 0)), some (.int (zI x1)), some (.int (zI x2)), some (.int (zI x3)), some (.int (zI x4)), some (.int (zI x5)), some (.int (zI x6)), some (.int (zI x7))] [] d := by
  refine zP_iload (pc := 83) C (x := zI x4) dL_isMessage_83 rfl ?_
  refine zP_if_le (pc := 85) (tgt := 124) C dL_isMessage_85 rfl hx4 h (fun _ h => ?_) (fun _ h => ?_)
  · exact zP_mask [true, true, false, true, true, true, true, true] (wj_L_isMessage_124 hT0 C E  hx1 hx3 hx4 hx5 hx6 hx7 h)
  · refine zP_iload (pc := 88) C (x := zI x5) dL_isMessage_88 rfl ?_
    refine zP_aload_n (pc := 90) C (x := zad V 0) dL_isMessage_90 rfl rfl ?_
    refine zP_iload_n (pc := 91) C (x := zI x1) dL_isMessage_91 rfl rfl ?_
    refine zP_iconst (pc := 92) C dL_isMessage_92 ?_
    obtain ⟨v93, d1, hc, h⟩ := zc_h h
    obtain ⟨hnv93, h⟩ := zx_h h
    refine zP_callV (pc := 93) (As := [.int (zI x1), .int (zI 4)]) (st := [.int (zI x5)]) C m99_90 dL_isMessage_93 (s_X11 hT0) rfl (t_X11_message hT0 hx1 (zRk rfl) hc hnv93) ⟨Nat.le_of_ble_eq_true rfl, Nat.le_of_ble_eq_true rfl⟩ rfl (Nat.le_of_ble_eq_true rfl) ⟨Nat.zero_le _, Nat.zero_le _⟩ fun hw => ?_
    have hv93 := hw
    clear hc hw
    show zP V X 8 0 0 96 _ [.int (zI v93), .int (zI x5)] d1
    revert h
    generalize d1 = d
    intro h
    refine zP_icmp_lt (pc := 96) (tgt := 122) C dL_isMessage_96 rfl hx5 hv93 h (fun _ h => ?_) (fun _ h => ?_)
    · refine zP_iconst (pc := 122) C dL_isMessage_122 ?_
      exact zP_zret (pc := 123) C E dL_isMessage_123 (Or.inl rfl) h
    · refine zP_iload_n (pc := 99) C (x := zI x2) dL_isMessage_99 rfl rfl ?_
      refine zP_iconst (pc := 100) C dL_isMessage_100 ?_
      refine zP_icmp_eq (pc := 101) (tgt := 124) C dL_isMessage_101 rfl hx2 (zRk rfl) h (fun _ h => ?_) (fun _ h => ?_)
      · exact zP_mask [true, true, false, true, true, true, true, true] (wj_L_isMessage_124 hT0 C E  hx1 hx3 hx4 hx5 hx6 hx7 h)
      · refine zP_iload (pc := 104) C (x := zI x5) dL_isMessage_104 rfl ?_
        refine zP_aload_n (pc := 106) C (x := zad V 0) dL_isMessage_106 rfl rfl ?_
        refine zP_iload_n (pc := 107) C (x := zI x1) dL_isMessage_107 rfl rfl ?_
        refine zP_iconst (pc := 108) C dL_isMessage_108 ?_
        obtain ⟨v109, d1, hc, h⟩ := zc_h h
        obtain ⟨hnv109, h⟩ := zx_h h
        refine zP_callV (pc := 109) (As := [.int (zI x1), .int (zI 4)]) (st := [.int (zI x5)]) C m99_90 dL_isMessage_109 (s_X11 hT0) rfl (t_X11_message hT0 hx1 (zRk rfl) hc hnv109) ⟨Nat.le_of_ble_eq_true rfl, Nat.le_of_ble_eq_true rfl⟩ rfl (Nat.le_of_ble_eq_true rfl) ⟨Nat.zero_le _, Nat.zero_le _⟩ fun hw => ?_
        have hv109 := hw
        clear hc hw
        show zP V X 8 0 0 112 _ [.int (zI v109), .int (zI x5)] d1
        revert h
        generalize d1 = d
        intro h
        refine zP_aload_n (pc := 112) C (x := zad V 0) dL_isMessage_112 rfl rfl ?_
        refine zP_iload_n (pc := 113) C (x := zI x1) dL_isMessage_113 rfl rfl ?_
        refine zP_iconst (pc := 114) C dL_isMessage_114 ?_
        obtain ⟨v115, d1, hc, h⟩ := zc_h h
        obtain ⟨hnv115, h⟩ := zx_h h
        refine zP_callV (pc := 115) (As := [.int (zI x1), .int (zI 2)]) (st := [.int (zI v109), .int (zI x5)]) C m99_90 dL_isMessage_115 (s_X11 hT0) rfl (t_X11_message hT0 hx1 (zRk rfl) hc hnv115) ⟨Nat.le_of_ble_eq_true rfl, Nat.le_of_ble_eq_true rfl⟩ rfl (Nat.le_of_ble_eq_true rfl) ⟨Nat.zero_le _, Nat.zero_le _⟩ fun hw => ?_
        have hv115 := hw
        clear hc hw
        show zP V X 8 0 0 118 _ [.int (zI v115), .int (zI v109), .int (zI x5)] d1
        revert h
        generalize d1 = d
        intro h
        refine zP_iadd (pc := 118) C dL_isMessage_118 h fun v118 hv118 h => ?_
        refine zP_icmp_ge (pc := 119) (tgt := 124) C dL_isMessage_119 rfl hx5 hv118 h (fun _ h => ?_) (fun _ h => ?_)
        · exact zP_mask [true, true, false, true, true, true, true, true] (wj_L_isMessage_124 hT0 C E  hx1 hx3 hx4 hx5 hx6 hx7 h)
        · refine zP_iconst (pc := 122) C dL_isMessage_122 ?_
          exact zP_zret (pc := 123) C E dL_isMessage_123 (Or.inl rfl) h
def f_L_isMessage  (x1 : Int) (d : zD) : Option (Int × zD) :=
  zc (f_X11_message  x1 0 d) fun v3 d => zx v3 <|
  zc (f_X11_message  x1 1 d) fun v10 d => zx v10 <|
  zc (f_X11_message  x1 3 d) fun v17 d => zx v17 <|
  zc (f_X11_message  x1 5 d) fun v25 d => zx v25 <|
  zc (f_X11_message  x1 6 d) fun v34 d => zx v34 <|
  zc (f_X11_message  x1 7 d) fun v43 d => zx v43 <|
  if (v17 : Int) = 0 then (
    if (v25 : Int) = (-1) then (
      if (v34 : Int) = (-1) then (
        if (v43 : Int) = (-1) then (
          zc (f_L_isInRow  x1 v3 0 d) fun v75 d =>
          if (v75 : Int) = 0 then (
            some (0, d))
          else (
            j_L_isMessage_83   x1 v3 v10 v17 v25 v34 v43 d))
        else (
          some (0, d)))
      else (
        some (0, d)))
    else (
      some (0, d)))
  else (
    j_L_isMessage_83   x1 v3 v10 v17 v25 v34 v43 d)
theorem t_L_isMessage {V : zW}  (hT0 : zo11 V) {x1 : Int} (hx1 : zR x1) {d dz : zD} {rv : Int} (h : f_L_isMessage  x1 d = some (rv, dz)) : zMet V 4 yL_isMessage cL_isMessage 8 (some .boolean) [.ref (zad V 0), .int (zI x1)] d (some (.int (zI rv))) (rv = 0 ∨ rv = 1) dz := by
  refine zMet_by RL pn99 rfl (Nat.le_of_ble_eq_true rfl) [some (.ref (zad V 0)), some (.int (zI x1)), none, none, none, none, none, none] rfl fun X C E => ?_
  refine zP_aload_n (pc := 0) C (x := zad V 0) dL_isMessage_0 rfl rfl ?_
  refine zP_iload_n (pc := 1) C (x := zI x1) dL_isMessage_1 rfl rfl ?_
  refine zP_iconst (pc := 2) C dL_isMessage_2 ?_
  obtain ⟨v3, d1, hc, h⟩ := zc_h h
  obtain ⟨hnv3, h⟩ := zx_h h
  refine zP_callV (pc := 3) (As := [.int (zI x1), .int (zI 0)]) (st := []) C m99_90 dL_isMessage_3 (s_X11 hT0) rfl (t_X11_message hT0 hx1 (zRk rfl) hc hnv3) ⟨Nat.le_of_ble_eq_true rfl, Nat.le_of_ble_eq_true rfl⟩ rfl (Nat.le_of_ble_eq_true rfl) ⟨Nat.zero_le _, Nat.zero_le _⟩ fun hw => ?_
  have hv3 := hw
  clear hc hw
  show zP V X 8 0 0 6 _ [.int (zI v3)] d1
  revert h
  generalize d1 = d
  intro h
  refine zP_istore_n (pc := 6) C (L' := [some (.ref (zad V 0)), some (.int (zI x1)), some (.int (zI v3)), none, none, none, none, none]) dL_isMessage_6 rfl (Nat.le_of_ble_eq_true rfl) rfl rfl ?_
  refine zP_aload_n (pc := 7) C (x := zad V 0) dL_isMessage_7 rfl rfl ?_
  refine zP_iload_n (pc := 8) C (x := zI x1) dL_isMessage_8 rfl rfl ?_
  refine zP_iconst (pc := 9) C dL_isMessage_9 ?_
  obtain ⟨v10, d1, hc, h⟩ := zc_h h
  obtain ⟨hnv10, h⟩ := zx_h h
  refine zP_callV (pc := 10) (As := [.int (zI x1), .int (zI 1)]) (st := []) C m99_90 dL_isMessage_10 (s_X11 hT0) rfl (t_X11_message hT0 hx1 (zRk rfl) hc hnv10) ⟨Nat.le_of_ble_eq_true rfl, Nat.le_of_ble_eq_true rfl⟩ rfl (Nat.le_of_ble_eq_true rfl) ⟨Nat.zero_le _, Nat.zero_le _⟩ fun hw => ?_
  have hv10 := hw
  clear hc hw
  show zP V X 8 0 0 13 _ [.int (zI v10)] d1
  revert h
  generalize d1 = d
  intro h
  refine zP_istore_n (pc := 13) C (L' := [some (.ref (zad V 0)), some (.int (zI x1)), some (.int (zI v3)), some (.int (zI v10)), none, none, none, none]) dL_isMessage_13 rfl (Nat.le_of_ble_eq_true rfl) rfl rfl ?_
  refine zP_aload_n (pc := 14) C (x := zad V 0) dL_isMessage_14 rfl rfl ?_
  refine zP_iload_n (pc := 15) C (x := zI x1) dL_isMessage_15 rfl rfl ?_
  refine zP_iconst (pc := 16) C dL_isMessage_16 ?_
  obtain ⟨v17, d1, hc, h⟩ := zc_h h
  obtain ⟨hnv17, h⟩ := zx_h h
  refine zP_callV (pc := 17) (As := [.int (zI x1), .int (zI 3)]) (st := []) C m99_90 dL_isMessage_17 (s_X11 hT0) rfl (t_X11_message hT0 hx1 (zRk rfl) hc hnv17) ⟨Nat.le_of_ble_eq_true rfl, Nat.le_of_ble_eq_true rfl⟩ rfl (Nat.le_of_ble_eq_true rfl) ⟨Nat.zero_le _, Nat.zero_le _⟩ fun hw => ?_
  have hv17 := hw
  clear hc hw
  show zP V X 8 0 0 20 _ [.int (zI v17)] d1
  revert h
  generalize d1 = d
  intro h
  refine zP_istore (pc := 20) C (L' := [some (.ref (zad V 0)), some (.int (zI x1)), some (.int (zI v3)), some (.int (zI v10)), some (.int (zI v17)), none, none, none]) dL_isMessage_20 (Nat.le_of_ble_eq_true rfl) rfl rfl ?_
  refine zP_aload_n (pc := 22) C (x := zad V 0) dL_isMessage_22 rfl rfl ?_
  refine zP_iload_n (pc := 23) C (x := zI x1) dL_isMessage_23 rfl rfl ?_
  refine zP_iconst (pc := 24) C dL_isMessage_24 ?_
  obtain ⟨v25, d1, hc, h⟩ := zc_h h
  obtain ⟨hnv25, h⟩ := zx_h h
  refine zP_callV (pc := 25) (As := [.int (zI x1), .int (zI 5)]) (st := []) C m99_90 dL_isMessage_25 (s_X11 hT0) rfl (t_X11_message hT0 hx1 (zRk rfl) hc hnv25) ⟨Nat.le_of_ble_eq_true rfl, Nat.le_of_ble_eq_true rfl⟩ rfl (Nat.le_of_ble_eq_true rfl) ⟨Nat.zero_le _, Nat.zero_le _⟩ fun hw => ?_
  have hv25 := hw
  clear hc hw
  show zP V X 8 0 0 28 _ [.int (zI v25)] d1
  revert h
  generalize d1 = d
  intro h
  refine zP_istore (pc := 28) C (L' := [some (.ref (zad V 0)), some (.int (zI x1)), some (.int (zI v3)), some (.int (zI v10)), some (.int (zI v17)), some (.int (zI v25)), none, none]) dL_isMessage_28 (Nat.le_of_ble_eq_true rfl) rfl rfl ?_
  refine zP_aload_n (pc := 30) C (x := zad V 0) dL_isMessage_30 rfl rfl ?_
  refine zP_iload_n (pc := 31) C (x := zI x1) dL_isMessage_31 rfl rfl ?_
  refine zP_bipush (pc := 32) C dL_isMessage_32 rfl ?_
  obtain ⟨v34, d1, hc, h⟩ := zc_h h
  obtain ⟨hnv34, h⟩ := zx_h h
  refine zP_callV (pc := 34) (As := [.int (zI x1), .int (zI 6)]) (st := []) C m99_90 dL_isMessage_34 (s_X11 hT0) rfl (t_X11_message hT0 hx1 (zRk rfl) hc hnv34) ⟨Nat.le_of_ble_eq_true rfl, Nat.le_of_ble_eq_true rfl⟩ rfl (Nat.le_of_ble_eq_true rfl) ⟨Nat.zero_le _, Nat.zero_le _⟩ fun hw => ?_
  have hv34 := hw
  clear hc hw
  show zP V X 8 0 0 37 _ [.int (zI v34)] d1
  revert h
  generalize d1 = d
  intro h
  refine zP_istore (pc := 37) C (L' := [some (.ref (zad V 0)), some (.int (zI x1)), some (.int (zI v3)), some (.int (zI v10)), some (.int (zI v17)), some (.int (zI v25)), some (.int (zI v34)), none]) dL_isMessage_37 (Nat.le_of_ble_eq_true rfl) rfl rfl ?_
  refine zP_aload_n (pc := 39) C (x := zad V 0) dL_isMessage_39 rfl rfl ?_
  refine zP_iload_n (pc := 40) C (x := zI x1) dL_isMessage_40 rfl rfl ?_
  refine zP_bipush (pc := 41) C dL_isMessage_41 rfl ?_
  obtain ⟨v43, d1, hc, h⟩ := zc_h h
  obtain ⟨hnv43, h⟩ := zx_h h
  refine zP_callV (pc := 43) (As := [.int (zI x1), .int (zI 7)]) (st := []) C m99_90 dL_isMessage_43 (s_X11 hT0) rfl (t_X11_message hT0 hx1 (zRk rfl) hc hnv43) ⟨Nat.le_of_ble_eq_true rfl, Nat.le_of_ble_eq_true rfl⟩ rfl (Nat.le_of_ble_eq_true rfl) ⟨Nat.zero_le _, Nat.zero_le _⟩ fun hw => ?_
  have hv43 := hw
  clear hc hw
  show zP V X 8 0 0 46 _ [.int (zI v43)] d1
  revert h
  generalize d1 = d
  intro h
  refine zP_istore (pc := 46) C (L' := [some (.ref (zad V 0)), some (.int (zI x1)), some (.int (zI v3)), some (.int (zI v10)), some (.int (zI v17)), some (.int (zI v25)), some (.int (zI v34)), some (.int (zI v43))]) dL_isMessage_46 (Nat.le_of_ble_eq_true rfl) rfl rfl ?_
  refine zP_iload (pc := 48) C (x := zI v17) dL_isMessage_48 rfl ?_
  refine zP_if_ne (pc := 50) (tgt := 83) C dL_isMessage_50 rfl hv17 h (fun _ h => ?_) (fun _ h => ?_)
  · exact zP_mask [true, true, true, true, true, true, true, true] (wj_L_isMessage_83 hT0 C E  hx1 hv3 hv10 hv17 hv25 hv34 hv43 h)
  · refine zP_iload (pc := 53) C (x := zI v25) dL_isMessage_53 rfl ?_
    refine zP_iconst (pc := 55) C dL_isMessage_55 ?_
    refine zP_icmp_ne (pc := 56) (tgt := 81) C dL_isMessage_56 rfl hv25 (zRk rfl) h (fun _ h => ?_) (fun _ h => ?_)
    · refine zP_iconst (pc := 81) C dL_isMessage_81 ?_
      exact zP_zret (pc := 82) C E dL_isMessage_82 (Or.inl rfl) h
    · refine zP_iload (pc := 59) C (x := zI v34) dL_isMessage_59 rfl ?_
      refine zP_iconst (pc := 61) C dL_isMessage_61 ?_
      refine zP_icmp_ne (pc := 62) (tgt := 81) C dL_isMessage_62 rfl hv34 (zRk rfl) h (fun _ h => ?_) (fun _ h => ?_)
      · refine zP_iconst (pc := 81) C dL_isMessage_81 ?_
        exact zP_zret (pc := 82) C E dL_isMessage_82 (Or.inl rfl) h
      · refine zP_iload (pc := 65) C (x := zI v43) dL_isMessage_65 rfl ?_
        refine zP_iconst (pc := 67) C dL_isMessage_67 ?_
        refine zP_icmp_ne (pc := 68) (tgt := 81) C dL_isMessage_68 rfl hv43 (zRk rfl) h (fun _ h => ?_) (fun _ h => ?_)
        · refine zP_iconst (pc := 81) C dL_isMessage_81 ?_
          exact zP_zret (pc := 82) C E dL_isMessage_82 (Or.inl rfl) h
        · refine zP_aload_n (pc := 71) C (x := zad V 0) dL_isMessage_71 rfl rfl ?_
          refine zP_iload_n (pc := 72) C (x := zI x1) dL_isMessage_72 rfl rfl ?_
          refine zP_iload_n (pc := 73) C (x := zI v3) dL_isMessage_73 rfl rfl ?_
          refine zP_iconst (pc := 74) C dL_isMessage_74 ?_
          obtain ⟨v75, d1, hc, h⟩ := zc_h h
          refine zP_callS (pc := 75) (As := [.ref (zad V 0), .int (zI x1), .int (zI v3), .int (zI 0)]) (st := []) C m99_93 dL_isMessage_75 (t_L_isInRow hT0 hx1 hv3 (zRk rfl) hc) ⟨Nat.le_of_ble_eq_true rfl, Nat.le_of_ble_eq_true rfl⟩ rfl (Nat.le_of_ble_eq_true rfl) ⟨Nat.zero_le _, Nat.zero_le _⟩ fun hw => ?_
          have hbv75 := hw
          have hv75 := z01 hw
          clear hc hw
          show zP V X 8 0 0 78 _ [.int (zI v75)] d1
          revert h
          generalize d1 = d
          intro h
          refine zP_if_ne (pc := 78) (tgt := 83) C dL_isMessage_78 rfl hv75 h (fun _ h => ?_) (fun _ h => ?_)
          · exact zP_mask [true, true, true, true, true, true, true, true] (wj_L_isMessage_83 hT0 C E  hx1 hv3 hv10 hv17 hv25 hv34 hv43 h)
          · refine zP_iconst (pc := 81) C dL_isMessage_81 ?_
            exact zP_zret (pc := 82) C E dL_isMessage_82 (Or.inl rfl) h
def j_L_isTerminal_182   (x1 s0 s1 : Int) (d : zD) : Option (Int × zD) :=
  if (s1 : Int) = s0 then (
    zc (f_X11_terminal  x1 4 d) fun v188 d => zx v188 <|
    if (v188 : Int) = 0 then (
      some (1, d))
    else (
      zc (f_X11_terminal  x1 5 d) fun v197 d => zx v197 <|
      if (5 : Int) ≤ v197 then (
        some (0, d))
      else (
        some (1, d))))
  else (
    some (0, d))
theorem wj_L_isTerminal_182 {V : zW} {X : zX}  (hT0 : zo11 V) (C : zOk V X cL_isTerminal RL 6 (zrm 4) (some .boolean)) {rv : Int} {dz : zD} (E : zEnd V X (some (.int (zI rv))) (rv = 0 ∨ rv = 1) dz)  {x1 s0 s1 : Int} (hx1 : zR x1) (hs0 : zR s0) (hs1 : zR s1) {d : zD} (h : j_L_isTerminal_182   x1 s0 s1 d = some (rv, dz)) : zP V X 6 0 0 182 [some (.ref (zad V 0)), some (.int (zI x1)), none, none, none, none] [.int (zI s0), .int (zI s1)] d := by
  refine zP_icmp_ne (pc := 182) (tgt := 208) C dL_isTerminal_182 rfl hs1 hs0 h (fun _ h => ?_) (fun _ h => ?_)
  · refine zP_iconst (pc := 208) C dL_isTerminal_208 ?_
    exact zP_zret (pc := 209) C E dL_isTerminal_209 (Or.inl rfl) h
  · refine zP_aload_n (pc := 185) C (x := zad V 0) dL_isTerminal_185 rfl rfl ?_
    refine zP_iload_n (pc := 186) C (x := zI x1) dL_isTerminal_186 rfl rfl ?_
    refine zP_iconst (pc := 187) C dL_isTerminal_187 ?_
    obtain ⟨v188, d1, hc, h⟩ := zc_h h
    obtain ⟨hnv188, h⟩ := zx_h h
    refine zP_callV (pc := 188) (As := [.int (zI x1), .int (zI 4)]) (st := []) C m99_86 dL_isTerminal_188 (s_X11 hT0) rfl (t_X11_terminal hT0 hx1 (zRk rfl) hc hnv188) ⟨Nat.le_of_ble_eq_true rfl, Nat.le_of_ble_eq_true rfl⟩ rfl (Nat.le_of_ble_eq_true rfl) ⟨Nat.zero_le _, Nat.zero_le _⟩ fun hw => ?_
    have hv188 := hw
    clear hc hw
    show zP V X 6 0 0 191 _ [.int (zI v188)] d1
    revert h
    generalize d1 = d
    intro h
    refine zP_if_eq (pc := 191) (tgt := 204) C dL_isTerminal_191 rfl hv188 h (fun _ h => ?_) (fun _ h => ?_)
    · refine zP_iconst (pc := 204) C dL_isTerminal_204 ?_
      refine zP_goto (pc := 205) (tgt := 209) C dL_isTerminal_205 rfl ?_
      exact zP_zret (pc := 209) C E dL_isTerminal_209 (Or.inr rfl) h
    · refine zP_aload_n (pc := 194) C (x := zad V 0) dL_isTerminal_194 rfl rfl ?_
      refine zP_iload_n (pc := 195) C (x := zI x1) dL_isTerminal_195 rfl rfl ?_
      refine zP_iconst (pc := 196) C dL_isTerminal_196 ?_
      obtain ⟨v197, d1, hc, h⟩ := zc_h h
      obtain ⟨hnv197, h⟩ := zx_h h
      refine zP_callV (pc := 197) (As := [.int (zI x1), .int (zI 5)]) (st := []) C m99_86 dL_isTerminal_197 (s_X11 hT0) rfl (t_X11_terminal hT0 hx1 (zRk rfl) hc hnv197) ⟨Nat.le_of_ble_eq_true rfl, Nat.le_of_ble_eq_true rfl⟩ rfl (Nat.le_of_ble_eq_true rfl) ⟨Nat.zero_le _, Nat.zero_le _⟩ fun hw => ?_
      have hv197 := hw
      clear hc hw
      show zP V X 6 0 0 200 _ [.int (zI v197)] d1
      revert h
      generalize d1 = d
      intro h
      refine zP_iconst (pc := 200) C dL_isTerminal_200 ?_
      refine zP_icmp_ge (pc := 201) (tgt := 208) C dL_isTerminal_201 rfl hv197 (zRk rfl) h (fun _ h => ?_) (fun _ h => ?_)
      · refine zP_iconst (pc := 208) C dL_isTerminal_208 ?_
        exact zP_zret (pc := 209) C E dL_isTerminal_209 (Or.inl rfl) h
      · refine zP_iconst (pc := 204) C dL_isTerminal_204 ?_
        refine zP_goto (pc := 205) (tgt := 209) C dL_isTerminal_205 rfl ?_
        exact zP_zret (pc := 209) C E dL_isTerminal_209 (Or.inr rfl) h
def j_L_isTerminal_181   (x1 s0 : Int) (d : zD) : Option (Int × zD) :=
  j_L_isTerminal_182   x1 0 s0 d
theorem wj_L_isTerminal_181 {V : zW} {X : zX}  (hT0 : zo11 V) (C : zOk V X cL_isTerminal RL 6 (zrm 4) (some .boolean)) {rv : Int} {dz : zD} (E : zEnd V X (some (.int (zI rv))) (rv = 0 ∨ rv = 1) dz)  {x1 s0 : Int} (hx1 : zR x1) (hs0 : zR s0) {d : zD} (h : j_L_isTerminal_181   x1 s0 d = some (rv, dz)) : zP V X 6 0 0 181 [some (.ref (zad V 0)), some (.int (zI x1)), none, none, none, none] [.int (zI s0)] d := by
  refine zP_iconst (pc := 181) C dL_isTerminal_181 ?_
  exact zP_mask [true, true, false, false, false, false] (wj_L_isTerminal_182 hT0 C E  hx1 (zRk rfl) hs0 h)
def j_L_isTerminal_154   (x1 x3 x5 s0 s1 : Int) (d : zD) : Option (Int × zD) :=
  if (s1 : Int) = s0 then (
    if (x5 : Int) = (-1) then (
      j_L_isTerminal_181   x1 x3 d)
    else (
      zc (f_X11_message  x5 3 d) fun v170 d => zx v170 <|
      if (v170 : Int) ≤ 1 then (
        j_L_isTerminal_181   x1 x3 d)
      else (
        j_L_isTerminal_182   x1 1 x3 d)))
  else (
    some (0, d))
theorem wj_L_isTerminal_154 {V : zW} {X : zX}  (hT0 : zo11 V) (C : zOk V X cL_isTerminal RL 6 (zrm 4) (some .boolean)) {rv : Int} {dz : zD} (E : zEnd V X (some (.int (zI rv))) (rv = 0 ∨ rv = 1) dz)  {x1 x3 x5 s0 s1 : Int} (hx1 : zR x1) (hx3 : zR x3) (hx5 : zR x5) (hs0 : zR s0) (hs1 : zR s1) {d : zD} (h : j_L_isTerminal_154   x1 x3 x5 s0 s1 d = some (rv, dz)) : zP V X 6 0 0 154 [some (.ref (zad V 0)), some (.int (zI x1)), none, some (.int (zI x3)), none, some (.int (zI x5))] [.int (zI s0), .int (zI s1)] d := by
  refine zP_icmp_eq (pc := 154) (tgt := 159) C dL_isTerminal_154 rfl hs1 hs0 h (fun _ h => ?_) (fun _ h => ?_)
  · refine zP_iload_n (pc := 159) C (x := zI x3) dL_isTerminal_159 rfl rfl ?_
    refine zP_iload (pc := 160) C (x := zI x5) dL_isTerminal_160 rfl ?_
    refine zP_iconst (pc := 162) C dL_isTerminal_162 ?_
    refine zP_icmp_eq (pc := 163) (tgt := 181) C dL_isTerminal_163 rfl hx5 (zRk rfl) h (fun _ h => ?_) (fun _ h => ?_)
    · exact zP_mask [true, true, false, false, false, false] (wj_L_isTerminal_181 hT0 C E  hx1 hx3 h)
    · refine zP_aload_n (pc := 166) C (x := zad V 0) dL_isTerminal_166 rfl rfl ?_
      refine zP_iload (pc := 167) C (x := zI x5) dL_isTerminal_167 rfl ?_
      refine zP_iconst (pc := 169) C dL_isTerminal_169 ?_
      obtain ⟨v170, d1, hc, h⟩ := zc_h h
      obtain ⟨hnv170, h⟩ := zx_h h
      refine zP_callV (pc := 170) (As := [.int (zI x5), .int (zI 3)]) (st := [.int (zI x3)]) C m99_90 dL_isTerminal_170 (s_X11 hT0) rfl (t_X11_message hT0 hx5 (zRk rfl) hc hnv170) ⟨Nat.le_of_ble_eq_true rfl, Nat.le_of_ble_eq_true rfl⟩ rfl (Nat.le_of_ble_eq_true rfl) ⟨Nat.zero_le _, Nat.zero_le _⟩ fun hw => ?_
      have hv170 := hw
      clear hc hw
      show zP V X 6 0 0 173 _ [.int (zI v170), .int (zI x3)] d1
      revert h
      generalize d1 = d
      intro h
      refine zP_iconst (pc := 173) C dL_isTerminal_173 ?_
      refine zP_icmp_le (pc := 174) (tgt := 181) C dL_isTerminal_174 rfl hv170 (zRk rfl) h (fun _ h => ?_) (fun _ h => ?_)
      · exact zP_mask [true, true, false, false, false, false] (wj_L_isTerminal_181 hT0 C E  hx1 hx3 h)
      · refine zP_iconst (pc := 177) C dL_isTerminal_177 ?_
        refine zP_goto (pc := 178) (tgt := 182) C dL_isTerminal_178 rfl ?_
        exact zP_mask [true, true, false, false, false, false] (wj_L_isTerminal_182 hT0 C E  hx1 (zRk rfl) hx3 h)
  · refine zP_iconst (pc := 157) C dL_isTerminal_157 ?_
    exact zP_zret (pc := 158) C E dL_isTerminal_158 (Or.inl rfl) h
def j_L_isTerminal_153   (x1 x3 x5 s0 : Int) (d : zD) : Option (Int × zD) :=
  j_L_isTerminal_154   x1 x3 x5 0 s0 d
theorem wj_L_isTerminal_153 {V : zW} {X : zX}  (hT0 : zo11 V) (C : zOk V X cL_isTerminal RL 6 (zrm 4) (some .boolean)) {rv : Int} {dz : zD} (E : zEnd V X (some (.int (zI rv))) (rv = 0 ∨ rv = 1) dz)  {x1 x3 x5 s0 : Int} (hx1 : zR x1) (hx3 : zR x3) (hx5 : zR x5) (hs0 : zR s0) {d : zD} (h : j_L_isTerminal_153   x1 x3 x5 s0 d = some (rv, dz)) : zP V X 6 0 0 153 [some (.ref (zad V 0)), some (.int (zI x1)), none, some (.int (zI x3)), none, some (.int (zI x5))] [.int (zI s0)] d := by
  refine zP_iconst (pc := 153) C dL_isTerminal_153 ?_
  exact zP_mask [true, true, false, true, false, true] (wj_L_isTerminal_154 hT0 C E  hx1 hx3 hx5 (zRk rfl) hs0 h)
def j_L_isTerminal_113   (x1 x2 s0 : Int) (d : zD) : Option (Int × zD) :=
  zc (f_X11_inRow  x1 0 0 d) fun v118 d => zx v118 <|
  zc (f_X11_inRow  x1 1 0 d) fun v127 d => zx v127 <|
  if (v118 : Int) = (-1) then (
    j_L_isTerminal_153   x1 s0 v127 x2 d)
  else (
    zc (f_X11_message  v118 3 d) fun v143 d => zx v143 <|
    if (v143 : Int) ≤ 0 then (
      j_L_isTerminal_153   x1 s0 v127 x2 d)
    else (
      j_L_isTerminal_154   x1 s0 v127 1 x2 d))
theorem wj_L_isTerminal_113 {V : zW} {X : zX}  (hT0 : zo11 V) (C : zOk V X cL_isTerminal RL 6 (zrm 4) (some .boolean)) {rv : Int} {dz : zD} (E : zEnd V X (some (.int (zI rv))) (rv = 0 ∨ rv = 1) dz)  {x1 x2 s0 : Int} (hx1 : zR x1) (hx2 : zR x2) (hs0 : zR s0) {d : zD} (h : j_L_isTerminal_113   x1 x2 s0 d = some (rv, dz)) : zP V X 6 0 0 113 [some (.ref (zad V 0)), some (.int (zI x1)), some (.int (zI x2)), none, none, none] [.int (zI s0)] d := by
  refine zP_istore_n (pc := 113) C (L' := [some (.ref (zad V 0)), some (.int (zI x1)), some (.int (zI x2)), some (.int (zI s0)), none, none]) dL_isTerminal_113 rfl (Nat.le_of_ble_eq_true rfl) rfl rfl ?_
  refine zP_aload_n (pc := 114) C (x := zad V 0) dL_isTerminal_114 rfl rfl ?_
  refine zP_iload_n (pc := 115) C (x := zI x1) dL_isTerminal_115 rfl rfl ?_
  refine zP_iconst (pc := 116) C dL_isTerminal_116 ?_
  refine zP_iconst (pc := 117) C dL_isTerminal_117 ?_
  obtain ⟨v118, d1, hc, h⟩ := zc_h h
  obtain ⟨hnv118, h⟩ := zx_h h
  refine zP_callV (pc := 118) (As := [.int (zI x1), .int (zI 0), .int (zI 0)]) (st := []) C m99_82 dL_isTerminal_118 (s_X11 hT0) rfl (t_X11_inRow hT0 hx1 (zRk rfl) (zRk rfl) hc hnv118) ⟨Nat.le_of_ble_eq_true rfl, Nat.le_of_ble_eq_true rfl⟩ rfl (Nat.le_of_ble_eq_true rfl) ⟨Nat.zero_le _, Nat.zero_le _⟩ fun hw => ?_
  have hv118 := hw
  clear hc hw
  show zP V X 6 0 0 121 _ [.int (zI v118)] d1
  revert h
  generalize d1 = d
  intro h
  refine zP_istore (pc := 121) C (L' := [some (.ref (zad V 0)), some (.int (zI x1)), some (.int (zI x2)), some (.int (zI s0)), some (.int (zI v118)), none]) dL_isTerminal_121 (Nat.le_of_ble_eq_true rfl) rfl rfl ?_
  refine zP_aload_n (pc := 123) C (x := zad V 0) dL_isTerminal_123 rfl rfl ?_
  refine zP_iload_n (pc := 124) C (x := zI x1) dL_isTerminal_124 rfl rfl ?_
  refine zP_iconst (pc := 125) C dL_isTerminal_125 ?_
  refine zP_iconst (pc := 126) C dL_isTerminal_126 ?_
  obtain ⟨v127, d1, hc, h⟩ := zc_h h
  obtain ⟨hnv127, h⟩ := zx_h h
  refine zP_callV (pc := 127) (As := [.int (zI x1), .int (zI 1), .int (zI 0)]) (st := []) C m99_82 dL_isTerminal_127 (s_X11 hT0) rfl (t_X11_inRow hT0 hx1 (zRk rfl) (zRk rfl) hc hnv127) ⟨Nat.le_of_ble_eq_true rfl, Nat.le_of_ble_eq_true rfl⟩ rfl (Nat.le_of_ble_eq_true rfl) ⟨Nat.zero_le _, Nat.zero_le _⟩ fun hw => ?_
  have hv127 := hw
  clear hc hw
  show zP V X 6 0 0 130 _ [.int (zI v127)] d1
  revert h
  generalize d1 = d
  intro h
  refine zP_istore (pc := 130) C (L' := [some (.ref (zad V 0)), some (.int (zI x1)), some (.int (zI x2)), some (.int (zI s0)), some (.int (zI v118)), some (.int (zI v127))]) dL_isTerminal_130 (Nat.le_of_ble_eq_true rfl) rfl rfl ?_
  refine zP_iload_n (pc := 132) C (x := zI x2) dL_isTerminal_132 rfl rfl ?_
  refine zP_iload (pc := 133) C (x := zI v118) dL_isTerminal_133 rfl ?_
  refine zP_iconst (pc := 135) C dL_isTerminal_135 ?_
  refine zP_icmp_eq (pc := 136) (tgt := 153) C dL_isTerminal_136 rfl hv118 (zRk rfl) h (fun _ h => ?_) (fun _ h => ?_)
  · exact zP_mask [true, true, false, true, false, true] (wj_L_isTerminal_153 hT0 C E  hx1 hs0 hv127 hx2 h)
  · refine zP_aload_n (pc := 139) C (x := zad V 0) dL_isTerminal_139 rfl rfl ?_
    refine zP_iload (pc := 140) C (x := zI v118) dL_isTerminal_140 rfl ?_
    refine zP_iconst (pc := 142) C dL_isTerminal_142 ?_
    obtain ⟨v143, d1, hc, h⟩ := zc_h h
    obtain ⟨hnv143, h⟩ := zx_h h
    refine zP_callV (pc := 143) (As := [.int (zI v118), .int (zI 3)]) (st := [.int (zI x2)]) C m99_90 dL_isTerminal_143 (s_X11 hT0) rfl (t_X11_message hT0 hv118 (zRk rfl) hc hnv143) ⟨Nat.le_of_ble_eq_true rfl, Nat.le_of_ble_eq_true rfl⟩ rfl (Nat.le_of_ble_eq_true rfl) ⟨Nat.zero_le _, Nat.zero_le _⟩ fun hw => ?_
    have hv143 := hw
    clear hc hw
    show zP V X 6 0 0 146 _ [.int (zI v143), .int (zI x2)] d1
    revert h
    generalize d1 = d
    intro h
    refine zP_if_le (pc := 146) (tgt := 153) C dL_isTerminal_146 rfl hv143 h (fun _ h => ?_) (fun _ h => ?_)
    · exact zP_mask [true, true, false, true, false, true] (wj_L_isTerminal_153 hT0 C E  hx1 hs0 hv127 hx2 h)
    · refine zP_iconst (pc := 149) C dL_isTerminal_149 ?_
      refine zP_goto (pc := 150) (tgt := 154) C dL_isTerminal_150 rfl ?_
      exact zP_mask [true, true, false, true, false, true] (wj_L_isTerminal_154 hT0 C E  hx1 hs0 hv127 (zRk rfl) hx2 h)
def j_L_isTerminal_90   (x1 s0 : Int) (d : zD) : Option (Int × zD) :=
  zc (f_X11_terminal  x1 12 d) fun v95 d => zx v95 <|
  zc (f_X11_terminal  x1 11 d) fun v102 d => zx v102 <|
  if (v95 : Int) = v102 then (
    j_L_isTerminal_113   x1 s0 0 d)
  else (
    j_L_isTerminal_113   x1 s0 1 d)
theorem wj_L_isTerminal_90 {V : zW} {X : zX}  (hT0 : zo11 V) (C : zOk V X cL_isTerminal RL 6 (zrm 4) (some .boolean)) {rv : Int} {dz : zD} (E : zEnd V X (some (.int (zI rv))) (rv = 0 ∨ rv = 1) dz)  {x1 s0 : Int} (hx1 : zR x1) (hs0 : zR s0) {d : zD} (h : j_L_isTerminal_90   x1 s0 d = some (rv, dz)) : zP V X 6 0 0 90 [some (.ref (zad V 0)), some (.int (zI x1)), none, none, none, none] [.int (zI s0)] d := by
  refine zP_istore_n (pc := 90) C (L' := [some (.ref (zad V 0)), some (.int (zI x1)), some (.int (zI s0)), none, none, none]) dL_isTerminal_90 rfl (Nat.le_of_ble_eq_true rfl) rfl rfl ?_
  refine zP_aload_n (pc := 91) C (x := zad V 0) dL_isTerminal_91 rfl rfl ?_
  refine zP_iload_n (pc := 92) C (x := zI x1) dL_isTerminal_92 rfl rfl ?_
  refine zP_bipush (pc := 93) C dL_isTerminal_93 rfl ?_
  obtain ⟨v95, d1, hc, h⟩ := zc_h h
  obtain ⟨hnv95, h⟩ := zx_h h
  refine zP_callV (pc := 95) (As := [.int (zI x1), .int (zI 12)]) (st := []) C m99_86 dL_isTerminal_95 (s_X11 hT0) rfl (t_X11_terminal hT0 hx1 (zRk rfl) hc hnv95) ⟨Nat.le_of_ble_eq_true rfl, Nat.le_of_ble_eq_true rfl⟩ rfl (Nat.le_of_ble_eq_true rfl) ⟨Nat.zero_le _, Nat.zero_le _⟩ fun hw => ?_
  have hv95 := hw
  clear hc hw
  show zP V X 6 0 0 98 _ [.int (zI v95)] d1
  revert h
  generalize d1 = d
  intro h
  refine zP_aload_n (pc := 98) C (x := zad V 0) dL_isTerminal_98 rfl rfl ?_
  refine zP_iload_n (pc := 99) C (x := zI x1) dL_isTerminal_99 rfl rfl ?_
  refine zP_bipush (pc := 100) C dL_isTerminal_100 rfl ?_
  obtain ⟨v102, d1, hc, h⟩ := zc_h h
  obtain ⟨hnv102, h⟩ := zx_h h
  refine zP_callV (pc := 102) (As := [.int (zI x1), .int (zI 11)]) (st := [.int (zI v95)]) C m99_86 dL_isTerminal_102 (s_X11 hT0) rfl (t_X11_terminal hT0 hx1 (zRk rfl) hc hnv102) ⟨Nat.le_of_ble_eq_true rfl, Nat.le_of_ble_eq_true rfl⟩ rfl (Nat.le_of_ble_eq_true rfl) ⟨Nat.zero_le _, Nat.zero_le _⟩ fun hw => ?_
  have hv102 := hw
  clear hc hw
  show zP V X 6 0 0 105 _ [.int (zI v102), .int (zI v95)] d1
  revert h
  generalize d1 = d
  intro h
  refine zP_icmp_eq (pc := 105) (tgt := 112) C dL_isTerminal_105 rfl hv95 hv102 h (fun _ h => ?_) (fun _ h => ?_)
  · refine zP_iconst (pc := 112) C dL_isTerminal_112 ?_
    exact zP_mask [true, true, true, false, false, false] (wj_L_isTerminal_113 hT0 C E  hx1 hs0 (zRk rfl) h)
  · refine zP_iconst (pc := 108) C dL_isTerminal_108 ?_
    refine zP_goto (pc := 109) (tgt := 113) C dL_isTerminal_109 rfl ?_
    exact zP_mask [true, true, true, false, false, false] (wj_L_isTerminal_113 hT0 C E  hx1 hs0 (zRk rfl) h)
def l_L_isTerminal_2F  (r2 : Int → Int → zD → Option (Int × zD)) (x1 x2 : Int) (d : zD) : Option (Int × zD) :=
  if (3 : Int) ≤ x2 then (
    zc (f_X11_terminal  x1 8 d) fun v37 d => zx v37 <|
    zc (f_X11_terminal  x1 1 d) fun v43 d => zx v43 <|
    if (v43 : Int) < v37 then (
      some (0, d))
    else (
      zc (f_X11_off   d) fun v50 d =>
      zl (zshr v50 x1) fun v54 =>
      zl (zand v54 1) fun v56 =>
      zc (f_X11_terminal  x1 4 d) fun v60 d => zx v60 <|
      if (v56 : Int) = v60 then (
        some (0, d))
      else (
        zc (f_X11_terminal  x1 10 d) fun v72 d => zx v72 <|
        zc (f_X11_terminal  x1 13 d) fun v79 d => zx v79 <|
        if (v72 : Int) = v79 then (
          j_L_isTerminal_90   x1 0 d)
        else (
          j_L_isTerminal_90   x1 1 d))))
  else (
    zl (zw (6 + x2)) fun v12 =>
    zc (f_X11_terminal  x1 v12 d) fun v13 d => zx v13 <|
    zc (f_L_rowMany  x1 x2 d) fun v19 d =>
    if (v13 : Int) = v19 then (
      zl (zw (x2 + 1)) fun v27 =>
      r2 x1 v27 d)
    else (
      some (0, d)))
theorem wl_L_isTerminal_2F {V : zW} {X : zX}  (hT0 : zo11 V) (C : zOk V X cL_isTerminal RL 6 (zrm 4) (some .boolean)) {rv : Int} {dz : zD} (E : zEnd V X (some (.int (zI rv))) (rv = 0 ∨ rv = 1) dz) {r2 : Int → Int → zD → Option (Int × zD)} (hr2 : ∀ {x1 x2 : Int} {d : zD}, zR x1 → zR x2 → r2 x1 x2 d = some (rv, dz) → zP V X 6 0 0 2 [some (.ref (zad V 0)), some (.int (zI x1)), some (.int (zI x2)), none, none, none] [] d) {x1 x2 : Int} (hx1 : zR x1) (hx2 : zR x2) {d : zD} (h : l_L_isTerminal_2F  r2 x1 x2 d = some (rv, dz)) : zP V X 6 0 0 2 [some (.ref (zad V 0)), some (.int (zI x1)), some (.int (zI x2)), none, none, none] [] d := by
  refine zP_iload_n (pc := 2) C (x := zI x2) dL_isTerminal_2 rfl rfl ?_
  refine zP_iconst (pc := 3) C dL_isTerminal_3 ?_
  refine zP_icmp_ge (pc := 4) (tgt := 33) C dL_isTerminal_4 rfl hx2 (zRk rfl) h (fun _ h => ?_) (fun _ h => ?_)
  · refine zP_aload_n (pc := 33) C (x := zad V 0) dL_isTerminal_33 rfl rfl ?_
    refine zP_iload_n (pc := 34) C (x := zI x1) dL_isTerminal_34 rfl rfl ?_
    refine zP_bipush (pc := 35) C dL_isTerminal_35 rfl ?_
    obtain ⟨v37, d1, hc, h⟩ := zc_h h
    obtain ⟨hnv37, h⟩ := zx_h h
    refine zP_callV (pc := 37) (As := [.int (zI x1), .int (zI 8)]) (st := []) C m99_86 dL_isTerminal_37 (s_X11 hT0) rfl (t_X11_terminal hT0 hx1 (zRk rfl) hc hnv37) ⟨Nat.le_of_ble_eq_true rfl, Nat.le_of_ble_eq_true rfl⟩ rfl (Nat.le_of_ble_eq_true rfl) ⟨Nat.zero_le _, Nat.zero_le _⟩ fun hw => ?_
    have hv37 := hw
    clear hc hw
    show zP V X 6 0 0 40 _ [.int (zI v37)] d1
    revert h
    generalize d1 = d
    intro h
    refine zP_aload_n (pc := 40) C (x := zad V 0) dL_isTerminal_40 rfl rfl ?_
    refine zP_iload_n (pc := 41) C (x := zI x1) dL_isTerminal_41 rfl rfl ?_
    refine zP_iconst (pc := 42) C dL_isTerminal_42 ?_
    obtain ⟨v43, d1, hc, h⟩ := zc_h h
    obtain ⟨hnv43, h⟩ := zx_h h
    refine zP_callV (pc := 43) (As := [.int (zI x1), .int (zI 1)]) (st := [.int (zI v37)]) C m99_86 dL_isTerminal_43 (s_X11 hT0) rfl (t_X11_terminal hT0 hx1 (zRk rfl) hc hnv43) ⟨Nat.le_of_ble_eq_true rfl, Nat.le_of_ble_eq_true rfl⟩ rfl (Nat.le_of_ble_eq_true rfl) ⟨Nat.zero_le _, Nat.zero_le _⟩ fun hw => ?_
    have hv43 := hw
    clear hc hw
    show zP V X 6 0 0 46 _ [.int (zI v43), .int (zI v37)] d1
    revert h
    generalize d1 = d
    intro h
    refine zP_icmp_gt (pc := 46) (tgt := 66) C dL_isTerminal_46 rfl hv37 hv43 h (fun _ h => ?_) (fun _ h => ?_)
    · refine zP_iconst (pc := 66) C dL_isTerminal_66 ?_
      exact zP_zret (pc := 67) C E dL_isTerminal_67 (Or.inl rfl) h
    · refine zP_aload_n (pc := 49) C (x := zad V 0) dL_isTerminal_49 rfl rfl ?_
      obtain ⟨v50, d1, hc, h⟩ := zc_h h
      refine zP_callV (pc := 50) (As := []) (st := []) C m99_105 dL_isTerminal_50 (s_X11 hT0) rfl (t_X11_off hT0  hc) ⟨Nat.le_of_ble_eq_true rfl, Nat.le_of_ble_eq_true rfl⟩ rfl (Nat.le_of_ble_eq_true rfl) ⟨Nat.zero_le _, Nat.zero_le _⟩ fun hw => ?_
      have hv50 := hw
      clear hc hw
      show zP V X 6 0 0 53 _ [.int (zI v50)] d1
      revert h
      generalize d1 = d
      intro h
      refine zP_iload_n (pc := 53) C (x := zI x1) dL_isTerminal_53 rfl rfl ?_
      refine zP_ishr (pc := 54) C dL_isTerminal_54 h fun v54 hv54 h => ?_
      refine zP_iconst (pc := 55) C dL_isTerminal_55 ?_
      refine zP_iand (pc := 56) C dL_isTerminal_56 h fun v56 hv56 h => ?_
      refine zP_aload_n (pc := 57) C (x := zad V 0) dL_isTerminal_57 rfl rfl ?_
      refine zP_iload_n (pc := 58) C (x := zI x1) dL_isTerminal_58 rfl rfl ?_
      refine zP_iconst (pc := 59) C dL_isTerminal_59 ?_
      obtain ⟨v60, d1, hc, h⟩ := zc_h h
      obtain ⟨hnv60, h⟩ := zx_h h
      refine zP_callV (pc := 60) (As := [.int (zI x1), .int (zI 4)]) (st := [.int (zI v56)]) C m99_86 dL_isTerminal_60 (s_X11 hT0) rfl (t_X11_terminal hT0 hx1 (zRk rfl) hc hnv60) ⟨Nat.le_of_ble_eq_true rfl, Nat.le_of_ble_eq_true rfl⟩ rfl (Nat.le_of_ble_eq_true rfl) ⟨Nat.zero_le _, Nat.zero_le _⟩ fun hw => ?_
      have hv60 := hw
      clear hc hw
      show zP V X 6 0 0 63 _ [.int (zI v60), .int (zI v56)] d1
      revert h
      generalize d1 = d
      intro h
      refine zP_icmp_ne (pc := 63) (tgt := 68) C dL_isTerminal_63 rfl hv56 hv60 h (fun _ h => ?_) (fun _ h => ?_)
      · refine zP_aload_n (pc := 68) C (x := zad V 0) dL_isTerminal_68 rfl rfl ?_
        refine zP_iload_n (pc := 69) C (x := zI x1) dL_isTerminal_69 rfl rfl ?_
        refine zP_bipush (pc := 70) C dL_isTerminal_70 rfl ?_
        obtain ⟨v72, d1, hc, h⟩ := zc_h h
        obtain ⟨hnv72, h⟩ := zx_h h
        refine zP_callV (pc := 72) (As := [.int (zI x1), .int (zI 10)]) (st := []) C m99_86 dL_isTerminal_72 (s_X11 hT0) rfl (t_X11_terminal hT0 hx1 (zRk rfl) hc hnv72) ⟨Nat.le_of_ble_eq_true rfl, Nat.le_of_ble_eq_true rfl⟩ rfl (Nat.le_of_ble_eq_true rfl) ⟨Nat.zero_le _, Nat.zero_le _⟩ fun hw => ?_
        have hv72 := hw
        clear hc hw
        show zP V X 6 0 0 75 _ [.int (zI v72)] d1
        revert h
        generalize d1 = d
        intro h
        refine zP_aload_n (pc := 75) C (x := zad V 0) dL_isTerminal_75 rfl rfl ?_
        refine zP_iload_n (pc := 76) C (x := zI x1) dL_isTerminal_76 rfl rfl ?_
        refine zP_bipush (pc := 77) C dL_isTerminal_77 rfl ?_
        obtain ⟨v79, d1, hc, h⟩ := zc_h h
        obtain ⟨hnv79, h⟩ := zx_h h
        refine zP_callV (pc := 79) (As := [.int (zI x1), .int (zI 13)]) (st := [.int (zI v72)]) C m99_86 dL_isTerminal_79 (s_X11 hT0) rfl (t_X11_terminal hT0 hx1 (zRk rfl) hc hnv79) ⟨Nat.le_of_ble_eq_true rfl, Nat.le_of_ble_eq_true rfl⟩ rfl (Nat.le_of_ble_eq_true rfl) ⟨Nat.zero_le _, Nat.zero_le _⟩ fun hw => ?_
        have hv79 := hw
        clear hc hw
        show zP V X 6 0 0 82 _ [.int (zI v79), .int (zI v72)] d1
        revert h
        generalize d1 = d
        intro h
        refine zP_icmp_eq (pc := 82) (tgt := 89) C dL_isTerminal_82 rfl hv72 hv79 h (fun _ h => ?_) (fun _ h => ?_)
        · refine zP_iconst (pc := 89) C dL_isTerminal_89 ?_
          exact zP_mask [true, true, false, false, false, false] (wj_L_isTerminal_90 hT0 C E  hx1 (zRk rfl) h)
        · refine zP_iconst (pc := 85) C dL_isTerminal_85 ?_
          refine zP_goto (pc := 86) (tgt := 90) C dL_isTerminal_86 rfl ?_
          exact zP_mask [true, true, false, false, false, false] (wj_L_isTerminal_90 hT0 C E  hx1 (zRk rfl) h)
      · refine zP_iconst (pc := 66) C dL_isTerminal_66 ?_
        exact zP_zret (pc := 67) C E dL_isTerminal_67 (Or.inl rfl) h
  · refine zP_aload_n (pc := 7) C (x := zad V 0) dL_isTerminal_7 rfl rfl ?_
    refine zP_iload_n (pc := 8) C (x := zI x1) dL_isTerminal_8 rfl rfl ?_
    refine zP_bipush (pc := 9) C dL_isTerminal_9 rfl ?_
    refine zP_iload_n (pc := 11) C (x := zI x2) dL_isTerminal_11 rfl rfl ?_
    refine zP_iadd (pc := 12) C dL_isTerminal_12 h fun v12 hv12 h => ?_
    obtain ⟨v13, d1, hc, h⟩ := zc_h h
    obtain ⟨hnv13, h⟩ := zx_h h
    refine zP_callV (pc := 13) (As := [.int (zI x1), .int (zI v12)]) (st := []) C m99_86 dL_isTerminal_13 (s_X11 hT0) rfl (t_X11_terminal hT0 hx1 hv12 hc hnv13) ⟨Nat.le_of_ble_eq_true rfl, Nat.le_of_ble_eq_true rfl⟩ rfl (Nat.le_of_ble_eq_true rfl) ⟨Nat.zero_le _, Nat.zero_le _⟩ fun hw => ?_
    have hv13 := hw
    clear hc hw
    show zP V X 6 0 0 16 _ [.int (zI v13)] d1
    revert h
    generalize d1 = d
    intro h
    refine zP_aload_n (pc := 16) C (x := zad V 0) dL_isTerminal_16 rfl rfl ?_
    refine zP_iload_n (pc := 17) C (x := zI x1) dL_isTerminal_17 rfl rfl ?_
    refine zP_iload_n (pc := 18) C (x := zI x2) dL_isTerminal_18 rfl rfl ?_
    obtain ⟨v19, d1, hc, h⟩ := zc_h h
    refine zP_callS (pc := 19) (As := [.ref (zad V 0), .int (zI x1), .int (zI x2)]) (st := [.int (zI v13)]) C m99_101 dL_isTerminal_19 (t_L_rowMany hT0 hx1 hx2 hc) ⟨Nat.le_of_ble_eq_true rfl, Nat.le_of_ble_eq_true rfl⟩ rfl (Nat.le_of_ble_eq_true rfl) ⟨Nat.zero_le _, Nat.zero_le _⟩ fun hw => ?_
    have hv19 := hw
    clear hc hw
    show zP V X 6 0 0 22 _ [.int (zI v19), .int (zI v13)] d1
    revert h
    generalize d1 = d
    intro h
    refine zP_icmp_eq (pc := 22) (tgt := 27) C dL_isTerminal_22 rfl hv13 hv19 h (fun _ h => ?_) (fun _ h => ?_)
    · refine zP_iinc (pc := 27) C (x := x2) dL_isTerminal_27 rfl (Nat.le_of_ble_eq_true rfl) rfl h fun v27 hv27 h => ?_
      show zP V X 6 0 0 30 [some (.ref (zad V 0)), some (.int (zI x1)), some (.int (zI v27)), none, none, none] _ _
      refine zP_goto (pc := 30) (tgt := 2) C dL_isTerminal_30 rfl ?_
      exact zP_mask [true, true, true, false, false, false] (hr2 hx1 hv27 h)
    · refine zP_iconst (pc := 25) C dL_isTerminal_25 ?_
      exact zP_zret (pc := 26) C E dL_isTerminal_26 (Or.inl rfl) h
def l_L_isTerminal_2   : Nat → Int → Int → zD → Option (Int × zD)
  | 0, _, _, _ => none
  | q + 1, x1, x2, d => l_L_isTerminal_2F   (l_L_isTerminal_2   q) x1 x2 d
theorem wl_L_isTerminal_2 {V : zW} {X : zX}  (hT0 : zo11 V) (C : zOk V X cL_isTerminal RL 6 (zrm 4) (some .boolean)) {rv : Int} {dz : zD} (E : zEnd V X (some (.int (zI rv))) (rv = 0 ∨ rv = 1) dz)  : ∀ (q : Nat) {x1 x2 : Int} (hx1 : zR x1) (hx2 : zR x2) {d : zD} (h : l_L_isTerminal_2   q x1 x2 d = some (rv, dz)), zP V X 6 0 0 2 [some (.ref (zad V 0)), some (.int (zI x1)), some (.int (zI x2)), none, none, none] [] d := by
  intro q
  induction q with
  | zero => intro x1 x2 hx1 hx2 d h; cases (show (none : Option (Int × zD)) = some (rv, dz) from h)
  | succ q ih =>
    intro x1 x2 hx1 hx2 d h
    exact wl_L_isTerminal_2F hT0 C E  (fun  hx1 hx2 h => ih hx1 hx2 h) hx1 hx2 h
def f_L_isTerminal  (x1 : Int) (d : zD) : Option (Int × zD) :=
  l_L_isTerminal_2   zF x1 0 d
theorem t_L_isTerminal {V : zW}  (hT0 : zo11 V) {x1 : Int} (hx1 : zR x1) {d dz : zD} {rv : Int} (h : f_L_isTerminal  x1 d = some (rv, dz)) : zMet V 4 yL_isTerminal cL_isTerminal 6 (some .boolean) [.ref (zad V 0), .int (zI x1)] d (some (.int (zI rv))) (rv = 0 ∨ rv = 1) dz := by
  refine zMet_by RL pn99 rfl (Nat.le_of_ble_eq_true rfl) [some (.ref (zad V 0)), some (.int (zI x1)), none, none, none, none] rfl fun X C E => ?_
  refine zP_iconst (pc := 0) C dL_isTerminal_0 ?_
  refine zP_istore_n (pc := 1) C (L' := [some (.ref (zad V 0)), some (.int (zI x1)), some (.int (zI 0)), none, none, none]) dL_isTerminal_1 rfl (Nat.le_of_ble_eq_true rfl) rfl rfl ?_
  exact zP_mask [true, true, true, false, false, false] (wl_L_isTerminal_2 hT0 C E  zF hx1 (zRk rfl) h)
def l_L_isSound_85F  (r85 : Int → zD → Option (Int × zD)) (x2 : Int) (d : zD) : Option (Int × zD) :=
  zc (f_X11_count  0 d) fun v88 d => zx v88 <|
  if (v88 : Int) ≤ x2 then (
    some (1, d))
  else (
    zc (f_L_isTerminal  x2 d) fun v96 d =>
    if (v96 : Int) = 0 then (
      some (0, d))
    else (
      zl (zw (x2 + 1)) fun v104 =>
      r85 v104 d))
theorem wl_L_isSound_85F {V : zW} {X : zX}  (hT0 : zo11 V) (C : zOk V X cL_isSound RL 3 (zrm 5) (some .boolean)) {rv : Int} {dz : zD} (E : zEnd V X (some (.int (zI rv))) (rv = 0 ∨ rv = 1) dz) {r85 : Int → zD → Option (Int × zD)} (hr85 : ∀ {x2 : Int} {d : zD}, zR x2 → r85 x2 d = some (rv, dz) → zP V X 3 0 0 85 [some (.ref (zad V 0)), none, some (.int (zI x2))] [] d) {x2 : Int} (hx2 : zR x2) {d : zD} (h : l_L_isSound_85F  r85 x2 d = some (rv, dz)) : zP V X 3 0 0 85 [some (.ref (zad V 0)), none, some (.int (zI x2))] [] d := by
  refine zP_iload_n (pc := 85) C (x := zI x2) dL_isSound_85 rfl rfl ?_
  refine zP_aload_n (pc := 86) C (x := zad V 0) dL_isSound_86 rfl rfl ?_
  refine zP_iconst (pc := 87) C dL_isSound_87 ?_
  obtain ⟨v88, d1, hc, h⟩ := zc_h h
  obtain ⟨hnv88, h⟩ := zx_h h
  refine zP_callV (pc := 88) (As := [.int (zI 0)]) (st := [.int (zI x2)]) C m99_97 dL_isSound_88 (s_X11 hT0) rfl (t_X11_count hT0 (zRk rfl) hc hnv88) ⟨Nat.le_of_ble_eq_true rfl, Nat.le_of_ble_eq_true rfl⟩ rfl (Nat.le_of_ble_eq_true rfl) ⟨Nat.zero_le _, Nat.zero_le _⟩ fun hw => ?_
  have hv88 := hw
  clear hc hw
  show zP V X 3 0 0 91 _ [.int (zI v88), .int (zI x2)] d1
  revert h
  generalize d1 = d
  intro h
  refine zP_icmp_ge (pc := 91) (tgt := 110) C dL_isSound_91 rfl hx2 hv88 h (fun _ h => ?_) (fun _ h => ?_)
  · refine zP_iconst (pc := 110) C dL_isSound_110 ?_
    exact zP_zret (pc := 111) C E dL_isSound_111 (Or.inr rfl) h
  · refine zP_aload_n (pc := 94) C (x := zad V 0) dL_isSound_94 rfl rfl ?_
    refine zP_iload_n (pc := 95) C (x := zI x2) dL_isSound_95 rfl rfl ?_
    obtain ⟨v96, d1, hc, h⟩ := zc_h h
    refine zP_callS (pc := 96) (As := [.ref (zad V 0), .int (zI x2)]) (st := []) C m99_118 dL_isSound_96 (t_L_isTerminal hT0 hx2 hc) ⟨Nat.le_of_ble_eq_true rfl, Nat.le_of_ble_eq_true rfl⟩ rfl (Nat.le_of_ble_eq_true rfl) ⟨Nat.zero_le _, Nat.zero_le _⟩ fun hw => ?_
    have hbv96 := hw
    have hv96 := z01 hw
    clear hc hw
    show zP V X 3 0 0 99 _ [.int (zI v96)] d1
    revert h
    generalize d1 = d
    intro h
    refine zP_if_ne (pc := 99) (tgt := 104) C dL_isSound_99 rfl hv96 h (fun _ h => ?_) (fun _ h => ?_)
    · refine zP_iinc (pc := 104) C (x := x2) dL_isSound_104 rfl (Nat.le_of_ble_eq_true rfl) rfl h fun v104 hv104 h => ?_
      show zP V X 3 0 0 107 [some (.ref (zad V 0)), none, some (.int (zI v104))] _ _
      refine zP_goto (pc := 107) (tgt := 85) C dL_isSound_107 rfl ?_
      exact zP_mask [true, false, true] (hr85 hv104 h)
    · refine zP_iconst (pc := 102) C dL_isSound_102 ?_
      exact zP_zret (pc := 103) C E dL_isSound_103 (Or.inl rfl) h
def l_L_isSound_85   : Nat → Int → zD → Option (Int × zD)
  | 0, _, _ => none
  | q + 1, x2, d => l_L_isSound_85F   (l_L_isSound_85   q) x2 d
theorem wl_L_isSound_85 {V : zW} {X : zX}  (hT0 : zo11 V) (C : zOk V X cL_isSound RL 3 (zrm 5) (some .boolean)) {rv : Int} {dz : zD} (E : zEnd V X (some (.int (zI rv))) (rv = 0 ∨ rv = 1) dz)  : ∀ (q : Nat) {x2 : Int} (hx2 : zR x2) {d : zD} (h : l_L_isSound_85   q x2 d = some (rv, dz)), zP V X 3 0 0 85 [some (.ref (zad V 0)), none, some (.int (zI x2))] [] d := by
  intro q
  induction q with
  | zero => intro x2 hx2 d h; cases (show (none : Option (Int × zD)) = some (rv, dz) from h)
  | succ q ih =>
    intro x2 hx2 d h
    exact wl_L_isSound_85F hT0 C E  (fun  hx2 h => ih hx2 h) hx2 h
def l_L_isSound_58F  (r58 : Int → zD → Option (Int × zD)) (x2 : Int) (d : zD) : Option (Int × zD) :=
  zc (f_X11_count  2 d) fun v61 d => zx v61 <|
  if (v61 : Int) ≤ x2 then (
    l_L_isSound_85   zF 0 d)
  else (
    zc (f_L_isMessage  x2 d) fun v69 d =>
    if (v69 : Int) = 0 then (
      some (0, d))
    else (
      zl (zw (x2 + 1)) fun v77 =>
      r58 v77 d))
theorem wl_L_isSound_58F {V : zW} {X : zX}  (hT0 : zo11 V) (C : zOk V X cL_isSound RL 3 (zrm 5) (some .boolean)) {rv : Int} {dz : zD} (E : zEnd V X (some (.int (zI rv))) (rv = 0 ∨ rv = 1) dz) {r58 : Int → zD → Option (Int × zD)} (hr58 : ∀ {x2 : Int} {d : zD}, zR x2 → r58 x2 d = some (rv, dz) → zP V X 3 0 0 58 [some (.ref (zad V 0)), none, some (.int (zI x2))] [] d) {x2 : Int} (hx2 : zR x2) {d : zD} (h : l_L_isSound_58F  r58 x2 d = some (rv, dz)) : zP V X 3 0 0 58 [some (.ref (zad V 0)), none, some (.int (zI x2))] [] d := by
  refine zP_iload_n (pc := 58) C (x := zI x2) dL_isSound_58 rfl rfl ?_
  refine zP_aload_n (pc := 59) C (x := zad V 0) dL_isSound_59 rfl rfl ?_
  refine zP_iconst (pc := 60) C dL_isSound_60 ?_
  obtain ⟨v61, d1, hc, h⟩ := zc_h h
  obtain ⟨hnv61, h⟩ := zx_h h
  refine zP_callV (pc := 61) (As := [.int (zI 2)]) (st := [.int (zI x2)]) C m99_97 dL_isSound_61 (s_X11 hT0) rfl (t_X11_count hT0 (zRk rfl) hc hnv61) ⟨Nat.le_of_ble_eq_true rfl, Nat.le_of_ble_eq_true rfl⟩ rfl (Nat.le_of_ble_eq_true rfl) ⟨Nat.zero_le _, Nat.zero_le _⟩ fun hw => ?_
  have hv61 := hw
  clear hc hw
  show zP V X 3 0 0 64 _ [.int (zI v61), .int (zI x2)] d1
  revert h
  generalize d1 = d
  intro h
  refine zP_icmp_ge (pc := 64) (tgt := 83) C dL_isSound_64 rfl hx2 hv61 h (fun _ h => ?_) (fun _ h => ?_)
  · refine zP_iconst (pc := 83) C dL_isSound_83 ?_
    refine zP_istore_n (pc := 84) C (L' := [some (.ref (zad V 0)), none, some (.int (zI 0))]) dL_isSound_84 rfl (Nat.le_of_ble_eq_true rfl) rfl rfl ?_
    exact zP_mask [true, false, true] (wl_L_isSound_85 hT0 C E  zF (zRk rfl) h)
  · refine zP_aload_n (pc := 67) C (x := zad V 0) dL_isSound_67 rfl rfl ?_
    refine zP_iload_n (pc := 68) C (x := zI x2) dL_isSound_68 rfl rfl ?_
    obtain ⟨v69, d1, hc, h⟩ := zc_h h
    refine zP_callS (pc := 69) (As := [.ref (zad V 0), .int (zI x2)]) (st := []) C m99_114 dL_isSound_69 (t_L_isMessage hT0 hx2 hc) ⟨Nat.le_of_ble_eq_true rfl, Nat.le_of_ble_eq_true rfl⟩ rfl (Nat.le_of_ble_eq_true rfl) ⟨Nat.zero_le _, Nat.zero_le _⟩ fun hw => ?_
    have hbv69 := hw
    have hv69 := z01 hw
    clear hc hw
    show zP V X 3 0 0 72 _ [.int (zI v69)] d1
    revert h
    generalize d1 = d
    intro h
    refine zP_if_ne (pc := 72) (tgt := 77) C dL_isSound_72 rfl hv69 h (fun _ h => ?_) (fun _ h => ?_)
    · refine zP_iinc (pc := 77) C (x := x2) dL_isSound_77 rfl (Nat.le_of_ble_eq_true rfl) rfl h fun v77 hv77 h => ?_
      show zP V X 3 0 0 80 [some (.ref (zad V 0)), none, some (.int (zI v77))] _ _
      refine zP_goto (pc := 80) (tgt := 58) C dL_isSound_80 rfl ?_
      exact zP_mask [true, false, true] (hr58 hv77 h)
    · refine zP_iconst (pc := 75) C dL_isSound_75 ?_
      exact zP_zret (pc := 76) C E dL_isSound_76 (Or.inl rfl) h
def l_L_isSound_58   : Nat → Int → zD → Option (Int × zD)
  | 0, _, _ => none
  | q + 1, x2, d => l_L_isSound_58F   (l_L_isSound_58   q) x2 d
theorem wl_L_isSound_58 {V : zW} {X : zX}  (hT0 : zo11 V) (C : zOk V X cL_isSound RL 3 (zrm 5) (some .boolean)) {rv : Int} {dz : zD} (E : zEnd V X (some (.int (zI rv))) (rv = 0 ∨ rv = 1) dz)  : ∀ (q : Nat) {x2 : Int} (hx2 : zR x2) {d : zD} (h : l_L_isSound_58   q x2 d = some (rv, dz)), zP V X 3 0 0 58 [some (.ref (zad V 0)), none, some (.int (zI x2))] [] d := by
  intro q
  induction q with
  | zero => intro x2 hx2 d h; cases (show (none : Option (Int × zD)) = some (rv, dz) from h)
  | succ q ih =>
    intro x2 hx2 d h
    exact wl_L_isSound_58F hT0 C E  (fun  hx2 h => ih hx2 h) hx2 h
def l_L_isSound_5F  (r5 : Int → Int → zD → Option (Int × zD)) (x1 x2 : Int) (d : zD) : Option (Int × zD) :=
  if (10 : Int) ≤ x2 then (
    zc (f_X11_count  2 d) fun v28 d => zx v28 <|
    if (x1 : Int) = v28 then (
      zc (f_X11_gap   d) fun v35 d =>
      if (v35 : Int) = 0 then (
        zc (f_X11_account  1 d) fun v43 d => zx v43 <|
        zc (f_X11_account  0 d) fun v48 d => zx v48 <|
        if (v43 : Int) ≤ v48 then (
          l_L_isSound_58   zF 0 d)
        else (
          some (0, d)))
      else (
        some (0, d)))
    else (
      some (0, d)))
  else (
    zc (f_X11_count  x2 d) fun v14 d => zx v14 <|
    zl (zw (x1 + v14)) fun v17 =>
    zl (zw (x2 + 1)) fun v19 =>
    r5 v17 v19 d)
theorem wl_L_isSound_5F {V : zW} {X : zX}  (hT0 : zo11 V) (C : zOk V X cL_isSound RL 3 (zrm 5) (some .boolean)) {rv : Int} {dz : zD} (E : zEnd V X (some (.int (zI rv))) (rv = 0 ∨ rv = 1) dz) {r5 : Int → Int → zD → Option (Int × zD)} (hr5 : ∀ {x1 x2 : Int} {d : zD}, zR x1 → zR x2 → r5 x1 x2 d = some (rv, dz) → zP V X 3 0 0 5 [some (.ref (zad V 0)), some (.int (zI x1)), some (.int (zI x2))] [] d) {x1 x2 : Int} (hx1 : zR x1) (hx2 : zR x2) {d : zD} (h : l_L_isSound_5F  r5 x1 x2 d = some (rv, dz)) : zP V X 3 0 0 5 [some (.ref (zad V 0)), some (.int (zI x1)), some (.int (zI x2))] [] d := by
  refine zP_iload_n (pc := 5) C (x := zI x2) dL_isSound_5 rfl rfl ?_
  refine zP_bipush (pc := 6) C dL_isSound_6 rfl ?_
  refine zP_icmp_ge (pc := 8) (tgt := 25) C dL_isSound_8 rfl hx2 (zRk rfl) h (fun _ h => ?_) (fun _ h => ?_)
  · refine zP_iload_n (pc := 25) C (x := zI x1) dL_isSound_25 rfl rfl ?_
    refine zP_aload_n (pc := 26) C (x := zad V 0) dL_isSound_26 rfl rfl ?_
    refine zP_iconst (pc := 27) C dL_isSound_27 ?_
    obtain ⟨v28, d1, hc, h⟩ := zc_h h
    obtain ⟨hnv28, h⟩ := zx_h h
    refine zP_callV (pc := 28) (As := [.int (zI 2)]) (st := [.int (zI x1)]) C m99_97 dL_isSound_28 (s_X11 hT0) rfl (t_X11_count hT0 (zRk rfl) hc hnv28) ⟨Nat.le_of_ble_eq_true rfl, Nat.le_of_ble_eq_true rfl⟩ rfl (Nat.le_of_ble_eq_true rfl) ⟨Nat.zero_le _, Nat.zero_le _⟩ fun hw => ?_
    have hv28 := hw
    clear hc hw
    show zP V X 3 0 0 31 _ [.int (zI v28), .int (zI x1)] d1
    revert h
    generalize d1 = d
    intro h
    refine zP_icmp_ne (pc := 31) (tgt := 54) C dL_isSound_31 rfl hx1 hv28 h (fun _ h => ?_) (fun _ h => ?_)
    · refine zP_iconst (pc := 54) C dL_isSound_54 ?_
      exact zP_zret (pc := 55) C E dL_isSound_55 (Or.inl rfl) h
    · refine zP_aload_n (pc := 34) C (x := zad V 0) dL_isSound_34 rfl rfl ?_
      obtain ⟨v35, d1, hc, h⟩ := zc_h h
      refine zP_callV (pc := 35) (As := []) (st := []) C m99_108 dL_isSound_35 (s_X11 hT0) rfl (t_X11_gap hT0  hc) ⟨Nat.le_of_ble_eq_true rfl, Nat.le_of_ble_eq_true rfl⟩ rfl (Nat.le_of_ble_eq_true rfl) ⟨Nat.zero_le _, Nat.zero_le _⟩ fun hw => ?_
      have hv35 := hw
      clear hc hw
      show zP V X 3 0 0 38 _ [.int (zI v35)] d1
      revert h
      generalize d1 = d
      intro h
      refine zP_if_ne (pc := 38) (tgt := 54) C dL_isSound_38 rfl hv35 h (fun _ h => ?_) (fun _ h => ?_)
      · refine zP_iconst (pc := 54) C dL_isSound_54 ?_
        exact zP_zret (pc := 55) C E dL_isSound_55 (Or.inl rfl) h
      · refine zP_aload_n (pc := 41) C (x := zad V 0) dL_isSound_41 rfl rfl ?_
        refine zP_iconst (pc := 42) C dL_isSound_42 ?_
        obtain ⟨v43, d1, hc, h⟩ := zc_h h
        obtain ⟨hnv43, h⟩ := zx_h h
        refine zP_callV (pc := 43) (As := [.int (zI 1)]) (st := []) C m99_111 dL_isSound_43 (s_X11 hT0) rfl (t_X11_account hT0 (zRk rfl) hc hnv43) ⟨Nat.le_of_ble_eq_true rfl, Nat.le_of_ble_eq_true rfl⟩ rfl (Nat.le_of_ble_eq_true rfl) ⟨Nat.zero_le _, Nat.zero_le _⟩ fun hw => ?_
        have hv43 := hw
        clear hc hw
        show zP V X 3 0 0 46 _ [.int (zI v43)] d1
        revert h
        generalize d1 = d
        intro h
        refine zP_aload_n (pc := 46) C (x := zad V 0) dL_isSound_46 rfl rfl ?_
        refine zP_iconst (pc := 47) C dL_isSound_47 ?_
        obtain ⟨v48, d1, hc, h⟩ := zc_h h
        obtain ⟨hnv48, h⟩ := zx_h h
        refine zP_callV (pc := 48) (As := [.int (zI 0)]) (st := [.int (zI v43)]) C m99_111 dL_isSound_48 (s_X11 hT0) rfl (t_X11_account hT0 (zRk rfl) hc hnv48) ⟨Nat.le_of_ble_eq_true rfl, Nat.le_of_ble_eq_true rfl⟩ rfl (Nat.le_of_ble_eq_true rfl) ⟨Nat.zero_le _, Nat.zero_le _⟩ fun hw => ?_
        have hv48 := hw
        clear hc hw
        show zP V X 3 0 0 51 _ [.int (zI v48), .int (zI v43)] d1
        revert h
        generalize d1 = d
        intro h
        refine zP_icmp_le (pc := 51) (tgt := 56) C dL_isSound_51 rfl hv43 hv48 h (fun _ h => ?_) (fun _ h => ?_)
        · refine zP_iconst (pc := 56) C dL_isSound_56 ?_
          refine zP_istore_n (pc := 57) C (L' := [some (.ref (zad V 0)), some (.int (zI x1)), some (.int (zI 0))]) dL_isSound_57 rfl (Nat.le_of_ble_eq_true rfl) rfl rfl ?_
          exact zP_mask [true, false, true] (wl_L_isSound_58 hT0 C E  zF (zRk rfl) h)
        · refine zP_iconst (pc := 54) C dL_isSound_54 ?_
          exact zP_zret (pc := 55) C E dL_isSound_55 (Or.inl rfl) h
  · refine zP_iload_n (pc := 11) C (x := zI x1) dL_isSound_11 rfl rfl ?_
    refine zP_aload_n (pc := 12) C (x := zad V 0) dL_isSound_12 rfl rfl ?_
    refine zP_iload_n (pc := 13) C (x := zI x2) dL_isSound_13 rfl rfl ?_
    obtain ⟨v14, d1, hc, h⟩ := zc_h h
    obtain ⟨hnv14, h⟩ := zx_h h
    refine zP_callV (pc := 14) (As := [.int (zI x2)]) (st := [.int (zI x1)]) C m99_97 dL_isSound_14 (s_X11 hT0) rfl (t_X11_count hT0 hx2 hc hnv14) ⟨Nat.le_of_ble_eq_true rfl, Nat.le_of_ble_eq_true rfl⟩ rfl (Nat.le_of_ble_eq_true rfl) ⟨Nat.zero_le _, Nat.zero_le _⟩ fun hw => ?_
    have hv14 := hw
    clear hc hw
    show zP V X 3 0 0 17 _ [.int (zI v14), .int (zI x1)] d1
    revert h
    generalize d1 = d
    intro h
    refine zP_iadd (pc := 17) C dL_isSound_17 h fun v17 hv17 h => ?_
    refine zP_istore_n (pc := 18) C (L' := [some (.ref (zad V 0)), some (.int (zI v17)), some (.int (zI x2))]) dL_isSound_18 rfl (Nat.le_of_ble_eq_true rfl) rfl rfl ?_
    refine zP_iinc (pc := 19) C (x := x2) dL_isSound_19 rfl (Nat.le_of_ble_eq_true rfl) rfl h fun v19 hv19 h => ?_
    show zP V X 3 0 0 22 [some (.ref (zad V 0)), some (.int (zI v17)), some (.int (zI v19))] _ _
    refine zP_goto (pc := 22) (tgt := 5) C dL_isSound_22 rfl ?_
    exact zP_mask [true, true, true] (hr5 hv17 hv19 h)
def l_L_isSound_5   : Nat → Int → Int → zD → Option (Int × zD)
  | 0, _, _, _ => none
  | q + 1, x1, x2, d => l_L_isSound_5F   (l_L_isSound_5   q) x1 x2 d
theorem wl_L_isSound_5 {V : zW} {X : zX}  (hT0 : zo11 V) (C : zOk V X cL_isSound RL 3 (zrm 5) (some .boolean)) {rv : Int} {dz : zD} (E : zEnd V X (some (.int (zI rv))) (rv = 0 ∨ rv = 1) dz)  : ∀ (q : Nat) {x1 x2 : Int} (hx1 : zR x1) (hx2 : zR x2) {d : zD} (h : l_L_isSound_5   q x1 x2 d = some (rv, dz)), zP V X 3 0 0 5 [some (.ref (zad V 0)), some (.int (zI x1)), some (.int (zI x2))] [] d := by
  intro q
  induction q with
  | zero => intro x1 x2 hx1 hx2 d h; cases (show (none : Option (Int × zD)) = some (rv, dz) from h)
  | succ q ih =>
    intro x1 x2 hx1 hx2 d h
    exact wl_L_isSound_5F hT0 C E  (fun  hx1 hx2 h => ih hx1 hx2 h) hx1 hx2 h
def f_L_isSound  (d : zD) : Option (Int × zD) :=
  l_L_isSound_5   zF 0 6 d
theorem t_L_isSound {V : zW}  (hT0 : zo11 V)   {d dz : zD} {rv : Int} (h : f_L_isSound   d = some (rv, dz)) : zMet V 5 yL_isSound cL_isSound 3 (some .boolean) [.ref (zad V 0)] d (some (.int (zI rv))) (rv = 0 ∨ rv = 1) dz := by
  refine zMet_by RL pn99 rfl (Nat.le_of_ble_eq_true rfl) [some (.ref (zad V 0)), none, none] rfl fun X C E => ?_
  refine zP_iconst (pc := 0) C dL_isSound_0 ?_
  refine zP_istore_n (pc := 1) C (L' := [some (.ref (zad V 0)), some (.int (zI 0)), none]) dL_isSound_1 rfl (Nat.le_of_ble_eq_true rfl) rfl rfl ?_
  refine zP_bipush (pc := 2) C dL_isSound_2 rfl ?_
  refine zP_istore_n (pc := 4) C (L' := [some (.ref (zad V 0)), some (.int (zI 0)), some (.int (zI 6))]) dL_isSound_4 rfl (Nat.le_of_ble_eq_true rfl) rfl rfl ?_
  exact zP_mask [true, true, true] (wl_L_isSound_5 hT0 C E  zF (zRk rfl) (zRk rfl) h)
def j_L_isTurned_355   (x1 x12 : Int) (d : zD) : Option (Int × zD) :=
  if (x1 : Int) = 1 then (
    if (x12 : Int) = 1 then (
      some (0, d))
    else (
      if (x12 : Int) = 3 then (
        some (0, d))
      else (
        some (1, d))))
  else (
    if (x12 : Int) = 4 then (
      some (0, d))
    else (
      some (1, d)))
theorem wj_L_isTurned_355 {V : zW} {X : zX}  (hT0 : zo11 V) (C : zOk V X cL_isTurned RL 13 (zrm 7) (some .boolean)) {rv : Int} {dz : zD} (E : zEnd V X (some (.int (zI rv))) (rv = 0 ∨ rv = 1) dz)  {x1 x12 : Int} (hx1 : zR x1) (hx12 : zR x12) {d : zD} (h : j_L_isTurned_355   x1 x12 d = some (rv, dz)) : zP V X 13 0 0 355 [none, some (.int (zI x1)), none, none, none, none, none, none, none, none, none, none, some (.int (zI x12))] [] d := by
  refine zP_iload_n (pc := 355) C (x := zI x1) dL_isTurned_355 rfl rfl ?_
  refine zP_iconst (pc := 356) C dL_isTurned_356 ?_
  refine zP_icmp_ne (pc := 357) (tgt := 380) C dL_isTurned_357 rfl hx1 (zRk rfl) h (fun _ h => ?_) (fun _ h => ?_)
  · refine zP_iload (pc := 380) C (x := zI x12) dL_isTurned_380 rfl ?_
    refine zP_iconst (pc := 382) C dL_isTurned_382 ?_
    refine zP_icmp_eq (pc := 383) (tgt := 390) C dL_isTurned_383 rfl hx12 (zRk rfl) h (fun _ h => ?_) (fun _ h => ?_)
    · refine zP_iconst (pc := 390) C dL_isTurned_390 ?_
      exact zP_zret (pc := 391) C E dL_isTurned_391 (Or.inl rfl) h
    · refine zP_iconst (pc := 386) C dL_isTurned_386 ?_
      refine zP_goto (pc := 387) (tgt := 391) C dL_isTurned_387 rfl ?_
      exact zP_zret (pc := 391) C E dL_isTurned_391 (Or.inr rfl) h
  · refine zP_iload (pc := 360) C (x := zI x12) dL_isTurned_360 rfl ?_
    refine zP_iconst (pc := 362) C dL_isTurned_362 ?_
    refine zP_icmp_eq (pc := 363) (tgt := 376) C dL_isTurned_363 rfl hx12 (zRk rfl) h (fun _ h => ?_) (fun _ h => ?_)
    · refine zP_iconst (pc := 376) C dL_isTurned_376 ?_
      refine zP_goto (pc := 377) (tgt := 391) C dL_isTurned_377 rfl ?_
      exact zP_zret (pc := 391) C E dL_isTurned_391 (Or.inl rfl) h
    · refine zP_iload (pc := 366) C (x := zI x12) dL_isTurned_366 rfl ?_
      refine zP_iconst (pc := 368) C dL_isTurned_368 ?_
      refine zP_icmp_eq (pc := 369) (tgt := 376) C dL_isTurned_369 rfl hx12 (zRk rfl) h (fun _ h => ?_) (fun _ h => ?_)
      · refine zP_iconst (pc := 376) C dL_isTurned_376 ?_
        refine zP_goto (pc := 377) (tgt := 391) C dL_isTurned_377 rfl ?_
        exact zP_zret (pc := 391) C E dL_isTurned_391 (Or.inl rfl) h
      · refine zP_iconst (pc := 372) C dL_isTurned_372 ?_
        refine zP_goto (pc := 373) (tgt := 391) C dL_isTurned_373 rfl ?_
        exact zP_zret (pc := 391) C E dL_isTurned_391 (Or.inr rfl) h
def j_L_isTurned_313   (x1 x2 x12 s0 s1 s2 : Int) (d : zD) : Option (Int × zD) :=
  zl (zw (s1 - s0)) fun v313 =>
  if (s2 : Int) = v313 then (
    if (x12 : Int) ≤ 0 then (
      j_L_isTurned_355   x1 x12 d)
    else (
      zc (f_X11_terminal  x2 5 d) fun v327 d => zx v327 <|
      if (v327 : Int) = 0 then (
        zc (f_X11_terminal  x2 4 d) fun v336 d => zx v336 <|
        if (v336 : Int) = 1 then (
          zc (f_X11_terminal  x2 3 d) fun v346 d => zx v346 <|
          if (v346 : Int) = 1 then (
            j_L_isTurned_355   x1 x12 d)
          else (
            some (0, d)))
        else (
          some (0, d)))
      else (
        some (0, d))))
  else (
    some (0, d))
theorem wj_L_isTurned_313 {V : zW} {X : zX}  (hT0 : zo11 V) (C : zOk V X cL_isTurned RL 13 (zrm 7) (some .boolean)) {rv : Int} {dz : zD} (E : zEnd V X (some (.int (zI rv))) (rv = 0 ∨ rv = 1) dz)  {x1 x2 x12 s0 s1 s2 : Int} (hx1 : zR x1) (hx2 : zR x2) (hx12 : zR x12) (hs0 : zR s0) (hs1 : zR s1) (hs2 : zR s2) {d : zD} (h : j_L_isTurned_313   x1 x2 x12 s0 s1 s2 d = some (rv, dz)) : zP V X 13 0 0 313 [some (.ref (zad V 0)), some (.int (zI x1)), some (.int (zI x2)), none, none, none, none, none, none, none, none, none, some (.int (zI x12))] [.int (zI s0), .int (zI s1), .int (zI s2)] d := by
  refine zP_isub (pc := 313) C dL_isTurned_313 h fun v313 hv313 h => ?_
  refine zP_icmp_eq (pc := 314) (tgt := 319) C dL_isTurned_314 rfl hs2 hv313 h (fun _ h => ?_) (fun _ h => ?_)
  · refine zP_iload (pc := 319) C (x := zI x12) dL_isTurned_319 rfl ?_
    refine zP_if_le (pc := 321) (tgt := 355) C dL_isTurned_321 rfl hx12 h (fun _ h => ?_) (fun _ h => ?_)
    · exact zP_mask [false, true, false, false, false, false, false, false, false, false, false, false, true] (wj_L_isTurned_355 hT0 C E  hx1 hx12 h)
    · refine zP_aload_n (pc := 324) C (x := zad V 0) dL_isTurned_324 rfl rfl ?_
      refine zP_iload_n (pc := 325) C (x := zI x2) dL_isTurned_325 rfl rfl ?_
      refine zP_iconst (pc := 326) C dL_isTurned_326 ?_
      obtain ⟨v327, d1, hc, h⟩ := zc_h h
      obtain ⟨hnv327, h⟩ := zx_h h
      refine zP_callV (pc := 327) (As := [.int (zI x2), .int (zI 5)]) (st := []) C m99_86 dL_isTurned_327 (s_X11 hT0) rfl (t_X11_terminal hT0 hx2 (zRk rfl) hc hnv327) ⟨Nat.le_of_ble_eq_true rfl, Nat.le_of_ble_eq_true rfl⟩ rfl (Nat.le_of_ble_eq_true rfl) ⟨Nat.zero_le _, Nat.zero_le _⟩ fun hw => ?_
      have hv327 := hw
      clear hc hw
      show zP V X 13 0 0 330 _ [.int (zI v327)] d1
      revert h
      generalize d1 = d
      intro h
      refine zP_if_ne (pc := 330) (tgt := 353) C dL_isTurned_330 rfl hv327 h (fun _ h => ?_) (fun _ h => ?_)
      · refine zP_iconst (pc := 353) C dL_isTurned_353 ?_
        exact zP_zret (pc := 354) C E dL_isTurned_354 (Or.inl rfl) h
      · refine zP_aload_n (pc := 333) C (x := zad V 0) dL_isTurned_333 rfl rfl ?_
        refine zP_iload_n (pc := 334) C (x := zI x2) dL_isTurned_334 rfl rfl ?_
        refine zP_iconst (pc := 335) C dL_isTurned_335 ?_
        obtain ⟨v336, d1, hc, h⟩ := zc_h h
        obtain ⟨hnv336, h⟩ := zx_h h
        refine zP_callV (pc := 336) (As := [.int (zI x2), .int (zI 4)]) (st := []) C m99_86 dL_isTurned_336 (s_X11 hT0) rfl (t_X11_terminal hT0 hx2 (zRk rfl) hc hnv336) ⟨Nat.le_of_ble_eq_true rfl, Nat.le_of_ble_eq_true rfl⟩ rfl (Nat.le_of_ble_eq_true rfl) ⟨Nat.zero_le _, Nat.zero_le _⟩ fun hw => ?_
        have hv336 := hw
        clear hc hw
        show zP V X 13 0 0 339 _ [.int (zI v336)] d1
        revert h
        generalize d1 = d
        intro h
        refine zP_iconst (pc := 339) C dL_isTurned_339 ?_
        refine zP_icmp_ne (pc := 340) (tgt := 353) C dL_isTurned_340 rfl hv336 (zRk rfl) h (fun _ h => ?_) (fun _ h => ?_)
        · refine zP_iconst (pc := 353) C dL_isTurned_353 ?_
          exact zP_zret (pc := 354) C E dL_isTurned_354 (Or.inl rfl) h
        · refine zP_aload_n (pc := 343) C (x := zad V 0) dL_isTurned_343 rfl rfl ?_
          refine zP_iload_n (pc := 344) C (x := zI x2) dL_isTurned_344 rfl rfl ?_
          refine zP_iconst (pc := 345) C dL_isTurned_345 ?_
          obtain ⟨v346, d1, hc, h⟩ := zc_h h
          obtain ⟨hnv346, h⟩ := zx_h h
          refine zP_callV (pc := 346) (As := [.int (zI x2), .int (zI 3)]) (st := []) C m99_86 dL_isTurned_346 (s_X11 hT0) rfl (t_X11_terminal hT0 hx2 (zRk rfl) hc hnv346) ⟨Nat.le_of_ble_eq_true rfl, Nat.le_of_ble_eq_true rfl⟩ rfl (Nat.le_of_ble_eq_true rfl) ⟨Nat.zero_le _, Nat.zero_le _⟩ fun hw => ?_
          have hv346 := hw
          clear hc hw
          show zP V X 13 0 0 349 _ [.int (zI v346)] d1
          revert h
          generalize d1 = d
          intro h
          refine zP_iconst (pc := 349) C dL_isTurned_349 ?_
          refine zP_icmp_eq (pc := 350) (tgt := 355) C dL_isTurned_350 rfl hv346 (zRk rfl) h (fun _ h => ?_) (fun _ h => ?_)
          · exact zP_mask [false, true, false, false, false, false, false, false, false, false, false, false, true] (wj_L_isTurned_355 hT0 C E  hx1 hx12 h)
          · refine zP_iconst (pc := 353) C dL_isTurned_353 ?_
            exact zP_zret (pc := 354) C E dL_isTurned_354 (Or.inl rfl) h
  · refine zP_iconst (pc := 317) C dL_isTurned_317 ?_
    exact zP_zret (pc := 318) C E dL_isTurned_318 (Or.inl rfl) h
def j_L_isTurned_289   (x1 x2 x9 x11 x12 s0 s1 : Int) (d : zD) : Option (Int × zD) :=
  if (s0 : Int) < s1 then (
    some (0, d))
  else (
    zc (f_X11_account  7 d) fun v295 d => zx v295 <|
    zl (zw (x9 + x11)) fun v302 =>
    if (x12 : Int) = 0 then (
      j_L_isTurned_313   x1 x2 x12 0 v302 v295 d)
    else (
      j_L_isTurned_313   x1 x2 x12 1 v302 v295 d))
theorem wj_L_isTurned_289 {V : zW} {X : zX}  (hT0 : zo11 V) (C : zOk V X cL_isTurned RL 13 (zrm 7) (some .boolean)) {rv : Int} {dz : zD} (E : zEnd V X (some (.int (zI rv))) (rv = 0 ∨ rv = 1) dz)  {x1 x2 x9 x11 x12 s0 s1 : Int} (hx1 : zR x1) (hx2 : zR x2) (hx9 : zR x9) (hx11 : zR x11) (hx12 : zR x12) (hs0 : zR s0) (hs1 : zR s1) {d : zD} (h : j_L_isTurned_289   x1 x2 x9 x11 x12 s0 s1 d = some (rv, dz)) : zP V X 13 0 0 289 [some (.ref (zad V 0)), some (.int (zI x1)), some (.int (zI x2)), none, none, none, none, none, none, some (.int (zI x9)), none, some (.int (zI x11)), some (.int (zI x12))] [.int (zI s0), .int (zI s1)] d := by
  refine zP_icmp_gt (pc := 289) (tgt := 317) C dL_isTurned_289 rfl hs1 hs0 h (fun _ h => ?_) (fun _ h => ?_)
  · refine zP_iconst (pc := 317) C dL_isTurned_317 ?_
    exact zP_zret (pc := 318) C E dL_isTurned_318 (Or.inl rfl) h
  · refine zP_aload_n (pc := 292) C (x := zad V 0) dL_isTurned_292 rfl rfl ?_
    refine zP_bipush (pc := 293) C dL_isTurned_293 rfl ?_
    obtain ⟨v295, d1, hc, h⟩ := zc_h h
    obtain ⟨hnv295, h⟩ := zx_h h
    refine zP_callV (pc := 295) (As := [.int (zI 7)]) (st := []) C m99_111 dL_isTurned_295 (s_X11 hT0) rfl (t_X11_account hT0 (zRk rfl) hc hnv295) ⟨Nat.le_of_ble_eq_true rfl, Nat.le_of_ble_eq_true rfl⟩ rfl (Nat.le_of_ble_eq_true rfl) ⟨Nat.zero_le _, Nat.zero_le _⟩ fun hw => ?_
    have hv295 := hw
    clear hc hw
    show zP V X 13 0 0 298 _ [.int (zI v295)] d1
    revert h
    generalize d1 = d
    intro h
    refine zP_iload (pc := 298) C (x := zI x9) dL_isTurned_298 rfl ?_
    refine zP_iload (pc := 300) C (x := zI x11) dL_isTurned_300 rfl ?_
    refine zP_iadd (pc := 302) C dL_isTurned_302 h fun v302 hv302 h => ?_
    refine zP_iload (pc := 303) C (x := zI x12) dL_isTurned_303 rfl ?_
    refine zP_if_ne (pc := 305) (tgt := 312) C dL_isTurned_305 rfl hx12 h (fun _ h => ?_) (fun _ h => ?_)
    · refine zP_iconst (pc := 312) C dL_isTurned_312 ?_
      exact zP_mask [true, true, true, false, false, false, false, false, false, false, false, false, true] (wj_L_isTurned_313 hT0 C E  hx1 hx2 hx12 (zRk rfl) hv302 hv295 h)
    · refine zP_iconst (pc := 308) C dL_isTurned_308 ?_
      refine zP_goto (pc := 309) (tgt := 313) C dL_isTurned_309 rfl ?_
      exact zP_mask [true, true, true, false, false, false, false, false, false, false, false, false, true] (wj_L_isTurned_313 hT0 C E  hx1 hx2 hx12 (zRk rfl) hv302 hv295 h)
def j_L_isTurned_190   (x1 x2 x3 x6 x9 x10 s0 s1 s2 : Int) (d : zD) : Option (Int × zD) :=
  zl (zw (s1 + s0)) fun v190 =>
  if (s2 : Int) = v190 then (
    if (x1 : Int) = 3 then (
      zc (f_X11_turn  0 3 d) fun v204 d => zx v204 <|
      if (v204 : Int) = 0 then (
        zc (f_X11_turn  0 2 d) fun v213 d => zx v213 <|
        if (v213 : Int) = 0 then (
          zl (zw (x6 + 1)) fun v223 =>
          if (x3 : Int) = v223 then (
            if (x2 : Int) = (-1) then (
              some (1, d))
            else (
              some (0, d)))
          else (
            some (0, d)))
        else (
          some (0, d)))
      else (
        some (0, d)))
    else (
      zc (f_X11_turn  0 3 d) fun v241 d => zx v241 <|
      zc (f_X11_turn  0 2 d) fun v249 d => zx v249 <|
      zc (f_X11_often  x2 x1 d) fun v257 d => zx v257 <|
      zl (zw (x10 + 1)) fun v263 =>
      if (v257 : Int) = v263 then (
        if (v241 : Int) < 1 then (
          some (0, d))
        else (
          if (x1 : Int) = 2 then (
            j_L_isTurned_289   x1 x2 x9 v241 v249 1 v241 d)
          else (
            zc (f_X11_setting  1 d) fun v286 d => zx v286 <|
            j_L_isTurned_289   x1 x2 x9 v241 v249 v286 v241 d)))
      else (
        some (0, d))))
  else (
    some (0, d))
theorem wj_L_isTurned_190 {V : zW} {X : zX}  (hT0 : zo11 V) (C : zOk V X cL_isTurned RL 13 (zrm 7) (some .boolean)) {rv : Int} {dz : zD} (E : zEnd V X (some (.int (zI rv))) (rv = 0 ∨ rv = 1) dz)  {x1 x2 x3 x6 x9 x10 s0 s1 s2 : Int} (hx1 : zR x1) (hx2 : zR x2) (hx3 : zR x3) (hx6 : zR x6) (hx9 : zR x9) (hx10 : zR x10) (hs0 : zR s0) (hs1 : zR s1) (hs2 : zR s2) {d : zD} (h : j_L_isTurned_190   x1 x2 x3 x6 x9 x10 s0 s1 s2 d = some (rv, dz)) : zP V X 13 0 0 190 [some (.ref (zad V 0)), some (.int (zI x1)), some (.int (zI x2)), some (.int (zI x3)), none, none, some (.int (zI x6)), none, none, some (.int (zI x9)), some (.int (zI x10)), none, none] [.int (zI s0), .int (zI s1), .int (zI s2)] d := by
  refine zP_iadd (pc := 190) C dL_isTurned_190 h fun v190 hv190 h => ?_
  refine zP_icmp_eq (pc := 191) (tgt := 196) C dL_isTurned_191 rfl hs2 hv190 h (fun _ h => ?_) (fun _ h => ?_)
  · refine zP_iload_n (pc := 196) C (x := zI x1) dL_isTurned_196 rfl rfl ?_
    refine zP_iconst (pc := 197) C dL_isTurned_197 ?_
    refine zP_icmp_ne (pc := 198) (tgt := 238) C dL_isTurned_198 rfl hx1 (zRk rfl) h (fun _ h => ?_) (fun _ h => ?_)
    · refine zP_aload_n (pc := 238) C (x := zad V 0) dL_isTurned_238 rfl rfl ?_
      refine zP_iconst (pc := 239) C dL_isTurned_239 ?_
      refine zP_iconst (pc := 240) C dL_isTurned_240 ?_
      obtain ⟨v241, d1, hc, h⟩ := zc_h h
      obtain ⟨hnv241, h⟩ := zx_h h
      refine zP_callV (pc := 241) (As := [.int (zI 0), .int (zI 3)]) (st := []) C m99_139 dL_isTurned_241 (s_X11 hT0) rfl (t_X11_turn hT0 (zRk rfl) (zRk rfl) hc hnv241) ⟨Nat.le_of_ble_eq_true rfl, Nat.le_of_ble_eq_true rfl⟩ rfl (Nat.le_of_ble_eq_true rfl) ⟨Nat.zero_le _, Nat.zero_le _⟩ fun hw => ?_
      have hv241 := hw
      clear hc hw
      show zP V X 13 0 0 244 _ [.int (zI v241)] d1
      revert h
      generalize d1 = d
      intro h
      refine zP_istore (pc := 244) C (L' := [some (.ref (zad V 0)), some (.int (zI x1)), some (.int (zI x2)), some (.int (zI x3)), none, none, some (.int (zI x6)), none, none, some (.int (zI x9)), some (.int (zI x10)), some (.int (zI v241)), none]) dL_isTurned_244 (Nat.le_of_ble_eq_true rfl) rfl rfl ?_
      refine zP_aload_n (pc := 246) C (x := zad V 0) dL_isTurned_246 rfl rfl ?_
      refine zP_iconst (pc := 247) C dL_isTurned_247 ?_
      refine zP_iconst (pc := 248) C dL_isTurned_248 ?_
      obtain ⟨v249, d1, hc, h⟩ := zc_h h
      obtain ⟨hnv249, h⟩ := zx_h h
      refine zP_callV (pc := 249) (As := [.int (zI 0), .int (zI 2)]) (st := []) C m99_139 dL_isTurned_249 (s_X11 hT0) rfl (t_X11_turn hT0 (zRk rfl) (zRk rfl) hc hnv249) ⟨Nat.le_of_ble_eq_true rfl, Nat.le_of_ble_eq_true rfl⟩ rfl (Nat.le_of_ble_eq_true rfl) ⟨Nat.zero_le _, Nat.zero_le _⟩ fun hw => ?_
      have hv249 := hw
      clear hc hw
      show zP V X 13 0 0 252 _ [.int (zI v249)] d1
      revert h
      generalize d1 = d
      intro h
      refine zP_istore (pc := 252) C (L' := [some (.ref (zad V 0)), some (.int (zI x1)), some (.int (zI x2)), some (.int (zI x3)), none, none, some (.int (zI x6)), none, none, some (.int (zI x9)), some (.int (zI x10)), some (.int (zI v241)), some (.int (zI v249))]) dL_isTurned_252 (Nat.le_of_ble_eq_true rfl) rfl rfl ?_
      refine zP_aload_n (pc := 254) C (x := zad V 0) dL_isTurned_254 rfl rfl ?_
      refine zP_iload_n (pc := 255) C (x := zI x2) dL_isTurned_255 rfl rfl ?_
      refine zP_iload_n (pc := 256) C (x := zI x1) dL_isTurned_256 rfl rfl ?_
      obtain ⟨v257, d1, hc, h⟩ := zc_h h
      obtain ⟨hnv257, h⟩ := zx_h h
      refine zP_callV (pc := 257) (As := [.int (zI x2), .int (zI x1)]) (st := []) C m99_133 dL_isTurned_257 (s_X11 hT0) rfl (t_X11_often hT0 hx2 hx1 hc hnv257) ⟨Nat.le_of_ble_eq_true rfl, Nat.le_of_ble_eq_true rfl⟩ rfl (Nat.le_of_ble_eq_true rfl) ⟨Nat.zero_le _, Nat.zero_le _⟩ fun hw => ?_
      have hv257 := hw
      clear hc hw
      show zP V X 13 0 0 260 _ [.int (zI v257)] d1
      revert h
      generalize d1 = d
      intro h
      refine zP_iload (pc := 260) C (x := zI x10) dL_isTurned_260 rfl ?_
      refine zP_iconst (pc := 262) C dL_isTurned_262 ?_
      refine zP_iadd (pc := 263) C dL_isTurned_263 h fun v263 hv263 h => ?_
      refine zP_icmp_ne (pc := 264) (tgt := 317) C dL_isTurned_264 rfl hv257 hv263 h (fun _ h => ?_) (fun _ h => ?_)
      · refine zP_iconst (pc := 317) C dL_isTurned_317 ?_
        exact zP_zret (pc := 318) C E dL_isTurned_318 (Or.inl rfl) h
      · refine zP_iload (pc := 267) C (x := zI v241) dL_isTurned_267 rfl ?_
        refine zP_iconst (pc := 269) C dL_isTurned_269 ?_
        refine zP_icmp_lt (pc := 270) (tgt := 317) C dL_isTurned_270 rfl hv241 (zRk rfl) h (fun _ h => ?_) (fun _ h => ?_)
        · refine zP_iconst (pc := 317) C dL_isTurned_317 ?_
          exact zP_zret (pc := 318) C E dL_isTurned_318 (Or.inl rfl) h
        · refine zP_iload (pc := 273) C (x := zI v241) dL_isTurned_273 rfl ?_
          refine zP_iload_n (pc := 275) C (x := zI x1) dL_isTurned_275 rfl rfl ?_
          refine zP_iconst (pc := 276) C dL_isTurned_276 ?_
          refine zP_icmp_ne (pc := 277) (tgt := 284) C dL_isTurned_277 rfl hx1 (zRk rfl) h (fun _ h => ?_) (fun _ h => ?_)
          · refine zP_aload_n (pc := 284) C (x := zad V 0) dL_isTurned_284 rfl rfl ?_
            refine zP_iconst (pc := 285) C dL_isTurned_285 ?_
            obtain ⟨v286, d1, hc, h⟩ := zc_h h
            obtain ⟨hnv286, h⟩ := zx_h h
            refine zP_callV (pc := 286) (As := [.int (zI 1)]) (st := [.int (zI v241)]) C m99_142 dL_isTurned_286 (s_X11 hT0) rfl (t_X11_setting hT0 (zRk rfl) hc hnv286) ⟨Nat.le_of_ble_eq_true rfl, Nat.le_of_ble_eq_true rfl⟩ rfl (Nat.le_of_ble_eq_true rfl) ⟨Nat.zero_le _, Nat.zero_le _⟩ fun hw => ?_
            have hv286 := hw
            clear hc hw
            show zP V X 13 0 0 289 _ [.int (zI v286), .int (zI v241)] d1
            revert h
            generalize d1 = d
            intro h
            exact zP_mask [true, true, true, false, false, false, false, false, false, true, false, true, true] (wj_L_isTurned_289 hT0 C E  hx1 hx2 hx9 hv241 hv249 hv286 hv241 h)
          · refine zP_iconst (pc := 280) C dL_isTurned_280 ?_
            refine zP_goto (pc := 281) (tgt := 289) C dL_isTurned_281 rfl ?_
            exact zP_mask [true, true, true, false, false, false, false, false, false, true, false, true, true] (wj_L_isTurned_289 hT0 C E  hx1 hx2 hx9 hv241 hv249 (zRk rfl) hv241 h)
    · refine zP_aload_n (pc := 201) C (x := zad V 0) dL_isTurned_201 rfl rfl ?_
      refine zP_iconst (pc := 202) C dL_isTurned_202 ?_
      refine zP_iconst (pc := 203) C dL_isTurned_203 ?_
      obtain ⟨v204, d1, hc, h⟩ := zc_h h
      obtain ⟨hnv204, h⟩ := zx_h h
      refine zP_callV (pc := 204) (As := [.int (zI 0), .int (zI 3)]) (st := []) C m99_139 dL_isTurned_204 (s_X11 hT0) rfl (t_X11_turn hT0 (zRk rfl) (zRk rfl) hc hnv204) ⟨Nat.le_of_ble_eq_true rfl, Nat.le_of_ble_eq_true rfl⟩ rfl (Nat.le_of_ble_eq_true rfl) ⟨Nat.zero_le _, Nat.zero_le _⟩ fun hw => ?_
      have hv204 := hw
      clear hc hw
      show zP V X 13 0 0 207 _ [.int (zI v204)] d1
      revert h
      generalize d1 = d
      intro h
      refine zP_if_ne (pc := 207) (tgt := 236) C dL_isTurned_207 rfl hv204 h (fun _ h => ?_) (fun _ h => ?_)
      · refine zP_iconst (pc := 236) C dL_isTurned_236 ?_
        exact zP_zret (pc := 237) C E dL_isTurned_237 (Or.inl rfl) h
      · refine zP_aload_n (pc := 210) C (x := zad V 0) dL_isTurned_210 rfl rfl ?_
        refine zP_iconst (pc := 211) C dL_isTurned_211 ?_
        refine zP_iconst (pc := 212) C dL_isTurned_212 ?_
        obtain ⟨v213, d1, hc, h⟩ := zc_h h
        obtain ⟨hnv213, h⟩ := zx_h h
        refine zP_callV (pc := 213) (As := [.int (zI 0), .int (zI 2)]) (st := []) C m99_139 dL_isTurned_213 (s_X11 hT0) rfl (t_X11_turn hT0 (zRk rfl) (zRk rfl) hc hnv213) ⟨Nat.le_of_ble_eq_true rfl, Nat.le_of_ble_eq_true rfl⟩ rfl (Nat.le_of_ble_eq_true rfl) ⟨Nat.zero_le _, Nat.zero_le _⟩ fun hw => ?_
        have hv213 := hw
        clear hc hw
        show zP V X 13 0 0 216 _ [.int (zI v213)] d1
        revert h
        generalize d1 = d
        intro h
        refine zP_if_ne (pc := 216) (tgt := 236) C dL_isTurned_216 rfl hv213 h (fun _ h => ?_) (fun _ h => ?_)
        · refine zP_iconst (pc := 236) C dL_isTurned_236 ?_
          exact zP_zret (pc := 237) C E dL_isTurned_237 (Or.inl rfl) h
        · refine zP_iload_n (pc := 219) C (x := zI x3) dL_isTurned_219 rfl rfl ?_
          refine zP_iload (pc := 220) C (x := zI x6) dL_isTurned_220 rfl ?_
          refine zP_iconst (pc := 222) C dL_isTurned_222 ?_
          refine zP_iadd (pc := 223) C dL_isTurned_223 h fun v223 hv223 h => ?_
          refine zP_icmp_ne (pc := 224) (tgt := 236) C dL_isTurned_224 rfl hx3 hv223 h (fun _ h => ?_) (fun _ h => ?_)
          · refine zP_iconst (pc := 236) C dL_isTurned_236 ?_
            exact zP_zret (pc := 237) C E dL_isTurned_237 (Or.inl rfl) h
          · refine zP_iload_n (pc := 227) C (x := zI x2) dL_isTurned_227 rfl rfl ?_
            refine zP_iconst (pc := 228) C dL_isTurned_228 ?_
            refine zP_icmp_ne (pc := 229) (tgt := 236) C dL_isTurned_229 rfl hx2 (zRk rfl) h (fun _ h => ?_) (fun _ h => ?_)
            · refine zP_iconst (pc := 236) C dL_isTurned_236 ?_
              exact zP_zret (pc := 237) C E dL_isTurned_237 (Or.inl rfl) h
            · refine zP_iconst (pc := 232) C dL_isTurned_232 ?_
              refine zP_goto (pc := 233) (tgt := 237) C dL_isTurned_233 rfl ?_
              exact zP_zret (pc := 237) C E dL_isTurned_237 (Or.inr rfl) h
  · refine zP_iconst (pc := 194) C dL_isTurned_194 ?_
    exact zP_zret (pc := 195) C E dL_isTurned_195 (Or.inl rfl) h
def j_L_isTurned_168   (x1 x2 x3 x6 x8 x9 x10 s0 s1 s2 : Int) (d : zD) : Option (Int × zD) :=
  zl (zw (s1 + s0)) fun v168 =>
  if (s2 : Int) = v168 then (
    zc (f_X11_account  11 d) fun v175 d => zx v175 <|
    if (x1 : Int) = 2 then (
      j_L_isTurned_190   x1 x2 x3 x6 x9 x10 1 x8 v175 d)
    else (
      j_L_isTurned_190   x1 x2 x3 x6 x9 x10 0 x8 v175 d))
  else (
    some (0, d))
theorem wj_L_isTurned_168 {V : zW} {X : zX}  (hT0 : zo11 V) (C : zOk V X cL_isTurned RL 13 (zrm 7) (some .boolean)) {rv : Int} {dz : zD} (E : zEnd V X (some (.int (zI rv))) (rv = 0 ∨ rv = 1) dz)  {x1 x2 x3 x6 x8 x9 x10 s0 s1 s2 : Int} (hx1 : zR x1) (hx2 : zR x2) (hx3 : zR x3) (hx6 : zR x6) (hx8 : zR x8) (hx9 : zR x9) (hx10 : zR x10) (hs0 : zR s0) (hs1 : zR s1) (hs2 : zR s2) {d : zD} (h : j_L_isTurned_168   x1 x2 x3 x6 x8 x9 x10 s0 s1 s2 d = some (rv, dz)) : zP V X 13 0 0 168 [some (.ref (zad V 0)), some (.int (zI x1)), some (.int (zI x2)), some (.int (zI x3)), none, none, some (.int (zI x6)), none, some (.int (zI x8)), some (.int (zI x9)), some (.int (zI x10)), none, none] [.int (zI s0), .int (zI s1), .int (zI s2)] d := by
  refine zP_iadd (pc := 168) C dL_isTurned_168 h fun v168 hv168 h => ?_
  refine zP_icmp_ne (pc := 169) (tgt := 194) C dL_isTurned_169 rfl hs2 hv168 h (fun _ h => ?_) (fun _ h => ?_)
  · refine zP_iconst (pc := 194) C dL_isTurned_194 ?_
    exact zP_zret (pc := 195) C E dL_isTurned_195 (Or.inl rfl) h
  · refine zP_aload_n (pc := 172) C (x := zad V 0) dL_isTurned_172 rfl rfl ?_
    refine zP_bipush (pc := 173) C dL_isTurned_173 rfl ?_
    obtain ⟨v175, d1, hc, h⟩ := zc_h h
    obtain ⟨hnv175, h⟩ := zx_h h
    refine zP_callV (pc := 175) (As := [.int (zI 11)]) (st := []) C m99_111 dL_isTurned_175 (s_X11 hT0) rfl (t_X11_account hT0 (zRk rfl) hc hnv175) ⟨Nat.le_of_ble_eq_true rfl, Nat.le_of_ble_eq_true rfl⟩ rfl (Nat.le_of_ble_eq_true rfl) ⟨Nat.zero_le _, Nat.zero_le _⟩ fun hw => ?_
    have hv175 := hw
    clear hc hw
    show zP V X 13 0 0 178 _ [.int (zI v175)] d1
    revert h
    generalize d1 = d
    intro h
    refine zP_iload (pc := 178) C (x := zI x8) dL_isTurned_178 rfl ?_
    refine zP_iload_n (pc := 180) C (x := zI x1) dL_isTurned_180 rfl rfl ?_
    refine zP_iconst (pc := 181) C dL_isTurned_181 ?_
    refine zP_icmp_ne (pc := 182) (tgt := 189) C dL_isTurned_182 rfl hx1 (zRk rfl) h (fun _ h => ?_) (fun _ h => ?_)
    · refine zP_iconst (pc := 189) C dL_isTurned_189 ?_
      exact zP_mask [true, true, true, true, false, false, true, false, false, true, true, false, false] (wj_L_isTurned_190 hT0 C E  hx1 hx2 hx3 hx6 hx9 hx10 (zRk rfl) hx8 hv175 h)
    · refine zP_iconst (pc := 185) C dL_isTurned_185 ?_
      refine zP_goto (pc := 186) (tgt := 190) C dL_isTurned_186 rfl ?_
      exact zP_mask [true, true, true, true, false, false, true, false, false, true, true, false, false] (wj_L_isTurned_190 hT0 C E  hx1 hx2 hx3 hx6 hx9 hx10 (zRk rfl) hx8 hv175 h)
def j_L_isTurned_77   (x1 x2 x3 x4 x5 x6 x7 x8 x9 s0 : Int) (d : zD) : Option (Int × zD) :=
  zc (f_X11_run  1 d) fun v81 d => zx v81 <|
  zl (zw (x4 - x5)) fun v88 =>
  if (v81 : Int) = v88 then (
    zc (f_X11_count  3 d) fun v94 d => zx v94 <|
    if (v94 : Int) = x3 then (
      zc (f_X11_count  9 d) fun v104 d => zx v104 <|
      if (v104 : Int) = x4 then (
        if (x6 : Int) < x3 then (
          zc (f_X11_turn  0 0 d) fun v123 d => zx v123 <|
          if (v123 : Int) = x1 then (
            zc (f_X11_turn  0 1 d) fun v133 d => zx v133 <|
            if (v133 : Int) = x2 then (
              zc (f_X11_turn  0 4 d) fun v143 d => zx v143 <|
              if (v143 : Int) = x3 then (
                zc (f_X11_account  12 d) fun v153 d => zx v153 <|
                if (x1 : Int) = 3 then (
                  j_L_isTurned_168   x1 x2 x3 x6 x8 x9 s0 1 x7 v153 d)
                else (
                  j_L_isTurned_168   x1 x2 x3 x6 x8 x9 s0 0 x7 v153 d))
              else (
                some (0, d)))
            else (
              some (0, d)))
          else (
            some (0, d)))
        else (
          some (0, d)))
      else (
        some (0, d)))
    else (
      some (0, d)))
  else (
    some (0, d))
theorem wj_L_isTurned_77 {V : zW} {X : zX}  (hT0 : zo11 V) (C : zOk V X cL_isTurned RL 13 (zrm 7) (some .boolean)) {rv : Int} {dz : zD} (E : zEnd V X (some (.int (zI rv))) (rv = 0 ∨ rv = 1) dz)  {x1 x2 x3 x4 x5 x6 x7 x8 x9 s0 : Int} (hx1 : zR x1) (hx2 : zR x2) (hx3 : zR x3) (hx4 : zR x4) (hx5 : zR x5) (hx6 : zR x6) (hx7 : zR x7) (hx8 : zR x8) (hx9 : zR x9) (hs0 : zR s0) {d : zD} (h : j_L_isTurned_77   x1 x2 x3 x4 x5 x6 x7 x8 x9 s0 d = some (rv, dz)) : zP V X 13 0 0 77 [some (.ref (zad V 0)), some (.int (zI x1)), some (.int (zI x2)), some (.int (zI x3)), some (.int (zI x4)), some (.int (zI x5)), some (.int (zI x6)), some (.int (zI x7)), some (.int (zI x8)), some (.int (zI x9)), none, none, none] [.int (zI s0)] d := by
  refine zP_istore (pc := 77) C (L' := [some (.ref (zad V 0)), some (.int (zI x1)), some (.int (zI x2)), some (.int (zI x3)), some (.int (zI x4)), some (.int (zI x5)), some (.int (zI x6)), some (.int (zI x7)), some (.int (zI x8)), some (.int (zI x9)), some (.int (zI s0)), none, none]) dL_isTurned_77 (Nat.le_of_ble_eq_true rfl) rfl rfl ?_
  refine zP_aload_n (pc := 79) C (x := zad V 0) dL_isTurned_79 rfl rfl ?_
  refine zP_iconst (pc := 80) C dL_isTurned_80 ?_
  obtain ⟨v81, d1, hc, h⟩ := zc_h h
  obtain ⟨hnv81, h⟩ := zx_h h
  refine zP_callV (pc := 81) (As := [.int (zI 1)]) (st := []) C m99_136 dL_isTurned_81 (s_X11 hT0) rfl (t_X11_run hT0 (zRk rfl) hc hnv81) ⟨Nat.le_of_ble_eq_true rfl, Nat.le_of_ble_eq_true rfl⟩ rfl (Nat.le_of_ble_eq_true rfl) ⟨Nat.zero_le _, Nat.zero_le _⟩ fun hw => ?_
  have hv81 := hw
  clear hc hw
  show zP V X 13 0 0 84 _ [.int (zI v81)] d1
  revert h
  generalize d1 = d
  intro h
  refine zP_iload (pc := 84) C (x := zI x4) dL_isTurned_84 rfl ?_
  refine zP_iload (pc := 86) C (x := zI x5) dL_isTurned_86 rfl ?_
  refine zP_isub (pc := 88) C dL_isTurned_88 h fun v88 hv88 h => ?_
  refine zP_icmp_ne (pc := 89) (tgt := 118) C dL_isTurned_89 rfl hv81 hv88 h (fun _ h => ?_) (fun _ h => ?_)
  · refine zP_iconst (pc := 118) C dL_isTurned_118 ?_
    exact zP_zret (pc := 119) C E dL_isTurned_119 (Or.inl rfl) h
  · refine zP_aload_n (pc := 92) C (x := zad V 0) dL_isTurned_92 rfl rfl ?_
    refine zP_iconst (pc := 93) C dL_isTurned_93 ?_
    obtain ⟨v94, d1, hc, h⟩ := zc_h h
    obtain ⟨hnv94, h⟩ := zx_h h
    refine zP_callV (pc := 94) (As := [.int (zI 3)]) (st := []) C m99_97 dL_isTurned_94 (s_X11 hT0) rfl (t_X11_count hT0 (zRk rfl) hc hnv94) ⟨Nat.le_of_ble_eq_true rfl, Nat.le_of_ble_eq_true rfl⟩ rfl (Nat.le_of_ble_eq_true rfl) ⟨Nat.zero_le _, Nat.zero_le _⟩ fun hw => ?_
    have hv94 := hw
    clear hc hw
    show zP V X 13 0 0 97 _ [.int (zI v94)] d1
    revert h
    generalize d1 = d
    intro h
    refine zP_iload_n (pc := 97) C (x := zI x3) dL_isTurned_97 rfl rfl ?_
    refine zP_icmp_ne (pc := 98) (tgt := 118) C dL_isTurned_98 rfl hv94 hx3 h (fun _ h => ?_) (fun _ h => ?_)
    · refine zP_iconst (pc := 118) C dL_isTurned_118 ?_
      exact zP_zret (pc := 119) C E dL_isTurned_119 (Or.inl rfl) h
    · refine zP_aload_n (pc := 101) C (x := zad V 0) dL_isTurned_101 rfl rfl ?_
      refine zP_bipush (pc := 102) C dL_isTurned_102 rfl ?_
      obtain ⟨v104, d1, hc, h⟩ := zc_h h
      obtain ⟨hnv104, h⟩ := zx_h h
      refine zP_callV (pc := 104) (As := [.int (zI 9)]) (st := []) C m99_97 dL_isTurned_104 (s_X11 hT0) rfl (t_X11_count hT0 (zRk rfl) hc hnv104) ⟨Nat.le_of_ble_eq_true rfl, Nat.le_of_ble_eq_true rfl⟩ rfl (Nat.le_of_ble_eq_true rfl) ⟨Nat.zero_le _, Nat.zero_le _⟩ fun hw => ?_
      have hv104 := hw
      clear hc hw
      show zP V X 13 0 0 107 _ [.int (zI v104)] d1
      revert h
      generalize d1 = d
      intro h
      refine zP_iload (pc := 107) C (x := zI x4) dL_isTurned_107 rfl ?_
      refine zP_icmp_ne (pc := 109) (tgt := 118) C dL_isTurned_109 rfl hv104 hx4 h (fun _ h => ?_) (fun _ h => ?_)
      · refine zP_iconst (pc := 118) C dL_isTurned_118 ?_
        exact zP_zret (pc := 119) C E dL_isTurned_119 (Or.inl rfl) h
      · refine zP_iload_n (pc := 112) C (x := zI x3) dL_isTurned_112 rfl rfl ?_
        refine zP_iload (pc := 113) C (x := zI x6) dL_isTurned_113 rfl ?_
        refine zP_icmp_gt (pc := 115) (tgt := 120) C dL_isTurned_115 rfl hx3 hx6 h (fun _ h => ?_) (fun _ h => ?_)
        · refine zP_aload_n (pc := 120) C (x := zad V 0) dL_isTurned_120 rfl rfl ?_
          refine zP_iconst (pc := 121) C dL_isTurned_121 ?_
          refine zP_iconst (pc := 122) C dL_isTurned_122 ?_
          obtain ⟨v123, d1, hc, h⟩ := zc_h h
          obtain ⟨hnv123, h⟩ := zx_h h
          refine zP_callV (pc := 123) (As := [.int (zI 0), .int (zI 0)]) (st := []) C m99_139 dL_isTurned_123 (s_X11 hT0) rfl (t_X11_turn hT0 (zRk rfl) (zRk rfl) hc hnv123) ⟨Nat.le_of_ble_eq_true rfl, Nat.le_of_ble_eq_true rfl⟩ rfl (Nat.le_of_ble_eq_true rfl) ⟨Nat.zero_le _, Nat.zero_le _⟩ fun hw => ?_
          have hv123 := hw
          clear hc hw
          show zP V X 13 0 0 126 _ [.int (zI v123)] d1
          revert h
          generalize d1 = d
          intro h
          refine zP_iload_n (pc := 126) C (x := zI x1) dL_isTurned_126 rfl rfl ?_
          refine zP_icmp_ne (pc := 127) (tgt := 194) C dL_isTurned_127 rfl hv123 hx1 h (fun _ h => ?_) (fun _ h => ?_)
          · refine zP_iconst (pc := 194) C dL_isTurned_194 ?_
            exact zP_zret (pc := 195) C E dL_isTurned_195 (Or.inl rfl) h
          · refine zP_aload_n (pc := 130) C (x := zad V 0) dL_isTurned_130 rfl rfl ?_
            refine zP_iconst (pc := 131) C dL_isTurned_131 ?_
            refine zP_iconst (pc := 132) C dL_isTurned_132 ?_
            obtain ⟨v133, d1, hc, h⟩ := zc_h h
            obtain ⟨hnv133, h⟩ := zx_h h
            refine zP_callV (pc := 133) (As := [.int (zI 0), .int (zI 1)]) (st := []) C m99_139 dL_isTurned_133 (s_X11 hT0) rfl (t_X11_turn hT0 (zRk rfl) (zRk rfl) hc hnv133) ⟨Nat.le_of_ble_eq_true rfl, Nat.le_of_ble_eq_true rfl⟩ rfl (Nat.le_of_ble_eq_true rfl) ⟨Nat.zero_le _, Nat.zero_le _⟩ fun hw => ?_
            have hv133 := hw
            clear hc hw
            show zP V X 13 0 0 136 _ [.int (zI v133)] d1
            revert h
            generalize d1 = d
            intro h
            refine zP_iload_n (pc := 136) C (x := zI x2) dL_isTurned_136 rfl rfl ?_
            refine zP_icmp_ne (pc := 137) (tgt := 194) C dL_isTurned_137 rfl hv133 hx2 h (fun _ h => ?_) (fun _ h => ?_)
            · refine zP_iconst (pc := 194) C dL_isTurned_194 ?_
              exact zP_zret (pc := 195) C E dL_isTurned_195 (Or.inl rfl) h
            · refine zP_aload_n (pc := 140) C (x := zad V 0) dL_isTurned_140 rfl rfl ?_
              refine zP_iconst (pc := 141) C dL_isTurned_141 ?_
              refine zP_iconst (pc := 142) C dL_isTurned_142 ?_
              obtain ⟨v143, d1, hc, h⟩ := zc_h h
              obtain ⟨hnv143, h⟩ := zx_h h
              refine zP_callV (pc := 143) (As := [.int (zI 0), .int (zI 4)]) (st := []) C m99_139 dL_isTurned_143 (s_X11 hT0) rfl (t_X11_turn hT0 (zRk rfl) (zRk rfl) hc hnv143) ⟨Nat.le_of_ble_eq_true rfl, Nat.le_of_ble_eq_true rfl⟩ rfl (Nat.le_of_ble_eq_true rfl) ⟨Nat.zero_le _, Nat.zero_le _⟩ fun hw => ?_
              have hv143 := hw
              clear hc hw
              show zP V X 13 0 0 146 _ [.int (zI v143)] d1
              revert h
              generalize d1 = d
              intro h
              refine zP_iload_n (pc := 146) C (x := zI x3) dL_isTurned_146 rfl rfl ?_
              refine zP_icmp_ne (pc := 147) (tgt := 194) C dL_isTurned_147 rfl hv143 hx3 h (fun _ h => ?_) (fun _ h => ?_)
              · refine zP_iconst (pc := 194) C dL_isTurned_194 ?_
                exact zP_zret (pc := 195) C E dL_isTurned_195 (Or.inl rfl) h
              · refine zP_aload_n (pc := 150) C (x := zad V 0) dL_isTurned_150 rfl rfl ?_
                refine zP_bipush (pc := 151) C dL_isTurned_151 rfl ?_
                obtain ⟨v153, d1, hc, h⟩ := zc_h h
                obtain ⟨hnv153, h⟩ := zx_h h
                refine zP_callV (pc := 153) (As := [.int (zI 12)]) (st := []) C m99_111 dL_isTurned_153 (s_X11 hT0) rfl (t_X11_account hT0 (zRk rfl) hc hnv153) ⟨Nat.le_of_ble_eq_true rfl, Nat.le_of_ble_eq_true rfl⟩ rfl (Nat.le_of_ble_eq_true rfl) ⟨Nat.zero_le _, Nat.zero_le _⟩ fun hw => ?_
                have hv153 := hw
                clear hc hw
                show zP V X 13 0 0 156 _ [.int (zI v153)] d1
                revert h
                generalize d1 = d
                intro h
                refine zP_iload (pc := 156) C (x := zI x7) dL_isTurned_156 rfl ?_
                refine zP_iload_n (pc := 158) C (x := zI x1) dL_isTurned_158 rfl rfl ?_
                refine zP_iconst (pc := 159) C dL_isTurned_159 ?_
                refine zP_icmp_ne (pc := 160) (tgt := 167) C dL_isTurned_160 rfl hx1 (zRk rfl) h (fun _ h => ?_) (fun _ h => ?_)
                · refine zP_iconst (pc := 167) C dL_isTurned_167 ?_
                  exact zP_mask [true, true, true, true, false, false, true, false, true, true, true, false, false] (wj_L_isTurned_168 hT0 C E  hx1 hx2 hx3 hx6 hx8 hx9 hs0 (zRk rfl) hx7 hv153 h)
                · refine zP_iconst (pc := 163) C dL_isTurned_163 ?_
                  refine zP_goto (pc := 164) (tgt := 168) C dL_isTurned_164 rfl ?_
                  exact zP_mask [true, true, true, true, false, false, true, false, true, true, true, false, false] (wj_L_isTurned_168 hT0 C E  hx1 hx2 hx3 hx6 hx8 hx9 hs0 (zRk rfl) hx7 hv153 h)
        · refine zP_iconst (pc := 118) C dL_isTurned_118 ?_
          exact zP_zret (pc := 119) C E dL_isTurned_119 (Or.inl rfl) h
def f_L_isTurned  (d : zD) : Option (Int × zD) :=
  zc (f_X11_nextKind   d) fun v1 d =>
  zc (f_X11_nextTerminal   d) fun v6 d =>
  zc (f_X11_timeIn  1 d) fun v12 d => zx v12 <|
  zc (f_X11_deliveredIn  1 d) fun v18 d => zx v18 <|
  zc (f_X11_count  9 d) fun v26 d => zx v26 <|
  zc (f_X11_count  3 d) fun v33 d => zx v33 <|
  zc (f_X11_account  12 d) fun v41 d => zx v41 <|
  zc (f_X11_account  11 d) fun v49 d => zx v49 <|
  zc (f_X11_account  7 d) fun v57 d => zx v57 <|
  if (v6 : Int) = (-1) then (
    j_L_isTurned_77   v1 v6 v12 v18 v26 v33 v41 v49 v57 0 d)
  else (
    zc (f_X11_often  v6 v1 d) fun v74 d => zx v74 <|
    j_L_isTurned_77   v1 v6 v12 v18 v26 v33 v41 v49 v57 v74 d)
theorem t_L_isTurned {V : zW}  (hT0 : zo11 V)   {d dz : zD} {rv : Int} (h : f_L_isTurned   d = some (rv, dz)) : zMet V 7 yL_isTurned cL_isTurned 13 (some .boolean) [.ref (zad V 0)] d (some (.int (zI rv))) (rv = 0 ∨ rv = 1) dz := by
  refine zMet_by RL pn99 rfl (Nat.le_of_ble_eq_true rfl) [some (.ref (zad V 0)), none, none, none, none, none, none, none, none, none, none, none, none] rfl fun X C E => ?_
  refine zP_aload_n (pc := 0) C (x := zad V 0) dL_isTurned_0 rfl rfl ?_
  obtain ⟨v1, d1, hc, h⟩ := zc_h h
  refine zP_callV (pc := 1) (As := []) (st := []) C m99_121 dL_isTurned_1 (s_X11 hT0) rfl (t_X11_nextKind hT0  hc) ⟨Nat.le_of_ble_eq_true rfl, Nat.le_of_ble_eq_true rfl⟩ rfl (Nat.le_of_ble_eq_true rfl) ⟨Nat.zero_le _, Nat.zero_le _⟩ fun hw => ?_
  have hv1 := hw
  clear hc hw
  show zP V X 13 0 0 4 _ [.int (zI v1)] d1
  revert h
  generalize d1 = d
  intro h
  refine zP_istore_n (pc := 4) C (L' := [some (.ref (zad V 0)), some (.int (zI v1)), none, none, none, none, none, none, none, none, none, none, none]) dL_isTurned_4 rfl (Nat.le_of_ble_eq_true rfl) rfl rfl ?_
  refine zP_aload_n (pc := 5) C (x := zad V 0) dL_isTurned_5 rfl rfl ?_
  obtain ⟨v6, d1, hc, h⟩ := zc_h h
  refine zP_callV (pc := 6) (As := []) (st := []) C m99_124 dL_isTurned_6 (s_X11 hT0) rfl (t_X11_nextTerminal hT0  hc) ⟨Nat.le_of_ble_eq_true rfl, Nat.le_of_ble_eq_true rfl⟩ rfl (Nat.le_of_ble_eq_true rfl) ⟨Nat.zero_le _, Nat.zero_le _⟩ fun hw => ?_
  have hv6 := hw
  clear hc hw
  show zP V X 13 0 0 9 _ [.int (zI v6)] d1
  revert h
  generalize d1 = d
  intro h
  refine zP_istore_n (pc := 9) C (L' := [some (.ref (zad V 0)), some (.int (zI v1)), some (.int (zI v6)), none, none, none, none, none, none, none, none, none, none]) dL_isTurned_9 rfl (Nat.le_of_ble_eq_true rfl) rfl rfl ?_
  refine zP_aload_n (pc := 10) C (x := zad V 0) dL_isTurned_10 rfl rfl ?_
  refine zP_iconst (pc := 11) C dL_isTurned_11 ?_
  obtain ⟨v12, d1, hc, h⟩ := zc_h h
  obtain ⟨hnv12, h⟩ := zx_h h
  refine zP_callV (pc := 12) (As := [.int (zI 1)]) (st := []) C m99_127 dL_isTurned_12 (s_X11 hT0) rfl (t_X11_timeIn hT0 (zRk rfl) hc hnv12) ⟨Nat.le_of_ble_eq_true rfl, Nat.le_of_ble_eq_true rfl⟩ rfl (Nat.le_of_ble_eq_true rfl) ⟨Nat.zero_le _, Nat.zero_le _⟩ fun hw => ?_
  have hv12 := hw
  clear hc hw
  show zP V X 13 0 0 15 _ [.int (zI v12)] d1
  revert h
  generalize d1 = d
  intro h
  refine zP_istore_n (pc := 15) C (L' := [some (.ref (zad V 0)), some (.int (zI v1)), some (.int (zI v6)), some (.int (zI v12)), none, none, none, none, none, none, none, none, none]) dL_isTurned_15 rfl (Nat.le_of_ble_eq_true rfl) rfl rfl ?_
  refine zP_aload_n (pc := 16) C (x := zad V 0) dL_isTurned_16 rfl rfl ?_
  refine zP_iconst (pc := 17) C dL_isTurned_17 ?_
  obtain ⟨v18, d1, hc, h⟩ := zc_h h
  obtain ⟨hnv18, h⟩ := zx_h h
  refine zP_callV (pc := 18) (As := [.int (zI 1)]) (st := []) C m99_130 dL_isTurned_18 (s_X11 hT0) rfl (t_X11_deliveredIn hT0 (zRk rfl) hc hnv18) ⟨Nat.le_of_ble_eq_true rfl, Nat.le_of_ble_eq_true rfl⟩ rfl (Nat.le_of_ble_eq_true rfl) ⟨Nat.zero_le _, Nat.zero_le _⟩ fun hw => ?_
  have hv18 := hw
  clear hc hw
  show zP V X 13 0 0 21 _ [.int (zI v18)] d1
  revert h
  generalize d1 = d
  intro h
  refine zP_istore (pc := 21) C (L' := [some (.ref (zad V 0)), some (.int (zI v1)), some (.int (zI v6)), some (.int (zI v12)), some (.int (zI v18)), none, none, none, none, none, none, none, none]) dL_isTurned_21 (Nat.le_of_ble_eq_true rfl) rfl rfl ?_
  refine zP_aload_n (pc := 23) C (x := zad V 0) dL_isTurned_23 rfl rfl ?_
  refine zP_bipush (pc := 24) C dL_isTurned_24 rfl ?_
  obtain ⟨v26, d1, hc, h⟩ := zc_h h
  obtain ⟨hnv26, h⟩ := zx_h h
  refine zP_callV (pc := 26) (As := [.int (zI 9)]) (st := []) C m99_97 dL_isTurned_26 (s_X11 hT0) rfl (t_X11_count hT0 (zRk rfl) hc hnv26) ⟨Nat.le_of_ble_eq_true rfl, Nat.le_of_ble_eq_true rfl⟩ rfl (Nat.le_of_ble_eq_true rfl) ⟨Nat.zero_le _, Nat.zero_le _⟩ fun hw => ?_
  have hv26 := hw
  clear hc hw
  show zP V X 13 0 0 29 _ [.int (zI v26)] d1
  revert h
  generalize d1 = d
  intro h
  refine zP_istore (pc := 29) C (L' := [some (.ref (zad V 0)), some (.int (zI v1)), some (.int (zI v6)), some (.int (zI v12)), some (.int (zI v18)), some (.int (zI v26)), none, none, none, none, none, none, none]) dL_isTurned_29 (Nat.le_of_ble_eq_true rfl) rfl rfl ?_
  refine zP_aload_n (pc := 31) C (x := zad V 0) dL_isTurned_31 rfl rfl ?_
  refine zP_iconst (pc := 32) C dL_isTurned_32 ?_
  obtain ⟨v33, d1, hc, h⟩ := zc_h h
  obtain ⟨hnv33, h⟩ := zx_h h
  refine zP_callV (pc := 33) (As := [.int (zI 3)]) (st := []) C m99_97 dL_isTurned_33 (s_X11 hT0) rfl (t_X11_count hT0 (zRk rfl) hc hnv33) ⟨Nat.le_of_ble_eq_true rfl, Nat.le_of_ble_eq_true rfl⟩ rfl (Nat.le_of_ble_eq_true rfl) ⟨Nat.zero_le _, Nat.zero_le _⟩ fun hw => ?_
  have hv33 := hw
  clear hc hw
  show zP V X 13 0 0 36 _ [.int (zI v33)] d1
  revert h
  generalize d1 = d
  intro h
  refine zP_istore (pc := 36) C (L' := [some (.ref (zad V 0)), some (.int (zI v1)), some (.int (zI v6)), some (.int (zI v12)), some (.int (zI v18)), some (.int (zI v26)), some (.int (zI v33)), none, none, none, none, none, none]) dL_isTurned_36 (Nat.le_of_ble_eq_true rfl) rfl rfl ?_
  refine zP_aload_n (pc := 38) C (x := zad V 0) dL_isTurned_38 rfl rfl ?_
  refine zP_bipush (pc := 39) C dL_isTurned_39 rfl ?_
  obtain ⟨v41, d1, hc, h⟩ := zc_h h
  obtain ⟨hnv41, h⟩ := zx_h h
  refine zP_callV (pc := 41) (As := [.int (zI 12)]) (st := []) C m99_111 dL_isTurned_41 (s_X11 hT0) rfl (t_X11_account hT0 (zRk rfl) hc hnv41) ⟨Nat.le_of_ble_eq_true rfl, Nat.le_of_ble_eq_true rfl⟩ rfl (Nat.le_of_ble_eq_true rfl) ⟨Nat.zero_le _, Nat.zero_le _⟩ fun hw => ?_
  have hv41 := hw
  clear hc hw
  show zP V X 13 0 0 44 _ [.int (zI v41)] d1
  revert h
  generalize d1 = d
  intro h
  refine zP_istore (pc := 44) C (L' := [some (.ref (zad V 0)), some (.int (zI v1)), some (.int (zI v6)), some (.int (zI v12)), some (.int (zI v18)), some (.int (zI v26)), some (.int (zI v33)), some (.int (zI v41)), none, none, none, none, none]) dL_isTurned_44 (Nat.le_of_ble_eq_true rfl) rfl rfl ?_
  refine zP_aload_n (pc := 46) C (x := zad V 0) dL_isTurned_46 rfl rfl ?_
  refine zP_bipush (pc := 47) C dL_isTurned_47 rfl ?_
  obtain ⟨v49, d1, hc, h⟩ := zc_h h
  obtain ⟨hnv49, h⟩ := zx_h h
  refine zP_callV (pc := 49) (As := [.int (zI 11)]) (st := []) C m99_111 dL_isTurned_49 (s_X11 hT0) rfl (t_X11_account hT0 (zRk rfl) hc hnv49) ⟨Nat.le_of_ble_eq_true rfl, Nat.le_of_ble_eq_true rfl⟩ rfl (Nat.le_of_ble_eq_true rfl) ⟨Nat.zero_le _, Nat.zero_le _⟩ fun hw => ?_
  have hv49 := hw
  clear hc hw
  show zP V X 13 0 0 52 _ [.int (zI v49)] d1
  revert h
  generalize d1 = d
  intro h
  refine zP_istore (pc := 52) C (L' := [some (.ref (zad V 0)), some (.int (zI v1)), some (.int (zI v6)), some (.int (zI v12)), some (.int (zI v18)), some (.int (zI v26)), some (.int (zI v33)), some (.int (zI v41)), some (.int (zI v49)), none, none, none, none]) dL_isTurned_52 (Nat.le_of_ble_eq_true rfl) rfl rfl ?_
  refine zP_aload_n (pc := 54) C (x := zad V 0) dL_isTurned_54 rfl rfl ?_
  refine zP_bipush (pc := 55) C dL_isTurned_55 rfl ?_
  obtain ⟨v57, d1, hc, h⟩ := zc_h h
  obtain ⟨hnv57, h⟩ := zx_h h
  refine zP_callV (pc := 57) (As := [.int (zI 7)]) (st := []) C m99_111 dL_isTurned_57 (s_X11 hT0) rfl (t_X11_account hT0 (zRk rfl) hc hnv57) ⟨Nat.le_of_ble_eq_true rfl, Nat.le_of_ble_eq_true rfl⟩ rfl (Nat.le_of_ble_eq_true rfl) ⟨Nat.zero_le _, Nat.zero_le _⟩ fun hw => ?_
  have hv57 := hw
  clear hc hw
  show zP V X 13 0 0 60 _ [.int (zI v57)] d1
  revert h
  generalize d1 = d
  intro h
  refine zP_istore (pc := 60) C (L' := [some (.ref (zad V 0)), some (.int (zI v1)), some (.int (zI v6)), some (.int (zI v12)), some (.int (zI v18)), some (.int (zI v26)), some (.int (zI v33)), some (.int (zI v41)), some (.int (zI v49)), some (.int (zI v57)), none, none, none]) dL_isTurned_60 (Nat.le_of_ble_eq_true rfl) rfl rfl ?_
  refine zP_iload_n (pc := 62) C (x := zI v6) dL_isTurned_62 rfl rfl ?_
  refine zP_iconst (pc := 63) C dL_isTurned_63 ?_
  refine zP_icmp_ne (pc := 64) (tgt := 71) C dL_isTurned_64 rfl hv6 (zRk rfl) h (fun _ h => ?_) (fun _ h => ?_)
  · refine zP_aload_n (pc := 71) C (x := zad V 0) dL_isTurned_71 rfl rfl ?_
    refine zP_iload_n (pc := 72) C (x := zI v6) dL_isTurned_72 rfl rfl ?_
    refine zP_iload_n (pc := 73) C (x := zI v1) dL_isTurned_73 rfl rfl ?_
    obtain ⟨v74, d1, hc, h⟩ := zc_h h
    obtain ⟨hnv74, h⟩ := zx_h h
    refine zP_callV (pc := 74) (As := [.int (zI v6), .int (zI v1)]) (st := []) C m99_133 dL_isTurned_74 (s_X11 hT0) rfl (t_X11_often hT0 hv6 hv1 hc hnv74) ⟨Nat.le_of_ble_eq_true rfl, Nat.le_of_ble_eq_true rfl⟩ rfl (Nat.le_of_ble_eq_true rfl) ⟨Nat.zero_le _, Nat.zero_le _⟩ fun hw => ?_
    have hv74 := hw
    clear hc hw
    show zP V X 13 0 0 77 _ [.int (zI v74)] d1
    revert h
    generalize d1 = d
    intro h
    exact zP_mask [true, true, true, true, true, true, true, true, true, true, false, false, false] (wj_L_isTurned_77 hT0 C E  hv1 hv6 hv12 hv18 hv26 hv33 hv41 hv49 hv57 hv74 h)
  · refine zP_iconst (pc := 67) C dL_isTurned_67 ?_
    refine zP_goto (pc := 68) (tgt := 77) C dL_isTurned_68 rfl ?_
    exact zP_mask [true, true, true, true, true, true, true, true, true, true, false, false, false] (wj_L_isTurned_77 hT0 C E  hv1 hv6 hv12 hv18 hv26 hv33 hv41 hv49 hv57 (zRk rfl) h)
def j_L_acts_140 (V : zW)  (x2 x4 : Int) (d : zD) : Option (Int × zD) :=
  if (x4 : Int) = 7 then (
    zc (f_X11_count  1 d) fun v149 d => zx v149 <|
    if (v149 : Int) ≤ 1 then (
      some (0, d))
    else (
      zl (zw (x2 + 3)) fun v160 =>
      zc (f_X11_count  1 d) fun v164 d => zx v164 <|
      zl (zw (v164 - 1)) fun v168 =>
      zc (f_L_draw V v160 0 v168 d) fun v169 d =>
      zc (f_X11_dropPlace  v169 d) fun v172 d => zx v172 <|
      some (0, d)))
  else (
    some (0, d))
theorem wj_L_acts_140 {V : zW} {X : zX}  (hT0 : zo11 V) (hqn : zqn V ≤ 260) (C : zOk V X cL_acts RL 8 (zrm 6) none) {rv : Int} {dz : zD} (E : zEnd V X none (rv = 0) dz)  {x2 x4 : Int} (hx2 : zR x2) (hx4 : zR x4) {d : zD} (h : j_L_acts_140 V  x2 x4 d = some (rv, dz)) : zP V X 8 0 0 140 [some (.ref (zad V 0)), some (.ref (zqa V)), some (.int (zI x2)), none, some (.int (zI x4)), none, none, none] [] d := by
  refine zP_iload (pc := 140) C (x := zI x4) dL_acts_140 rfl ?_
  refine zP_bipush (pc := 142) C dL_acts_142 rfl ?_
  refine zP_icmp_ne (pc := 144) (tgt := 177) C dL_acts_144 rfl hx4 (zRk rfl) h (fun _ h => ?_) (fun _ h => ?_)
  · exact zP_vret (pc := 177) C E dL_acts_177 h
  · refine zP_aload_n (pc := 147) C (x := zad V 0) dL_acts_147 rfl rfl ?_
    refine zP_iconst (pc := 148) C dL_acts_148 ?_
    obtain ⟨v149, d1, hc, h⟩ := zc_h h
    obtain ⟨hnv149, h⟩ := zx_h h
    refine zP_callV (pc := 149) (As := [.int (zI 1)]) (st := []) C m99_97 dL_acts_149 (s_X11 hT0) rfl (t_X11_count hT0 (zRk rfl) hc hnv149) ⟨Nat.le_of_ble_eq_true rfl, Nat.le_of_ble_eq_true rfl⟩ rfl (Nat.le_of_ble_eq_true rfl) ⟨Nat.zero_le _, Nat.zero_le _⟩ fun hw => ?_
    have hv149 := hw
    clear hc hw
    show zP V X 8 0 0 152 _ [.int (zI v149)] d1
    revert h
    generalize d1 = d
    intro h
    refine zP_iconst (pc := 152) C dL_acts_152 ?_
    refine zP_icmp_le (pc := 153) (tgt := 177) C dL_acts_153 rfl hv149 (zRk rfl) h (fun _ h => ?_) (fun _ h => ?_)
    · exact zP_vret (pc := 177) C E dL_acts_177 h
    · refine zP_aload_n (pc := 156) C (x := zad V 0) dL_acts_156 rfl rfl ?_
      refine zP_aload_n (pc := 157) C (x := zqa V) dL_acts_157 rfl rfl ?_
      refine zP_iload_n (pc := 158) C (x := zI x2) dL_acts_158 rfl rfl ?_
      refine zP_iconst (pc := 159) C dL_acts_159 ?_
      refine zP_iadd (pc := 160) C dL_acts_160 h fun v160 hv160 h => ?_
      refine zP_iconst (pc := 161) C dL_acts_161 ?_
      refine zP_aload_n (pc := 162) C (x := zad V 0) dL_acts_162 rfl rfl ?_
      refine zP_iconst (pc := 163) C dL_acts_163 ?_
      obtain ⟨v164, d1, hc, h⟩ := zc_h h
      obtain ⟨hnv164, h⟩ := zx_h h
      refine zP_callV (pc := 164) (As := [.int (zI 1)]) (st := [.int (zI 0), .int (zI v160), .ref (zqa V), .ref (zad V 0)]) C m99_97 dL_acts_164 (s_X11 hT0) rfl (t_X11_count hT0 (zRk rfl) hc hnv164) ⟨Nat.le_of_ble_eq_true rfl, Nat.le_of_ble_eq_true rfl⟩ rfl (Nat.le_of_ble_eq_true rfl) ⟨Nat.zero_le _, Nat.zero_le _⟩ fun hw => ?_
      have hv164 := hw
      clear hc hw
      show zP V X 8 0 0 167 _ [.int (zI v164), .int (zI 0), .int (zI v160), .ref (zqa V), .ref (zad V 0)] d1
      revert h
      generalize d1 = d
      intro h
      refine zP_iconst (pc := 167) C dL_acts_167 ?_
      refine zP_isub (pc := 168) C dL_acts_168 h fun v168 hv168 h => ?_
      obtain ⟨v169, d1, hc, h⟩ := zc_h h
      refine zP_callS (pc := 169) (As := [.ref (zqa V), .int (zI v160), .int (zI 0), .int (zI v168)]) (st := [.ref (zad V 0)]) C m99_59 dL_acts_169 (t_L_draw hqn hv160 (zRk rfl) hv168 hc) ⟨Nat.le_of_ble_eq_true rfl, Nat.le_of_ble_eq_true rfl⟩ rfl (Nat.le_of_ble_eq_true rfl) ⟨Nat.zero_le _, Nat.zero_le _⟩ fun hw => ?_
      have hv169 := hw
      clear hc hw
      show zP V X 8 0 0 172 _ [.int (zI v169), .ref (zad V 0)] d1
      revert h
      generalize d1 = d
      intro h
      obtain ⟨v172, d1, hc, h⟩ := zc_h h
      obtain ⟨hnv172, h⟩ := zx_h h
      refine zP_callV (pc := 172) (As := [.int (zI v169)]) (st := []) C m99_157 dL_acts_172 (s_X11 hT0) rfl (t_X11_dropPlace hT0 hv169 hc hnv172) ⟨Nat.le_of_ble_eq_true rfl, Nat.le_of_ble_eq_true rfl⟩ rfl (Nat.le_of_ble_eq_true rfl) ⟨Nat.zero_le _, Nat.zero_le _⟩ fun hw => ?_
      have hv172 := hw
      clear hc hw
      show zP V X 8 0 0 175 _ [.int (zI v172)] d1
      revert h
      generalize d1 = d
      intro h
      refine zP_istore (pc := 175) C (L' := [some (.ref (zad V 0)), some (.ref (zqa V)), some (.int (zI x2)), none, some (.int (zI x4)), none, none, some (.int (zI v172))]) dL_acts_175 (Nat.le_of_ble_eq_true rfl) rfl rfl ?_
      exact zP_vret (pc := 177) C E dL_acts_177 h
def j_L_acts_110 (V : zW)  (x2 x4 x5 : Int) (d : zD) : Option (Int × zD) :=
  if (x4 : Int) = 6 then (
    if (x5 : Int) < 0 then (
      j_L_acts_140 V  x2 x4 d)
    else (
      zc (f_X11_count  1 d) fun v124 d => zx v124 <|
      if (16 : Int) ≤ v124 then (
        j_L_acts_140 V  x2 x4 d)
      else (
        zc (f_X11_addPlace  x5 d) fun v135 d => zx v135 <|
        j_L_acts_140 V  x2 x4 d)))
  else (
    j_L_acts_140 V  x2 x4 d)
theorem wj_L_acts_110 {V : zW} {X : zX}  (hT0 : zo11 V) (hqn : zqn V ≤ 260) (C : zOk V X cL_acts RL 8 (zrm 6) none) {rv : Int} {dz : zD} (E : zEnd V X none (rv = 0) dz)  {x2 x4 x5 : Int} (hx2 : zR x2) (hx4 : zR x4) (hx5 : zR x5) {d : zD} (h : j_L_acts_110 V  x2 x4 x5 d = some (rv, dz)) : zP V X 8 0 0 110 [some (.ref (zad V 0)), some (.ref (zqa V)), some (.int (zI x2)), none, some (.int (zI x4)), some (.int (zI x5)), none, none] [] d := by
  refine zP_iload (pc := 110) C (x := zI x4) dL_acts_110 rfl ?_
  refine zP_bipush (pc := 112) C dL_acts_112 rfl ?_
  refine zP_icmp_ne (pc := 114) (tgt := 140) C dL_acts_114 rfl hx4 (zRk rfl) h (fun _ h => ?_) (fun _ h => ?_)
  · exact zP_mask [true, true, true, false, true, false, false, false] (wj_L_acts_140 hT0 hqn C E  hx2 hx4 h)
  · refine zP_iload (pc := 117) C (x := zI x5) dL_acts_117 rfl ?_
    refine zP_if_lt (pc := 119) (tgt := 140) C dL_acts_119 rfl hx5 h (fun _ h => ?_) (fun _ h => ?_)
    · exact zP_mask [true, true, true, false, true, false, false, false] (wj_L_acts_140 hT0 hqn C E  hx2 hx4 h)
    · refine zP_aload_n (pc := 122) C (x := zad V 0) dL_acts_122 rfl rfl ?_
      refine zP_iconst (pc := 123) C dL_acts_123 ?_
      obtain ⟨v124, d1, hc, h⟩ := zc_h h
      obtain ⟨hnv124, h⟩ := zx_h h
      refine zP_callV (pc := 124) (As := [.int (zI 1)]) (st := []) C m99_97 dL_acts_124 (s_X11 hT0) rfl (t_X11_count hT0 (zRk rfl) hc hnv124) ⟨Nat.le_of_ble_eq_true rfl, Nat.le_of_ble_eq_true rfl⟩ rfl (Nat.le_of_ble_eq_true rfl) ⟨Nat.zero_le _, Nat.zero_le _⟩ fun hw => ?_
      have hv124 := hw
      clear hc hw
      show zP V X 8 0 0 127 _ [.int (zI v124)] d1
      revert h
      generalize d1 = d
      intro h
      refine zP_bipush (pc := 127) C dL_acts_127 rfl ?_
      refine zP_icmp_ge (pc := 129) (tgt := 140) C dL_acts_129 rfl hv124 (zRk rfl) h (fun _ h => ?_) (fun _ h => ?_)
      · exact zP_mask [true, true, true, false, true, false, false, false] (wj_L_acts_140 hT0 hqn C E  hx2 hx4 h)
      · refine zP_aload_n (pc := 132) C (x := zad V 0) dL_acts_132 rfl rfl ?_
        refine zP_iload (pc := 133) C (x := zI x5) dL_acts_133 rfl ?_
        obtain ⟨v135, d1, hc, h⟩ := zc_h h
        obtain ⟨hnv135, h⟩ := zx_h h
        refine zP_callV (pc := 135) (As := [.int (zI x5)]) (st := []) C m99_154 dL_acts_135 (s_X11 hT0) rfl (t_X11_addPlace hT0 hx5 hc hnv135) ⟨Nat.le_of_ble_eq_true rfl, Nat.le_of_ble_eq_true rfl⟩ rfl (Nat.le_of_ble_eq_true rfl) ⟨Nat.zero_le _, Nat.zero_le _⟩ fun hw => ?_
        have hv135 := hw
        clear hc hw
        show zP V X 8 0 0 138 _ [.int (zI v135)] d1
        revert h
        generalize d1 = d
        intro h
        refine zP_istore (pc := 138) C (L' := [some (.ref (zad V 0)), some (.ref (zqa V)), some (.int (zI x2)), none, some (.int (zI x4)), some (.int (zI x5)), none, some (.int (zI v135))]) dL_acts_138 (Nat.le_of_ble_eq_true rfl) rfl rfl ?_
        exact zP_mask [true, true, true, false, true, false, false, false] (wj_L_acts_140 hT0 hqn C E  hx2 hx4 h)
def j_L_acts_91 (V : zW)  (x2 x4 x5 : Int) (d : zD) : Option (Int × zD) :=
  if (x4 : Int) = 5 then (
    if (x5 : Int) < 0 then (
      j_L_acts_110 V  x2 x4 x5 d)
    else (
      zc (f_X11_wake  x5 d) fun v105 d => zx v105 <|
      j_L_acts_110 V  x2 x4 x5 d))
  else (
    j_L_acts_110 V  x2 x4 x5 d)
theorem wj_L_acts_91 {V : zW} {X : zX}  (hT0 : zo11 V) (hqn : zqn V ≤ 260) (C : zOk V X cL_acts RL 8 (zrm 6) none) {rv : Int} {dz : zD} (E : zEnd V X none (rv = 0) dz)  {x2 x4 x5 : Int} (hx2 : zR x2) (hx4 : zR x4) (hx5 : zR x5) {d : zD} (h : j_L_acts_91 V  x2 x4 x5 d = some (rv, dz)) : zP V X 8 0 0 91 [some (.ref (zad V 0)), some (.ref (zqa V)), some (.int (zI x2)), none, some (.int (zI x4)), some (.int (zI x5)), none, none] [] d := by
  refine zP_iload (pc := 91) C (x := zI x4) dL_acts_91 rfl ?_
  refine zP_iconst (pc := 93) C dL_acts_93 ?_
  refine zP_icmp_ne (pc := 94) (tgt := 110) C dL_acts_94 rfl hx4 (zRk rfl) h (fun _ h => ?_) (fun _ h => ?_)
  · exact zP_mask [true, true, true, false, true, true, false, false] (wj_L_acts_110 hT0 hqn C E  hx2 hx4 hx5 h)
  · refine zP_iload (pc := 97) C (x := zI x5) dL_acts_97 rfl ?_
    refine zP_if_lt (pc := 99) (tgt := 110) C dL_acts_99 rfl hx5 h (fun _ h => ?_) (fun _ h => ?_)
    · exact zP_mask [true, true, true, false, true, true, false, false] (wj_L_acts_110 hT0 hqn C E  hx2 hx4 hx5 h)
    · refine zP_aload_n (pc := 102) C (x := zad V 0) dL_acts_102 rfl rfl ?_
      refine zP_iload (pc := 103) C (x := zI x5) dL_acts_103 rfl ?_
      obtain ⟨v105, d1, hc, h⟩ := zc_h h
      obtain ⟨hnv105, h⟩ := zx_h h
      refine zP_callV (pc := 105) (As := [.int (zI x5)]) (st := []) C m99_151 dL_acts_105 (s_X11 hT0) rfl (t_X11_wake hT0 hx5 hc hnv105) ⟨Nat.le_of_ble_eq_true rfl, Nat.le_of_ble_eq_true rfl⟩ rfl (Nat.le_of_ble_eq_true rfl) ⟨Nat.zero_le _, Nat.zero_le _⟩ fun hw => ?_
      have hv105 := hw
      clear hc hw
      show zP V X 8 0 0 108 _ [.int (zI v105)] d1
      revert h
      generalize d1 = d
      intro h
      refine zP_istore (pc := 108) C (L' := [some (.ref (zad V 0)), some (.ref (zqa V)), some (.int (zI x2)), none, some (.int (zI x4)), some (.int (zI x5)), none, some (.int (zI v105))]) dL_acts_108 (Nat.le_of_ble_eq_true rfl) rfl rfl ?_
      exact zP_mask [true, true, true, false, true, true, false, false] (wj_L_acts_110 hT0 hqn C E  hx2 hx4 hx5 h)
def j_L_acts_72 (V : zW)  (x2 x4 x5 : Int) (d : zD) : Option (Int × zD) :=
  if (x4 : Int) = 4 then (
    if (x5 : Int) < 0 then (
      j_L_acts_91 V  x2 x4 x5 d)
    else (
      zc (f_X11_kill  x5 d) fun v86 d => zx v86 <|
      j_L_acts_91 V  x2 x4 x5 d))
  else (
    j_L_acts_91 V  x2 x4 x5 d)
theorem wj_L_acts_72 {V : zW} {X : zX}  (hT0 : zo11 V) (hqn : zqn V ≤ 260) (C : zOk V X cL_acts RL 8 (zrm 6) none) {rv : Int} {dz : zD} (E : zEnd V X none (rv = 0) dz)  {x2 x4 x5 : Int} (hx2 : zR x2) (hx4 : zR x4) (hx5 : zR x5) {d : zD} (h : j_L_acts_72 V  x2 x4 x5 d = some (rv, dz)) : zP V X 8 0 0 72 [some (.ref (zad V 0)), some (.ref (zqa V)), some (.int (zI x2)), none, some (.int (zI x4)), some (.int (zI x5)), none, none] [] d := by
  refine zP_iload (pc := 72) C (x := zI x4) dL_acts_72 rfl ?_
  refine zP_iconst (pc := 74) C dL_acts_74 ?_
  refine zP_icmp_ne (pc := 75) (tgt := 91) C dL_acts_75 rfl hx4 (zRk rfl) h (fun _ h => ?_) (fun _ h => ?_)
  · exact zP_mask [true, true, true, false, true, true, false, false] (wj_L_acts_91 hT0 hqn C E  hx2 hx4 hx5 h)
  · refine zP_iload (pc := 78) C (x := zI x5) dL_acts_78 rfl ?_
    refine zP_if_lt (pc := 80) (tgt := 91) C dL_acts_80 rfl hx5 h (fun _ h => ?_) (fun _ h => ?_)
    · exact zP_mask [true, true, true, false, true, true, false, false] (wj_L_acts_91 hT0 hqn C E  hx2 hx4 hx5 h)
    · refine zP_aload_n (pc := 83) C (x := zad V 0) dL_acts_83 rfl rfl ?_
      refine zP_iload (pc := 84) C (x := zI x5) dL_acts_84 rfl ?_
      obtain ⟨v86, d1, hc, h⟩ := zc_h h
      obtain ⟨hnv86, h⟩ := zx_h h
      refine zP_callV (pc := 86) (As := [.int (zI x5)]) (st := []) C m99_148 dL_acts_86 (s_X11 hT0) rfl (t_X11_kill hT0 hx5 hc hnv86) ⟨Nat.le_of_ble_eq_true rfl, Nat.le_of_ble_eq_true rfl⟩ rfl (Nat.le_of_ble_eq_true rfl) ⟨Nat.zero_le _, Nat.zero_le _⟩ fun hw => ?_
      have hv86 := hw
      clear hc hw
      show zP V X 8 0 0 89 _ [.int (zI v86)] d1
      revert h
      generalize d1 = d
      intro h
      refine zP_istore (pc := 89) C (L' := [some (.ref (zad V 0)), some (.ref (zqa V)), some (.int (zI x2)), none, some (.int (zI x4)), some (.int (zI x5)), none, some (.int (zI v86))]) dL_acts_89 (Nat.le_of_ble_eq_true rfl) rfl rfl ?_
      exact zP_mask [true, true, true, false, true, true, false, false] (wj_L_acts_91 hT0 hqn C E  hx2 hx4 hx5 h)
def f_L_acts (V : zW) (x2 x3 : Int) (d : zD) : Option (Int × zD) :=
  zc (f_L_draw V x2 0 7 d) fun v5 d =>
  zl (zw (x2 + 1)) fun v13 =>
  zl (zw (x3 - 1)) fun v17 =>
  zc (f_L_draw V v13 (-1) v17 d) fun v18 d =>
  zl (zw (x2 + 2)) fun v26 =>
  zl (zw (x3 - 1)) fun v30 =>
  zc (f_L_draw V v26 (-1) v30 d) fun v31 d =>
  if (4 : Int) ≤ v5 then (
    j_L_acts_72 V  x2 v5 v18 d)
  else (
    if (v18 : Int) = v31 then (
      j_L_acts_72 V  x2 v5 v18 d)
    else (
      zl (zw (x2 + 3)) fun v60 =>
      zc (f_L_draw V v60 1 12 d) fun v64 d =>
      zc (f_X11_post  v18 v31 v64 d) fun v67 d => zx v67 <|
      j_L_acts_72 V  x2 v5 v18 d))
theorem t_L_acts {V : zW}  (hT0 : zo11 V) (hqn : zqn V ≤ 260) {x2 x3 : Int} (hx2 : zR x2) (hx3 : zR x3) {d dz : zD} {rv : Int} (h : f_L_acts V x2 x3 d = some (rv, dz)) : zMet V 6 yL_acts cL_acts 8 none [.ref (zad V 0), .ref (zqa V), .int (zI x2), .int (zI x3)] d none (rv = 0) dz := by
  refine zMet_by RL pn99 rfl (Nat.le_of_ble_eq_true rfl) [some (.ref (zad V 0)), some (.ref (zqa V)), some (.int (zI x2)), some (.int (zI x3)), none, none, none, none] rfl fun X C E => ?_
  refine zP_aload_n (pc := 0) C (x := zqa V) dL_acts_0 rfl rfl ?_
  refine zP_iload_n (pc := 1) C (x := zI x2) dL_acts_1 rfl rfl ?_
  refine zP_iconst (pc := 2) C dL_acts_2 ?_
  refine zP_bipush (pc := 3) C dL_acts_3 rfl ?_
  obtain ⟨v5, d1, hc, h⟩ := zc_h h
  refine zP_callS (pc := 5) (As := [.ref (zqa V), .int (zI x2), .int (zI 0), .int (zI 7)]) (st := []) C m99_59 dL_acts_5 (t_L_draw hqn hx2 (zRk rfl) (zRk rfl) hc) ⟨Nat.le_of_ble_eq_true rfl, Nat.le_of_ble_eq_true rfl⟩ rfl (Nat.le_of_ble_eq_true rfl) ⟨Nat.zero_le _, Nat.zero_le _⟩ fun hw => ?_
  have hv5 := hw
  clear hc hw
  show zP V X 8 0 0 8 _ [.int (zI v5)] d1
  revert h
  generalize d1 = d
  intro h
  refine zP_istore (pc := 8) C (L' := [some (.ref (zad V 0)), some (.ref (zqa V)), some (.int (zI x2)), some (.int (zI x3)), some (.int (zI v5)), none, none, none]) dL_acts_8 (Nat.le_of_ble_eq_true rfl) rfl rfl ?_
  refine zP_aload_n (pc := 10) C (x := zqa V) dL_acts_10 rfl rfl ?_
  refine zP_iload_n (pc := 11) C (x := zI x2) dL_acts_11 rfl rfl ?_
  refine zP_iconst (pc := 12) C dL_acts_12 ?_
  refine zP_iadd (pc := 13) C dL_acts_13 h fun v13 hv13 h => ?_
  refine zP_iconst (pc := 14) C dL_acts_14 ?_
  refine zP_iload_n (pc := 15) C (x := zI x3) dL_acts_15 rfl rfl ?_
  refine zP_iconst (pc := 16) C dL_acts_16 ?_
  refine zP_isub (pc := 17) C dL_acts_17 h fun v17 hv17 h => ?_
  obtain ⟨v18, d1, hc, h⟩ := zc_h h
  refine zP_callS (pc := 18) (As := [.ref (zqa V), .int (zI v13), .int (zI (-1)), .int (zI v17)]) (st := []) C m99_59 dL_acts_18 (t_L_draw hqn hv13 (zRk rfl) hv17 hc) ⟨Nat.le_of_ble_eq_true rfl, Nat.le_of_ble_eq_true rfl⟩ rfl (Nat.le_of_ble_eq_true rfl) ⟨Nat.zero_le _, Nat.zero_le _⟩ fun hw => ?_
  have hv18 := hw
  clear hc hw
  show zP V X 8 0 0 21 _ [.int (zI v18)] d1
  revert h
  generalize d1 = d
  intro h
  refine zP_istore (pc := 21) C (L' := [some (.ref (zad V 0)), some (.ref (zqa V)), some (.int (zI x2)), some (.int (zI x3)), some (.int (zI v5)), some (.int (zI v18)), none, none]) dL_acts_21 (Nat.le_of_ble_eq_true rfl) rfl rfl ?_
  refine zP_aload_n (pc := 23) C (x := zqa V) dL_acts_23 rfl rfl ?_
  refine zP_iload_n (pc := 24) C (x := zI x2) dL_acts_24 rfl rfl ?_
  refine zP_iconst (pc := 25) C dL_acts_25 ?_
  refine zP_iadd (pc := 26) C dL_acts_26 h fun v26 hv26 h => ?_
  refine zP_iconst (pc := 27) C dL_acts_27 ?_
  refine zP_iload_n (pc := 28) C (x := zI x3) dL_acts_28 rfl rfl ?_
  refine zP_iconst (pc := 29) C dL_acts_29 ?_
  refine zP_isub (pc := 30) C dL_acts_30 h fun v30 hv30 h => ?_
  obtain ⟨v31, d1, hc, h⟩ := zc_h h
  refine zP_callS (pc := 31) (As := [.ref (zqa V), .int (zI v26), .int (zI (-1)), .int (zI v30)]) (st := []) C m99_59 dL_acts_31 (t_L_draw hqn hv26 (zRk rfl) hv30 hc) ⟨Nat.le_of_ble_eq_true rfl, Nat.le_of_ble_eq_true rfl⟩ rfl (Nat.le_of_ble_eq_true rfl) ⟨Nat.zero_le _, Nat.zero_le _⟩ fun hw => ?_
  have hv31 := hw
  clear hc hw
  show zP V X 8 0 0 34 _ [.int (zI v31)] d1
  revert h
  generalize d1 = d
  intro h
  refine zP_istore (pc := 34) C (L' := [some (.ref (zad V 0)), some (.ref (zqa V)), some (.int (zI x2)), some (.int (zI x3)), some (.int (zI v5)), some (.int (zI v18)), some (.int (zI v31)), none]) dL_acts_34 (Nat.le_of_ble_eq_true rfl) rfl rfl ?_
  refine zP_iconst (pc := 36) C dL_acts_36 ?_
  refine zP_istore (pc := 37) C (L' := [some (.ref (zad V 0)), some (.ref (zqa V)), some (.int (zI x2)), some (.int (zI x3)), some (.int (zI v5)), some (.int (zI v18)), some (.int (zI v31)), some (.int (zI 0))]) dL_acts_37 (Nat.le_of_ble_eq_true rfl) rfl rfl ?_
  refine zP_iload (pc := 39) C (x := zI v5) dL_acts_39 rfl ?_
  refine zP_iconst (pc := 41) C dL_acts_41 ?_
  refine zP_icmp_ge (pc := 42) (tgt := 72) C dL_acts_42 rfl hv5 (zRk rfl) h (fun _ h => ?_) (fun _ h => ?_)
  · exact zP_mask [true, true, true, false, true, true, false, false] (wj_L_acts_72 hT0 hqn C E  hx2 hv5 hv18 h)
  · refine zP_iload (pc := 45) C (x := zI v18) dL_acts_45 rfl ?_
    refine zP_iload (pc := 47) C (x := zI v31) dL_acts_47 rfl ?_
    refine zP_icmp_eq (pc := 49) (tgt := 72) C dL_acts_49 rfl hv18 hv31 h (fun _ h => ?_) (fun _ h => ?_)
    · exact zP_mask [true, true, true, false, true, true, false, false] (wj_L_acts_72 hT0 hqn C E  hx2 hv5 hv18 h)
    · refine zP_aload_n (pc := 52) C (x := zad V 0) dL_acts_52 rfl rfl ?_
      refine zP_iload (pc := 53) C (x := zI v18) dL_acts_53 rfl ?_
      refine zP_iload (pc := 55) C (x := zI v31) dL_acts_55 rfl ?_
      refine zP_aload_n (pc := 57) C (x := zqa V) dL_acts_57 rfl rfl ?_
      refine zP_iload_n (pc := 58) C (x := zI x2) dL_acts_58 rfl rfl ?_
      refine zP_iconst (pc := 59) C dL_acts_59 ?_
      refine zP_iadd (pc := 60) C dL_acts_60 h fun v60 hv60 h => ?_
      refine zP_iconst (pc := 61) C dL_acts_61 ?_
      refine zP_bipush (pc := 62) C dL_acts_62 rfl ?_
      obtain ⟨v64, d1, hc, h⟩ := zc_h h
      refine zP_callS (pc := 64) (As := [.ref (zqa V), .int (zI v60), .int (zI 1), .int (zI 12)]) (st := [.int (zI v31), .int (zI v18), .ref (zad V 0)]) C m99_59 dL_acts_64 (t_L_draw hqn hv60 (zRk rfl) (zRk rfl) hc) ⟨Nat.le_of_ble_eq_true rfl, Nat.le_of_ble_eq_true rfl⟩ rfl (Nat.le_of_ble_eq_true rfl) ⟨Nat.zero_le _, Nat.zero_le _⟩ fun hw => ?_
      have hv64 := hw
      clear hc hw
      show zP V X 8 0 0 67 _ [.int (zI v64), .int (zI v31), .int (zI v18), .ref (zad V 0)] d1
      revert h
      generalize d1 = d
      intro h
      obtain ⟨v67, d1, hc, h⟩ := zc_h h
      obtain ⟨hnv67, h⟩ := zx_h h
      refine zP_callV (pc := 67) (As := [.int (zI v18), .int (zI v31), .int (zI v64)]) (st := []) C m99_145 dL_acts_67 (s_X11 hT0) rfl (t_X11_post hT0 hv18 hv31 hv64 hc hnv67) ⟨Nat.le_of_ble_eq_true rfl, Nat.le_of_ble_eq_true rfl⟩ rfl (Nat.le_of_ble_eq_true rfl) ⟨Nat.zero_le _, Nat.zero_le _⟩ fun hw => ?_
      have hv67 := hw
      clear hc hw
      show zP V X 8 0 0 70 _ [.int (zI v67)] d1
      revert h
      generalize d1 = d
      intro h
      refine zP_istore (pc := 70) C (L' := [some (.ref (zad V 0)), some (.ref (zqa V)), some (.int (zI x2)), some (.int (zI x3)), some (.int (zI v5)), some (.int (zI v18)), some (.int (zI v31)), some (.int (zI v67))]) dL_acts_70 (Nat.le_of_ble_eq_true rfl) rfl rfl ?_
      exact zP_mask [true, true, true, false, true, true, false, false] (wj_L_acts_72 hT0 hqn C E  hx2 hv5 hv18 h)
