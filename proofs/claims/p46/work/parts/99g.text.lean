/-! The builder: how she is made, and the text that she gives. -/
theorem oi_J5 : Cond.methodLink RJ5 3 Lib.objectInit ∈ zT ∧ Cond.instanceMethod Lib.objectInit ∈ zT ∧ Cond.code Lib.objectInit ⟨#[0xb1]⟩ 1 none ∈ zT := ⟨zin 1008 (by decide +kernel) (by decide +kernel), oi0.2.1, oi0.2.2⟩
theorem oi_J0 : Cond.methodLink RJ0 1 Lib.objectInit ∈ zT ∧ Cond.instanceMethod Lib.objectInit ∈ zT ∧ Cond.code Lib.objectInit ⟨#[0xb1]⟩ 1 none ∈ zT := ⟨zin 1190 (by decide +kernel) (by decide +kernel), oi0.2.1, oi0.2.2⟩
theorem b1 : zMV1 RJ4 1 yJ5_init_d00df cJ5_init_d00df 2 none 1 := ⟨q1005, q1006, q39, q1007, ⟨by decide +kernel, by decide +kernel⟩, by decide +kernel⟩
theorem b137 : zMV1 RJ4 137 yJ0_init_81219 cJ0_init_81219 2 none 1 := ⟨q1184, q1185, q34, q1186, ⟨by decide +kernel, by decide +kernel⟩, by decide +kernel⟩
theorem b489 : zMV1 RJ0 489 yJ0_init_db425 cJ0_init_db425 5 none 2 := ⟨q1187, q1188, q34, q1189, ⟨by decide +kernel, by decide +kernel⟩, by decide +kernel⟩
theorem b552 : zMV1 RJ0 552 yJ5_getValue_6d5f1 cJ5_getValue_6d5f1 1 (some (.array .byte)) 0 := ⟨q1191, q1192, q39, q1195, ⟨by decide +kernel, by decide +kernel⟩, by decide +kernel⟩
theorem b1047 : zMV1 RJ0 1047 yJ5_isLatin1_aae02 cJ5_isLatin1_aae02 1 (some .boolean) 0 := ⟨q1204, q1076, q39, q1079, ⟨by decide +kernel, by decide +kernel⟩, by decide +kernel⟩
theorem b343 : zMV1 RJ4 343 yJ5_length_8abf5 cJ5_length_8abf5 1 (some .int) 0 := ⟨q1202, q1197, q39, q1203, ⟨by decide +kernel, by decide +kernel⟩, by decide +kernel⟩
theorem b54 : zMS RJ0 54 yJ7_copyOfRange_39247 cJ7_copyOfRange_39247 3 (some (.array .byte)) 3 := ⟨q1205, q1206, q43, q1207, ⟨by decide +kernel, by decide +kernel⟩, by decide +kernel⟩
theorem b339 : zMS RJ7 339 yJ7_copyOfRangeByte_39247 cJ7_copyOfRangeByte_39247 5 (some (.array .byte)) 3 := ⟨q1208, q1209, q43, q1210, ⟨by decide +kernel, by decide +kernel⟩, by decide +kernel⟩
theorem b343c : zMS RJ7 343 yJ7_checkLength_df160 cJ7_checkLength_df160 2 none 2 := ⟨q1211, q1212, q43, q1213, ⟨by decide +kernel, by decide +kernel⟩, by decide +kernel⟩
theorem w_smL : Cond.sameMethod RJ5 RJ5 "length" "()I" ∈ zT := zin 1198 (by decide +kernel) (by decide +kernel)
theorem w_str : Cond.classLink RJ4 18 RJ0 ∈ zT ∧ Cond.instantiable RJ0 4 ∈ zT ∧ Cond.initialized RJ0 ∈ zT := ⟨zin 1182 (by decide +kernel) (by decide +kernel), zin 1183 (by decide +kernel) (by decide +kernel), q34⟩
theorem w_cln : Cond.methodLink RJ7 310 ⟨"[B", "clone", "()Ljava/lang/Object;"⟩ ∈ zT := zin 1064 (by decide +kernel) (by decide +kernel)
theorem w_cst : Cond.classLink RJ7 311 "[B" ∈ zT := zin 1070 (by decide +kernel) (by decide +kernel)
theorem k13_15 : ∃ C T N, zCF 13 C T N ∧ 1 < N ∧ Cond.fieldLink RJ0 15 (T 1).1 (T 1).2.1 (T 1).2.2.1 ∈ zT ∧ (T 1).1 = RJ0 ∧ (T 1).2.2.2 = true ∧ parseFieldDescriptor (T 1).2.2.1 = some .byte := ⟨RJ0, TJ0, 4, cf13, by decide, q1225, rfl, rfl, rfl⟩
/-- nothing in the first field -/
def zfN : Nat → Nat := fun k => if k = 0 then 1 else 0
theorem zfN_fu {b : Nat} : zfu zfN 0 (b + 2) = zfB b := by
  funext k
  unfold zfu zfB zfN
  by_cases h : k = 0 <;> simp [h]
theorem zfN_4 {V0 : zW} : ∀ j, j < 4 → defaultValue (tyJ4 j) = zfv V0 (zfN j) 0 := fun j hj => by
  match j, hj with
  | 0, _ => rfl
  | 1, _ => rfl
  | 2, _ => rfl
  | 3, _ => rfl
theorem zfN_0 {V0 : zW} : ∀ j, j < 4 → defaultValue (tyJ0 j) = zfv V0 (zfN j) 0 := fun j hj => by
  match j, hj with
  | 0, _ => rfl
  | 1, _ => rfl
  | 2, _ => rfl
  | 3, _ => rfl
theorem zfN_no : ∀ j t, zfN j = t + 2 → False := fun j t h => by
  unfold zfN at h
  by_cases q : j = 0
  · rw [if_pos q] at h; omega
  · rw [if_neg q] at h; omega
/-- a place that is none of the world's may hold any row -/
def zrow (d : zD) (a : Nat) (f : Nat → Int) : zD := fun c j => if c = a then f j else d c j
theorem zrow_ne {d : zD} {a c : Nat} {f : Nat → Int} (h : c ≠ a) : zrow d a f c = d c := by
  funext j
  exact if_neg h
theorem zP.row {V : zW} {X : zX} {nL k n pc : Nat} {L : List (Option Value)} {st : List Value} {d : zD} {a : Nat} (f : Nat → Int) (hu : zsh V a = none) (h : (∀ c j, zR (d c j)) → (∀ j, zR (f j)) ∧ zP V X nL k n pc L st (zrow d a f)) : zP V X nL k n pc L st d := by
  obtain ⟨p, l, e0, R, s, m, args, below, meth, c, Q⟩ := X
  intro ls H locs hl hP hS
  obtain ⟨hf, h⟩ := h hP.2.2
  refine h ls H locs hl ⟨fun c x hx => ?_, hP.2.1, fun c j => ?_⟩ hS
  · have hc : c ≠ a := fun q => by rw [q, hu] at hx; cases hx
    rw [zrow_ne hc]
    exact hP.1 c x hx
  · unfold zrow
    split
    · exact hf j
    · exact hP.2.2 c j
theorem zP_putBq {V : zW} {X : zX} {cc : ByteArray} {own : String} {nL k n pc : Nat} {R0 : Room} {ret : Option FieldType} {L : List (Option Value)} {st : List Value} {d : zD} (C : zOk V X cc own nL R0 ret) {ix ci kf a q : Nat} {fk : Nat → Nat} {v : Int} (hF : ∃ C T N, zCF ci C T N ∧ kf < N ∧ Cond.fieldLink own ix (T kf).1 (T kf).2.1 (T kf).2.2.1 ∈ zT ∧ (T kf).2.2.2 = false ∧ parseFieldDescriptor (T kf).2.2.1 = some .byte) (hdg : decode cc pc = .ok (.putfield ix, 3)) (ha : zAt V a q (0, ci, fk)) (hf : fk kf = 0) (hv : 0 ≤ v ∧ v < 128) (hd : d a kf = v) (kk : zP V X nL k n (pc + 3) L st d) : zP V X nL k n pc L (.int (zI v) :: .ref q :: st) d := by
  obtain ⟨hs, rfl⟩ := ha
  exact zP_put0 C hF hdg hs hf ⟨by omega, by omega⟩ (b_fits hv).2.1 (b_fits hv).1 (by rw [zu_same hd]; exact kk)
def zPni (V : zW) (d : zD) (qb : Nat) : Option Value → zW → zD → Prop := fun ov V1 d1 => ov = none ∧ ∃ q1, zBd V1 d1 qb q1 441 16 [] ∧ zKq V d V1 d1
theorem t_initA {V : zW} {d : zD} {qb : Nat} (hB : zAt V 440 qb (0, 12, zfN)) (wf : zWf V) (hu : ∀ c, 440 < c → zsh V c = none) (hd : ∀ j, d 440 j = 0) : zMetB V 1 1 16 yJ5_init_d00df cJ5_init_d00df 2 none [.ref qb, .int (zI 16)] d (zPni V d qb) := by
  refine zMetB_by RJ5 pnJ5 rfl (Nat.le_of_ble_eq_true rfl) [some (.ref qb), some (.int (zI 16))] rfl fun X C HB HI E => ?_
  refine zP_aload_n (pc := 0) C (x := qb) dJ5_init_d00df_0 rfl rfl ?_
  refine zP_oinit (pc := 1) C oi_J5 dJ5_init_d00df_1 ⟨Nat.le_of_ble_eq_true rfl, Nat.le_of_ble_eq_true rfl⟩ ?_
  refine zP_getCS (pc := 4) C q1009 dJ5_init_d00df_4 ?_
  refine zP_if_eq (β := Unit) (r := ()) (A := none) (B := some ()) (x := 1) (pc := 7) C (tgt := 25) dJ5_init_d00df_7 rfl ⟨by omega, by omega⟩ (if_neg (by omega)) (fun h _ => absurd h (by omega)) (fun _ _ => ?_)
  refine zP_aload_n (pc := 10) C (x := qb) dJ5_init_d00df_10 rfl rfl ?_
  refine zP_iload_n (pc := 11) C (x := zI (16)) dJ5_init_d00df_11 rfl rfl ?_
  refine zP_newBq (b := 441) (N := 16) (pc := 12) C dJ5_init_d00df_12 wf (hu 441 (by omega)) ⟨by omega, by omega⟩ (by omega) rfl (by omega) ⟨Nat.le_of_ble_eq_true rfl, Nat.le_of_ble_eq_true rfl⟩ fun V1 q1 e1 w1 hb1 => ?_
  have C1 := e1.v.ok C
  refine zP_putRn (pc := 14) C1 f12_15 dJ5_init_d00df_14 (hB.go e1 (by omega)) hb1.2 (by rw [hb1.1]; rfl) w1 fun V2 e2 w2 s2 => ?_
  rw [zfN_fu] at s2
  have C2 := e2.v.ok C1
  have hz : ∀ j, zclr d 441 440 j = 0 := fun j => by rw [zclr_ne (by omega)]; exact hd j
  refine zP_aload_n (pc := 17) C2 (x := qb) dJ5_init_d00df_17 rfl rfl ?_
  refine zP_iconst (pc := 18) C2 dJ5_init_d00df_18 ?_
  refine zP_putBq (pc := 19) C2 k12_22 dJ5_init_d00df_19 s2 rfl (by omega) (hz 1) ?_
  refine zP_goto (pc := 22) C2 (tgt := 38) dJ5_init_d00df_22 rfl ?_
  refine zP_vretB (pc := 38) C2 E (e1.v.tr e2.v) ⟨Nat.le_of_ble_eq_true rfl, Nat.le_of_ble_eq_true rfl⟩ ⟨rfl, q1, ⟨s2, hb1.go e2 (by omega), by omega, fun c hc => ?_, w2, hz 1, hz 3, Nat.zero_le _, fun j hj => absurd hj (Nat.not_lt_zero _), fun j hj => ?_⟩, ?_⟩ dJ5_init_d00df_38
  · rw [e2.2.2.1 c (by omega), e1.2.2.1 c (by omega)]
    exact hu c (by omega)
  · rw [show zclr d 441 441 j = 0 from if_pos rfl]; omega
  · exact (zKq.of (d := d) (d1 := zclr d 441) e1 (fun c hc => by omega) (fun c hc => zclr_ne (by omega))).tr (zKq.of e2 (fun c hc => by omega) (fun c hc => rfl))
theorem t_initB {V : zW} {d : zD} {qb : Nat} (hB : zAt V 440 qb (0, 12, zfN)) (wf : zWf V) (hu : ∀ c, 440 < c → zsh V c = none) (hd : ∀ j, d 440 j = 0) : zMetB V 2 1 16 yJ4_init_da8c8 cJ4_init_da8c8 1 none [.ref qb] d (zPni V d qb) := by
  refine zMetB_by RJ4 pnJ4 rfl (Nat.le_of_ble_eq_true rfl) [some (.ref qb)] rfl fun X C HB HI E => ?_
  refine zP_aload_n (pc := 0) C (x := qb) dJ4_init_da8c8_0 rfl rfl ?_
  refine zP_bipush (pc := 1) C dJ4_init_da8c8_1 rfl ?_
  refine zP_callIB (pc := 3) (As := [.int (zI 16)]) (st := []) C HB b1 rfl dJ4_init_da8c8_3 (t_initA hB wf hu hd) ⟨Nat.le_of_ble_eq_true rfl, Nat.le_of_ble_eq_true rfl⟩ rfl (Nat.le_of_ble_eq_true rfl) ⟨Nat.le_of_ble_eq_true rfl, Nat.le_of_ble_eq_true rfl⟩ fun ov V1 d1 hv hp => ?_
  have C1 := hv.ok C
  have e := hp.1
  subst e
  exact zP_vretB (pc := 6) C1 E hv ⟨Nat.le_of_ble_eq_true rfl, Nat.le_of_ble_eq_true rfl⟩ hp dJ4_init_da8c8_6
theorem t_lengthB {V : zW} {d : zD} {qb a : Nat} {v : Int} (hB : zAt V 440 qb (0, 12, zfB a)) (hn : d 440 3 = v) : zMetB V 1 0 0 yJ4_length_8abf5 cJ4_length_8abf5 1 (some .int) [.ref qb] d (fun ov V1 d1 => V = V1 ∧ d = d1 ∧ ov = some (.int (zI v))) := by
  refine zMetB_by RJ4 pnJ4 rfl (Nat.le_of_ble_eq_true rfl) [some (.ref qb)] rfl fun X C HB HI E => ?_
  refine zP_aload_n (pc := 0) C (x := qb) dJ4_length_8abf5_0 rfl rfl ?_
  refine zP_callUB (pc := 1) (As := []) (st := []) C HB b343 w_smL w_sup (by decide) dJ4_length_8abf5_1 hB (t_lengthA hB hn) ⟨Nat.le_of_ble_eq_true rfl, Nat.le_of_ble_eq_true rfl⟩ rfl (Nat.le_of_ble_eq_true rfl) ⟨Nat.zero_le _, Nat.zero_le _⟩ fun ov V1 d1 _ hp => ?_
  obtain ⟨rfl, rfl, rfl⟩ := hp
  exact zP_nretB (pc := 4) C E zVv.rf ⟨Nat.zero_le _, Nat.zero_le _⟩ rfl ⟨rfl, rfl, rfl⟩ dJ4_length_8abf5_4
theorem t_checkLength {V : zW} {d : zD} {x y : Int} (hx : zR x) (hy : zR y) (h : x ≤ y) : zMet V 0 yJ7_checkLength_df160 cJ7_checkLength_df160 2 none [.int (zI x), .int (zI y)] d none True d := by
  refine zMet_by RJ7 pnJ7 rfl (Nat.le_of_ble_eq_true rfl) [some (.int (zI x)), some (.int (zI y))] rfl fun X C E => ?_
  refine zP_iload_n (pc := 0) C (x := zI (y)) dJ7_checkLength_df160_0 rfl rfl ?_
  refine zP_iload_n (pc := 1) C (x := zI (x)) dJ7_checkLength_df160_1 rfl rfl ?_
  refine zP_icmp_ge (β := Unit) (r := ()) (A := some ()) (B := none) (x := y) (y := x) (pc := 2) C (tgt := 37) dJ7_checkLength_df160_2 rfl hy hx (if_pos h) (fun _ _ => ?_) (fun q _ => absurd h q)
  exact zP_vretJ (pc := 37) C E dJ7_checkLength_df160_37 trivial
def zPcr (V : zW) (d : zD) (a b N : Nat) : Option Value → zW → zD → Prop := fun ov V1 d1 => ∃ q1, ov = some (.ref q1) ∧ zEy V V1 (fun c => c = b) ∧ zWf V1 ∧ zAt V1 b q1 (2, N, zk0) ∧ (∀ c, c ≠ b → d1 c = d c) ∧ ∀ j, j < N → d1 b j = d a j
theorem t_copyRB {V : zW} {d : zD} {qa a cap b N : Nat} (wf : zWf V) (hA : zAt V a qa (2, cap, zk0)) (hu : zsh V b = none) (hN : N ≤ cap ∧ cap ≤ 2000) (hby : ∀ j, j < cap → 0 ≤ d a j ∧ d a j < 128) : zMetB V 1 1 N yJ7_copyOfRangeByte_39247 cJ7_copyOfRangeByte_39247 5 (some (.array .byte)) [.ref qa, .int (zI 0), .int (zI ((N : Nat) : Int))] d (zPcr V d a b N) := by
  have hab : a ≠ b := fun h => by rw [← h, hA.1] at hu; cases hu
  refine zMetB_by RJ7 pnJ7 rfl (Nat.le_of_ble_eq_true rfl) [some (.ref qa), some (.int (zI 0)), some (.int (zI ((N : Nat) : Int))), none, none] rfl fun X C HB HI E => ?_
  refine zP_iload_n (pc := 0) C (x := zI (0)) dJ7_copyOfRangeByte_39247_0 rfl rfl ?_
  refine zP_iload_n (pc := 1) C (x := zI (((N : Nat) : Int))) dJ7_copyOfRangeByte_39247_1 rfl rfl ?_
  refine zP_callS (pc := 2) (As := [.int (zI 0), .int (zI ((N : Nat) : Int))]) (st := []) C b343c dJ7_copyOfRangeByte_39247_2 (t_checkLength ⟨by omega, by omega⟩ ⟨by omega, by omega⟩ (by omega)) ⟨Nat.le_of_ble_eq_true rfl, Nat.le_of_ble_eq_true rfl⟩ rfl (Nat.le_of_ble_eq_true rfl) ⟨Nat.zero_le _, Nat.zero_le _⟩ fun _ => ?_
  refine zP_iload_n (pc := 5) C (x := zI (((N : Nat) : Int))) dJ7_copyOfRangeByte_39247_5 rfl rfl ?_
  refine zP_iload_n (pc := 6) C (x := zI (0)) dJ7_copyOfRangeByte_39247_6 rfl rfl ?_
  refine zP_isubC (pc := 7) C (v := ((N : Nat) : Int)) dJ7_copyOfRangeByte_39247_7 (by omega) (by omega) ?_
  refine zP_istore_n (pc := 8) C (L' := [some (.ref (qa)), some (.int (zI (0))), some (.int (zI (((N : Nat) : Int)))), some (.int (zI (((N : Nat) : Int)))), none]) dJ7_copyOfRangeByte_39247_8 rfl (Nat.le_of_ble_eq_true rfl) rfl rfl ?_
  refine zP_iload_n (pc := 9) C (x := zI (((N : Nat) : Int))) dJ7_copyOfRangeByte_39247_9 rfl rfl ?_
  refine zP_newBq (b := b) (N := N) (pc := 10) C dJ7_copyOfRangeByte_39247_10 wf hu ⟨by omega, by omega⟩ (by omega) (by omega) (by omega) (by show 0 + 1 ≤ 1 ∧ 0 + N ≤ N; omega) fun V1 q1 e1 w1 hb1 => ?_
  have C1 := e1.v.ok C
  have hA1 := hA.go e1 hab
  refine zP_astore (pc := 12) C1 (L' := [some (.ref (qa)), some (.int (zI (0))), some (.int (zI (((N : Nat) : Int)))), some (.int (zI (((N : Nat) : Int)))), some (.ref (q1))]) dJ7_copyOfRangeByte_39247_12 (Nat.le_of_ble_eq_true rfl) rfl rfl ?_
  refine zP_aload_n (pc := 14) C1 (x := qa) dJ7_copyOfRangeByte_39247_14 rfl rfl ?_
  refine zP_iload_n (pc := 15) C1 (x := zI (0)) dJ7_copyOfRangeByte_39247_15 rfl rfl ?_
  refine zP_aload (pc := 16) C1 (x := q1) dJ7_copyOfRangeByte_39247_16 rfl ?_
  refine zP_iconst (pc := 18) C1 dJ7_copyOfRangeByte_39247_18 ?_
  refine zP_aload_n (pc := 19) C1 (x := qa) dJ7_copyOfRangeByte_39247_19 rfl rfl ?_
  refine zP_alenB (pc := 20) C1 dJ7_copyOfRangeByte_39247_20 hA1 ?_
  refine zP_iload_n (pc := 21) C1 (x := zI (0)) dJ7_copyOfRangeByte_39247_21 rfl rfl ?_
  refine zP_isubC (pc := 22) C1 (v := ((cap : Nat) : Int)) dJ7_copyOfRangeByte_39247_22 (by omega) (by omega) ?_
  refine zP_iload_n (pc := 23) C1 (x := zI (((N : Nat) : Int))) dJ7_copyOfRangeByte_39247_23 rfl rfl ?_
  refine zP_mmin (pc := 24) C1 w_min dJ7_copyOfRangeByte_39247_24 ⟨by omega, by omega⟩ ⟨by omega, by omega⟩ (w := ((N : Nat) : Int)) (by split <;> omega) ⟨Nat.le_of_ble_eq_true rfl, Nat.le_of_ble_eq_true rfl⟩ (by show 0 + 1 ≤ 1 ∧ 0 + N ≤ N; omega) ?_
  refine zP_copyBB (pc := 27) C1 q1074 dJ7_copyOfRangeByte_39247_27 hA1 (fun j hj => by rw [zclr_ne hab]; exact hby j hj) hb1 ⟨by omega, by omega⟩ ⟨by omega, by omega⟩ ⟨by omega, by omega⟩ (by omega) ⟨Nat.le_of_ble_eq_true rfl, Nat.le_of_ble_eq_true rfl⟩ ?_
  refine zP_aload (pc := 30) C1 (x := q1) dJ7_copyOfRangeByte_39247_30 rfl ?_
  refine zP_aretB (pc := 32) C1 (Or.inr ⟨.byte, rfl⟩) E e1.v (by omega) ⟨q1, rfl, e1, w1, hb1, fun c hc => by rw [zcp_row hc, zclr_ne hc], fun j hj => ?_⟩ dJ7_copyOfRangeByte_39247_32
  rw [Int.toNat_natCast]
  exact (zcp_0 hj).trans (by rw [zclr_ne hab])
theorem t_copyR {V : zW} {d : zD} {qa a cap b N : Nat} (wf : zWf V) (hA : zAt V a qa (2, cap, zk0)) (hu : zsh V b = none) (hN : N ≤ cap ∧ cap ≤ 2000) (hby : ∀ j, j < cap → 0 ≤ d a j ∧ d a j < 128) : zMetB V 2 1 N yJ7_copyOfRange_39247 cJ7_copyOfRange_39247 3 (some (.array .byte)) [.ref qa, .int (zI 0), .int (zI ((N : Nat) : Int))] d (zPcr V d a b N) := by
  have hab : a ≠ b := fun h => by rw [← h, hA.1] at hu; cases hu
  refine zMetB_by RJ7 pnJ7 rfl (Nat.le_of_ble_eq_true rfl) [some (.ref qa), some (.int (zI 0)), some (.int (zI ((N : Nat) : Int)))] rfl fun X C HB HI E => ?_
  refine zP_iload_n (pc := 0) C (x := zI (0)) dJ7_copyOfRange_39247_0 rfl rfl ?_
  refine zP_if_ne (β := Unit) (r := ()) (A := some ()) (B := none) (x := 0) (pc := 1) C (tgt := 10) dJ7_copyOfRange_39247_1 rfl ⟨by omega, by omega⟩ (if_pos (by omega)) (fun h _ => absurd (by omega) h) (fun _ _ => ?_)
  refine zP_iload_n (pc := 4) C (x := zI (((N : Nat) : Int))) dJ7_copyOfRange_39247_4 rfl rfl ?_
  refine zP_aload_n (pc := 5) C (x := qa) dJ7_copyOfRange_39247_5 rfl rfl ?_
  refine zP_alenB (pc := 6) C dJ7_copyOfRange_39247_6 hA ?_
  by_cases h : N = cap
  · refine zP_icmp_eq (β := Unit) (r := ()) (A := some ()) (B := none) (x := ((N : Nat) : Int)) (y := ((cap : Nat) : Int)) (pc := 7) C (tgt := 17) dJ7_copyOfRange_39247_7 rfl ⟨by omega, by omega⟩ ⟨by omega, by omega⟩ (if_pos (by omega)) (fun _ _ => ?_) (fun h _ => absurd (by omega) h)
    refine zP_aload_n (pc := 17) C (x := qa) dJ7_copyOfRange_39247_17 rfl rfl ?_
    refine zP.row (d a) hu fun hZ => ⟨fun j => hZ a j, ?_⟩
    refine zP_cloneB (b := b) (pc := 18) C HB w_cln dJ7_copyOfRange_39247_18 hA wf hu (fun j => (if_pos rfl).trans (congrFun (zrow_ne hab) j).symm) (fun j hj => by rw [zrow_ne hab]; exact hby j hj) ⟨Nat.le_of_ble_eq_true rfl, Nat.le_of_ble_eq_true rfl⟩ (by show 0 + 1 ≤ 1 ∧ 0 + cap ≤ N; omega) fun V1 q1 e1 w1 hb1 => ?_
    have C1 := e1.v.ok C
    refine zP_castB (pc := 21) C1 w_cst dJ7_copyOfRange_39247_21 hb1 ?_
    refine zP_aretB (pc := 24) C1 (Or.inr ⟨.byte, rfl⟩) E e1.v (by omega) ⟨q1, rfl, e1, w1, by rw [h]; exact hb1, fun c hc => zrow_ne hc, fun j _ => if_pos rfl⟩ dJ7_copyOfRange_39247_24
  · refine zP_icmp_eq (β := Unit) (r := ()) (A := none) (B := some ()) (x := ((N : Nat) : Int)) (y := ((cap : Nat) : Int)) (pc := 7) C (tgt := 17) dJ7_copyOfRange_39247_7 rfl ⟨by omega, by omega⟩ ⟨by omega, by omega⟩ (if_neg (by omega)) (fun h _ => absurd h (by omega)) (fun _ _ => ?_)
    refine zP_aload_n (pc := 10) C (x := qa) dJ7_copyOfRange_39247_10 rfl rfl ?_
    refine zP_iload_n (pc := 11) C (x := zI (0)) dJ7_copyOfRange_39247_11 rfl rfl ?_
    refine zP_iload_n (pc := 12) C (x := zI (((N : Nat) : Int))) dJ7_copyOfRange_39247_12 rfl rfl ?_
    refine zP_callSB (pc := 13) (As := [.ref qa, .int (zI 0), .int (zI ((N : Nat) : Int))]) (st := []) C HB b339 dJ7_copyOfRange_39247_13 (t_copyRB (b := b) wf hA hu hN hby) ⟨Nat.le_of_ble_eq_true rfl, Nat.le_of_ble_eq_true rfl⟩ rfl (Nat.le_of_ble_eq_true rfl) (by show 0 + 1 ≤ 1 ∧ 0 + N ≤ N; omega) fun ov V1 d1 hv hp => ?_
    have C1 := hv.ok C
    have hp2 := hp
    obtain ⟨q1, rfl, -⟩ := hp2
    exact zP_aretB (pc := 16) C1 (Or.inr ⟨.byte, rfl⟩) E hv (by omega) hp dJ7_copyOfRange_39247_16
/-- a text at the cell b, her bytes behind it -/
def zSt (V1 : zW) (d1 : zD) (qs b : Nat) (bs : List Int) : Prop := ∃ q1, zAt V1 b qs (0, 13, zfB (b + 1)) ∧ zAt V1 (b + 1) q1 (2, bs.length, zk0) ∧ d1 b 1 = 0 ∧ ∀ j, j < bs.length → d1 (b + 1) j = bs.getD j 0
def zPsi (V : zW) (d : zD) (qs b : Nat) (bs : List Int) : Option Value → zW → zD → Prop := fun ov V1 d1 => ov = none ∧ zSt V1 d1 qs b bs ∧ zKq V d V1 d1
theorem t_initS0 {V : zW} {d : zD} {qs qb qa a cap b : Nat} {bs : List Int} (hS : zAt V b qs (0, 13, zfN)) (hB : zAt V 440 qb (0, 12, zfB a)) (hA : zAt V a qa (2, cap, zk0)) (hb : 440 < a ∧ a < b) (hu : zsh V (b + 1) = none) (wf : zWf V) (hc : d 440 1 = 0) (hn : d 440 3 = ((bs.length : Nat) : Int)) (hle : bs.length ≤ cap ∧ cap ≤ 2000) (hbs : ∀ j, j < bs.length → d a j = bs.getD j 0) (hby : ∀ j, j < cap → 0 ≤ d a j ∧ d a j < 128) (hz : d b 1 = 0) : zMetB V 3 1 bs.length yJ0_init_db425 cJ0_init_db425 5 none [.ref qs, .ref qb, .null] d (zPsi V d qs b bs) := by
  refine zMetB_by RJ0 pnJ0 rfl (Nat.le_of_ble_eq_true rfl) [some (.ref qs), some (.ref qb), some .null, none, none] rfl fun X C HB HI E => ?_
  have hI := HI rfl
  refine zP_aload_n (pc := 0) C (x := qs) dJ0_init_db425_0 rfl rfl ?_
  refine zP_oinit (pc := 1) C oi_J0 dJ0_init_db425_1 ⟨Nat.le_of_ble_eq_true rfl, Nat.le_of_ble_eq_true rfl⟩ ?_
  refine zP_aload_n (pc := 4) C (x := qb) dJ0_init_db425_4 rfl rfl ?_
  refine zP_callVB (pc := 5) (As := []) (st := []) C HB b552 (zSel_T C q1194) dJ0_init_db425_5 hB (t_getValue hB hA) ⟨Nat.le_of_ble_eq_true rfl, Nat.le_of_ble_eq_true rfl⟩ rfl (Nat.le_of_ble_eq_true rfl) (by show 0 + 0 ≤ 1 ∧ 0 + 0 ≤ bs.length; omega) fun ov V1 d1 _ hp => ?_
  obtain ⟨rfl, rfl, rfl⟩ := hp
  refine zP_astore_n (pc := 8) C (L' := [some (.ref (qs)), some (.ref (qb)), some (.null), some (.ref (qa)), none]) dJ0_init_db425_8 rfl (Nat.le_of_ble_eq_true rfl) rfl rfl ?_
  refine zP_aload_n (pc := 9) C (x := qb) dJ0_init_db425_9 rfl rfl ?_
  refine zP_callOB (pc := 10) (x := yJ5_length_8abf5) (As := []) (st := []) C HB q1196 w_smL q1197 q1199 q1200 q40 q1201 q1203 ⟨by decide +kernel, by decide +kernel, by decide +kernel⟩ dJ0_init_db425_10 hB (t_lengthB hB hn) ⟨Nat.le_of_ble_eq_true rfl, Nat.le_of_ble_eq_true rfl⟩ rfl (Nat.le_of_ble_eq_true rfl) (by show 0 + 0 ≤ 1 ∧ 0 + 0 ≤ bs.length; omega) fun ov V1 d1 _ hp => ?_
  obtain ⟨rfl, rfl, rfl⟩ := hp
  refine zP_istore (pc := 13) C (L' := [some (.ref (qs)), some (.ref (qb)), some (.null), some (.ref (qa)), some (.int (zI (((bs.length : Nat) : Int))))]) dJ0_init_db425_13 (Nat.le_of_ble_eq_true rfl) rfl rfl ?_
  refine zP_aload_n (pc := 15) C (x := qb) dJ0_init_db425_15 rfl rfl ?_
  refine zP_callVB (pc := 16) (As := []) (st := []) C HB b1047 (zSel_T C q1078) dJ0_init_db425_16 hB (t_isLatin1B hB hc) ⟨Nat.le_of_ble_eq_true rfl, Nat.le_of_ble_eq_true rfl⟩ rfl (Nat.le_of_ble_eq_true rfl) (by show 0 + 0 ≤ 1 ∧ 0 + 0 ≤ bs.length; omega) fun ov V1 d1 _ hp => ?_
  obtain ⟨rfl, rfl, rfl⟩ := hp
  refine zP_if_eq (β := Unit) (r := ()) (A := none) (B := some ()) (x := 1) (pc := 19) C (tgt := 41) dJ0_init_db425_19 rfl ⟨by omega, by omega⟩ (if_neg (by omega)) (fun h _ => absurd h (by omega)) (fun _ _ => ?_)
  refine zP_aload_n (pc := 22) C (x := qs) dJ0_init_db425_22 rfl rfl ?_
  refine zP_iconst (pc := 23) C dJ0_init_db425_23 ?_
  refine zP_putBf (pc := 24) C hI k13_15 dJ0_init_db425_24 hS rfl (by omega) ?_
  rw [zu_same hz]
  refine zP_aload_n (pc := 27) C (x := qs) dJ0_init_db425_27 rfl rfl ?_
  refine zP_aload_n (pc := 28) C (x := qa) dJ0_init_db425_28 rfl rfl ?_
  refine zP_iconst (pc := 29) C dJ0_init_db425_29 ?_
  refine zP_iload (pc := 30) C (x := zI (((bs.length : Nat) : Int))) dJ0_init_db425_30 rfl ?_
  refine zP_callSB (pc := 32) (As := [.ref qa, .int (zI 0), .int (zI ((bs.length : Nat) : Int))]) (st := [.ref (qs)]) C HB b54 dJ0_init_db425_32 (t_copyR (b := b + 1) wf hA hu hle hby) ⟨Nat.le_of_ble_eq_true rfl, Nat.le_of_ble_eq_true rfl⟩ rfl (Nat.le_of_ble_eq_true rfl) (by show 0 + 0 + 0 + 0 + 1 ≤ 1 ∧ 0 + 0 + 0 + 0 + bs.length ≤ bs.length; omega) fun ov V1 d1 hv hp => ?_
  obtain ⟨q1, rfl, e1, w1, hb1, g1, g2⟩ := hp
  have C1 := hv.ok C
  refine zP_putRi (pc := 35) C1 hI f13_9 dJ0_init_db425_35 (hS.go e1 (by omega)) hb1.2 (by rw [hb1.1]; rfl) w1 fun V2 e2 w2 s2 => ?_
  rw [zfN_fu] at s2
  have C2 := e2.v.ok C1
  refine zP_goto (pc := 38) C2 (tgt := 97) dJ0_init_db425_38 rfl ?_
  refine zP_vretB (pc := 97) C2 E (hv.tr e2.v) (by omega) ⟨rfl, ⟨q1, s2, hb1.go e2 (by omega), by rw [g1 b (by omega)]; exact hz, fun j hj => (g2 j hj).trans (hbs j hj)⟩, ?_⟩ dJ0_init_db425_97
  exact (zKq.of e1 (fun c hc => by omega) (fun c hc => g1 c (by omega))).tr (zKq.of e2 (fun c hc => by omega) (fun c hc => rfl))
theorem t_initS {V : zW} {d : zD} {qs qb qa a cap b : Nat} {bs : List Int} (hS : zAt V b qs (0, 13, zfN)) (hB : zAt V 440 qb (0, 12, zfB a)) (hA : zAt V a qa (2, cap, zk0)) (hb : 440 < a ∧ a < b) (hu : zsh V (b + 1) = none) (wf : zWf V) (hc : d 440 1 = 0) (hn : d 440 3 = ((bs.length : Nat) : Int)) (hle : bs.length ≤ cap ∧ cap ≤ 2000) (hbs : ∀ j, j < bs.length → d a j = bs.getD j 0) (hby : ∀ j, j < cap → 0 ≤ d a j ∧ d a j < 128) (hz : d b 1 = 0) : zMetB V 4 1 bs.length yJ0_init_81219 cJ0_init_81219 2 none [.ref qs, .ref qb] d (zPsi V d qs b bs) := by
  refine zMetB_by RJ0 pnJ0 rfl (Nat.le_of_ble_eq_true rfl) [some (.ref qs), some (.ref qb)] rfl fun X C HB HI E => ?_
  refine zP_aload_n (pc := 0) C (x := qs) dJ0_init_81219_0 rfl rfl ?_
  refine zP_aload_n (pc := 1) C (x := qb) dJ0_init_81219_1 rfl rfl ?_
  refine zP_null (pc := 2) C dJ0_init_81219_2 ?_
  refine zP_callIB (pc := 3) (As := [.ref qb, .null]) (st := []) C HB b489 rfl dJ0_init_81219_3 (t_initS0 hS hB hA hb hu wf hc hn hle hbs hby hz) ⟨Nat.le_of_ble_eq_true rfl, Nat.le_of_ble_eq_true rfl⟩ rfl (Nat.le_of_ble_eq_true rfl) (by show 0 + 1 ≤ 1 ∧ 0 + bs.length ≤ bs.length; omega) fun ov V1 d1 hv hp => ?_
  have C1 := hv.ok C
  have e := hp.1
  subst e
  exact zP_vretB (pc := 6) C1 E hv (by omega) hp dJ0_init_81219_6
def zPts (V : zW) (d : zD) (bs : List Int) : Option Value → zW → zD → Prop := fun ov V1 d1 => ∃ qs b, ov = some (.ref qs) ∧ 440 ≤ b ∧ (bs.length ≤ 400 ∧ ∀ j, j < bs.length → 0 ≤ bs.getD j 0 ∧ bs.getD j 0 < 128) ∧ zSt V1 d1 qs b bs ∧ zKq V d V1 d1
theorem t_toString {V : zW} {d : zD} {qb qa a cap : Nat} {bs : List Int} (hbd : zBd V d qb qa a cap bs) (hcap : cap ≤ 16 + 2 * bs.length) (hl : bs.length ≤ 400) : zMetB V 5 2 404 yJ4_toString_0e30d cJ4_toString_0e30d 1 (some (.object RJ0)) [.ref qb] d (zPts V d bs) := by
  obtain ⟨hB, hA, ha, hu, wf, hc, hn, hle, hbs, hby⟩ := id hbd
  refine zMetB_by RJ4 pnJ4 rfl (Nat.le_of_ble_eq_true rfl) [some (.ref qb)] rfl fun X C HB HI E => ?_
  refine zP.clr (a := a + 1) (hu _ (by omega)) ?_
  refine zP_newq (a := a + 1) (pc := 0) C tyJ0 cf13 tyJ0_ok w_str dJ4_toString_0e30d_0 wf (hu _ (by omega)) (fun j => if_pos rfl) zfN_0 zfN_no ⟨Nat.le_of_ble_eq_true rfl, Nat.le_of_ble_eq_true rfl⟩ fun V1 qs e1 w1 hs1 => ?_
  have C1 := e1.v.ok C
  have hcl : ∀ c, c ≠ a + 1 → zclr d (a + 1) c = d c := fun c hc => zclr_ne hc
  refine zP_dup (pc := 3) C1 (v := .ref (qs)) dJ4_toString_0e30d_3 rfl ?_
  refine zP_aload_n (pc := 4) C1 (x := qb) dJ4_toString_0e30d_4 rfl rfl ?_
  refine zP_callIB (pc := 5) (As := [.ref qb]) (st := [.ref (qs)]) C1 HB b137 rfl dJ4_toString_0e30d_5 (t_initS (bs := bs) hs1 (hB.go e1 (by omega)) (hA.go e1 (by omega)) (by omega) (by rw [e1.2.2.1 _ (by omega)]; exact hu _ (by omega)) w1 (by rw [hcl 440 (by omega)]; exact hc) (by rw [hcl 440 (by omega)]; exact hn) (by omega) (fun j hj => by rw [hcl a (by omega)]; exact hbs j hj) (fun j hj => by rw [hcl a (by omega)]; exact hby j hj) (if_pos rfl)) ⟨Nat.le_of_ble_eq_true rfl, Nat.le_of_ble_eq_true rfl⟩ rfl (Nat.le_of_ble_eq_true rfl) (by show 0 + 1 + 1 ≤ 2 ∧ 0 + 4 + bs.length ≤ 404; omega) fun ov V2 d2 hv hp => ?_
  obtain ⟨rfl, hst, hq⟩ := hp
  have C2 := hv.ok C1
  exact zP_aretB (pc := 8) C2 (Or.inl ⟨RJ0, rfl⟩) E (e1.v.tr hv) (by omega) ⟨qs, a + 1, rfl, by omega, ⟨hl, fun j hj => by rw [← hbs j hj]; exact hby j (by omega)⟩, hst, (zKq.of e1 (fun c hc => by omega) (fun c hc => hcl c (by omega))).tr hq⟩ dJ4_toString_0e30d_8
