/-! The builder: texts, letters and numbers are laid behind what she holds. -/
theorem w_smS : Cond.sameMethod RJ5 RJ5 "append" "(Ljava/lang/String;)Ljava/lang/AbstractStringBuilder;" ∈ zT := zin 1383 (by decide +kernel) (by decide +kernel)
theorem w_smC : Cond.sameMethod RJ5 RJ5 "append" "(C)Ljava/lang/AbstractStringBuilder;" ∈ zT := zin 1390 (by decide +kernel) (by decide +kernel)
theorem w_smI : Cond.sameMethod RJ5 RJ5 "append" "(I)Ljava/lang/AbstractStringBuilder;" ∈ zT := zin 1391 (by decide +kernel) (by decide +kernel)
theorem w_sup : Cond.superclass RJ4 RJ5 ∈ zT := zin 1029 (by decide +kernel) (by decide +kernel)
theorem b40 : zMV RJ5 40 RJ0 yJ0_coder_7d493 cJ0_coder_7d493 1 (some .byte) 0 := ⟨q1104, q459, q460, q34, q461, rfl, ⟨by decide +kernel, by decide +kernel⟩, by decide +kernel⟩
theorem b32 : zMV RJ5 32 RJ0 yJ0_length_8abf5 cJ0_length_8abf5 1 (some .int) 0 := ⟨q1095, q455, q456, q34, q457, rfl, ⟨by decide +kernel, by decide +kernel⟩, by decide +kernel⟩
theorem b399 : zMV RJ5 399 RJ0 yJ0_getBytes_840e7 cJ0_getBytes_840e7 4 none 3 := ⟨q1124, q1125, q1126, q34, q1127, rfl, ⟨by decide +kernel, by decide +kernel⟩, by decide +kernel⟩
theorem b191 : zMS RJ5 191 yJ1_canEncode_fc78d cJ1_canEncode_fc78d 1 (some .boolean) 1 := ⟨q1140, q1141, q35, q1142, ⟨by decide +kernel, by decide +kernel⟩, by decide +kernel⟩
theorem b245 : zMS RJ5 245 yJ6_stringSize_0f7a4 cJ6_stringSize_0f7a4 4 (some .int) 1 := ⟨q1154, q1155, q45, q1156, ⟨by decide +kernel, by decide +kernel⟩, by decide +kernel⟩
theorem b248 : zMS RJ5 248 yJ6_getChars_ba4f3 cJ6_getChars_ba4f3 7 (some .int) 3 := ⟨q1157, q1158, q45, q1159, ⟨by decide +kernel, by decide +kernel⟩, by decide +kernel⟩
theorem b29 : zMV1 RJ4 29 yJ5_append_cf1ce cJ5_append_cf1ce 3 (some (.object RJ5)) 1 := ⟨q1035, q1036, q39, q1037, ⟨by decide +kernel, by decide +kernel⟩, by decide +kernel⟩
theorem b50 : zMV1 RJ4 50 yJ5_append_3fe6f cJ5_append_3fe6f 2 (some (.object RJ5)) 1 := ⟨q1137, q1138, q39, q1139, ⟨by decide +kernel, by decide +kernel⟩, by decide +kernel⟩
theorem b53 : zMV1 RJ4 53 yJ5_append_c97b9 cJ5_append_c97b9 4 (some (.object RJ5)) 1 := ⟨q1151, q1152, q39, q1153, ⟨by decide +kernel, by decide +kernel⟩, by decide +kernel⟩
/-- the letters of a text that the code names -/
def ztx (t : Nat) : List Int := (zt1 t).2.2.2.map fun n => ((n : Nat) : Int)
theorem ztx_len {t : Nat} : (ztx t).length = zslen t := List.length_map _
theorem ztx_at {t j : Nat} : (ztx t).getD j 0 = zsch t j := by
  unfold ztx zsch
  rw [List.getD_eq_getElem?_getD, List.getElem?_map, List.getD_eq_getElem?_getD]
  cases (zt1 t).2.2.2[j]? <;> rfl
/-- a number's digits -/
def dgs (v : Int) : List Int := if v < 10 then [48 + v] else if v < 100 then [48 + v / 10, 48 + v % 10] else if v < 1000 then [48 + v / 100, 48 + v % 100 / 10, 48 + v % 100 % 10] else [48 + v / 100 / 10, 48 + v / 100 % 10, 48 + v % 100 / 10, 48 + v % 100 % 10]
theorem dgs_b {v : Int} (h : 0 ≤ v ∧ v ≤ 9999) : 1 ≤ (dgs v).length ∧ (dgs v).length ≤ 4 ∧ ∀ j, j < (dgs v).length → 48 ≤ (dgs v).getD j 0 ∧ (dgs v).getD j 0 ≤ 57 := by
  unfold dgs
  split
  · refine ⟨Nat.le_of_ble_eq_true rfl, Nat.le_of_ble_eq_true rfl, fun j hj => ?_⟩
    match j, hj with
    | 0, _ => exact ⟨by show 48 ≤ 48 + v; omega, by show 48 + v ≤ 57; omega⟩
  · split
    · refine ⟨Nat.le_of_ble_eq_true rfl, Nat.le_of_ble_eq_true rfl, fun j hj => ?_⟩
      match j, hj with
      | 0, _ => exact ⟨by show 48 ≤ 48 + v / 10; omega, by show 48 + v / 10 ≤ 57; omega⟩
      | 1, _ => exact ⟨by show 48 ≤ 48 + v % 10; omega, by show 48 + v % 10 ≤ 57; omega⟩
    · split
      · refine ⟨Nat.le_of_ble_eq_true rfl, Nat.le_of_ble_eq_true rfl, fun j hj => ?_⟩
        match j, hj with
        | 0, _ => exact ⟨by show 48 ≤ 48 + v / 100; omega, by show 48 + v / 100 ≤ 57; omega⟩
        | 1, _ => exact ⟨by show 48 ≤ 48 + v % 100 / 10; omega, by show 48 + v % 100 / 10 ≤ 57; omega⟩
        | 2, _ => exact ⟨by show 48 ≤ 48 + v % 100 % 10; omega, by show 48 + v % 100 % 10 ≤ 57; omega⟩
      · refine ⟨Nat.le_of_ble_eq_true rfl, Nat.le_of_ble_eq_true rfl, fun j hj => ?_⟩
        match j, hj with
        | 0, _ => exact ⟨by show 48 ≤ 48 + v / 100 / 10; omega, by show 48 + v / 100 / 10 ≤ 57; omega⟩
        | 1, _ => exact ⟨by show 48 ≤ 48 + v / 100 % 10; omega, by show 48 + v / 100 % 10 ≤ 57; omega⟩
        | 2, _ => exact ⟨by show 48 ≤ 48 + v % 100 / 10; omega, by show 48 + v % 100 / 10 ≤ 57; omega⟩
        | 3, _ => exact ⟨by show 48 ≤ 48 + v % 100 % 10; omega, by show 48 + v % 100 % 10 ≤ 57; omega⟩
theorem zdiv_neg {v : Int} (h : 0 ≤ v ∧ v ≤ 9999) : zdiv (-v) 100 = -(v / 100) := by
  show (zI (-v) / zI 100).toInt = _
  rw [Int32.toInt_div, zI_toInt ⟨by omega, by omega⟩, zI_toInt ⟨by omega, by omega⟩, Int.neg_tdiv, Int.tdiv_eq_ediv_of_nonneg h.1]
  exact Int.bmod_eq_of_le (by omega) (by omega)
theorem zdg0 {i : Int} (h : 0 ≤ i ∧ i < 100) : zdg 0 i.toNat = 48 + i % 10 := by
  show ((48 + i.toNat % 10 : Nat) : Int) = _
  omega
theorem zdg1 {i : Int} (h : 0 ≤ i ∧ i < 100) : zdg 1 i.toNat = 48 + i / 10 := by
  show ((48 + i.toNat / 10 : Nat) : Int) = _
  omega
/-- she holds more -/
theorem zBd_app {V : zW} {d d3 : zD} {qb qa a cap : Nat} {bs s : List Int} (h : zBd V d qb qa a cap bs) (hcap : bs.length + s.length ≤ cap) (hs : ∀ j, j < s.length → 0 ≤ s.getD j 0 ∧ s.getD j 0 < 128) (hc : d3 440 1 = 0) (hn : d3 440 3 = ((bs.length + s.length : Nat) : Int)) (h1 : ∀ j, j < bs.length → d3 a j = d a j) (h2 : ∀ j, j < s.length → d3 a (bs.length + j) = s.getD j 0) (h3 : ∀ j, bs.length + s.length ≤ j → d3 a j = d a j) : zBd V d3 qb qa a cap (bs ++ s) := by
  obtain ⟨hB, hA, ha, hu, wf, -, -, hle, hbs, hby⟩ := h
  refine ⟨hB, hA, ha, hu, wf, hc, by rw [hn, List.length_append], by rw [List.length_append]; exact hcap, fun j hj => ?_, fun j hj => ?_⟩
  · rw [List.length_append] at hj
    by_cases q : j < bs.length
    · rw [h1 j q, hbs j q, List.getD_eq_getElem?_getD, List.getD_eq_getElem?_getD, List.getElem?_append_left q]
    · have e := h2 (j - bs.length) (by omega)
      rw [show bs.length + (j - bs.length) = j by omega] at e
      rw [e, List.getD_eq_getElem?_getD, List.getD_eq_getElem?_getD, List.getElem?_append_right (by omega)]
  · by_cases q : j < bs.length
    · rw [h1 j q]; exact hby j hj
    · by_cases q2 : j < bs.length + s.length
      · have e := h2 (j - bs.length) (by omega)
        rw [show bs.length + (j - bs.length) = j by omega] at e
        rw [e]
        exact hs _ (by omega)
      · rw [h3 j (by omega)]; exact hby j hj
/-- what is so behind an append -/
def zPap (V : zW) (d : zD) (qb a : Nat) (bs : List Int) : Option Value → zW → zD → Prop := fun ov V1 d1 => ov = some (.ref qb) ∧ ∃ qa1 a1 cap1, zBd V1 d1 qb qa1 a1 cap1 bs ∧ cap1 ≤ 16 + 2 * bs.length ∧ a ≤ a1 ∧ a1 ≤ a + 1 ∧ zKq V d V1 d1
theorem t_inflateIf {V : zW} {d : zD} {qb a t : Nat} (hB : zAt V 440 qb (0, 12, zfB a)) (hc : d 440 1 = 0) (ht : zbad t < 1) : zMetB V 1 0 0 yJ5_inflateIfNeededFor_a7421 cJ5_inflateIfNeededFor_a7421 2 none [.ref qb, .ref (zsa V t)] d (fun ov V1 d1 => V = V1 ∧ d = d1 ∧ ov = none) := by
  refine zMetB_by RJ5 pnJ5 rfl (Nat.le_of_ble_eq_true rfl) [some (.ref qb), some (.ref (zsa V t))] rfl fun X C HB HI E => ?_
  refine zP_getCS (pc := 0) C q1009 dJ5_inflateIfNeededFor_a7421_0 ?_
  refine zP_if_eq (β := Unit) (r := ()) (A := none) (B := some ()) (x := 1) (pc := 3) C (tgt := 21) dJ5_inflateIfNeededFor_a7421_3 rfl ⟨by omega, by omega⟩ (if_neg (by omega)) (fun h _ => absurd h (by omega)) (fun _ _ => ?_)
  refine zP_aload_n (pc := 6) C (x := qb) dJ5_inflateIfNeededFor_a7421_6 rfl rfl ?_
  refine zP_giq (pc := 7) C g12_22 dJ5_inflateIfNeededFor_a7421_7 hB rfl hc ?_
  refine zP_aload_n (pc := 10) C (x := zsa V t) dJ5_inflateIfNeededFor_a7421_10 rfl rfl ?_
  refine zP_callT (pc := 11) (As := []) (st := [.int (zI (0))]) C ht b40 dJ5_inflateIfNeededFor_a7421_11 (t_coder ht) ⟨Nat.le_of_ble_eq_true rfl, Nat.le_of_ble_eq_true rfl⟩ rfl (Nat.le_of_ble_eq_true rfl) ⟨Nat.zero_le _, Nat.zero_le _⟩ fun _ => ?_
  refine zP_icmp_eq (β := Unit) (r := ()) (A := some ()) (B := none) (x := 0) (y := 0) (pc := 14) C (tgt := 21) dJ5_inflateIfNeededFor_a7421_14 rfl ⟨by omega, by omega⟩ ⟨by omega, by omega⟩ (if_pos (by omega)) (fun _ _ => ?_) (fun h _ => absurd (by omega) h)
  exact zP_vretB (pc := 21) C E zVv.rf ⟨Nat.zero_le _, Nat.zero_le _⟩ ⟨rfl, rfl, rfl⟩ dJ5_inflateIfNeededFor_a7421_21
theorem t_getBytes {V : zW} {d : zD} {qa a cap t : Nat} {p : Int} (hA : zAt V a qa (2, cap, zk0)) (ht : zbad t < 1) (hp : 0 ≤ p ∧ p + (zslen t : Int) ≤ ((cap : Nat) : Int)) (hcap : cap ≤ 2000) : zMet V 1 yJ0_getBytes_840e7 cJ0_getBytes_840e7 4 none [.ref (zsa V t), .ref qa, .int (zI p), .int (zI 0)] d none True (zcp d (zsch t) 0 a p.toNat (zslen t)) := by
  have hl := zsl_ok t (zbad_lt ht)
  refine zMet_by RJ0 pnJ0 rfl (Nat.le_of_ble_eq_true rfl) [some (.ref (zsa V t)), some (.ref qa), some (.int (zI p)), some (.int (zI 0))] rfl fun X C E => ?_
  refine zP_aload_n (pc := 0) C (x := zsa V t) dJ0_getBytes_840e7_0 rfl rfl ?_
  refine zP_callT (pc := 1) (As := []) (st := []) C ht jm335 dJ0_getBytes_840e7_1 (t_coder ht) ⟨Nat.le_of_ble_eq_true rfl, Nat.le_of_ble_eq_true rfl⟩ rfl (Nat.le_of_ble_eq_true rfl) ⟨Nat.zero_le _, Nat.zero_le _⟩ fun _ => ?_
  refine zP_iload_n (pc := 4) C (x := zI (0)) dJ0_getBytes_840e7_4 rfl rfl ?_
  refine zP_icmp_ne (β := Unit) (r := ()) (A := some ()) (B := none) (x := 0) (y := 0) (pc := 5) C (tgt := 28) dJ0_getBytes_840e7_5 rfl ⟨by omega, by omega⟩ ⟨by omega, by omega⟩ (if_pos (by omega)) (fun h _ => absurd (by omega) h) (fun _ _ => ?_)
  refine zP_aload_n (pc := 8) C (x := zsa V t) dJ0_getBytes_840e7_8 rfl rfl ?_
  refine zP_getTV (pc := 9) C ht q1224 dJ0_getBytes_840e7_9 ?_
  refine zP_iconst (pc := 12) C dJ0_getBytes_840e7_12 ?_
  refine zP_aload_n (pc := 13) C (x := qa) dJ0_getBytes_840e7_13 rfl rfl ?_
  refine zP_iload_n (pc := 14) C (x := zI (p)) dJ0_getBytes_840e7_14 rfl rfl ?_
  refine zP_iload_n (pc := 15) C (x := zI (0)) dJ0_getBytes_840e7_15 rfl rfl ?_
  refine zP_ishl0 (pc := 16) C dJ0_getBytes_840e7_16 ?_
  refine zP_aload_n (pc := 17) C (x := zsa V t) dJ0_getBytes_840e7_17 rfl rfl ?_
  refine zP_getTV (pc := 18) C ht q1224 dJ0_getBytes_840e7_18 ?_
  refine zP_tlen (pc := 21) C ht dJ0_getBytes_840e7_21 ?_
  refine zP_copyBT (pc := 22) C ht q1128 dJ0_getBytes_840e7_22 hA ⟨by omega, by omega⟩ ⟨by omega, by omega⟩ ⟨by omega, by omega⟩ (by omega) ⟨Nat.le_of_ble_eq_true rfl, Nat.le_of_ble_eq_true rfl⟩ ?_
  rw [show (0 : Int).toNat = 0 from rfl, Int.toNat_natCast]
  refine zP_goto (pc := 25) C (tgt := 43) dJ0_getBytes_840e7_25 rfl ?_
  exact zP_vretJ (pc := 43) C E dJ0_getBytes_840e7_43 trivial
theorem t_putStringAt {V : zW} {d : zD} {qb qa a cap t : Nat} {p : Int} (hB : zAt V 440 qb (0, 12, zfB a)) (hA : zAt V a qa (2, cap, zk0)) (hc : d 440 1 = 0) (ht : zbad t < 1) (hp : 0 ≤ p ∧ p + (zslen t : Int) ≤ ((cap : Nat) : Int)) (hcap : cap ≤ 2000) : zMetB V 2 0 0 yJ5_putStringAt_47b60 cJ5_putStringAt_47b60 3 none [.ref qb, .int (zI p), .ref (zsa V t)] d (fun ov V1 d1 => V = V1 ∧ d1 = zcp d (zsch t) 0 a p.toNat (zslen t) ∧ ov = none) := by
  refine zMetB_by RJ5 pnJ5 rfl (Nat.le_of_ble_eq_true rfl) [some (.ref qb), some (.int (zI p)), some (.ref (zsa V t))] rfl fun X C HB HI E => ?_
  refine zP_aload_n (pc := 0) C (x := qb) dJ5_putStringAt_47b60_0 rfl rfl ?_
  refine zP_aload_n (pc := 1) C (x := zsa V t) dJ5_putStringAt_47b60_1 rfl rfl ?_
  refine zP_callVB (pc := 2) (As := [.ref (zsa V t)]) (st := []) C HB b397 (zSel_P HB (List.mem_cons_of_mem _ (List.mem_cons_of_mem _ (List.mem_cons_of_mem _ List.mem_cons_self)))) dJ5_putStringAt_47b60_2 hB (t_inflateIf hB hc ht) ⟨Nat.le_of_ble_eq_true rfl, Nat.le_of_ble_eq_true rfl⟩ rfl (Nat.le_of_ble_eq_true rfl) ⟨Nat.zero_le _, Nat.zero_le _⟩ fun ov V1 d1 _ hp => ?_
  obtain ⟨rfl, rfl, rfl⟩ := hp
  refine zP_aload_n (pc := 5) C (x := zsa V t) dJ5_putStringAt_47b60_5 rfl rfl ?_
  refine zP_aload_n (pc := 6) C (x := qb) dJ5_putStringAt_47b60_6 rfl rfl ?_
  refine zP_getq (pc := 7) C g12_15 dJ5_putStringAt_47b60_7 hB rfl hA.2 ?_
  refine zP_iload_n (pc := 10) C (x := zI (p)) dJ5_putStringAt_47b60_10 rfl rfl ?_
  refine zP_aload_n (pc := 11) C (x := qb) dJ5_putStringAt_47b60_11 rfl rfl ?_
  refine zP_giq (pc := 12) C g12_22 dJ5_putStringAt_47b60_12 hB rfl hc ?_
  refine zP_callT (pc := 15) (As := [.ref qa, .int (zI p), .int (zI 0)]) (st := []) C ht b399 dJ5_putStringAt_47b60_15 (t_getBytes hA ht hp hcap) ⟨Nat.le_of_ble_eq_true rfl, Nat.le_of_ble_eq_true rfl⟩ rfl (Nat.le_of_ble_eq_true rfl) ⟨Nat.zero_le _, Nat.zero_le _⟩ fun _ => ?_
  exact zP_vretB (pc := 18) C E zVv.rf ⟨Nat.zero_le _, Nat.zero_le _⟩ ⟨rfl, rfl, rfl⟩ dJ5_putStringAt_47b60_18
theorem t_appendS0 {V : zW} {d : zD} {qb qa a cap t : Nat} {bs : List Int} (hb : zBd V d qb qa a cap bs) (hcap : cap ≤ 16 + 2 * bs.length) (ht : zbad t < 1) (hl : bs.length + zslen t ≤ 400) : zMetB V 4 1 1802 yJ5_append_cf1ce cJ5_append_cf1ce 3 (some (.object RJ5)) [.ref qb, .ref (zsa V t)] d (zPap V d qb a (bs ++ ztx t)) := by
  obtain ⟨hB, hA, ha, hu, wf, hc, hn, hle, hbs, hby⟩ := id hb
  have hl2 := zsl_ok t (zbad_lt ht)
  refine zMetB_by RJ5 pnJ5 rfl (Nat.le_of_ble_eq_true rfl) [some (.ref qb), some (.ref (zsa V t)), none] rfl fun X C HB HI E => ?_
  refine zP_aload_n (pc := 0) C (x := zsa V t) dJ5_append_cf1ce_0 rfl rfl ?_
  refine zP_nonnull (pc := 1) C (tgt := 9) dJ5_append_cf1ce_1 rfl ?_
  refine zP_aload_n (pc := 9) C (x := zsa V t) dJ5_append_cf1ce_9 rfl rfl ?_
  refine zP_callT (pc := 10) (As := []) (st := []) C ht b32 dJ5_append_cf1ce_10 (t_length ht) ⟨Nat.le_of_ble_eq_true rfl, Nat.le_of_ble_eq_true rfl⟩ rfl (Nat.le_of_ble_eq_true rfl) ⟨Nat.zero_le _, Nat.zero_le _⟩ fun _ => ?_
  refine zP_istore_n (pc := 13) C (L' := [some (.ref (qb)), some (.ref (zsa V t)), some (.int (zI ((zslen t : Int))))]) dJ5_append_cf1ce_13 rfl (Nat.le_of_ble_eq_true rfl) rfl rfl ?_
  refine zP_aload_n (pc := 14) C (x := qb) dJ5_append_cf1ce_14 rfl rfl ?_
  refine zP_aload_n (pc := 15) C (x := qb) dJ5_append_cf1ce_15 rfl rfl ?_
  refine zP_giq (pc := 16) C g12_79 dJ5_append_cf1ce_16 hB rfl hn ?_
  refine zP_iload_n (pc := 19) C (x := zI ((zslen t : Int))) dJ5_append_cf1ce_19 rfl rfl ?_
  refine zP_iaddC (pc := 20) C (v := (((bs.length : Nat) : Int) + (zslen t : Int))) dJ5_append_cf1ce_20 (by omega) (by omega) ?_
  refine zP_callVB (pc := 21) (As := [.int (zI ((((bs.length : Nat) : Int) + (zslen t : Int))))]) (st := []) C HB b100 (zSel_P HB List.mem_cons_self) dJ5_append_cf1ce_21 hB (t_ensure hb (by omega) (by omega)) ⟨Nat.le_of_ble_eq_true rfl, Nat.le_of_ble_eq_true rfl⟩ rfl (Nat.le_of_ble_eq_true rfl) (by show 0 + 1 ≤ 1 ∧ 0 + 1802 ≤ 1802; omega) fun ov V1 d1 hv hp => ?_
  obtain ⟨rfl, qa1, a1, cap1, hb1, hm1, hc1, ha1, ha2, hq1⟩ := hp
  obtain ⟨ad1, sh1, rfl⟩ := id hv
  obtain ⟨hB1, hA1, ha3, hu1, wf1, hcc1, hn1, hle1, hbs1, hby1⟩ := id hb1
  have C1 := hv.ok C
  refine zP_aload_n (pc := 24) C1 (x := qb) dJ5_append_cf1ce_24 rfl rfl ?_
  refine zP_aload_n (pc := 25) C1 (x := qb) dJ5_append_cf1ce_25 rfl rfl ?_
  refine zP_giq (pc := 26) C1 g12_79 dJ5_append_cf1ce_26 hB1 rfl hn1 ?_
  refine zP_aload_n (pc := 29) C1 (x := zsa V t) dJ5_append_cf1ce_29 rfl rfl ?_
  refine zP_callVB (pc := 30) (As := [.int (zI (((bs.length : Nat) : Int))), .ref (zsa V t)]) (st := []) C1 HB b208 (zSel_P HB (List.mem_cons_of_mem _ (List.mem_cons_of_mem _ List.mem_cons_self))) dJ5_append_cf1ce_30 hB1 (t_putStringAt hB1 hA1 hcc1 ht (by omega) (by omega)) ⟨Nat.le_of_ble_eq_true rfl, Nat.le_of_ble_eq_true rfl⟩ rfl (Nat.le_of_ble_eq_true rfl) (by show 0 + 1 + 0 ≤ 1 ∧ 0 + 1802 + 0 ≤ 1802; omega) fun ov V2 d2 _ hp2 => ?_
  obtain ⟨rfl, rfl, rfl⟩ := hp2
  rw [Int.toNat_natCast]
  have e1 : ∀ c, c ≠ a1 → zcp d1 (zsch t) 0 a1 bs.length (zslen t) c = d1 c := fun c hc => zcp_row hc
  refine zP_aload_n (pc := 33) C1 (x := qb) dJ5_append_cf1ce_33 rfl rfl ?_
  refine zP_dup (pc := 34) C1 (v := .ref (qb)) dJ5_append_cf1ce_34 rfl ?_
  refine zP_giq (pc := 35) C1 g12_79 dJ5_append_cf1ce_35 hB1 rfl (v := ((bs.length : Nat) : Int)) (by rw [e1 440 (by omega)]; exact hn1) ?_
  refine zP_iload_n (pc := 38) C1 (x := zI ((zslen t : Int))) dJ5_append_cf1ce_38 rfl rfl ?_
  refine zP_iaddC (pc := 39) C1 (v := (((bs.length : Nat) : Int) + (zslen t : Int))) dJ5_append_cf1ce_39 (by omega) (by omega) ?_
  refine zP_putq (pc := 40) C1 p12_79 dJ5_append_cf1ce_40 hB1 rfl ⟨by omega, by omega⟩ ?_
  refine zP_aload_n (pc := 43) C1 (x := qb) dJ5_append_cf1ce_43 rfl rfl ?_
  refine zP_aretB (pc := 44) C1 (Or.inl ⟨RJ5, rfl⟩) E hv (by omega) ⟨rfl, qa1, a1, cap1, zBd_app hb1 (by rw [ztx_len]; omega) (fun j hj => ?_) ?_ ?_ (fun j hj => ?_) (fun j hj => ?_) (fun j hj => ?_), ?_, ha1, ha2, ?_⟩ dJ5_append_cf1ce_44
  · rw [ztx_at]
    rw [ztx_len] at hj
    exact zsc_ok0 t (zbad_lt ht) j hj
  · rw [zu_ne (Or.inr (by decide)), e1 440 (by omega)]
    exact hcc1
  · rw [zu_eq, ztx_len]; omega
  · rw [zu_row (by omega)]
    unfold zcp
    rw [if_neg (fun q => by have := q.2.1; omega)]
  · rw [ztx_len] at hj
    rw [zu_row (by omega), ztx_at]
    exact (zcp_at (by omega)).trans (congrArg (zsch t) (by omega))
  · rw [ztx_len] at hj
    rw [zu_row (by omega)]
    unfold zcp
    rw [if_neg (fun q => by have := q.2.2; omega)]
  · rw [List.length_append, ztx_len]; omega
  · exact hq1.tr (fun c hc => ⟨rfl, fun _ => rfl, by rw [zu_row (by omega), e1 c (by omega)]⟩)
theorem t_canEncode {V : zW} {d : zD} {c : Int} (h : 0 ≤ c ∧ c < 128) : zMet V 0 yJ1_canEncode_fc78d cJ1_canEncode_fc78d 1 (some .boolean) [.int (zI c)] d (some (.int (zI 1))) True d := by
  refine zMet_by RJ1 pnJ1 rfl (Nat.le_of_ble_eq_true rfl) [some (.int (zI c))] rfl fun X C E => ?_
  refine zP_iload_n (pc := 0) C (x := zI (c)) dJ1_canEncode_fc78d_0 rfl rfl ?_
  refine zP_sipush (pc := 1) C dJ1_canEncode_fc78d_1 rfl ?_
  refine zP_icmp_gt (β := Unit) (r := ()) (A := none) (B := some ()) (x := c) (y := 255) (pc := 4) C (tgt := 11) dJ1_canEncode_fc78d_4 rfl ⟨by omega, by omega⟩ ⟨by omega, by omega⟩ (if_neg (by omega)) (fun h _ => absurd h (by omega)) (fun _ _ => ?_)
  refine zP_iconst (pc := 7) C dJ1_canEncode_fc78d_7 ?_
  refine zP_goto (pc := 8) C (tgt := 12) dJ1_canEncode_fc78d_8 rfl ?_
  exact zP_nret (pc := 12) C E dJ1_canEncode_fc78d_12 (by decide +kernel) trivial
theorem t_appendC0 {V : zW} {d : zD} {qb qa a cap : Nat} {bs : List Int} {c : Int} (hb : zBd V d qb qa a cap bs) (hcap : cap ≤ 16 + 2 * bs.length) (hch : 0 ≤ c ∧ c < 128) (hl : bs.length + 1 ≤ 400) : zMetB V 4 1 1802 yJ5_append_3fe6f cJ5_append_3fe6f 2 (some (.object RJ5)) [.ref qb, .int (zI c)] d (zPap V d qb a (bs ++ [c])) := by
  obtain ⟨hB, hA, ha, hu, wf, hc, hn, hle, hbs, hby⟩ := id hb
  refine zMetB_by RJ5 pnJ5 rfl (Nat.le_of_ble_eq_true rfl) [some (.ref qb), some (.int (zI c))] rfl fun X C HB HI E => ?_
  refine zP_aload_n (pc := 0) C (x := qb) dJ5_append_3fe6f_0 rfl rfl ?_
  refine zP_aload_n (pc := 1) C (x := qb) dJ5_append_3fe6f_1 rfl rfl ?_
  refine zP_giq (pc := 2) C g12_79 dJ5_append_3fe6f_2 hB rfl hn ?_
  refine zP_iconst (pc := 5) C dJ5_append_3fe6f_5 ?_
  refine zP_iaddC (pc := 6) C (v := (((bs.length : Nat) : Int) + 1)) dJ5_append_3fe6f_6 (by omega) (by omega) ?_
  refine zP_callVB (pc := 7) (As := [.int (zI ((((bs.length : Nat) : Int) + 1)))]) (st := []) C HB b100 (zSel_P HB List.mem_cons_self) dJ5_append_3fe6f_7 hB (t_ensure hb (by omega) (by omega)) ⟨Nat.le_of_ble_eq_true rfl, Nat.le_of_ble_eq_true rfl⟩ rfl (Nat.le_of_ble_eq_true rfl) (by show 0 + 1 ≤ 1 ∧ 0 + 1802 ≤ 1802; omega) fun ov V1 d1 hv hp => ?_
  obtain ⟨rfl, qa1, a1, cap1, hb1, hm1, hc1, ha1, ha2, hq1⟩ := hp
  obtain ⟨ad1, sh1, rfl⟩ := id hv
  obtain ⟨hB1, hA1, ha3, hu1, wf1, hcc1, hn1, hle1, hbs1, hby1⟩ := id hb1
  have C1 := hv.ok C
  refine zP_aload_n (pc := 10) C1 (x := qb) dJ5_append_3fe6f_10 rfl rfl ?_
  refine zP_callVB (pc := 11) (As := []) (st := []) C1 HB b83 (zSel_T C1 q1078) dJ5_append_3fe6f_11 hB1 (t_isLatin1B hB1 hcc1) ⟨Nat.le_of_ble_eq_true rfl, Nat.le_of_ble_eq_true rfl⟩ rfl (Nat.le_of_ble_eq_true rfl) (by show 0 + 1 + 0 ≤ 1 ∧ 0 + 1802 + 0 ≤ 1802; omega) fun ov V2 d2 _ hp2 => ?_
  obtain ⟨rfl, rfl, rfl⟩ := hp2
  refine zP_if_eq (β := Unit) (r := ()) (A := none) (B := some ()) (x := 1) (pc := 14) C1 (tgt := 45) dJ5_append_3fe6f_14 rfl ⟨by omega, by omega⟩ (if_neg (by omega)) (fun h _ => absurd h (by omega)) (fun _ _ => ?_)
  refine zP_iload_n (pc := 17) C1 (x := zI (c)) dJ5_append_3fe6f_17 rfl rfl ?_
  refine zP_callS (pc := 18) (As := [.int (zI c)]) (st := []) C1 b191 dJ5_append_3fe6f_18 (t_canEncode hch) ⟨Nat.le_of_ble_eq_true rfl, Nat.le_of_ble_eq_true rfl⟩ rfl (Nat.le_of_ble_eq_true rfl) (by show 0 + 1 + 0 ≤ 1 ∧ 0 + 1802 + 0 ≤ 1802; omega) fun _ => ?_
  refine zP_if_eq (β := Unit) (r := ()) (A := none) (B := some ()) (x := 1) (pc := 21) C1 (tgt := 45) dJ5_append_3fe6f_21 rfl ⟨by omega, by omega⟩ (if_neg (by omega)) (fun h _ => absurd h (by omega)) (fun _ _ => ?_)
  refine zP_aload_n (pc := 24) C1 (x := qb) dJ5_append_3fe6f_24 rfl rfl ?_
  refine zP_getq (pc := 25) C1 g12_15 dJ5_append_3fe6f_25 hB1 rfl hA1.2 ?_
  refine zP_aload_n (pc := 28) C1 (x := qb) dJ5_append_3fe6f_28 rfl rfl ?_
  refine zP_dup (pc := 29) C1 (v := .ref (qb)) dJ5_append_3fe6f_29 rfl ?_
  refine zP_giq (pc := 30) C1 g12_79 dJ5_append_3fe6f_30 hB1 rfl hn1 ?_
  refine zP_dupx1 (pc := 33) C1 (va := .int (zI (((bs.length : Nat) : Int)))) (vb := .ref (qb)) dJ5_append_3fe6f_33 rfl rfl ?_
  refine zP_iconst (pc := 34) C1 dJ5_append_3fe6f_34 ?_
  refine zP_iaddC (pc := 35) C1 (v := (((bs.length : Nat) : Int) + 1)) dJ5_append_3fe6f_35 (by omega) (by omega) ?_
  refine zP_putq (pc := 36) C1 p12_79 dJ5_append_3fe6f_36 hB1 rfl ⟨by omega, by omega⟩ ?_
  refine zP_iload_n (pc := 39) C1 (x := zI (c)) dJ5_append_3fe6f_39 rfl rfl ?_
  refine zP_i2b (K := fun v => some v) (r := c) (pc := 40) C1 dJ5_append_3fe6f_40 (by rw [zl_n, (b_fits hch).2.2]) fun v _ e => ?_
  cases e
  refine zP_bastq (pc := 41) C1 dJ5_append_3fe6f_41 hA1 ⟨by omega, by omega⟩ (by omega) hch ?_
  rw [Int.toNat_natCast]
  refine zP_goto (pc := 42) C1 (tgt := 75) dJ5_append_3fe6f_42 rfl ?_
  refine zP_aload_n (pc := 75) C1 (x := qb) dJ5_append_3fe6f_75 rfl rfl ?_
  refine zP_aretB (pc := 76) C1 (Or.inl ⟨RJ5, rfl⟩) E hv (by omega) ⟨rfl, qa1, a1, cap1, zBd_app hb1 (by show bs.length + 1 ≤ cap1; omega) (fun j hj => ?_) ?_ ?_ (fun j hj => ?_) (fun j hj => ?_) (fun j hj => ?_), ?_, ha1, ha2, ?_⟩ dJ5_append_3fe6f_76
  · have hj : j < 1 := hj
    obtain rfl : j = 0 := by omega
    exact hch
  · rw [zu_row (by omega), zu_ne (Or.inr (by decide))]
    exact hcc1
  · rw [zu_row (by omega), zu_eq]; rfl
  · rw [zu_ne (Or.inr (by omega)), zu_row (by omega)]
  · have hj : j < 1 := hj
    obtain rfl : j = 0 := by omega
    exact zu_eq
  · have hj : bs.length + 1 ≤ j := hj
    rw [zu_ne (Or.inr (by omega)), zu_row (by omega)]
  · rw [List.length_append]
    show cap1 ≤ 16 + 2 * (bs.length + 1)
    omega
  · exact hq1.tr (fun c hc => ⟨rfl, fun _ => rfl, by rw [zu_row (by omega), zu_row (by omega)]⟩)
theorem t_stringSize {V : zW} {d : zD} {v : Int} (h : 0 ≤ v ∧ v ≤ 9999) : zMet V 0 yJ6_stringSize_0f7a4 cJ6_stringSize_0f7a4 4 (some .int) [.int (zI v)] d (some (.int (zI (((dgs v).length : Nat) : Int)))) True d := by
  refine zMet_by RJ6 pnJ6 rfl (Nat.le_of_ble_eq_true rfl) [some (.int (zI v)), none, none, none] rfl fun X C E => ?_
  refine zP_iconst (pc := 0) C dJ6_stringSize_0f7a4_0 ?_
  refine zP_istore_n (pc := 1) C (L' := [some (.int (zI (v))), some (.int (zI (1))), none, none]) dJ6_stringSize_0f7a4_1 rfl (Nat.le_of_ble_eq_true rfl) rfl rfl ?_
  refine zP_iload_n (pc := 2) C (x := zI (v)) dJ6_stringSize_0f7a4_2 rfl rfl ?_
  refine zP_if_lt (β := Unit) (r := ()) (A := none) (B := some ()) (x := v) (pc := 3) C (tgt := 11) dJ6_stringSize_0f7a4_3 rfl ⟨by omega, by omega⟩ (if_neg (by omega)) (fun h _ => absurd h (by omega)) (fun _ _ => ?_)
  refine zP_iconst (pc := 6) C dJ6_stringSize_0f7a4_6 ?_
  refine zP_istore_n (pc := 7) C (L' := [some (.int (zI (v))), some (.int (zI (0))), none, none]) dJ6_stringSize_0f7a4_7 rfl (Nat.le_of_ble_eq_true rfl) rfl rfl ?_
  refine zP_iload_n (pc := 8) C (x := zI (v)) dJ6_stringSize_0f7a4_8 rfl rfl ?_
  refine zP_ineg (pc := 9) C dJ6_stringSize_0f7a4_9 ?_
  refine zP_istore_n (pc := 10) C (L' := [some (.int (zI (-(v)))), some (.int (zI (0))), none, none]) dJ6_stringSize_0f7a4_10 rfl (Nat.le_of_ble_eq_true rfl) rfl rfl ?_
  refine zP_bipush (pc := 11) C dJ6_stringSize_0f7a4_11 rfl ?_
  refine zP_istore_n (pc := 13) C (L' := [some (.int (zI (-(v)))), some (.int (zI (0))), some (.int (zI (-10))), none]) dJ6_stringSize_0f7a4_13 rfl (Nat.le_of_ble_eq_true rfl) rfl rfl ?_
  refine zP_iconst (pc := 14) C dJ6_stringSize_0f7a4_14 ?_
  refine zP_istore_n (pc := 15) C (L' := [some (.int (zI (-(v)))), some (.int (zI (0))), some (.int (zI (-10))), some (.int (zI (1)))]) dJ6_stringSize_0f7a4_15 rfl (Nat.le_of_ble_eq_true rfl) rfl rfl ?_
  refine zP_iload_n (pc := 16) C (x := zI (1)) dJ6_stringSize_0f7a4_16 rfl rfl ?_
  refine zP_bipush (pc := 17) C dJ6_stringSize_0f7a4_17 rfl ?_
  refine zP_icmp_ge (β := Unit) (r := ()) (A := none) (B := some ()) (x := 1) (y := 10) (pc := 19) C (tgt := 42) dJ6_stringSize_0f7a4_19 rfl ⟨by omega, by omega⟩ ⟨by omega, by omega⟩ (if_neg (by omega)) (fun h _ => absurd h (by omega)) (fun _ _ => ?_)
  refine zP_iload_n (pc := 22) C (x := zI (-(v))) dJ6_stringSize_0f7a4_22 rfl rfl ?_
  refine zP_iload_n (pc := 23) C (x := zI (-10)) dJ6_stringSize_0f7a4_23 rfl rfl ?_
  by_cases h1 : v < 10
  · refine zP_icmp_le (β := Unit) (r := ()) (A := none) (B := some ()) (x := -(v)) (y := -10) (pc := 24) C (tgt := 31) dJ6_stringSize_0f7a4_24 rfl ⟨by omega, by omega⟩ ⟨by omega, by omega⟩ (if_neg (by omega)) (fun h _ => absurd h (by omega)) (fun _ _ => ?_)
    have e : (dgs v).length = 1 := by unfold dgs; rw [if_pos h1]; rfl
    rw [e] at E
    refine zP_iload_n (pc := 27) C (x := zI (1)) dJ6_stringSize_0f7a4_27 rfl rfl ?_
    refine zP_iload_n (pc := 28) C (x := zI (0)) dJ6_stringSize_0f7a4_28 rfl rfl ?_
    refine zP_iaddC (pc := 29) C (v := 1) dJ6_stringSize_0f7a4_29 (by omega) (by omega) ?_
    exact zP_nret (pc := 30) C E dJ6_stringSize_0f7a4_30 rfl trivial
  · refine zP_icmp_le (β := Unit) (r := ()) (A := some ()) (B := none) (x := -(v)) (y := -10) (pc := 24) C (tgt := 31) dJ6_stringSize_0f7a4_24 rfl ⟨by omega, by omega⟩ ⟨by omega, by omega⟩ (if_pos (by omega)) (fun _ _ => ?_) (fun h _ => absurd (by omega) h)
    refine zP_bipush (pc := 31) C dJ6_stringSize_0f7a4_31 rfl ?_
    refine zP_iload_n (pc := 33) C (x := zI (-10)) dJ6_stringSize_0f7a4_33 rfl rfl ?_
    refine zP_imulC (pc := 34) C (v := (-100)) dJ6_stringSize_0f7a4_34 (by omega) (by omega) ?_
    refine zP_istore_n (pc := 35) C (L' := [some (.int (zI (-(v)))), some (.int (zI (0))), some (.int (zI ((-100)))), some (.int (zI (1)))]) dJ6_stringSize_0f7a4_35 rfl (Nat.le_of_ble_eq_true rfl) rfl rfl ?_
    refine zP_iincC (pc := 36) C (x := 1) (v := 2) (L' := [some (.int (zI (-(v)))), some (.int (zI (0))), some (.int (zI ((-100)))), some (.int (zI (2)))]) dJ6_stringSize_0f7a4_36 rfl (Nat.le_of_ble_eq_true rfl) rfl (by omega) (by omega) rfl ?_
    refine zP_goto (pc := 39) C (tgt := 16) dJ6_stringSize_0f7a4_39 rfl ?_
    refine zP_iload_n (pc := 16) C (x := zI (2)) dJ6_stringSize_0f7a4_16 rfl rfl ?_
    refine zP_bipush (pc := 17) C dJ6_stringSize_0f7a4_17 rfl ?_
    refine zP_icmp_ge (β := Unit) (r := ()) (A := none) (B := some ()) (x := 2) (y := 10) (pc := 19) C (tgt := 42) dJ6_stringSize_0f7a4_19 rfl ⟨by omega, by omega⟩ ⟨by omega, by omega⟩ (if_neg (by omega)) (fun h _ => absurd h (by omega)) (fun _ _ => ?_)
    refine zP_iload_n (pc := 22) C (x := zI (-(v))) dJ6_stringSize_0f7a4_22 rfl rfl ?_
    refine zP_iload_n (pc := 23) C (x := zI ((-100))) dJ6_stringSize_0f7a4_23 rfl rfl ?_
    by_cases h2 : v < 100
    · refine zP_icmp_le (β := Unit) (r := ()) (A := none) (B := some ()) (x := -(v)) (y := (-100)) (pc := 24) C (tgt := 31) dJ6_stringSize_0f7a4_24 rfl ⟨by omega, by omega⟩ ⟨by omega, by omega⟩ (if_neg (by omega)) (fun h _ => absurd h (by omega)) (fun _ _ => ?_)
      have e : (dgs v).length = 2 := by unfold dgs; rw [if_neg h1, if_pos h2]; rfl
      rw [e] at E
      refine zP_iload_n (pc := 27) C (x := zI (2)) dJ6_stringSize_0f7a4_27 rfl rfl ?_
      refine zP_iload_n (pc := 28) C (x := zI (0)) dJ6_stringSize_0f7a4_28 rfl rfl ?_
      refine zP_iaddC (pc := 29) C (v := 2) dJ6_stringSize_0f7a4_29 (by omega) (by omega) ?_
      exact zP_nret (pc := 30) C E dJ6_stringSize_0f7a4_30 rfl trivial
    · refine zP_icmp_le (β := Unit) (r := ()) (A := some ()) (B := none) (x := -(v)) (y := (-100)) (pc := 24) C (tgt := 31) dJ6_stringSize_0f7a4_24 rfl ⟨by omega, by omega⟩ ⟨by omega, by omega⟩ (if_pos (by omega)) (fun _ _ => ?_) (fun h _ => absurd (by omega) h)
      refine zP_bipush (pc := 31) C dJ6_stringSize_0f7a4_31 rfl ?_
      refine zP_iload_n (pc := 33) C (x := zI ((-100))) dJ6_stringSize_0f7a4_33 rfl rfl ?_
      refine zP_imulC (pc := 34) C (v := (-1000)) dJ6_stringSize_0f7a4_34 (by omega) (by omega) ?_
      refine zP_istore_n (pc := 35) C (L' := [some (.int (zI (-(v)))), some (.int (zI (0))), some (.int (zI ((-1000)))), some (.int (zI (2)))]) dJ6_stringSize_0f7a4_35 rfl (Nat.le_of_ble_eq_true rfl) rfl rfl ?_
      refine zP_iincC (pc := 36) C (x := 2) (v := 3) (L' := [some (.int (zI (-(v)))), some (.int (zI (0))), some (.int (zI ((-1000)))), some (.int (zI (3)))]) dJ6_stringSize_0f7a4_36 rfl (Nat.le_of_ble_eq_true rfl) rfl (by omega) (by omega) rfl ?_
      refine zP_goto (pc := 39) C (tgt := 16) dJ6_stringSize_0f7a4_39 rfl ?_
      refine zP_iload_n (pc := 16) C (x := zI (3)) dJ6_stringSize_0f7a4_16 rfl rfl ?_
      refine zP_bipush (pc := 17) C dJ6_stringSize_0f7a4_17 rfl ?_
      refine zP_icmp_ge (β := Unit) (r := ()) (A := none) (B := some ()) (x := 3) (y := 10) (pc := 19) C (tgt := 42) dJ6_stringSize_0f7a4_19 rfl ⟨by omega, by omega⟩ ⟨by omega, by omega⟩ (if_neg (by omega)) (fun h _ => absurd h (by omega)) (fun _ _ => ?_)
      refine zP_iload_n (pc := 22) C (x := zI (-(v))) dJ6_stringSize_0f7a4_22 rfl rfl ?_
      refine zP_iload_n (pc := 23) C (x := zI ((-1000))) dJ6_stringSize_0f7a4_23 rfl rfl ?_
      by_cases h3 : v < 1000
      · refine zP_icmp_le (β := Unit) (r := ()) (A := none) (B := some ()) (x := -(v)) (y := (-1000)) (pc := 24) C (tgt := 31) dJ6_stringSize_0f7a4_24 rfl ⟨by omega, by omega⟩ ⟨by omega, by omega⟩ (if_neg (by omega)) (fun h _ => absurd h (by omega)) (fun _ _ => ?_)
        have e : (dgs v).length = 3 := by unfold dgs; rw [if_neg h1, if_neg h2, if_pos h3]; rfl
        rw [e] at E
        refine zP_iload_n (pc := 27) C (x := zI (3)) dJ6_stringSize_0f7a4_27 rfl rfl ?_
        refine zP_iload_n (pc := 28) C (x := zI (0)) dJ6_stringSize_0f7a4_28 rfl rfl ?_
        refine zP_iaddC (pc := 29) C (v := 3) dJ6_stringSize_0f7a4_29 (by omega) (by omega) ?_
        exact zP_nret (pc := 30) C E dJ6_stringSize_0f7a4_30 rfl trivial
      · refine zP_icmp_le (β := Unit) (r := ()) (A := some ()) (B := none) (x := -(v)) (y := (-1000)) (pc := 24) C (tgt := 31) dJ6_stringSize_0f7a4_24 rfl ⟨by omega, by omega⟩ ⟨by omega, by omega⟩ (if_pos (by omega)) (fun _ _ => ?_) (fun h _ => absurd (by omega) h)
        refine zP_bipush (pc := 31) C dJ6_stringSize_0f7a4_31 rfl ?_
        refine zP_iload_n (pc := 33) C (x := zI ((-1000))) dJ6_stringSize_0f7a4_33 rfl rfl ?_
        refine zP_imulC (pc := 34) C (v := (-10000)) dJ6_stringSize_0f7a4_34 (by omega) (by omega) ?_
        refine zP_istore_n (pc := 35) C (L' := [some (.int (zI (-(v)))), some (.int (zI (0))), some (.int (zI ((-10000)))), some (.int (zI (3)))]) dJ6_stringSize_0f7a4_35 rfl (Nat.le_of_ble_eq_true rfl) rfl rfl ?_
        refine zP_iincC (pc := 36) C (x := 3) (v := 4) (L' := [some (.int (zI (-(v)))), some (.int (zI (0))), some (.int (zI ((-10000)))), some (.int (zI (4)))]) dJ6_stringSize_0f7a4_36 rfl (Nat.le_of_ble_eq_true rfl) rfl (by omega) (by omega) rfl ?_
        refine zP_goto (pc := 39) C (tgt := 16) dJ6_stringSize_0f7a4_39 rfl ?_
        refine zP_iload_n (pc := 16) C (x := zI (4)) dJ6_stringSize_0f7a4_16 rfl rfl ?_
        refine zP_bipush (pc := 17) C dJ6_stringSize_0f7a4_17 rfl ?_
        refine zP_icmp_ge (β := Unit) (r := ()) (A := none) (B := some ()) (x := 4) (y := 10) (pc := 19) C (tgt := 42) dJ6_stringSize_0f7a4_19 rfl ⟨by omega, by omega⟩ ⟨by omega, by omega⟩ (if_neg (by omega)) (fun h _ => absurd h (by omega)) (fun _ _ => ?_)
        refine zP_iload_n (pc := 22) C (x := zI (-(v))) dJ6_stringSize_0f7a4_22 rfl rfl ?_
        refine zP_iload_n (pc := 23) C (x := zI ((-10000))) dJ6_stringSize_0f7a4_23 rfl rfl ?_
        refine zP_icmp_le (β := Unit) (r := ()) (A := none) (B := some ()) (x := -(v)) (y := (-10000)) (pc := 24) C (tgt := 31) dJ6_stringSize_0f7a4_24 rfl ⟨by omega, by omega⟩ ⟨by omega, by omega⟩ (if_neg (by omega)) (fun h _ => absurd h (by omega)) (fun _ _ => ?_)
        have e : (dgs v).length = 4 := by unfold dgs; rw [if_neg h1, if_neg h2, if_neg h3]; rfl
        rw [e] at E
        refine zP_iload_n (pc := 27) C (x := zI (4)) dJ6_stringSize_0f7a4_27 rfl rfl ?_
        refine zP_iload_n (pc := 28) C (x := zI (0)) dJ6_stringSize_0f7a4_28 rfl rfl ?_
        refine zP_iaddC (pc := 29) C (v := 4) dJ6_stringSize_0f7a4_29 (by omega) (by omega) ?_
        exact zP_nret (pc := 30) C E dJ6_stringSize_0f7a4_30 rfl trivial
def zPgc (V : zW) (d : zD) (a s : Nat) (v : Int) : Option Value → zW → zD → Prop := fun ov V1 d1 => V = V1 ∧ (∃ w, ov = some (.int (zI w))) ∧ (∀ c, c ≠ a → d1 c = d c) ∧ (∀ j, j < s ∨ s + (dgs v).length ≤ j → d1 a j = d a j) ∧ ∀ j, j < (dgs v).length → d1 a (s + j) = (dgs v).getD j 0
theorem t_getChars {V : zW} {d : zD} {qa a cap s : Nat} {v e : Int} (hA : zAt V a qa (2, cap, zk0)) (h : 0 ≤ v ∧ v ≤ 9999) (he : e = ((s + (dgs v).length : Nat) : Int)) (hcap : s + (dgs v).length ≤ cap) (hc2 : cap ≤ 2000) : zMetB V 0 0 0 yJ6_getChars_ba4f3 cJ6_getChars_ba4f3 7 (some .int) [.int (zI v), .int (zI e), .ref qa] d (zPgc V d a s v) := by
  refine zMetB_by RJ6 pnJ6 rfl (Nat.le_of_ble_eq_true rfl) [some (.int (zI v)), some (.int (zI e)), some (.ref qa), none, none, none, none] rfl fun X C HB HI E => ?_
  have hdb := dgs_b h
  refine zP_iload_n (pc := 0) C (x := zI (e)) dJ6_getChars_ba4f3_0 rfl rfl ?_
  refine zP_istore (pc := 1) C (L' := [some (.int (zI (v))), some (.int (zI (e))), some (.ref (qa)), none, none, some (.int (zI (e))), none]) dJ6_getChars_ba4f3_1 (Nat.le_of_ble_eq_true rfl) rfl rfl ?_
  refine zP_iload_n (pc := 3) C (x := zI (v)) dJ6_getChars_ba4f3_3 rfl rfl ?_
  refine zP_if_ge (β := Unit) (r := ()) (A := some ()) (B := none) (x := v) (pc := 4) C (tgt := 11) dJ6_getChars_ba4f3_4 rfl ⟨by omega, by omega⟩ (if_pos (by omega)) (fun _ _ => ?_) (fun h _ => absurd (by omega) h)
  refine zP_iconst (pc := 11) C dJ6_getChars_ba4f3_11 ?_
  refine zP_istore (pc := 12) C (L' := [some (.int (zI (v))), some (.int (zI (e))), some (.ref (qa)), none, none, some (.int (zI (e))), some (.int (zI (0)))]) dJ6_getChars_ba4f3_12 (Nat.le_of_ble_eq_true rfl) rfl rfl ?_
  refine zP_iload (pc := 14) C (x := zI (0)) dJ6_getChars_ba4f3_14 rfl ?_
  refine zP_if_ne (β := Unit) (r := ()) (A := some ()) (B := none) (x := 0) (pc := 16) C (tgt := 22) dJ6_getChars_ba4f3_16 rfl ⟨by omega, by omega⟩ (if_pos (by omega)) (fun h _ => absurd (by omega) h) (fun _ _ => ?_)
  refine zP_iload_n (pc := 19) C (x := zI (v)) dJ6_getChars_ba4f3_19 rfl rfl ?_
  refine zP_ineg (pc := 20) C dJ6_getChars_ba4f3_20 ?_
  refine zP_istore_n (pc := 21) C (L' := [some (.int (zI (-(v)))), some (.int (zI (e))), some (.ref (qa)), none, none, some (.int (zI (e))), some (.int (zI (0)))]) dJ6_getChars_ba4f3_21 rfl (Nat.le_of_ble_eq_true rfl) rfl rfl ?_
  by_cases h1 : v < 10
  · skip
    have el : (dgs v).length = 1 := by unfold dgs; rw [if_pos h1]; rfl
    have eD := show dgs v = _ by unfold dgs; rw [if_pos h1]
    refine zP_iload_n (pc := 22) C (x := zI (-(v))) dJ6_getChars_ba4f3_22 rfl rfl ?_
    refine zP_bipush (pc := 23) C dJ6_getChars_ba4f3_23 rfl ?_
    refine zP_icmp_gt (β := Unit) (r := ()) (A := some ()) (B := none) (x := -(v)) (y := (-100)) (pc := 25) C (tgt := 72) dJ6_getChars_ba4f3_25 rfl ⟨by omega, by omega⟩ ⟨by omega, by omega⟩ (if_pos (by omega)) (fun _ _ => ?_) (fun h _ => absurd (by omega) h)
    refine zP_aload_n (pc := 72) C (x := qa) dJ6_getChars_ba4f3_72 rfl rfl ?_
    refine zP_iincC (pc := 73) C (x := e) (v := e - 1) (L' := [some (.int (zI (-(v)))), some (.int (zI (e))), some (.ref (qa)), none, none, some (.int (zI (e - 1))), some (.int (zI (0)))]) dJ6_getChars_ba4f3_73 rfl (Nat.le_of_ble_eq_true rfl) rfl (by omega) (by omega) rfl ?_
    refine zP_iload (pc := 76) C (x := zI (e - 1)) dJ6_getChars_ba4f3_76 rfl ?_
    refine zP_getD (pc := 78) C (t := 0) (by decide) q1160 dJ6_getChars_ba4f3_78 ?_
    refine zP_iload_n (pc := 81) C (x := zI (-(v))) dJ6_getChars_ba4f3_81 rfl rfl ?_
    refine zP_ineg (pc := 82) C dJ6_getChars_ba4f3_82 ?_
    rw [Int.neg_neg]
    refine zP_dld (pc := 83) C (t := 0) (i := v) (by decide) ⟨by omega, by omega⟩ (by omega) dJ6_getChars_ba4f3_83 ?_
    rw [zdg0 (by omega)]
    refine zP_bastq (i := e - 1) (v := 48 + v % 10) (pc := 84) C dJ6_getChars_ba4f3_84 hA ⟨by omega, by omega⟩ (by omega) (by omega) ?_
    refine zP_iload_n (pc := 85) C (x := zI (-(v))) dJ6_getChars_ba4f3_85 rfl rfl ?_
    refine zP_bipush (pc := 86) C dJ6_getChars_ba4f3_86 rfl ?_
    refine zP_icmp_ge (β := Unit) (r := ()) (A := some ()) (B := none) (x := -(v)) (y := (-9)) (pc := 88) C (tgt := 104) dJ6_getChars_ba4f3_88 rfl ⟨by omega, by omega⟩ ⟨by omega, by omega⟩ (if_pos (by omega)) (fun _ _ => ?_) (fun h _ => absurd (by omega) h)
    refine zP_iload (pc := 104) C (x := zI (0)) dJ6_getChars_ba4f3_104 rfl ?_
    refine zP_if_eq (β := Unit) (r := ()) (A := some ()) (B := none) (x := 0) (pc := 106) C (tgt := 118) dJ6_getChars_ba4f3_106 rfl ⟨by omega, by omega⟩ (if_pos (by omega)) (fun _ _ => ?_) (fun h _ => absurd (by omega) h)
    refine zP_iload (pc := 118) C (x := zI (e - 1)) dJ6_getChars_ba4f3_118 rfl ?_
    refine zP_nretB (pc := 120) C E zVv.rf ⟨Nat.zero_le _, Nat.zero_le _⟩ rfl ⟨rfl, ⟨_, rfl⟩, fun c hc => ?_, fun j hj => ?_, fun j hj => ?_⟩ dJ6_getChars_ba4f3_120
    · rw [zu_row hc]
    · rw [zu_ne (Or.inr (by omega))]
    · rw [el] at hj
      rw [eD]
      match j, hj with
      | 0, _ =>
        rw [show s + 0 = (e - 1).toNat by omega, zu_eq]
        show 48 + v % 10 = (_ : Int)
        first | rfl | (show 48 + v % 10 = 48 + _; omega)
  · by_cases h2 : v < 100
    · skip
      have el : (dgs v).length = 2 := by unfold dgs; rw [if_neg h1, if_pos h2]; rfl
      have eD := show dgs v = _ by unfold dgs; rw [if_neg h1, if_pos h2]
      refine zP_iload_n (pc := 22) C (x := zI (-(v))) dJ6_getChars_ba4f3_22 rfl rfl ?_
      refine zP_bipush (pc := 23) C dJ6_getChars_ba4f3_23 rfl ?_
      refine zP_icmp_gt (β := Unit) (r := ()) (A := some ()) (B := none) (x := -(v)) (y := (-100)) (pc := 25) C (tgt := 72) dJ6_getChars_ba4f3_25 rfl ⟨by omega, by omega⟩ ⟨by omega, by omega⟩ (if_pos (by omega)) (fun _ _ => ?_) (fun h _ => absurd (by omega) h)
      refine zP_aload_n (pc := 72) C (x := qa) dJ6_getChars_ba4f3_72 rfl rfl ?_
      refine zP_iincC (pc := 73) C (x := e) (v := e - 1) (L' := [some (.int (zI (-(v)))), some (.int (zI (e))), some (.ref (qa)), none, none, some (.int (zI (e - 1))), some (.int (zI (0)))]) dJ6_getChars_ba4f3_73 rfl (Nat.le_of_ble_eq_true rfl) rfl (by omega) (by omega) rfl ?_
      refine zP_iload (pc := 76) C (x := zI (e - 1)) dJ6_getChars_ba4f3_76 rfl ?_
      refine zP_getD (pc := 78) C (t := 0) (by decide) q1160 dJ6_getChars_ba4f3_78 ?_
      refine zP_iload_n (pc := 81) C (x := zI (-(v))) dJ6_getChars_ba4f3_81 rfl rfl ?_
      refine zP_ineg (pc := 82) C dJ6_getChars_ba4f3_82 ?_
      rw [Int.neg_neg]
      refine zP_dld (pc := 83) C (t := 0) (i := v) (by decide) ⟨by omega, by omega⟩ (by omega) dJ6_getChars_ba4f3_83 ?_
      rw [zdg0 (by omega)]
      refine zP_bastq (i := e - 1) (v := 48 + v % 10) (pc := 84) C dJ6_getChars_ba4f3_84 hA ⟨by omega, by omega⟩ (by omega) (by omega) ?_
      refine zP_iload_n (pc := 85) C (x := zI (-(v))) dJ6_getChars_ba4f3_85 rfl rfl ?_
      refine zP_bipush (pc := 86) C dJ6_getChars_ba4f3_86 rfl ?_
      refine zP_icmp_ge (β := Unit) (r := ()) (A := none) (B := some ()) (x := -(v)) (y := (-9)) (pc := 88) C (tgt := 104) dJ6_getChars_ba4f3_88 rfl ⟨by omega, by omega⟩ ⟨by omega, by omega⟩ (if_neg (by omega)) (fun h _ => absurd h (by omega)) (fun _ _ => ?_)
      refine zP_aload_n (pc := 91) C (x := qa) dJ6_getChars_ba4f3_91 rfl rfl ?_
      refine zP_iincC (pc := 92) C (x := e - 1) (v := e - 1 - 1) (L' := [some (.int (zI (-(v)))), some (.int (zI (e))), some (.ref (qa)), none, none, some (.int (zI (e - 1 - 1))), some (.int (zI (0)))]) dJ6_getChars_ba4f3_92 rfl (Nat.le_of_ble_eq_true rfl) rfl (by omega) (by omega) rfl ?_
      refine zP_iload (pc := 95) C (x := zI (e - 1 - 1)) dJ6_getChars_ba4f3_95 rfl ?_
      refine zP_getD (pc := 97) C (t := 1) (by decide) q1162 dJ6_getChars_ba4f3_97 ?_
      refine zP_iload_n (pc := 100) C (x := zI (-(v))) dJ6_getChars_ba4f3_100 rfl rfl ?_
      refine zP_ineg (pc := 101) C dJ6_getChars_ba4f3_101 ?_
      rw [Int.neg_neg]
      refine zP_dld (pc := 102) C (t := 1) (i := v) (by decide) ⟨by omega, by omega⟩ (by omega) dJ6_getChars_ba4f3_102 ?_
      rw [zdg1 (by omega)]
      refine zP_bastq (i := e - 1 - 1) (v := 48 + v / 10) (pc := 103) C dJ6_getChars_ba4f3_103 hA ⟨by omega, by omega⟩ (by omega) (by omega) ?_
      refine zP_iload (pc := 104) C (x := zI (0)) dJ6_getChars_ba4f3_104 rfl ?_
      refine zP_if_eq (β := Unit) (r := ()) (A := some ()) (B := none) (x := 0) (pc := 106) C (tgt := 118) dJ6_getChars_ba4f3_106 rfl ⟨by omega, by omega⟩ (if_pos (by omega)) (fun _ _ => ?_) (fun h _ => absurd (by omega) h)
      refine zP_iload (pc := 118) C (x := zI (e - 1 - 1)) dJ6_getChars_ba4f3_118 rfl ?_
      refine zP_nretB (pc := 120) C E zVv.rf ⟨Nat.zero_le _, Nat.zero_le _⟩ rfl ⟨rfl, ⟨_, rfl⟩, fun c hc => ?_, fun j hj => ?_, fun j hj => ?_⟩ dJ6_getChars_ba4f3_120
      · rw [zu_row hc, zu_row hc]
      · rw [zu_ne (Or.inr (by omega)), zu_ne (Or.inr (by omega))]
      · rw [el] at hj
        rw [eD]
        match j, hj with
        | 0, _ =>
          rw [show s + 0 = (e - 1 - 1).toNat by omega, zu_eq]
          show 48 + v / 10 = (_ : Int)
          first | rfl | (show 48 + v / 10 = 48 + _; omega)
        | 1, _ =>
          rw [zu_ne (Or.inr (by omega))]
          rw [show s + 1 = (e - 1).toNat by omega, zu_eq]
          show 48 + v % 10 = (_ : Int)
          first | rfl | (show 48 + v % 10 = 48 + _; omega)
    · by_cases h3 : v < 1000
      · skip
        have el : (dgs v).length = 3 := by unfold dgs; rw [if_neg h1, if_neg h2, if_pos h3]; rfl
        have eD := show dgs v = _ by unfold dgs; rw [if_neg h1, if_neg h2, if_pos h3]
        refine zP_iload_n (pc := 22) C (x := zI (-(v))) dJ6_getChars_ba4f3_22 rfl rfl ?_
        refine zP_bipush (pc := 23) C dJ6_getChars_ba4f3_23 rfl ?_
        refine zP_icmp_gt (β := Unit) (r := ()) (A := none) (B := some ()) (x := -(v)) (y := (-100)) (pc := 25) C (tgt := 72) dJ6_getChars_ba4f3_25 rfl ⟨by omega, by omega⟩ ⟨by omega, by omega⟩ (if_neg (by omega)) (fun h _ => absurd h (by omega)) (fun _ _ => ?_)
        refine zP_iload_n (pc := 28) C (x := zI (-(v))) dJ6_getChars_ba4f3_28 rfl rfl ?_
        refine zP_bipush (pc := 29) C dJ6_getChars_ba4f3_29 rfl ?_
        refine zP_idiv (K := fun v => some v) (r := -(v / 100)) (pc := 31) C dJ6_getChars_ba4f3_31 ⟨by omega, by omega⟩ (by rw [zn_t (by decide), zl_n, zdiv_neg h]) fun z _ ez => ?_
        cases ez
        refine zP_istore_n (pc := 32) C (L' := [some (.int (zI (-(v)))), some (.int (zI (e))), some (.ref (qa)), some (.int (zI (-(v / 100)))), none, some (.int (zI (e))), some (.int (zI (0)))]) dJ6_getChars_ba4f3_32 rfl (Nat.le_of_ble_eq_true rfl) rfl rfl ?_
        refine zP_iload_n (pc := 33) C (x := zI (-(v / 100))) dJ6_getChars_ba4f3_33 rfl rfl ?_
        refine zP_bipush (pc := 34) C dJ6_getChars_ba4f3_34 rfl ?_
        refine zP_imulC (pc := 36) C (v := (-(v / 100) * 100)) dJ6_getChars_ba4f3_36 (by omega) (by omega) ?_
        refine zP_iload_n (pc := 37) C (x := zI (-(v))) dJ6_getChars_ba4f3_37 rfl rfl ?_
        refine zP_isubC (pc := 38) C (v := v % 100) dJ6_getChars_ba4f3_38 (by omega) (by omega) ?_
        refine zP_istore (pc := 39) C (L' := [some (.int (zI (-(v)))), some (.int (zI (e))), some (.ref (qa)), some (.int (zI (-(v / 100)))), some (.int (zI (v % 100))), some (.int (zI (e))), some (.int (zI (0)))]) dJ6_getChars_ba4f3_39 (Nat.le_of_ble_eq_true rfl) rfl rfl ?_
        refine zP_iload_n (pc := 41) C (x := zI (-(v / 100))) dJ6_getChars_ba4f3_41 rfl rfl ?_
        refine zP_istore_n (pc := 42) C (L' := [some (.int (zI (-(v / 100)))), some (.int (zI (e))), some (.ref (qa)), some (.int (zI (-(v / 100)))), some (.int (zI (v % 100))), some (.int (zI (e))), some (.int (zI (0)))]) dJ6_getChars_ba4f3_42 rfl (Nat.le_of_ble_eq_true rfl) rfl rfl ?_
        refine zP_aload_n (pc := 43) C (x := qa) dJ6_getChars_ba4f3_43 rfl rfl ?_
        refine zP_iincC (pc := 44) C (x := e) (v := e - 1) (L' := [some (.int (zI (-(v / 100)))), some (.int (zI (e))), some (.ref (qa)), some (.int (zI (-(v / 100)))), some (.int (zI (v % 100))), some (.int (zI (e - 1))), some (.int (zI (0)))]) dJ6_getChars_ba4f3_44 rfl (Nat.le_of_ble_eq_true rfl) rfl (by omega) (by omega) rfl ?_
        refine zP_iload (pc := 47) C (x := zI (e - 1)) dJ6_getChars_ba4f3_47 rfl ?_
        refine zP_getD (pc := 49) C (t := 0) (by decide) q1160 dJ6_getChars_ba4f3_49 ?_
        refine zP_iload (pc := 52) C (x := zI (v % 100)) dJ6_getChars_ba4f3_52 rfl ?_
        refine zP_dld (pc := 54) C (t := 0) (i := v % 100) (by decide) ⟨by omega, by omega⟩ (by omega) dJ6_getChars_ba4f3_54 ?_
        rw [zdg0 (by omega)]
        refine zP_bastq (i := e - 1) (v := 48 + v % 100 % 10) (pc := 55) C dJ6_getChars_ba4f3_55 hA ⟨by omega, by omega⟩ (by omega) (by omega) ?_
        refine zP_aload_n (pc := 56) C (x := qa) dJ6_getChars_ba4f3_56 rfl rfl ?_
        refine zP_iincC (pc := 57) C (x := e - 1) (v := e - 1 - 1) (L' := [some (.int (zI (-(v / 100)))), some (.int (zI (e))), some (.ref (qa)), some (.int (zI (-(v / 100)))), some (.int (zI (v % 100))), some (.int (zI (e - 1 - 1))), some (.int (zI (0)))]) dJ6_getChars_ba4f3_57 rfl (Nat.le_of_ble_eq_true rfl) rfl (by omega) (by omega) rfl ?_
        refine zP_iload (pc := 60) C (x := zI (e - 1 - 1)) dJ6_getChars_ba4f3_60 rfl ?_
        refine zP_getD (pc := 62) C (t := 1) (by decide) q1162 dJ6_getChars_ba4f3_62 ?_
        refine zP_iload (pc := 65) C (x := zI (v % 100)) dJ6_getChars_ba4f3_65 rfl ?_
        refine zP_dld (pc := 67) C (t := 1) (i := v % 100) (by decide) ⟨by omega, by omega⟩ (by omega) dJ6_getChars_ba4f3_67 ?_
        rw [zdg1 (by omega)]
        refine zP_bastq (i := e - 1 - 1) (v := 48 + v % 100 / 10) (pc := 68) C dJ6_getChars_ba4f3_68 hA ⟨by omega, by omega⟩ (by omega) (by omega) ?_
        refine zP_goto (pc := 69) C (tgt := 22) dJ6_getChars_ba4f3_69 rfl ?_
        refine zP_iload_n (pc := 22) C (x := zI (-(v / 100))) dJ6_getChars_ba4f3_22 rfl rfl ?_
        refine zP_bipush (pc := 23) C dJ6_getChars_ba4f3_23 rfl ?_
        refine zP_icmp_gt (β := Unit) (r := ()) (A := some ()) (B := none) (x := -(v / 100)) (y := (-100)) (pc := 25) C (tgt := 72) dJ6_getChars_ba4f3_25 rfl ⟨by omega, by omega⟩ ⟨by omega, by omega⟩ (if_pos (by omega)) (fun _ _ => ?_) (fun h _ => absurd (by omega) h)
        refine zP_aload_n (pc := 72) C (x := qa) dJ6_getChars_ba4f3_72 rfl rfl ?_
        refine zP_iincC (pc := 73) C (x := e - 1 - 1) (v := e - 1 - 1 - 1) (L' := [some (.int (zI (-(v / 100)))), some (.int (zI (e))), some (.ref (qa)), some (.int (zI (-(v / 100)))), some (.int (zI (v % 100))), some (.int (zI (e - 1 - 1 - 1))), some (.int (zI (0)))]) dJ6_getChars_ba4f3_73 rfl (Nat.le_of_ble_eq_true rfl) rfl (by omega) (by omega) rfl ?_
        refine zP_iload (pc := 76) C (x := zI (e - 1 - 1 - 1)) dJ6_getChars_ba4f3_76 rfl ?_
        refine zP_getD (pc := 78) C (t := 0) (by decide) q1160 dJ6_getChars_ba4f3_78 ?_
        refine zP_iload_n (pc := 81) C (x := zI (-(v / 100))) dJ6_getChars_ba4f3_81 rfl rfl ?_
        refine zP_ineg (pc := 82) C dJ6_getChars_ba4f3_82 ?_
        rw [Int.neg_neg]
        refine zP_dld (pc := 83) C (t := 0) (i := v / 100) (by decide) ⟨by omega, by omega⟩ (by omega) dJ6_getChars_ba4f3_83 ?_
        rw [zdg0 (by omega)]
        refine zP_bastq (i := e - 1 - 1 - 1) (v := 48 + v / 100 % 10) (pc := 84) C dJ6_getChars_ba4f3_84 hA ⟨by omega, by omega⟩ (by omega) (by omega) ?_
        refine zP_iload_n (pc := 85) C (x := zI (-(v / 100))) dJ6_getChars_ba4f3_85 rfl rfl ?_
        refine zP_bipush (pc := 86) C dJ6_getChars_ba4f3_86 rfl ?_
        refine zP_icmp_ge (β := Unit) (r := ()) (A := some ()) (B := none) (x := -(v / 100)) (y := (-9)) (pc := 88) C (tgt := 104) dJ6_getChars_ba4f3_88 rfl ⟨by omega, by omega⟩ ⟨by omega, by omega⟩ (if_pos (by omega)) (fun _ _ => ?_) (fun h _ => absurd (by omega) h)
        refine zP_iload (pc := 104) C (x := zI (0)) dJ6_getChars_ba4f3_104 rfl ?_
        refine zP_if_eq (β := Unit) (r := ()) (A := some ()) (B := none) (x := 0) (pc := 106) C (tgt := 118) dJ6_getChars_ba4f3_106 rfl ⟨by omega, by omega⟩ (if_pos (by omega)) (fun _ _ => ?_) (fun h _ => absurd (by omega) h)
        refine zP_iload (pc := 118) C (x := zI (e - 1 - 1 - 1)) dJ6_getChars_ba4f3_118 rfl ?_
        refine zP_nretB (pc := 120) C E zVv.rf ⟨Nat.zero_le _, Nat.zero_le _⟩ rfl ⟨rfl, ⟨_, rfl⟩, fun c hc => ?_, fun j hj => ?_, fun j hj => ?_⟩ dJ6_getChars_ba4f3_120
        · rw [zu_row hc, zu_row hc, zu_row hc]
        · rw [zu_ne (Or.inr (by omega)), zu_ne (Or.inr (by omega)), zu_ne (Or.inr (by omega))]
        · rw [el] at hj
          rw [eD]
          match j, hj with
          | 0, _ =>
            rw [show s + 0 = (e - 1 - 1 - 1).toNat by omega, zu_eq]
            show 48 + v / 100 % 10 = (_ : Int)
            first | rfl | (show 48 + v / 100 % 10 = 48 + _; omega)
          | 1, _ =>
            rw [zu_ne (Or.inr (by omega))]
            rw [show s + 1 = (e - 1 - 1).toNat by omega, zu_eq]
            show 48 + v % 100 / 10 = (_ : Int)
            first | rfl | (show 48 + v % 100 / 10 = 48 + _; omega)
          | 2, _ =>
            rw [zu_ne (Or.inr (by omega)), zu_ne (Or.inr (by omega))]
            rw [show s + 2 = (e - 1).toNat by omega, zu_eq]
            show 48 + v % 100 % 10 = (_ : Int)
            first | rfl | (show 48 + v % 100 % 10 = 48 + _; omega)
      · skip
        have el : (dgs v).length = 4 := by unfold dgs; rw [if_neg h1, if_neg h2, if_neg h3]; rfl
        have eD := show dgs v = _ by unfold dgs; rw [if_neg h1, if_neg h2, if_neg h3]
        refine zP_iload_n (pc := 22) C (x := zI (-(v))) dJ6_getChars_ba4f3_22 rfl rfl ?_
        refine zP_bipush (pc := 23) C dJ6_getChars_ba4f3_23 rfl ?_
        refine zP_icmp_gt (β := Unit) (r := ()) (A := none) (B := some ()) (x := -(v)) (y := (-100)) (pc := 25) C (tgt := 72) dJ6_getChars_ba4f3_25 rfl ⟨by omega, by omega⟩ ⟨by omega, by omega⟩ (if_neg (by omega)) (fun h _ => absurd h (by omega)) (fun _ _ => ?_)
        refine zP_iload_n (pc := 28) C (x := zI (-(v))) dJ6_getChars_ba4f3_28 rfl rfl ?_
        refine zP_bipush (pc := 29) C dJ6_getChars_ba4f3_29 rfl ?_
        refine zP_idiv (K := fun v => some v) (r := -(v / 100)) (pc := 31) C dJ6_getChars_ba4f3_31 ⟨by omega, by omega⟩ (by rw [zn_t (by decide), zl_n, zdiv_neg h]) fun z _ ez => ?_
        cases ez
        refine zP_istore_n (pc := 32) C (L' := [some (.int (zI (-(v)))), some (.int (zI (e))), some (.ref (qa)), some (.int (zI (-(v / 100)))), none, some (.int (zI (e))), some (.int (zI (0)))]) dJ6_getChars_ba4f3_32 rfl (Nat.le_of_ble_eq_true rfl) rfl rfl ?_
        refine zP_iload_n (pc := 33) C (x := zI (-(v / 100))) dJ6_getChars_ba4f3_33 rfl rfl ?_
        refine zP_bipush (pc := 34) C dJ6_getChars_ba4f3_34 rfl ?_
        refine zP_imulC (pc := 36) C (v := (-(v / 100) * 100)) dJ6_getChars_ba4f3_36 (by omega) (by omega) ?_
        refine zP_iload_n (pc := 37) C (x := zI (-(v))) dJ6_getChars_ba4f3_37 rfl rfl ?_
        refine zP_isubC (pc := 38) C (v := v % 100) dJ6_getChars_ba4f3_38 (by omega) (by omega) ?_
        refine zP_istore (pc := 39) C (L' := [some (.int (zI (-(v)))), some (.int (zI (e))), some (.ref (qa)), some (.int (zI (-(v / 100)))), some (.int (zI (v % 100))), some (.int (zI (e))), some (.int (zI (0)))]) dJ6_getChars_ba4f3_39 (Nat.le_of_ble_eq_true rfl) rfl rfl ?_
        refine zP_iload_n (pc := 41) C (x := zI (-(v / 100))) dJ6_getChars_ba4f3_41 rfl rfl ?_
        refine zP_istore_n (pc := 42) C (L' := [some (.int (zI (-(v / 100)))), some (.int (zI (e))), some (.ref (qa)), some (.int (zI (-(v / 100)))), some (.int (zI (v % 100))), some (.int (zI (e))), some (.int (zI (0)))]) dJ6_getChars_ba4f3_42 rfl (Nat.le_of_ble_eq_true rfl) rfl rfl ?_
        refine zP_aload_n (pc := 43) C (x := qa) dJ6_getChars_ba4f3_43 rfl rfl ?_
        refine zP_iincC (pc := 44) C (x := e) (v := e - 1) (L' := [some (.int (zI (-(v / 100)))), some (.int (zI (e))), some (.ref (qa)), some (.int (zI (-(v / 100)))), some (.int (zI (v % 100))), some (.int (zI (e - 1))), some (.int (zI (0)))]) dJ6_getChars_ba4f3_44 rfl (Nat.le_of_ble_eq_true rfl) rfl (by omega) (by omega) rfl ?_
        refine zP_iload (pc := 47) C (x := zI (e - 1)) dJ6_getChars_ba4f3_47 rfl ?_
        refine zP_getD (pc := 49) C (t := 0) (by decide) q1160 dJ6_getChars_ba4f3_49 ?_
        refine zP_iload (pc := 52) C (x := zI (v % 100)) dJ6_getChars_ba4f3_52 rfl ?_
        refine zP_dld (pc := 54) C (t := 0) (i := v % 100) (by decide) ⟨by omega, by omega⟩ (by omega) dJ6_getChars_ba4f3_54 ?_
        rw [zdg0 (by omega)]
        refine zP_bastq (i := e - 1) (v := 48 + v % 100 % 10) (pc := 55) C dJ6_getChars_ba4f3_55 hA ⟨by omega, by omega⟩ (by omega) (by omega) ?_
        refine zP_aload_n (pc := 56) C (x := qa) dJ6_getChars_ba4f3_56 rfl rfl ?_
        refine zP_iincC (pc := 57) C (x := e - 1) (v := e - 1 - 1) (L' := [some (.int (zI (-(v / 100)))), some (.int (zI (e))), some (.ref (qa)), some (.int (zI (-(v / 100)))), some (.int (zI (v % 100))), some (.int (zI (e - 1 - 1))), some (.int (zI (0)))]) dJ6_getChars_ba4f3_57 rfl (Nat.le_of_ble_eq_true rfl) rfl (by omega) (by omega) rfl ?_
        refine zP_iload (pc := 60) C (x := zI (e - 1 - 1)) dJ6_getChars_ba4f3_60 rfl ?_
        refine zP_getD (pc := 62) C (t := 1) (by decide) q1162 dJ6_getChars_ba4f3_62 ?_
        refine zP_iload (pc := 65) C (x := zI (v % 100)) dJ6_getChars_ba4f3_65 rfl ?_
        refine zP_dld (pc := 67) C (t := 1) (i := v % 100) (by decide) ⟨by omega, by omega⟩ (by omega) dJ6_getChars_ba4f3_67 ?_
        rw [zdg1 (by omega)]
        refine zP_bastq (i := e - 1 - 1) (v := 48 + v % 100 / 10) (pc := 68) C dJ6_getChars_ba4f3_68 hA ⟨by omega, by omega⟩ (by omega) (by omega) ?_
        refine zP_goto (pc := 69) C (tgt := 22) dJ6_getChars_ba4f3_69 rfl ?_
        refine zP_iload_n (pc := 22) C (x := zI (-(v / 100))) dJ6_getChars_ba4f3_22 rfl rfl ?_
        refine zP_bipush (pc := 23) C dJ6_getChars_ba4f3_23 rfl ?_
        refine zP_icmp_gt (β := Unit) (r := ()) (A := some ()) (B := none) (x := -(v / 100)) (y := (-100)) (pc := 25) C (tgt := 72) dJ6_getChars_ba4f3_25 rfl ⟨by omega, by omega⟩ ⟨by omega, by omega⟩ (if_pos (by omega)) (fun _ _ => ?_) (fun h _ => absurd (by omega) h)
        refine zP_aload_n (pc := 72) C (x := qa) dJ6_getChars_ba4f3_72 rfl rfl ?_
        refine zP_iincC (pc := 73) C (x := e - 1 - 1) (v := e - 1 - 1 - 1) (L' := [some (.int (zI (-(v / 100)))), some (.int (zI (e))), some (.ref (qa)), some (.int (zI (-(v / 100)))), some (.int (zI (v % 100))), some (.int (zI (e - 1 - 1 - 1))), some (.int (zI (0)))]) dJ6_getChars_ba4f3_73 rfl (Nat.le_of_ble_eq_true rfl) rfl (by omega) (by omega) rfl ?_
        refine zP_iload (pc := 76) C (x := zI (e - 1 - 1 - 1)) dJ6_getChars_ba4f3_76 rfl ?_
        refine zP_getD (pc := 78) C (t := 0) (by decide) q1160 dJ6_getChars_ba4f3_78 ?_
        refine zP_iload_n (pc := 81) C (x := zI (-(v / 100))) dJ6_getChars_ba4f3_81 rfl rfl ?_
        refine zP_ineg (pc := 82) C dJ6_getChars_ba4f3_82 ?_
        rw [Int.neg_neg]
        refine zP_dld (pc := 83) C (t := 0) (i := v / 100) (by decide) ⟨by omega, by omega⟩ (by omega) dJ6_getChars_ba4f3_83 ?_
        rw [zdg0 (by omega)]
        refine zP_bastq (i := e - 1 - 1 - 1) (v := 48 + v / 100 % 10) (pc := 84) C dJ6_getChars_ba4f3_84 hA ⟨by omega, by omega⟩ (by omega) (by omega) ?_
        refine zP_iload_n (pc := 85) C (x := zI (-(v / 100))) dJ6_getChars_ba4f3_85 rfl rfl ?_
        refine zP_bipush (pc := 86) C dJ6_getChars_ba4f3_86 rfl ?_
        refine zP_icmp_ge (β := Unit) (r := ()) (A := none) (B := some ()) (x := -(v / 100)) (y := (-9)) (pc := 88) C (tgt := 104) dJ6_getChars_ba4f3_88 rfl ⟨by omega, by omega⟩ ⟨by omega, by omega⟩ (if_neg (by omega)) (fun h _ => absurd h (by omega)) (fun _ _ => ?_)
        refine zP_aload_n (pc := 91) C (x := qa) dJ6_getChars_ba4f3_91 rfl rfl ?_
        refine zP_iincC (pc := 92) C (x := e - 1 - 1 - 1) (v := e - 1 - 1 - 1 - 1) (L' := [some (.int (zI (-(v / 100)))), some (.int (zI (e))), some (.ref (qa)), some (.int (zI (-(v / 100)))), some (.int (zI (v % 100))), some (.int (zI (e - 1 - 1 - 1 - 1))), some (.int (zI (0)))]) dJ6_getChars_ba4f3_92 rfl (Nat.le_of_ble_eq_true rfl) rfl (by omega) (by omega) rfl ?_
        refine zP_iload (pc := 95) C (x := zI (e - 1 - 1 - 1 - 1)) dJ6_getChars_ba4f3_95 rfl ?_
        refine zP_getD (pc := 97) C (t := 1) (by decide) q1162 dJ6_getChars_ba4f3_97 ?_
        refine zP_iload_n (pc := 100) C (x := zI (-(v / 100))) dJ6_getChars_ba4f3_100 rfl rfl ?_
        refine zP_ineg (pc := 101) C dJ6_getChars_ba4f3_101 ?_
        rw [Int.neg_neg]
        refine zP_dld (pc := 102) C (t := 1) (i := v / 100) (by decide) ⟨by omega, by omega⟩ (by omega) dJ6_getChars_ba4f3_102 ?_
        rw [zdg1 (by omega)]
        refine zP_bastq (i := e - 1 - 1 - 1 - 1) (v := 48 + v / 100 / 10) (pc := 103) C dJ6_getChars_ba4f3_103 hA ⟨by omega, by omega⟩ (by omega) (by omega) ?_
        refine zP_iload (pc := 104) C (x := zI (0)) dJ6_getChars_ba4f3_104 rfl ?_
        refine zP_if_eq (β := Unit) (r := ()) (A := some ()) (B := none) (x := 0) (pc := 106) C (tgt := 118) dJ6_getChars_ba4f3_106 rfl ⟨by omega, by omega⟩ (if_pos (by omega)) (fun _ _ => ?_) (fun h _ => absurd (by omega) h)
        refine zP_iload (pc := 118) C (x := zI (e - 1 - 1 - 1 - 1)) dJ6_getChars_ba4f3_118 rfl ?_
        refine zP_nretB (pc := 120) C E zVv.rf ⟨Nat.zero_le _, Nat.zero_le _⟩ rfl ⟨rfl, ⟨_, rfl⟩, fun c hc => ?_, fun j hj => ?_, fun j hj => ?_⟩ dJ6_getChars_ba4f3_120
        · rw [zu_row hc, zu_row hc, zu_row hc, zu_row hc]
        · rw [zu_ne (Or.inr (by omega)), zu_ne (Or.inr (by omega)), zu_ne (Or.inr (by omega)), zu_ne (Or.inr (by omega))]
        · rw [el] at hj
          rw [eD]
          match j, hj with
          | 0, _ =>
            rw [show s + 0 = (e - 1 - 1 - 1 - 1).toNat by omega, zu_eq]
            show 48 + v / 100 / 10 = (_ : Int)
            first | rfl | (show 48 + v / 100 / 10 = 48 + _; omega)
          | 1, _ =>
            rw [zu_ne (Or.inr (by omega))]
            rw [show s + 1 = (e - 1 - 1 - 1).toNat by omega, zu_eq]
            show 48 + v / 100 % 10 = (_ : Int)
            first | rfl | (show 48 + v / 100 % 10 = 48 + _; omega)
          | 2, _ =>
            rw [zu_ne (Or.inr (by omega)), zu_ne (Or.inr (by omega))]
            rw [show s + 2 = (e - 1 - 1).toNat by omega, zu_eq]
            show 48 + v % 100 / 10 = (_ : Int)
            first | rfl | (show 48 + v % 100 / 10 = 48 + _; omega)
          | 3, _ =>
            rw [zu_ne (Or.inr (by omega)), zu_ne (Or.inr (by omega)), zu_ne (Or.inr (by omega))]
            rw [show s + 3 = (e - 1).toNat by omega, zu_eq]
            show 48 + v % 100 % 10 = (_ : Int)
            first | rfl | (show 48 + v % 100 % 10 = 48 + _; omega)
theorem t_appendI0 {V : zW} {d : zD} {qb qa a cap : Nat} {bs : List Int} {v : Int} (hb : zBd V d qb qa a cap bs) (hcap : cap ≤ 16 + 2 * bs.length) (hv : 0 ≤ v ∧ v ≤ 9999) (hl : bs.length + 4 ≤ 400) : zMetB V 4 1 1802 yJ5_append_c97b9 cJ5_append_c97b9 4 (some (.object RJ5)) [.ref qb, .int (zI v)] d (zPap V d qb a (bs ++ dgs v)) := by
  obtain ⟨hB, hA, ha, hu, wf, hc, hn, hle, hbs, hby⟩ := id hb
  obtain ⟨hd1, hd2, hd3⟩ := dgs_b hv
  refine zMetB_by RJ5 pnJ5 rfl (Nat.le_of_ble_eq_true rfl) [some (.ref qb), some (.int (zI v)), none, none] rfl fun X C HB HI E => ?_
  refine zP_aload_n (pc := 0) C (x := qb) dJ5_append_c97b9_0 rfl rfl ?_
  refine zP_giq (pc := 1) C g12_79 dJ5_append_c97b9_1 hB rfl hn ?_
  refine zP_istore_n (pc := 4) C (L' := [some (.ref (qb)), some (.int (zI (v))), some (.int (zI (((bs.length : Nat) : Int)))), none]) dJ5_append_c97b9_4 rfl (Nat.le_of_ble_eq_true rfl) rfl rfl ?_
  refine zP_iload_n (pc := 5) C (x := zI (((bs.length : Nat) : Int))) dJ5_append_c97b9_5 rfl rfl ?_
  refine zP_iload_n (pc := 6) C (x := zI (v)) dJ5_append_c97b9_6 rfl rfl ?_
  refine zP_callS (pc := 7) (As := [.int (zI v)]) (st := [.int (zI (((bs.length : Nat) : Int)))]) C b245 dJ5_append_c97b9_7 (t_stringSize hv) ⟨Nat.le_of_ble_eq_true rfl, Nat.le_of_ble_eq_true rfl⟩ rfl (Nat.le_of_ble_eq_true rfl) ⟨Nat.zero_le _, Nat.zero_le _⟩ fun _ => ?_
  refine zP_iaddC (pc := 10) C (v := (((bs.length : Nat) : Int) + (((dgs v).length : Nat) : Int))) dJ5_append_c97b9_10 (by omega) (by omega) ?_
  refine zP_istore_n (pc := 11) C (L' := [some (.ref (qb)), some (.int (zI (v))), some (.int (zI (((bs.length : Nat) : Int)))), some (.int (zI ((((bs.length : Nat) : Int) + (((dgs v).length : Nat) : Int)))))]) dJ5_append_c97b9_11 rfl (Nat.le_of_ble_eq_true rfl) rfl rfl ?_
  refine zP_aload_n (pc := 12) C (x := qb) dJ5_append_c97b9_12 rfl rfl ?_
  refine zP_iload_n (pc := 13) C (x := zI ((((bs.length : Nat) : Int) + (((dgs v).length : Nat) : Int)))) dJ5_append_c97b9_13 rfl rfl ?_
  refine zP_callVB (pc := 14) (As := [.int (zI ((((bs.length : Nat) : Int) + (((dgs v).length : Nat) : Int))))]) (st := []) C HB b100 (zSel_P HB List.mem_cons_self) dJ5_append_c97b9_14 hB (t_ensure hb (by omega) (by omega)) ⟨Nat.le_of_ble_eq_true rfl, Nat.le_of_ble_eq_true rfl⟩ rfl (Nat.le_of_ble_eq_true rfl) (by show 0 + 1 ≤ 1 ∧ 0 + 1802 ≤ 1802; omega) fun ov V1 d1 hvv hp => ?_
  obtain ⟨rfl, qa1, a1, cap1, hb1, hm1, hc1, ha1, ha2, hq1⟩ := hp
  obtain ⟨ad1, sh1, rfl⟩ := id hvv
  obtain ⟨hB1, hA1, ha3, hu1, wf1, hcc1, hn1, hle1, hbs1, hby1⟩ := id hb1
  have C1 := hvv.ok C
  refine zP_aload_n (pc := 17) C1 (x := qb) dJ5_append_c97b9_17 rfl rfl ?_
  refine zP_callVB (pc := 18) (As := []) (st := []) C1 HB b83 (zSel_T C1 q1078) dJ5_append_c97b9_18 hB1 (t_isLatin1B hB1 hcc1) ⟨Nat.le_of_ble_eq_true rfl, Nat.le_of_ble_eq_true rfl⟩ rfl (Nat.le_of_ble_eq_true rfl) (by show 0 + 1 + 0 ≤ 1 ∧ 0 + 1802 + 0 ≤ 1802; omega) fun ov V2 d2 _ hp2 => ?_
  obtain ⟨rfl, rfl, rfl⟩ := hp2
  refine zP_if_eq (β := Unit) (r := ()) (A := none) (B := some ()) (x := 1) (pc := 21) C1 (tgt := 37) dJ5_append_c97b9_21 rfl ⟨by omega, by omega⟩ (if_neg (by omega)) (fun h _ => absurd h (by omega)) (fun _ _ => ?_)
  refine zP_iload_n (pc := 24) C1 (x := zI (v)) dJ5_append_c97b9_24 rfl rfl ?_
  refine zP_iload_n (pc := 25) C1 (x := zI ((((bs.length : Nat) : Int) + (((dgs v).length : Nat) : Int)))) dJ5_append_c97b9_25 rfl rfl ?_
  refine zP_aload_n (pc := 26) C1 (x := qb) dJ5_append_c97b9_26 rfl rfl ?_
  refine zP_getq (pc := 27) C1 g12_15 dJ5_append_c97b9_27 hB1 rfl hA1.2 ?_
  refine zP_callSB (pc := 30) (As := [.int (zI v), .int (zI (((bs.length : Nat) : Int) + (((dgs v).length : Nat) : Int))), .ref qa1]) (st := []) C1 HB b248 dJ5_append_c97b9_30 (t_getChars (s := bs.length) hA1 hv (by omega) (by omega) (by omega)) ⟨Nat.le_of_ble_eq_true rfl, Nat.le_of_ble_eq_true rfl⟩ rfl (Nat.le_of_ble_eq_true rfl) (by show 0 + 1 + 0 ≤ 1 ∧ 0 + 1802 + 0 ≤ 1802; omega) fun ov V3 d3 _ hp3 => ?_
  obtain ⟨rfl, ⟨w, rfl⟩, g1, g2, g3⟩ := hp3
  refine zP_pop (pc := 33) C1 (v := .int (zI (w))) dJ5_append_c97b9_33 rfl ?_
  refine zP_goto (pc := 34) C1 (tgt := 48) dJ5_append_c97b9_34 rfl ?_
  refine zP_aload_n (pc := 48) C1 (x := qb) dJ5_append_c97b9_48 rfl rfl ?_
  refine zP_iload_n (pc := 49) C1 (x := zI ((((bs.length : Nat) : Int) + (((dgs v).length : Nat) : Int)))) dJ5_append_c97b9_49 rfl rfl ?_
  refine zP_putq (pc := 50) C1 p12_79 dJ5_append_c97b9_50 hB1 rfl ⟨by omega, by omega⟩ ?_
  refine zP_aload_n (pc := 53) C1 (x := qb) dJ5_append_c97b9_53 rfl rfl ?_
  refine zP_aretB (pc := 54) C1 (Or.inl ⟨RJ5, rfl⟩) E hvv (by omega) ⟨rfl, qa1, a1, cap1, zBd_app hb1 (by omega) (fun j hj => by have := hd3 j hj; omega) ?_ ?_ (fun j hj => ?_) (fun j hj => ?_) (fun j hj => ?_), ?_, ha1, ha2, ?_⟩ dJ5_append_c97b9_54
  · rw [zu_ne (Or.inr (by decide)), g1 440 (by omega)]
    exact hcc1
  · rw [zu_eq]; omega
  · rw [zu_row (by omega)]; exact g2 j (Or.inl hj)
  · rw [zu_row (by omega)]; exact g3 j hj
  · rw [zu_row (by omega)]; exact g2 j (Or.inr hj)
  · rw [List.length_append]; omega
  · exact hq1.tr (fun c hc => ⟨rfl, fun _ => rfl, by rw [zu_row (by omega), g1 c (by omega)]⟩)
theorem t_appendS {V : zW} {d : zD} {qb qa a cap t : Nat} {bs : List Int} (hb : zBd V d qb qa a cap bs) (hcap : cap ≤ 16 + 2 * bs.length) (ht : zbad t < 1) (hl : bs.length + zslen t ≤ 400) : zMetB V 5 1 1802 yJ4_append_15ec4 cJ4_append_15ec4 2 (some (.object RJ4)) [.ref qb, .ref (zsa V t)] d (zPap V d qb a (bs ++ ztx t)) := by
  obtain ⟨hB, -⟩ := id hb
  refine zMetB_by RJ4 pnJ4 rfl (Nat.le_of_ble_eq_true rfl) [some (.ref qb), some (.ref (zsa V t))] rfl fun X C HB HI E => ?_
  refine zP_aload_n (pc := 0) C (x := qb) dJ4_append_15ec4_0 rfl rfl ?_
  refine zP_aload_n (pc := 1) C (x := zsa V t) dJ4_append_15ec4_1 rfl rfl ?_
  refine zP_callUB (pc := 2) (As := [.ref (zsa V t)]) (st := []) C HB b29 w_smS w_sup (by decide) dJ4_append_15ec4_2 hB (t_appendS0 hb hcap ht hl) ⟨Nat.le_of_ble_eq_true rfl, Nat.le_of_ble_eq_true rfl⟩ rfl (Nat.le_of_ble_eq_true rfl) (by show 0 + 1 ≤ 1 ∧ 0 + 1802 ≤ 1802; omega) fun ov V1 d1 hvv hp => ?_
  have C1 := hvv.ok C
  have e := hp.1
  subst e
  refine zP_pop (pc := 5) C1 (v := .ref (qb)) dJ4_append_15ec4_5 rfl ?_
  refine zP_aload_n (pc := 6) C1 (x := qb) dJ4_append_15ec4_6 rfl rfl ?_
  exact zP_aretB (pc := 7) C1 (Or.inl ⟨RJ4, rfl⟩) E hvv (by omega) hp dJ4_append_15ec4_7
theorem t_appendC {V : zW} {d : zD} {qb qa a cap : Nat} {bs : List Int} {c : Int} (hb : zBd V d qb qa a cap bs) (hcap : cap ≤ 16 + 2 * bs.length) (hch : 0 ≤ c ∧ c < 128) (hl : bs.length + 1 ≤ 400) : zMetB V 5 1 1802 yJ4_append_cf468 cJ4_append_cf468 2 (some (.object RJ4)) [.ref qb, .int (zI c)] d (zPap V d qb a (bs ++ [c])) := by
  obtain ⟨hB, -⟩ := id hb
  refine zMetB_by RJ4 pnJ4 rfl (Nat.le_of_ble_eq_true rfl) [some (.ref qb), some (.int (zI c))] rfl fun X C HB HI E => ?_
  refine zP_aload_n (pc := 0) C (x := qb) dJ4_append_cf468_0 rfl rfl ?_
  refine zP_iload_n (pc := 1) C (x := zI (c)) dJ4_append_cf468_1 rfl rfl ?_
  refine zP_callUB (pc := 2) (As := [.int (zI c)]) (st := []) C HB b50 w_smC w_sup (by decide) dJ4_append_cf468_2 hB (t_appendC0 hb hcap hch hl) ⟨Nat.le_of_ble_eq_true rfl, Nat.le_of_ble_eq_true rfl⟩ rfl (Nat.le_of_ble_eq_true rfl) (by show 0 + 1 ≤ 1 ∧ 0 + 1802 ≤ 1802; omega) fun ov V1 d1 hvv hp => ?_
  have C1 := hvv.ok C
  have e := hp.1
  subst e
  refine zP_pop (pc := 5) C1 (v := .ref (qb)) dJ4_append_cf468_5 rfl ?_
  refine zP_aload_n (pc := 6) C1 (x := qb) dJ4_append_cf468_6 rfl rfl ?_
  exact zP_aretB (pc := 7) C1 (Or.inl ⟨RJ4, rfl⟩) E hvv (by omega) hp dJ4_append_cf468_7
theorem t_appendI {V : zW} {d : zD} {qb qa a cap : Nat} {bs : List Int} {v : Int} (hb : zBd V d qb qa a cap bs) (hcap : cap ≤ 16 + 2 * bs.length) (hv : 0 ≤ v ∧ v ≤ 9999) (hl : bs.length + 4 ≤ 400) : zMetB V 5 1 1802 yJ4_append_bf812 cJ4_append_bf812 2 (some (.object RJ4)) [.ref qb, .int (zI v)] d (zPap V d qb a (bs ++ dgs v)) := by
  obtain ⟨hB, -⟩ := id hb
  refine zMetB_by RJ4 pnJ4 rfl (Nat.le_of_ble_eq_true rfl) [some (.ref qb), some (.int (zI v))] rfl fun X C HB HI E => ?_
  refine zP_aload_n (pc := 0) C (x := qb) dJ4_append_bf812_0 rfl rfl ?_
  refine zP_iload_n (pc := 1) C (x := zI (v)) dJ4_append_bf812_1 rfl rfl ?_
  refine zP_callUB (pc := 2) (As := [.int (zI v)]) (st := []) C HB b53 w_smI w_sup (by decide) dJ4_append_bf812_2 hB (t_appendI0 hb hcap hv hl) ⟨Nat.le_of_ble_eq_true rfl, Nat.le_of_ble_eq_true rfl⟩ rfl (Nat.le_of_ble_eq_true rfl) (by show 0 + 1 ≤ 1 ∧ 0 + 1802 ≤ 1802; omega) fun ov V1 d1 hvv hp => ?_
  have C1 := hvv.ok C
  have e := hp.1
  subst e
  refine zP_pop (pc := 5) C1 (v := .ref (qb)) dJ4_append_bf812_5 rfl ?_
  refine zP_aload_n (pc := 6) C1 (x := qb) dJ4_append_bf812_6 rfl rfl ?_
  exact zP_aretB (pc := 7) C1 (Or.inl ⟨RJ4, rfl⟩) E hvv (by omega) hp dJ4_append_bf812_7
