/-! Texts: their lengths and letters, by the JDK's own methods; a switch by keys. -/
theorem pnJ0 : plainName RJ0 = true := by decide +kernel
theorem pnJ1 : plainName RJ1 = true := by decide +kernel
theorem pnJ3 : plainName RJ3 = true := by decide +kernel
theorem jm335 : zMV RJ0 335 RJ0 yJ0_coder_7d493 cJ0_coder_7d493 1 (Option.some FieldType.byte) 0 := ⟨q458, q459, q460, q34, q461, rfl, ⟨by decide +kernel, by decide +kernel⟩, by decide +kernel⟩
theorem jm492 : zMV RJ0 492 RJ0 yJ0_isLatin1_aae02 cJ0_isLatin1_aae02 1 (Option.some FieldType.boolean) 0 := ⟨q468, q469, q470, q34, q471, rfl, ⟨by decide +kernel, by decide +kernel⟩, by decide +kernel⟩
theorem jm495 : zMS RJ0 495 yJ1_charAt_3b067 cJ1_charAt_3b067 2 (Option.some FieldType.char) 2 := ⟨q472, q473, q35, q474, ⟨by decide +kernel, by decide +kernel⟩, by decide +kernel⟩
theorem jm9 : zMS RJ1 9 yJ0_checkIndex_df160 cJ0_checkIndex_df160 2 (Option.none : Option FieldType) 2 := ⟨q475, q476, q34, q477, ⟨by decide +kernel, by decide +kernel⟩, by decide +kernel⟩
theorem jm1059 : zMS RJ0 1059 yJ3_checkIndex_8e157 cJ3_checkIndex_8e157 3 (Option.some FieldType.int) 3 := ⟨q480, q481, q36, q482, ⟨by decide +kernel, by decide +kernel⟩, by decide +kernel⟩
theorem sl11_89 : zMV RX11 89 RJ0 yJ0_length_8abf5 cJ0_length_8abf5 1 (Option.some FieldType.int) 0 := ⟨q454, q455, q456, q34, q457, rfl, ⟨by decide +kernel, by decide +kernel⟩, by decide +kernel⟩
theorem sl9_41 : zMV RX9 41 RJ0 yJ0_length_8abf5 cJ0_length_8abf5 1 (Option.some FieldType.int) 0 := ⟨q536, q455, q456, q34, q457, rfl, ⟨by decide +kernel, by decide +kernel⟩, by decide +kernel⟩
theorem sc11_95 : zMV RX11 95 RJ0 yJ0_charAt_5068e cJ0_charAt_5068e 2 (Option.some FieldType.char) 1 := ⟨q464, q465, q466, q34, q467, rfl, ⟨by decide +kernel, by decide +kernel⟩, by decide +kernel⟩
theorem sc9_46 : zMV RX9 46 RJ0 yJ0_charAt_5068e cJ0_charAt_5068e 2 (Option.some FieldType.char) 1 := ⟨q537, q465, q466, q34, q467, rfl, ⟨by decide +kernel, by decide +kernel⟩, by decide +kernel⟩
theorem zsl_ok : ∀ i, i < 40 → Int32.ofNat (zslen i) = zI (zslen i) ∧ 0 ≤ zslen i ∧ zslen i ≤ 33 := by decide +kernel
theorem zsc_ok0 : ∀ i, i < 40 → ∀ j, j < zslen i → 0 ≤ zsch i j ∧ zsch i j < 128 := by decide +kernel
theorem zsc_ok1 : ∀ j, j < 128 → zand ((j : Nat) : Int) 255 = ((j : Nat) : Int) ∧ ((zI ((j : Nat) : Int)).toUInt32 % 65536).toInt32 = zI ((j : Nat) : Int) ∧ narrow .char (.int (zI ((j : Nat) : Int))) = .int (zI ((j : Nat) : Int)) := by decide +kernel
theorem zsc_ok {i j : Nat} (hi : i < 40) (hj : j < zslen i) : zR (zsch i j) ∧ zand (zsch i j) 255 = zsch i j ∧ ((zI (zsch i j)).toUInt32 % 65536).toInt32 = zI (zsch i j) ∧ narrow .char (.int (zI (zsch i j))) = .int (zI (zsch i j)) := by
  obtain ⟨h1, h2⟩ := zsc_ok0 i hi j hj
  obtain ⟨n, hn⟩ := Int.eq_ofNat_of_zero_le h1
  rw [hn] at h2 ⊢
  exact ⟨⟨by omega, by omega⟩, zsc_ok1 n (by omega)⟩
section TEXTS
variable {V : zW} {X : zX} {cc : ByteArray} {own : String} {nL k n pc : Nat} {R0 : Room} {ret : Option FieldType} {L L' : List (Option Value)} {st : List Value} {d d' : zD} {φ : Prop} {β : Type} {r : β}
theorem zP_nret {ty : FieldType} (C : zOk V X cc own nL R0 (some ty)) {x : Int} (E : zEnd V X (some (.int (zI x))) φ d) (hdg : decode cc pc = .ok (.ireturn, 1)) (hn : narrow ty (.int (zI x)) = .int (zI x)) (hφ : φ) : zP V X nL 0 0 pc L [.int (zI x)] d := by
  obtain ⟨p, l, e, R, s, m, args, below, meth, c, Q⟩ := X
  obtain ⟨hxx, hb, hml, hown, hts, hK, hlk, hR, hret, hsz⟩ := C
  change Q = _ at E
  subst E
  intro ls H locs hl hP hS
  exact W.zret hxx hb hret hn (fun t ht hW => ⟨⟨rfl, hφ, by rw [ht]; exact hP⟩, by rw [ht]; exact hS.1, fun q h1 h2 => by rw [ht]; exact hS.2.1 q h1 h2⟩) hS.2.2 hdg hlk
theorem zP_vretJ (C : zOk V X cc own nL R0 none) (E : zEnd V X none φ d) (hdg : decode cc pc = .ok (.return_, 1)) (hφ : φ) : zP V X nL 0 0 pc L [] d := by
  obtain ⟨p, l, e, R, s, m, args, below, meth, c, Q⟩ := X
  obtain ⟨hxx, hb, hml, hown, hts, hK, hlk, hR, hret, hsz⟩ := C
  change Q = _ at E
  subst E
  intro ls H locs hl hP hS
  exact W.vret hxx hb hret (fun t ht hW => ⟨⟨rfl, hφ, by rw [ht]; exact hP⟩, by rw [ht]; exact hS.1, fun q h1 h2 => by rw [ht]; exact hS.2.1 q h1 h2⟩) hS.2.2 hdg hlk
theorem zP_getCS (C : zOk V X cc own nL R0 ret) {ix : Nat} (hw : Cond.fieldLink own ix "java/lang/String" "COMPACT_STRINGS" "Z" ∈ zT) (hdg : decode cc pc = .ok (.getstatic ix, 3)) (kk : zP V X nL k n (pc + 3) L (.int (zI 1) :: st) d) : zP V X nL k n pc L st d := by
  obtain ⟨p, l, e, R, s, m, args, below, meth, c, Q⟩ := X
  obtain ⟨hx, hb, hml, hown, hts, hK, hlk, hR, hret, hsz⟩ := C
  intro ls H locs hl hP hS
  exact va_gets hx hb hK.2.2.2.1 hS hown (hts _ hw) (fun _ h => h) hdg (kk ls H locs hl hP hS)
theorem zP_getSF (C : zOk V X cc own nL R0 ret) {ix : Nat} (hw : Cond.fieldLink own ix "jdk/internal/util/Preconditions" "SIOOBE_FORMATTER" "Ljava/util/function/BiFunction;" ∈ zT) (hdg : decode cc pc = .ok (.getstatic ix, 3)) (kk : ∀ w : Value, (w = .null ∨ ∃ t : Nat, w = .ref t) → zP V X nL k n (pc + 3) L (w :: st) d) : zP V X nL k n pc L st d := by
  obtain ⟨p, l, e, R, s, m, args, below, meth, c, Q⟩ := X
  obtain ⟨hx, hb, hml, hown, hts, hK, hlk, hR, hret, hsz⟩ := C
  intro ls H locs hl hP hS
  rcases hK.2.2.2.2.1 with hz | ⟨t, hz⟩
  · exact va_gets hx hb hz hS hown (hts _ hw) (fun _ h => h) hdg (kk _ (Or.inl rfl) ls H locs hl hP hS)
  · exact va_gets hx hb hz hS hown (hts _ hw) (fun _ h => h) hdg (kk _ (Or.inr ⟨t, rfl⟩) ls H locs hl hP hS)
theorem zP_getTV (C : zOk V X cc own nL R0 ret) {ix t : Nat} (ht : zbad t < 1) (hw : Cond.fieldLink own ix "java/lang/String" "value" "[B" ∈ zT) (hdg : decode cc pc = .ok (.getfield ix, 3)) (kk : zP V X nL k n (pc + 3) L (.ref (zsv V t) :: st) d) : zP V X nL k n pc L (.ref (zsa V t) :: st) d := by
  obtain ⟨p, l, e, R, s, m, args, below, meth, c, Q⟩ := X
  obtain ⟨hx, hb, hml, hown, hts, hK, hlk, hR, hret, hsz⟩ := C
  intro ls H locs hl hP hS
  exact vk_getf hx hb (hK.2.1 t ht).2.2.1 hS hown (hts _ hw) (fun _ h => h) hdg (kk ls H locs hl hP hS)
theorem zP_getTC (C : zOk V X cc own nL R0 ret) {ix t : Nat} (ht : zbad t < 1) (hw : Cond.fieldLink own ix "java/lang/String" "coder" "B" ∈ zT) (hdg : decode cc pc = .ok (.getfield ix, 3)) (kk : zP V X nL k n (pc + 3) L (.int (zI 0) :: st) d) : zP V X nL k n pc L (.ref (zsa V t) :: st) d := by
  obtain ⟨p, l, e, R, s, m, args, below, meth, c, Q⟩ := X
  obtain ⟨hx, hb, hml, hown, hts, hK, hlk, hR, hret, hsz⟩ := C
  intro ls H locs hl hP hS
  exact vk_getf hx hb (hK.2.1 t ht).2.1 hS hown (hts _ hw) (fun _ h => h) hdg (kk ls H locs hl hP hS)
theorem zP_tlen (C : zOk V X cc own nL R0 ret) {t : Nat} (ht : zbad t < 1) (hdg : decode cc pc = .ok (.arraylength, 1)) (kk : zP V X nL k n (pc + 1) L (.int (zI (zslen t)) :: st) d) : zP V X nL k n pc L (.ref (zsv V t) :: st) d := by
  obtain ⟨p, l, e, R, s, m, args, below, meth, c, Q⟩ := X
  obtain ⟨hx, hb, hml, hown, hts, hK, hlk, hR, hret, hsz⟩ := C
  intro ls H locs hl hP hS
  exact va_tlen hx hb (hK.2.1 t ht).2.2.2.1 hS (zsl_ok t (zbad_lt ht)).1 hdg (kk ls H locs hl hP hS)
theorem zP_tbald (C : zOk V X cc own nL R0 ret) {t : Nat} {i : Int} (ht : zbad t < 1) (hi : zR i) (hg : 0 ≤ i ∧ i < (zslen t : Int)) (hdg : decode cc pc = .ok (.baload, 1)) (kk : zP V X nL k n (pc + 1) L (.int (zI (zsch t i.toNat)) :: st) d) : zP V X nL k n pc L (.int (zI i) :: .ref (zsv V t) :: st) d := by
  obtain ⟨p, l, e, R, s, m, args, below, meth, c, Q⟩ := X
  obtain ⟨hx, hb, hml, hown, hts, hK, hlk, hR, hret, hsz⟩ := C
  intro ls H locs hl hP hS
  exact va_tb hx hb (hK.2.1 t ht).2.2.2.1 hS (zI_in hi hg) (v := .int (zI (zsch t i.toNat))) (by rw [zI_cl hi]) hdg (kk ls H locs hl hP hS)
theorem zP_aloadV (C : zOk V X cc own nL R0 ret) {i : Nat} {j : Fin 4} {x : Nat} (hdg : decode cc pc = .ok (.aload_n j, 1)) (hi : (j : Nat) = i) (hv : L[i]? = some (some (.ref x))) (kk : zP V X nL k n (pc + 1) L (.ref x :: st) d) : zP V X nL k n pc L (st) d := zP_aload_n C hdg hi hv kk
theorem zP_i2c (C : zOk V X cc own nL R0 ret) {x : Int32} {v : Int32} (hdg : decode cc pc = .ok (.i2c, 1)) (hv : (x.toUInt32 % 65536).toInt32 = v) (kk : zP V X nL k n (pc + 1) L (.int v :: st) d) : zP V X nL k n pc L (.int x :: st) d := by
  obtain ⟨p, l, e, R, s, m, args, below, meth, c, Q⟩ := X
  obtain ⟨hx, hb, hml, hown, hts, hK, hlk, hR, hret, hsz⟩ := C
  intro ls H locs hl hP hS
  exact lv_i2c hx hb hdg hv (kk ls H locs hl hP hS)
theorem zP_callT (C : zOk V X cc own nL R0 ret) {ix np dp nn t : Nat} {y : MethodName} {b : ByteArray} {rt : Option FieldType} {As : List Value} {ov : Option Value} {φ : Prop} {d1 : zD} (ht : zbad t < 1) (hw : zMV own ix RJ0 y b nn rt np) (hdg : decode cc pc = .ok (.invokevirtual ix, 3)) (hM : zMet V dp y b nn rt (.ref (zsa V t) :: As) d ov φ d1) (hfit : zfit dp nn R0) (hlen : As.length = np) (hc : (st.map fun v => v.category).sum ≤ 8) (hkn : k ≤ R0.cells ∧ n ≤ R0.slots) (kk : φ → zP V X nL k n (pc + 3) L (ov.toList ++ st) d1) : zP V X nL k n pc L (As.reverse ++ .ref (zsa V t) :: st) d := by
  obtain ⟨p, l, e, R, s, m, args, below, meth, c, Q⟩ := X
  obtain ⟨hx, hb, hml, hown, hts, hK, hlk, hR, hret, hsz⟩ := C
  intro ls H locs hl hP hS
  obtain ⟨w1, w2, w3, w4, w5, w6, w7, w8⟩ := hw
  subst hR
  have cb : CallB R s args own ix y b nn rt (zwsU y b nn rt) (zrm dp) 0 0 np := callB_of np hts (zgood w5) rfl rfl rfl (by rw [w6]; exact hts _ w4) (hts _ w1) ⟨w7.1, w7.2, w8⟩ hfit
  have hrun := va_runV (p := p) (e := e) (below := below) (meth := meth) (locs := locs) (cells := k) (slots := n) (As := As) (rest := st) (g := F0 m pc ls (As.reverse ++ .ref (zsa V t) :: st)) ⟨hx, hb, hml, hown, hts⟩ (hM l) ⟨cb, hts _ w2, hts _ w3⟩
    ⟨zPre_blind, (by
      obtain ⟨cell, g1, g2, g3, g4⟩ := ((hK.2.1 t ht).1).kept (H1 := H) (fun a h1 h2 => hS.2.1 a h1 h2)
      exact ⟨cell, g1, g2, g3⟩), fun U hU hW => ⟨rfl, by rw [hU]; exact hP, hK.go hS hU hW, fun q hq => hsz q (Nat.le_trans hS.1 (by rw [hU] at hq; exact hq))⟩⟩
    rfl hlen hl.1 rfl (zcat_sum hc) hdg hkn
  intro T' hT X'
  obtain ⟨v, st₀, t', T2, L2, h0, X2, hL, e1, e2, ⟨⟨hv, hφ, hRep⟩, hz, hkp⟩, stp⟩ := hrun T' hT X'
  cases hv
  rw [h0] at hz hkp
  obtain ⟨t2, a1, b1⟩ := kk hφ ls T2.heap (locs ++ L2) hl (by rw [e1]; exact hRep) ⟨Nat.le_trans hS.1 (by rw [e1]; exact hz), fun q h1 h2 => by rw [e1, hkp q (Nat.lt_of_lt_of_le h1 hS.1) h2]; exact hS.2.1 q h1 h2, fun q hq => by
    rcases List.mem_append.mp hq with h | h
    · exact hS.2.2 q h
    · exact hL q h⟩ T2 rfl X2
  exact ⟨t2, stp t2 a1, b1⟩
end TEXTS
theorem t_coder {V : zW} {t : Nat} (ht : zbad t < 1) {d : zD} : zMet V 0 yJ0_coder_7d493 cJ0_coder_7d493 1 (some .byte) [.ref (zsa V t)] d (some (.int (zI 0))) True d := by
  refine zMet_by RJ0 pnJ0 rfl (Nat.le_of_ble_eq_true rfl) [some (.ref (zsa V t))] rfl fun X C E => ?_
  refine zP_getCS (pc := 0) C (q462) dJ0_coder_7d493_0 ?_
  refine zP_if_eq (pc := 3) (tgt := 13) C dJ0_coder_7d493_3 rfl (x := 1) (zRk rfl) (A := (none : Option Nat)) (B := some 0) (r := 0) rfl (fun h _ => absurd h (by decide)) (fun _ _ => ?_)
  refine zP_aload_n (pc := 6) C (x := zsa V t) dJ0_coder_7d493_6 rfl rfl ?_
  refine zP_getTC (pc := 7) C ht (q1225) dJ0_coder_7d493_7 ?_
  refine zP_goto (pc := 10) (tgt := 14) C dJ0_coder_7d493_10 rfl ?_
  exact zP_nret (pc := 14) C E dJ0_coder_7d493_14 (by decide +kernel) trivial
theorem t_isLatin1 {V : zW} {t : Nat} (ht : zbad t < 1) {d : zD} : zMet V 0 yJ0_isLatin1_aae02 cJ0_isLatin1_aae02 1 (some .boolean) [.ref (zsa V t)] d (some (.int (zI 1))) True d := by
  refine zMet_by RJ0 pnJ0 rfl (Nat.le_of_ble_eq_true rfl) [some (.ref (zsa V t))] rfl fun X C E => ?_
  refine zP_getCS (pc := 0) C (q462) dJ0_isLatin1_aae02_0 ?_
  refine zP_if_eq (pc := 3) (tgt := 17) C dJ0_isLatin1_aae02_3 rfl (x := 1) (zRk rfl) (A := (none : Option Nat)) (B := some 0) (r := 0) rfl (fun h _ => absurd h (by decide)) (fun _ _ => ?_)
  refine zP_aload_n (pc := 6) C (x := zsa V t) dJ0_isLatin1_aae02_6 rfl rfl ?_
  refine zP_getTC (pc := 7) C ht (q1225) dJ0_isLatin1_aae02_7 ?_
  refine zP_if_ne (pc := 10) (tgt := 17) C dJ0_isLatin1_aae02_10 rfl (x := 0) (zRk rfl) (A := some 0) (B := (none : Option Nat)) (r := 0) rfl (fun h _ => absurd rfl h) (fun _ _ => ?_)
  refine zP_iconst (pc := 13) C dJ0_isLatin1_aae02_13 ?_
  refine zP_goto (pc := 14) (tgt := 18) C dJ0_isLatin1_aae02_14 rfl ?_
  exact zP_nret (pc := 18) C E dJ0_isLatin1_aae02_18 (by decide +kernel) trivial
theorem t_length {V : zW} {t : Nat} (ht : zbad t < 1) {d : zD} : zMet V 1 yJ0_length_8abf5 cJ0_length_8abf5 1 (some .int) [.ref (zsa V t)] d (some (.int (zI (zslen t)))) True d := by
  refine zMet_by RJ0 pnJ0 rfl (Nat.le_of_ble_eq_true rfl) [some (.ref (zsa V t))] rfl fun X C E => ?_
  refine zP_aload_n (pc := 0) C (x := zsa V t) dJ0_length_8abf5_0 rfl rfl ?_
  refine zP_getTV (pc := 1) C ht (q1224) dJ0_length_8abf5_1 ?_
  refine zP_tlen (pc := 4) C ht dJ0_length_8abf5_4 ?_
  refine zP_aload_n (pc := 5) C (x := zsa V t) dJ0_length_8abf5_5 rfl rfl ?_
  refine zP_callT (pc := 6) (As := []) (st := [.int (zI (zslen t))]) C ht jm335 dJ0_length_8abf5_6 (t_coder ht) ⟨Nat.le_of_ble_eq_true rfl, Nat.le_of_ble_eq_true rfl⟩ rfl (Nat.le_of_ble_eq_true rfl) ⟨Nat.zero_le _, Nat.zero_le _⟩ fun _ => ?_
  refine zP_ishr (pc := 9) C (x := zslen t) (y := 0) (K := fun v => some v) dJ0_length_8abf5_9 rfl fun v hv h => ?_
  have hl := zsl_ok t (zbad_lt ht)
  have e : zI (zshr (zslen t) 0) = zI (zslen t) := by
    show zI (zI (zslen t) >>> (zI 0 &&& 31)).toInt = _
    rw [zI_of, show (zI 0 &&& 31 : Int32) = 0 by decide +kernel]
    exact Int32.shiftRight_zero
  have e2 : zI v = zI (zslen t) := by
    rw [← e]
    exact congrArg zI (Option.some.inj h)
  rw [e2]
  exact zP_nret (pc := 10) C E dJ0_length_8abf5_10 rfl trivial
theorem t_checkIndex3 {V : zW} {i n : Int} (hi : zR i) (hn : zR n) (h : 0 ≤ i ∧ i < n) {w : Value} (hw : w = .null ∨ ∃ t : Nat, w = .ref t) {d : zD} : zMet V 0 yJ3_checkIndex_8e157 cJ3_checkIndex_8e157 3 (some .int) [.int (zI i), .int (zI n), w] d (some (.int (zI i))) True d := by
  have key : ∀ (hle : (lg_sl [.int (zI i), .int (zI n), w]).length ≤ 3) (hL0 : lv_args 0 [.int (zI i), .int (zI n), w] = zLp 0 [some (.int (zI i)), some (.int (zI n)), some w]), zMet V 0 yJ3_checkIndex_8e157 cJ3_checkIndex_8e157 3 (some .int) [.int (zI i), .int (zI n), w] d (some (.int (zI i))) True d := by
    intro hle hL0
    refine zMet_by RJ3 pnJ3 rfl hle [some (.int (zI i)), some (.int (zI n)), some w] hL0 fun X C E => ?_
    refine zP_iload_n (pc := 0) C (x := zI i) dJ3_checkIndex_8e157_0 rfl rfl ?_
    refine zP_if_lt (pc := 1) (tgt := 9) C dJ3_checkIndex_8e157_1 rfl hi (A := some 0) (B := some 0) (r := 0) (by split <;> rfl) (fun q _ => absurd h.1 (by omega)) (fun _ _ => ?_)
    refine zP_iload_n (pc := 4) C (x := zI i) dJ3_checkIndex_8e157_4 rfl rfl ?_
    refine zP_iload_n (pc := 5) C (x := zI n) dJ3_checkIndex_8e157_5 rfl rfl ?_
    refine zP_icmp_lt (pc := 6) (tgt := 16) C dJ3_checkIndex_8e157_6 rfl hi hn (A := some 0) (B := some 0) (r := 0) (by split <;> rfl) (fun _ _ => ?_) (fun q _ => absurd h.2 q)
    refine zP_iload_n (pc := 16) C (x := zI i) dJ3_checkIndex_8e157_16 rfl rfl ?_
    exact zP_nret (pc := 17) C E dJ3_checkIndex_8e157_17 rfl trivial
  rcases hw with rfl | ⟨t, rfl⟩
  · exact key (Nat.le_of_ble_eq_true rfl) rfl
  · exact key (Nat.le_of_ble_eq_true rfl) rfl
theorem t_checkIndex {V : zW} {i n : Int} (hi : zR i) (hn : zR n) (h : 0 ≤ i ∧ i < n) {d : zD} : zMet V 1 yJ0_checkIndex_df160 cJ0_checkIndex_df160 2 none [.int (zI i), .int (zI n)] d none True d := by
  refine zMet_by RJ0 pnJ0 rfl (Nat.le_of_ble_eq_true rfl) [some (.int (zI i)), some (.int (zI n))] rfl fun X C E => ?_
  refine zP_iload_n (pc := 0) C (x := zI i) dJ0_checkIndex_df160_0 rfl rfl ?_
  refine zP_iload_n (pc := 1) C (x := zI n) dJ0_checkIndex_df160_1 rfl rfl ?_
  refine zP_getSF (pc := 2) C (q478) dJ0_checkIndex_df160_2 fun w hw => ?_
  refine zP_callS (pc := 5) (As := [.int (zI i), .int (zI n), w]) (st := []) C jm1059 dJ0_checkIndex_df160_5 (t_checkIndex3 hi hn h hw) ⟨Nat.le_of_ble_eq_true rfl, Nat.le_of_ble_eq_true rfl⟩ rfl (Nat.le_of_ble_eq_true rfl) ⟨Nat.zero_le _, Nat.zero_le _⟩ fun _ => ?_
  refine zP_pop (pc := 8) (v := .int (zI i)) C dJ0_checkIndex_df160_8 rfl ?_
  exact zP_vretJ (pc := 9) C E dJ0_checkIndex_df160_9 trivial
theorem t_charAt1 {V : zW} {t : Nat} (ht : zbad t < 1) {i : Int} (hi : zR i) (h : 0 ≤ i ∧ i < (zslen t : Int)) {d : zD} : zMet V 2 yJ1_charAt_3b067 cJ1_charAt_3b067 2 (some .char) [.ref (zsv V t), .int (zI i)] d (some (.int (zI (zsch t i.toNat)))) True d := by
  refine zMet_by RJ1 pnJ1 rfl (Nat.le_of_ble_eq_true rfl) [some (.ref (zsv V t)), some (.int (zI i))] rfl fun X C E => ?_
  have hl := zsl_ok t (zbad_lt ht)
  obtain ⟨c1, c2, c3, c4⟩ := zsc_ok (zbad_lt ht) (show i.toNat < zslen t by omega)
  refine zP_iload_n (pc := 0) C (x := zI i) dJ1_charAt_3b067_0 rfl rfl ?_
  refine zP_aload_n (pc := 1) C (x := zsv V t) dJ1_charAt_3b067_1 rfl rfl ?_
  refine zP_tlen (pc := 2) C ht dJ1_charAt_3b067_2 ?_
  refine zP_callS (pc := 3) (As := [.int (zI i), .int (zI (zslen t))]) (st := []) C jm9 dJ1_charAt_3b067_3 (t_checkIndex hi ⟨by omega, by omega⟩ h) ⟨Nat.le_of_ble_eq_true rfl, Nat.le_of_ble_eq_true rfl⟩ rfl (Nat.le_of_ble_eq_true rfl) ⟨Nat.zero_le _, Nat.zero_le _⟩ fun _ => ?_
  refine zP_aload_n (pc := 6) C (x := zsv V t) dJ1_charAt_3b067_6 rfl rfl ?_
  refine zP_iload_n (pc := 7) C (x := zI i) dJ1_charAt_3b067_7 rfl rfl ?_
  refine zP_tbald (pc := 8) C ht hi h dJ1_charAt_3b067_8 ?_
  refine zP_sipush (pc := 9) C dJ1_charAt_3b067_9 rfl ?_
  refine zP_iand (pc := 12) C (x := zsch t i.toNat) (y := 255) (K := fun v => some v) dJ1_charAt_3b067_12 rfl fun v hv hq => ?_
  have e2 : v = zsch t i.toNat := by
    rw [← c2]
    exact Option.some.inj hq
  subst e2
  refine zP_i2c (pc := 13) C dJ1_charAt_3b067_13 c3 ?_
  exact zP_nret (pc := 14) C E dJ1_charAt_3b067_14 c4 trivial
theorem t_charAt {V : zW} {t : Nat} (ht : zbad t < 1) {i : Int} (hi : zR i) (h : 0 ≤ i ∧ i < (zslen t : Int)) {d : zD} : zMet V 3 yJ0_charAt_5068e cJ0_charAt_5068e 2 (some .char) [.ref (zsa V t), .int (zI i)] d (some (.int (zI (zsch t i.toNat)))) True d := by
  refine zMet_by RJ0 pnJ0 rfl (Nat.le_of_ble_eq_true rfl) [some (.ref (zsa V t)), some (.int (zI i))] rfl fun X C E => ?_
  have hl := zsl_ok t (zbad_lt ht)
  obtain ⟨c1, c2, c3, c4⟩ := zsc_ok (zbad_lt ht) (show i.toNat < zslen t by omega)
  refine zP_aload_n (pc := 0) C (x := zsa V t) dJ0_charAt_5068e_0 rfl rfl ?_
  refine zP_callT (pc := 1) (As := []) (st := []) C ht jm492 dJ0_charAt_5068e_1 (t_isLatin1 ht) ⟨Nat.le_of_ble_eq_true rfl, Nat.le_of_ble_eq_true rfl⟩ rfl (Nat.le_of_ble_eq_true rfl) ⟨Nat.zero_le _, Nat.zero_le _⟩ fun _ => ?_
  refine zP_if_eq (pc := 4) (tgt := 16) C dJ0_charAt_5068e_4 rfl (x := 1) (zRk rfl) (A := (none : Option Nat)) (B := some 0) (r := 0) rfl (fun h _ => absurd h (by decide)) (fun _ _ => ?_)
  refine zP_aload_n (pc := 7) C (x := zsa V t) dJ0_charAt_5068e_7 rfl rfl ?_
  refine zP_getTV (pc := 8) C ht (q1224) dJ0_charAt_5068e_8 ?_
  refine zP_iload_n (pc := 11) C (x := zI i) dJ0_charAt_5068e_11 rfl rfl ?_
  refine zP_callS (pc := 12) (As := [.ref (zsv V t), .int (zI i)]) (st := []) C jm495 dJ0_charAt_5068e_12 (t_charAt1 ht hi h) ⟨Nat.le_of_ble_eq_true rfl, Nat.le_of_ble_eq_true rfl⟩ rfl (Nat.le_of_ble_eq_true rfl) ⟨Nat.zero_le _, Nat.zero_le _⟩ fun _ => ?_
  exact zP_nret (pc := 15) C E dJ0_charAt_5068e_15 c4 trivial
section TEXTS2
variable {V : zW} {X : zX} {cc : ByteArray} {own : String} {nL k n pc : Nat} {R0 : Room} {ret : Option FieldType} {L L' : List (Option Value)} {st : List Value} {d d' : zD} {β : Type} {r : β}
theorem zP_slen (C : zOk V X cc own nL R0 ret) {ix t : Nat} {K : Int → Option β} (hw : zMV own ix RJ0 yJ0_length_8abf5 cJ0_length_8abf5 1 (some .int) 0) (ht : zbad t < 1) (hdg : decode cc pc = .ok (.invokevirtual ix, 3)) (hfit : zfit 1 1 R0) (hc : (st.map fun v => v.category).sum ≤ 8) (hkn : k ≤ R0.cells ∧ n ≤ R0.slots) (h : zl (zslen t : Int) K = some r) (kk : ∀ v, zR v → K v = some r → zP V X nL k n (pc + 3) L (.int (zI v) :: st) d) : zP V X nL k n pc L (.ref (zsa V t) :: st) d := by
  have hl := zsl_ok t (zbad_lt ht)
  exact zP_callT (As := []) (st := st) C ht hw hdg (t_length ht) hfit rfl hc hkn fun _ => kk _ ⟨by omega, by omega⟩ h
theorem zP_sch (C : zOk V X cc own nL R0 ret) {ix t : Nat} {i : Int} {K : Int → Option β} (hw : zMV own ix RJ0 yJ0_charAt_5068e cJ0_charAt_5068e 2 (some .char) 1) (ht : zbad t < 1) (hdg : decode cc pc = .ok (.invokevirtual ix, 3)) (hi : zR i) (hfit : zfit 3 2 R0) (hc : (st.map fun v => v.category).sum ≤ 8) (hkn : k ≤ R0.cells ∧ n ≤ R0.slots) (h : zg (zslen t) i (zl (zsch t i.toNat) K) = some r) (kk : ∀ v, zR v → K v = some r → zP V X nL k n (pc + 3) L (.int (zI v) :: st) d) : zP V X nL k n pc L (.int (zI i) :: .ref (zsa V t) :: st) d := by
  obtain ⟨hg, h⟩ := zg_h h
  have hl := zsl_ok t (zbad_lt ht)
  exact zP_callT (As := [.int (zI i)]) (st := st) C ht hw hdg (t_charAt ht hi hg) hfit rfl hc hkn fun _ => kk _ (zsc_ok (zbad_lt ht) (by omega)).1 h
/-- a switch by keys -/
theorem zP_lsw (C : zOk V X cc own nL R0 ret) {dflt : Int} {ps : Array (Int × Int)} {len : Nat} {x : Int} {cs : List (Int × Option β)} {df : Option β} (hdg : decode cc pc = .ok (.lookupswitch dflt ps, len)) (hx : zR x) (hp : (ps.toList.zip (ps.toList.drop 1)).all (fun (a, next) => a.1 < next.1) = true) (hm : cs.map (·.1) = ps.toList.map (·.1)) (h : zsw x cs df = some r)
    (kd : df = some r → ∃ tgt : Nat, (pc : Int) + dflt = (tgt : Int) ∧ zP V X nL k n tgt L st d)
    (kc : zswk V X nL k n pc L st d r x cs (ps.toList.map (·.2))) : zP V X nL k n pc L (.int (zI x) :: st) d := by
  have key : ∀ (cs : List (Int × Option β)) (qs : List (Int × Int)), cs.map (·.1) = qs.map (·.1) → zsw x cs df = some r → zswk V X nL k n pc L st d r x cs (qs.map (·.2)) → ∃ (off : Int) (tgt : Nat), Op.lookupswitch.offset qs dflt x = off ∧ (pc : Int) + off = (tgt : Int) ∧ zP V X nL k n tgt L st d := by
    intro cs
    induction cs with
    | nil =>
      intro qs hm h hk
      cases qs with
      | nil =>
        obtain ⟨tgt, h1, h2⟩ := kd h
        exact ⟨dflt, tgt, rfl, h1, h2⟩
      | cons q qs => simp at hm
    | cons c cs ih =>
      intro qs hm h hk
      cases qs with
      | nil => simp at hm
      | cons q qs =>
        obtain ⟨m1, m2⟩ := List.cons.inj hm
        obtain ⟨k1, k2⟩ := hk
        unfold zsw at h
        split at h
        · rename_i hxc
          obtain ⟨tgt, h1, h2⟩ := k1 hxc h
          refine ⟨q.2, tgt, ?_, h1, h2⟩
          have e : q.1 = x := by rw [hxc]; exact m1.symm
          simp [Op.lookupswitch.offset, e]
        · rename_i hxc
          obtain ⟨off, tgt, h0, h1, h2⟩ := ih qs m2 h k2
          refine ⟨off, tgt, ?_, h1, h2⟩
          have e : ¬ q.1 = x := fun e => hxc (by rw [← e]; exact m1.symm)
          rw [← h0]
          simp [Op.lookupswitch.offset, e]
  obtain ⟨off, tgt, h0, h1, h2⟩ := key cs ps.toList hm h kc
  obtain ⟨p, l, e, R, s, m, args, below, meth, c, Q⟩ := X
  obtain ⟨hxx, hb, hml, hown, hts, hK, hlk, hR, hret, hsz⟩ := C
  intro ls H locs hl hP hS
  exact lv_lookup hxx hb hdg hp (by rw [zI_toInt hx]; exact h0) h1 (h2 ls H locs hl hP hS)
end TEXTS2
