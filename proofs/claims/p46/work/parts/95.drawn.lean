/-! The drawn text: its length, its letters. -/
abbrev zdW : Type := Nat × Nat × Nat × (Nat → Int)
def zdX (V : zW) (τ : zdW) : Prop := zdr V = some τ ∧ τ.2.2.1 ≤ 600 ∧ ∀ j, j < τ.2.2.1 → 0 ≤ τ.2.2.2 j ∧ τ.2.2.2 j < 128
theorem zdX_l {V : zW} {τ : zdW} (h : zdX V τ) : Int32.ofNat τ.2.2.1 = zI τ.2.2.1 ∧ 0 ≤ τ.2.2.1 ∧ τ.2.2.1 ≤ 600 := ⟨rfl, Nat.zero_le _, h.2.1⟩
theorem zdX_c {V : zW} {τ : zdW} (h : zdX V τ) {j : Nat} (hj : j < τ.2.2.1) : zR (τ.2.2.2 j) ∧ zand (τ.2.2.2 j) 255 = τ.2.2.2 j ∧ ((zI (τ.2.2.2 j)).toUInt32 % 65536).toInt32 = zI (τ.2.2.2 j) ∧ narrow .char (.int (zI (τ.2.2.2 j))) = .int (zI (τ.2.2.2 j)) := by
  obtain ⟨h1, h2⟩ := h.2.2 j hj
  obtain ⟨n, hn⟩ := Int.eq_ofNat_of_zero_le h1
  rw [hn] at h2 ⊢
  exact ⟨⟨by omega, by omega⟩, zsc_ok1 n (by omega)⟩
section DRAWN
variable {V : zW} {X : zX} {cc : ByteArray} {own : String} {nL k n pc : Nat} {R0 : Room} {ret : Option FieldType} {L L' : List (Option Value)} {st : List Value} {d d' : zD} {φ : Prop} {β : Type} {r : β}
theorem zP_getUV (C : zOk V X cc own nL R0 ret) {ix : Nat} {τ : zdW} (ht : zdX V τ) (hw : Cond.fieldLink own ix "java/lang/String" "value" "[B" ∈ zT) (hdg : decode cc pc = .ok (.getfield ix, 3)) (kk : zP V X nL k n (pc + 3) L (.ref (τ.2.1) :: st) d) : zP V X nL k n pc L (.ref (τ.1) :: st) d := by
  obtain ⟨p, l, e, R, s, m, args, below, meth, c, Q⟩ := X
  obtain ⟨hx, hb, hml, hown, hts, hK, hlk, hR, hret, hsz⟩ := C
  intro ls H locs hl hP hS
  exact vk_getf hx hb (hK.2.2.2.2.2.2.2.2 τ ht.1).2.2.1 hS hown (hts _ hw) (fun _ h => h) hdg (kk ls H locs hl hP hS)
theorem zP_getUC (C : zOk V X cc own nL R0 ret) {ix : Nat} {τ : zdW} (ht : zdX V τ) (hw : Cond.fieldLink own ix "java/lang/String" "coder" "B" ∈ zT) (hdg : decode cc pc = .ok (.getfield ix, 3)) (kk : zP V X nL k n (pc + 3) L (.int (zI 0) :: st) d) : zP V X nL k n pc L (.ref (τ.1) :: st) d := by
  obtain ⟨p, l, e, R, s, m, args, below, meth, c, Q⟩ := X
  obtain ⟨hx, hb, hml, hown, hts, hK, hlk, hR, hret, hsz⟩ := C
  intro ls H locs hl hP hS
  exact vk_getf hx hb (hK.2.2.2.2.2.2.2.2 τ ht.1).2.1 hS hown (hts _ hw) (fun _ h => h) hdg (kk ls H locs hl hP hS)
theorem zP_ulen (C : zOk V X cc own nL R0 ret) {τ : zdW} (ht : zdX V τ) (hdg : decode cc pc = .ok (.arraylength, 1)) (kk : zP V X nL k n (pc + 1) L (.int (zI (τ.2.2.1)) :: st) d) : zP V X nL k n pc L (.ref (τ.2.1) :: st) d := by
  obtain ⟨p, l, e, R, s, m, args, below, meth, c, Q⟩ := X
  obtain ⟨hx, hb, hml, hown, hts, hK, hlk, hR, hret, hsz⟩ := C
  intro ls H locs hl hP hS
  exact va_tlen hx hb (hK.2.2.2.2.2.2.2.2 τ ht.1).2.2.2 hS (zdX_l ht).1 hdg (kk ls H locs hl hP hS)
theorem zP_ubald (C : zOk V X cc own nL R0 ret) {τ : zdW} {i : Int} (ht : zdX V τ) (hi : zR i) (hg : 0 ≤ i ∧ i < (τ.2.2.1 : Int)) (hdg : decode cc pc = .ok (.baload, 1)) (kk : zP V X nL k n (pc + 1) L (.int (zI (τ.2.2.2 i.toNat)) :: st) d) : zP V X nL k n pc L (.int (zI i) :: .ref (τ.2.1) :: st) d := by
  obtain ⟨p, l, e, R, s, m, args, below, meth, c, Q⟩ := X
  obtain ⟨hx, hb, hml, hown, hts, hK, hlk, hR, hret, hsz⟩ := C
  intro ls H locs hl hP hS
  exact va_tb hx hb (hK.2.2.2.2.2.2.2.2 τ ht.1).2.2.2 hS (zI_in hi hg) (v := .int (zI (τ.2.2.2 i.toNat))) (by rw [zI_cl hi]) hdg (kk ls H locs hl hP hS)
theorem zP_callU (C : zOk V X cc own nL R0 ret) {ix np dp nn : Nat} {τ : zdW} {y : MethodName} {b : ByteArray} {rt : Option FieldType} {As : List Value} {ov : Option Value} {φ : Prop} {d1 : zD} (ht : zdX V τ) (hw : zMV own ix RJ0 y b nn rt np) (hdg : decode cc pc = .ok (.invokevirtual ix, 3)) (hM : zMet V dp y b nn rt (.ref (τ.1) :: As) d ov φ d1) (hfit : zfit dp nn R0) (hlen : As.length = np) (hc : (st.map fun v => v.category).sum ≤ 8) (hkn : k ≤ R0.cells ∧ n ≤ R0.slots) (kk : φ → zP V X nL k n (pc + 3) L (ov.toList ++ st) d1) : zP V X nL k n pc L (As.reverse ++ .ref (τ.1) :: st) d := by
  obtain ⟨p, l, e, R, s, m, args, below, meth, c, Q⟩ := X
  obtain ⟨hx, hb, hml, hown, hts, hK, hlk, hR, hret, hsz⟩ := C
  intro ls H locs hl hP hS
  obtain ⟨w1, w2, w3, w4, w5, w6, w7, w8⟩ := hw
  subst hR
  have cb : CallB R s args own ix y b nn rt (zwsU y b nn rt) (zrm dp) 0 0 np := callB_of np hts (zgood w5) rfl rfl rfl (by rw [w6]; exact hts _ w4) (hts _ w1) ⟨w7.1, w7.2, w8⟩ hfit
  have hrun := va_runV (p := p) (e := e) (below := below) (meth := meth) (locs := locs) (cells := k) (slots := n) (As := As) (rest := st) (g := F0 m pc ls (As.reverse ++ .ref (τ.1) :: st)) ⟨hx, hb, hml, hown, hts⟩ (hM l) ⟨cb, hts _ w2, hts _ w3⟩
    ⟨zPre_blind, (by
      obtain ⟨cell, g1, g2, g3, g4⟩ := ((hK.2.2.2.2.2.2.2.2 τ ht.1).1).kept (H1 := H) (fun a h1 h2 => hS.2.1 a h1 h2)
      exact ⟨cell, g1, g2, g3⟩), fun U hU hW => ⟨rfl, by rw [hU]; exact hP, hK.go hS hU hW, fun q hq => hsz q (Nat.le_trans hS.1 (by rw [hU] at hq; exact hq))⟩⟩
    rfl hlen hl.1 rfl (zcat_sum hc) hdg hkn
  intro T' hT X'
  obtain ⟨v, st₀, t', T2, L2, h0, X2, hL, e1, e2, ⟨⟨hv, hφ, hRep⟩, hz, hkp⟩, stp⟩ := hrun T' hT X'
  cases hv
  rw [h0] at hz hkp
  obtain ⟨t2, a1, b1⟩ := kk hφ ls T2.heap (locs ++ L2) hl (by rw [e1]; exact hRep) ⟨Nat.le_trans hS.1 (by rw [e1]; exact hz), fun q h1 h2 => by rw [e1, hkp q (Nat.lt_of_lt_of_le h1 hS.1) h2]; exact hS.2.1 q h1 h2, fun q hq => by
    rcases List.mem_append.mp hq with h | h
    · exact hS.2.2 q h
    · exact hL q h⟩ T2 rfl X2
  exact ⟨t2, stp t2 a1, b1⟩
end DRAWN
theorem u_coder {V : zW} {τ : zdW} (ht : zdX V τ) {d : zD} : zMet V 0 yJ0_coder_7d493 cJ0_coder_7d493 1 (some .byte) [.ref (τ.1)] d (some (.int (zI 0))) True d := by
  refine zMet_by RJ0 pnJ0 rfl (Nat.le_of_ble_eq_true rfl) [some (.ref (τ.1))] rfl fun X C E => ?_
  refine zP_getCS (pc := 0) C (q462) dJ0_coder_7d493_0 ?_
  refine zP_if_eq (pc := 3) (tgt := 13) C dJ0_coder_7d493_3 rfl (x := 1) (zRk rfl) (A := (none : Option Nat)) (B := some 0) (r := 0) rfl (fun h _ => absurd h (by decide)) (fun _ _ => ?_)
  refine zP_aload_n (pc := 6) C (x := τ.1) dJ0_coder_7d493_6 rfl rfl ?_
  refine zP_getUC (pc := 7) C ht (q1225) dJ0_coder_7d493_7 ?_
  refine zP_goto (pc := 10) (tgt := 14) C dJ0_coder_7d493_10 rfl ?_
  exact zP_nret (pc := 14) C E dJ0_coder_7d493_14 (by decide +kernel) trivial
theorem u_isLatin1 {V : zW} {τ : zdW} (ht : zdX V τ) {d : zD} : zMet V 0 yJ0_isLatin1_aae02 cJ0_isLatin1_aae02 1 (some .boolean) [.ref (τ.1)] d (some (.int (zI 1))) True d := by
  refine zMet_by RJ0 pnJ0 rfl (Nat.le_of_ble_eq_true rfl) [some (.ref (τ.1))] rfl fun X C E => ?_
  refine zP_getCS (pc := 0) C (q462) dJ0_isLatin1_aae02_0 ?_
  refine zP_if_eq (pc := 3) (tgt := 17) C dJ0_isLatin1_aae02_3 rfl (x := 1) (zRk rfl) (A := (none : Option Nat)) (B := some 0) (r := 0) rfl (fun h _ => absurd h (by decide)) (fun _ _ => ?_)
  refine zP_aload_n (pc := 6) C (x := τ.1) dJ0_isLatin1_aae02_6 rfl rfl ?_
  refine zP_getUC (pc := 7) C ht (q1225) dJ0_isLatin1_aae02_7 ?_
  refine zP_if_ne (pc := 10) (tgt := 17) C dJ0_isLatin1_aae02_10 rfl (x := 0) (zRk rfl) (A := some 0) (B := (none : Option Nat)) (r := 0) rfl (fun h _ => absurd rfl h) (fun _ _ => ?_)
  refine zP_iconst (pc := 13) C dJ0_isLatin1_aae02_13 ?_
  refine zP_goto (pc := 14) (tgt := 18) C dJ0_isLatin1_aae02_14 rfl ?_
  exact zP_nret (pc := 18) C E dJ0_isLatin1_aae02_18 (by decide +kernel) trivial
theorem u_length {V : zW} {τ : zdW} (ht : zdX V τ) {d : zD} : zMet V 1 yJ0_length_8abf5 cJ0_length_8abf5 1 (some .int) [.ref (τ.1)] d (some (.int (zI (τ.2.2.1)))) True d := by
  refine zMet_by RJ0 pnJ0 rfl (Nat.le_of_ble_eq_true rfl) [some (.ref (τ.1))] rfl fun X C E => ?_
  refine zP_aload_n (pc := 0) C (x := τ.1) dJ0_length_8abf5_0 rfl rfl ?_
  refine zP_getUV (pc := 1) C ht (q1224) dJ0_length_8abf5_1 ?_
  refine zP_ulen (pc := 4) C ht dJ0_length_8abf5_4 ?_
  refine zP_aload_n (pc := 5) C (x := τ.1) dJ0_length_8abf5_5 rfl rfl ?_
  refine zP_callU (pc := 6) (As := []) (st := [.int (zI (τ.2.2.1))]) C ht jm335 dJ0_length_8abf5_6 (u_coder ht) ⟨Nat.le_of_ble_eq_true rfl, Nat.le_of_ble_eq_true rfl⟩ rfl (Nat.le_of_ble_eq_true rfl) ⟨Nat.zero_le _, Nat.zero_le _⟩ fun _ => ?_
  refine zP_ishr (pc := 9) C (x := τ.2.2.1) (y := 0) (K := fun v => some v) dJ0_length_8abf5_9 rfl fun v hv h => ?_
  have hl := zdX_l ht
  have e : zI (zshr (τ.2.2.1) 0) = zI (τ.2.2.1) := by
    show zI (zI (τ.2.2.1) >>> (zI 0 &&& 31)).toInt = _
    rw [zI_of, show (zI 0 &&& 31 : Int32) = 0 by decide +kernel]
    exact Int32.shiftRight_zero
  have e2 : zI v = zI (τ.2.2.1) := by
    rw [← e]
    exact congrArg zI (Option.some.inj h)
  rw [e2]
  exact zP_nret (pc := 10) C E dJ0_length_8abf5_10 rfl trivial
theorem u_charAt1 {V : zW} {τ : zdW} (ht : zdX V τ) {i : Int} (hi : zR i) (h : 0 ≤ i ∧ i < (τ.2.2.1 : Int)) {d : zD} : zMet V 2 yJ1_charAt_3b067 cJ1_charAt_3b067 2 (some .char) [.ref (τ.2.1), .int (zI i)] d (some (.int (zI (τ.2.2.2 i.toNat)))) True d := by
  refine zMet_by RJ1 pnJ1 rfl (Nat.le_of_ble_eq_true rfl) [some (.ref (τ.2.1)), some (.int (zI i))] rfl fun X C E => ?_
  have hl := zdX_l ht
  obtain ⟨c1, c2, c3, c4⟩ := zdX_c ht (show i.toNat < τ.2.2.1 by omega)
  refine zP_iload_n (pc := 0) C (x := zI i) dJ1_charAt_3b067_0 rfl rfl ?_
  refine zP_aload_n (pc := 1) C (x := τ.2.1) dJ1_charAt_3b067_1 rfl rfl ?_
  refine zP_ulen (pc := 2) C ht dJ1_charAt_3b067_2 ?_
  refine zP_callS (pc := 3) (As := [.int (zI i), .int (zI (τ.2.2.1))]) (st := []) C jm9 dJ1_charAt_3b067_3 (t_checkIndex hi ⟨by omega, by omega⟩ h) ⟨Nat.le_of_ble_eq_true rfl, Nat.le_of_ble_eq_true rfl⟩ rfl (Nat.le_of_ble_eq_true rfl) ⟨Nat.zero_le _, Nat.zero_le _⟩ fun _ => ?_
  refine zP_aload_n (pc := 6) C (x := τ.2.1) dJ1_charAt_3b067_6 rfl rfl ?_
  refine zP_iload_n (pc := 7) C (x := zI i) dJ1_charAt_3b067_7 rfl rfl ?_
  refine zP_ubald (pc := 8) C ht hi h dJ1_charAt_3b067_8 ?_
  refine zP_sipush (pc := 9) C dJ1_charAt_3b067_9 rfl ?_
  refine zP_iand (pc := 12) C (x := τ.2.2.2 i.toNat) (y := 255) (K := fun v => some v) dJ1_charAt_3b067_12 rfl fun v hv hq => ?_
  have e2 : v = τ.2.2.2 i.toNat := by
    rw [← c2]
    exact Option.some.inj hq
  subst e2
  refine zP_i2c (pc := 13) C dJ1_charAt_3b067_13 c3 ?_
  exact zP_nret (pc := 14) C E dJ1_charAt_3b067_14 c4 trivial
theorem u_charAt {V : zW} {τ : zdW} (ht : zdX V τ) {i : Int} (hi : zR i) (h : 0 ≤ i ∧ i < (τ.2.2.1 : Int)) {d : zD} : zMet V 3 yJ0_charAt_5068e cJ0_charAt_5068e 2 (some .char) [.ref (τ.1), .int (zI i)] d (some (.int (zI (τ.2.2.2 i.toNat)))) True d := by
  refine zMet_by RJ0 pnJ0 rfl (Nat.le_of_ble_eq_true rfl) [some (.ref (τ.1)), some (.int (zI i))] rfl fun X C E => ?_
  have hl := zdX_l ht
  obtain ⟨c1, c2, c3, c4⟩ := zdX_c ht (show i.toNat < τ.2.2.1 by omega)
  refine zP_aload_n (pc := 0) C (x := τ.1) dJ0_charAt_5068e_0 rfl rfl ?_
  refine zP_callU (pc := 1) (As := []) (st := []) C ht jm492 dJ0_charAt_5068e_1 (u_isLatin1 ht) ⟨Nat.le_of_ble_eq_true rfl, Nat.le_of_ble_eq_true rfl⟩ rfl (Nat.le_of_ble_eq_true rfl) ⟨Nat.zero_le _, Nat.zero_le _⟩ fun _ => ?_
  refine zP_if_eq (pc := 4) (tgt := 16) C dJ0_charAt_5068e_4 rfl (x := 1) (zRk rfl) (A := (none : Option Nat)) (B := some 0) (r := 0) rfl (fun h _ => absurd h (by decide)) (fun _ _ => ?_)
  refine zP_aload_n (pc := 7) C (x := τ.1) dJ0_charAt_5068e_7 rfl rfl ?_
  refine zP_getUV (pc := 8) C ht (q1224) dJ0_charAt_5068e_8 ?_
  refine zP_iload_n (pc := 11) C (x := zI i) dJ0_charAt_5068e_11 rfl rfl ?_
  refine zP_callS (pc := 12) (As := [.ref (τ.2.1), .int (zI i)]) (st := []) C jm495 dJ0_charAt_5068e_12 (u_charAt1 ht hi h) ⟨Nat.le_of_ble_eq_true rfl, Nat.le_of_ble_eq_true rfl⟩ rfl (Nat.le_of_ble_eq_true rfl) ⟨Nat.zero_le _, Nat.zero_le _⟩ fun _ => ?_
  exact zP_nret (pc := 15) C E dJ0_charAt_5068e_15 c4 trivial
section DRAWN2
variable {V : zW} {X : zX} {cc : ByteArray} {own : String} {nL k n pc : Nat} {R0 : Room} {ret : Option FieldType} {L L' : List (Option Value)} {st : List Value} {d d' : zD} {φ : Prop} {β : Type} {r : β}
theorem zP_udlen (C : zOk V X cc own nL R0 ret) {ix : Nat} {τ : zdW} {K : Int → Option β} (hw : zMV own ix RJ0 yJ0_length_8abf5 cJ0_length_8abf5 1 (some .int) 0) (ht : zdX V τ) (hdg : decode cc pc = .ok (.invokevirtual ix, 3)) (hfit : zfit 1 1 R0) (hc : (st.map fun v => v.category).sum ≤ 8) (hkn : k ≤ R0.cells ∧ n ≤ R0.slots) (h : zl (τ.2.2.1 : Int) K = some r) (kk : ∀ v, zR v → K v = some r → zP V X nL k n (pc + 3) L (.int (zI v) :: st) d) : zP V X nL k n pc L (.ref (τ.1) :: st) d := by
  have hl := zdX_l ht
  exact zP_callU (As := []) (st := st) C ht hw hdg (u_length ht) hfit rfl hc hkn fun _ => kk _ ⟨by omega, by omega⟩ h
theorem zP_udch (C : zOk V X cc own nL R0 ret) {ix : Nat} {τ : zdW} {i : Int} {K : Int → Option β} (hw : zMV own ix RJ0 yJ0_charAt_5068e cJ0_charAt_5068e 2 (some .char) 1) (ht : zdX V τ) (hdg : decode cc pc = .ok (.invokevirtual ix, 3)) (hi : zR i) (hfit : zfit 3 2 R0) (hc : (st.map fun v => v.category).sum ≤ 8) (hkn : k ≤ R0.cells ∧ n ≤ R0.slots) (h : zg (τ.2.2.1) i (zl (τ.2.2.2 i.toNat) K) = some r) (kk : ∀ v, zR v → K v = some r → zP V X nL k n (pc + 3) L (.int (zI v) :: st) d) : zP V X nL k n pc L (.int (zI i) :: .ref (τ.1) :: st) d := by
  obtain ⟨hg, h⟩ := zg_h h
  have hl := zdX_l ht
  exact zP_callU (As := [.int (zI i)]) (st := st) C ht hw hdg (u_charAt ht hi hg) hfit rfl hc hkn fun _ => kk _ (zdX_c ht (by omega)).1 h
end DRAWN2
