/-! The builder: room for more. -/
theorem pnJ4 : plainName RJ4 = true := by decide +kernel
theorem pnJ5 : plainName RJ5 = true := by decide +kernel
theorem pnJ6 : plainName RJ6 = true := by decide +kernel
theorem pnJ7 : plainName RJ7 = true := by decide +kernel
theorem pnJ8 : plainName RJ8 = true := by decide +kernel
theorem b104 : zMV1 RJ5 104 yJ5_newCapacity_0f7a4 cJ5_newCapacity_0f7a4 6 (some .int) 1 := ⟨q1046, q1048, q39, q1049, ⟨by decide +kernel, by decide +kernel⟩, by decide +kernel⟩
theorem b100 : zMV1 RJ5 100 yJ5_ensureCapacityInternal_d00df cJ5_ensureCapacityInternal_d00df 3 none 1 := ⟨q1042, q1044, q39, q1045, ⟨by decide +kernel, by decide +kernel⟩, by decide +kernel⟩
theorem b208 : zMV1 RJ5 208 yJ5_putStringAt_47b60 cJ5_putStringAt_47b60 3 none 2 := ⟨q1096, q1098, q39, q1099, ⟨by decide +kernel, by decide +kernel⟩, by decide +kernel⟩
theorem b397 : zMV1 RJ5 397 yJ5_inflateIfNeededFor_a7421 cJ5_inflateIfNeededFor_a7421 2 none 1 := ⟨q1100, q1102, q39, q1103, ⟨by decide +kernel, by decide +kernel⟩, by decide +kernel⟩
theorem b83 : zMV1 RJ5 83 yJ5_isLatin1_aae02 cJ5_isLatin1_aae02 1 (some .boolean) 0 := ⟨q1075, q1076, q39, q1079, ⟨by decide +kernel, by decide +kernel⟩, by decide +kernel⟩
theorem b114 : zMS RJ5 114 yJ8_newLength_cabcc cJ8_newLength_cabcc 4 (some .int) 3 := ⟨q1050, q1051, q41, q1052, ⟨by decide +kernel, by decide +kernel⟩, by decide +kernel⟩
theorem b108 : zMS RJ5 108 yJ7_copyOf_9075b cJ7_copyOf_9075b 3 (some (.array .byte)) 2 := ⟨q1061, q1062, q43, q1063, ⟨by decide +kernel, by decide +kernel⟩, by decide +kernel⟩
theorem zP_newBq {V : zW} {X : zX} {cc : ByteArray} {own : String} {nL k n pc : Nat} {R0 : Room} {ret : Option FieldType} {L : List (Option Value)} {st : List Value} {d : zD} (C : zOk V X cc own nL R0 ret) {N b : Nat} {z : Int} (hdg : decode cc pc = .ok (.newarray .byte, 2)) (wf : zWf V) (hu : zsh V b = none) (hz : zR z) (h0 : 0 ≤ z) (hN : z.toNat = N) (hbytes : N * 1 ≤ 536870912) (hroom : k + 1 ≤ R0.cells ∧ n + N ≤ R0.slots)
    (kk : ∀ V1 q1, zEy V V1 (fun c => c = b) → zWf V1 → zAt V1 b q1 (2, N, zk0) → zP V1 X nL (k + 1) (n + N) (pc + 2) L (.ref q1 :: st) (zclr d b)) : zP V X nL k n pc L (.int (zI z) :: st) d :=
  zP.clr hu (zP_newB C hdg wf hu (fun j => if_pos rfl) hz h0 hN hbytes hroom fun V1 e w s => kk V1 _ e.y w ⟨s, rfl⟩)
def zfB (a : Nat) : Nat → Nat := fun k => if k = 0 then a + 2 else 0
theorem zfB_fu {a b : Nat} : zfu (zfB a) 0 (b + 2) = zfB b := by
  funext k
  unfold zfu zfB
  by_cases h : k = 0 <;> simp [h]
/-- what was there before the builder stays -/
def zKq (V : zW) (d : zD) (V1 : zW) (d1 : zD) : Prop := ∀ c, c < 440 → zsh V1 c = zsh V c ∧ ((zsh V c).isSome = true → zad V1 c = zad V c) ∧ d1 c = d c
theorem zKq.rf {V : zW} {d : zD} : zKq V d V d := fun c _ => ⟨rfl, fun _ => rfl, rfl⟩
theorem zKq.tr {V V1 V2 : zW} {d d1 d2 : zD} (h : zKq V d V1 d1) (g : zKq V1 d1 V2 d2) : zKq V d V2 d2 := fun c hc => ⟨(g c hc).1.trans (h c hc).1, fun hs => ((g c hc).2.1 (by rw [(h c hc).1]; exact hs)).trans ((h c hc).2.1 hs), (g c hc).2.2.trans (h c hc).2.2⟩
theorem zKq.of {V V1 : zW} {d d1 : zD} {S : Nat → Prop} (h : zEy V V1 S) (hS : ∀ c, c < 440 → ¬ S c) (hd : ∀ c, c < 440 → d1 c = d c) : zKq V d V1 d1 := fun c hc => ⟨h.2.2.1 c (hS c hc), fun hs => h.2.1 c hs, hd c hc⟩
/-- the builder at qb, her bytes at qa (the cell a, of room cap), what she holds -/
def zBd (V : zW) (d : zD) (qb qa a cap : Nat) (bs : List Int) : Prop :=
  zAt V 440 qb (0, 12, zfB a) ∧ zAt V a qa (2, cap, zk0) ∧ 440 < a ∧ (∀ c, a < c → zsh V c = none) ∧ zWf V ∧ d 440 1 = 0 ∧ d 440 3 = ((bs.length : Nat) : Int) ∧ bs.length ≤ cap ∧ (∀ j, j < bs.length → d a j = bs.getD j 0) ∧ ∀ j, j < cap → 0 ≤ d a j ∧ d a j < 128
theorem w_max : Cond.methodLink RJ8 194 Lib.Math.max.name ∈ zT ∧ Cond.static Lib.Math.max.name ∈ zT ∧ Cond.initialized "java/lang/Math" ∈ zT ∧ Cond.code Lib.Math.max.name Lib.Math.max.code 2 (some .int) ∈ zT := ⟨zin 1053 (by decide +kernel) (by decide +kernel), zin 1054 (by decide +kernel) (by decide +kernel), zin 42 (by decide +kernel) (by decide +kernel), zin 1055 (by decide +kernel) (by decide +kernel)⟩
theorem w_min : Cond.methodLink RJ7 304 Lib.Math.min.name ∈ zT ∧ Cond.static Lib.Math.min.name ∈ zT ∧ Cond.initialized "java/lang/Math" ∈ zT ∧ Cond.code Lib.Math.min.name Lib.Math.min.code 2 (some .int) ∈ zT := ⟨zin 1071 (by decide +kernel) (by decide +kernel), zin 1072 (by decide +kernel) (by decide +kernel), zin 42 (by decide +kernel) (by decide +kernel), zin 1073 (by decide +kernel) (by decide +kernel)⟩
section MM
variable {V : zW} {X : zX} {cc : ByteArray} {own : String} {nL k n pc : Nat} {R0 : Room} {ret : Option FieldType} {L : List (Option Value)} {st : List Value} {d : zD}
theorem zP_mmax (C : zOk V X cc own nL R0 ret) {ix : Nat} {x y w : Int} (hw : Cond.methodLink own ix Lib.Math.max.name ∈ zT ∧ Cond.static Lib.Math.max.name ∈ zT ∧ Cond.initialized "java/lang/Math" ∈ zT ∧ Cond.code Lib.Math.max.name Lib.Math.max.code 2 (some .int) ∈ zT) (hdg : decode cc pc = .ok (.invokestatic ix, 3)) (hx : zR x) (hy : zR y) (he : (if x < y then y else x) = w) (hroom : 1 ≤ R0.frames ∧ (st.map fun v => v.category).sum + 13 ≤ R0.locals) (hkn : k ≤ R0.cells ∧ n ≤ R0.slots) (kk : zP V X nL k n (pc + 3) L (.int (zI w) :: st) d) : zP V X nL k n pc L (.int (zI y) :: .int (zI x) :: st) d := by
  obtain ⟨p, l, e, R, s, m, args, below, meth, c, Q⟩ := X
  obtain ⟨hxx, hb, hml, hown, hts, hK, hlk, hR, hret, hsz⟩ := C
  subst hR
  intro ls H locs hl hP hS
  refine va_mmax hxx hb (by rw [hml]; exact hl.1.symm) hown (hts _ hw.1) (hts _ hw.2.1) (hts _ hw.2.2.1) (hts _ hw.2.2.2) hroom.1 hroom.2 hkn.1 hkn.2 hdg ?_
  have e2 : (if zI x < zI y then zI y else zI x) = zI w := by
    rw [← he]
    by_cases h : x < y
    · rw [if_pos h, if_pos ((zI_lt hx hy).mpr h)]
    · rw [if_neg h, if_neg (fun q => h ((zI_lt hx hy).mp q))]
  rw [e2]
  exact kk ls H locs hl hP hS
theorem zP_mmin (C : zOk V X cc own nL R0 ret) {ix : Nat} {x y w : Int} (hw : Cond.methodLink own ix Lib.Math.min.name ∈ zT ∧ Cond.static Lib.Math.min.name ∈ zT ∧ Cond.initialized "java/lang/Math" ∈ zT ∧ Cond.code Lib.Math.min.name Lib.Math.min.code 2 (some .int) ∈ zT) (hdg : decode cc pc = .ok (.invokestatic ix, 3)) (hx : zR x) (hy : zR y) (he : (if y < x then y else x) = w) (hroom : 1 ≤ R0.frames ∧ (st.map fun v => v.category).sum + 13 ≤ R0.locals) (hkn : k ≤ R0.cells ∧ n ≤ R0.slots) (kk : zP V X nL k n (pc + 3) L (.int (zI w) :: st) d) : zP V X nL k n pc L (.int (zI y) :: .int (zI x) :: st) d := by
  obtain ⟨p, l, e, R, s, m, args, below, meth, c, Q⟩ := X
  obtain ⟨hxx, hb, hml, hown, hts, hK, hlk, hR, hret, hsz⟩ := C
  subst hR
  intro ls H locs hl hP hS
  refine va_mmin hxx hb (by rw [hml]; exact hl.1.symm) hown (hts _ hw.1) (hts _ hw.2.1) (hts _ hw.2.2.1) (hts _ hw.2.2.2) hroom.1 hroom.2 hkn.1 hkn.2 hdg ?_
  have e2 : (if zI y < zI x then zI y else zI x) = zI w := by
    rw [← he]
    by_cases h : y < x
    · rw [if_pos h, if_pos ((zI_lt hy hx).mpr h)]
    · rw [if_neg h, if_neg (fun q => h ((zI_lt hy hx).mp q))]
  rw [e2]
  exact kk ls H locs hl hP hS
end MM
theorem t_newLength {V : zW} {x y z w : Int} {d : zD} (h : (0 ≤ x ∧ x ≤ 100000) ∧ (0 ≤ y ∧ y ≤ 100000) ∧ (0 ≤ z ∧ z ≤ 100000)) (hw : (if y < z then z else y) = w) (h1 : 0 < x + w) : zMet V 1 yJ8_newLength_cabcc cJ8_newLength_cabcc 4 (some .int) [.int (zI x), .int (zI y), .int (zI z)] d (some (.int (zI (x + w)))) True d := by
  have hb : 0 ≤ w ∧ w ≤ 100000 := by rw [← hw]; split <;> omega
  refine zMet_by RJ8 pnJ8 rfl (Nat.le_of_ble_eq_true rfl) [some (.int (zI x)), some (.int (zI y)), some (.int (zI z)), none] rfl fun X C E => ?_
  refine zP_iload_n (pc := 0) C (x := zI (x)) dJ8_newLength_cabcc_0 rfl rfl ?_
  refine zP_iload_n (pc := 1) C (x := zI (y)) dJ8_newLength_cabcc_1 rfl rfl ?_
  refine zP_iload_n (pc := 2) C (x := zI (z)) dJ8_newLength_cabcc_2 rfl rfl ?_
  refine zP_mmax (pc := 3) C w_max dJ8_newLength_cabcc_3 ⟨by omega, by omega⟩ ⟨by omega, by omega⟩ hw ⟨Nat.le_of_ble_eq_true rfl, Nat.le_of_ble_eq_true rfl⟩ ⟨Nat.zero_le _, Nat.zero_le _⟩ ?_
  refine zP_iaddC (pc := 6) C (v := (x + w)) dJ8_newLength_cabcc_6 (by omega) (by omega) ?_
  refine zP_istore_n (pc := 7) C (L' := [some (.int (zI (x))), some (.int (zI (y))), some (.int (zI (z))), some (.int (zI ((x + w))))]) dJ8_newLength_cabcc_7 rfl (Nat.le_of_ble_eq_true rfl) rfl rfl ?_
  refine zP_iconst (pc := 8) C dJ8_newLength_cabcc_8 ?_
  refine zP_iload_n (pc := 9) C (x := zI ((x + w))) dJ8_newLength_cabcc_9 rfl rfl ?_
  refine zP_icmp_ge (β := Unit) (r := ()) (A := none) (B := some ()) (x := 0) (y := x + w) (pc := 10) C (tgt := 21) dJ8_newLength_cabcc_10 rfl ⟨by omega, by omega⟩ ⟨by omega, by omega⟩ (if_neg (by omega)) (fun h _ => absurd h (by omega)) (fun _ _ => ?_)
  refine zP_iload_n (pc := 13) C (x := zI ((x + w))) dJ8_newLength_cabcc_13 rfl rfl ?_
  refine zP_ldc (pc := 14) C dJ8_newLength_cabcc_14 q1056 ?_
  refine zP_icmp_gt (β := Unit) (r := ()) (A := none) (B := some ()) (x := x + w) (y := 2147483639) (pc := 16) C (tgt := 21) dJ8_newLength_cabcc_16 rfl ⟨by omega, by omega⟩ ⟨by omega, by omega⟩ (if_neg (by omega)) (fun h _ => absurd h (by omega)) (fun _ _ => ?_)
  refine zP_iload_n (pc := 19) C (x := zI ((x + w))) dJ8_newLength_cabcc_19 rfl rfl ?_
  exact zP_nret (pc := 20) C E dJ8_newLength_cabcc_20 rfl trivial
theorem t_isLatin1B {V : zW} {d : zD} {qb a : Nat} (hB : zAt V 440 qb (0, 12, zfB a)) (hc : d 440 1 = 0) : zMetB V 0 0 0 yJ5_isLatin1_aae02 cJ5_isLatin1_aae02 1 (some .boolean) [.ref qb] d (fun ov V1 d1 => V = V1 ∧ d = d1 ∧ ov = some (.int (zI 1))) := by
  refine zMetB_by RJ5 pnJ5 rfl (Nat.le_of_ble_eq_true rfl) [some (.ref qb)] rfl fun X C HB HI E => ?_
  refine zP_getCS (pc := 0) C q1009 dJ5_isLatin1_aae02_0 ?_
  refine zP_if_eq (β := Unit) (r := ()) (A := none) (B := some ()) (x := 1) (pc := 3) C (tgt := 17) dJ5_isLatin1_aae02_3 rfl ⟨by omega, by omega⟩ (if_neg (by omega)) (fun h _ => absurd h (by omega)) (fun _ _ => ?_)
  refine zP_aload_n (pc := 6) C (x := qb) dJ5_isLatin1_aae02_6 rfl rfl ?_
  refine zP_giq (pc := 7) C g12_22 dJ5_isLatin1_aae02_7 hB rfl hc ?_
  refine zP_if_ne (β := Unit) (r := ()) (A := some ()) (B := none) (x := 0) (pc := 10) C (tgt := 17) dJ5_isLatin1_aae02_10 rfl ⟨by omega, by omega⟩ (if_pos (by omega)) (fun h _ => absurd (by omega) h) (fun _ _ => ?_)
  refine zP_iconst (pc := 13) C dJ5_isLatin1_aae02_13 ?_
  refine zP_goto (pc := 14) C (tgt := 18) dJ5_isLatin1_aae02_14 rfl ?_
  exact zP_nretB (pc := 18) C E zVv.rf ⟨Nat.le_refl _, Nat.le_refl _⟩ rfl ⟨rfl, rfl, rfl⟩ dJ5_isLatin1_aae02_18
theorem t_lengthA {V : zW} {d : zD} {qb a : Nat} {v : Int} (hB : zAt V 440 qb (0, 12, zfB a)) (hn : d 440 3 = v) : zMetB V 0 0 0 yJ5_length_8abf5 cJ5_length_8abf5 1 (some .int) [.ref qb] d (fun ov V1 d1 => V = V1 ∧ d = d1 ∧ ov = some (.int (zI v))) := by
  refine zMetB_by RJ5 pnJ5 rfl (Nat.le_of_ble_eq_true rfl) [some (.ref qb)] rfl fun X C HB HI E => ?_
  refine zP_aload_n (pc := 0) C (x := qb) dJ5_length_8abf5_0 rfl rfl ?_
  refine zP_giq (pc := 1) C g12_79 dJ5_length_8abf5_1 hB rfl hn ?_
  exact zP_nretB (pc := 4) C E zVv.rf ⟨Nat.le_refl _, Nat.le_refl _⟩ rfl ⟨rfl, rfl, rfl⟩ dJ5_length_8abf5_4
theorem t_getValue {V : zW} {d : zD} {qb qa a cap : Nat} (hB : zAt V 440 qb (0, 12, zfB a)) (hA : zAt V a qa (2, cap, zk0)) : zMetB V 0 0 0 yJ5_getValue_6d5f1 cJ5_getValue_6d5f1 1 (some (.array .byte)) [.ref qb] d (fun ov V1 d1 => V = V1 ∧ d = d1 ∧ ov = some (.ref qa)) := by
  refine zMetB_by RJ5 pnJ5 rfl (Nat.le_of_ble_eq_true rfl) [some (.ref qb)] rfl fun X C HB HI E => ?_
  refine zP_aload_n (pc := 0) C (x := qb) dJ5_getValue_6d5f1_0 rfl rfl ?_
  refine zP_getq (pc := 1) C g12_15 dJ5_getValue_6d5f1_1 hB rfl hA.2 ?_
  exact zP_aretB (pc := 4) C (Or.inr ⟨.byte, rfl⟩) E zVv.rf ⟨Nat.le_refl _, Nat.le_refl _⟩ ⟨rfl, rfl, rfl⟩ dJ5_getValue_6d5f1_4
theorem t_newCapacity {V : zW} {d : zD} {qb qa a cap : Nat} {m w : Int} (hB : zAt V 440 qb (0, 12, zfB a)) (hA : zAt V a qa (2, cap, zk0)) (hc : d 440 1 = 0) (hm : ((cap : Nat) : Int) < m ∧ m ≤ 10000) (hw : (if m - ((cap : Nat) : Int) < ((cap : Nat) : Int) + 2 then ((cap : Nat) : Int) + 2 else m - ((cap : Nat) : Int)) = w) : zMetB V 2 0 0 yJ5_newCapacity_0f7a4 cJ5_newCapacity_0f7a4 6 (some .int) [.ref qb, .int (zI m)] d (fun ov V1 d1 => V = V1 ∧ d = d1 ∧ ov = some (.int (zI (((cap : Nat) : Int) + w)))) := by
  have hb : 0 ≤ w ∧ w ≤ 20002 := by rw [← hw]; split <;> omega
  refine zMetB_by RJ5 pnJ5 rfl (Nat.le_of_ble_eq_true rfl) [some (.ref qb), some (.int (zI m)), none, none, none, none] rfl fun X C HB HI E => ?_
  refine zP_aload_n (pc := 0) C (x := qb) dJ5_newCapacity_0f7a4_0 rfl rfl ?_
  refine zP_getq (pc := 1) C g12_15 dJ5_newCapacity_0f7a4_1 hB rfl hA.2 ?_
  refine zP_alenB (pc := 4) C dJ5_newCapacity_0f7a4_4 hA ?_
  refine zP_istore_n (pc := 5) C (L' := [some (.ref (qb)), some (.int (zI (m))), some (.int (zI (((cap : Nat) : Int)))), none, none, none]) dJ5_newCapacity_0f7a4_5 rfl (Nat.le_of_ble_eq_true rfl) rfl rfl ?_
  refine zP_iload_n (pc := 6) C (x := zI (m)) dJ5_newCapacity_0f7a4_6 rfl rfl ?_
  refine zP_aload_n (pc := 7) C (x := qb) dJ5_newCapacity_0f7a4_7 rfl rfl ?_
  refine zP_giq (pc := 8) C g12_22 dJ5_newCapacity_0f7a4_8 hB rfl hc ?_
  refine zP_ishl0 (pc := 11) C dJ5_newCapacity_0f7a4_11 ?_
  refine zP_istore_n (pc := 12) C (L' := [some (.ref (qb)), some (.int (zI (m))), some (.int (zI (((cap : Nat) : Int)))), some (.int (zI (m))), none, none]) dJ5_newCapacity_0f7a4_12 rfl (Nat.le_of_ble_eq_true rfl) rfl rfl ?_
  refine zP_iload_n (pc := 13) C (x := zI (m)) dJ5_newCapacity_0f7a4_13 rfl rfl ?_
  refine zP_iload_n (pc := 14) C (x := zI (((cap : Nat) : Int))) dJ5_newCapacity_0f7a4_14 rfl rfl ?_
  refine zP_isubC (pc := 15) C (v := (m - ((cap : Nat) : Int))) dJ5_newCapacity_0f7a4_15 (by omega) (by omega) ?_
  refine zP_istore (pc := 16) C (L' := [some (.ref (qb)), some (.int (zI (m))), some (.int (zI (((cap : Nat) : Int)))), some (.int (zI (m))), some (.int (zI ((m - ((cap : Nat) : Int))))), none]) dJ5_newCapacity_0f7a4_16 (Nat.le_of_ble_eq_true rfl) rfl rfl ?_
  refine zP_iload_n (pc := 18) C (x := zI (((cap : Nat) : Int))) dJ5_newCapacity_0f7a4_18 rfl rfl ?_
  refine zP_iload (pc := 19) C (x := zI ((m - ((cap : Nat) : Int)))) dJ5_newCapacity_0f7a4_19 rfl ?_
  refine zP_iload_n (pc := 21) C (x := zI (((cap : Nat) : Int))) dJ5_newCapacity_0f7a4_21 rfl rfl ?_
  refine zP_iconst (pc := 22) C dJ5_newCapacity_0f7a4_22 ?_
  refine zP_aload_n (pc := 23) C (x := qb) dJ5_newCapacity_0f7a4_23 rfl rfl ?_
  refine zP_giq (pc := 24) C g12_22 dJ5_newCapacity_0f7a4_24 hB rfl hc ?_
  refine zP_ishl0 (pc := 27) C dJ5_newCapacity_0f7a4_27 ?_
  refine zP_iaddC (pc := 28) C (v := (((cap : Nat) : Int) + 2)) dJ5_newCapacity_0f7a4_28 (by omega) (by omega) ?_
  refine zP_callS (pc := 29) (As := [.int (zI ((cap : Nat) : Int)), .int (zI (m - ((cap : Nat) : Int))), .int (zI (((cap : Nat) : Int) + 2))]) (st := []) C b114 dJ5_newCapacity_0f7a4_29 (t_newLength (by omega) hw (by omega)) ⟨Nat.le_of_ble_eq_true rfl, Nat.le_of_ble_eq_true rfl⟩ rfl (Nat.le_of_ble_eq_true rfl) ⟨Nat.zero_le _, Nat.zero_le _⟩ fun _ => ?_
  refine zP_istore (pc := 32) C (L' := [some (.ref (qb)), some (.int (zI (m))), some (.int (zI (((cap : Nat) : Int)))), some (.int (zI (m))), some (.int (zI ((m - ((cap : Nat) : Int))))), some (.int (zI (((cap : Nat) : Int) + w)))]) dJ5_newCapacity_0f7a4_32 (Nat.le_of_ble_eq_true rfl) rfl rfl ?_
  refine zP_iload (pc := 34) C (x := zI (((cap : Nat) : Int) + w)) dJ5_newCapacity_0f7a4_34 rfl ?_
  refine zP_ldc (pc := 36) C dJ5_newCapacity_0f7a4_36 q1060 ?_
  refine zP_icmp_ne (β := Unit) (r := ()) (A := none) (B := some ()) (x := ((cap : Nat) : Int) + w) (y := 2147483647) (pc := 38) C (tgt := 51) dJ5_newCapacity_0f7a4_38 rfl ⟨by omega, by omega⟩ ⟨by omega, by omega⟩ (if_neg (by omega)) (fun _ _ => ?_) (fun h _ => absurd h (by omega))
  refine zP_iload (pc := 51) C (x := zI (((cap : Nat) : Int) + w)) dJ5_newCapacity_0f7a4_51 rfl ?_
  refine zP_aload_n (pc := 53) C (x := qb) dJ5_newCapacity_0f7a4_53 rfl rfl ?_
  refine zP_giq (pc := 54) C g12_22 dJ5_newCapacity_0f7a4_54 hB rfl hc ?_
  refine zP_ishr0 (pc := 57) C dJ5_newCapacity_0f7a4_57 ?_
  exact zP_nretB (pc := 58) C E zVv.rf ⟨Nat.le_refl _, Nat.le_refl _⟩ rfl ⟨rfl, rfl, rfl⟩ dJ5_newCapacity_0f7a4_58
theorem t_copyOf {V : zW} {d : zD} {qa a cap b N : Nat} (wf : zWf V) (hA : zAt V a qa (2, cap, zk0)) (hu : zsh V b = none) (hN : cap < N ∧ N ≤ 100000) (hby : ∀ j, j < cap → 0 ≤ d a j ∧ d a j < 128) : zMetB V 1 1 N yJ7_copyOf_9075b cJ7_copyOf_9075b 3 (some (.array .byte)) [.ref qa, .int (zI N)] d (fun ov V1 d1 => ∃ q1, ov = some (.ref q1) ∧ zEy V V1 (fun c => c = b) ∧ zWf V1 ∧ zAt V1 b q1 (2, N, zk0) ∧ (∀ c, c ≠ b → d1 c = d c) ∧ ∀ j, d1 b j = if j < cap then d a j else 0) := by
  have hab : a ≠ b := fun h => by rw [← h, hA.1] at hu; cases hu
  refine zMetB_by RJ7 pnJ7 rfl (Nat.le_of_ble_eq_true rfl) [some (.ref qa), some (.int (zI N)), none] rfl fun X C HB HI E => ?_
  refine zP_iload_n (pc := 0) C (x := zI (((N : Nat) : Int))) dJ7_copyOf_9075b_0 rfl rfl ?_
  refine zP_aload_n (pc := 1) C (x := qa) dJ7_copyOf_9075b_1 rfl rfl ?_
  refine zP_alenB (pc := 2) C dJ7_copyOf_9075b_2 hA ?_
  refine zP_icmp_ne (β := Unit) (r := ()) (A := none) (B := some ()) (x := ((N : Nat) : Int)) (y := ((cap : Nat) : Int)) (pc := 3) C (tgt := 14) dJ7_copyOf_9075b_3 rfl ⟨by omega, by omega⟩ ⟨by omega, by omega⟩ (if_neg (by omega)) (fun _ _ => ?_) (fun h _ => absurd h (by omega))
  refine zP_iload_n (pc := 14) C (x := zI (((N : Nat) : Int))) dJ7_copyOf_9075b_14 rfl rfl ?_
  refine zP_newBq (N := N) (pc := 15) C dJ7_copyOf_9075b_15 wf hu ⟨by omega, by omega⟩ (by omega) (by omega) (by omega) (by show 0 + 1 ≤ 1 ∧ 0 + N ≤ N; omega) fun V1 q1 e1 w1 hb1 => ?_
  have C1 := e1.v.ok C
  have hA1 := hA.go e1 hab
  refine zP_astore_n (pc := 17) C1 (L' := [some (.ref (qa)), some (.int (zI (((N : Nat) : Int)))), some (.ref (q1))]) dJ7_copyOf_9075b_17 rfl (Nat.le_of_ble_eq_true rfl) rfl rfl ?_
  refine zP_aload_n (pc := 18) C1 (x := qa) dJ7_copyOf_9075b_18 rfl rfl ?_
  refine zP_iconst (pc := 19) C1 dJ7_copyOf_9075b_19 ?_
  refine zP_aload_n (pc := 20) C1 (x := q1) dJ7_copyOf_9075b_20 rfl rfl ?_
  refine zP_iconst (pc := 21) C1 dJ7_copyOf_9075b_21 ?_
  refine zP_aload_n (pc := 22) C1 (x := qa) dJ7_copyOf_9075b_22 rfl rfl ?_
  refine zP_alenB (pc := 23) C1 dJ7_copyOf_9075b_23 hA1 ?_
  refine zP_iload_n (pc := 24) C1 (x := zI (((N : Nat) : Int))) dJ7_copyOf_9075b_24 rfl rfl ?_
  refine zP_mmin (pc := 25) C1 w_min dJ7_copyOf_9075b_25 ⟨by omega, by omega⟩ ⟨by omega, by omega⟩ (if_neg (by omega)) ⟨Nat.le_of_ble_eq_true rfl, Nat.le_of_ble_eq_true rfl⟩ ⟨Nat.le_refl _, by show 0 + N ≤ N; omega⟩ ?_
  refine zP_copyBB (pc := 28) C1 q1074 dJ7_copyOf_9075b_28 hA1 (fun j hj => by rw [zclr_ne hab]; exact hby j hj) hb1 ⟨by omega, by omega⟩ ⟨by omega, by omega⟩ ⟨by omega, by omega⟩ (by omega) ⟨Nat.le_of_ble_eq_true rfl, Nat.le_of_ble_eq_true rfl⟩ ?_
  refine zP_aload_n (pc := 31) C1 (x := q1) dJ7_copyOf_9075b_31 rfl rfl ?_
  refine zP_aretB (pc := 32) C1 (Or.inr ⟨.byte, rfl⟩) E e1.v (by omega) ⟨q1, rfl, e1, w1, hb1, fun c hc => by rw [zcp_row hc, zclr_ne hc], fun j => ?_⟩ dJ7_copyOf_9075b_32
  rw [Int.toNat_natCast]
  by_cases h : j < cap
  · rw [if_pos h]
    exact (zcp_0 h).trans (by rw [zclr_ne hab])
  · rw [if_neg h]
    unfold zcp
    rw [if_neg (fun q => h (by have := q.2.2; omega))]
    exact if_pos rfl
def zPens (V : zW) (d : zD) (qb a cap : Nat) (bs : List Int) (m : Int) : Option Value → zW → zD → Prop := fun ov V1 d1 => ov = none ∧ ∃ qa1 a1 cap1, zBd V1 d1 qb qa1 a1 cap1 bs ∧ m ≤ ((cap1 : Nat) : Int) ∧ (cap1 = cap ∨ ((cap1 : Nat) : Int) ≤ 2 * m) ∧ a ≤ a1 ∧ a1 ≤ a + 1 ∧ zKq V d V1 d1
theorem t_ensure {V : zW} {d : zD} {qb qa a cap : Nat} {bs : List Int} {m : Int} (hb : zBd V d qb qa a cap bs) (hm : 0 ≤ m ∧ m ≤ 400) (hcap : cap ≤ 900) : zMetB V 3 1 1802 yJ5_ensureCapacityInternal_d00df cJ5_ensureCapacityInternal_d00df 3 none [.ref qb, .int (zI m)] d (zPens V d qb a cap bs m) := by
  obtain ⟨hB, hA, ha, hu, wf, hc, hn, hle, hbs, hby⟩ := id hb
  refine zMetB_by RJ5 pnJ5 rfl (Nat.le_of_ble_eq_true rfl) [some (.ref qb), some (.int (zI m)), none] rfl fun X C HB HI E => ?_
  refine zP_aload_n (pc := 0) C (x := qb) dJ5_ensureCapacityInternal_d00df_0 rfl rfl ?_
  refine zP_getq (pc := 1) C g12_15 dJ5_ensureCapacityInternal_d00df_1 hB rfl hA.2 ?_
  refine zP_alenB (pc := 4) C dJ5_ensureCapacityInternal_d00df_4 hA ?_
  refine zP_aload_n (pc := 5) C (x := qb) dJ5_ensureCapacityInternal_d00df_5 rfl rfl ?_
  refine zP_giq (pc := 6) C g12_22 dJ5_ensureCapacityInternal_d00df_6 hB rfl hc ?_
  refine zP_ishr0 (pc := 9) C dJ5_ensureCapacityInternal_d00df_9 ?_
  refine zP_istore_n (pc := 10) C (L' := [some (.ref (qb)), some (.int (zI (m))), some (.int (zI (((cap : Nat) : Int))))]) dJ5_ensureCapacityInternal_d00df_10 rfl (Nat.le_of_ble_eq_true rfl) rfl rfl ?_
  refine zP_iload_n (pc := 11) C (x := zI (m)) dJ5_ensureCapacityInternal_d00df_11 rfl rfl ?_
  refine zP_iload_n (pc := 12) C (x := zI (((cap : Nat) : Int))) dJ5_ensureCapacityInternal_d00df_12 rfl rfl ?_
  refine zP_isubC (pc := 13) C (v := (m - ((cap : Nat) : Int))) dJ5_ensureCapacityInternal_d00df_13 (by omega) (by omega) ?_
  by_cases h : m ≤ ((cap : Nat) : Int)
  · refine zP_if_le (β := Unit) (r := ()) (A := some ()) (B := none) (x := m - ((cap : Nat) : Int)) (pc := 14) C (tgt := 38) dJ5_ensureCapacityInternal_d00df_14 rfl ⟨by omega, by omega⟩ (if_pos (by omega)) (fun _ _ => ?_) (fun h _ => absurd (by omega) h)
    exact zP_vretB (pc := 38) C E zVv.rf ⟨Nat.zero_le _, Nat.zero_le _⟩ ⟨rfl, qa, a, cap, hb, h, Or.inl rfl, Nat.le_refl _, Nat.le_succ _, zKq.rf⟩ dJ5_ensureCapacityInternal_d00df_38
  · refine zP_if_le (β := Unit) (r := ()) (A := none) (B := some ()) (x := m - ((cap : Nat) : Int)) (pc := 14) C (tgt := 38) dJ5_ensureCapacityInternal_d00df_14 rfl ⟨by omega, by omega⟩ (if_neg (by omega)) (fun h _ => absurd h (by omega)) (fun _ _ => ?_)
    obtain ⟨w, hw⟩ : ∃ w, (if m - ((cap : Nat) : Int) < ((cap : Nat) : Int) + 2 then ((cap : Nat) : Int) + 2 else m - ((cap : Nat) : Int)) = w := ⟨_, rfl⟩
    have hwb : (w = ((cap : Nat) : Int) + 2 ∧ m - ((cap : Nat) : Int) < ((cap : Nat) : Int) + 2 ∨ w = m - ((cap : Nat) : Int) ∧ ((cap : Nat) : Int) + 2 ≤ m - ((cap : Nat) : Int)) := by rw [← hw]; split <;> omega
    have eN : ((cap : Nat) : Int) + w = (((cap + w.toNat : Nat)) : Int) := by omega
    have hab : a ≠ a + 1 := by omega
    refine zP_aload_n (pc := 17) C (x := qb) dJ5_ensureCapacityInternal_d00df_17 rfl rfl ?_
    refine zP_aload_n (pc := 18) C (x := qb) dJ5_ensureCapacityInternal_d00df_18 rfl rfl ?_
    refine zP_getq (pc := 19) C g12_15 dJ5_ensureCapacityInternal_d00df_19 hB rfl hA.2 ?_
    refine zP_aload_n (pc := 22) C (x := qb) dJ5_ensureCapacityInternal_d00df_22 rfl rfl ?_
    refine zP_iload_n (pc := 23) C (x := zI (m)) dJ5_ensureCapacityInternal_d00df_23 rfl rfl ?_
    refine zP_callVB (pc := 24) (As := [.int (zI m)]) (st := [.ref (qa), .ref (qb)]) C HB b104 (zSel_P HB (List.mem_cons_of_mem _ List.mem_cons_self)) dJ5_ensureCapacityInternal_d00df_24 hB (t_newCapacity hB hA hc (by omega) hw) ⟨Nat.le_of_ble_eq_true rfl, Nat.le_of_ble_eq_true rfl⟩ rfl (Nat.le_of_ble_eq_true rfl) ⟨Nat.zero_le _, Nat.zero_le _⟩ fun ov V1 d1 _ hp => ?_
    obtain ⟨rfl, rfl, rfl⟩ := hp
    rw [eN]
    refine zP_aload_n (pc := 27) C (x := qb) dJ5_ensureCapacityInternal_d00df_27 rfl rfl ?_
    refine zP_giq (pc := 28) C g12_22 dJ5_ensureCapacityInternal_d00df_28 hB rfl hc ?_
    refine zP_ishl0 (pc := 31) C dJ5_ensureCapacityInternal_d00df_31 ?_
    refine zP_callSB (pc := 32) (As := [.ref qa, .int (zI (((cap + w.toNat : Nat)) : Int))]) (st := [.ref (qb)]) C HB b108 dJ5_ensureCapacityInternal_d00df_32 (t_copyOf (b := a + 1) wf hA (hu _ (by omega)) (by omega) hby) ⟨Nat.le_of_ble_eq_true rfl, Nat.le_of_ble_eq_true rfl⟩ rfl (Nat.le_of_ble_eq_true rfl) (by show 0 + 0 + 1 ≤ 1 ∧ 0 + 0 + (cap + w.toNat) ≤ 1802; omega) fun ov V2 d2 hv hp => ?_
    obtain ⟨q1, rfl, ey, wf1, hb1, hd1, hd2⟩ := hp
    have C2 := hv.ok C
    refine zP_putRn (pc := 35) C2 f12_15 dJ5_ensureCapacityInternal_d00df_35 (hB.go ey (by omega)) hb1.2 (by rw [hb1.1]; rfl) wf1 fun V3 e3 w3 s3 => ?_
    rw [zfB_fu] at s3
    have C3 := e3.v.ok C2
    refine zP_vretB (pc := 38) C3 E (ey.v.tr e3.v) (by omega) ⟨rfl, q1, a + 1, cap + w.toNat, ⟨s3, hb1.go e3 (by omega), by omega, fun c hc => ?_, w3, by rw [hd1 440 (by omega)]; exact hc, by rw [hd1 440 (by omega)]; exact hn, by omega, fun j hj => ?_, fun j hj => ?_⟩, by omega, Or.inr (by omega), by omega, by omega, ?_⟩ dJ5_ensureCapacityInternal_d00df_38
    · rw [e3.2.2.1 c (by omega), ey.2.2.1 c (by omega)]
      exact hu c (by omega)
    · rw [hd2 j, if_pos (by omega)]
      exact hbs j hj
    · rw [hd2 j]
      split
      · exact hby j (by assumption)
      · omega
    · exact (zKq.of (d := d) (d1 := d2) ey (fun c hc => by omega) (fun c hc => hd1 c (by omega))).tr (zKq.of e3 (fun c hc => by omega) (fun c hc => rfl))
