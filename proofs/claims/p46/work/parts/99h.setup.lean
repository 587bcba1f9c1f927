/-! The law draws its text. -/
theorem b44 : zMV1 RL 44 yJ4_init_da8c8 cJ4_init_da8c8 1 none 0 := ⟨q1002, q1003, q40, q1004, ⟨by decide +kernel, by decide +kernel⟩, by decide +kernel⟩
theorem b47 : zMV1 RL 47 yJ4_append_15ec4 cJ4_append_15ec4 2 (some (.object RJ4)) 1 := ⟨q1031, q1032, q40, q1034, ⟨by decide +kernel, by decide +kernel⟩, by decide +kernel⟩
theorem b54c : zMV1 RL 54 yJ4_append_cf468 cJ4_append_cf468 2 (some (.object RJ4)) 1 := ⟨q1133, q1134, q40, q1136, ⟨by decide +kernel, by decide +kernel⟩, by decide +kernel⟩
theorem b63 : zMV1 RL 63 yJ4_append_bf812 cJ4_append_bf812 2 (some (.object RJ4)) 1 := ⟨q1147, q1148, q40, q1150, ⟨by decide +kernel, by decide +kernel⟩, by decide +kernel⟩
theorem b78 : zMV1 RL 78 yJ4_toString_0e30d cJ4_toString_0e30d 1 (some (.object RJ0)) 0 := ⟨q1178, q1179, q40, q1181, ⟨by decide +kernel, by decide +kernel⟩, by decide +kernel⟩
theorem w_sbn : Cond.classLink RL 42 RJ4 ∈ zT ∧ Cond.instantiable RJ4 4 ∈ zT ∧ Cond.initialized RJ4 ∈ zT := ⟨zin 1000 (by decide +kernel) (by decide +kernel), zin 1001 (by decide +kernel) (by decide +kernel), q40⟩
theorem zl32 : zslen 32 = 9 := rfl
theorem zl33 : zslen 33 = 7 := rfl
theorem zl34 : zslen 34 = 6 := rfl
theorem zl35 : zslen 35 = 7 := rfl
theorem zl36 : zslen 36 = 4 := rfl
theorem zl37 : zslen 37 = 6 := rfl
theorem zl38 : zslen 38 = 7 := rfl
theorem zl39 : zslen 39 = 7 := rfl
theorem t_letter {V : zW} {d : zD} {x : Int} (h : 0 ≤ x ∧ x < 26) : zMet V 0 yL_letter cL_letter 1 (some .char) [.int (zI x)] d (some (.int (zI (97 + x)))) True d := by
  have hc : ((zI (97 + x)).toUInt32 % 65536).toInt32 = zI (97 + x) ∧ narrow .char (.int (zI (97 + x))) = .int (zI (97 + x)) := by
    obtain ⟨m, hm⟩ := Int.eq_ofNat_of_zero_le h.1
    have e := zsc_ok1 (97 + m) (by omega)
    rw [show (((97 + m : Nat)) : Int) = 97 + x by omega] at e
    exact ⟨e.2.1, e.2.2⟩
  refine zMet_by RL pn99 rfl (Nat.le_of_ble_eq_true rfl) [some (.int (zI x))] rfl fun X C E => ?_
  refine zP_bipush (pc := 0) C dL_letter_0 rfl ?_
  refine zP_iload_n (pc := 2) C (x := zI x) dL_letter_2 rfl rfl ?_
  refine zP_iaddC (pc := 3) C (v := 97 + x) dL_letter_3 (by omega) (by omega) ?_
  refine zP_i2c (pc := 4) C dL_letter_4 hc.1 ?_
  exact zP_nret (pc := 5) C E dL_letter_5 hc.2 trivial
/-- where the drawing stands -/
def zST (V0 : zW) (d0 : zD) (V : zW) (d : zD) (qb : Nat) (bs : List Int) : Prop := zVv V0 V ∧ (∃ qa a cap, zBd V d qb qa a cap bs ∧ cap ≤ 16 + 2 * bs.length) ∧ zKq V0 d0 V d
section DRAWS
variable {V0 V : zW} {X : zX} {k n pc mc ms qb : Nat} {ret : Option FieldType} {L : List (Option Value)} {st : List Value} {d0 d : zD} {bs : List Int}
theorem zP_apS (C0 : zOk V0 X cL_setup RL 5 (zrmC 6 mc ms) ret) (HB : zNBX X) {t ix : Nat} (h : zST V0 d0 V d qb bs) (ht : zbad t < 1) (ho : (zt1 t).1 = RL) (hix : (zt1 t).2.1 = ix) (hl : bs.length + zslen t ≤ 400) (hd1 : decode cL_setup pc = .ok (.ldc ix, 2)) (hd2 : decode cL_setup (pc + 2) = .ok (.invokevirtual 47, 3)) (hkn : k + 1 ≤ mc ∧ n + 1802 ≤ ms) (kk : ∀ V1 d1, zST V0 d0 V1 d1 qb (bs ++ ztx t) → zP V1 X 5 (k + 1) (n + 1802) (pc + 2 + 3) L [.ref qb] d1) : zP V X 5 k n pc L [.ref qb] d := by
  obtain ⟨hv, ⟨qa, a, cap, hb, hcap⟩, hq⟩ := h
  have C := hv.ok C0
  refine zP_ldcT C ht ho hix hd1 ?_
  refine zP_callVB (pc := pc + 2) (As := [.ref (zsa V t)]) (st := []) C HB b47 (zSel_T C q1033) hd2 hb.1 (t_appendS hb hcap ht hl) ⟨Nat.le_of_ble_eq_true rfl, Nat.le_of_ble_eq_true rfl⟩ rfl (Nat.le_of_ble_eq_true rfl) hkn fun ov V1 d1 hv1 hp => ?_
  obtain ⟨rfl, qa1, a1, cap1, hb1, hc1, -, -, hq1⟩ := hp
  exact kk V1 d1 ⟨hv.tr hv1, ⟨qa1, a1, cap1, hb1, hc1⟩, hq.tr hq1⟩
theorem zP_apC (C0 : zOk V0 X cL_setup RL 5 (zrmC 6 mc ms) ret) (HB : zNBX X) {c : Int} (h : zST V0 d0 V d qb bs) (hch : 0 ≤ c ∧ c < 128) (hl : bs.length + 1 ≤ 400) (hd : decode cL_setup pc = .ok (.invokevirtual 54, 3)) (hkn : k + 1 ≤ mc ∧ n + 1802 ≤ ms) (kk : ∀ V1 d1, zST V0 d0 V1 d1 qb (bs ++ [c]) → zP V1 X 5 (k + 1) (n + 1802) (pc + 3) L [.ref qb] d1) : zP V X 5 k n pc L [.int (zI c), .ref qb] d := by
  obtain ⟨hv, ⟨qa, a, cap, hb, hcap⟩, hq⟩ := h
  have C := hv.ok C0
  refine zP_callVB (pc := pc) (As := [.int (zI c)]) (st := []) C HB b54c (zSel_T C q1135) hd hb.1 (t_appendC hb hcap hch hl) ⟨Nat.le_of_ble_eq_true rfl, Nat.le_of_ble_eq_true rfl⟩ rfl (Nat.le_of_ble_eq_true rfl) hkn fun ov V1 d1 hv1 hp => ?_
  obtain ⟨rfl, qa1, a1, cap1, hb1, hc1, -, -, hq1⟩ := hp
  exact kk V1 d1 ⟨hv.tr hv1, ⟨qa1, a1, cap1, hb1, hc1⟩, hq.tr hq1⟩
theorem zP_apI (C0 : zOk V0 X cL_setup RL 5 (zrmC 6 mc ms) ret) (HB : zNBX X) {v : Int} (h : zST V0 d0 V d qb bs) (hv9 : 0 ≤ v ∧ v ≤ 9999) (hl : bs.length + 4 ≤ 400) (hd : decode cL_setup pc = .ok (.invokevirtual 63, 3)) (hkn : k + 1 ≤ mc ∧ n + 1802 ≤ ms) (kk : ∀ V1 d1, zST V0 d0 V1 d1 qb (bs ++ dgs v) → zP V1 X 5 (k + 1) (n + 1802) (pc + 3) L [.ref qb] d1) : zP V X 5 k n pc L [.int (zI v), .ref qb] d := by
  obtain ⟨hv, ⟨qa, a, cap, hb, hcap⟩, hq⟩ := h
  have C := hv.ok C0
  refine zP_callVB (pc := pc) (As := [.int (zI v)]) (st := []) C HB b63 (zSel_T C q1149) hd hb.1 (t_appendI hb hcap hv9 hl) ⟨Nat.le_of_ble_eq_true rfl, Nat.le_of_ble_eq_true rfl⟩ rfl (Nat.le_of_ble_eq_true rfl) hkn fun ov V1 d1 hv1 hp => ?_
  obtain ⟨rfl, qa1, a1, cap1, hb1, hc1, -, -, hq1⟩ := hp
  exact kk V1 d1 ⟨hv.tr hv1, ⟨qa1, a1, cap1, hb1, hc1⟩, hq.tr hq1⟩
theorem zP_drw (C0 : zOk V0 X cL_setup RL 5 (zrmC 6 mc ms) ret) (hv : zVv V0 V) (hqn : zqn V0 ≤ 260) {kx lo hi : Int} (hk : 0 ≤ kx ∧ kx ≤ 1000) (hlh : -1000 ≤ lo ∧ lo ≤ hi ∧ hi ≤ 10000) (hd : decode cL_setup pc = .ok (.invokestatic 59, 3)) (hst : (st.map fun v => v.category).sum ≤ 8) (hkn : k ≤ mc ∧ n ≤ ms) (kk : zP V X 5 k n (pc + 3) L (.int (zI (drw V0 kx lo hi)) :: st) d) : zP V X 5 k n pc L (.int (zI hi) :: .int (zI lo) :: .int (zI kx) :: .ref (zqa V0) :: st) d := by
  have C := hv.ok C0
  obtain ⟨ad, sh, rfl⟩ := hv
  exact zP_callS (pc := pc) (As := [.ref (zqa V0), .int (zI kx), .int (zI lo), .int (zI hi)]) (st := st) C m99_59 hd (t_L_draw (V := zW3 V0 ad sh) hqn ⟨by omega, by omega⟩ ⟨by omega, by omega⟩ ⟨by omega, by omega⟩ (q_draw (V := zW3 V0 ad sh) hk.1 (by omega))) ⟨Nat.le_of_ble_eq_true rfl, Nat.le_of_ble_eq_true rfl⟩ rfl hst hkn fun _ => kk
theorem zP_let (C0 : zOk V0 X cL_setup RL 5 (zrmC 6 mc ms) ret) (hv : zVv V0 V) {x : Int} (h : 0 ≤ x ∧ x < 26) (hd : decode cL_setup pc = .ok (.invokestatic 51, 3)) (hst : (st.map fun v => v.category).sum ≤ 8) (hkn : k ≤ mc ∧ n ≤ ms) (kk : zP V X 5 k n (pc + 3) L (.int (zI (97 + x)) :: st) d) : zP V X 5 k n pc L (.int (zI x) :: st) d :=
  zP_callS (pc := pc) (As := [.int (zI x)]) (st := st) (hv.ok C0) m99_51 hd (t_letter h) ⟨Nat.le_of_ble_eq_true rfl, Nat.le_of_ble_eq_true rfl⟩ rfl hst hkn fun _ => kk
end DRAWS
/-- a terminal's row -/
def aTerm (V : zW) (k : Int) (bs : List Int) : List Int := bs ++ ztx 32 ++ [97 + k] ++ ztx 33 ++ dgs (drw V (2 + 3 * k) 1 4) ++ ztx 34 ++ dgs (drw V (3 + 3 * k) 1 4) ++ ztx 35 ++ dgs (drw V (4 + 3 * k) 0 20) ++ [59]
def aTerms (V : zW) : Nat → List Int
  | 0 => []
  | j + 1 => aTerm V ((j : Nat) : Int) (aTerms V j)
/-- the list's places -/
def aPls (V : zW) (many : Int) (bs : List Int) : Nat → List Int
  | 0 => bs
  | j + 1 => aPls V many bs j ++ [32] ++ [97 + drw V (21 + ((j : Nat) : Int)) 0 (many - 1)]
def aHead (V : zW) (many : Int) : List Int := aPls V many (aTerms V many.toNat ++ ztx 36) (drw V 20 1 6).toNat
/-- the drawn text -/
def aText (V : zW) (many : Int) : List Int := aHead V many ++ ztx 37 ++ dgs (drw V 28 1 8) ++ [32] ++ dgs (drw V 29 1 5) ++ [32] ++ dgs (drw V 30 1 3) ++ [32] ++ dgs (drw V 31 0 6) ++ ztx 38 ++ dgs (drw V 32 0 3) ++ ztx 39 ++ dgs (drw V 33 0 60) ++ [32] ++ dgs (drw V 34 0 9999) ++ [59]
theorem dgs_l {V : zW} {k lo hi : Int} (h : 0 ≤ lo ∧ lo ≤ hi ∧ hi ≤ 9999) : (dgs (drw V k lo hi)).length ≤ 4 := (dgs_b (by have := drw_R (V := V) (k := k) (lo := lo) (hi := hi) (by omega); omega)).2.1
theorem aTerms_l {V : zW} : ∀ j, (aTerms V j).length ≤ 43 * j := by
  intro j
  induction j with
  | zero => exact Nat.le_refl _
  | succ j ih =>
    have h1 := dgs_l (V := V) (k := 2 + 3 * ((j : Nat) : Int)) (lo := 1) (hi := 4) (by omega)
    have h2 := dgs_l (V := V) (k := 3 + 3 * ((j : Nat) : Int)) (lo := 1) (hi := 4) (by omega)
    have h3 := dgs_l (V := V) (k := 4 + 3 * ((j : Nat) : Int)) (lo := 0) (hi := 20) (by omega)
    unfold aTerms aTerm
    simp only [List.length_append, List.length_cons, List.length_nil, ztx_len, zl32, zl33, zl34, zl35]
    omega
theorem aPls_l {V : zW} {many : Int} {bs : List Int} : ∀ j, (aPls V many bs j).length = bs.length + 2 * j := by
  intro j
  induction j with
  | zero => rfl
  | succ j ih =>
    unfold aPls
    simp only [List.length_append, List.length_cons, List.length_nil]
    omega
section SETUP
variable {V0 : zW} {X : zX} {qb : Nat} {d0 : zD} {many : Int} {ret : Option FieldType}
theorem w_terms (C0 : zOk V0 X cL_setup RL 5 (zrmC 6 80 130000) ret) (HB : zNBX X) (hqn : zqn V0 ≤ 260) (hm : 1 ≤ many ∧ many ≤ 4) (fin : ∀ V d k n, zST V0 d0 V d qb (aTerms V0 many.toNat) → k ≤ 2 + 9 * 4 → n ≤ 20 + 16218 * 4 → zP V X 5 k n 98 [some (.ref (zqa V0)), some (.int (zI many)), some (.ref qb), none, none] [] d) : ∀ (m : Nat) {j : Nat} {V1 : zW} {d1 : zD} {k n : Nat} (_ : ((j + m : Nat) : Int) = many) (_ : zST V0 d0 V1 d1 qb (aTerms V0 j)) (_ : k ≤ 2 + 9 * j) (_ : n ≤ 20 + 16218 * j), zP V1 X 5 k n 10 [some (.ref (zqa V0)), some (.int (zI many)), some (.ref qb), some (.int (zI ((j : Nat) : Int))), none] [] d1 := by
  intro m
  induction m with
  | zero =>
    intro j V1 d1 k n hj h1 hk hn
    refine zP_iload_n (pc := 10) (h1.1.ok C0) (x := zI (((j : Nat) : Int))) dL_setup_10 rfl rfl ?_
    refine zP_iload_n (pc := 11) (h1.1.ok C0) (x := zI (many)) dL_setup_11 rfl rfl ?_
    refine zP_icmp_ge (β := Unit) (r := ()) (A := some ()) (B := none) (x := ((j : Nat) : Int)) (y := many) (pc := 12) (h1.1.ok C0) (tgt := 98) dL_setup_12 rfl ⟨by omega, by omega⟩ ⟨by omega, by omega⟩ (if_pos (by omega)) (fun _ _ => ?_) (fun h _ => absurd (by omega) h)
    refine zP_mask [true, true, true, false, false] ?_
    have e : j = many.toNat := by omega
    rw [e] at h1
    exact fin V1 d1 k n h1 (by omega) (by omega)
  | succ m ih =>
    intro j V1 d1 k n hj h1 hk hn
    have hl := aTerms_l (V := V0) j
    refine zP_iload_n (pc := 10) (h1.1.ok C0) (x := zI (((j : Nat) : Int))) dL_setup_10 rfl rfl ?_
    refine zP_iload_n (pc := 11) (h1.1.ok C0) (x := zI (many)) dL_setup_11 rfl rfl ?_
    refine zP_icmp_ge (β := Unit) (r := ()) (A := none) (B := some ()) (x := ((j : Nat) : Int)) (y := many) (pc := 12) (h1.1.ok C0) (tgt := 98) dL_setup_12 rfl ⟨by omega, by omega⟩ ⟨by omega, by omega⟩ (if_neg (by omega)) (fun h _ => absurd h (by omega)) (fun _ _ => ?_)
    refine zP_aload_n (pc := 15) (h1.1.ok C0) (x := qb) dL_setup_15 rfl rfl ?_
    refine zP_apS (t := 32) (pc := 16) C0 HB h1 (by decide) rfl rfl (by first | omega | (simp only [List.length_append, List.length_cons, List.length_nil, ztx_len, zl32, zl33, zl34, zl35, zl36, zl37, zl38, zl39]; omega)) dL_setup_16 dL_setup_18 (by omega) fun V2 d2 h2 => ?_
    refine zP_iload_n (pc := 21) (h2.1.ok C0) (x := zI (((j : Nat) : Int))) dL_setup_21 rfl rfl ?_
    refine zP_let (pc := 22) (x := ((j : Nat) : Int)) (st := [.ref qb]) C0 h2.1 (by omega) dL_setup_22 (Nat.le_of_ble_eq_true rfl) (by omega) ?_
    refine zP_apC (c := 97 + ((j : Nat) : Int)) (pc := 25) C0 HB h2 (by omega) (by first | omega | (simp only [List.length_append, List.length_cons, List.length_nil, ztx_len, zl32, zl33, zl34, zl35, zl36, zl37, zl38, zl39]; omega)) dL_setup_25 (by omega) fun V3 d3 h3 => ?_
    refine zP_apS (t := 33) (pc := 28) C0 HB h3 (by decide) rfl rfl (by first | omega | (simp only [List.length_append, List.length_cons, List.length_nil, ztx_len, zl32, zl33, zl34, zl35, zl36, zl37, zl38, zl39]; omega)) dL_setup_28 dL_setup_30 (by omega) fun V4 d4 h4 => ?_
    refine zP_aload_n (pc := 33) (h4.1.ok C0) (x := zqa V0) dL_setup_33 rfl rfl ?_
    refine zP_iconst (pc := 34) (h4.1.ok C0) dL_setup_34 ?_
    refine zP_iconst (pc := 35) (h4.1.ok C0) dL_setup_35 ?_
    refine zP_iload_n (pc := 36) (h4.1.ok C0) (x := zI (((j : Nat) : Int))) dL_setup_36 rfl rfl ?_
    refine zP_imulC (pc := 37) (h4.1.ok C0) (v := 3 * ((j : Nat) : Int)) dL_setup_37 rfl (by omega) ?_
    refine zP_iaddC (pc := 38) (h4.1.ok C0) (v := 2 + 3 * ((j : Nat) : Int)) dL_setup_38 rfl (by omega) ?_
    refine zP_iconst (pc := 39) (h4.1.ok C0) dL_setup_39 ?_
    refine zP_iconst (pc := 40) (h4.1.ok C0) dL_setup_40 ?_
    refine zP_drw (pc := 41) (kx := 2 + 3 * ((j : Nat) : Int)) (lo := 1) (hi := 4) (st := [.ref (qb)]) C0 h4.1 hqn (by omega) (by omega) dL_setup_41 (Nat.le_of_ble_eq_true rfl) (by omega) ?_
    have r41 := drw_R (V := V0) (k := 2 + 3 * ((j : Nat) : Int)) (lo := 1) (hi := 4) (by omega)
    have g41 := dgs_l (V := V0) (k := 2 + 3 * ((j : Nat) : Int)) (lo := 1) (hi := 4) (by omega)
    refine zP_apI (v := drw V0 (2 + 3 * ((j : Nat) : Int)) (1) (4)) (pc := 44) C0 HB h4 (by omega) (by first | omega | (simp only [List.length_append, List.length_cons, List.length_nil, ztx_len, zl32, zl33, zl34, zl35, zl36, zl37, zl38, zl39]; omega)) dL_setup_44 (by omega) fun V5 d5 h5 => ?_
    refine zP_apS (t := 34) (pc := 47) C0 HB h5 (by decide) rfl rfl (by first | omega | (simp only [List.length_append, List.length_cons, List.length_nil, ztx_len, zl32, zl33, zl34, zl35, zl36, zl37, zl38, zl39]; omega)) dL_setup_47 dL_setup_49 (by omega) fun V6 d6 h6 => ?_
    refine zP_aload_n (pc := 52) (h6.1.ok C0) (x := zqa V0) dL_setup_52 rfl rfl ?_
    refine zP_iconst (pc := 53) (h6.1.ok C0) dL_setup_53 ?_
    refine zP_iconst (pc := 54) (h6.1.ok C0) dL_setup_54 ?_
    refine zP_iload_n (pc := 55) (h6.1.ok C0) (x := zI (((j : Nat) : Int))) dL_setup_55 rfl rfl ?_
    refine zP_imulC (pc := 56) (h6.1.ok C0) (v := 3 * ((j : Nat) : Int)) dL_setup_56 rfl (by omega) ?_
    refine zP_iaddC (pc := 57) (h6.1.ok C0) (v := 3 + 3 * ((j : Nat) : Int)) dL_setup_57 rfl (by omega) ?_
    refine zP_iconst (pc := 58) (h6.1.ok C0) dL_setup_58 ?_
    refine zP_iconst (pc := 59) (h6.1.ok C0) dL_setup_59 ?_
    refine zP_drw (pc := 60) (kx := 3 + 3 * ((j : Nat) : Int)) (lo := 1) (hi := 4) (st := [.ref (qb)]) C0 h6.1 hqn (by omega) (by omega) dL_setup_60 (Nat.le_of_ble_eq_true rfl) (by omega) ?_
    have r60 := drw_R (V := V0) (k := 3 + 3 * ((j : Nat) : Int)) (lo := 1) (hi := 4) (by omega)
    have g60 := dgs_l (V := V0) (k := 3 + 3 * ((j : Nat) : Int)) (lo := 1) (hi := 4) (by omega)
    refine zP_apI (v := drw V0 (3 + 3 * ((j : Nat) : Int)) (1) (4)) (pc := 63) C0 HB h6 (by omega) (by first | omega | (simp only [List.length_append, List.length_cons, List.length_nil, ztx_len, zl32, zl33, zl34, zl35, zl36, zl37, zl38, zl39]; omega)) dL_setup_63 (by omega) fun V7 d7 h7 => ?_
    refine zP_apS (t := 35) (pc := 66) C0 HB h7 (by decide) rfl rfl (by first | omega | (simp only [List.length_append, List.length_cons, List.length_nil, ztx_len, zl32, zl33, zl34, zl35, zl36, zl37, zl38, zl39]; omega)) dL_setup_66 dL_setup_68 (by omega) fun V8 d8 h8 => ?_
    refine zP_aload_n (pc := 71) (h8.1.ok C0) (x := zqa V0) dL_setup_71 rfl rfl ?_
    refine zP_iconst (pc := 72) (h8.1.ok C0) dL_setup_72 ?_
    refine zP_iconst (pc := 73) (h8.1.ok C0) dL_setup_73 ?_
    refine zP_iload_n (pc := 74) (h8.1.ok C0) (x := zI (((j : Nat) : Int))) dL_setup_74 rfl rfl ?_
    refine zP_imulC (pc := 75) (h8.1.ok C0) (v := 3 * ((j : Nat) : Int)) dL_setup_75 rfl (by omega) ?_
    refine zP_iaddC (pc := 76) (h8.1.ok C0) (v := 4 + 3 * ((j : Nat) : Int)) dL_setup_76 rfl (by omega) ?_
    refine zP_iconst (pc := 77) (h8.1.ok C0) dL_setup_77 ?_
    refine zP_bipush (pc := 78) (h8.1.ok C0) dL_setup_78 rfl ?_
    refine zP_drw (pc := 80) (kx := 4 + 3 * ((j : Nat) : Int)) (lo := 0) (hi := 20) (st := [.ref (qb)]) C0 h8.1 hqn (by omega) (by omega) dL_setup_80 (Nat.le_of_ble_eq_true rfl) (by omega) ?_
    have r80 := drw_R (V := V0) (k := 4 + 3 * ((j : Nat) : Int)) (lo := 0) (hi := 20) (by omega)
    have g80 := dgs_l (V := V0) (k := 4 + 3 * ((j : Nat) : Int)) (lo := 0) (hi := 20) (by omega)
    refine zP_apI (v := drw V0 (4 + 3 * ((j : Nat) : Int)) (0) (20)) (pc := 83) C0 HB h8 (by omega) (by first | omega | (simp only [List.length_append, List.length_cons, List.length_nil, ztx_len, zl32, zl33, zl34, zl35, zl36, zl37, zl38, zl39]; omega)) dL_setup_83 (by omega) fun V9 d9 h9 => ?_
    refine zP_bipush (pc := 86) (h9.1.ok C0) dL_setup_86 rfl ?_
    refine zP_apC (c := 59) (pc := 88) C0 HB h9 (by omega) (by first | omega | (simp only [List.length_append, List.length_cons, List.length_nil, ztx_len, zl32, zl33, zl34, zl35, zl36, zl37, zl38, zl39]; omega)) dL_setup_88 (by omega) fun V10 d10 h10 => ?_
    refine zP_pop (pc := 91) (h10.1.ok C0) (v := .ref (qb)) dL_setup_91 rfl ?_
    refine zP_iincC (pc := 92) (h10.1.ok C0) (x := ((j : Nat) : Int)) (v := (((j + 1 : Nat)) : Int)) (L' := [some (.ref (zqa V0)), some (.int (zI (many))), some (.ref (qb)), some (.int (zI ((((j + 1 : Nat)) : Int)))), none]) dL_setup_92 rfl (Nat.le_of_ble_eq_true rfl) rfl (by omega) (by omega) rfl ?_
    refine zP_goto (pc := 95) (h10.1.ok C0) (tgt := 10) dL_setup_95 rfl ?_
    exact ih (j := j + 1) (by omega) h10 (by omega) (by omega)
theorem w_places (C0 : zOk V0 X cL_setup RL 5 (zrmC 6 80 130000) ret) (HB : zNBX X) (hqn : zqn V0 ≤ 260) (hm : 1 ≤ many ∧ many ≤ 4) {bs : List Int} (hbs : bs.length ≤ 200) {p : Nat} (hp : p ≤ 6) (fin : ∀ V d k n, zST V0 d0 V d qb (aPls V0 many bs p) → k ≤ 40 + 2 * 6 → n ≤ 70000 + 3604 * 6 → zP V X 5 k n 156 [some (.ref (zqa V0)), some (.int (zI many)), some (.ref qb), none, none] [] d) : ∀ (m : Nat) {j : Nat} {V1 : zW} {d1 : zD} {k n : Nat} (_ : j + m = p) (_ : zST V0 d0 V1 d1 qb (aPls V0 many bs j)) (_ : k ≤ 40 + 2 * j) (_ : n ≤ 70000 + 3604 * j), zP V1 X 5 k n 118 [some (.ref (zqa V0)), some (.int (zI many)), some (.ref qb), some (.int (zI ((p : Nat) : Int))), some (.int (zI ((j : Nat) : Int)))] [] d1 := by
  intro m
  induction m with
  | zero =>
    intro j V1 d1 k n hj h1 hk hn
    refine zP_iload (pc := 118) (h1.1.ok C0) (x := zI (((j : Nat) : Int))) dL_setup_118 rfl ?_
    refine zP_iload_n (pc := 120) (h1.1.ok C0) (x := zI (((p : Nat) : Int))) dL_setup_120 rfl rfl ?_
    refine zP_icmp_ge (β := Unit) (r := ()) (A := some ()) (B := none) (x := ((j : Nat) : Int)) (y := ((p : Nat) : Int)) (pc := 121) (h1.1.ok C0) (tgt := 156) dL_setup_121 rfl ⟨by omega, by omega⟩ ⟨by omega, by omega⟩ (if_pos (by omega)) (fun _ _ => ?_) (fun h _ => absurd (by omega) h)
    refine zP_mask [true, true, true, false, false] ?_
    have e : j = p := by omega
    rw [e] at h1
    exact fin V1 d1 k n h1 (by omega) (by omega)
  | succ m ih =>
    intro j V1 d1 k n hj h1 hk hn
    have hl := aPls_l (V := V0) (many := many) (bs := bs) j
    refine zP_iload (pc := 118) (h1.1.ok C0) (x := zI (((j : Nat) : Int))) dL_setup_118 rfl ?_
    refine zP_iload_n (pc := 120) (h1.1.ok C0) (x := zI (((p : Nat) : Int))) dL_setup_120 rfl rfl ?_
    refine zP_icmp_ge (β := Unit) (r := ()) (A := none) (B := some ()) (x := ((j : Nat) : Int)) (y := ((p : Nat) : Int)) (pc := 121) (h1.1.ok C0) (tgt := 156) dL_setup_121 rfl ⟨by omega, by omega⟩ ⟨by omega, by omega⟩ (if_neg (by omega)) (fun h _ => absurd h (by omega)) (fun _ _ => ?_)
    refine zP_aload_n (pc := 124) (h1.1.ok C0) (x := qb) dL_setup_124 rfl rfl ?_
    refine zP_bipush (pc := 125) (h1.1.ok C0) dL_setup_125 rfl ?_
    refine zP_apC (c := 32) (pc := 127) C0 HB h1 (by omega) (by first | omega | (simp only [List.length_append, List.length_cons, List.length_nil, ztx_len, zl32, zl33, zl34, zl35, zl36, zl37, zl38, zl39]; omega)) dL_setup_127 (by omega) fun V2 d2 h2 => ?_
    refine zP_aload_n (pc := 130) (h2.1.ok C0) (x := zqa V0) dL_setup_130 rfl rfl ?_
    refine zP_bipush (pc := 131) (h2.1.ok C0) dL_setup_131 rfl ?_
    refine zP_iload (pc := 133) (h2.1.ok C0) (x := zI (((j : Nat) : Int))) dL_setup_133 rfl ?_
    refine zP_iaddC (pc := 135) (h2.1.ok C0) (v := 21 + ((j : Nat) : Int)) dL_setup_135 rfl (by omega) ?_
    refine zP_iconst (pc := 136) (h2.1.ok C0) dL_setup_136 ?_
    refine zP_iload_n (pc := 137) (h2.1.ok C0) (x := zI (many)) dL_setup_137 rfl rfl ?_
    refine zP_iconst (pc := 138) (h2.1.ok C0) dL_setup_138 ?_
    refine zP_isubC (pc := 139) (h2.1.ok C0) (v := many - 1) dL_setup_139 rfl (by omega) ?_
    refine zP_drw (pc := 140) (kx := 21 + ((j : Nat) : Int)) (lo := 0) (hi := many - 1) (st := [.ref (qb)]) C0 h2.1 hqn (by omega) (by omega) dL_setup_140 (Nat.le_of_ble_eq_true rfl) (by omega) ?_
    have r140 := drw_R (V := V0) (k := 21 + ((j : Nat) : Int)) (lo := 0) (hi := many - 1) (by omega)
    have g140 := dgs_l (V := V0) (k := 21 + ((j : Nat) : Int)) (lo := 0) (hi := many - 1) (by omega)
    refine zP_let (pc := 143) (x := drw V0 (21 + ((j : Nat) : Int)) (0) (many - 1)) (st := [.ref qb]) C0 h2.1 (by omega) dL_setup_143 (Nat.le_of_ble_eq_true rfl) (by omega) ?_
    refine zP_apC (c := 97 + drw V0 (21 + ((j : Nat) : Int)) (0) (many - 1)) (pc := 146) C0 HB h2 (by omega) (by first | omega | (simp only [List.length_append, List.length_cons, List.length_nil, ztx_len, zl32, zl33, zl34, zl35, zl36, zl37, zl38, zl39]; omega)) dL_setup_146 (by omega) fun V3 d3 h3 => ?_
    refine zP_pop (pc := 149) (h3.1.ok C0) (v := .ref (qb)) dL_setup_149 rfl ?_
    refine zP_iincC (pc := 150) (h3.1.ok C0) (x := ((j : Nat) : Int)) (v := (((j + 1 : Nat)) : Int)) (L' := [some (.ref (zqa V0)), some (.int (zI (many))), some (.ref (qb)), some (.int (zI (((p : Nat) : Int)))), some (.int (zI ((((j + 1 : Nat)) : Int))))]) dL_setup_150 rfl (Nat.le_of_ble_eq_true rfl) rfl (by omega) (by omega) rfl ?_
    refine zP_goto (pc := 153) (h3.1.ok C0) (tgt := 118) dL_setup_153 rfl ?_
    exact ih (j := j + 1) (by omega) h3 (by omega) (by omega)
theorem w_tail (C0 : zOk V0 X cL_setup RL 5 (zrmC 6 80 130000) (some (.object RJ0))) (HB : zNBX X) (E : zEndB V0 X (zPts V0 d0 (aText V0 many)) 80 130000) (hqn : zqn V0 ≤ 260) {V1 : zW} {d1 : zD} {k n : Nat} (h1 : zST V0 d0 V1 d1 qb (aHead V0 many)) (hl : (aHead V0 many).length ≤ 230) (hk : k ≤ 52) (hn : n ≤ 91624) : zP V1 X 5 k n 156 [some (.ref (zqa V0)), some (.int (zI many)), some (.ref qb), none, none] [] d1 := by
  refine zP_aload_n (pc := 156) (h1.1.ok C0) (x := qb) dL_setup_156 rfl rfl ?_
  refine zP_apS (t := 37) (pc := 157) C0 HB h1 (by decide) rfl rfl (by first | omega | (simp only [List.length_append, List.length_cons, List.length_nil, ztx_len, zl32, zl33, zl34, zl35, zl36, zl37, zl38, zl39]; omega)) dL_setup_157 dL_setup_159 (by omega) fun V2 d2 h2 => ?_
  refine zP_aload_n (pc := 162) (h2.1.ok C0) (x := zqa V0) dL_setup_162 rfl rfl ?_
  refine zP_bipush (pc := 163) (h2.1.ok C0) dL_setup_163 rfl ?_
  refine zP_iconst (pc := 165) (h2.1.ok C0) dL_setup_165 ?_
  refine zP_bipush (pc := 166) (h2.1.ok C0) dL_setup_166 rfl ?_
  refine zP_drw (pc := 168) (kx := 28) (lo := 1) (hi := 8) (st := [.ref (qb)]) C0 h2.1 hqn (by omega) (by omega) dL_setup_168 (Nat.le_of_ble_eq_true rfl) (by omega) ?_
  have r168 := drw_R (V := V0) (k := 28) (lo := 1) (hi := 8) (by omega)
  have g168 := dgs_l (V := V0) (k := 28) (lo := 1) (hi := 8) (by omega)
  refine zP_apI (v := drw V0 (28) (1) (8)) (pc := 171) C0 HB h2 (by omega) (by first | omega | (simp only [List.length_append, List.length_cons, List.length_nil, ztx_len, zl32, zl33, zl34, zl35, zl36, zl37, zl38, zl39]; omega)) dL_setup_171 (by omega) fun V3 d3 h3 => ?_
  refine zP_bipush (pc := 174) (h3.1.ok C0) dL_setup_174 rfl ?_
  refine zP_apC (c := 32) (pc := 176) C0 HB h3 (by omega) (by first | omega | (simp only [List.length_append, List.length_cons, List.length_nil, ztx_len, zl32, zl33, zl34, zl35, zl36, zl37, zl38, zl39]; omega)) dL_setup_176 (by omega) fun V4 d4 h4 => ?_
  refine zP_aload_n (pc := 179) (h4.1.ok C0) (x := zqa V0) dL_setup_179 rfl rfl ?_
  refine zP_bipush (pc := 180) (h4.1.ok C0) dL_setup_180 rfl ?_
  refine zP_iconst (pc := 182) (h4.1.ok C0) dL_setup_182 ?_
  refine zP_iconst (pc := 183) (h4.1.ok C0) dL_setup_183 ?_
  refine zP_drw (pc := 184) (kx := 29) (lo := 1) (hi := 5) (st := [.ref (qb)]) C0 h4.1 hqn (by omega) (by omega) dL_setup_184 (Nat.le_of_ble_eq_true rfl) (by omega) ?_
  have r184 := drw_R (V := V0) (k := 29) (lo := 1) (hi := 5) (by omega)
  have g184 := dgs_l (V := V0) (k := 29) (lo := 1) (hi := 5) (by omega)
  refine zP_apI (v := drw V0 (29) (1) (5)) (pc := 187) C0 HB h4 (by omega) (by first | omega | (simp only [List.length_append, List.length_cons, List.length_nil, ztx_len, zl32, zl33, zl34, zl35, zl36, zl37, zl38, zl39]; omega)) dL_setup_187 (by omega) fun V5 d5 h5 => ?_
  refine zP_bipush (pc := 190) (h5.1.ok C0) dL_setup_190 rfl ?_
  refine zP_apC (c := 32) (pc := 192) C0 HB h5 (by omega) (by first | omega | (simp only [List.length_append, List.length_cons, List.length_nil, ztx_len, zl32, zl33, zl34, zl35, zl36, zl37, zl38, zl39]; omega)) dL_setup_192 (by omega) fun V6 d6 h6 => ?_
  refine zP_aload_n (pc := 195) (h6.1.ok C0) (x := zqa V0) dL_setup_195 rfl rfl ?_
  refine zP_bipush (pc := 196) (h6.1.ok C0) dL_setup_196 rfl ?_
  refine zP_iconst (pc := 198) (h6.1.ok C0) dL_setup_198 ?_
  refine zP_iconst (pc := 199) (h6.1.ok C0) dL_setup_199 ?_
  refine zP_drw (pc := 200) (kx := 30) (lo := 1) (hi := 3) (st := [.ref (qb)]) C0 h6.1 hqn (by omega) (by omega) dL_setup_200 (Nat.le_of_ble_eq_true rfl) (by omega) ?_
  have r200 := drw_R (V := V0) (k := 30) (lo := 1) (hi := 3) (by omega)
  have g200 := dgs_l (V := V0) (k := 30) (lo := 1) (hi := 3) (by omega)
  refine zP_apI (v := drw V0 (30) (1) (3)) (pc := 203) C0 HB h6 (by omega) (by first | omega | (simp only [List.length_append, List.length_cons, List.length_nil, ztx_len, zl32, zl33, zl34, zl35, zl36, zl37, zl38, zl39]; omega)) dL_setup_203 (by omega) fun V7 d7 h7 => ?_
  refine zP_bipush (pc := 206) (h7.1.ok C0) dL_setup_206 rfl ?_
  refine zP_apC (c := 32) (pc := 208) C0 HB h7 (by omega) (by first | omega | (simp only [List.length_append, List.length_cons, List.length_nil, ztx_len, zl32, zl33, zl34, zl35, zl36, zl37, zl38, zl39]; omega)) dL_setup_208 (by omega) fun V8 d8 h8 => ?_
  refine zP_aload_n (pc := 211) (h8.1.ok C0) (x := zqa V0) dL_setup_211 rfl rfl ?_
  refine zP_bipush (pc := 212) (h8.1.ok C0) dL_setup_212 rfl ?_
  refine zP_iconst (pc := 214) (h8.1.ok C0) dL_setup_214 ?_
  refine zP_bipush (pc := 215) (h8.1.ok C0) dL_setup_215 rfl ?_
  refine zP_drw (pc := 217) (kx := 31) (lo := 0) (hi := 6) (st := [.ref (qb)]) C0 h8.1 hqn (by omega) (by omega) dL_setup_217 (Nat.le_of_ble_eq_true rfl) (by omega) ?_
  have r217 := drw_R (V := V0) (k := 31) (lo := 0) (hi := 6) (by omega)
  have g217 := dgs_l (V := V0) (k := 31) (lo := 0) (hi := 6) (by omega)
  refine zP_apI (v := drw V0 (31) (0) (6)) (pc := 220) C0 HB h8 (by omega) (by first | omega | (simp only [List.length_append, List.length_cons, List.length_nil, ztx_len, zl32, zl33, zl34, zl35, zl36, zl37, zl38, zl39]; omega)) dL_setup_220 (by omega) fun V9 d9 h9 => ?_
  refine zP_pop (pc := 223) (h9.1.ok C0) (v := .ref (qb)) dL_setup_223 rfl ?_
  refine zP_aload_n (pc := 224) (h9.1.ok C0) (x := qb) dL_setup_224 rfl rfl ?_
  refine zP_apS (t := 38) (pc := 225) C0 HB h9 (by decide) rfl rfl (by first | omega | (simp only [List.length_append, List.length_cons, List.length_nil, ztx_len, zl32, zl33, zl34, zl35, zl36, zl37, zl38, zl39]; omega)) dL_setup_225 dL_setup_227 (by omega) fun V10 d10 h10 => ?_
  refine zP_aload_n (pc := 230) (h10.1.ok C0) (x := zqa V0) dL_setup_230 rfl rfl ?_
  refine zP_bipush (pc := 231) (h10.1.ok C0) dL_setup_231 rfl ?_
  refine zP_iconst (pc := 233) (h10.1.ok C0) dL_setup_233 ?_
  refine zP_iconst (pc := 234) (h10.1.ok C0) dL_setup_234 ?_
  refine zP_drw (pc := 235) (kx := 32) (lo := 0) (hi := 3) (st := [.ref (qb)]) C0 h10.1 hqn (by omega) (by omega) dL_setup_235 (Nat.le_of_ble_eq_true rfl) (by omega) ?_
  have r235 := drw_R (V := V0) (k := 32) (lo := 0) (hi := 3) (by omega)
  have g235 := dgs_l (V := V0) (k := 32) (lo := 0) (hi := 3) (by omega)
  refine zP_apI (v := drw V0 (32) (0) (3)) (pc := 238) C0 HB h10 (by omega) (by first | omega | (simp only [List.length_append, List.length_cons, List.length_nil, ztx_len, zl32, zl33, zl34, zl35, zl36, zl37, zl38, zl39]; omega)) dL_setup_238 (by omega) fun V11 d11 h11 => ?_
  refine zP_apS (t := 39) (pc := 241) C0 HB h11 (by decide) rfl rfl (by first | omega | (simp only [List.length_append, List.length_cons, List.length_nil, ztx_len, zl32, zl33, zl34, zl35, zl36, zl37, zl38, zl39]; omega)) dL_setup_241 dL_setup_243 (by omega) fun V12 d12 h12 => ?_
  refine zP_aload_n (pc := 246) (h12.1.ok C0) (x := zqa V0) dL_setup_246 rfl rfl ?_
  refine zP_bipush (pc := 247) (h12.1.ok C0) dL_setup_247 rfl ?_
  refine zP_iconst (pc := 249) (h12.1.ok C0) dL_setup_249 ?_
  refine zP_bipush (pc := 250) (h12.1.ok C0) dL_setup_250 rfl ?_
  refine zP_drw (pc := 252) (kx := 33) (lo := 0) (hi := 60) (st := [.ref (qb)]) C0 h12.1 hqn (by omega) (by omega) dL_setup_252 (Nat.le_of_ble_eq_true rfl) (by omega) ?_
  have r252 := drw_R (V := V0) (k := 33) (lo := 0) (hi := 60) (by omega)
  have g252 := dgs_l (V := V0) (k := 33) (lo := 0) (hi := 60) (by omega)
  refine zP_apI (v := drw V0 (33) (0) (60)) (pc := 255) C0 HB h12 (by omega) (by first | omega | (simp only [List.length_append, List.length_cons, List.length_nil, ztx_len, zl32, zl33, zl34, zl35, zl36, zl37, zl38, zl39]; omega)) dL_setup_255 (by omega) fun V13 d13 h13 => ?_
  refine zP_bipush (pc := 258) (h13.1.ok C0) dL_setup_258 rfl ?_
  refine zP_apC (c := 32) (pc := 260) C0 HB h13 (by omega) (by first | omega | (simp only [List.length_append, List.length_cons, List.length_nil, ztx_len, zl32, zl33, zl34, zl35, zl36, zl37, zl38, zl39]; omega)) dL_setup_260 (by omega) fun V14 d14 h14 => ?_
  refine zP_aload_n (pc := 263) (h14.1.ok C0) (x := zqa V0) dL_setup_263 rfl rfl ?_
  refine zP_bipush (pc := 264) (h14.1.ok C0) dL_setup_264 rfl ?_
  refine zP_iconst (pc := 266) (h14.1.ok C0) dL_setup_266 ?_
  refine zP_sipush (pc := 267) (h14.1.ok C0) dL_setup_267 rfl ?_
  refine zP_drw (pc := 270) (kx := 34) (lo := 0) (hi := 9999) (st := [.ref (qb)]) C0 h14.1 hqn (by omega) (by omega) dL_setup_270 (Nat.le_of_ble_eq_true rfl) (by omega) ?_
  have r270 := drw_R (V := V0) (k := 34) (lo := 0) (hi := 9999) (by omega)
  have g270 := dgs_l (V := V0) (k := 34) (lo := 0) (hi := 9999) (by omega)
  refine zP_apI (v := drw V0 (34) (0) (9999)) (pc := 273) C0 HB h14 (by omega) (by first | omega | (simp only [List.length_append, List.length_cons, List.length_nil, ztx_len, zl32, zl33, zl34, zl35, zl36, zl37, zl38, zl39]; omega)) dL_setup_273 (by omega) fun V15 d15 h15 => ?_
  refine zP_bipush (pc := 276) (h15.1.ok C0) dL_setup_276 rfl ?_
  refine zP_apC (c := 59) (pc := 278) C0 HB h15 (by omega) (by first | omega | (simp only [List.length_append, List.length_cons, List.length_nil, ztx_len, zl32, zl33, zl34, zl35, zl36, zl37, zl38, zl39]; omega)) dL_setup_278 (by omega) fun V16 d16 h16 => ?_
  obtain ⟨hv, ⟨qa, a, cap, hb, hcap⟩, hq⟩ := h16
  refine zP_callVB (pc := 281) (As := []) (st := []) (hv.ok C0) HB b78 (zSel_T (hv.ok C0) q1180) dL_setup_281 hb.1 (t_toString hb hcap (by first | omega | (simp only [List.length_append, List.length_cons, List.length_nil, ztx_len, zl32, zl33, zl34, zl35, zl36, zl37, zl38, zl39]; omega))) ⟨Nat.le_of_ble_eq_true rfl, Nat.le_of_ble_eq_true rfl⟩ rfl (Nat.le_of_ble_eq_true rfl) (by show _ ≤ 80 ∧ _ ≤ 130000; omega) fun ov V d hv1 hp => ?_
  obtain ⟨qs, b, rfl, hb4, hb5, hst, hq1⟩ := hp
  exact zP_aretB (pc := 284) ((hv.tr hv1).ok C0) (Or.inl ⟨RJ0, rfl⟩) E (hv.tr hv1) (by omega) ⟨qs, b, rfl, hb4, hb5, hst, hq.tr hq1⟩ dL_setup_284
end SETUP
theorem t_setup {V : zW} {d : zD} {many : Int} (hqn : zqn V ≤ 260) (wf : zWf V) (hu : ∀ c, 440 ≤ c → zsh V c = none) (hm : 1 ≤ many ∧ many ≤ 4) : zMetB V 6 80 130000 yL_setup cL_setup 5 (some (.object RJ0)) [.ref (zqa V), .int (zI many)] d (zPts V d (aText V many)) := by
  refine zMetB_by RL pn99 rfl (Nat.le_of_ble_eq_true rfl) [some (.ref (zqa V)), some (.int (zI many)), none, none, none] rfl fun X C HB HI E => ?_
  refine zP.clr (a := 440) (hu _ (by omega)) ?_
  have hcl : ∀ c, c ≠ 440 → zclr d 440 c = d c := fun c hc => zclr_ne hc
  refine zP_newq (a := 440) (pc := 0) C tyJ4 cf12 tyJ4_ok w_sbn dL_setup_0 wf (hu _ (by omega)) (fun j => if_pos rfl) zfN_4 zfN_no ⟨Nat.le_of_ble_eq_true rfl, Nat.le_of_ble_eq_true rfl⟩ fun V1 qb e1 w1 hs1 => ?_
  have C1 := e1.v.ok C
  have eq : zqa V1 = zqa V := by
    obtain ⟨ad, sh, rfl⟩ := e1.v
    rfl
  refine zP_dup (pc := 3) C1 (v := .ref qb) dL_setup_3 rfl ?_
  refine zP_callIB (pc := 4) (As := []) (st := [.ref qb]) C1 HB b44 rfl dL_setup_4 (t_initB hs1 w1 (fun c hc => by rw [e1.2.2.1 c (by omega)]; exact hu c (by omega)) (fun j => if_pos rfl)) ⟨Nat.le_of_ble_eq_true rfl, Nat.le_of_ble_eq_true rfl⟩ rfl (Nat.le_of_ble_eq_true rfl) (by show 0 + 1 + 1 ≤ 80 ∧ 0 + 4 + 16 ≤ 130000; omega) fun ov V2 d2 hv hp => ?_
  obtain ⟨rfl, q1, hb, hq⟩ := hp
  have C2 := hv.ok C1
  have h2 : zST V d V2 d2 qb [] := ⟨e1.v.tr hv, ⟨q1, 441, 16, hb, by decide⟩, (zKq.of e1 (fun c hc => by omega) (fun c hc => hcl c (by omega))).tr hq⟩
  refine zP_astore_n (pc := 7) C2 (L' := [some (.ref (zqa V)), some (.int (zI many)), some (.ref qb), none, none]) dL_setup_7 rfl (Nat.le_of_ble_eq_true rfl) rfl rfl ?_
  refine zP_iconst (pc := 8) C2 dL_setup_8 ?_
  refine zP_istore_n (pc := 9) C2 (L' := [some (.ref (zqa V)), some (.int (zI many)), some (.ref qb), some (.int (zI ((0 : Nat) : Int))), none]) dL_setup_9 rfl (Nat.le_of_ble_eq_true rfl) rfl rfl ?_
  refine w_terms C HB hqn hm (fun V3 d3 k n h3 hk hn => ?_) many.toNat (j := 0) (by omega) h2 (by omega) (by omega)
  have hl := aTerms_l (V := V) many.toNat
  have C3 := h3.1.ok C
  have r111 := drw_R (V := V) (k := 20) (lo := 1) (hi := 6) (by omega)
  refine zP_aload_n (pc := 98) (h3.1.ok C) (x := qb) dL_setup_98 rfl rfl ?_
  refine zP_apS (t := 36) (pc := 99) C HB h3 (by decide) rfl rfl (by first | omega | (simp only [List.length_append, List.length_cons, List.length_nil, ztx_len, zl32, zl33, zl34, zl35, zl36, zl37, zl38, zl39]; omega)) dL_setup_99 dL_setup_101 (by omega) fun V4 d4 h4 => ?_
  refine zP_pop (pc := 104) (h4.1.ok C) (v := .ref (qb)) dL_setup_104 rfl ?_
  refine zP_aload_n (pc := 105) (h4.1.ok C) (x := zqa V) dL_setup_105 rfl rfl ?_
  refine zP_bipush (pc := 106) (h4.1.ok C) dL_setup_106 rfl ?_
  refine zP_iconst (pc := 108) (h4.1.ok C) dL_setup_108 ?_
  refine zP_bipush (pc := 109) (h4.1.ok C) dL_setup_109 rfl ?_
  refine zP_drw (pc := 111) (kx := 20) (lo := 1) (hi := 6) (st := []) C h4.1 hqn (by omega) (by omega) dL_setup_111 (Nat.le_of_ble_eq_true rfl) (by omega) ?_
  obtain ⟨p, hp⟩ := Int.eq_ofNat_of_zero_le (show 0 ≤ drw V 20 1 6 by omega)
  rw [hp]
  refine zP_istore_n (pc := 114) (h4.1.ok C) (L' := [some (.ref (zqa V)), some (.int (zI (many))), some (.ref (qb)), some (.int (zI (((p : Nat) : Int)))), none]) dL_setup_114 rfl (Nat.le_of_ble_eq_true rfl) rfl rfl ?_
  refine zP_iconst (pc := 115) (h4.1.ok C) dL_setup_115 ?_
  refine zP_istore (pc := 116) (h4.1.ok C) (L' := [some (.ref (zqa V)), some (.int (zI many)), some (.ref qb), some (.int (zI ((p : Nat) : Int))), some (.int (zI ((0 : Nat) : Int)))]) dL_setup_116 (Nat.le_of_ble_eq_true rfl) rfl rfl ?_
  refine w_places C HB hqn hm (bs := aTerms V many.toNat ++ ztx 36) (by simp only [List.length_append, List.length_cons, List.length_nil, ztx_len, zl32, zl33, zl34, zl35, zl36, zl37, zl38, zl39]; omega) (p := p) (by omega) (fun V5 d5 k5 n5 h5 hk5 hn5 => ?_) p (j := 0) (by omega) h4 (by omega) (by omega)
  have e : aPls V many (aTerms V many.toNat ++ ztx 36) p = aHead V many := by
    unfold aHead
    rw [hp]
    rfl
  rw [e] at h5
  refine w_tail C HB E hqn h5 ?_ (by omega) (by omega)
  rw [← e, aPls_l]
  simp only [List.length_append, ztx_len, zl36]
  omega
