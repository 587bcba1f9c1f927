/-! The law's rounds. -/
theorem zP_ints {V : zW} {X : zX} {nL k n pc : Nat} {L : List (Option Value)} {st : List Value} {d : zD} (h : (∀ c j, zR (d c j)) → zP V X nL k n pc L st d) : zP V X nL k n pc L st d := by
  obtain ⟨p, l, e, R, s, m, args, below, meth, c, Q⟩ := X
  intro ls H locs hl hP hS
  exact h hP.2.2 ls H locs hl hP hS
theorem GR_sound {d ds : zD} (hg : GR d ds) (hZ : ∀ c j, zR (d c j)) : f_L_isSound d = some (1, d) := by
  obtain ⟨K, L, hr, hz⟩ := GR_L hg
  exact q_isSound hr hz hZ
theorem LR_sound {d : zD} {s : Nat → Int} (hl : LR d 30 s) (hZ : ∀ c j, zR (d c j)) : f_L_isSound d = some (1, d) := by
  obtain ⟨K, L, hr, hz⟩ := hl
  exact q_isSound hr hz hZ
section LAW
variable {V : zW} {X : zX} {k n : Nat} {rt : Option FieldType}
theorem law_rounds (hT : zo11 V) (hqn : zqn V ≤ 260) (C : zOk V X cL_law RL 10 room_1 rt) (hkn : k ≤ 600086 ∧ n ≤ 7301442) {many : Int} (hm : 1 ≤ many ∧ many ≤ 4) {R : Nat} (hR : R ≤ 20) (fin : ∀ d ds, GR d ds → ds 401 0 = many → ds 401 4 ≤ 20 → ds 401 2 ≤ 20 → zP V X 10 k n 91 [some (.ref (zqa V)), some (.ref (zad V 0)), some (.int (zI many)), none, none, none, none, none, none, none] [] d) : ∀ (m : Nat) {j : Nat} {d ds : zD} (_ : j + m = R) (_ : GR d ds) (_ : ds 401 0 = many) (_ : ds 401 2 ≤ j) (_ : ds 401 4 = j), zP V X 10 k n 50 [some (.ref (zqa V)), some (.ref (zad V 0)), some (.int (zI many)), some (.int (zI (R : Int))), some (.int (zI (j : Int))), none, none, none, none, none] [] d := by
  intro m
  induction m with
  | zero =>
    intro j d ds hj hg h0 h2 h4
    refine zP_iload (pc := 50) C (x := zI (j : Int)) dL_law_50 rfl ?_
    refine zP_iload_n (pc := 52) C (x := zI (R : Int)) dL_law_52 rfl rfl ?_
    refine zP_icmp_ge (β := Unit) (r := ()) (A := some ()) (B := some ()) (pc := 53) (tgt := 91) C dL_law_53 rfl ⟨by omega, by omega⟩ ⟨by omega, by omega⟩ (by split <;> rfl) (fun _ _ => ?_) (fun h _ => absurd h (by omega))
    exact zP_mask [true, true, true, false, false, false, false, false, false, false] (fin d ds hg h0 (by omega) (by omega))
  | succ m ih =>
    intro j d ds hj hg h0 h2 h4
    have rj : zR (j : Int) := ⟨by omega, by omega⟩
    have rm : zR many := ⟨by omega, by omega⟩
    refine zP_iload (pc := 50) C (x := zI (j : Int)) dL_law_50 rfl ?_
    refine zP_iload_n (pc := 52) C (x := zI (R : Int)) dL_law_52 rfl rfl ?_
    refine zP_icmp_ge (β := Unit) (r := ()) (A := some ()) (B := some ()) (pc := 53) (tgt := 91) C dL_law_53 rfl rj ⟨by omega, by omega⟩ (by split <;> rfl) (fun h _ => absurd h (by omega)) (fun _ _ => ?_)
    refine zP_aload_n (pc := 56) C (x := zad V 0) dL_law_56 rfl rfl ?_
    refine zP_aload_n (pc := 57) C (x := zqa V) dL_law_57 rfl rfl ?_
    refine zP_bipush (pc := 58) C dL_law_58 rfl ?_
    refine zP_iconst (pc := 60) C dL_law_60 ?_
    refine zP_iload (pc := 61) C (x := zI (j : Int)) dL_law_61 rfl ?_
    refine zP_imul (K := fun v => some v) (r := 4 * (j : Int)) (pc := 63) C dL_law_63 (by rw [zl_n, zw_id (by omega) (by omega)]) fun v hv e => ?_
    cases e
    refine zP_iadd (K := fun v => some v) (r := 40 + 4 * (j : Int)) (pc := 64) C dL_law_64 (by rw [zl_n, zw_id (by omega) (by omega)]) fun v hv e => ?_
    cases e
    refine zP_iload_n (pc := 65) C (x := zI many) dL_law_65 rfl rfl ?_
    obtain ⟨d1, s1, a1, a2, a3⟩ := q_acts (V := V) (k := 40 + 4 * (j : Int)) hg h0 (by omega) (by omega)
    refine zP_callS (pc := 66) (As := [.ref (zad V 0), .ref (zqa V), .int (zI (40 + 4 * (j : Int))), .int (zI many)]) (st := []) C m99_173 dL_law_66 (t_L_acts hT hqn hv rm a1) ⟨Nat.le_of_ble_eq_true rfl, Nat.le_of_ble_eq_true rfl⟩ rfl (Nat.le_of_ble_eq_true rfl) hkn fun _ => ?_
    obtain ⟨b0, b4, b2, b2'⟩ := a3
    refine zP_aload_n (pc := 69) C (x := zad V 0) dL_law_69 rfl rfl ?_
    refine zP_ints fun hZ => ?_
    obtain ⟨d2, s2, t1, t2, t3, t4⟩ := q_isTurned a2 hZ (by omega)
    refine zP_callS (pc := 70) (As := [.ref (zad V 0)]) (st := []) C m99_177 dL_law_70 (t_L_isTurned hT t1) ⟨Nat.le_of_ble_eq_true rfl, Nat.le_of_ble_eq_true rfl⟩ rfl (Nat.le_of_ble_eq_true rfl) hkn fun _ => ?_
    refine zP_if_eq (β := Unit) (r := ()) (A := some ()) (B := some ()) (pc := 73) (tgt := 83) C dL_law_73 rfl (x := 1) (zRk rfl) rfl (fun h _ => absurd h (by decide)) (fun _ _ => ?_)
    refine zP_aload_n (pc := 76) C (x := zad V 0) dL_law_76 rfl rfl ?_
    refine zP_ints fun hZ => ?_
    refine zP_callS (pc := 77) (As := [.ref (zad V 0)]) (st := []) C m99_169 dL_law_77 (t_L_isSound hT (GR_sound t2 hZ)) ⟨Nat.le_of_ble_eq_true rfl, Nat.le_of_ble_eq_true rfl⟩ rfl (Nat.le_of_ble_eq_true rfl) hkn fun _ => ?_
    refine zP_if_ne (β := Unit) (r := ()) (A := some ()) (B := some ()) (pc := 80) (tgt := 85) C dL_law_80 rfl (x := 1) (zRk rfl) rfl (fun _ _ => ?_) (fun h _ => absurd h (by decide))
    have e2 : s2 401 2 = s1 401 2 := t4.1 2 (by omega) (by omega) (by omega) (by omega)
    have e0 : s2 401 0 = s1 401 0 := t4.1 0 (by omega) (by omega) (by omega) (by omega)
    refine zP_iinc (β := Int) (r := ((j + 1 : Nat) : Int)) (K := fun v => some v) (pc := 85) C (x := (j : Int)) dL_law_85 rfl (Nat.le_of_ble_eq_true rfl) rfl (by rw [zl_n, zw_id (by omega) (by omega)]; rfl) fun v hv e => ?_
    cases e
    refine zP_goto (pc := 88) (tgt := 50) C dL_law_88 rfl ?_
    exact ih (j := j + 1) (by omega) t2 (by omega) (by omega) (by omega)
end LAW
