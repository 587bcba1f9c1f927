/-! The drawn text goes into the input. -/
theorem m99_15 : zMV RL 15 RJ0 yJ0_length_8abf5 cJ0_length_8abf5 1 (Option.some FieldType.int) 0 := ⟨q978, q455, q456, q34, q457, rfl, ⟨by decide +kernel, by decide +kernel⟩, by decide +kernel⟩
theorem m99_21 : zMV RL 21 RJ0 yJ0_charAt_5068e cJ0_charAt_5068e 2 (Option.some FieldType.char) 1 := ⟨q979, q465, q466, q34, q467, rfl, ⟨by decide +kernel, by decide +kernel⟩, by decide +kernel⟩
theorem zo11.go {V V1 : zW} {S : Nat → Prop} (E : zEy V V1 S) (h : zo11 V) (hS : ∀ c, c < 360 → ¬ S c) : zo11 V1 := by
  obtain ⟨h0, h25, h1, h30, h6, h60, h7, h90, h8, h10, h12, h20⟩ := h
  exact ⟨(E.2.2.1 _ (hS _ (by omega))).trans h0, (E.2.2.1 _ (hS _ (by omega))).trans h25, h1.go E (fun c _ _ => hS c (by omega)), h30.go E (fun c _ _ => hS c (by omega)) (fun c _ _ => hS c (by omega)), h6.go E (hS _ (by omega)) (fun c _ _ => hS c (by omega)) (fun c _ _ => hS c (by omega)), h60.go E (fun c _ _ => hS c (by omega)) (fun c _ _ => hS c (by omega)), h7.go E (hS _ (by omega)) (fun c _ _ => hS c (by omega)) (fun c _ _ => hS c (by omega)), h90.go E (fun c _ _ => hS c (by omega)) (fun c _ _ => hS c (by omega)), h8.go E (hS _ (by omega)) (hS _ (by omega)) (fun c _ _ => hS c (by omega)) (fun c _ _ => hS c (by omega)), h10.go E (fun c _ _ => hS c (by omega)), h12.go E (fun c _ _ => hS c (by omega)), h20.go E (fun c _ _ => hS c (by omega)) (fun c _ _ => hS c (by omega)) (fun c _ _ => hS c (by omega))⟩
theorem zdX.ex {V V1 : zW} {lo hi : Nat} {τ : zdW} (h : zdX V τ) (e : zEx V V1 lo hi) : zdX V1 τ := by
  obtain ⟨⟨ad, sh, rfl⟩, -⟩ := e
  exact h
/-- out of a world that grew -/
theorem zP.back {V V1 : zW} {X : zX} {nL k n pc : Nat} {L : List (Option Value)} {st : List Value} {d : zD} {lo hi : Nat} (h : zP V X nL k n pc L st d) (e : zEx V V1 lo hi) (wf : zWf V) (hn : ∀ c, lo ≤ c → c < hi → zsh V c = none) : zP V1 X nL k n pc L st d := by
  obtain ⟨p, l, e0, R, s, m, args, below, meth, c, Q⟩ := X
  intro ls H locs hl hP hS
  have eA : zA V1 = zA V := e.A
  rw [eA] at hS
  exact h ls H locs hl (hP.back e wf hn) hS
/-- a place that is none of the world's may hold anything -/
def zclr (d : zD) (a : Nat) : zD := fun c j => if c = a then 0 else d c j
theorem zclr_ne {d : zD} {a c : Nat} (h : c ≠ a) : zclr d a c = d c := by
  funext j
  exact if_neg h
theorem zP.clr {V : zW} {X : zX} {nL k n pc : Nat} {L : List (Option Value)} {st : List Value} {d : zD} {a : Nat} (hu : zsh V a = none) (h : zP V X nL k n pc L st (zclr d a)) : zP V X nL k n pc L st d := by
  obtain ⟨p, l, e0, R, s, m, args, below, meth, c, Q⟩ := X
  intro ls H locs hl hP hS
  refine h ls H locs hl ⟨fun c x hx => ?_, hP.2.1, fun c j => ?_⟩ hS
  · have hc : c ≠ a := fun q => by rw [q, hu] at hx; cases hx
    rw [zclr_ne hc]
    exact hP.1 c x hx
  · unfold zclr
    split
    · exact zRk rfl
    · exact hP.2.2 c j
/-- a letter is laid into its word -/
def j_L_feeds_55 (v28 v30 x4 c : Int) (K : Int → zD → Option (Int × zD)) (d : zD) : Option (Int × zD) :=
  zn 4 <| zl (zrem x4 4) fun v62 =>
  zl (zw (8 * v62)) fun v63 =>
  zl (zw (24 - v63)) fun v64 =>
  zl (zshl c v64) fun v65 =>
  zl (zor v30 v65) fun v66 =>
  zg 5 v28 <| zl (zu d 430 v28.toNat v66) fun d =>
  zl (zw (x4 + 1)) fun v68 => K v68 d
def l_L_feeds_17 (τ : zdW) (x2 : Int) (K : zD → Option (Int × zD)) : Nat → Int → zD → Option (Int × zD)
  | 0, _, _ => none
  | q + 1, x4, d =>
    if 20 ≤ x4 then K d else (
    zn 4 <| zl (zdiv x4 4) fun v28 =>
    zg 5 v28 <| zl (d 430 v28.toNat) fun v30 =>
    zl (zw (x2 + x4)) fun v34 =>
    zl (τ.2.2.1 : Int) fun v36 =>
    if v36 ≤ v34 then j_L_feeds_55 v28 v30 x4 32 (l_L_feeds_17 τ x2 K q) d
    else (zl (zw (x2 + x4)) fun v46 => zg τ.2.2.1 v46 <| zl (τ.2.2.2 v46.toNat) fun v47 => j_L_feeds_55 v28 v30 x4 v47 (l_L_feeds_17 τ x2 K q) d))
def j_L_feeds_74 (x2 : Int) (K : Int → zD → Option (Int × zD)) (d : zD) : Option (Int × zD) :=
  zg 5 0 <| zl (d 430 (0 : Int).toNat) fun w0 =>
  zg 5 1 <| zl (d 430 (1 : Int).toNat) fun w1 =>
  zg 5 2 <| zl (d 430 (2 : Int).toNat) fun w2 =>
  zg 5 3 <| zl (d 430 (3 : Int).toNat) fun w3 =>
  zg 5 4 <| zl (d 430 (4 : Int).toNat) fun w4 =>
  zc (f_X11_appendInput w0 w1 w2 w3 w4 d) fun _ d =>
  zl (zw (x2 + 20)) fun v94 => K v94 d
def l_L_feeds_2 (τ : zdW) : Nat → Int → zD → Option (Int × zD)
  | 0, _, _ => none
  | q + 1, x2, d =>
    zl (τ.2.2.1 : Int) fun v4 =>
    if v4 ≤ x2 then (zl (τ.2.2.1 : Int) fun v102 => zc (f_X11_truncateInput v102 d) fun _ d => some (0, d))
    else zg 600 x2 <| l_L_feeds_17 τ x2 (j_L_feeds_74 x2 (fun v d => if v = x2 + 20 then l_L_feeds_2 τ q v d else none)) 100 0 (zclr d 430)
def f_L_feeds (τ : zdW) (d : zD) : Option (Int × zD) := l_L_feeds_2 τ 100 0 d
section FEEDS
variable {V : zW} {X : zX} {k n : Nat} {R0 : Room} {rv : Int} {dz : zD}
theorem wj_L_feeds_55 {τ : zdW} (C : zOk V X cL_feeds RL 5 R0 none) (hs : zsh V 430 = some (1, 5, zk0)) {x2 x4 v28 v30 c : Int} {K : Int → zD → Option (Int × zD)} (h28 : zR v28) (h4 : zR x4) {d : zD} (h : j_L_feeds_55 v28 v30 x4 c K d = some (rv, dz)) (kk : ∀ v d, zR v → K v d = some (rv, dz) → zP V X 5 k n 17 [some (.ref (zad V 0)), some (.ref τ.1), some (.int (zI x2)), some (.ref (zad V 430)), some (.int (zI v))] [] d) : zP V X 5 k n 55 [some (.ref (zad V 0)), some (.ref τ.1), some (.int (zI x2)), some (.ref (zad V 430)), some (.int (zI x4))] [.int (zI c), .int (zI v30), .int (zI v28), .ref (zad V 430)] d := by
  refine zP_bipush (pc := 55) C dL_feeds_55 rfl ?_
  refine zP_bipush (pc := 57) C dL_feeds_57 rfl ?_
  refine zP_iload (pc := 59) C (x := zI x4) dL_feeds_59 rfl ?_
  refine zP_iconst (pc := 61) C dL_feeds_61 ?_
  refine zP_irem (pc := 62) C dL_feeds_62 (zRk rfl) h fun v62 hv62 h => ?_
  refine zP_imul (pc := 63) C dL_feeds_63 h fun v63 hv63 h => ?_
  refine zP_isub (pc := 64) C dL_feeds_64 h fun v64 hv64 h => ?_
  refine zP_ishl (pc := 65) C dL_feeds_65 h fun v65 hv65 h => ?_
  refine zP_ior (pc := 66) C dL_feeds_66 h fun v66 hv66 h => ?_
  refine zP_iast (pc := 67) (a := 430) C dL_feeds_67 hs h28 hv66 h fun d h => ?_
  refine zP_iinc (pc := 68) C (x := x4) dL_feeds_68 rfl (Nat.le_of_ble_eq_true rfl) rfl h fun v68 hv68 h => ?_
  refine zP_goto (pc := 71) (tgt := 17) C dL_feeds_71 rfl ?_
  exact kk v68 d hv68 h
theorem wl_L_feeds_17 {τ : zdW} (hdx : zdX V τ) (C : zOk V X cL_feeds RL 5 R0 none) (hfit : zfit 3 2 R0) (hkn : k ≤ R0.cells ∧ n ≤ R0.slots) (hs : zsh V 430 = some (1, 5, zk0)) {x2 : Int} (h2 : zR x2) {K : zD → Option (Int × zD)} (kk : ∀ d, K d = some (rv, dz) → zP V X 5 k n 74 [some (.ref (zad V 0)), some (.ref τ.1), some (.int (zI x2)), some (.ref (zad V 430)), none] [] d) : ∀ (q : Nat) {x4 : Int} (_ : zR x4) {d : zD} (_ : l_L_feeds_17 τ x2 K q x4 d = some (rv, dz)), zP V X 5 k n 17 [some (.ref (zad V 0)), some (.ref τ.1), some (.int (zI x2)), some (.ref (zad V 430)), some (.int (zI x4))] [] d := by
  have hn := hdx.2.1
  intro q
  induction q with
  | zero => intro x4 h4 d h; cases (show (none : Option (Int × zD)) = some (rv, dz) from h)
  | succ q ih =>
    intro x4 h4 d h
    unfold l_L_feeds_17 at h
    refine zP_iload (pc := 17) C (x := zI x4) dL_feeds_17 rfl ?_
    refine zP_bipush (pc := 19) C dL_feeds_19 rfl ?_
    refine zP_icmp_ge (pc := 21) (tgt := 74) C dL_feeds_21 rfl h4 (zRk rfl) h (fun _ h => ?_) (fun _ h => ?_)
    · exact zP_mask [true, true, true, true, false] (kk d h)
    · refine zP_aload_n (pc := 24) C (x := zad V 430) dL_feeds_24 rfl rfl ?_
      refine zP_iload (pc := 25) C (x := zI x4) dL_feeds_25 rfl ?_
      refine zP_iconst (pc := 27) C dL_feeds_27 ?_
      refine zP_idiv (pc := 28) C dL_feeds_28 (zRk rfl) h fun v28 hv28 h => ?_
      refine zP_dup2 (pc := 29) C dL_feeds_29 rfl rfl ?_
      refine zP_iald (pc := 30) (a := 430) C dL_feeds_30 hs hv28 h fun v30 hv30 h => ?_
      refine zP_iload_n (pc := 31) C (x := zI x2) dL_feeds_31 rfl rfl ?_
      refine zP_iload (pc := 32) C (x := zI x4) dL_feeds_32 rfl ?_
      refine zP_iadd (pc := 34) C dL_feeds_34 h fun v34 hv34 h => ?_
      refine zP_aload_n (pc := 35) C (x := τ.1) dL_feeds_35 rfl rfl ?_
      refine zP_udlen (pc := 36) C m99_15 hdx dL_feeds_36 ⟨Nat.le_trans (by decide) hfit.1, Nat.le_trans (by decide) hfit.2⟩ (Nat.le_of_ble_eq_true rfl) hkn h fun v36 hv36 h => ?_
      refine zP_icmp_ge (pc := 39) (tgt := 53) C dL_feeds_39 rfl hv34 hv36 h (fun _ h => ?_) (fun _ h => ?_)
      · refine zP_bipush (pc := 53) C dL_feeds_53 rfl ?_
        exact wj_L_feeds_55 C hs hv28 h4 h fun v d hv h => ih hv h
      · refine zP_aload_n (pc := 42) C (x := τ.1) dL_feeds_42 rfl rfl ?_
        refine zP_iload_n (pc := 43) C (x := zI x2) dL_feeds_43 rfl rfl ?_
        refine zP_iload (pc := 44) C (x := zI x4) dL_feeds_44 rfl ?_
        refine zP_iadd (pc := 46) C dL_feeds_46 h fun v46 hv46 h => ?_
        refine zP_udch (pc := 47) C m99_21 hdx dL_feeds_47 hv46 hfit (Nat.le_of_ble_eq_true rfl) hkn h fun v47 hv47 h => ?_
        refine zP_goto (pc := 50) (tgt := 55) C dL_feeds_50 rfl ?_
        exact wj_L_feeds_55 C hs hv28 h4 h fun v d hv h => ih hv h
theorem wj_L_feeds_74 {τ : zdW} (hT : zo11 V) (C : zOk V X cL_feeds RL 5 R0 none) (hfit : zfit 2 6 R0) (hkn : k ≤ R0.cells ∧ n ≤ R0.slots) (hs : zsh V 430 = some (1, 5, zk0)) {x2 : Int} {K : Int → zD → Option (Int × zD)} {d : zD} (h : j_L_feeds_74 x2 K d = some (rv, dz)) (kk : ∀ v d, zR v → K v d = some (rv, dz) → zP V X 5 k n 2 [some (.ref (zad V 0)), some (.ref τ.1), some (.int (zI v)), none, none] [] d) : zP V X 5 k n 74 [some (.ref (zad V 0)), some (.ref τ.1), some (.int (zI x2)), some (.ref (zad V 430)), none] [] d := by
  unfold j_L_feeds_74 at h
  refine zP_aload_n (pc := 74) C (x := zad V 0) dL_feeds_74 rfl rfl ?_
  refine zP_aload_n (pc := 75) C (x := zad V 430) dL_feeds_75 rfl rfl ?_
  refine zP_iconst (pc := 76) C dL_feeds_76 ?_
  refine zP_iald (pc := 77) (a := 430) C dL_feeds_77 hs (zRk rfl) h fun w0 h0 h => ?_
  refine zP_aload_n (pc := 78) C (x := zad V 430) dL_feeds_78 rfl rfl ?_
  refine zP_iconst (pc := 79) C dL_feeds_79 ?_
  refine zP_iald (pc := 80) (a := 430) C dL_feeds_80 hs (zRk rfl) h fun w1 h1 h => ?_
  refine zP_aload_n (pc := 81) C (x := zad V 430) dL_feeds_81 rfl rfl ?_
  refine zP_iconst (pc := 82) C dL_feeds_82 ?_
  refine zP_iald (pc := 83) (a := 430) C dL_feeds_83 hs (zRk rfl) h fun w2 h2 h => ?_
  refine zP_aload_n (pc := 84) C (x := zad V 430) dL_feeds_84 rfl rfl ?_
  refine zP_iconst (pc := 85) C dL_feeds_85 ?_
  refine zP_iald (pc := 86) (a := 430) C dL_feeds_86 hs (zRk rfl) h fun w3 h3 h => ?_
  refine zP_aload_n (pc := 87) C (x := zad V 430) dL_feeds_87 rfl rfl ?_
  refine zP_iconst (pc := 88) C dL_feeds_88 ?_
  refine zP_iald (pc := 89) (a := 430) C dL_feeds_89 hs (zRk rfl) h fun w4 h4 h => ?_
  obtain ⟨rv1, d1, hc, h⟩ := zc_h h
  refine zP_callV (pc := 90) (As := [.int (zI w0), .int (zI w1), .int (zI w2), .int (zI w3), .int (zI w4)]) (st := []) C m99_25 dL_feeds_90 (s_X11 hT) rfl (t_X11_appendInput hT h0 h1 h2 h3 h4 hc) hfit rfl (Nat.le_of_ble_eq_true rfl) hkn fun hw => ?_
  refine zP_pop (pc := 93) (v := .int (zI rv1)) C dL_feeds_93 rfl ?_
  refine zP_iinc (pc := 94) C (x := x2) dL_feeds_94 rfl (Nat.le_of_ble_eq_true rfl) rfl h fun v94 hv94 h => ?_
  refine zP_goto (pc := 97) (tgt := 2) C dL_feeds_97 rfl ?_
  exact zP_mask [true, true, true, false, false] (kk v94 d1 hv94 h)
theorem wl_L_feeds_2 {τ : zdW} (hT : zo11 V) (wf : zWf V) (hu : zsh V 430 = none) (hdx : zdX V τ) (C : zOk V X cL_feeds RL 5 (zrmC 4 31 155) none) (E : zEndA V X none (rv = 0) 31 155 dz) : ∀ (q : Nat) {j : Nat} {d : zD} (_ : k = j) (_ : n = 5 * j) (_ : j ≤ 31) (_ : l_L_feeds_2 τ q (20 * (j : Int)) d = some (rv, dz)), zP V X 5 k n 2 [some (.ref (zad V 0)), some (.ref τ.1), some (.int (zI (20 * (j : Int)))), none, none] [] d := by
  have hn := hdx.2.1
  intro q
  induction q generalizing k n with
  | zero => intro j d hk hn hj h; cases (show (none : Option (Int × zD)) = some (rv, dz) from h)
  | succ q ih =>
    intro j d hk hnj hj h
    have hr : zR (20 * (j : Int)) := ⟨by omega, by omega⟩
    unfold l_L_feeds_2 at h
    refine zP_iload_n (pc := 2) C (x := zI (20 * (j : Int))) dL_feeds_2 rfl rfl ?_
    refine zP_aload_n (pc := 3) C (x := τ.1) dL_feeds_3 rfl rfl ?_
    refine zP_udlen (pc := 4) C m99_15 hdx dL_feeds_4 ⟨Nat.le_of_ble_eq_true rfl, Nat.le_of_ble_eq_true rfl⟩ (Nat.le_of_ble_eq_true rfl) (by show k ≤ 31 ∧ n ≤ 155; omega) h fun v4 hv4 h => ?_
    have e4 : v4 = v4 := rfl
    refine zP_icmp_ge (pc := 7) (tgt := 100) C dL_feeds_7 rfl hr hv4 h (fun _ h => ?_) (fun hlt h => ?_)
    · refine zP_aload_n (pc := 100) C (x := zad V 0) dL_feeds_100 rfl rfl ?_
      refine zP_aload_n (pc := 101) C (x := τ.1) dL_feeds_101 rfl rfl ?_
      refine zP_udlen (pc := 102) C m99_15 hdx dL_feeds_102 ⟨Nat.le_of_ble_eq_true rfl, Nat.le_of_ble_eq_true rfl⟩ (Nat.le_of_ble_eq_true rfl) (by show k ≤ 31 ∧ n ≤ 155; omega) h fun v102 hv102 h => ?_
      obtain ⟨rv1, d1, hc, h⟩ := zc_h h
      refine zP_callV (pc := 105) (As := [.int (zI v102)]) (st := []) C m99_31 dL_feeds_105 (s_X11 hT) rfl (t_X11_truncateInput hT hv102 hc) ⟨Nat.le_of_ble_eq_true rfl, Nat.le_of_ble_eq_true rfl⟩ rfl (Nat.le_of_ble_eq_true rfl) (by show k ≤ 31 ∧ n ≤ 155; omega) fun hw => ?_
      refine zP_pop (pc := 108) (v := .int (zI rv1)) C dL_feeds_108 rfl ?_
      have h9 := Option.some.inj h
      have hrv : (0 : Int) = rv := congrArg Prod.fst h9
      have hdz : d1 = dz := congrArg Prod.snd h9
      exact zP_vretA (pc := 109) C E (zEx.rf (lo := 0) (hi := 0)) wf (fun c _ h2 => by omega) (by omega) hrv.symm hdz dL_feeds_109
    · obtain ⟨hg, h⟩ := zg_h h
      refine zP_iconst (pc := 10) C dL_feeds_10 ?_
      refine zP.clr hu ?_
      refine zP_newI (pc := 11) (a := 430) (N := 5) C dL_feeds_11 wf hu (fun i => if_pos rfl) (zRk rfl) (by decide) rfl (by decide) (by show k + 1 ≤ 31 ∧ n + 5 ≤ 155; omega) fun V1 e1 wf1 hs1 => ?_
      have hT1 : zo11 V1 := zo11.go e1.y hT fun c h => by omega
      have a0 : zad V1 0 = zad V 0 := e1.2.1 0 (by rw [s_X11 hT]; rfl)
      have C1 : zOk V1 X cL_feeds RL 5 (zrmC 4 31 155) none := e1.ok C
      refine zP_astore_n (pc := 13) C1 (L' := [some (.ref (zad V 0)), some (.ref τ.1), some (.int (zI (20 * (j : Int)))), some (.ref (zad V1 430)), none]) dL_feeds_13 rfl (Nat.le_of_ble_eq_true rfl) rfl rfl ?_
      refine zP_iconst (pc := 14) C1 dL_feeds_14 ?_
      refine zP_istore (pc := 15) C1 (L' := [some (.ref (zad V 0)), some (.ref τ.1), some (.int (zI (20 * (j : Int)))), some (.ref (zad V1 430)), some (.int (zI 0))]) dL_feeds_15 (Nat.le_of_ble_eq_true rfl) rfl rfl ?_
      rw [← a0]
      refine wl_L_feeds_17 (hdx.ex e1) C1 ⟨Nat.le_of_ble_eq_true rfl, Nat.le_of_ble_eq_true rfl⟩ (by show k + 1 ≤ 31 ∧ n + 5 ≤ 155; omega) hs1 hr (fun d h => ?_) 100 (zRk rfl) h
      refine wj_L_feeds_74 hT1 C1 ⟨Nat.le_of_ble_eq_true rfl, Nat.le_of_ble_eq_true rfl⟩ (by show k + 1 ≤ 31 ∧ n + 5 ≤ 155; omega) hs1 h fun v d hv h => ?_
      have hv2 : v = 20 * ((j + 1 : Nat) : Int) ∧ l_L_feeds_2 τ q (20 * ((j + 1 : Nat) : Int)) d = some (rv, dz) := by
        by_cases e : v = 20 * (j : Int) + 20
        · rw [if_pos e] at h
          have e2 : v = 20 * ((j + 1 : Nat) : Int) := by omega
          rw [e2] at h
          exact ⟨e2, h⟩
        · rw [if_neg e] at h
          cases h
      obtain ⟨rfl, h2⟩ := hv2
      rw [a0]
      exact zP.back (ih (k := k + 1) (n := n + 5) (j := j + 1) (by omega) (by omega) (by omega) h2) e1 wf fun c h1 h2 => by
        have : c = 430 := by omega
        rw [this]; exact hu
theorem t_L_feeds {τ : zdW} {V : zW} (hT : zo11 V) (wf : zWf V) (hu : zsh V 430 = none) (hdx : zdX V τ) {d dz : zD} {rv : Int} (h : f_L_feeds τ d = some (rv, dz)) : zMetA V 4 31 155 yL_feeds cL_feeds 5 none [.ref (zad V 0), .ref τ.1] d none (rv = 0) dz := by
  refine zMetA_by RL pn99 rfl (Nat.le_of_ble_eq_true rfl) [some (.ref (zad V 0)), some (.ref τ.1), none, none, none] rfl fun X C E => ?_
  refine zP_iconst (pc := 0) C dL_feeds_0 ?_
  refine zP_istore_n (pc := 1) C (L' := [some (.ref (zad V 0)), some (.ref τ.1), some (.int (zI 0)), none, none]) dL_feeds_1 rfl (Nat.le_of_ble_eq_true rfl) rfl rfl ?_
  exact wl_L_feeds_2 hT wf hu hdx C E 100 (j := 0) rfl rfl (Nat.zero_le _) h
theorem t_L_loaded {τ : zdW} {V : zW} (hT : zo11 V) (wf : zWf V) (hu : zsh V 430 = none) (hdx : zdX V τ) {d d1 dz : zD} {rv : Int} (h1 : f_L_feeds τ d = some (0, d1)) (h2 : f_X11_loadLine d1 = some (rv, dz)) : zMetA V 13 31 155 yL_loaded cL_loaded 2 (some .int) [.ref (zad V 0), .ref τ.1] d (some (.int (zI rv))) (zR rv) dz := by
  refine zMetA_by RL pn99 rfl (Nat.le_of_ble_eq_true rfl) [some (.ref (zad V 0)), some (.ref τ.1)] rfl fun X C E => ?_
  refine zP_aload_n (pc := 0) C (x := zad V 0) dL_loaded_0 rfl rfl ?_
  refine zP_aload_n (pc := 1) C (x := τ.1) dL_loaded_1 rfl rfl ?_
  refine zP_callSA (pc := 2) (As := [.ref (zad V 0), .ref τ.1]) (st := []) C m99_35 dL_loaded_2 (t_L_feeds hT wf hu hdx h1) ⟨Nat.le_of_ble_eq_true rfl, Nat.le_of_ble_eq_true rfl⟩ rfl (Nat.le_of_ble_eq_true rfl) ⟨Nat.le_of_ble_eq_true rfl, Nat.le_of_ble_eq_true rfl⟩ fun _ => ?_
  refine zP_aload_n (pc := 5) C (x := zad V 0) dL_loaded_5 rfl rfl ?_
  refine zP_callV (pc := 6) (As := []) (st := []) C m99_39 dL_loaded_6 (s_X11 hT) rfl (t_X11_loadLine hT h2) ⟨Nat.le_of_ble_eq_true rfl, Nat.le_of_ble_eq_true rfl⟩ rfl (Nat.le_of_ble_eq_true rfl) ⟨Nat.le_of_ble_eq_true rfl, Nat.le_of_ble_eq_true rfl⟩ fun hw => ?_
  exact zP_nretA (pc := 9) C E ⟨Nat.le_of_ble_eq_true rfl, Nat.le_of_ble_eq_true rfl⟩ rfl hw rfl dL_loaded_9
end FEEDS
