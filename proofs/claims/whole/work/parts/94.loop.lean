/-! The law: its loop, and its beginning. -/
theorem zsw_all {β : Type} {x : Int} {r : β} : ∀ {cs : List (Int × Option β)}, (∀ q ∈ cs, q.2 = some r) → zsw x cs (some r) = some r
  | [], _ => rfl
  | (q, c) :: cs, h => by
    show (if x = q then c else zsw x cs (some r)) = some r
    split
    · exact h (q, c) List.mem_cons_self
    · exact zsw_all fun z hz => h z (List.mem_cons_of_mem _ hz)
theorem law_loop {V : zW} {X : zX} {b N : Nat} {xs : Nat → Int32} (hT : zo11 V) (hM : zo12 V) (hO : zsh V 399 = some (4, 1, zk0)) (C : zOk V X cL_law RL 9 room_1 ret) (LX : zLX V X b N xs) (hN : N < 3073) : ∀ (m : Nat) {j k n : Nat} {d : zD} (_ : j + m = 513) (_ : k = 366 + j) (_ : n = 20249 + 6 * j) (_ : GR d d), zP V X 9 k n 23 [some (.ref b), some (.ref (zad V 0)), some (.ref (zad V 400)), some (.ref (zad V 399)), some (.int (zI ((6 * j : Nat) : Int))), none, none, none, none] [] d := by
  intro m
  induction m with
  | zero =>
    intro j k n d hj hk hn hg
    generalize hie : (((6 * j : Nat) : Int)) = i
    have hir : zR i := ⟨by omega, by omega⟩
    refine zP_iload (pc := 23) C (x := zI i) dL_law_23 rfl ?_
    refine zP_aload_n (pc := 25) C (x := b) dL_law_25 rfl rfl ?_
    refine zP_slenS (pc := 26) C LX hN dL_law_26 ?_
    refine zP_bipush (pc := 27) C dL_law_27 rfl ?_
    refine zP_isub (K := fun v => some v) (r := (N : Int) - 6) (pc := 29) C dL_law_29 (by rw [zl_n, zw_id (by omega) (by omega)]) fun v hv e => ?_
    cases e
    refine zP_icmp_gt (β := Unit) (r := ()) (A := some ()) (B := some ()) (pc := 30) (tgt := 2106) (x := i) (y := (N : Int) - 6) C dL_law_30 rfl hir hv (by split <;> rfl) (fun _ _ => ?_) (fun h _ => absurd h (by omega))
    refine zP_iconst (pc := 2106) C dL_law_2106 ?_
    exact zP_lret (pc := 2107) C LX (by omega) (by omega) dL_law_2107
  | succ m ih =>
    intro j k n d hj hk hn hg
    generalize hie : (((6 * j : Nat) : Int)) = i
    have hir : zR i := ⟨by omega, by omega⟩
    refine zP_iload (pc := 23) C (x := zI i) dL_law_23 rfl ?_
    refine zP_aload_n (pc := 25) C (x := b) dL_law_25 rfl rfl ?_
    refine zP_slenS (pc := 26) C LX hN dL_law_26 ?_
    refine zP_bipush (pc := 27) C dL_law_27 rfl ?_
    refine zP_isub (K := fun v => some v) (r := (N : Int) - 6) (pc := 29) C dL_law_29 (by rw [zl_n, zw_id (by omega) (by omega)]) fun v hv e => ?_
    cases e
    refine zP_icmp_gt (β := Unit) (r := ()) (A := some ()) (B := some ()) (pc := 30) (tgt := 2106) (x := i) (y := (N : Int) - 6) C dL_law_30 rfl hir hv (by split <;> rfl) (fun _ _ => ?_) (fun h _ => ?_)
    · refine zP_iconst (pc := 2106) C dL_law_2106 ?_
      exact zP_lret (pc := 2107) C LX (by omega) (by omega) dL_law_2107
    · have hi : 0 ≤ i ∧ i + 6 ≤ (N : Int) := ⟨by omega, by omega⟩
      have nx : ∀ d', GR d' d' → zP V X 9 (k + 1) (n + 6) 2100 [some (.ref b), some (.ref (zad V 0)), some (.ref (zad V 400)), some (.ref (zad V 399)), some (.int (zI i)), none, none, none, none] [] d' := fun d' hg' => by
        refine zP_iinc (β := Unit) (r := ()) (K := fun v => if v = ((6 * (j + 1) : Nat) : Int) then some () else none) (pc := 2100) C (x := i) dL_law_2100 rfl (Nat.le_of_ble_eq_true rfl) rfl (by show (if zw (i + 6) = _ then some () else none) = _; rw [zw_id (by omega) (by omega), if_pos (by omega)]) fun v hv h => ?_
        have hvi : v = ((6 * (j + 1) : Nat) : Int) := by
          by_cases hq : v = ((6 * (j + 1) : Nat) : Int)
          · exact hq
          · rw [if_neg hq] at h
            cases h
        subst hvi
        refine zP_goto (pc := 2103) (tgt := 23) C dL_law_2103 rfl ?_
        exact ih (j := j + 1) (by omega) (by omega) (by omega) hg'
      refine zP_aload_n (pc := 33) C (x := b) dL_law_33 rfl rfl ?_
      refine zP_iload (pc := 34) C (x := zI i) dL_law_34 rfl ?_
      refine zP_sld (pc := 36) (i := i) C LX dL_law_36 hir ⟨by omega, by omega⟩ ?_
      refine zP_bipush (pc := 37) C dL_law_37 rfl ?_
      refine zP_iand (K := fun v => some v) (r := zand (xs i.toNat).toInt 63) (pc := 39) C dL_law_39 (by rw [zl_n]) fun v hv e => ?_
      cases e
      generalize zand (xs i.toNat).toInt 63 = w at hv
      exact zP_sw (β := Unit) (r := ()) (pc := 40) (cs := [((0 : Int), some ()), ((1 : Int), some ()), ((2 : Int), some ()), ((3 : Int), some ()), ((4 : Int), some ()), ((5 : Int), some ()), ((6 : Int), some ()), ((7 : Int), some ()), ((8 : Int), some ()), ((9 : Int), some ()), ((10 : Int), some ()), ((11 : Int), some ()), ((12 : Int), some ()), ((13 : Int), some ()), ((14 : Int), some ()), ((15 : Int), some ()), ((16 : Int), some ()), ((17 : Int), some ()), ((18 : Int), some ()), ((19 : Int), some ()), ((20 : Int), some ()), ((21 : Int), some ()), ((22 : Int), some ()), ((23 : Int), some ()), ((24 : Int), some ()), ((25 : Int), some ()), ((26 : Int), some ()), ((27 : Int), some ()), ((28 : Int), some ()), ((29 : Int), some ()), ((30 : Int), some ()), ((31 : Int), some ()), ((32 : Int), some ()), ((33 : Int), some ()), ((34 : Int), some ()), ((35 : Int), some ()), ((36 : Int), some ()), ((37 : Int), some ()), ((38 : Int), some ()), ((39 : Int), some ()), ((40 : Int), some ()), ((41 : Int), some ()), ((42 : Int), some ())]) (df := some ()) C dL_law_40 hv rfl rfl (zsw_all (by simp)) (fun _ _ => ⟨2100, rfl, zP_wide (Nat.le_add_right _ _) (Nat.le_add_right _ _) (nx _ hg)⟩) ⟨fun _ _ => ⟨228, rfl, lawc_0 hT hM hO C LX hN hi ⟨by omega, by omega⟩ hg nx⟩, fun _ _ => ⟨301, rfl, lawc_1 hT hM hO C LX hN hi ⟨by omega, by omega⟩ hg nx⟩, fun _ _ => ⟨326, rfl, lawc_2 hT hM hO C LX hN hi ⟨by omega, by omega⟩ hg nx⟩, fun _ _ => ⟨339, rfl, lawc_3 hT hM hO C LX hN hi ⟨by omega, by omega⟩ hg nx⟩, fun _ _ => ⟨352, rfl, lawc_4 hT hM hO C LX hN hi ⟨by omega, by omega⟩ hg nx⟩, fun _ _ => ⟨365, rfl, lawc_5 hT hM hO C LX hN hi ⟨by omega, by omega⟩ hg nx⟩, fun _ _ => ⟨378, rfl, lawc_6 hT hM hO C LX hN hi ⟨by omega, by omega⟩ hg nx⟩, fun _ _ => ⟨434, rfl, lawc_7 hT hM hO C LX hN hi ⟨by omega, by omega⟩ hg nx⟩, fun _ _ => ⟨490, rfl, lawc_8 hT hM hO C LX hN hi ⟨by omega, by omega⟩ hg nx⟩, fun _ _ => ⟨546, rfl, lawc_9 hT hM hO C LX hN hi ⟨by omega, by omega⟩ hg nx⟩, fun _ _ => ⟨614, rfl, lawc_10 hT hM hO C LX hN hi ⟨by omega, by omega⟩ hg nx⟩, fun _ _ => ⟨682, rfl, lawc_11 hT hM hO C LX hN hi ⟨by omega, by omega⟩ hg nx⟩, fun _ _ => ⟨750, rfl, lawc_12 hT hM hO C LX hN hi ⟨by omega, by omega⟩ hg nx⟩, fun _ _ => ⟨830, rfl, lawc_13 hT hM hO C LX hN hi ⟨by omega, by omega⟩ hg nx⟩, fun _ _ => ⟨886, rfl, lawc_14 hT hM hO C LX hN hi ⟨by omega, by omega⟩ hg nx⟩, fun _ _ => ⟨899, rfl, lawc_15 hT hM hO C LX hN hi ⟨by omega, by omega⟩ hg nx⟩, fun _ _ => ⟨967, rfl, lawc_16 hT hM hO C LX hN hi ⟨by omega, by omega⟩ hg nx⟩, fun _ _ => ⟨980, rfl, lawc_17 hT hM hO C LX hN hi ⟨by omega, by omega⟩ hg nx⟩, fun _ _ => ⟨993, rfl, lawc_18 hT hM hO C LX hN hi ⟨by omega, by omega⟩ hg nx⟩, fun _ _ => ⟨1006, rfl, lawc_19 hT hM hO C LX hN hi ⟨by omega, by omega⟩ hg nx⟩, fun _ _ => ⟨1062, rfl, lawc_20 hT hM hO C LX hN hi ⟨by omega, by omega⟩ hg nx⟩, fun _ _ => ⟨1118, rfl, lawc_21 hT hM hO C LX hN hi ⟨by omega, by omega⟩ hg nx⟩, fun _ _ => ⟨1174, rfl, lawc_22 hT hM hO C LX hN hi ⟨by omega, by omega⟩ hg nx⟩, fun _ _ => ⟨1187, rfl, lawc_23 hT hM hO C LX hN hi ⟨by omega, by omega⟩ hg nx⟩, fun _ _ => ⟨1243, rfl, lawc_24 hT hM hO C LX hN hi ⟨by omega, by omega⟩ hg nx⟩, fun _ _ => ⟨1299, rfl, lawc_25 hT hM hO C LX hN hi ⟨by omega, by omega⟩ hg nx⟩, fun _ _ => ⟨1355, rfl, lawc_26 hT hM hO C LX hN hi ⟨by omega, by omega⟩ hg nx⟩, fun _ _ => ⟨1368, rfl, lawc_27 hT hM hO C LX hN hi ⟨by omega, by omega⟩ hg nx⟩, fun _ _ => ⟨1436, rfl, lawc_28 hT hM hO C LX hN hi ⟨by omega, by omega⟩ hg nx⟩, fun _ _ => ⟨1477, rfl, lawc_29 hT hM hO C LX hN hi ⟨by omega, by omega⟩ hg nx⟩, fun _ _ => ⟨1520, rfl, lawc_30 hT hM hO C LX hN hi ⟨by omega, by omega⟩ hg nx⟩, fun _ _ => ⟨1600, rfl, lawc_31 hT hM hO C LX hN hi ⟨by omega, by omega⟩ hg nx⟩, fun _ _ => ⟨1656, rfl, lawc_32 hT hM hO C LX hN hi ⟨by omega, by omega⟩ hg nx⟩, fun _ _ => ⟨1712, rfl, lawc_33 hT hM hO C LX hN hi ⟨by omega, by omega⟩ hg nx⟩, fun _ _ => ⟨1768, rfl, lawc_34 hT hM hO C LX hN hi ⟨by omega, by omega⟩ hg nx⟩, fun _ _ => ⟨1824, rfl, lawc_35 hT hM hO C LX hN hi ⟨by omega, by omega⟩ hg nx⟩, fun _ _ => ⟨1880, rfl, lawc_36 hT hM hO C LX hN hi ⟨by omega, by omega⟩ hg nx⟩, fun _ _ => ⟨1948, rfl, lawc_37 hT hM hO C LX hN hi ⟨by omega, by omega⟩ hg nx⟩, fun _ _ => ⟨1992, rfl, lawc_38 hT hM hO C LX hN hi ⟨by omega, by omega⟩ hg nx⟩, fun _ _ => ⟨2005, rfl, lawc_39 hT hM hO C LX hN hi ⟨by omega, by omega⟩ hg nx⟩, fun _ _ => ⟨2018, rfl, lawc_40 hT hM hO C LX hN hi ⟨by omega, by omega⟩ hg nx⟩, fun _ _ => ⟨2043, rfl, lawc_41 hT hM hO C LX hN hi ⟨by omega, by omega⟩ hg nx⟩, fun _ _ => ⟨2056, rfl, lawc_42 hT hM hO C LX hN hi ⟨by omega, by omega⟩ hg nx⟩, trivial⟩
theorem ciL_96 : zCI RL 96 yX11_init cX11_init 2 0 := ⟨Or.inl (zin 139 (by decide +kernel) (by decide +kernel)), (zin 140 (by decide +kernel) (by decide +kernel)), (zin 112 (by decide +kernel) (by decide +kernel)), (zin 141 (by decide +kernel) (by decide +kernel)), rfl, ⟨by decide +kernel, by decide +kernel⟩, by decide +kernel⟩
theorem ciL_99 : zCI RL 99 yX12_init cX12_init 1 0 := ⟨Or.inl (zin 1410 (by decide +kernel) (by decide +kernel)), (zin 1411 (by decide +kernel) (by decide +kernel)), (zin 129 (by decide +kernel) (by decide +kernel)), (zin 1412 (by decide +kernel) (by decide +kernel)), rfl, ⟨by decide +kernel, by decide +kernel⟩, by decide +kernel⟩
theorem mlL_96 : Cond.methodLink RL 96 yX11_init ∈ zT := (zin 139 (by decide +kernel) (by decide +kernel))
theorem mlL_99 : Cond.methodLink RL 99 yX12_init ∈ zT := (zin 1410 (by decide +kernel) (by decide +kernel))
theorem nwL_8 : Cond.classLink RL 8 RX11 ∈ zT ∧ Cond.instantiable RX11 13 ∈ zT ∧ Cond.initialized RX11 ∈ zT := ⟨(zin 137 (by decide +kernel) (by decide +kernel)), (zin 138 (by decide +kernel) (by decide +kernel)), (zin 112 (by decide +kernel) (by decide +kernel))⟩
theorem nwL_97 : Cond.classLink RL 97 RX12 ∈ zT ∧ Cond.instantiable RX12 25 ∈ zT ∧ Cond.initialized RX12 ∈ zT := ⟨(zin 1408 (by decide +kernel) (by decide +kernel)), (zin 1409 (by decide +kernel) (by decide +kernel)), (zin 129 (by decide +kernel) (by decide +kernel))⟩
theorem zo11.go {V V1 : zW} {S : Nat → Prop} (E : zEy V V1 S) (h : zo11 V) (hS : ∀ c, c < 360 → ¬ S c) : zo11 V1 := by
  obtain ⟨h0, h25, h1, h30, h6, h60, h7, h90, h8, h10, h12, h20⟩ := h
  exact ⟨(E.2.2.1 _ (hS _ (by omega))).trans h0, (E.2.2.1 _ (hS _ (by omega))).trans h25, h1.go E (fun c _ _ => hS c (by omega)), h30.go E (fun c _ _ => hS c (by omega)) (fun c _ _ => hS c (by omega)), h6.go E (hS _ (by omega)) (fun c _ _ => hS c (by omega)) (fun c _ _ => hS c (by omega)), h60.go E (fun c _ _ => hS c (by omega)) (fun c _ _ => hS c (by omega)), h7.go E (hS _ (by omega)) (fun c _ _ => hS c (by omega)) (fun c _ _ => hS c (by omega)), h90.go E (fun c _ _ => hS c (by omega)) (fun c _ _ => hS c (by omega)), h8.go E (hS _ (by omega)) (hS _ (by omega)) (fun c _ _ => hS c (by omega)) (fun c _ _ => hS c (by omega)), h10.go E (fun c _ _ => hS c (by omega)), h12.go E (fun c _ _ => hS c (by omega)), h20.go E (fun c _ _ => hS c (by omega)) (fun c _ _ => hS c (by omega)) (fun c _ _ => hS c (by omega))⟩
theorem zo12.go {V V1 : zW} {S : Nat → Prop} (E : zEy V V1 S) (h : zo12 V) (hS : ∀ c, 400 ≤ c → c < 409 → ¬ S c) : zo12 V1 := by
  obtain ⟨h0, h1, h2, h3, h4, h5, h6, h7, h8⟩ := h
  have g : ∀ {c x}, 400 ≤ c → c < 409 → zsh V c = some x → zsh V1 c = some x := fun a b h => (E.2.2.1 _ (hS _ a b)).trans h
  exact ⟨g (by omega) (by omega) h0, g (by omega) (by omega) h1, g (by omega) (by omega) h2, g (by omega) (by omega) h3, g (by omega) (by omega) h4, g (by omega) (by omega) h5, g (by omega) (by omega) h6, g (by omega) (by omega) h7, g (by omega) (by omega) h8⟩
theorem law_from {V : zW} {X : zX} {b N : Nat} {xs : Nat → Int32} (C : zOk V X cL_law RL 9 room_1 ret) (LX : zLX V X b N xs) (hN : N < 3073) (wf : zWf V) (hu : ∀ c, zsh V c = none) : zP V X 9 0 0 0 [some (.ref b), none, none, none, none, none, none, none, none] [] zd0 := by
  obtain ⟨d1, d2, e1, e2, e3, r1, r2, r3, r4, r5, hg, hz, hz9⟩ := first_GR
  refine zP_newq (pc := 0) (a := 0) (fk := zF11) C zY11 cf11 zY11_p nwL_8 dL_law_0 wf (hu 0) (fun j => rfl) zF11_d zF11_r ⟨Nat.le_of_ble_eq_true rfl, Nat.le_of_ble_eq_true rfl⟩ fun V q0 e wf a0 => ?_
  have C := e.ok C
  have LX := LX.go e
  have hu := zUp.go (R := fun _ => True) (R1 := fun c => c ≠ 0) e (fun c _ => hu c) (fun c h => ⟨trivial, by omega⟩)
  refine zP_dupr (pc := 3) C dL_law_3 ?_
  refine zP_callIL (pc := 4) (As := []) (st := [.ref q0]) C LX ciL_96 mlL_96 dL_law_4 (t_X11_init wf a0 (fun c h => hu c (by omega)) (fun c j h => rfl) r1 r2) rfl ⟨Nat.le_of_ble_eq_true rfl, Nat.le_of_ble_eq_true rfl⟩ rfl (Nat.le_of_ble_eq_true rfl) ⟨Nat.le_of_ble_eq_true rfl, Nat.le_of_ble_eq_true rfl⟩ fun V e wf hT => ?_
  have a0 := zAd.go e a0.1 a0.2
  have C := e.ok C
  have LX := LX.go e
  have hu := zUp.go (R := fun c => c ≠ 0) (R1 := fun c => 360 ≤ c) e hu (fun c h => by omega)
  refine zP_astore_n (pc := 7) C (L' := [some (.ref b), some (.ref q0), none, none, none, none, none, none, none]) dL_law_7 rfl (Nat.le_of_ble_eq_true rfl) rfl rfl ?_
  refine zP_newq (pc := 8) (a := 400) (fk := zF12) C zY12 cf12 zY12_p nwL_97 dL_law_8 wf (hu 400 (by omega)) (fun j => hz 400 j (by omega)) zF12_d zF12_r ⟨Nat.le_of_ble_eq_true rfl, Nat.le_of_ble_eq_true rfl⟩ fun V q1 e wf a1 => ?_
  have a0 := zAd.go e hT.1 a0
  have hT := zo11.go e hT (fun c h => by omega)
  have C := e.ok C
  have LX := LX.go e
  have hu := zUp.go (R := fun c => 360 ≤ c) (R1 := fun c => 360 ≤ c ∧ c ≠ 400) e hu (fun c h => by omega)
  refine zP_dupr (pc := 11) C dL_law_11 ?_
  refine zP_callIL (pc := 12) (As := []) (st := [.ref q1]) C LX ciL_99 mlL_99 dL_law_12 (t_X12_init wf a1 (fun c h1 h2 => hu c (by omega)) (fun c j h1 h2 => hz c j (by omega)) r3 r4 r5) rfl ⟨Nat.le_of_ble_eq_true rfl, Nat.le_of_ble_eq_true rfl⟩ rfl (Nat.le_of_ble_eq_true rfl) ⟨Nat.le_of_ble_eq_true rfl, Nat.le_of_ble_eq_true rfl⟩ fun V e wf hM => ?_
  have a1 := zAd.go e a1.1 a1.2
  have a0 := zAd.go e hT.1 a0
  have hT := zo11.go e hT (fun c h => by omega)
  have C := e.ok C
  have LX := LX.go e
  have hu := zUp.go (R := fun c => 360 ≤ c ∧ c ≠ 400) (R1 := fun c => c = 399) e hu (fun c h => by omega)
  refine zP_astore_n (pc := 15) C (L' := [some (.ref b), some (.ref q0), some (.ref q1), none, none, none, none, none, none]) dL_law_15 rfl (Nat.le_of_ble_eq_true rfl) rfl rfl ?_
  refine zP_iconst (pc := 16) C dL_law_16 ?_
  refine zP_newJ (pc := 17) (a := 399) (N := 1) (z := 1) C dL_law_17 wf (hu 399 rfl) hz9 (zRk rfl) (by omega) rfl (Nat.le_of_ble_eq_true rfl) ⟨Nat.le_of_ble_eq_true rfl, Nat.le_of_ble_eq_true rfl⟩ fun V e wf hO => ?_
  have e := e.y
  have a1 := zAd.go e hM.1 a1
  have a0 := zAd.go e hT.1 a0
  have hT := zo11.go e hT (fun c h => by omega)
  have hM := zo12.go e hM (fun c h1 h2 => by omega)
  have C := e.ok C
  have LX := LX.go e
  subst a0
  subst a1
  refine zP_astore_n (pc := 19) C (L' := [some (.ref b), some (.ref (zad V 0)), some (.ref (zad V 400)), some (.ref (zad V 399)), none, none, none, none, none]) dL_law_19 rfl (Nat.le_of_ble_eq_true rfl) rfl rfl ?_
  refine zP_iconst (pc := 20) C dL_law_20 ?_
  refine zP_istore (pc := 21) C (L' := [some (.ref b), some (.ref (zad V 0)), some (.ref (zad V 400)), some (.ref (zad V 399)), some (.int (zI ((6 * 0 : Nat) : Int))), none, none, none, none]) dL_law_21 (Nat.le_of_ble_eq_true rfl) rfl rfl ?_
  exact law_loop hT hM hO C LX hN 513 (j := 0) rfl rfl rfl hg
