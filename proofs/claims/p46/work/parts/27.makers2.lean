/-! Makers of the line, the host, the history, the readers. -/
theorem nw2_9 : Cond.classLink RX2 9 RX3 ∈ zT ∧ Cond.instantiable RX3 9 ∈ zT ∧ Cond.initialized RX3 ∈ zT := ⟨(zin 103 (by decide +kernel) (by decide +kernel)), (zin 104 (by decide +kernel) (by decide +kernel)), (zin 25 (by decide +kernel) (by decide +kernel))⟩
theorem ci2_11 : zCI RX2 11 yX3_init cX3_init 1 0 := ⟨Or.inr (by decide +kernel), (zin 106 (by decide +kernel) (by decide +kernel)), (zin 25 (by decide +kernel) (by decide +kernel)), (zin 107 (by decide +kernel) (by decide +kernel)), rfl, ⟨by decide +kernel, by decide +kernel⟩, by decide +kernel⟩
theorem fr2_12 : zFR RX2 12 2 1 := ⟨RX2, TX2, 16, cf2, by decide, q247, rfl, _, rfl, fun _ => ⟨rfl, rfl⟩⟩
theorem nw2_18 : Cond.classLink RX2 18 RX4 ∈ zT ∧ Cond.instantiable RX4 4 ∈ zT ∧ Cond.initialized RX4 ∈ zT := ⟨(zin 156 (by decide +kernel) (by decide +kernel)), (zin 157 (by decide +kernel) (by decide +kernel)), (zin 26 (by decide +kernel) (by decide +kernel))⟩
theorem ci2_20 : zCI RX2 20 yX4_init cX4_init 1 0 := ⟨Or.inr (by decide +kernel), (zin 159 (by decide +kernel) (by decide +kernel)), (zin 26 (by decide +kernel) (by decide +kernel)), (zin 160 (by decide +kernel) (by decide +kernel)), rfl, ⟨by decide +kernel, by decide +kernel⟩, by decide +kernel⟩
theorem fr2_21 : zFR RX2 21 2 2 := ⟨RX2, TX2, 16, cf2, by decide, q250, rfl, _, rfl, fun _ => ⟨rfl, rfl⟩⟩
theorem nw2_25 : Cond.classLink RX2 25 RX8 ∈ zT ∧ Cond.instantiable RX8 9 ∈ zT ∧ Cond.initialized RX8 ∈ zT := ⟨(zin 175 (by decide +kernel) (by decide +kernel)), (zin 176 (by decide +kernel) (by decide +kernel)), (zin 27 (by decide +kernel) (by decide +kernel))⟩
theorem ci2_27 : zCI RX2 27 yX8_init cX8_init 1 0 := ⟨Or.inr (by decide +kernel), (zin 178 (by decide +kernel) (by decide +kernel)), (zin 27 (by decide +kernel) (by decide +kernel)), (zin 179 (by decide +kernel) (by decide +kernel)), rfl, ⟨by decide +kernel, by decide +kernel⟩, by decide +kernel⟩
theorem fr2_28 : zFR RX2 28 2 3 := ⟨RX2, TX2, 16, cf2, by decide, q253, rfl, _, rfl, fun _ => ⟨rfl, rfl⟩⟩
theorem nw2_32 : Cond.classLink RX2 32 RX10 ∈ zT ∧ Cond.instantiable RX10 3 ∈ zT ∧ Cond.initialized RX10 ∈ zT := ⟨(zin 228 (by decide +kernel) (by decide +kernel)), (zin 229 (by decide +kernel) (by decide +kernel)), (zin 28 (by decide +kernel) (by decide +kernel))⟩
theorem ci2_34 : zCI RX2 34 yX10_init cX10_init 1 0 := ⟨Or.inr (by decide +kernel), (zin 231 (by decide +kernel) (by decide +kernel)), (zin 28 (by decide +kernel) (by decide +kernel)), (zin 232 (by decide +kernel) (by decide +kernel)), rfl, ⟨by decide +kernel, by decide +kernel⟩, by decide +kernel⟩
theorem fr2_35 : zFR RX2 35 2 4 := ⟨RX2, TX2, 16, cf2, by decide, q256, rfl, _, rfl, fun _ => ⟨rfl, rfl⟩⟩
theorem fr2_39 : zFR RX2 39 2 5 := ⟨RX2, TX2, 16, cf2, by decide, q259, rfl, _, rfl, fun _ => ⟨rfl, rfl⟩⟩
theorem fr2_43 : zFR RX2 43 2 6 := ⟨RX2, TX2, 16, cf2, by decide, q262, rfl, _, rfl, fun _ => ⟨rfl, rfl⟩⟩
theorem fr2_46 : zFR RX2 46 2 7 := ⟨RX2, TX2, 16, cf2, by decide, q265, rfl, _, rfl, fun _ => ⟨rfl, rfl⟩⟩
theorem fr2_74 : zFR RX2 74 2 0 := ⟨RX2, TX2, 16, cf2, by decide, q245, rfl, _, rfl, fun _ => ⟨rfl, rfl⟩⟩
def zdL (d : zD) (b : Nat) : zD := (zu (zu (zu d b 12 (-1)) b 13 (-1)) b 14 (-1))
theorem zdL_ne {d : zD} {b c j : Nat} (h : c ≠ b) : zdL d b c j = d c j := (zu_ne (Or.inl h)).trans ((zu_ne (Or.inl h)).trans (zu_ne (Or.inl h)))
theorem t_X2_init {V : zW} {b : Nat} {q0 q1 : Nat} {d : zD} (wf : zWf V) (aO : zAt V b q0 (0, 2, zF2)) (h1 : zo6 V 1) (a1 : zad V 1 = q1) (hb : 6 ≤ b) (hu : ∀ c, b + 1 ≤ c → c < b + 30 → zsh V c = none) (hd : ∀ c j, b ≤ c → c < b + 30 → d c j = 0) : zMetN V 2 29 768 yX2_init cX2_init 2 [.ref q0, .ref q1] d (fun V => zo2 V b) (fun c => b ≤ c ∧ c < b + 30) (zdL d b) := by
  refine zMetN_by RX2 pn2 rfl rfl (Nat.le_of_ble_eq_true rfl) [some (.ref q0), some (.ref q1)] rfl fun X C EN => ?_
  have HN := EN.x
  have E : zEy V V (fun c => b ≤ c ∧ c < b + 30) := zEy.rf
  refine zP_aload_n (pc := 0) C (x := q0) dX2_init_0 rfl rfl ?_
  refine zP_oinit (pc := 1) C oi2 dX2_init_1 ⟨Nat.le_of_ble_eq_true rfl, Nat.le_of_ble_eq_true rfl⟩ ?_
  refine zP_aload_n (pc := 4) C (x := q0) dX2_init_4 rfl rfl ?_
  refine zP_newq (pc := 5) (a := b + 1) (fk := zF3) C zY3 cf3 zY3_p nw2_9 dX2_init_5 wf (hu _ (by omega) (by omega)) (fun j => hd _ j (by omega) (by omega)) zF3_d zF3_r ⟨Nat.le_of_ble_eq_true rfl, Nat.le_of_ble_eq_true rfl⟩ fun V q5 e wf a5 => ?_
  have C := e.ok C
  have E := E.tr e (fun c h => h) (fun c h => by omega)
  have a1 := zAd.go e h1.1 a1
  have aO := aO.go e (by omega)
  have h1 := h1.go e (fun c h1 h2 => by omega)
  have hu := zUn.go (l1 := b + 2) (h1 := b + 30) e hu (by omega) (by omega) (fun c h1 h2 => by omega)
  refine zP_dupr (pc := 8) C dX2_init_8 ?_
  refine zP_callI (pc := 9) (As := []) (st := [.ref q5, .ref q0]) C HN ci2_11 dX2_init_9 (t_X3_init wf a5 (fun c h1 h2 => hu c (by omega) (by omega)) (fun c j h1 h2 => hd c j (by omega) (by omega))) rfl ⟨Nat.le_of_ble_eq_true rfl, Nat.le_of_ble_eq_true rfl⟩ rfl (Nat.le_of_ble_eq_true rfl) ⟨Nat.le_of_ble_eq_true rfl, Nat.le_of_ble_eq_true rfl⟩ fun V e wf h9 => ?_
  have a5_ := zAd.go e a5.1 a5.2
  have C := e.ok C
  have E := E.tr e (fun c h => h) (fun c h => by omega)
  have a1 := zAd.go e h1.1 a1
  have aO := aO.go e (by omega)
  have h1 := h1.go e (fun c h1 h2 => by omega)
  have hu := zUn.go (l1 := b + 10) (h1 := b + 30) e hu (by omega) (by omega) (fun c h1 h2 => by omega)
  refine zP_putR (pc := 12) (t := b + 1) C HN fr2_12 dX2_init_12 aO a5_ (by rw [h9.1]; rfl) wf fun V e wf aO => ?_
  have C := e.ok C
  have E := E.tr e (fun c h => h) (fun c h => by omega)
  have a1 := zAd.go e h1.1 a1
  have h1 := h1.go e (fun c h1 h2 => by omega)
  have h9 := h9.go e (fun c h1 h2 => by omega)
  have hu := zUn.go (l1 := b + 10) (h1 := b + 30) e hu (by omega) (by omega) (fun c h1 h2 => by omega)
  refine zP_aload_n (pc := 15) C (x := q0) dX2_init_15 rfl rfl ?_
  refine zP_newq (pc := 16) (a := b + 10) (fk := zF4) C zY4 cf4 zY4_p nw2_18 dX2_init_16 wf (hu _ (by omega) (by omega)) (fun j => hd _ j (by omega) (by omega)) zF4_d zF4_r ⟨Nat.le_of_ble_eq_true rfl, Nat.le_of_ble_eq_true rfl⟩ fun V q16 e wf a16 => ?_
  have C := e.ok C
  have E := E.tr e (fun c h => h) (fun c h => by omega)
  have a1 := zAd.go e h1.1 a1
  have aO := aO.go e (by omega)
  have h1 := h1.go e (fun c h1 h2 => by omega)
  have h9 := h9.go e (fun c h1 h2 => by omega)
  have hu := zUn.go (l1 := b + 11) (h1 := b + 30) e hu (by omega) (by omega) (fun c h1 h2 => by omega)
  refine zP_dupr (pc := 19) C dX2_init_19 ?_
  refine zP_callI (pc := 20) (As := []) (st := [.ref q16, .ref q0]) C HN ci2_20 dX2_init_20 (t_X4_init wf a16 (fun c h1 h2 => hu c (by omega) (by omega)) (fun c j h1 h2 => hd c j (by omega) (by omega))) rfl ⟨Nat.le_of_ble_eq_true rfl, Nat.le_of_ble_eq_true rfl⟩ rfl (Nat.le_of_ble_eq_true rfl) ⟨Nat.le_of_ble_eq_true rfl, Nat.le_of_ble_eq_true rfl⟩ fun V e wf h20 => ?_
  have a16_ := zAd.go e a16.1 a16.2
  have C := e.ok C
  have E := E.tr e (fun c h => h) (fun c h => by omega)
  have a1 := zAd.go e h1.1 a1
  have aO := aO.go e (by omega)
  have h1 := h1.go e (fun c h1 h2 => by omega)
  have h9 := h9.go e (fun c h1 h2 => by omega)
  have hu := zUn.go (l1 := b + 15) (h1 := b + 30) e hu (by omega) (by omega) (fun c h1 h2 => by omega)
  refine zP_putR (pc := 23) (t := b + 10) C HN fr2_21 dX2_init_23 aO a16_ (by rw [h20.1]; rfl) wf fun V e wf aO => ?_
  have C := e.ok C
  have E := E.tr e (fun c h => h) (fun c h => by omega)
  have a1 := zAd.go e h1.1 a1
  have h1 := h1.go e (fun c h1 h2 => by omega)
  have h9 := h9.go e (fun c h1 h2 => by omega)
  have h20 := h20.go e (fun c h1 h2 => by omega)
  have hu := zUn.go (l1 := b + 15) (h1 := b + 30) e hu (by omega) (by omega) (fun c h1 h2 => by omega)
  refine zP_aload_n (pc := 26) C (x := q0) dX2_init_26 rfl rfl ?_
  refine zP_newq (pc := 27) (a := b + 15) (fk := zF8) C zY8 cf8 zY8_p nw2_25 dX2_init_27 wf (hu _ (by omega) (by omega)) (fun j => hd _ j (by omega) (by omega)) zF8_d zF8_r ⟨Nat.le_of_ble_eq_true rfl, Nat.le_of_ble_eq_true rfl⟩ fun V q27 e wf a27 => ?_
  have C := e.ok C
  have E := E.tr e (fun c h => h) (fun c h => by omega)
  have a1 := zAd.go e h1.1 a1
  have aO := aO.go e (by omega)
  have h1 := h1.go e (fun c h1 h2 => by omega)
  have h9 := h9.go e (fun c h1 h2 => by omega)
  have h20 := h20.go e (fun c h1 h2 => by omega)
  have hu := zUn.go (l1 := b + 16) (h1 := b + 30) e hu (by omega) (by omega) (fun c h1 h2 => by omega)
  refine zP_dupr (pc := 30) C dX2_init_30 ?_
  refine zP_callI (pc := 31) (As := []) (st := [.ref q27, .ref q0]) C HN ci2_27 dX2_init_31 (t_X8_init wf a27 (fun c h1 h2 => hu c (by omega) (by omega)) (fun c j h1 h2 => hd c j (by omega) (by omega))) rfl ⟨Nat.le_of_ble_eq_true rfl, Nat.le_of_ble_eq_true rfl⟩ rfl (Nat.le_of_ble_eq_true rfl) ⟨Nat.le_of_ble_eq_true rfl, Nat.le_of_ble_eq_true rfl⟩ fun V e wf h31 => ?_
  have a27_ := zAd.go e a27.1 a27.2
  have C := e.ok C
  have E := E.tr e (fun c h => h) (fun c h => by omega)
  have a1 := zAd.go e h1.1 a1
  have aO := aO.go e (by omega)
  have h1 := h1.go e (fun c h1 h2 => by omega)
  have h9 := h9.go e (fun c h1 h2 => by omega)
  have h20 := h20.go e (fun c h1 h2 => by omega)
  have hu := zUn.go (l1 := b + 25) (h1 := b + 30) e hu (by omega) (by omega) (fun c h1 h2 => by omega)
  refine zP_putR (pc := 34) (t := b + 15) C HN fr2_28 dX2_init_34 aO a27_ (by rw [h31.1]; rfl) wf fun V e wf aO => ?_
  have C := e.ok C
  have E := E.tr e (fun c h => h) (fun c h => by omega)
  have a1 := zAd.go e h1.1 a1
  have h1 := h1.go e (fun c h1 h2 => by omega)
  have h9 := h9.go e (fun c h1 h2 => by omega)
  have h20 := h20.go e (fun c h1 h2 => by omega)
  have h31 := h31.go e (fun c h1 h2 => by omega)
  have hu := zUn.go (l1 := b + 25) (h1 := b + 30) e hu (by omega) (by omega) (fun c h1 h2 => by omega)
  refine zP_aload_n (pc := 37) C (x := q0) dX2_init_37 rfl rfl ?_
  refine zP_newq (pc := 38) (a := b + 25) (fk := zF10) C zY10 cf10 zY10_p nw2_32 dX2_init_38 wf (hu _ (by omega) (by omega)) (fun j => hd _ j (by omega) (by omega)) zF10_d zF10_r ⟨Nat.le_of_ble_eq_true rfl, Nat.le_of_ble_eq_true rfl⟩ fun V q38 e wf a38 => ?_
  have C := e.ok C
  have E := E.tr e (fun c h => h) (fun c h => by omega)
  have a1 := zAd.go e h1.1 a1
  have aO := aO.go e (by omega)
  have h1 := h1.go e (fun c h1 h2 => by omega)
  have h9 := h9.go e (fun c h1 h2 => by omega)
  have h20 := h20.go e (fun c h1 h2 => by omega)
  have h31 := h31.go e (fun c h1 h2 => by omega)
  have hu := zUn.go (l1 := b + 26) (h1 := b + 30) e hu (by omega) (by omega) (fun c h1 h2 => by omega)
  refine zP_dupr (pc := 41) C dX2_init_41 ?_
  refine zP_callI (pc := 42) (As := []) (st := [.ref q38, .ref q0]) C HN ci2_34 dX2_init_42 (t_X10_init wf a38 (fun c h1 h2 => hu c (by omega) (by omega)) (fun c j h1 h2 => hd c j (by omega) (by omega))) rfl ⟨Nat.le_of_ble_eq_true rfl, Nat.le_of_ble_eq_true rfl⟩ rfl (Nat.le_of_ble_eq_true rfl) ⟨Nat.le_of_ble_eq_true rfl, Nat.le_of_ble_eq_true rfl⟩ fun V e wf h42 => ?_
  have a38_ := zAd.go e a38.1 a38.2
  have C := e.ok C
  have E := E.tr e (fun c h => h) (fun c h => by omega)
  have a1 := zAd.go e h1.1 a1
  have aO := aO.go e (by omega)
  have h1 := h1.go e (fun c h1 h2 => by omega)
  have h9 := h9.go e (fun c h1 h2 => by omega)
  have h20 := h20.go e (fun c h1 h2 => by omega)
  have h31 := h31.go e (fun c h1 h2 => by omega)
  have hu := zUn.go (l1 := b + 27) (h1 := b + 30) e hu (by omega) (by omega) (fun c h1 h2 => by omega)
  refine zP_putR (pc := 45) (t := b + 25) C HN fr2_35 dX2_init_45 aO a38_ (by rw [h42.1]; rfl) wf fun V e wf aO => ?_
  have C := e.ok C
  have E := E.tr e (fun c h => h) (fun c h => by omega)
  have a1 := zAd.go e h1.1 a1
  have h1 := h1.go e (fun c h1 h2 => by omega)
  have h9 := h9.go e (fun c h1 h2 => by omega)
  have h20 := h20.go e (fun c h1 h2 => by omega)
  have h31 := h31.go e (fun c h1 h2 => by omega)
  have h42 := h42.go e (fun c h1 h2 => by omega)
  have hu := zUn.go (l1 := b + 27) (h1 := b + 30) e hu (by omega) (by omega) (fun c h1 h2 => by omega)
  refine zP_aload_n (pc := 48) C (x := q0) dX2_init_48 rfl rfl ?_
  refine zP_bipush (pc := 49) C dX2_init_49 rfl ?_
  refine zP_row (pc := 51) (t := b + 27) (N := 6) (z := 6) C HN fr2_39 dX2_init_51 dX2_init_53 aO wf (hu _ (by omega) (by omega)) (fun j => hd _ j (by omega) (by omega)) (zRk rfl) (by omega) rfl (Nat.le_of_ble_eq_true rfl) ⟨Nat.le_of_ble_eq_true rfl, Nat.le_of_ble_eq_true rfl⟩ fun V e wf aO s51 => ?_
  have C := e.ok C
  have E := E.tr e (fun c h => h) (fun c h => by omega)
  have a1 := zAd.go e h1.1 a1
  have h1 := h1.go e (fun c h1 h2 => by omega)
  have h9 := h9.go e (fun c h1 h2 => by omega)
  have h20 := h20.go e (fun c h1 h2 => by omega)
  have h31 := h31.go e (fun c h1 h2 => by omega)
  have h42 := h42.go e (fun c h1 h2 => by omega)
  have hu := zUn.go (l1 := b + 28) (h1 := b + 30) e hu (by omega) (by omega) (fun c h1 h2 => by omega)
  refine zP_aload_n (pc := 56) C (x := q0) dX2_init_56 rfl rfl ?_
  refine zP_bipush (pc := 57) C dX2_init_57 rfl ?_
  refine zP_row (pc := 59) (t := b + 28) (N := 13) (z := 13) C HN fr2_43 dX2_init_59 dX2_init_61 aO wf (hu _ (by omega) (by omega)) (fun j => hd _ j (by omega) (by omega)) (zRk rfl) (by omega) rfl (Nat.le_of_ble_eq_true rfl) ⟨Nat.le_of_ble_eq_true rfl, Nat.le_of_ble_eq_true rfl⟩ fun V e wf aO s59 => ?_
  have C := e.ok C
  have E := E.tr e (fun c h => h) (fun c h => by omega)
  have a1 := zAd.go e h1.1 a1
  have h1 := h1.go e (fun c h1 h2 => by omega)
  have h9 := h9.go e (fun c h1 h2 => by omega)
  have h20 := h20.go e (fun c h1 h2 => by omega)
  have h31 := h31.go e (fun c h1 h2 => by omega)
  have h42 := h42.go e (fun c h1 h2 => by omega)
  have s51 := (e.2.2.1 _ (by omega)).trans s51
  have hu := zUn.go (l1 := b + 29) (h1 := b + 30) e hu (by omega) (by omega) (fun c h1 h2 => by omega)
  refine zP_aload_n (pc := 64) C (x := q0) dX2_init_64 rfl rfl ?_
  refine zP_bipush (pc := 65) C dX2_init_65 rfl ?_
  refine zP_row (pc := 67) (t := b + 29) (N := 16) (z := 16) C HN fr2_46 dX2_init_67 dX2_init_69 aO wf (hu _ (by omega) (by omega)) (fun j => hd _ j (by omega) (by omega)) (zRk rfl) (by omega) rfl (Nat.le_of_ble_eq_true rfl) ⟨Nat.le_of_ble_eq_true rfl, Nat.le_of_ble_eq_true rfl⟩ fun V e wf aO s67 => ?_
  have C := e.ok C
  have E := E.tr e (fun c h => h) (fun c h => by omega)
  have a1 := zAd.go e h1.1 a1
  have h1 := h1.go e (fun c h1 h2 => by omega)
  have h9 := h9.go e (fun c h1 h2 => by omega)
  have h20 := h20.go e (fun c h1 h2 => by omega)
  have h31 := h31.go e (fun c h1 h2 => by omega)
  have h42 := h42.go e (fun c h1 h2 => by omega)
  have s51 := (e.2.2.1 _ (by omega)).trans s51
  have s59 := (e.2.2.1 _ (by omega)).trans s59
  have hu := zUn.go (l1 := b + 30) (h1 := b + 30) e hu (by omega) (by omega) (fun c h1 h2 => by omega)
  refine zP_aload_n (pc := 72) C (x := q0) dX2_init_72 rfl rfl ?_
  refine zP_iconst (pc := 73) C dX2_init_73 ?_
  refine zP_putqz (pc := 74) C p2_49 dX2_init_74 aO rfl (zRk rfl) (hd _ _ (by omega) (by omega)) ?_
  refine zP_aload_n (pc := 77) C (x := q0) dX2_init_77 rfl rfl ?_
  refine zP_iconst (pc := 78) C dX2_init_78 ?_
  refine zP_putqz (pc := 79) C p2_53 dX2_init_79 aO rfl (zRk rfl) (hd _ _ (by omega) (by omega)) ?_
  refine zP_aload_n (pc := 82) C (x := q0) dX2_init_82 rfl rfl ?_
  refine zP_iconst (pc := 83) C dX2_init_83 ?_
  refine zP_putqz (pc := 84) C p2_56 dX2_init_84 aO rfl (zRk rfl) (hd _ _ (by omega) (by omega)) ?_
  refine zP_aload_n (pc := 87) C (x := q0) dX2_init_87 rfl rfl ?_
  refine zP_iconst (pc := 88) C dX2_init_88 ?_
  refine zP_putqz (pc := 89) C p2_59 dX2_init_89 aO rfl (zRk rfl) (hd _ _ (by omega) (by omega)) ?_
  refine zP_aload_n (pc := 92) C (x := q0) dX2_init_92 rfl rfl ?_
  refine zP_iconst (pc := 93) C dX2_init_93 ?_
  refine zP_putq (pc := 94) C p2_62 dX2_init_94 aO rfl (zRk rfl) ?_
  refine zP_aload_n (pc := 97) C (x := q0) dX2_init_97 rfl rfl ?_
  refine zP_iconst (pc := 98) C dX2_init_98 ?_
  refine zP_putq (pc := 99) C p2_65 dX2_init_99 aO rfl (zRk rfl) ?_
  refine zP_aload_n (pc := 102) C (x := q0) dX2_init_102 rfl rfl ?_
  refine zP_iconst (pc := 103) C dX2_init_103 ?_
  refine zP_putq (pc := 104) C p2_68 dX2_init_104 aO rfl (zRk rfl) ?_
  refine zP_aload_n (pc := 107) C (x := q0) dX2_init_107 rfl rfl ?_
  refine zP_iconst (pc := 108) C dX2_init_108 ?_
  refine zP_putqz (pc := 109) C p2_71 dX2_init_109 aO rfl (zRk rfl) ((zu_ne (Or.inr (by decide))).trans ((zu_ne (Or.inr (by decide))).trans ((zu_ne (Or.inr (by decide))).trans (hd _ _ (by omega) (by omega))))) ?_
  refine zP_aload_n (pc := 112) C (x := q0) dX2_init_112 rfl rfl ?_
  refine zP_aload_n (pc := 113) C (x := q1) dX2_init_113 rfl rfl ?_
  refine zP_putR (pc := 114) (t := 1) C HN fr2_74 dX2_init_114 aO a1 (by rw [h1.1]; rfl) wf fun V e wf aO => ?_
  have C := e.ok C
  have E := E.tr e (fun c h => h) (fun c h => by omega)
  have a1 := zAd.go e h1.1 a1
  have h1 := h1.go e (fun c h1 h2 => by omega)
  have h9 := h9.go e (fun c h1 h2 => by omega)
  have h20 := h20.go e (fun c h1 h2 => by omega)
  have h31 := h31.go e (fun c h1 h2 => by omega)
  have h42 := h42.go e (fun c h1 h2 => by omega)
  have s51 := (e.2.2.1 _ (by omega)).trans s51
  have s59 := (e.2.2.1 _ (by omega)).trans s59
  have s67 := (e.2.2.1 _ (by omega)).trans s67
  have hu := zUn.go (l1 := b + 30) (h1 := b + 30) e hu (by omega) (by omega) (fun c h1 h2 => by omega)
  have hk : (zfu (zfu (zfu (zfu (zfu (zfu (zfu (zfu zF2 1 (b + 1 + 2)) 2 (b + 10 + 2)) 3 (b + 15 + 2)) 4 (b + 25 + 2)) 5 (b + 27 + 2)) 6 (b + 28 + 2)) 7 (b + 29 + 2)) 0 (1 + 2)) = kX2 b := by
    funext j
    match j with
    | 0 => rfl
    | 1 => rfl
    | 2 => rfl
    | 3 => rfl
    | 4 => rfl
    | 5 => rfl
    | 6 => rfl
    | 7 => rfl
    | 8 => rfl
    | 9 => rfl
    | 10 => rfl
    | 11 => rfl
    | 12 => rfl
    | 13 => rfl
    | 14 => rfl
    | 15 => rfl
    | j + 16 => simp [zfu, kX2, zF2]
  rw [hk] at aO
  exact zP_vretN (pc := 117) C EN E wf ⟨aO.1, s51, s59, s67, h9.1, h9.2.1, h9.2.2.1, h9.2.2.2.1, h9.2.2.2.2.1, h9.2.2.2.2.2.1, h9.2.2.2.2.2.2.1, h9.2.2.2.2.2.2.2.1, h9.2.2.2.2.2.2.2.2, h20.1, h20.2.1, h20.2.2.1, h20.2.2.2.1, h20.2.2.2.2, h31.1, h31.2.1, h31.2.2.1, h31.2.2.2.1, h31.2.2.2.2.1, h31.2.2.2.2.2.1, h31.2.2.2.2.2.2.1, h31.2.2.2.2.2.2.2.1, h31.2.2.2.2.2.2.2.2.1, h31.2.2.2.2.2.2.2.2.2, h42.1, h42.2, h1⟩ rfl dX2_init_117
theorem fr1_21 : zFR RX1 21 1 0 := ⟨RX1, TX1, 4, cf1, by decide, q326, rfl, _, rfl, fun _ => ⟨rfl, rfl⟩⟩
def zdH (d : zD) (g : Nat) : zD := (zu (zu (zu d g 1 3) g 2 (-1)) g 3 (-1))
theorem zdH_ne {d : zD} {g c j : Nat} (h : c ≠ g) : zdH d g c j = d c j := (zu_ne (Or.inl h)).trans ((zu_ne (Or.inl h)).trans (zu_ne (Or.inl h)))
theorem t_X1_init {V : zW} {g lb : Nat} {q0 q1 : Nat} {d : zD} (wf : zWf V) (aO : zAt V g q0 (0, 1, zF1)) (h1 : zo2 V lb) (a1 : zad V lb = q1) (hg : 6 ≤ g ∧ g < 30 ∧ 30 ≤ lb) (hu : ∀ c, g ≤ c → c < g + 1 → zsh V c = none) (hd : ∀ c j, g ≤ c → c < g + 1 → d c j = 0) : zMetN V 1 0 0 yX1_init cX1_init 2 [.ref q0, .ref q1] d (fun V => zo1 V g lb) (fun c => c = g) (zdH d g) := by
  refine zMetN_by RX1 pn1 rfl rfl (Nat.le_of_ble_eq_true rfl) [some (.ref q0), some (.ref q1)] rfl fun X C EN => ?_
  have HN := EN.x
  have E : zEy V V (fun c => c = g) := zEy.rf
  refine zP_aload_n (pc := 0) C (x := q0) dX1_init_0 rfl rfl ?_
  refine zP_oinit (pc := 1) C oi1 dX1_init_1 ⟨Nat.le_of_ble_eq_true rfl, Nat.le_of_ble_eq_true rfl⟩ ?_
  refine zP_aload_n (pc := 4) C (x := q0) dX1_init_4 rfl rfl ?_
  refine zP_iconst (pc := 5) C dX1_init_5 ?_
  refine zP_putq (pc := 6) C p1_9 dX1_init_6 aO rfl (zRk rfl) ?_
  refine zP_aload_n (pc := 9) C (x := q0) dX1_init_9 rfl rfl ?_
  refine zP_iconst (pc := 10) C dX1_init_10 ?_
  refine zP_putq (pc := 11) C p1_15 dX1_init_11 aO rfl (zRk rfl) ?_
  refine zP_aload_n (pc := 14) C (x := q0) dX1_init_14 rfl rfl ?_
  refine zP_iconst (pc := 15) C dX1_init_15 ?_
  refine zP_putq (pc := 16) C p1_18 dX1_init_16 aO rfl (zRk rfl) ?_
  refine zP_aload_n (pc := 19) C (x := q0) dX1_init_19 rfl rfl ?_
  refine zP_aload_n (pc := 20) C (x := q1) dX1_init_20 rfl rfl ?_
  refine zP_putR (pc := 21) (t := lb) C HN fr1_21 dX1_init_21 aO a1 (by rw [h1.1]; rfl) wf fun V e wf aO => ?_
  have C := e.ok C
  have E := E.tr e (fun c h => h) (fun c h => by omega)
  have a1 := zAd.go e h1.1 a1
  have h1 := h1.go e (fun c h1 h2 => by omega) (fun c h1 h2 => by omega)
  have hk : (zfu zF1 0 (lb + 2)) = kX1 lb := by
    funext j
    match j with
    | 0 => rfl
    | 1 => rfl
    | 2 => rfl
    | 3 => rfl
    | j + 4 => simp [zfu, kX1, zF1]
  rw [hk] at aO
  exact zP_vretN (pc := 24) C EN E wf ⟨aO.1, h1⟩ rfl dX1_init_24
theorem nw7_9 : Cond.classLink RX7 9 RX6 ∈ zT ∧ Cond.instantiable RX6 5 ∈ zT ∧ Cond.initialized RX6 ∈ zT := ⟨(zin 396 (by decide +kernel) (by decide +kernel)), (zin 62 (by decide +kernel) (by decide +kernel)), (zin 23 (by decide +kernel) (by decide +kernel))⟩
theorem ci7_11 : zCI RX7 11 yX6_init cX6_init 1 0 := ⟨Or.inr (by decide +kernel), (zin 64 (by decide +kernel) (by decide +kernel)), (zin 23 (by decide +kernel) (by decide +kernel)), (zin 65 (by decide +kernel) (by decide +kernel)), rfl, ⟨by decide +kernel, by decide +kernel⟩, by decide +kernel⟩
theorem fr7_12 : zFR RX7 12 7 1 := ⟨RX7, TX7, 7, cf7, by decide, q399, rfl, _, rfl, fun _ => ⟨rfl, rfl⟩⟩
theorem fr7_18 : zFR RX7 18 7 2 := ⟨RX7, TX7, 7, cf7, by decide, q401, rfl, _, rfl, fun _ => ⟨rfl, rfl⟩⟩
theorem fr7_22 : zFR RX7 22 7 3 := ⟨RX7, TX7, 7, cf7, by decide, q403, rfl, _, rfl, fun _ => ⟨rfl, rfl⟩⟩
theorem fr7_35 : zFR RX7 35 7 0 := ⟨RX7, TX7, 7, cf7, by decide, q398, rfl, _, rfl, fun _ => ⟨rfl, rfl⟩⟩
def zdR (d : zD) : zD := (zu d 12 5 1)
theorem zdR_ne {d : zD} {c j : Nat} (h : c ≠ 12) : zdR d c j = d c j := zu_ne (Or.inl h)
theorem t_X7_init {V : zW} {q0 q1 : Nat} {d : zD} (wf : zWf V) (aO : zAt V 12 q0 (0, 7, zF7)) (h1 : zo9 V) (a1 : zad V 10 = q1) (hu : ∀ c, 13 ≤ c → c < 12 + 8 → zsh V c = none) (hd : ∀ c j, 12 ≤ c → c < 12 + 8 → d c j = 0) : zMetN V 2 7 59 yX7_init cX7_init 2 [.ref q0, .ref q1] d (fun V => zo7 V) (fun c => 12 ≤ c ∧ c < 12 + 8) (zdR d) := by
  refine zMetN_by RX7 pn7 rfl rfl (Nat.le_of_ble_eq_true rfl) [some (.ref q0), some (.ref q1)] rfl fun X C EN => ?_
  have HN := EN.x
  have E : zEy V V (fun c => 12 ≤ c ∧ c < 12 + 8) := zEy.rf
  refine zP_aload_n (pc := 0) C (x := q0) dX7_init_0 rfl rfl ?_
  refine zP_oinit (pc := 1) C oi7 dX7_init_1 ⟨Nat.le_of_ble_eq_true rfl, Nat.le_of_ble_eq_true rfl⟩ ?_
  refine zP_aload_n (pc := 4) C (x := q0) dX7_init_4 rfl rfl ?_
  refine zP_newq (pc := 5) (a := 13) (fk := zF6) C zY6 cf6 zY6_p nw7_9 dX7_init_5 wf (hu _ (by omega) (by omega)) (fun j => hd _ j (by omega) (by omega)) zF6_d zF6_r ⟨Nat.le_of_ble_eq_true rfl, Nat.le_of_ble_eq_true rfl⟩ fun V q5 e wf a5 => ?_
  have C := e.ok C
  have E := E.tr e (fun c h => h) (fun c h => by omega)
  have a1 := zAd.go e h1.1 a1
  have aO := aO.go e (by omega)
  have h1 := h1.go e (fun c h1 h2 => by omega)
  have hu := zUn.go (l1 := 14) (h1 := 20) e hu (by omega) (by omega) (fun c h1 h2 => by omega)
  refine zP_dupr (pc := 8) C dX7_init_8 ?_
  refine zP_callI (pc := 9) (As := []) (st := [.ref q5, .ref q0]) C HN ci7_11 dX7_init_9 (t_X6_init (s := 13) wf a5 (fun c h1 h2 => hu c (by omega) (by omega)) (fun c j h1 h2 => hd c j (by omega) (by omega))) rfl ⟨Nat.le_of_ble_eq_true rfl, Nat.le_of_ble_eq_true rfl⟩ rfl (Nat.le_of_ble_eq_true rfl) ⟨Nat.le_of_ble_eq_true rfl, Nat.le_of_ble_eq_true rfl⟩ fun V e wf h9 => ?_
  have a5_ := zAd.go e a5.1 a5.2
  have C := e.ok C
  have E := E.tr e (fun c h => h) (fun c h => by omega)
  have a1 := zAd.go e h1.1 a1
  have aO := aO.go e (by omega)
  have h1 := h1.go e (fun c h1 h2 => by omega)
  have hu := zUn.go (l1 := 18) (h1 := 20) e hu (by omega) (by omega) (fun c h1 h2 => by omega)
  refine zP_putR (pc := 12) (t := 13) C HN fr7_12 dX7_init_12 aO a5_ (by rw [h9.1]; rfl) wf fun V e wf aO => ?_
  have C := e.ok C
  have E := E.tr e (fun c h => h) (fun c h => by omega)
  have a1 := zAd.go e h1.1 a1
  have h1 := h1.go e (fun c h1 h2 => by omega)
  have h9 := h9.go e (fun c h1 h2 => by omega)
  have hu := zUn.go (l1 := 18) (h1 := 20) e hu (by omega) (by omega) (fun c h1 h2 => by omega)
  refine zP_aload_n (pc := 15) C (x := q0) dX7_init_15 rfl rfl ?_
  refine zP_bipush (pc := 16) C dX7_init_16 rfl ?_
  refine zP_row (pc := 18) (t := 18) (N := 6) (z := 6) C HN fr7_18 dX7_init_18 dX7_init_20 aO wf (hu _ (by omega) (by omega)) (fun j => hd _ j (by omega) (by omega)) (zRk rfl) (by omega) rfl (Nat.le_of_ble_eq_true rfl) ⟨Nat.le_of_ble_eq_true rfl, Nat.le_of_ble_eq_true rfl⟩ fun V e wf aO s18 => ?_
  have C := e.ok C
  have E := E.tr e (fun c h => h) (fun c h => by omega)
  have a1 := zAd.go e h1.1 a1
  have h1 := h1.go e (fun c h1 h2 => by omega)
  have h9 := h9.go e (fun c h1 h2 => by omega)
  have hu := zUn.go (l1 := 19) (h1 := 20) e hu (by omega) (by omega) (fun c h1 h2 => by omega)
  refine zP_aload_n (pc := 23) C (x := q0) dX7_init_23 rfl rfl ?_
  refine zP_bipush (pc := 24) C dX7_init_24 rfl ?_
  refine zP_row (pc := 26) (t := 19) (N := 16) (z := 16) C HN fr7_22 dX7_init_26 dX7_init_28 aO wf (hu _ (by omega) (by omega)) (fun j => hd _ j (by omega) (by omega)) (zRk rfl) (by omega) rfl (Nat.le_of_ble_eq_true rfl) ⟨Nat.le_of_ble_eq_true rfl, Nat.le_of_ble_eq_true rfl⟩ fun V e wf aO s26 => ?_
  have C := e.ok C
  have E := E.tr e (fun c h => h) (fun c h => by omega)
  have a1 := zAd.go e h1.1 a1
  have h1 := h1.go e (fun c h1 h2 => by omega)
  have h9 := h9.go e (fun c h1 h2 => by omega)
  have s18 := (e.2.2.1 _ (by omega)).trans s18
  have hu := zUn.go (l1 := 20) (h1 := 20) e hu (by omega) (by omega) (fun c h1 h2 => by omega)
  refine zP_aload_n (pc := 31) C (x := q0) dX7_init_31 rfl rfl ?_
  refine zP_iconst (pc := 32) C dX7_init_32 ?_
  refine zP_putqz (pc := 33) C p7_25 dX7_init_33 aO rfl (zRk rfl) (hd _ _ (by omega) (by omega)) ?_
  refine zP_aload_n (pc := 36) C (x := q0) dX7_init_36 rfl rfl ?_
  refine zP_iconst (pc := 37) C dX7_init_37 ?_
  refine zP_putq (pc := 38) C p7_29 dX7_init_38 aO rfl (zRk rfl) ?_
  refine zP_aload_n (pc := 41) C (x := q0) dX7_init_41 rfl rfl ?_
  refine zP_iconst (pc := 42) C dX7_init_42 ?_
  refine zP_putqz (pc := 43) C p7_32 dX7_init_43 aO rfl (zRk rfl) ((zu_ne (Or.inr (by decide))).trans (hd _ _ (by omega) (by omega))) ?_
  refine zP_aload_n (pc := 46) C (x := q0) dX7_init_46 rfl rfl ?_
  refine zP_aload_n (pc := 47) C (x := q1) dX7_init_47 rfl rfl ?_
  refine zP_putR (pc := 48) (t := 10) C HN fr7_35 dX7_init_48 aO a1 (by rw [h1.1]; rfl) wf fun V e wf aO => ?_
  have C := e.ok C
  have E := E.tr e (fun c h => h) (fun c h => by omega)
  have a1 := zAd.go e h1.1 a1
  have h1 := h1.go e (fun c h1 h2 => by omega)
  have h9 := h9.go e (fun c h1 h2 => by omega)
  have s18 := (e.2.2.1 _ (by omega)).trans s18
  have s26 := (e.2.2.1 _ (by omega)).trans s26
  have hu := zUn.go (l1 := 20) (h1 := 20) e hu (by omega) (by omega) (fun c h1 h2 => by omega)
  have hk : (zfu (zfu (zfu (zfu zF7 1 (13 + 2)) 2 (18 + 2)) 3 (19 + 2)) 0 (10 + 2)) = kX7 := by
    funext j
    match j with
    | 0 => rfl
    | 1 => rfl
    | 2 => rfl
    | 3 => rfl
    | 4 => rfl
    | 5 => rfl
    | 6 => rfl
    | j + 7 => simp [zfu, kX7, zF7]
  rw [hk] at aO
  exact zP_vretN (pc := 51) C EN E wf ⟨aO.1, s18, s26, h1, h9⟩ rfl dX7_init_51
theorem fr5_9 : zFR RX5 9 5 2 := ⟨RX5, TX5, 7, cf5, by decide, q433, rfl, _, rfl, fun _ => ⟨rfl, rfl⟩⟩
theorem fr5_15 : zFR RX5 15 5 3 := ⟨RX5, TX5, 7, cf5, by decide, q434, rfl, _, rfl, fun _ => ⟨rfl, rfl⟩⟩
theorem fr5_18 : zFR RX5 18 5 4 := ⟨RX5, TX5, 7, cf5, by decide, q435, rfl, _, rfl, fun _ => ⟨rfl, rfl⟩⟩
theorem fr5_21 : zFR RX5 21 5 5 := ⟨RX5, TX5, 7, cf5, by decide, q436, rfl, _, rfl, fun _ => ⟨rfl, rfl⟩⟩
theorem fr5_28 : zFR RX5 28 5 0 := ⟨RX5, TX5, 7, cf5, by decide, q431, rfl, _, rfl, fun _ => ⟨rfl, rfl⟩⟩
theorem fr5_32 : zFR RX5 32 5 1 := ⟨RX5, TX5, 7, cf5, by decide, q432, rfl, _, rfl, fun _ => ⟨rfl, rfl⟩⟩
theorem t_X5_init {V : zW} {q0 q1 q2 : Nat} {d : zD} (wf : zWf V) (aO : zAt V 20 q0 (0, 5, zF5)) (h1 : zo9 V) (a1 : zad V 10 = q1) (h2 : zo6 V 1) (a2 : zad V 1 = q2) (hu : ∀ c, 21 ≤ c → c < 20 + 5 → zsh V c = none) (hd : ∀ c j, 20 ≤ c → c < 20 + 5 → d c j = 0) : zMetN V 1 4 120 yX5_init cX5_init 3 [.ref q0, .ref q1, .ref q2] d (fun V => zo5 V) (fun c => 20 ≤ c ∧ c < 20 + 5) d := by
  refine zMetN_by RX5 pn5 rfl rfl (Nat.le_of_ble_eq_true rfl) [some (.ref q0), some (.ref q1), some (.ref q2)] rfl fun X C EN => ?_
  have HN := EN.x
  have E : zEy V V (fun c => 20 ≤ c ∧ c < 20 + 5) := zEy.rf
  refine zP_aload_n (pc := 0) C (x := q0) dX5_init_0 rfl rfl ?_
  refine zP_oinit (pc := 1) C oi5 dX5_init_1 ⟨Nat.le_of_ble_eq_true rfl, Nat.le_of_ble_eq_true rfl⟩ ?_
  refine zP_aload_n (pc := 4) C (x := q0) dX5_init_4 rfl rfl ?_
  refine zP_bipush (pc := 5) C dX5_init_5 rfl ?_
  refine zP_row (pc := 7) (t := 21) (N := 30) (z := 30) C HN fr5_9 dX5_init_7 dX5_init_9 aO wf (hu _ (by omega) (by omega)) (fun j => hd _ j (by omega) (by omega)) (zRk rfl) (by omega) rfl (Nat.le_of_ble_eq_true rfl) ⟨Nat.le_of_ble_eq_true rfl, Nat.le_of_ble_eq_true rfl⟩ fun V e wf aO s7 => ?_
  have C := e.ok C
  have E := E.tr e (fun c h => h) (fun c h => by omega)
  have a1 := zAd.go e h1.1 a1
  have a2 := zAd.go e h2.1 a2
  have h1 := h1.go e (fun c h1 h2 => by omega)
  have h2 := h2.go e (fun c h1 h2 => by omega)
  have hu := zUn.go (l1 := 22) (h1 := 25) e hu (by omega) (by omega) (fun c h1 h2 => by omega)
  refine zP_aload_n (pc := 12) C (x := q0) dX5_init_12 rfl rfl ?_
  refine zP_bipush (pc := 13) C dX5_init_13 rfl ?_
  refine zP_row (pc := 15) (t := 22) (N := 30) (z := 30) C HN fr5_15 dX5_init_15 dX5_init_17 aO wf (hu _ (by omega) (by omega)) (fun j => hd _ j (by omega) (by omega)) (zRk rfl) (by omega) rfl (Nat.le_of_ble_eq_true rfl) ⟨Nat.le_of_ble_eq_true rfl, Nat.le_of_ble_eq_true rfl⟩ fun V e wf aO s15 => ?_
  have C := e.ok C
  have E := E.tr e (fun c h => h) (fun c h => by omega)
  have a1 := zAd.go e h1.1 a1
  have a2 := zAd.go e h2.1 a2
  have h1 := h1.go e (fun c h1 h2 => by omega)
  have h2 := h2.go e (fun c h1 h2 => by omega)
  have s7 := (e.2.2.1 _ (by omega)).trans s7
  have hu := zUn.go (l1 := 23) (h1 := 25) e hu (by omega) (by omega) (fun c h1 h2 => by omega)
  refine zP_aload_n (pc := 20) C (x := q0) dX5_init_20 rfl rfl ?_
  refine zP_bipush (pc := 21) C dX5_init_21 rfl ?_
  refine zP_row (pc := 23) (t := 23) (N := 30) (z := 30) C HN fr5_18 dX5_init_23 dX5_init_25 aO wf (hu _ (by omega) (by omega)) (fun j => hd _ j (by omega) (by omega)) (zRk rfl) (by omega) rfl (Nat.le_of_ble_eq_true rfl) ⟨Nat.le_of_ble_eq_true rfl, Nat.le_of_ble_eq_true rfl⟩ fun V e wf aO s23 => ?_
  have C := e.ok C
  have E := E.tr e (fun c h => h) (fun c h => by omega)
  have a1 := zAd.go e h1.1 a1
  have a2 := zAd.go e h2.1 a2
  have h1 := h1.go e (fun c h1 h2 => by omega)
  have h2 := h2.go e (fun c h1 h2 => by omega)
  have s7 := (e.2.2.1 _ (by omega)).trans s7
  have s15 := (e.2.2.1 _ (by omega)).trans s15
  have hu := zUn.go (l1 := 24) (h1 := 25) e hu (by omega) (by omega) (fun c h1 h2 => by omega)
  refine zP_aload_n (pc := 28) C (x := q0) dX5_init_28 rfl rfl ?_
  refine zP_bipush (pc := 29) C dX5_init_29 rfl ?_
  refine zP_row (pc := 31) (t := 24) (N := 30) (z := 30) C HN fr5_21 dX5_init_31 dX5_init_33 aO wf (hu _ (by omega) (by omega)) (fun j => hd _ j (by omega) (by omega)) (zRk rfl) (by omega) rfl (Nat.le_of_ble_eq_true rfl) ⟨Nat.le_of_ble_eq_true rfl, Nat.le_of_ble_eq_true rfl⟩ fun V e wf aO s31 => ?_
  have C := e.ok C
  have E := E.tr e (fun c h => h) (fun c h => by omega)
  have a1 := zAd.go e h1.1 a1
  have a2 := zAd.go e h2.1 a2
  have h1 := h1.go e (fun c h1 h2 => by omega)
  have h2 := h2.go e (fun c h1 h2 => by omega)
  have s7 := (e.2.2.1 _ (by omega)).trans s7
  have s15 := (e.2.2.1 _ (by omega)).trans s15
  have s23 := (e.2.2.1 _ (by omega)).trans s23
  have hu := zUn.go (l1 := 25) (h1 := 25) e hu (by omega) (by omega) (fun c h1 h2 => by omega)
  refine zP_aload_n (pc := 36) C (x := q0) dX5_init_36 rfl rfl ?_
  refine zP_iconst (pc := 37) C dX5_init_37 ?_
  refine zP_putqz (pc := 38) C p5_24 dX5_init_38 aO rfl (zRk rfl) (hd _ _ (by omega) (by omega)) ?_
  refine zP_aload_n (pc := 41) C (x := q0) dX5_init_41 rfl rfl ?_
  refine zP_aload_n (pc := 42) C (x := q1) dX5_init_42 rfl rfl ?_
  refine zP_putR (pc := 43) (t := 10) C HN fr5_28 dX5_init_43 aO a1 (by rw [h1.1]; rfl) wf fun V e wf aO => ?_
  have C := e.ok C
  have E := E.tr e (fun c h => h) (fun c h => by omega)
  have a1 := zAd.go e h1.1 a1
  have a2 := zAd.go e h2.1 a2
  have h1 := h1.go e (fun c h1 h2 => by omega)
  have h2 := h2.go e (fun c h1 h2 => by omega)
  have s7 := (e.2.2.1 _ (by omega)).trans s7
  have s15 := (e.2.2.1 _ (by omega)).trans s15
  have s23 := (e.2.2.1 _ (by omega)).trans s23
  have s31 := (e.2.2.1 _ (by omega)).trans s31
  have hu := zUn.go (l1 := 25) (h1 := 25) e hu (by omega) (by omega) (fun c h1 h2 => by omega)
  refine zP_aload_n (pc := 46) C (x := q0) dX5_init_46 rfl rfl ?_
  refine zP_aload_n (pc := 47) C (x := q2) dX5_init_47 rfl rfl ?_
  refine zP_putR (pc := 48) (t := 1) C HN fr5_32 dX5_init_48 aO a2 (by rw [h2.1]; rfl) wf fun V e wf aO => ?_
  have C := e.ok C
  have E := E.tr e (fun c h => h) (fun c h => by omega)
  have a1 := zAd.go e h1.1 a1
  have a2 := zAd.go e h2.1 a2
  have h1 := h1.go e (fun c h1 h2 => by omega)
  have h2 := h2.go e (fun c h1 h2 => by omega)
  have s7 := (e.2.2.1 _ (by omega)).trans s7
  have s15 := (e.2.2.1 _ (by omega)).trans s15
  have s23 := (e.2.2.1 _ (by omega)).trans s23
  have s31 := (e.2.2.1 _ (by omega)).trans s31
  have hu := zUn.go (l1 := 25) (h1 := 25) e hu (by omega) (by omega) (fun c h1 h2 => by omega)
  have hk : (zfu (zfu (zfu (zfu (zfu (zfu zF5 2 (21 + 2)) 3 (22 + 2)) 4 (23 + 2)) 5 (24 + 2)) 0 (10 + 2)) 1 (1 + 2)) = kX5 := by
    funext j
    match j with
    | 0 => rfl
    | 1 => rfl
    | 2 => rfl
    | 3 => rfl
    | 4 => rfl
    | 5 => rfl
    | 6 => rfl
    | j + 7 => simp [zfu, kX5, zF5]
  rw [hk] at aO
  exact zP_vretN (pc := 51) C EN E wf ⟨aO.1, s7, s15, s23, s31, h1, h2⟩ rfl dX5_init_51
