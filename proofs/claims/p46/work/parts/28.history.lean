/-! Makers of the history, the class, the reference. -/
theorem ci0_24 : zCI RX0 24 yX2_init cX2_init 2 1 := ⟨Or.inl (zin 349 (by decide +kernel) (by decide +kernel)), (zin 100 (by decide +kernel) (by decide +kernel)), (zin 24 (by decide +kernel) (by decide +kernel)), (zin 101 (by decide +kernel) (by decide +kernel)), rfl, ⟨by decide +kernel, by decide +kernel⟩, by decide +kernel⟩
theorem nw0_9 : Cond.classLink RX0 9 RX2 ∈ zT ∧ Cond.instantiable RX2 16 ∈ zT ∧ Cond.initialized RX2 ∈ zT := ⟨(zin 347 (by decide +kernel) (by decide +kernel)), (zin 98 (by decide +kernel) (by decide +kernel)), (zin 24 (by decide +kernel) (by decide +kernel))⟩
theorem fr0_11 : zFR RX0 11 0 0 := ⟨RX0, TX0, 3, cf0, by decide, q350, rfl, _, rfl, fun _ => ⟨rfl, rfl⟩⟩
def zdY (d : zD) : Nat → zD
  | 0 => d
  | i + 1 => zdL (zdY d i) (120 + 30 * i)
theorem zdY_ne {d : zD} {c j : Nat} : ∀ {i : Nat}, c < 120 ∨ 120 + 30 * i ≤ c → zdY d i c j = d c j := by
  intro i
  induction i with
  | zero => intro _; rfl
  | succ i ih =>
    intro h
    exact (zdL_ne (by omega)).trans (ih (by omega))
def zkI (i : Nat) : Nat → Nat := fun j => if j < i then (120 + 30 * j) + 2 else 0
theorem zkI_s {i : Nat} : zfu (zkI i) i (120 + 30 * i + 2) = zkI (i + 1) := by
  funext j
  unfold zfu zkI
  by_cases h1 : j = i
  · rw [if_pos h1, if_pos (by omega), h1]
  · rw [if_neg h1]
    by_cases h2 : j < i
    · rw [if_pos h2, if_pos (by omega)]
    · rw [if_neg h2, if_neg (by omega)]
theorem zkI_0 : zk0 = zkI 0 := rfl
theorem zkI_8 : zkI 8 = kXk := rfl
abbrev zSy : Nat → Prop := fun c => c = 8 ∨ c = 9 ∨ (120 ≤ c ∧ c < 360)
theorem zw_nat {i : Nat} (h : i < 1000) : zw ((i : Int) + 1) = ((i + 1 : Nat) : Int) := by
  rw [zw_id (by omega) (by omega)]
  omega
theorem w_X0_init_25 {V0 : zW} {X : zX} {q0 q1 q9 : Nat} {d0 : zD} (HN : zNX X) (EN : zEndN V0 X (fun V => zo0 V) zSy 241 6280 (zdY d0 8)) : ∀ (m : Nat) {V : zW} {i k n : Nat} (hm : i + m = 8) (hk : k = 1 + 30 * i) (hn : n = 8 + 784 * i) (C : zOk V X cX0_init RX0 3 (zrmC 3 241 6280) none) (E : zEy V0 V zSy) (wf : zWf V) (aO : zAt V 8 q0 (0, 0, kX0)) (a9 : zAt V 9 q9 (3, 8, zkI i)) (hz : ∀ j, j < i → zo2 V (120 + 30 * j)) (h1 : zo6 V 1) (a1 : zad V 1 = q1) (hu : ∀ c, 120 + 30 * i ≤ c → c < 360 → zsh V c = none) (hd : ∀ c j, 120 + 30 * i ≤ c → c < 360 → zdY d0 i c j = 0), zP V X 3 k n 25 [some (.ref q0), some (.ref q1), some (.int (zI (i : Int)))] [] (zdY d0 i) := by
  intro m
  induction m with
  | zero =>
    intro V i k n hm hk hn C E wf aO a9 hz h1 a1 hu hd
    have hi : i = 8 := by omega
    subst hi
    have hk : k = 241 := by omega
    have hn : n = 6280 := by omega
    subst hk
    subst hn
    refine zP_iload_n (pc := 25) C (x := zI (8 : Nat)) dX0_init_25 rfl rfl ?_
    refine zP_bipush (pc := 26) C dX0_init_26 rfl ?_
    refine zP_icmp_ge (β := Unit) (r := ()) (A := some ()) (B := some ()) (pc := 28) (tgt := 51) (x := ((8 : Nat) : Int)) (y := 8) C dX0_init_28 rfl (zRk rfl) (zRk rfl) (by split <;> rfl) (fun _ _ => ?_) (fun h _ => absurd (by decide) h)
    exact zP_vretN (pc := 51) C EN E wf ⟨aO.1, a9.1, fun j hj => hz j hj⟩ rfl dX0_init_51
  | succ m ih =>
    intro V i k n hm hk hn C E wf aO a9 hz h1 a1 hu hd
    refine zP_iload_n (pc := 25) C (x := zI (i : Int)) dX0_init_25 rfl rfl ?_
    refine zP_bipush (pc := 26) C dX0_init_26 rfl ?_
    refine zP_icmp_ge (β := Unit) (r := ()) (A := some ()) (B := some ()) (pc := 28) (tgt := 51) (x := (i : Int)) (y := 8) C dX0_init_28 rfl ⟨by omega, by omega⟩ (zRk rfl) (by split <;> rfl) (fun h _ => absurd h (by omega)) (fun _ _ => ?_)
    refine zP_aload_n (pc := 31) C (x := q0) dX0_init_31 rfl rfl ?_
    refine zP_getq (pc := 32) (t := 9) C g0_11 dX0_init_32 aO rfl a9.2 ?_
    refine zP_iload_n (pc := 35) C (x := zI (i : Int)) dX0_init_35 rfl rfl ?_
    refine zP_newq (pc := 36) (a := 120 + 30 * i) (fk := zF2) C zY2 cf2 zY2_p nw0_9 dX0_init_36 wf (hu _ (by omega) (by omega)) (fun j => hd _ j (by omega) (by omega)) zF2_d zF2_r ⟨by show k + 1 ≤ 241; omega, by show n + 16 ≤ 6280; omega⟩ fun V q36 e wf a36 => ?_
    have C := e.ok C
    have E := E.tr (S := zSy) e (fun c h => h) (fun c h => by show c = 8 ∨ c = 9 ∨ (120 ≤ c ∧ c < 360); omega)
    have a1 := zAd.go e h1.1 a1
    have aO := aO.go e (by omega)
    have a9 := a9.go e (by omega)
    have hz : ∀ j, j < i → zo2 V (120 + 30 * j) := fun j hj => (hz j hj).go e (fun c h1 h2 => by omega) (fun c h1 h2 => by omega)
    have h1 := h1.go e (fun c h1 h2 => by omega)
    have hu := zUn.go (l1 := 120 + 30 * i + 1) (h1 := 360) e hu (by omega) (by omega) (fun c h1 h2 => by omega)
    refine zP_dupr (pc := 39) C dX0_init_39 ?_
    refine zP_aload_n (pc := 40) C (x := q1) dX0_init_40 rfl rfl ?_
    refine zP_callI (pc := 41) (As := [.ref q1]) (st := [.ref q36, .int (zI (i : Int)), .ref q9]) C HN ci0_24 dX0_init_41 (t_X2_init (b := 120 + 30 * i) wf a36 h1 a1 (by omega) (fun c h1 h2 => hu c (by omega) (by omega)) (fun c j h1 h2 => hd c j (by omega) (by omega))) rfl ⟨Nat.le_of_ble_eq_true rfl, Nat.le_of_ble_eq_true rfl⟩ rfl (Nat.le_of_ble_eq_true rfl) ⟨by show k + 1 + 29 ≤ 241; omega, by show n + 16 + 768 ≤ 6280; omega⟩ fun V e wf h41 => ?_
    have a36_ := zAd.go e a36.1 a36.2
    have C := e.ok C
    have E := E.tr (S := zSy) e (fun c h => h) (fun c h => by show c = 8 ∨ c = 9 ∨ (120 ≤ c ∧ c < 360); omega)
    have a1 := zAd.go e h1.1 a1
    have aO := aO.go e (by omega)
    have a9 := a9.go e (by omega)
    have hz : ∀ j, j < i → zo2 V (120 + 30 * j) := fun j hj => (hz j hj).go e (fun c h1 h2 => by omega) (fun c h1 h2 => by omega)
    have h1 := h1.go e (fun c h1 h2 => by omega)
    have hu := zUn.go (l1 := 120 + 30 * (i + 1)) (h1 := 360) e hu (by omega) (by omega) (fun c h1 h2 => by omega)
    refine zP_aastq (pc := 44) (N := 8) (t := 120 + 30 * i) (fk2 := kX2 (120 + 30 * i)) C dX0_init_44 a9 ⟨h41.1, a36_⟩ wf ⟨by omega, by omega⟩ ⟨by omega, by omega⟩ fun V e wf a9 => ?_
    rw [Int.toNat_natCast, zkI_s] at a9
    have C := e.ok C
    have E := E.tr (S := zSy) e (fun c h => h) (fun c h => by show c = 8 ∨ c = 9 ∨ (120 ≤ c ∧ c < 360); omega)
    have a1 := zAd.go e h1.1 a1
    have aO := aO.go e (by omega)
    have hz : ∀ j, j < i + 1 → zo2 V (120 + 30 * j) := fun j hj => by
      by_cases hji : j = i
      · rw [hji]
        exact h41.go e (fun c h1 h2 => by omega) (fun c h1 h2 => by omega)
      · exact (hz j (by omega)).go e (fun c h1 h2 => by omega) (fun c h1 h2 => by omega)
    have h1 := h1.go e (fun c h1 h2 => by omega)
    have hu := zUn.go (l1 := 120 + 30 * (i + 1)) (h1 := 360) e hu (by omega) (by omega) (fun c h1 h2 => by omega)
    refine zP_iinc (β := Unit) (r := ()) (K := fun v => if v = ((i + 1 : Nat) : Int) then some () else none) (pc := 45) C (x := (i : Int)) dX0_init_45 rfl (Nat.le_of_ble_eq_true rfl) rfl (by show (if zw ((i : Int) + 1) = _ then some () else none) = _; rw [if_pos (zw_nat (by omega))]) fun v hv h => ?_
    have hvi : v = ((i + 1 : Nat) : Int) := by
      by_cases hq : v = ((i + 1 : Nat) : Int)
      · exact hq
      · rw [if_neg hq] at h
        cases h
    subst hvi
    refine zP_goto (pc := 48) (tgt := 25) C dX0_init_48 rfl ?_
    exact ih (i := i + 1) (by omega) (by omega) (by omega) C E wf aO a9 hz h1 a1 hu (fun c j h1 h2 => (zdL_ne (by omega)).trans (hd c j (by omega) (by omega)))
theorem t_X0_init {V : zW} {q0 q1 : Nat} {d : zD} (wf : zWf V) (aO : zAt V 8 q0 (0, 0, zF0)) (h1 : zo6 V 1) (a1 : zad V 1 = q1) (hu9 : zsh V 9 = none) (hu : ∀ c, 120 ≤ c → c < 360 → zsh V c = none) (hd8 : ∀ j, d 8 j = 0) (hd : ∀ c j, 120 ≤ c → c < 360 → d c j = 0) : zMetN V 3 241 6280 yX0_init cX0_init 3 [.ref q0, .ref q1] d (fun V => zo0 V) zSy (zdY d 8) := by
  refine zMetN_by RX0 pn0 rfl rfl (Nat.le_of_ble_eq_true rfl) [some (.ref q0), some (.ref q1), none] rfl fun X C EN => ?_
  have HN := EN.x
  have E : zEy V V zSy := zEy.rf
  refine zP_aload_n (pc := 0) C (x := q0) dX0_init_0 rfl rfl ?_
  refine zP_oinit (pc := 1) C oi0 dX0_init_1 ⟨Nat.le_of_ble_eq_true rfl, Nat.le_of_ble_eq_true rfl⟩ ?_
  refine zP_aload_n (pc := 4) C (x := q0) dX0_init_4 rfl rfl ?_
  refine zP_bipush (pc := 5) C dX0_init_5 rfl ?_
  refine zP_newL (pc := 7) (a := 9) (N := 8) (z := 8) C HN nw0_9.1 dX0_init_7 wf hu9 (zRk rfl) (by omega) rfl (Nat.le_of_ble_eq_true rfl) ⟨Nat.le_of_ble_eq_true rfl, Nat.le_of_ble_eq_true rfl⟩ fun V q9 e wf a9 => ?_
  have C := e.ok C
  have E := E.tr (S := zSy) e (fun c h => h) (fun c h => Or.inr (Or.inl h))
  have a1 := zAd.go e h1.1 a1
  have aO := aO.go e (by omega)
  have h1 := h1.go e (fun c h1 h2 => by omega)
  have hu := zUn.go (l1 := 120) (h1 := 360) e hu (by omega) (by omega) (fun c h1 h2 => by omega)
  refine zP_putR (pc := 10) (t := 9) C HN fr0_11 dX0_init_10 aO a9.2 (by rw [a9.1]; rfl) wf fun V e wf aO => ?_
  have C := e.ok C
  have E := E.tr (S := zSy) e (fun c h => h) (fun c h => Or.inl h)
  have a1 := zAd.go e h1.1 a1
  have a9 := a9.go e (by omega)
  have h1 := h1.go e (fun c h1 h2 => by omega)
  have hu := zUn.go (l1 := 120) (h1 := 360) e hu (by omega) (by omega) (fun c h1 h2 => by omega)
  have hk : (zfu zF0 0 (9 + 2)) = kX0 := by
    funext j
    match j with
    | 0 => rfl
    | 1 => rfl
    | 2 => rfl
    | j + 3 => simp [zfu, kX0, zF0]
  rw [hk] at aO
  refine zP_aload_n (pc := 13) C (x := q0) dX0_init_13 rfl rfl ?_
  refine zP_iconst (pc := 14) C dX0_init_14 ?_
  refine zP_putqz (pc := 15) C p0_17 dX0_init_15 aO rfl (zRk rfl) (hd8 _) ?_
  refine zP_aload_n (pc := 18) C (x := q0) dX0_init_18 rfl rfl ?_
  refine zP_iconst (pc := 19) C dX0_init_19 ?_
  refine zP_putqz (pc := 20) C p0_21 dX0_init_20 aO rfl (zRk rfl) (hd8 _) ?_
  refine zP_iconst (pc := 23) C dX0_init_23 ?_
  refine zP_istore_n (pc := 24) C (L' := [some (.ref q0), some (.ref q1), some (.int (zI (0 : Nat)))]) dX0_init_24 rfl (Nat.le_of_ble_eq_true rfl) rfl rfl ?_
  exact w_X0_init_25 (q9 := q9) (V0 := _) HN EN 8 (i := 0) rfl rfl rfl C E wf aO a9 (fun j hj => absurd hj (by omega)) h1 a1 hu hd
