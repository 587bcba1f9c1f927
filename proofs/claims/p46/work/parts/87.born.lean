/-! The makers of the class and of the reference. -/
theorem zUp.go {V V1 : zW} {S R R1 : Nat → Prop} (E : zEy V V1 S) (h : ∀ c, R c → zsh V c = none) (hR : ∀ c, R1 c → R c ∧ ¬ S c) : ∀ c, R1 c → zsh V1 c = none := fun c hc => (E.2.2.1 c (hR c hc).2).trans (h c (hR c hc).1)
theorem t_X1_born {V : zW} {g lb : Nat} {q0 q1 : Nat} {d : zD} (wf : zWf V) (aO : zAt V g q0 (0, 1, zF1)) (h1 : zo2 V lb) (a1 : zad V lb = q1) (hg : 6 ≤ g ∧ g < 30 ∧ 30 ≤ lb) : zMetN V 1 0 0 yX1_init cX1_init 2 [.ref q0, .ref q1] d (fun V => zo1 V g lb) (fun c => c = g) (zdH d g) := by
  refine zMetN_by RX1 pn1 rfl rfl (Nat.le_of_ble_eq_true rfl) [some (.ref q0), some (.ref q1)] rfl fun X C EN => ?_
  have HN := EN.x
  have E : zEy V V (fun c => c = g) := zEy.rf
  refine zP_aload_n (pc := 0) C (x := q0) dX1_init_0 rfl rfl ?_
  refine zP_oinit (pc := 1) C oi1 dX1_init_1 ⟨Nat.le_of_ble_eq_true rfl, Nat.le_of_ble_eq_true rfl⟩ ?_
  refine zP_aload_n (pc := 4) C (x := q0) dX1_init_4 rfl rfl ?_
  refine zP_iconst (pc := 5) C dX1_init_5 ?_
  refine zP_putq (pc := 6) C p1_9 dX1_init_6 aO rfl (zRk rfl) ?_
  refine zP_aload_n (pc := 9) C (x := q0) dX1_init_9 rfl rfl ?_
  refine zP_iconst (pc := 10) C dX1_init_10 ?_
  refine zP_putq (pc := 11) C p1_15 dX1_init_11 aO rfl (zRk rfl) ?_
  refine zP_aload_n (pc := 14) C (x := q0) dX1_init_14 rfl rfl ?_
  refine zP_iconst (pc := 15) C dX1_init_15 ?_
  refine zP_putq (pc := 16) C p1_18 dX1_init_16 aO rfl (zRk rfl) ?_
  refine zP_aload_n (pc := 19) C (x := q0) dX1_init_19 rfl rfl ?_
  refine zP_aload_n (pc := 20) C (x := q1) dX1_init_20 rfl rfl ?_
  refine zP_putR (pc := 21) (t := lb) C HN fr1_21 dX1_init_21 aO a1 (by rw [h1.1]; rfl) wf fun V e wf aO => ?_
  have C := e.ok C
  have E := E.tr e (fun c h => h) (fun c h => by omega)
  have a1 := zAd.go e h1.1 a1
  have h1 := h1.go e (fun c h1 h2 => by omega) (fun c h1 h2 => by omega)
  have hk : (zfu zF1 0 (lb + 2)) = kX1 lb := by
    funext j
    match j with
    | 0 => rfl
    | 1 => rfl
    | 2 => rfl
    | 3 => rfl
    | j + 4 => simp [zfu, kX1, zF1]
  rw [hk] at aO
  exact zP_vretN (pc := 24) C EN E wf ⟨aO.1, h1⟩ rfl dX1_init_24
theorem nw11_7 : Cond.classLink RX11 7 RX6 ∈ zT ∧ Cond.instantiable RX6 5 ∈ zT ∧ Cond.initialized RX6 ∈ zT := ⟨(zin 61 (by decide +kernel) (by decide +kernel)), (zin 62 (by decide +kernel) (by decide +kernel)), (zin 23 (by decide +kernel) (by decide +kernel))⟩
theorem ci11_9 : zCI RX11 9 yX6_init cX6_init 1 0 := ⟨Or.inr (by decide +kernel), (zin 64 (by decide +kernel) (by decide +kernel)), (zin 23 (by decide +kernel) (by decide +kernel)), (zin 65 (by decide +kernel) (by decide +kernel)), rfl, ⟨by decide +kernel, by decide +kernel⟩, by decide +kernel⟩
theorem fr11_10 : zFR RX11 10 11 0 := ⟨RX11, TX11, 13, cf11, by decide, q631, rfl, _, rfl, fun _ => ⟨rfl, rfl⟩⟩
theorem nw11_16 : Cond.classLink RX11 16 RX2 ∈ zT ∧ Cond.instantiable RX2 16 ∈ zT ∧ Cond.initialized RX2 ∈ zT := ⟨(zin 97 (by decide +kernel) (by decide +kernel)), (zin 98 (by decide +kernel) (by decide +kernel)), (zin 24 (by decide +kernel) (by decide +kernel))⟩
theorem ci11_18 : zCI RX11 18 yX2_init cX2_init 2 1 := ⟨Or.inl (zin 99 (by decide +kernel) (by decide +kernel)), (zin 100 (by decide +kernel) (by decide +kernel)), (zin 24 (by decide +kernel) (by decide +kernel)), (zin 101 (by decide +kernel) (by decide +kernel)), rfl, ⟨by decide +kernel, by decide +kernel⟩, by decide +kernel⟩
theorem fr11_21 : zFR RX11 21 11 1 := ⟨RX11, TX11, 13, cf11, by decide, q632, rfl, _, rfl, fun _ => ⟨rfl, rfl⟩⟩
theorem nw11_25 : Cond.classLink RX11 25 RX1 ∈ zT ∧ Cond.instantiable RX1 4 ∈ zT ∧ Cond.initialized RX1 ∈ zT := ⟨(zin 320 (by decide +kernel) (by decide +kernel)), (zin 321 (by decide +kernel) (by decide +kernel)), (zin 29 (by decide +kernel) (by decide +kernel))⟩
theorem ci11_27 : zCI RX11 27 yX1_init cX1_init 2 1 := ⟨Or.inl (zin 322 (by decide +kernel) (by decide +kernel)), (zin 323 (by decide +kernel) (by decide +kernel)), (zin 29 (by decide +kernel) (by decide +kernel)), (zin 324 (by decide +kernel) (by decide +kernel)), rfl, ⟨by decide +kernel, by decide +kernel⟩, by decide +kernel⟩
theorem fr11_30 : zFR RX11 30 11 2 := ⟨RX11, TX11, 13, cf11, by decide, q633, rfl, _, rfl, fun _ => ⟨rfl, rfl⟩⟩
theorem fr11_34 : zFR RX11 34 11 3 := ⟨RX11, TX11, 13, cf11, by decide, q634, rfl, _, rfl, fun _ => ⟨rfl, rfl⟩⟩
theorem fr11_37 : zFR RX11 37 11 4 := ⟨RX11, TX11, 13, cf11, by decide, q635, rfl, _, rfl, fun _ => ⟨rfl, rfl⟩⟩
theorem fr11_40 : zFR RX11 40 11 5 := ⟨RX11, TX11, 13, cf11, by decide, q636, rfl, _, rfl, fun _ => ⟨rfl, rfl⟩⟩
theorem nw11_43 : Cond.classLink RX11 43 RX0 ∈ zT ∧ Cond.instantiable RX0 3 ∈ zT ∧ Cond.initialized RX0 ∈ zT := ⟨(zin 341 (by decide +kernel) (by decide +kernel)), (zin 342 (by decide +kernel) (by decide +kernel)), (zin 30 (by decide +kernel) (by decide +kernel))⟩
theorem ci11_45 : zCI RX11 45 yX0_init cX0_init 3 1 := ⟨Or.inl (zin 343 (by decide +kernel) (by decide +kernel)), (zin 344 (by decide +kernel) (by decide +kernel)), (zin 30 (by decide +kernel) (by decide +kernel)), (zin 345 (by decide +kernel) (by decide +kernel)), rfl, ⟨by decide +kernel, by decide +kernel⟩, by decide +kernel⟩
theorem fr11_46 : zFR RX11 46 11 6 := ⟨RX11, TX11, 13, cf11, by decide, q637, rfl, _, rfl, fun _ => ⟨rfl, rfl⟩⟩
theorem nw11_50 : Cond.classLink RX11 50 RX9 ∈ zT ∧ Cond.instantiable RX9 7 ∈ zT ∧ Cond.initialized RX9 ∈ zT := ⟨(zin 361 (by decide +kernel) (by decide +kernel)), (zin 362 (by decide +kernel) (by decide +kernel)), (zin 31 (by decide +kernel) (by decide +kernel))⟩
theorem ci11_52 : zCI RX11 52 yX9_init cX9_init 1 0 := ⟨Or.inr (by decide +kernel), (zin 364 (by decide +kernel) (by decide +kernel)), (zin 31 (by decide +kernel) (by decide +kernel)), (zin 365 (by decide +kernel) (by decide +kernel)), rfl, ⟨by decide +kernel, by decide +kernel⟩, by decide +kernel⟩
theorem fr11_53 : zFR RX11 53 11 7 := ⟨RX11, TX11, 13, cf11, by decide, q638, rfl, _, rfl, fun _ => ⟨rfl, rfl⟩⟩
theorem nw11_57 : Cond.classLink RX11 57 RX7 ∈ zT ∧ Cond.instantiable RX7 7 ∈ zT ∧ Cond.initialized RX7 ∈ zT := ⟨(zin 390 (by decide +kernel) (by decide +kernel)), (zin 391 (by decide +kernel) (by decide +kernel)), (zin 32 (by decide +kernel) (by decide +kernel))⟩
theorem ci11_59 : zCI RX11 59 yX7_init cX7_init 2 1 := ⟨Or.inl (zin 392 (by decide +kernel) (by decide +kernel)), (zin 393 (by decide +kernel) (by decide +kernel)), (zin 32 (by decide +kernel) (by decide +kernel)), (zin 394 (by decide +kernel) (by decide +kernel)), rfl, ⟨by decide +kernel, by decide +kernel⟩, by decide +kernel⟩
theorem fr11_62 : zFR RX11 62 11 8 := ⟨RX11, TX11, 13, cf11, by decide, q639, rfl, _, rfl, fun _ => ⟨rfl, rfl⟩⟩
theorem nw11_66 : Cond.classLink RX11 66 RX5 ∈ zT ∧ Cond.instantiable RX5 7 ∈ zT ∧ Cond.initialized RX5 ∈ zT := ⟨(zin 425 (by decide +kernel) (by decide +kernel)), (zin 426 (by decide +kernel) (by decide +kernel)), (zin 33 (by decide +kernel) (by decide +kernel))⟩
theorem ci11_68 : zCI RX11 68 yX5_init cX5_init 3 2 := ⟨Or.inl (zin 427 (by decide +kernel) (by decide +kernel)), (zin 428 (by decide +kernel) (by decide +kernel)), (zin 33 (by decide +kernel) (by decide +kernel)), (zin 429 (by decide +kernel) (by decide +kernel)), rfl, ⟨by decide +kernel, by decide +kernel⟩, by decide +kernel⟩
theorem fr11_71 : zFR RX11 71 11 9 := ⟨RX11, TX11, 13, cf11, by decide, q640, rfl, _, rfl, fun _ => ⟨rfl, rfl⟩⟩
theorem fr11_75 : zFR RX11 75 11 10 := ⟨RX11, TX11, 13, cf11, by decide, q641, rfl, _, rfl, fun _ => ⟨rfl, rfl⟩⟩
/-- the heap of a class that is made, its text not yet read -/
def zdC (d : zD) : zD := (zdR (zu (zu (zdY (zdL (zdH (zdL (zdH (zdL d 30) 6) 60) 7) 90) 8) 10 2 3) 10 6 (-1)))
/-- letter by letter -/
def zdT (D : zD) : Nat → zD
  | 0 => D
  | i + 1 => zu (zu (zdT D i) 11 i (zsch 0 i)) 10 1 (((i + 1 : Nat) : Int))
theorem zdT_1 {D : zD} (h : D 10 1 = 0) : ∀ i, zdT D i 10 1 = (i : Int)
  | 0 => h
  | i + 1 => zu_eq
theorem zdT_add {D : zD} (h : D 10 1 = 0) {i : Nat} (hi : i < 33) : f_X9_addByte (zsch 0 i) (zdT D i) = some (0, zdT D (i + 1)) := by
  unfold f_X9_addByte
  rw [zl_n, zdT_1 h, if_neg (by omega), zl_n, zg_t (by omega), zl_n, zl_n, Int.toNat_natCast]
  have e1 : zu (zdT D i) 11 i (zsch 0 i) 10 1 = (i : Int) := (zu_ne (by omega)).trans (zdT_1 h i)
  rw [e1, zl_n, zl_n, zw_nat (by omega)]
  rfl
theorem zdC_10 {d : zD} (h : d 10 1 = 0) : zdC d 10 1 = 0 := by
  unfold zdC
  rw [zdR_ne (by omega), zu_ne (by omega), zu_ne (by omega), zdY_ne (by omega), zdL_ne (by omega), zdH_ne (by omega), zdL_ne (by omega), zdH_ne (by omega), zdL_ne (by omega)]
  exact h
theorem zsl0 : ((zslen 0 : Nat) : Int) = 33 := by decide +kernel
theorem w_X11_init_171 {V0 V : zW} {X : zX} (hT : zo11 V) (C : zOk V X cX11_init RX11 2 (zrmC 12 355 9640) none) {d1 d2 : zD} (EN : zEndN V0 X (fun V => zo11 V) (fun c => c < 360) 355 9640 (zu d2 10 1 0)) (E : zEy V0 V (fun c => c < 360)) (wf : zWf V) {D : zD} (hr1 : f_X7_readText (zdT D 33) = some (1, d1)) (hr2 : f_X11_beginAnew d1 = some (0, d2)) (h10 : D 10 1 = 0) : ∀ (m : Nat) {i : Nat} (hm : i + m = 33), zP V X 2 355 9640 171 [some (.ref (zad V 0)), some (.int (zI (i : Int)))] [] (zdT D i) := by
  intro m
  induction m with
  | zero =>
    intro i hm
    have hi : i = 33 := by omega
    subst hi
    refine zP_iload_n (pc := 171) C (x := zI ((33 : Nat) : Int)) dX11_init_171 rfl rfl ?_
    refine zP_ldcT (pc := 172) (i := 0) C (by decide) rfl rfl dX11_init_172 ?_
    refine zP_callT (pc := 174) (t := 0) (As := []) (st := [.int (zI ((33 : Nat) : Int))]) C (by decide) sl11_89 dX11_init_174 (t_length (by decide)) ⟨Nat.le_of_ble_eq_true rfl, Nat.le_of_ble_eq_true rfl⟩ rfl (Nat.le_of_ble_eq_true rfl) ⟨Nat.le_of_ble_eq_true rfl, Nat.le_of_ble_eq_true rfl⟩ fun _ => ?_
    show zP V X 2 355 9640 177 _ [.int (zI ((zslen 0 : Nat) : Int)), .int (zI ((33 : Nat) : Int))] _
    refine zP_icmp_ge (β := Unit) (r := ()) (A := some ()) (B := some ()) (pc := 177) (tgt := 199) (x := ((33 : Nat) : Int)) (y := ((zslen 0 : Nat) : Int)) C dX11_init_177 rfl (zRk rfl) (by rw [zsl0]; exact zRk rfl) (by split <;> rfl) (fun _ _ => ?_) (fun h _ => absurd (by rw [zsl0]; decide) h)
    refine zP_aload_n (pc := 199) C (x := zad V 0) dX11_init_199 rfl rfl ?_
    refine zP_getR (pc := 200) (a := 0) (t := 12) C g11_62 dX11_init_200 (s_X11 hT) rfl ?_
    refine zP_callV (pc := 203) (As := []) (st := []) C m11_103 dX11_init_203 (s_X7 (o_X11_setupReader hT)) rfl (t_X7_readText (o_X11_setupReader hT) hr1) ⟨Nat.le_of_ble_eq_true rfl, Nat.le_of_ble_eq_true rfl⟩ rfl (Nat.le_of_ble_eq_true rfl) ⟨Nat.le_of_ble_eq_true rfl, Nat.le_of_ble_eq_true rfl⟩ fun _ => ?_
    show zP V X 2 355 9640 206 _ [.int (zI 1)] d1
    refine zP_if_eq (pc := 206) (tgt := 213) C dX11_init_206 rfl (x := 1) (zRk rfl) (A := (none : Option Nat)) (B := some 0) (r := 0) rfl (fun h _ => absurd h (by decide)) (fun _ _ => ?_)
    refine zP_aload_n (pc := 209) C (x := zad V 0) dX11_init_209 rfl rfl ?_
    refine zP_callV (pc := 210) (As := []) (st := []) C m11_107 dX11_init_210 (s_X11 hT) rfl (t_X11_beginAnew hT hr2) ⟨Nat.le_of_ble_eq_true rfl, Nat.le_of_ble_eq_true rfl⟩ rfl (Nat.le_of_ble_eq_true rfl) ⟨Nat.le_of_ble_eq_true rfl, Nat.le_of_ble_eq_true rfl⟩ fun _ => ?_
    show zP V X 2 355 9640 213 _ [] d2
    refine zP_aload_n (pc := 213) C (x := zad V 0) dX11_init_213 rfl rfl ?_
    refine zP_getR (pc := 214) (a := 0) (t := 10) C g11_53 dX11_init_214 (s_X11 hT) rfl ?_
    refine zP_iconst (pc := 217) C dX11_init_217 ?_
    refine zP_put0 (pc := 218) (a := 10) (v := 0) C p11_110 dX11_init_218 (s_X9 (o_X11_tokens hT)) rfl (zRk rfl) rfl rfl ?_
    exact zP_vretN (pc := 221) C EN E wf hT rfl dX11_init_221
  | succ m ih =>
    intro i hm
    have hir : zR (i : Int) := ⟨by omega, by omega⟩
    obtain ⟨c1, -⟩ := zsc_ok (i := 0) (j := i) (by decide) (by have := zsl0; omega)
    refine zP_iload_n (pc := 171) C (x := zI (i : Int)) dX11_init_171 rfl rfl ?_
    refine zP_ldcT (pc := 172) (i := 0) C (by decide) rfl rfl dX11_init_172 ?_
    refine zP_callT (pc := 174) (t := 0) (As := []) (st := [.int (zI (i : Int))]) C (by decide) sl11_89 dX11_init_174 (t_length (by decide)) ⟨Nat.le_of_ble_eq_true rfl, Nat.le_of_ble_eq_true rfl⟩ rfl (Nat.le_of_ble_eq_true rfl) ⟨Nat.le_of_ble_eq_true rfl, Nat.le_of_ble_eq_true rfl⟩ fun _ => ?_
    show zP V X 2 355 9640 177 _ [.int (zI ((zslen 0 : Nat) : Int)), .int (zI (i : Int))] _
    refine zP_icmp_ge (β := Unit) (r := ()) (A := some ()) (B := some ()) (pc := 177) (tgt := 199) (x := (i : Int)) (y := ((zslen 0 : Nat) : Int)) C dX11_init_177 rfl hir (by rw [zsl0]; exact zRk rfl) (by split <;> rfl) (fun h _ => absurd h (by rw [zsl0]; omega)) (fun _ _ => ?_)
    refine zP_aload_n (pc := 180) C (x := zad V 0) dX11_init_180 rfl rfl ?_
    refine zP_getR (pc := 181) (a := 0) (t := 10) C g11_53 dX11_init_181 (s_X11 hT) rfl ?_
    refine zP_ldcT (pc := 184) (i := 0) C (by decide) rfl rfl dX11_init_184 ?_
    refine zP_iload_n (pc := 186) C (x := zI (i : Int)) dX11_init_186 rfl rfl ?_
    refine zP_callT (pc := 187) (t := 0) (As := [.int (zI (i : Int))]) (st := [.ref (zad V 10)]) C (by decide) sc11_95 dX11_init_187 (t_charAt (by decide) hir (by rw [zsl0]; omega)) ⟨Nat.le_of_ble_eq_true rfl, Nat.le_of_ble_eq_true rfl⟩ rfl (Nat.le_of_ble_eq_true rfl) ⟨Nat.le_of_ble_eq_true rfl, Nat.le_of_ble_eq_true rfl⟩ fun _ => ?_
    rw [Int.toNat_natCast]
    refine zP_callV (pc := 190) (As := [.int (zI (zsch 0 i))]) (st := []) C m11_99 dX11_init_190 (s_X9 (o_X11_tokens hT)) rfl (t_X9_addByte (o_X11_tokens hT) c1 (zdT_add h10 (by omega))) ⟨Nat.le_of_ble_eq_true rfl, Nat.le_of_ble_eq_true rfl⟩ rfl (Nat.le_of_ble_eq_true rfl) ⟨Nat.le_of_ble_eq_true rfl, Nat.le_of_ble_eq_true rfl⟩ fun _ => ?_
    refine zP_iinc (β := Unit) (r := ()) (K := fun v => if v = ((i + 1 : Nat) : Int) then some () else none) (pc := 193) C (x := (i : Int)) dX11_init_193 rfl (Nat.le_of_ble_eq_true rfl) rfl (by show (if zw ((i : Int) + 1) = _ then some () else none) = _; rw [if_pos (zw_nat (by omega))]) fun v hv h => ?_
    have hvi : v = ((i + 1 : Nat) : Int) := by
      by_cases hq : v = ((i + 1 : Nat) : Int)
      · exact hq
      · rw [if_neg hq] at h
        cases h
    subst hvi
    refine zP_goto (pc := 196) (tgt := 171) C dX11_init_196 rfl ?_
    exact ih (i := i + 1) (by omega)
theorem t_X11_init {V : zW} {q0 : Nat} {d d1 d2 : zD} (wf : zWf V) (aO : zAt V 0 q0 (0, 11, zF11)) (hu : ∀ c, ((1 ≤ c ∧ c < 360)) → zsh V c = none) (hd : ∀ c j, (c = 0 ∨ (1 ≤ c ∧ c < 360)) → d c j = 0) (hr1 : f_X7_readText (zdT (zdC d) 33) = some (1, d1)) (hr2 : f_X11_beginAnew d1 = some (0, d2)) : zMetN V 12 355 9640 yX11_init cX11_init 2 [.ref q0] d (fun V => zo11 V) (fun c => c < 360) (zu d2 10 1 0) := by
  refine zMetN_by RX11 pn11 rfl rfl (Nat.le_of_ble_eq_true rfl) [some (.ref q0), none] rfl fun X C EN => ?_
  have HN := EN.x
  have E : zEy V V (fun c => c < 360) := zEy.rf
  have hdo := hd
  refine zP_aload_n (pc := 0) C (x := q0) dX11_init_0 rfl rfl ?_
  refine zP_oinit (pc := 1) C oi11 dX11_init_1 ⟨Nat.le_of_ble_eq_true rfl, Nat.le_of_ble_eq_true rfl⟩ ?_
  refine zP_aload_n (pc := 4) C (x := q0) dX11_init_4 rfl rfl ?_
  refine zP_newq (pc := 5) (a := 1) (fk := zF6) C zY6 cf6 zY6_p nw11_7 dX11_init_5 wf (hu _ (by omega)) (fun j => hd _ j (by omega)) zF6_d zF6_r ⟨Nat.le_of_ble_eq_true rfl, Nat.le_of_ble_eq_true rfl⟩ fun V q5 e wf b1 => ?_
  have C := e.ok C
  have E := E.tr (S := fun c => c < 360) e (fun c h => h) (fun c h => by omega)
  have aO := aO.go e (by omega)
  have hu := zUp.go (R1 := fun c => (2 ≤ c ∧ c < 360)) e hu (fun c h => by omega)
  refine zP_dupr (pc := 8) C dX11_init_8 ?_
  refine zP_callI (pc := 9) (As := []) (st := [.ref q5, .ref q0]) C HN ci11_9 dX11_init_9 (t_X6_init (s := 1) wf b1 (fun c h1 h2 => hu c (by omega)) (fun c j h1 h2 => hd c j (by omega))) rfl ⟨Nat.le_of_ble_eq_true rfl, Nat.le_of_ble_eq_true rfl⟩ rfl (Nat.le_of_ble_eq_true rfl) ⟨Nat.le_of_ble_eq_true rfl, Nat.le_of_ble_eq_true rfl⟩ fun V e wf h1 => ?_
  have a1 := zAd.go e b1.1 b1.2
  have C := e.ok C
  have E := E.tr (S := fun c => c < 360) e (fun c h => h) (fun c h => by omega)
  have aO := aO.go e (by omega)
  have hu := zUp.go (R1 := fun c => (6 ≤ c ∧ c < 360)) e hu (fun c h => by omega)
  refine zP_putR (pc := 12) (t := 1) C HN fr11_10 dX11_init_12 aO a1 (by rw [h1.1]; rfl) wf fun V e wf aO => ?_
  have a1 := zAd.go e h1.1 a1
  have C := e.ok C
  have E := E.tr (S := fun c => c < 360) e (fun c h => h) (fun c h => by omega)
  have h1 := h1.go e (fun c h1 h2 => by omega)
  have hu := zUp.go (R1 := fun c => (6 ≤ c ∧ c < 360)) e hu (fun c h => by omega)
  refine zP_aload_n (pc := 15) C (x := q0) dX11_init_15 rfl rfl ?_
  refine zP_newq (pc := 16) (a := 30) (fk := zF2) C zY2 cf2 zY2_p nw11_16 dX11_init_16 wf (hu _ (by omega)) (fun j => hd _ j (by omega)) zF2_d zF2_r ⟨Nat.le_of_ble_eq_true rfl, Nat.le_of_ble_eq_true rfl⟩ fun V q16 e wf b30 => ?_
  have a1 := zAd.go e h1.1 a1
  have C := e.ok C
  have E := E.tr (S := fun c => c < 360) e (fun c h => h) (fun c h => by omega)
  have aO := aO.go e (by omega)
  have h1 := h1.go e (fun c h1 h2 => by omega)
  have hu := zUp.go (R1 := fun c => (6 ≤ c ∧ c < 30) ∨ (31 ≤ c ∧ c < 360)) e hu (fun c h => by omega)
  refine zP_dupr (pc := 19) C dX11_init_19 ?_
  refine zP_aload_n (pc := 20) C (x := q0) dX11_init_20 rfl rfl ?_
  refine zP_getq (pc := 21) (t := 1) C g11_10 dX11_init_21 aO rfl a1 ?_
  refine zP_callI (pc := 24) (As := [.ref q5]) (st := [.ref q16, .ref q0]) C HN ci11_18 dX11_init_24 (t_X2_init (b := 30) wf b30 h1 a1 (by omega) (fun c h1 h2 => hu c (by omega)) (fun c j h1 h2 => hd c j (by omega))) rfl ⟨Nat.le_of_ble_eq_true rfl, Nat.le_of_ble_eq_true rfl⟩ rfl (Nat.le_of_ble_eq_true rfl) ⟨Nat.le_of_ble_eq_true rfl, Nat.le_of_ble_eq_true rfl⟩ fun V e wf h30 => ?_
  have a30 := zAd.go e b30.1 b30.2
  have a1 := zAd.go e h1.1 a1
  have C := e.ok C
  have E := E.tr (S := fun c => c < 360) e (fun c h => h) (fun c h => by omega)
  have aO := aO.go e (by omega)
  have h1 := h1.go e (fun c h1 h2 => by omega)
  have hu := zUp.go (R1 := fun c => (6 ≤ c ∧ c < 30) ∨ (60 ≤ c ∧ c < 360)) e hu (fun c h => by omega)
  have hd : ∀ c j, (c = 0 ∨ (6 ≤ c ∧ c < 30) ∨ (60 ≤ c ∧ c < 360)) → (zdL d 30) c j = 0 := fun c j h => (zdL_ne (by omega)).trans (hd c j (by omega))
  refine zP_putR (pc := 27) (t := 30) C HN fr11_21 dX11_init_27 aO a30 (by rw [h30.1]; rfl) wf fun V e wf aO => ?_
  have a1 := zAd.go e h1.1 a1
  have a30 := zAd.go e h30.1 a30
  have C := e.ok C
  have E := E.tr (S := fun c => c < 360) e (fun c h => h) (fun c h => by omega)
  have h1 := h1.go e (fun c h1 h2 => by omega)
  have h30 := h30.go e (fun c h1 h2 => by omega) (fun c h1 h2 => by omega)
  have hu := zUp.go (R1 := fun c => (6 ≤ c ∧ c < 30) ∨ (60 ≤ c ∧ c < 360)) e hu (fun c h => by omega)
  refine zP_aload_n (pc := 30) C (x := q0) dX11_init_30 rfl rfl ?_
  refine zP_newq (pc := 31) (a := 6) (fk := zF1) C zY1 cf1 zY1_p nw11_25 dX11_init_31 wf (hu _ (by omega)) (fun j => hd _ j (by omega)) zF1_d zF1_r ⟨Nat.le_of_ble_eq_true rfl, Nat.le_of_ble_eq_true rfl⟩ fun V q31 e wf b6 => ?_
  have a1 := zAd.go e h1.1 a1
  have a30 := zAd.go e h30.1 a30
  have C := e.ok C
  have E := E.tr (S := fun c => c < 360) e (fun c h => h) (fun c h => by omega)
  have aO := aO.go e (by omega)
  have h1 := h1.go e (fun c h1 h2 => by omega)
  have h30 := h30.go e (fun c h1 h2 => by omega) (fun c h1 h2 => by omega)
  have hu := zUp.go (R1 := fun c => (7 ≤ c ∧ c < 30) ∨ (60 ≤ c ∧ c < 360)) e hu (fun c h => by omega)
  refine zP_dupr (pc := 34) C dX11_init_34 ?_
  refine zP_aload_n (pc := 35) C (x := q0) dX11_init_35 rfl rfl ?_
  refine zP_getq (pc := 36) (t := 30) C g11_21 dX11_init_36 aO rfl a30 ?_
  refine zP_callI (pc := 39) (As := [.ref q16]) (st := [.ref q31, .ref q0]) C HN ci11_27 dX11_init_39 (t_X1_born (g := 6) (lb := 30) wf b6 h30 a30 ⟨by omega, by omega, by omega⟩) rfl ⟨Nat.le_of_ble_eq_true rfl, Nat.le_of_ble_eq_true rfl⟩ rfl (Nat.le_of_ble_eq_true rfl) ⟨Nat.le_of_ble_eq_true rfl, Nat.le_of_ble_eq_true rfl⟩ fun V e wf h6 => ?_
  have a6 := zAd.go e b6.1 b6.2
  have a1 := zAd.go e h1.1 a1
  have a30 := zAd.go e h30.1 a30
  have C := e.ok C
  have E := E.tr (S := fun c => c < 360) e (fun c h => h) (fun c h => by omega)
  have aO := aO.go e (by omega)
  have h1 := h1.go e (fun c h1 h2 => by omega)
  have h30 := h30.go e (fun c h1 h2 => by omega) (fun c h1 h2 => by omega)
  have hu := zUp.go (R1 := fun c => (7 ≤ c ∧ c < 30) ∨ (60 ≤ c ∧ c < 360)) e hu (fun c h => by omega)
  have hd : ∀ c j, (c = 0 ∨ (7 ≤ c ∧ c < 30) ∨ (60 ≤ c ∧ c < 360)) → (zdH (zdL d 30) 6) c j = 0 := fun c j h => (zdH_ne (by omega)).trans (hd c j (by omega))
  refine zP_putR (pc := 42) (t := 6) C HN fr11_30 dX11_init_42 aO a6 (by rw [h6.1]; rfl) wf fun V e wf aO => ?_
  have a1 := zAd.go e h1.1 a1
  have a30 := zAd.go e h30.1 a30
  have a6 := zAd.go e h6.1 a6
  have C := e.ok C
  have E := E.tr (S := fun c => c < 360) e (fun c h => h) (fun c h => by omega)
  have h1 := h1.go e (fun c h1 h2 => by omega)
  have h30 := h30.go e (fun c h1 h2 => by omega) (fun c h1 h2 => by omega)
  have h6 := h6.go e (by omega) (fun c h1 h2 => by omega) (fun c h1 h2 => by omega)
  have hu := zUp.go (R1 := fun c => (7 ≤ c ∧ c < 30) ∨ (60 ≤ c ∧ c < 360)) e hu (fun c h => by omega)
  refine zP_aload_n (pc := 45) C (x := q0) dX11_init_45 rfl rfl ?_
  refine zP_newq (pc := 46) (a := 60) (fk := zF2) C zY2 cf2 zY2_p nw11_16 dX11_init_46 wf (hu _ (by omega)) (fun j => hd _ j (by omega)) zF2_d zF2_r ⟨Nat.le_of_ble_eq_true rfl, Nat.le_of_ble_eq_true rfl⟩ fun V q46 e wf b60 => ?_
  have a1 := zAd.go e h1.1 a1
  have a30 := zAd.go e h30.1 a30
  have a6 := zAd.go e h6.1 a6
  have C := e.ok C
  have E := E.tr (S := fun c => c < 360) e (fun c h => h) (fun c h => by omega)
  have aO := aO.go e (by omega)
  have h1 := h1.go e (fun c h1 h2 => by omega)
  have h30 := h30.go e (fun c h1 h2 => by omega) (fun c h1 h2 => by omega)
  have h6 := h6.go e (by omega) (fun c h1 h2 => by omega) (fun c h1 h2 => by omega)
  have hu := zUp.go (R1 := fun c => (7 ≤ c ∧ c < 30) ∨ (61 ≤ c ∧ c < 360)) e hu (fun c h => by omega)
  refine zP_dupr (pc := 49) C dX11_init_49 ?_
  refine zP_aload_n (pc := 50) C (x := q0) dX11_init_50 rfl rfl ?_
  refine zP_getq (pc := 51) (t := 1) C g11_10 dX11_init_51 aO rfl a1 ?_
  refine zP_callI (pc := 54) (As := [.ref q5]) (st := [.ref q46, .ref q0]) C HN ci11_18 dX11_init_54 (t_X2_init (b := 60) wf b60 h1 a1 (by omega) (fun c h1 h2 => hu c (by omega)) (fun c j h1 h2 => hd c j (by omega))) rfl ⟨Nat.le_of_ble_eq_true rfl, Nat.le_of_ble_eq_true rfl⟩ rfl (Nat.le_of_ble_eq_true rfl) ⟨Nat.le_of_ble_eq_true rfl, Nat.le_of_ble_eq_true rfl⟩ fun V e wf h60 => ?_
  have a60 := zAd.go e b60.1 b60.2
  have a1 := zAd.go e h1.1 a1
  have a30 := zAd.go e h30.1 a30
  have a6 := zAd.go e h6.1 a6
  have C := e.ok C
  have E := E.tr (S := fun c => c < 360) e (fun c h => h) (fun c h => by omega)
  have aO := aO.go e (by omega)
  have h1 := h1.go e (fun c h1 h2 => by omega)
  have h30 := h30.go e (fun c h1 h2 => by omega) (fun c h1 h2 => by omega)
  have h6 := h6.go e (by omega) (fun c h1 h2 => by omega) (fun c h1 h2 => by omega)
  have hu := zUp.go (R1 := fun c => (7 ≤ c ∧ c < 30) ∨ (90 ≤ c ∧ c < 360)) e hu (fun c h => by omega)
  have hd : ∀ c j, (c = 0 ∨ (7 ≤ c ∧ c < 30) ∨ (90 ≤ c ∧ c < 360)) → (zdL (zdH (zdL d 30) 6) 60) c j = 0 := fun c j h => (zdL_ne (by omega)).trans (hd c j (by omega))
  refine zP_putR (pc := 57) (t := 60) C HN fr11_34 dX11_init_57 aO a60 (by rw [h60.1]; rfl) wf fun V e wf aO => ?_
  have a1 := zAd.go e h1.1 a1
  have a30 := zAd.go e h30.1 a30
  have a6 := zAd.go e h6.1 a6
  have a60 := zAd.go e h60.1 a60
  have C := e.ok C
  have E := E.tr (S := fun c => c < 360) e (fun c h => h) (fun c h => by omega)
  have h1 := h1.go e (fun c h1 h2 => by omega)
  have h30 := h30.go e (fun c h1 h2 => by omega) (fun c h1 h2 => by omega)
  have h6 := h6.go e (by omega) (fun c h1 h2 => by omega) (fun c h1 h2 => by omega)
  have h60 := h60.go e (fun c h1 h2 => by omega) (fun c h1 h2 => by omega)
  have hu := zUp.go (R1 := fun c => (7 ≤ c ∧ c < 30) ∨ (90 ≤ c ∧ c < 360)) e hu (fun c h => by omega)
  refine zP_aload_n (pc := 60) C (x := q0) dX11_init_60 rfl rfl ?_
  refine zP_newq (pc := 61) (a := 7) (fk := zF1) C zY1 cf1 zY1_p nw11_25 dX11_init_61 wf (hu _ (by omega)) (fun j => hd _ j (by omega)) zF1_d zF1_r ⟨Nat.le_of_ble_eq_true rfl, Nat.le_of_ble_eq_true rfl⟩ fun V q61 e wf b7 => ?_
  have a1 := zAd.go e h1.1 a1
  have a30 := zAd.go e h30.1 a30
  have a6 := zAd.go e h6.1 a6
  have a60 := zAd.go e h60.1 a60
  have C := e.ok C
  have E := E.tr (S := fun c => c < 360) e (fun c h => h) (fun c h => by omega)
  have aO := aO.go e (by omega)
  have h1 := h1.go e (fun c h1 h2 => by omega)
  have h30 := h30.go e (fun c h1 h2 => by omega) (fun c h1 h2 => by omega)
  have h6 := h6.go e (by omega) (fun c h1 h2 => by omega) (fun c h1 h2 => by omega)
  have h60 := h60.go e (fun c h1 h2 => by omega) (fun c h1 h2 => by omega)
  have hu := zUp.go (R1 := fun c => (8 ≤ c ∧ c < 30) ∨ (90 ≤ c ∧ c < 360)) e hu (fun c h => by omega)
  refine zP_dupr (pc := 64) C dX11_init_64 ?_
  refine zP_aload_n (pc := 65) C (x := q0) dX11_init_65 rfl rfl ?_
  refine zP_getq (pc := 66) (t := 60) C g11_34 dX11_init_66 aO rfl a60 ?_
  refine zP_callI (pc := 69) (As := [.ref q46]) (st := [.ref q61, .ref q0]) C HN ci11_27 dX11_init_69 (t_X1_born (g := 7) (lb := 60) wf b7 h60 a60 ⟨by omega, by omega, by omega⟩) rfl ⟨Nat.le_of_ble_eq_true rfl, Nat.le_of_ble_eq_true rfl⟩ rfl (Nat.le_of_ble_eq_true rfl) ⟨Nat.le_of_ble_eq_true rfl, Nat.le_of_ble_eq_true rfl⟩ fun V e wf h7 => ?_
  have a7 := zAd.go e b7.1 b7.2
  have a1 := zAd.go e h1.1 a1
  have a30 := zAd.go e h30.1 a30
  have a6 := zAd.go e h6.1 a6
  have a60 := zAd.go e h60.1 a60
  have C := e.ok C
  have E := E.tr (S := fun c => c < 360) e (fun c h => h) (fun c h => by omega)
  have aO := aO.go e (by omega)
  have h1 := h1.go e (fun c h1 h2 => by omega)
  have h30 := h30.go e (fun c h1 h2 => by omega) (fun c h1 h2 => by omega)
  have h6 := h6.go e (by omega) (fun c h1 h2 => by omega) (fun c h1 h2 => by omega)
  have h60 := h60.go e (fun c h1 h2 => by omega) (fun c h1 h2 => by omega)
  have hu := zUp.go (R1 := fun c => (8 ≤ c ∧ c < 30) ∨ (90 ≤ c ∧ c < 360)) e hu (fun c h => by omega)
  have hd : ∀ c j, (c = 0 ∨ (8 ≤ c ∧ c < 30) ∨ (90 ≤ c ∧ c < 360)) → (zdH (zdL (zdH (zdL d 30) 6) 60) 7) c j = 0 := fun c j h => (zdH_ne (by omega)).trans (hd c j (by omega))
  refine zP_putR (pc := 72) (t := 7) C HN fr11_37 dX11_init_72 aO a7 (by rw [h7.1]; rfl) wf fun V e wf aO => ?_
  have a1 := zAd.go e h1.1 a1
  have a30 := zAd.go e h30.1 a30
  have a6 := zAd.go e h6.1 a6
  have a60 := zAd.go e h60.1 a60
  have a7 := zAd.go e h7.1 a7
  have C := e.ok C
  have E := E.tr (S := fun c => c < 360) e (fun c h => h) (fun c h => by omega)
  have h1 := h1.go e (fun c h1 h2 => by omega)
  have h30 := h30.go e (fun c h1 h2 => by omega) (fun c h1 h2 => by omega)
  have h6 := h6.go e (by omega) (fun c h1 h2 => by omega) (fun c h1 h2 => by omega)
  have h60 := h60.go e (fun c h1 h2 => by omega) (fun c h1 h2 => by omega)
  have h7 := h7.go e (by omega) (fun c h1 h2 => by omega) (fun c h1 h2 => by omega)
  have hu := zUp.go (R1 := fun c => (8 ≤ c ∧ c < 30) ∨ (90 ≤ c ∧ c < 360)) e hu (fun c h => by omega)
  refine zP_aload_n (pc := 75) C (x := q0) dX11_init_75 rfl rfl ?_
  refine zP_newq (pc := 76) (a := 90) (fk := zF2) C zY2 cf2 zY2_p nw11_16 dX11_init_76 wf (hu _ (by omega)) (fun j => hd _ j (by omega)) zF2_d zF2_r ⟨Nat.le_of_ble_eq_true rfl, Nat.le_of_ble_eq_true rfl⟩ fun V q76 e wf b90 => ?_
  have a1 := zAd.go e h1.1 a1
  have a30 := zAd.go e h30.1 a30
  have a6 := zAd.go e h6.1 a6
  have a60 := zAd.go e h60.1 a60
  have a7 := zAd.go e h7.1 a7
  have C := e.ok C
  have E := E.tr (S := fun c => c < 360) e (fun c h => h) (fun c h => by omega)
  have aO := aO.go e (by omega)
  have h1 := h1.go e (fun c h1 h2 => by omega)
  have h30 := h30.go e (fun c h1 h2 => by omega) (fun c h1 h2 => by omega)
  have h6 := h6.go e (by omega) (fun c h1 h2 => by omega) (fun c h1 h2 => by omega)
  have h60 := h60.go e (fun c h1 h2 => by omega) (fun c h1 h2 => by omega)
  have h7 := h7.go e (by omega) (fun c h1 h2 => by omega) (fun c h1 h2 => by omega)
  have hu := zUp.go (R1 := fun c => (8 ≤ c ∧ c < 30) ∨ (91 ≤ c ∧ c < 360)) e hu (fun c h => by omega)
  refine zP_dupr (pc := 79) C dX11_init_79 ?_
  refine zP_aload_n (pc := 80) C (x := q0) dX11_init_80 rfl rfl ?_
  refine zP_getq (pc := 81) (t := 1) C g11_10 dX11_init_81 aO rfl a1 ?_
  refine zP_callI (pc := 84) (As := [.ref q5]) (st := [.ref q76, .ref q0]) C HN ci11_18 dX11_init_84 (t_X2_init (b := 90) wf b90 h1 a1 (by omega) (fun c h1 h2 => hu c (by omega)) (fun c j h1 h2 => hd c j (by omega))) rfl ⟨Nat.le_of_ble_eq_true rfl, Nat.le_of_ble_eq_true rfl⟩ rfl (Nat.le_of_ble_eq_true rfl) ⟨Nat.le_of_ble_eq_true rfl, Nat.le_of_ble_eq_true rfl⟩ fun V e wf h90 => ?_
  have a90 := zAd.go e b90.1 b90.2
  have a1 := zAd.go e h1.1 a1
  have a30 := zAd.go e h30.1 a30
  have a6 := zAd.go e h6.1 a6
  have a60 := zAd.go e h60.1 a60
  have a7 := zAd.go e h7.1 a7
  have C := e.ok C
  have E := E.tr (S := fun c => c < 360) e (fun c h => h) (fun c h => by omega)
  have aO := aO.go e (by omega)
  have h1 := h1.go e (fun c h1 h2 => by omega)
  have h30 := h30.go e (fun c h1 h2 => by omega) (fun c h1 h2 => by omega)
  have h6 := h6.go e (by omega) (fun c h1 h2 => by omega) (fun c h1 h2 => by omega)
  have h60 := h60.go e (fun c h1 h2 => by omega) (fun c h1 h2 => by omega)
  have h7 := h7.go e (by omega) (fun c h1 h2 => by omega) (fun c h1 h2 => by omega)
  have hu := zUp.go (R1 := fun c => (8 ≤ c ∧ c < 30) ∨ (120 ≤ c ∧ c < 360)) e hu (fun c h => by omega)
  have hd : ∀ c j, (c = 0 ∨ (8 ≤ c ∧ c < 30) ∨ (120 ≤ c ∧ c < 360)) → (zdL (zdH (zdL (zdH (zdL d 30) 6) 60) 7) 90) c j = 0 := fun c j h => (zdL_ne (by omega)).trans (hd c j (by omega))
  refine zP_putR (pc := 87) (t := 90) C HN fr11_40 dX11_init_87 aO a90 (by rw [h90.1]; rfl) wf fun V e wf aO => ?_
  have a1 := zAd.go e h1.1 a1
  have a30 := zAd.go e h30.1 a30
  have a6 := zAd.go e h6.1 a6
  have a60 := zAd.go e h60.1 a60
  have a7 := zAd.go e h7.1 a7
  have a90 := zAd.go e h90.1 a90
  have C := e.ok C
  have E := E.tr (S := fun c => c < 360) e (fun c h => h) (fun c h => by omega)
  have h1 := h1.go e (fun c h1 h2 => by omega)
  have h30 := h30.go e (fun c h1 h2 => by omega) (fun c h1 h2 => by omega)
  have h6 := h6.go e (by omega) (fun c h1 h2 => by omega) (fun c h1 h2 => by omega)
  have h60 := h60.go e (fun c h1 h2 => by omega) (fun c h1 h2 => by omega)
  have h7 := h7.go e (by omega) (fun c h1 h2 => by omega) (fun c h1 h2 => by omega)
  have h90 := h90.go e (fun c h1 h2 => by omega) (fun c h1 h2 => by omega)
  have hu := zUp.go (R1 := fun c => (8 ≤ c ∧ c < 30) ∨ (120 ≤ c ∧ c < 360)) e hu (fun c h => by omega)
  refine zP_aload_n (pc := 90) C (x := q0) dX11_init_90 rfl rfl ?_
  refine zP_newq (pc := 91) (a := 8) (fk := zF0) C zY0 cf0 zY0_p nw11_43 dX11_init_91 wf (hu _ (by omega)) (fun j => hd _ j (by omega)) zF0_d zF0_r ⟨Nat.le_of_ble_eq_true rfl, Nat.le_of_ble_eq_true rfl⟩ fun V q91 e wf b8 => ?_
  have a1 := zAd.go e h1.1 a1
  have a30 := zAd.go e h30.1 a30
  have a6 := zAd.go e h6.1 a6
  have a60 := zAd.go e h60.1 a60
  have a7 := zAd.go e h7.1 a7
  have a90 := zAd.go e h90.1 a90
  have C := e.ok C
  have E := E.tr (S := fun c => c < 360) e (fun c h => h) (fun c h => by omega)
  have aO := aO.go e (by omega)
  have h1 := h1.go e (fun c h1 h2 => by omega)
  have h30 := h30.go e (fun c h1 h2 => by omega) (fun c h1 h2 => by omega)
  have h6 := h6.go e (by omega) (fun c h1 h2 => by omega) (fun c h1 h2 => by omega)
  have h60 := h60.go e (fun c h1 h2 => by omega) (fun c h1 h2 => by omega)
  have h7 := h7.go e (by omega) (fun c h1 h2 => by omega) (fun c h1 h2 => by omega)
  have h90 := h90.go e (fun c h1 h2 => by omega) (fun c h1 h2 => by omega)
  have hu := zUp.go (R1 := fun c => (9 ≤ c ∧ c < 30) ∨ (120 ≤ c ∧ c < 360)) e hu (fun c h => by omega)
  refine zP_dupr (pc := 94) C dX11_init_94 ?_
  refine zP_aload_n (pc := 95) C (x := q0) dX11_init_95 rfl rfl ?_
  refine zP_getq (pc := 96) (t := 1) C g11_10 dX11_init_96 aO rfl a1 ?_
  refine zP_callI (pc := 99) (As := [.ref q5]) (st := [.ref q91, .ref q0]) C HN ci11_45 dX11_init_99 (t_X0_init wf b8 h1 a1 (hu 9 (by omega)) (fun c h1 h2 => hu c (by omega)) (fun j => hd 8 j (by omega)) (fun c j h1 h2 => hd c j (by omega))) rfl ⟨Nat.le_of_ble_eq_true rfl, Nat.le_of_ble_eq_true rfl⟩ rfl (Nat.le_of_ble_eq_true rfl) ⟨Nat.le_of_ble_eq_true rfl, Nat.le_of_ble_eq_true rfl⟩ fun V e wf h8 => ?_
  have a8 := zAd.go e b8.1 b8.2
  have a1 := zAd.go e h1.1 a1
  have a30 := zAd.go e h30.1 a30
  have a6 := zAd.go e h6.1 a6
  have a60 := zAd.go e h60.1 a60
  have a7 := zAd.go e h7.1 a7
  have a90 := zAd.go e h90.1 a90
  have C := e.ok C
  have E := E.tr (S := fun c => c < 360) e (fun c h => h) (fun c h => by omega)
  have aO := aO.go e (by omega)
  have h1 := h1.go e (fun c h1 h2 => by omega)
  have h30 := h30.go e (fun c h1 h2 => by omega) (fun c h1 h2 => by omega)
  have h6 := h6.go e (by omega) (fun c h1 h2 => by omega) (fun c h1 h2 => by omega)
  have h60 := h60.go e (fun c h1 h2 => by omega) (fun c h1 h2 => by omega)
  have h7 := h7.go e (by omega) (fun c h1 h2 => by omega) (fun c h1 h2 => by omega)
  have h90 := h90.go e (fun c h1 h2 => by omega) (fun c h1 h2 => by omega)
  have hu := zUp.go (R1 := fun c => (10 ≤ c ∧ c < 30)) e hu (fun c h => by omega)
  have hd : ∀ c j, (c = 0 ∨ (10 ≤ c ∧ c < 30)) → (zdY (zdL (zdH (zdL (zdH (zdL d 30) 6) 60) 7) 90) 8) c j = 0 := fun c j h => (zdY_ne (by omega)).trans (hd c j (by omega))
  refine zP_putR (pc := 102) (t := 8) C HN fr11_46 dX11_init_102 aO a8 (by rw [h8.1]; rfl) wf fun V e wf aO => ?_
  have a1 := zAd.go e h1.1 a1
  have a30 := zAd.go e h30.1 a30
  have a6 := zAd.go e h6.1 a6
  have a60 := zAd.go e h60.1 a60
  have a7 := zAd.go e h7.1 a7
  have a90 := zAd.go e h90.1 a90
  have a8 := zAd.go e h8.1 a8
  have C := e.ok C
  have E := E.tr (S := fun c => c < 360) e (fun c h => h) (fun c h => by omega)
  have h1 := h1.go e (fun c h1 h2 => by omega)
  have h30 := h30.go e (fun c h1 h2 => by omega) (fun c h1 h2 => by omega)
  have h6 := h6.go e (by omega) (fun c h1 h2 => by omega) (fun c h1 h2 => by omega)
  have h60 := h60.go e (fun c h1 h2 => by omega) (fun c h1 h2 => by omega)
  have h7 := h7.go e (by omega) (fun c h1 h2 => by omega) (fun c h1 h2 => by omega)
  have h90 := h90.go e (fun c h1 h2 => by omega) (fun c h1 h2 => by omega)
  have h8 := h8.go e (by omega) (by omega) (fun c h1 h2 => by omega) (fun c h1 h2 => by omega)
  have hu := zUp.go (R1 := fun c => (10 ≤ c ∧ c < 30)) e hu (fun c h => by omega)
  refine zP_aload_n (pc := 105) C (x := q0) dX11_init_105 rfl rfl ?_
  refine zP_newq (pc := 106) (a := 10) (fk := zF9) C zY9 cf9 zY9_p nw11_50 dX11_init_106 wf (hu _ (by omega)) (fun j => hd _ j (by omega)) zF9_d zF9_r ⟨Nat.le_of_ble_eq_true rfl, Nat.le_of_ble_eq_true rfl⟩ fun V q106 e wf b10 => ?_
  have a1 := zAd.go e h1.1 a1
  have a30 := zAd.go e h30.1 a30
  have a6 := zAd.go e h6.1 a6
  have a60 := zAd.go e h60.1 a60
  have a7 := zAd.go e h7.1 a7
  have a90 := zAd.go e h90.1 a90
  have a8 := zAd.go e h8.1 a8
  have C := e.ok C
  have E := E.tr (S := fun c => c < 360) e (fun c h => h) (fun c h => by omega)
  have aO := aO.go e (by omega)
  have h1 := h1.go e (fun c h1 h2 => by omega)
  have h30 := h30.go e (fun c h1 h2 => by omega) (fun c h1 h2 => by omega)
  have h6 := h6.go e (by omega) (fun c h1 h2 => by omega) (fun c h1 h2 => by omega)
  have h60 := h60.go e (fun c h1 h2 => by omega) (fun c h1 h2 => by omega)
  have h7 := h7.go e (by omega) (fun c h1 h2 => by omega) (fun c h1 h2 => by omega)
  have h90 := h90.go e (fun c h1 h2 => by omega) (fun c h1 h2 => by omega)
  have h8 := h8.go e (by omega) (by omega) (fun c h1 h2 => by omega) (fun c h1 h2 => by omega)
  have hu := zUp.go (R1 := fun c => (11 ≤ c ∧ c < 30)) e hu (fun c h => by omega)
  refine zP_dupr (pc := 109) C dX11_init_109 ?_
  refine zP_callI (pc := 110) (As := []) (st := [.ref q106, .ref q0]) C HN ci11_52 dX11_init_110 (t_X9_init wf b10 (fun c h1 h2 => hu c (by omega)) (fun c j h1 h2 => hd c j (by omega))) rfl ⟨Nat.le_of_ble_eq_true rfl, Nat.le_of_ble_eq_true rfl⟩ rfl (Nat.le_of_ble_eq_true rfl) ⟨Nat.le_of_ble_eq_true rfl, Nat.le_of_ble_eq_true rfl⟩ fun V e wf h10 => ?_
  have a10 := zAd.go e b10.1 b10.2
  have a1 := zAd.go e h1.1 a1
  have a30 := zAd.go e h30.1 a30
  have a6 := zAd.go e h6.1 a6
  have a60 := zAd.go e h60.1 a60
  have a7 := zAd.go e h7.1 a7
  have a90 := zAd.go e h90.1 a90
  have a8 := zAd.go e h8.1 a8
  have C := e.ok C
  have E := E.tr (S := fun c => c < 360) e (fun c h => h) (fun c h => by omega)
  have aO := aO.go e (by omega)
  have h1 := h1.go e (fun c h1 h2 => by omega)
  have h30 := h30.go e (fun c h1 h2 => by omega) (fun c h1 h2 => by omega)
  have h6 := h6.go e (by omega) (fun c h1 h2 => by omega) (fun c h1 h2 => by omega)
  have h60 := h60.go e (fun c h1 h2 => by omega) (fun c h1 h2 => by omega)
  have h7 := h7.go e (by omega) (fun c h1 h2 => by omega) (fun c h1 h2 => by omega)
  have h90 := h90.go e (fun c h1 h2 => by omega) (fun c h1 h2 => by omega)
  have h8 := h8.go e (by omega) (by omega) (fun c h1 h2 => by omega) (fun c h1 h2 => by omega)
  have hu := zUp.go (R1 := fun c => (12 ≤ c ∧ c < 30)) e hu (fun c h => by omega)
  have hd : ∀ c j, (c = 0 ∨ (12 ≤ c ∧ c < 30)) → (zu (zu (zdY (zdL (zdH (zdL (zdH (zdL d 30) 6) 60) 7) 90) 8) 10 2 3) 10 6 (-1)) c j = 0 := fun c j h => ((zu_ne (by omega)).trans (zu_ne (by omega))).trans (hd c j (by omega))
  refine zP_putR (pc := 113) (t := 10) C HN fr11_53 dX11_init_113 aO a10 (by rw [h10.1]; rfl) wf fun V e wf aO => ?_
  have a1 := zAd.go e h1.1 a1
  have a30 := zAd.go e h30.1 a30
  have a6 := zAd.go e h6.1 a6
  have a60 := zAd.go e h60.1 a60
  have a7 := zAd.go e h7.1 a7
  have a90 := zAd.go e h90.1 a90
  have a8 := zAd.go e h8.1 a8
  have a10 := zAd.go e h10.1 a10
  have C := e.ok C
  have E := E.tr (S := fun c => c < 360) e (fun c h => h) (fun c h => by omega)
  have h1 := h1.go e (fun c h1 h2 => by omega)
  have h30 := h30.go e (fun c h1 h2 => by omega) (fun c h1 h2 => by omega)
  have h6 := h6.go e (by omega) (fun c h1 h2 => by omega) (fun c h1 h2 => by omega)
  have h60 := h60.go e (fun c h1 h2 => by omega) (fun c h1 h2 => by omega)
  have h7 := h7.go e (by omega) (fun c h1 h2 => by omega) (fun c h1 h2 => by omega)
  have h90 := h90.go e (fun c h1 h2 => by omega) (fun c h1 h2 => by omega)
  have h8 := h8.go e (by omega) (by omega) (fun c h1 h2 => by omega) (fun c h1 h2 => by omega)
  have h10 := h10.go e (fun c h1 h2 => by omega)
  have hu := zUp.go (R1 := fun c => (12 ≤ c ∧ c < 30)) e hu (fun c h => by omega)
  refine zP_aload_n (pc := 116) C (x := q0) dX11_init_116 rfl rfl ?_
  refine zP_newq (pc := 117) (a := 12) (fk := zF7) C zY7 cf7 zY7_p nw11_57 dX11_init_117 wf (hu _ (by omega)) (fun j => hd _ j (by omega)) zF7_d zF7_r ⟨Nat.le_of_ble_eq_true rfl, Nat.le_of_ble_eq_true rfl⟩ fun V q117 e wf b12 => ?_
  have a1 := zAd.go e h1.1 a1
  have a30 := zAd.go e h30.1 a30
  have a6 := zAd.go e h6.1 a6
  have a60 := zAd.go e h60.1 a60
  have a7 := zAd.go e h7.1 a7
  have a90 := zAd.go e h90.1 a90
  have a8 := zAd.go e h8.1 a8
  have a10 := zAd.go e h10.1 a10
  have C := e.ok C
  have E := E.tr (S := fun c => c < 360) e (fun c h => h) (fun c h => by omega)
  have aO := aO.go e (by omega)
  have h1 := h1.go e (fun c h1 h2 => by omega)
  have h30 := h30.go e (fun c h1 h2 => by omega) (fun c h1 h2 => by omega)
  have h6 := h6.go e (by omega) (fun c h1 h2 => by omega) (fun c h1 h2 => by omega)
  have h60 := h60.go e (fun c h1 h2 => by omega) (fun c h1 h2 => by omega)
  have h7 := h7.go e (by omega) (fun c h1 h2 => by omega) (fun c h1 h2 => by omega)
  have h90 := h90.go e (fun c h1 h2 => by omega) (fun c h1 h2 => by omega)
  have h8 := h8.go e (by omega) (by omega) (fun c h1 h2 => by omega) (fun c h1 h2 => by omega)
  have h10 := h10.go e (fun c h1 h2 => by omega)
  have hu := zUp.go (R1 := fun c => (13 ≤ c ∧ c < 30)) e hu (fun c h => by omega)
  refine zP_dupr (pc := 120) C dX11_init_120 ?_
  refine zP_aload_n (pc := 121) C (x := q0) dX11_init_121 rfl rfl ?_
  refine zP_getq (pc := 122) (t := 10) C g11_53 dX11_init_122 aO rfl a10 ?_
  refine zP_callI (pc := 125) (As := [.ref q106]) (st := [.ref q117, .ref q0]) C HN ci11_59 dX11_init_125 (t_X7_init wf b12 h10 a10 (fun c h1 h2 => hu c (by omega)) (fun c j h1 h2 => hd c j (by omega))) rfl ⟨Nat.le_of_ble_eq_true rfl, Nat.le_of_ble_eq_true rfl⟩ rfl (Nat.le_of_ble_eq_true rfl) ⟨Nat.le_of_ble_eq_true rfl, Nat.le_of_ble_eq_true rfl⟩ fun V e wf h12 => ?_
  have a12 := zAd.go e b12.1 b12.2
  have a1 := zAd.go e h1.1 a1
  have a30 := zAd.go e h30.1 a30
  have a6 := zAd.go e h6.1 a6
  have a60 := zAd.go e h60.1 a60
  have a7 := zAd.go e h7.1 a7
  have a90 := zAd.go e h90.1 a90
  have a8 := zAd.go e h8.1 a8
  have a10 := zAd.go e h10.1 a10
  have C := e.ok C
  have E := E.tr (S := fun c => c < 360) e (fun c h => h) (fun c h => by omega)
  have aO := aO.go e (by omega)
  have h1 := h1.go e (fun c h1 h2 => by omega)
  have h30 := h30.go e (fun c h1 h2 => by omega) (fun c h1 h2 => by omega)
  have h6 := h6.go e (by omega) (fun c h1 h2 => by omega) (fun c h1 h2 => by omega)
  have h60 := h60.go e (fun c h1 h2 => by omega) (fun c h1 h2 => by omega)
  have h7 := h7.go e (by omega) (fun c h1 h2 => by omega) (fun c h1 h2 => by omega)
  have h90 := h90.go e (fun c h1 h2 => by omega) (fun c h1 h2 => by omega)
  have h8 := h8.go e (by omega) (by omega) (fun c h1 h2 => by omega) (fun c h1 h2 => by omega)
  have h10 := h10.go e (fun c h1 h2 => by omega)
  have hu := zUp.go (R1 := fun c => (20 ≤ c ∧ c < 30)) e hu (fun c h => by omega)
  have hd : ∀ c j, (c = 0 ∨ (20 ≤ c ∧ c < 30)) → (zdR (zu (zu (zdY (zdL (zdH (zdL (zdH (zdL d 30) 6) 60) 7) 90) 8) 10 2 3) 10 6 (-1))) c j = 0 := fun c j h => (zdR_ne (by omega)).trans (hd c j (by omega))
  refine zP_putR (pc := 128) (t := 12) C HN fr11_62 dX11_init_128 aO a12 (by rw [h12.1]; rfl) wf fun V e wf aO => ?_
  have a1 := zAd.go e h1.1 a1
  have a30 := zAd.go e h30.1 a30
  have a6 := zAd.go e h6.1 a6
  have a60 := zAd.go e h60.1 a60
  have a7 := zAd.go e h7.1 a7
  have a90 := zAd.go e h90.1 a90
  have a8 := zAd.go e h8.1 a8
  have a10 := zAd.go e h10.1 a10
  have a12 := zAd.go e h12.1 a12
  have C := e.ok C
  have E := E.tr (S := fun c => c < 360) e (fun c h => h) (fun c h => by omega)
  have h1 := h1.go e (fun c h1 h2 => by omega)
  have h30 := h30.go e (fun c h1 h2 => by omega) (fun c h1 h2 => by omega)
  have h6 := h6.go e (by omega) (fun c h1 h2 => by omega) (fun c h1 h2 => by omega)
  have h60 := h60.go e (fun c h1 h2 => by omega) (fun c h1 h2 => by omega)
  have h7 := h7.go e (by omega) (fun c h1 h2 => by omega) (fun c h1 h2 => by omega)
  have h90 := h90.go e (fun c h1 h2 => by omega) (fun c h1 h2 => by omega)
  have h8 := h8.go e (by omega) (by omega) (fun c h1 h2 => by omega) (fun c h1 h2 => by omega)
  have h10 := h10.go e (fun c h1 h2 => by omega)
  have h12 := h12.go e (fun c h1 h2 => by omega)
  have hu := zUp.go (R1 := fun c => (20 ≤ c ∧ c < 30)) e hu (fun c h => by omega)
  refine zP_aload_n (pc := 131) C (x := q0) dX11_init_131 rfl rfl ?_
  refine zP_newq (pc := 132) (a := 20) (fk := zF5) C zY5 cf5 zY5_p nw11_66 dX11_init_132 wf (hu _ (by omega)) (fun j => hd _ j (by omega)) zF5_d zF5_r ⟨Nat.le_of_ble_eq_true rfl, Nat.le_of_ble_eq_true rfl⟩ fun V q132 e wf b20 => ?_
  have a1 := zAd.go e h1.1 a1
  have a30 := zAd.go e h30.1 a30
  have a6 := zAd.go e h6.1 a6
  have a60 := zAd.go e h60.1 a60
  have a7 := zAd.go e h7.1 a7
  have a90 := zAd.go e h90.1 a90
  have a8 := zAd.go e h8.1 a8
  have a10 := zAd.go e h10.1 a10
  have a12 := zAd.go e h12.1 a12
  have C := e.ok C
  have E := E.tr (S := fun c => c < 360) e (fun c h => h) (fun c h => by omega)
  have aO := aO.go e (by omega)
  have h1 := h1.go e (fun c h1 h2 => by omega)
  have h30 := h30.go e (fun c h1 h2 => by omega) (fun c h1 h2 => by omega)
  have h6 := h6.go e (by omega) (fun c h1 h2 => by omega) (fun c h1 h2 => by omega)
  have h60 := h60.go e (fun c h1 h2 => by omega) (fun c h1 h2 => by omega)
  have h7 := h7.go e (by omega) (fun c h1 h2 => by omega) (fun c h1 h2 => by omega)
  have h90 := h90.go e (fun c h1 h2 => by omega) (fun c h1 h2 => by omega)
  have h8 := h8.go e (by omega) (by omega) (fun c h1 h2 => by omega) (fun c h1 h2 => by omega)
  have h10 := h10.go e (fun c h1 h2 => by omega)
  have h12 := h12.go e (fun c h1 h2 => by omega)
  have hu := zUp.go (R1 := fun c => (21 ≤ c ∧ c < 30)) e hu (fun c h => by omega)
  refine zP_dupr (pc := 135) C dX11_init_135 ?_
  refine zP_aload_n (pc := 136) C (x := q0) dX11_init_136 rfl rfl ?_
  refine zP_getq (pc := 137) (t := 10) C g11_53 dX11_init_137 aO rfl a10 ?_
  refine zP_aload_n (pc := 140) C (x := q0) dX11_init_140 rfl rfl ?_
  refine zP_getq (pc := 141) (t := 1) C g11_10 dX11_init_141 aO rfl a1 ?_
  refine zP_callI (pc := 144) (As := [.ref q106, .ref q5]) (st := [.ref q132, .ref q0]) C HN ci11_68 dX11_init_144 (t_X5_init wf b20 h10 a10 h1 a1 (fun c h1 h2 => hu c (by omega)) (fun c j h1 h2 => hd c j (by omega))) rfl ⟨Nat.le_of_ble_eq_true rfl, Nat.le_of_ble_eq_true rfl⟩ rfl (Nat.le_of_ble_eq_true rfl) ⟨Nat.le_of_ble_eq_true rfl, Nat.le_of_ble_eq_true rfl⟩ fun V e wf h20 => ?_
  have a20 := zAd.go e b20.1 b20.2
  have a1 := zAd.go e h1.1 a1
  have a30 := zAd.go e h30.1 a30
  have a6 := zAd.go e h6.1 a6
  have a60 := zAd.go e h60.1 a60
  have a7 := zAd.go e h7.1 a7
  have a90 := zAd.go e h90.1 a90
  have a8 := zAd.go e h8.1 a8
  have a10 := zAd.go e h10.1 a10
  have a12 := zAd.go e h12.1 a12
  have C := e.ok C
  have E := E.tr (S := fun c => c < 360) e (fun c h => h) (fun c h => by omega)
  have aO := aO.go e (by omega)
  have h1 := h1.go e (fun c h1 h2 => by omega)
  have h30 := h30.go e (fun c h1 h2 => by omega) (fun c h1 h2 => by omega)
  have h6 := h6.go e (by omega) (fun c h1 h2 => by omega) (fun c h1 h2 => by omega)
  have h60 := h60.go e (fun c h1 h2 => by omega) (fun c h1 h2 => by omega)
  have h7 := h7.go e (by omega) (fun c h1 h2 => by omega) (fun c h1 h2 => by omega)
  have h90 := h90.go e (fun c h1 h2 => by omega) (fun c h1 h2 => by omega)
  have h8 := h8.go e (by omega) (by omega) (fun c h1 h2 => by omega) (fun c h1 h2 => by omega)
  have h10 := h10.go e (fun c h1 h2 => by omega)
  have h12 := h12.go e (fun c h1 h2 => by omega)
  have hu := zUp.go (R1 := fun c => (25 ≤ c ∧ c < 30)) e hu (fun c h => by omega)
  refine zP_putR (pc := 147) (t := 20) C HN fr11_71 dX11_init_147 aO a20 (by rw [h20.1]; rfl) wf fun V e wf aO => ?_
  have a1 := zAd.go e h1.1 a1
  have a30 := zAd.go e h30.1 a30
  have a6 := zAd.go e h6.1 a6
  have a60 := zAd.go e h60.1 a60
  have a7 := zAd.go e h7.1 a7
  have a90 := zAd.go e h90.1 a90
  have a8 := zAd.go e h8.1 a8
  have a10 := zAd.go e h10.1 a10
  have a12 := zAd.go e h12.1 a12
  have a20 := zAd.go e h20.1 a20
  have C := e.ok C
  have E := E.tr (S := fun c => c < 360) e (fun c h => h) (fun c h => by omega)
  have h1 := h1.go e (fun c h1 h2 => by omega)
  have h30 := h30.go e (fun c h1 h2 => by omega) (fun c h1 h2 => by omega)
  have h6 := h6.go e (by omega) (fun c h1 h2 => by omega) (fun c h1 h2 => by omega)
  have h60 := h60.go e (fun c h1 h2 => by omega) (fun c h1 h2 => by omega)
  have h7 := h7.go e (by omega) (fun c h1 h2 => by omega) (fun c h1 h2 => by omega)
  have h90 := h90.go e (fun c h1 h2 => by omega) (fun c h1 h2 => by omega)
  have h8 := h8.go e (by omega) (by omega) (fun c h1 h2 => by omega) (fun c h1 h2 => by omega)
  have h10 := h10.go e (fun c h1 h2 => by omega)
  have h12 := h12.go e (fun c h1 h2 => by omega)
  have h20 := h20.go e (fun c h1 h2 => by omega) (fun c h1 h2 => by omega) (fun c h1 h2 => by omega)
  have hu := zUp.go (R1 := fun c => (25 ≤ c ∧ c < 30)) e hu (fun c h => by omega)
  refine zP_aload_n (pc := 150) C (x := q0) dX11_init_150 rfl rfl ?_
  refine zP_sipush (pc := 151) C dX11_init_151 rfl ?_
  refine zP_row (pc := 154) (t := 25) (N := 160) (z := 160) C HN fr11_75 dX11_init_154 dX11_init_156 aO wf (hu _ (by omega)) (fun j => hd _ j (by omega)) (zRk rfl) (by omega) rfl (Nat.le_of_ble_eq_true rfl) ⟨Nat.le_of_ble_eq_true rfl, Nat.le_of_ble_eq_true rfl⟩ fun V e wf aO s25 => ?_
  have a1 := zAd.go e h1.1 a1
  have a30 := zAd.go e h30.1 a30
  have a6 := zAd.go e h6.1 a6
  have a60 := zAd.go e h60.1 a60
  have a7 := zAd.go e h7.1 a7
  have a90 := zAd.go e h90.1 a90
  have a8 := zAd.go e h8.1 a8
  have a10 := zAd.go e h10.1 a10
  have a12 := zAd.go e h12.1 a12
  have a20 := zAd.go e h20.1 a20
  have C := e.ok C
  have E := E.tr (S := fun c => c < 360) e (fun c h => h) (fun c h => by omega)
  have h1 := h1.go e (fun c h1 h2 => by omega)
  have h30 := h30.go e (fun c h1 h2 => by omega) (fun c h1 h2 => by omega)
  have h6 := h6.go e (by omega) (fun c h1 h2 => by omega) (fun c h1 h2 => by omega)
  have h60 := h60.go e (fun c h1 h2 => by omega) (fun c h1 h2 => by omega)
  have h7 := h7.go e (by omega) (fun c h1 h2 => by omega) (fun c h1 h2 => by omega)
  have h90 := h90.go e (fun c h1 h2 => by omega) (fun c h1 h2 => by omega)
  have h8 := h8.go e (by omega) (by omega) (fun c h1 h2 => by omega) (fun c h1 h2 => by omega)
  have h10 := h10.go e (fun c h1 h2 => by omega)
  have h12 := h12.go e (fun c h1 h2 => by omega)
  have h20 := h20.go e (fun c h1 h2 => by omega) (fun c h1 h2 => by omega) (fun c h1 h2 => by omega)
  have hk : (zfu (zfu (zfu (zfu (zfu (zfu (zfu (zfu (zfu (zfu (zfu zF11 0 (1 + 2)) 1 (30 + 2)) 2 (6 + 2)) 3 (60 + 2)) 4 (7 + 2)) 5 (90 + 2)) 6 (8 + 2)) 7 (10 + 2)) 8 (12 + 2)) 9 (20 + 2)) 10 (25 + 2)) = kX11 := by
    funext j
    match j with
    | 0 => rfl
    | 1 => rfl
    | 2 => rfl
    | 3 => rfl
    | 4 => rfl
    | 5 => rfl
    | 6 => rfl
    | 7 => rfl
    | 8 => rfl
    | 9 => rfl
    | 10 => rfl
    | 11 => rfl
    | 12 => rfl
    | j + 13 => simp [zfu, kX11, zF11]
  rw [hk] at aO
  have hT : zo11 V := ⟨aO.1, s25, h1, h30, h6, h60, h7, h90, h8, h10, h12, h20⟩
  refine zP_aload_n (pc := 159) C (x := q0) dX11_init_159 rfl rfl ?_
  refine zP_iconst (pc := 160) C dX11_init_160 ?_
  refine zP_putqz (pc := 161) C p11_79 dX11_init_161 aO rfl (zRk rfl) (hd _ _ (by omega)) ?_
  refine zP_aload_n (pc := 164) C (x := q0) dX11_init_164 rfl rfl ?_
  refine zP_iconst (pc := 165) C dX11_init_165 ?_
  obtain ⟨aS, aQ⟩ := aO
  subst aQ
  refine zP_put0 (pc := 166) (v := 0) C p11_83 dX11_init_166 aS rfl (zRk rfl) rfl rfl ?_
  rw [zu_same (hd 0 12 (by omega))]
  refine zP_iconst (pc := 169) C dX11_init_169 ?_
  refine zP_istore_n (pc := 170) C (L' := [some (.ref (zad V 0)), some (.int (zI ((0 : Nat) : Int)))]) dX11_init_170 rfl (Nat.le_of_ble_eq_true rfl) rfl rfl ?_
  exact w_X11_init_171 hT C EN E wf hr1 hr2 (D := zdC d) (zdC_10 (hdo 10 1 (by omega))) 33 (i := 0) rfl
