/-! The law's end. -/
theorem LR_c {d : zD} {s : Nat → Int} (hl : LR d 30 s) : f_X11_count 2 d = some (s 2, d) ∧ f_X11_count 3 d = some (s 3, d) ∧ f_X11_count 9 d = some (cSt s 3, d) ∧ f_X11_count 12 d = some (d 8 2, d) ∧ (0 ≤ s 2 ∧ s 2 ≤ 40) ∧ zR (s 3) ∧ zR (cSt s 3) := by
  obtain ⟨-, -, i2, -⟩ := LR_2 hl
  have h3 := (LR_10 hl).2.2.2
  have h9 : f_X11_count 9 d = some (cSt s 3, d) := q_in3 hl (v := 3) (by omega)
  obtain ⟨K, L, hr, -⟩ := hl
  obtain ⟨-, -, c2, c3, c12⟩ := q_count hr
  exact ⟨c2, c3, h9, c12, i2, h3, cSt_z i2⟩
theorem LR_msg {d : zD} {s : Nat → Int} (hl : LR d 30 s) (h : 0 < s 2) : f_X11_message 0 3 d = some (rM s 0 3, d) ∧ 0 ≤ rM s 0 3 ∧ rM s 0 3 ≤ 3 := by
  obtain ⟨K, L, hr, -⟩ := hl
  refine ⟨(q_msg hr ⟨by omega, h⟩).2.2.2.1, ?_⟩
  obtain ⟨-, -, -, -, -, -, -, -, -, -, -, -, -, hM, -⟩ := hr
  exact (hM 0 (by omega) h).2.2.2.1
section LAW
variable {V : zW} {X : zX} {k n : Nat} {rt : Option FieldType}
/-- from the second look on, and back -/
theorem law_last (hT : zo11 V) (C : zOk V X cL_law RL 10 room_1 rt) (hkn : k ≤ 600086 ∧ n ≤ 7301442) (fin : ∀ L d, zP V X 10 k n 323 L [.int (zI 1)] d) {v2 v3 v6 v7 v8 v9 : Option Value} {d : zD} {s t : Nat → Int} (hl : LR d 30 s) (hh : LR d (120 + 30 * ((d 8 1 + (d 8 2 - 1)) % 8).toNat) t) (h2 : 1 ≤ d 8 2 ∧ d 8 2 ≤ 8) (h1 : 0 ≤ d 8 1 ∧ d 8 1 < 8) (hs : LR d 90 t) (h0 : d 0 12 = 1) : zP V X 10 k n 256 [some (.ref (zqa V)), some (.ref (zad V 0)), v2, v3, some (.int (zI (t 3))), some (.int (zI (cSt t 3))), v6, v7, v8, v9] [] d := by
  refine zP_aload_n (pc := 256) C (x := zad V 0) dL_law_256 rfl rfl ?_
  refine zP_ints fun hZ => ?_
  refine zP_callS (pc := 257) (As := [.ref (zad V 0)]) (st := []) C m99_169 dL_law_257 (t_L_isSound hT (LR_sound hl hZ)) ⟨Nat.le_of_ble_eq_true rfl, Nat.le_of_ble_eq_true rfl⟩ rfl (Nat.le_of_ble_eq_true rfl) hkn fun _ => ?_
  refine zP_if_ne (β := Unit) (r := ()) (A := some ()) (B := some ()) (pc := 260) (tgt := 265) C dL_law_260 rfl (x := 1) (zRk rfl) rfl (fun _ _ => ?_) (fun h _ => absurd h (by decide))
  obtain ⟨d1, e1, e2, e3⟩ := A_undo h2 h1 hh
  refine zP_aload_n (pc := 265) C (x := zad V 0) dL_law_265 rfl rfl ?_
  refine zP_callV (pc := 266) (As := []) (st := []) C m99_189 dL_law_266 (s_X11 hT) rfl (t_X11_undo hT e1 (by omega)) ⟨Nat.le_of_ble_eq_true rfl, Nat.le_of_ble_eq_true rfl⟩ rfl (Nat.le_of_ble_eq_true rfl) hkn fun hw => ?_
  refine zP_if_lt (β := Unit) (r := ()) (A := some ()) (B := some ()) (pc := 269) (tgt := 322) C dL_law_269 rfl hw (by split <;> rfl) (fun h _ => absurd h (by omega)) (fun _ _ => ?_)
  obtain ⟨c2, c3, c9, c12, z2, z3, z9⟩ := LR_c e2
  refine zP_aload_n (pc := 272) C (x := zad V 0) dL_law_272 rfl rfl ?_
  refine zP_bipush (pc := 273) C dL_law_273 rfl ?_
  refine zP_callV (pc := 275) (As := [.int (zI 9)]) (st := []) C m99_97 dL_law_275 (s_X11 hT) rfl (t_X11_count hT (zRk rfl) c9 (z_u z9)) ⟨Nat.le_of_ble_eq_true rfl, Nat.le_of_ble_eq_true rfl⟩ rfl (Nat.le_of_ble_eq_true rfl) hkn fun _ => ?_
  refine zP_iload (pc := 278) C (x := zI (cSt t 3)) dL_law_278 rfl ?_
  refine zP_icmp_ne (β := Unit) (r := ()) (A := some ()) (B := some ()) (pc := 280) (tgt := 322) C dL_law_280 rfl z9 z9 (by split <;> rfl) (fun h _ => absurd rfl h) (fun _ _ => ?_)
  refine zP_aload_n (pc := 283) C (x := zad V 0) dL_law_283 rfl rfl ?_
  refine zP_iconst (pc := 284) C dL_law_284 ?_
  refine zP_callV (pc := 285) (As := [.int (zI 3)]) (st := []) C m99_97 dL_law_285 (s_X11 hT) rfl (t_X11_count hT (zRk rfl) c3 (z_u z3)) ⟨Nat.le_of_ble_eq_true rfl, Nat.le_of_ble_eq_true rfl⟩ rfl (Nat.le_of_ble_eq_true rfl) hkn fun _ => ?_
  refine zP_iload (pc := 288) C (x := zI (t 3)) dL_law_288 rfl ?_
  refine zP_icmp_ne (β := Unit) (r := ()) (A := some ()) (B := some ()) (pc := 290) (tgt := 322) C dL_law_290 rfl z3 z3 (by split <;> rfl) (fun h _ => absurd rfl h) (fun _ _ => ?_)
  obtain ⟨d2, g1, g2, g3⟩ := A_restore (d := d1) (s := t) (by rw [e3 0 (by omega) (by omega)]; exact h0) (LR_d hs fun c hc => e3 c (by omega) (by omega))
  refine zP_aload_n (pc := 293) C (x := zad V 0) dL_law_293 rfl rfl ?_
  refine zP_callV (pc := 294) (As := []) (st := []) C m99_192 dL_law_294 (s_X11 hT) rfl (t_X11_restoreState hT g1 (z_u z3)) ⟨Nat.le_of_ble_eq_true rfl, Nat.le_of_ble_eq_true rfl⟩ rfl (Nat.le_of_ble_eq_true rfl) hkn fun _ => ?_
  refine zP_iload (pc := 297) C (x := zI (t 3)) dL_law_297 rfl ?_
  refine zP_icmp_ne (β := Unit) (r := ()) (A := some ()) (B := some ()) (pc := 299) (tgt := 322) C dL_law_299 rfl z3 z3 (by split <;> rfl) (fun h _ => absurd rfl h) (fun _ _ => ?_)
  obtain ⟨-, -, -, c12, -⟩ := LR_c g2
  rw [g3] at c12
  refine zP_aload_n (pc := 302) C (x := zad V 0) dL_law_302 rfl rfl ?_
  refine zP_bipush (pc := 303) C dL_law_303 rfl ?_
  refine zP_callV (pc := 305) (As := [.int (zI 12)]) (st := []) C m99_97 dL_law_305 (s_X11 hT) rfl (t_X11_count hT (zRk rfl) c12 (by decide)) ⟨Nat.le_of_ble_eq_true rfl, Nat.le_of_ble_eq_true rfl⟩ rfl (Nat.le_of_ble_eq_true rfl) hkn fun _ => ?_
  refine zP_if_ne (β := Unit) (r := ()) (A := some ()) (B := some ()) (pc := 308) (tgt := 322) C dL_law_308 rfl (x := 0) (zRk rfl) rfl (fun h _ => absurd rfl h) (fun _ _ => ?_)
  refine zP_aload_n (pc := 311) C (x := zad V 0) dL_law_311 rfl rfl ?_
  refine zP_ints fun hZ => ?_
  refine zP_callS (pc := 312) (As := [.ref (zad V 0)]) (st := []) C m99_169 dL_law_312 (t_L_isSound hT (LR_sound g2 hZ)) ⟨Nat.le_of_ble_eq_true rfl, Nat.le_of_ble_eq_true rfl⟩ rfl (Nat.le_of_ble_eq_true rfl) hkn fun _ => ?_
  refine zP_if_eq (β := Unit) (r := ()) (A := some ()) (B := some ()) (pc := 315) (tgt := 322) C dL_law_315 rfl (x := 1) (zRk rfl) rfl (fun h _ => absurd h (by decide)) (fun _ _ => ?_)
  refine zP_iconst (pc := 318) C dL_law_318 ?_
  refine zP_goto (pc := 319) (tgt := 323) C dL_law_319 rfl ?_
  exact fin _ _
end LAW
