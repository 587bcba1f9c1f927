/-! The law's end. -/
theorem LR_c {d : zD} {s : Nat → Int} (hl : LR d 30 s) : f_X11_count 2 d = some (s 2, d) ∧ f_X11_count 3 d = some (s 3, d) ∧ f_X11_count 9 d = some (cSt s 3, d) ∧ f_X11_count 12 d = some (d 8 2, d) ∧ (0 ≤ s 2 ∧ s 2 ≤ 40) ∧ zR (s 3) ∧ zR (cSt s 3) := by
  obtain ⟨-, -, i2, -⟩ := LR_2 hl
  have h3 := (LR_10 hl).2.2.2
  have h9 : f_X11_count 9 d = some (cSt s 3, d) := q_in3 hl (v := 3) (by omega)
  obtain ⟨K, L, hr, -⟩ := hl
  obtain ⟨-, -, c2, c3, c12⟩ := q_count hr
  exact ⟨c2, c3, h9, c12, i2, h3, cSt_z i2⟩
theorem LR_msg {d : zD} {s : Nat → Int} (hl : LR d 30 s) (h : 0 < s 2) : f_X11_message 0 3 d = some (rM s 0 3, d) ∧ 0 ≤ rM s 0 3 ∧ rM s 0 3 ≤ 3 := by
  obtain ⟨K, L, hr, -⟩ := hl
  refine ⟨(q_msg hr ⟨by omega, h⟩).2.2.2.1, ?_⟩
  obtain ⟨-, -, -, -, -, -, -, -, -, -, -, -, -, hM, -⟩ := hr
  exact (hM 0 (by omega) h).2.2.2.1
section LAW
variable {V : zW} {X : zX} {k n : Nat} {rt : Option FieldType}
/-- from the second look on, and back -/
theorem law_last (hT : zo11 V) (C : zOk V X cL_law RL 10 room_1 rt) (hkn : k ≤ 600086 ∧ n ≤ 7301442) (fin : ∀ L d, zP V X 10 k n 323 L [.int (zI 1)] d) {v2 v3 v6 v7 v8 v9 : Option Value} {d : zD} {s t : Nat → Int} (hl : LR d 30 s) (hh : LR d (120 + 30 * ((d 8 1 + (d 8 2 - 1)) % 8).toNat) t) (h2 : 1 ≤ d 8 2 ∧ d 8 2 ≤ 8) (h1 : 0 ≤ d 8 1 ∧ d 8 1 < 8) (hs : LR d 90 t) (h0 : d 0 12 = 1) : zP V X 10 k n 256 [some (.ref (zqa V)), some (.ref (zad V 0)), v2, v3, some (.int (zI (t 3))), some (.int (zI (cSt t 3))), v6, v7, v8, v9] [] d := by
  refine zP_aload_n (pc := 256) C (x := zad V 0) dL_law_256 rfl rfl ?_
  refine zP_ints fun hZ => ?_
  refine zP_callS (pc := 257) (As := [.ref (zad V 0)]) (st := []) C m99_169 dL_law_257 (t_L_isSound hT (LR_sound hl hZ)) ⟨Nat.le_of_ble_eq_true rfl, Nat.le_of_ble_eq_true rfl⟩ rfl (Nat.le_of_ble_eq_true rfl) hkn fun _ => ?_
  refine zP_if_ne (β := Unit) (r := ()) (A := some ()) (B := some ()) (pc := 260) (tgt := 265) C dL_law_260 rfl (x := 1) (zRk rfl) rfl (fun _ _ => ?_) (fun h _ => absurd h (by decide))
  obtain ⟨d1, e1, e2, e3⟩ := A_undo h2 h1 hh
  refine zP_aload_n (pc := 265) C (x := zad V 0) dL_law_265 rfl rfl ?_
  refine zP_callV (pc := 266) (As := []) (st := []) C m99_189 dL_law_266 (s_X11 hT) rfl (t_X11_undo hT e1 (by omega)) ⟨Nat.le_of_ble_eq_true rfl, Nat.le_of_ble_eq_true rfl⟩ rfl (Nat.le_of_ble_eq_true rfl) hkn fun hw => ?_
  refine zP_if_lt (β := Unit) (r := ()) (A := some ()) (B := some ()) (pc := 269) (tgt := 322) C dL_law_269 rfl hw (by split <;> rfl) (fun h _ => absurd h (by omega)) (fun _ _ => ?_)
  obtain ⟨c2, c3, c9, c12, z2, z3, z9⟩ := LR_c e2
  refine zP_aload_n (pc := 272) C (x := zad V 0) dL_law_272 rfl rfl ?_
  refine zP_bipush (pc := 273) C dL_law_273 rfl ?_
  refine zP_callV (pc := 275) (As := [.int (zI 9)]) (st := []) C m99_97 dL_law_275 (s_X11 hT) rfl (t_X11_count hT (zRk rfl) c9 (z_u z9)) ⟨Nat.le_of_ble_eq_true rfl, Nat.le_of_ble_eq_true rfl⟩ rfl (Nat.le_of_ble_eq_true rfl) hkn fun _ => ?_
  refine zP_iload (pc := 278) C (x := zI (cSt t 3)) dL_law_278 rfl ?_
  refine zP_icmp_ne (β := Unit) (r := ()) (A := some ()) (B := some ()) (pc := 280) (tgt := 322) C dL_law_280 rfl z9 z9 (by split <;> rfl) (fun h _ => absurd rfl h) (fun _ _ => ?_)
  refine zP_aload_n (pc := 283) C (x := zad V 0) dL_law_283 rfl rfl ?_
  refine zP_iconst (pc := 284) C dL_law_284 ?_
  refine zP_callV (pc := 285) (As := [.int (zI 3)]) (st := []) C m99_97 dL_law_285 (s_X11 hT) rfl (t_X11_count hT (zRk rfl) c3 (z_u z3)) ⟨Nat.le_of_ble_eq_true rfl, Nat.le_of_ble_eq_true rfl⟩ rfl (Nat.le_of_ble_eq_true rfl) hkn fun _ => ?_
  refine zP_iload (pc := 288) C (x := zI (t 3)) dL_law_288 rfl ?_
  refine zP_icmp_ne (β := Unit) (r := ()) (A := some ()) (B := some ()) (pc := 290) (tgt := 322) C dL_law_290 rfl z3 z3 (by split <;> rfl) (fun h _ => absurd rfl h) (fun _ _ => ?_)
  obtain ⟨d2, g1, g2, g3⟩ := A_restore (d := d1) (s := t) (by rw [e3 0 (by omega) (by omega)]; exact h0) (LR_d hs fun c hc => e3 c (by omega) (by omega))
  refine zP_aload_n (pc := 293) C (x := zad V 0) dL_law_293 rfl rfl ?_
  refine zP_callV (pc := 294) (As := []) (st := []) C m99_192 dL_law_294 (s_X11 hT) rfl (t_X11_restoreState hT g1 (z_u z3)) ⟨Nat.le_of_ble_eq_true rfl, Nat.le_of_ble_eq_true rfl⟩ rfl (Nat.le_of_ble_eq_true rfl) hkn fun _ => ?_
  refine zP_iload (pc := 297) C (x := zI (t 3)) dL_law_297 rfl ?_
  refine zP_icmp_ne (β := Unit) (r := ()) (A := some ()) (B := some ()) (pc := 299) (tgt := 322) C dL_law_299 rfl z3 z3 (by split <;> rfl) (fun h _ => absurd rfl h) (fun _ _ => ?_)
  obtain ⟨-, -, -, c12, -⟩ := LR_c g2
  rw [g3] at c12
  refine zP_aload_n (pc := 302) C (x := zad V 0) dL_law_302 rfl rfl ?_
  refine zP_bipush (pc := 303) C dL_law_303 rfl ?_
  refine zP_callV (pc := 305) (As := [.int (zI 12)]) (st := []) C m99_97 dL_law_305 (s_X11 hT) rfl (t_X11_count hT (zRk rfl) c12 (by decide)) ⟨Nat.le_of_ble_eq_true rfl, Nat.le_of_ble_eq_true rfl⟩ rfl (Nat.le_of_ble_eq_true rfl) hkn fun _ => ?_
  refine zP_if_ne (β := Unit) (r := ()) (A := some ()) (B := some ()) (pc := 308) (tgt := 322) C dL_law_308 rfl (x := 0) (zRk rfl) rfl (fun h _ => absurd rfl h) (fun _ _ => ?_)
  refine zP_aload_n (pc := 311) C (x := zad V 0) dL_law_311 rfl rfl ?_
  refine zP_ints fun hZ => ?_
  refine zP_callS (pc := 312) (As := [.ref (zad V 0)]) (st := []) C m99_169 dL_law_312 (t_L_isSound hT (LR_sound g2 hZ)) ⟨Nat.le_of_ble_eq_true rfl, Nat.le_of_ble_eq_true rfl⟩ rfl (Nat.le_of_ble_eq_true rfl) hkn fun _ => ?_
  refine zP_if_eq (β := Unit) (r := ()) (A := some ()) (B := some ()) (pc := 315) (tgt := 322) C dL_law_315 rfl (x := 1) (zRk rfl) rfl (fun h _ => absurd h (by decide)) (fun _ _ => ?_)
  refine zP_iconst (pc := 318) C dL_law_318 ?_
  refine zP_goto (pc := 319) (tgt := 323) C dL_law_319 rfl ?_
  exact fin _ _
/-- what was told of the first message -/
theorem law_look (hT : zo11 V) (C : zOk V X cL_law RL 10 room_1 rt) (hkn : k ≤ 600086 ∧ n ≤ 7301442) {v2 v3 v4 v5 v6 v8 : Option Value} {d : zD} {s : Nat → Int} {f T : Int} (hl : LR d 30 s) (hf : zR f) (hT9 : zR T) (h9 : 0 < s 2 → (f = -1 ∨ (f ≤ T → rM s 0 3 = 3)) ∧ (T < f → rM s 0 3 ≠ 3)) (kk : zP V X 10 k n 256 [some (.ref (zqa V)), some (.ref (zad V 0)), v2, v3, v4, v5, v6, some (.int (zI T)), v8, some (.int (zI f))] [] d) : zP V X 10 k n 200 [some (.ref (zqa V)), some (.ref (zad V 0)), v2, v3, v4, v5, v6, some (.int (zI T)), v8, some (.int (zI f))] [] d := by
  obtain ⟨c2, c3, c9, c12, z2, z3, z9⟩ := LR_c hl
  have r2 : zR (s 2) := ⟨by omega, by omega⟩
  -- the second question
  have k231 : zP V X 10 k n 231 [some (.ref (zqa V)), some (.ref (zad V 0)), v2, v3, v4, v5, v6, some (.int (zI T)), v8, some (.int (zI f))] [] d := by
    refine zP_aload_n (pc := 231) C (x := zad V 0) dL_law_231 rfl rfl ?_
    refine zP_iconst (pc := 232) C dL_law_232 ?_
    refine zP_callV (pc := 233) (As := [.int (zI 2)]) (st := []) C m99_97 dL_law_233 (s_X11 hT) rfl (t_X11_count hT (zRk rfl) c2 (z_u r2)) ⟨Nat.le_of_ble_eq_true rfl, Nat.le_of_ble_eq_true rfl⟩ rfl (Nat.le_of_ble_eq_true rfl) hkn fun _ => ?_
    refine zP_if_le (β := Unit) (r := ()) (A := some ()) (B := some ()) (pc := 236) (tgt := 256) C dL_law_236 rfl r2 (by split <;> rfl) (fun _ _ => kk) (fun h0 _ => ?_)
    refine zP_iload (pc := 239) C (x := zI f) dL_law_239 rfl ?_
    refine zP_iload (pc := 241) C (x := zI T) dL_law_241 rfl ?_
    refine zP_icmp_le (β := Unit) (r := ()) (A := some ()) (B := some ()) (pc := 243) (tgt := 256) C dL_law_243 rfl hf hT9 (by split <;> rfl) (fun _ _ => kk) (fun h1 _ => ?_)
    obtain ⟨m1, m2⟩ := LR_msg hl (by omega)
    have m3 := (h9 (by omega)).2 (by omega)
    refine zP_aload_n (pc := 246) C (x := zad V 0) dL_law_246 rfl rfl ?_
    refine zP_iconst (pc := 247) C dL_law_247 ?_
    refine zP_iconst (pc := 248) C dL_law_248 ?_
    refine zP_callV (pc := 249) (As := [.int (zI 0), .int (zI 3)]) (st := []) C m99_90 dL_law_249 (s_X11 hT) rfl (t_X11_message hT (zRk rfl) (zRk rfl) m1 (by omega)) ⟨Nat.le_of_ble_eq_true rfl, Nat.le_of_ble_eq_true rfl⟩ rfl (Nat.le_of_ble_eq_true rfl) hkn fun hw => ?_
    refine zP_iconst (pc := 252) C dL_law_252 ?_
    refine zP_icmp_eq (β := Unit) (r := ()) (A := some ()) (B := some ()) (pc := 253) (tgt := 263) C dL_law_253 rfl hw (zRk rfl) (by split <;> rfl) (fun h _ => absurd h m3) (fun _ _ => kk)
  refine zP_aload_n (pc := 200) C (x := zad V 0) dL_law_200 rfl rfl ?_
  refine zP_iconst (pc := 201) C dL_law_201 ?_
  refine zP_callV (pc := 202) (As := [.int (zI 2)]) (st := []) C m99_97 dL_law_202 (s_X11 hT) rfl (t_X11_count hT (zRk rfl) c2 (z_u r2)) ⟨Nat.le_of_ble_eq_true rfl, Nat.le_of_ble_eq_true rfl⟩ rfl (Nat.le_of_ble_eq_true rfl) hkn fun _ => ?_
  refine zP_if_le (β := Unit) (r := ()) (A := some ()) (B := some ()) (pc := 205) (tgt := 231) C dL_law_205 rfl r2 (by split <;> rfl) (fun _ _ => k231) (fun h0 _ => ?_)
  refine zP_iload (pc := 208) C (x := zI f) dL_law_208 rfl ?_
  refine zP_iconst (pc := 210) C dL_law_210 ?_
  refine zP_icmp_eq (β := Unit) (r := ()) (A := some ()) (B := some ()) (pc := 211) (tgt := 231) C dL_law_211 rfl hf (zRk rfl) (by split <;> rfl) (fun _ _ => k231) (fun h1 _ => ?_)
  refine zP_iload (pc := 214) C (x := zI f) dL_law_214 rfl ?_
  refine zP_iload (pc := 216) C (x := zI T) dL_law_216 rfl ?_
  refine zP_icmp_gt (β := Unit) (r := ()) (A := some ()) (B := some ()) (pc := 218) (tgt := 231) C dL_law_218 rfl hf hT9 (by split <;> rfl) (fun _ _ => k231) (fun h3 _ => ?_)
  obtain ⟨m1, m2⟩ := LR_msg hl (by omega)
  have m3 : rM s 0 3 = 3 := ((h9 (by omega)).1.resolve_left h1) (by omega)
  refine zP_aload_n (pc := 221) C (x := zad V 0) dL_law_221 rfl rfl ?_
  refine zP_iconst (pc := 222) C dL_law_222 ?_
  refine zP_iconst (pc := 223) C dL_law_223 ?_
  refine zP_callV (pc := 224) (As := [.int (zI 0), .int (zI 3)]) (st := []) C m99_90 dL_law_224 (s_X11 hT) rfl (t_X11_message hT (zRk rfl) (zRk rfl) m1 (by omega)) ⟨Nat.le_of_ble_eq_true rfl, Nat.le_of_ble_eq_true rfl⟩ rfl (Nat.le_of_ble_eq_true rfl) hkn fun hw => ?_
  refine zP_iconst (pc := 227) C dL_law_227 ?_
  exact zP_icmp_ne (β := Unit) (r := ()) (A := some ()) (B := some ()) (pc := 228) (tgt := 263) C dL_law_228 rfl hw (zRk rfl) (by split <;> rfl) (fun h _ => absurd m3 h) (fun _ _ => k231)
theorem law_end (hT : zo11 V) (hqn : zqn V ≤ 260) (C : zOk V X cL_law RL 10 room_1 rt) (hkn : k ≤ 600086 ∧ n ≤ 7301442) (fin : ∀ L d, zP V X 10 k n 323 L [.int (zI 1)] d) {many : Int} {d ds : zD} (hg : GR d ds) (h4 : ds 401 4 ≤ 20) : zP V X 10 k n 91 [some (.ref (zqa V)), some (.ref (zad V 0)), some (.int (zI many)), none, none, none, none, none, none, none] [] d := by
  obtain ⟨d1, s1, a1, a2, a3, a4, a5⟩ := A_save hg
  obtain ⟨-, -, -, i4, -⟩ := LR_2 hg.1
  have hl1 : LR d1 30 (ds 401) := by rw [← a3]; exact a2.1
  obtain ⟨c2, c3, c9, c12, z2, z3, z9⟩ := LR_c hl1
  have r2 : zR (ds 401 2) := ⟨by omega, by omega⟩
  -- saved, delivered
  refine zP_aload_n (pc := 91) C (x := zad V 0) dL_law_91 rfl rfl ?_
  refine zP_callV (pc := 92) (As := []) (st := []) C m99_180 dL_law_92 (s_X11 hT) rfl (t_X11_saveState hT a1) ⟨Nat.le_of_ble_eq_true rfl, Nat.le_of_ble_eq_true rfl⟩ rfl (Nat.le_of_ble_eq_true rfl) hkn fun _ => ?_
  refine zP_istore (pc := 95) C (L' := [some (.ref (zqa V)), some (.ref (zad V 0)), some (.int (zI many)), none, some (.int (zI (ds 401 3))), none, none, none, none, none]) dL_law_95 (Nat.le_of_ble_eq_true rfl) rfl rfl ?_
  refine zP_aload_n (pc := 97) C (x := zad V 0) dL_law_97 rfl rfl ?_
  refine zP_bipush (pc := 98) C dL_law_98 rfl ?_
  refine zP_callV (pc := 100) (As := [.int (zI 9)]) (st := []) C m99_97 dL_law_100 (s_X11 hT) rfl (t_X11_count hT (zRk rfl) c9 (z_u z9)) ⟨Nat.le_of_ble_eq_true rfl, Nat.le_of_ble_eq_true rfl⟩ rfl (Nat.le_of_ble_eq_true rfl) hkn fun _ => ?_
  refine zP_istore (pc := 103) C (L' := [some (.ref (zqa V)), some (.ref (zad V 0)), some (.int (zI many)), none, some (.int (zI (ds 401 3))), some (.int (zI (cSt (ds 401) 3))), none, none, none, none]) dL_law_103 (Nat.le_of_ble_eq_true rfl) rfl rfl ?_
  -- quiet
  obtain ⟨w, d2, b1, b2, b3⟩ := A_quiet (ds := s1) (by rw [a3]; exact hl1) (by rw [a3]; omega)
  refine zP_aload_n (pc := 105) C (x := zad V 0) dL_law_105 rfl rfl ?_
  refine zP_callV (pc := 106) (As := []) (st := []) C m99_183 dL_law_106 (s_X11 hT) rfl (t_X11_quietIn hT b1) ⟨Nat.le_of_ble_eq_true rfl, Nat.le_of_ble_eq_true rfl⟩ rfl (Nat.le_of_ble_eq_true rfl) hkn fun rw' => ?_
  refine zP_istore (pc := 109) C (L' := [some (.ref (zqa V)), some (.ref (zad V 0)), some (.int (zI many)), none, some (.int (zI (ds 401 3))), some (.int (zI (cSt (ds 401) 3))), some (.int (zI w)), none, none, none]) dL_law_109 (Nat.le_of_ble_eq_true rfl) rfl rfl ?_
  -- how many turns
  have D := q_draw (V := V) (k := 130) (lo := 1) (hi := 60) (d := d2) (by omega) (by omega)
  have hTn := drw_R (V := V) (k := 130) (lo := 1) (hi := 60) (by omega)
  generalize drw V 130 1 60 = T at D hTn
  have rT' : zR T := ⟨by omega, by omega⟩
  refine zP_aload_n (pc := 111) C (x := zqa V) dL_law_111 rfl rfl ?_
  refine zP_sipush (pc := 112) C dL_law_112 rfl ?_
  refine zP_iconst (pc := 115) C dL_law_115 ?_
  refine zP_bipush (pc := 116) C dL_law_116 rfl ?_
  refine zP_callS (pc := 118) (As := [.ref (zqa V), .int (zI 130), .int (zI 1), .int (zI 60)]) (st := []) C m99_59 dL_law_118 (t_L_draw hqn (zRk rfl) (zRk rfl) (zRk rfl) D) ⟨Nat.le_of_ble_eq_true rfl, Nat.le_of_ble_eq_true rfl⟩ rfl (Nat.le_of_ble_eq_true rfl) hkn fun _ => ?_
  refine zP_istore (pc := 121) C (L' := [some (.ref (zqa V)), some (.ref (zad V 0)), some (.int (zI many)), none, some (.int (zI (ds 401 3))), some (.int (zI (cSt (ds 401) 3))), some (.int (zI w)), some (.int (zI T)), none, none]) dL_law_121 (Nat.le_of_ble_eq_true rfl) rfl rfl ?_
  -- what will be delivered
  have hg2 := b2.gr a2
  have hl2 := hg2.1
  obtain ⟨d3, E, e1, e2, e3⟩ := A_delivered (n := T) hl2 (by omega) (by rw [a3]; omega)
  have hg3 := e2.gr hg2
  refine zP_aload_n (pc := 123) C (x := zad V 0) dL_law_123 rfl rfl ?_
  refine zP_iload (pc := 124) C (x := zI T) dL_law_124 rfl ?_
  -- the run itself tells that what will be delivered is an int
  obtain ⟨d5', E', u1, u2, u3, u4, -⟩ := A_run (n := T) hg3 (by omega) (by rw [a3]; omega)
  have hE := gTT_fun e3 u2
  subst hE
  obtain ⟨-, -, -, -, y2, y3, y9⟩ := LR_c u3
  refine zP_callV (pc := 126) (As := [.int (zI T)]) (st := []) C m99_130 dL_law_126 (s_X11 hT) rfl (t_X11_deliveredIn hT rT' e1 (z_u y9)) ⟨Nat.le_of_ble_eq_true rfl, Nat.le_of_ble_eq_true rfl⟩ rfl (Nat.le_of_ble_eq_true rfl) hkn fun _ => ?_
  refine zP_istore (pc := 129) C (L' := [some (.ref (zqa V)), some (.ref (zad V 0)), some (.int (zI many)), none, some (.int (zI (ds 401 3))), some (.int (zI (cSt (ds 401) 3))), some (.int (zI w)), some (.int (zI T)), some (.int (zI (cSt (E 401) 3))), none]) dL_law_129 (Nat.le_of_ble_eq_true rfl) rfl rfl ?_
  clear u1 u3 u2
  -- from the first message's answer on
  have tail : ∀ (f : Int) (d4 : zD), zR f → FA d1 d4 → (0 < ds 401 2 → (f = -1 ∨ (f ≤ T → rM (E 401) 0 3 = 3)) ∧ (T < f → rM (E 401) 0 3 ≠ 3)) → zP V X 10 k n 148 [some (.ref (zqa V)), some (.ref (zad V 0)), some (.int (zI many)), none, some (.int (zI (ds 401 3))), some (.int (zI (cSt (ds 401) 3))), some (.int (zI w)), some (.int (zI T)), some (.int (zI (cSt (E 401) 3))), none] [.int (zI f)] d4 := fun f d4 rf fa hf => by
    have hg4 := fa.gr a2
    obtain ⟨d5, E', u1, u2, u3, -, u5, u6, u7, u8⟩ := A_run (n := T) hg4 (by omega) (by rw [a3]; omega)
    have hE := gTT_fun e3 u2
    subst hE
    rw [a3] at u1 u5
    have q1 := cSt_R (v := 3) y2
    have q2 := cSt_R (v := 3) z2
    obtain ⟨m2, m3, m9, -⟩ := LR_c u3
    have e2' : E 401 2 = ds 401 2 := by rw [u4.1 2 (by omega) (by omega) (by omega) (by omega), a3]
    have r2' : zR (E 401 2) := ⟨by omega, by omega⟩
    have last : zP V X 10 k n 200 [some (.ref (zqa V)), some (.ref (zad V 0)), some (.int (zI many)), none, some (.int (zI (ds 401 3))), some (.int (zI (cSt (ds 401) 3))), some (.int (zI w)), some (.int (zI T)), some (.int (zI (cSt (E 401) 3))), some (.int (zI f))] [] d5 := by
      refine law_look hT C hkn u3 rf rT' (by rw [e2']; exact hf) ?_
      refine law_last hT C hkn fin u3 u5 u6 u7 (LR_d a4 fun c hc => ?_) ?_
      · rw [u8 c (by omega) (by omega) (by omega), fa c (by omega) (by omega)]
      · rw [u8 0 (by omega) (by omega) (by omega), fa 0 (by omega) (by omega)]; exact a5
    refine zP_istore (pc := 148) C (L' := [some (.ref (zqa V)), some (.ref (zad V 0)), some (.int (zI many)), none, some (.int (zI (ds 401 3))), some (.int (zI (cSt (ds 401) 3))), some (.int (zI w)), some (.int (zI T)), some (.int (zI (cSt (E 401) 3))), some (.int (zI f))]) dL_law_148 (Nat.le_of_ble_eq_true rfl) rfl rfl ?_
    refine zP_aload_n (pc := 150) C (x := zad V 0) dL_law_150 rfl rfl ?_
    refine zP_iload (pc := 151) C (x := zI T) dL_law_151 rfl ?_
    refine zP_callV (pc := 153) (As := [.int (zI T)]) (st := []) C m99_136 dL_law_153 (s_X11 hT) rfl (t_X11_run hT rT' u1 (by omega)) ⟨Nat.le_of_ble_eq_true rfl, Nat.le_of_ble_eq_true rfl⟩ rfl (Nat.le_of_ble_eq_true rfl) hkn fun hw => ?_
    refine zP_iload (pc := 156) C (x := zI (cSt (E 401) 3)) dL_law_156 rfl ?_
    refine zP_iload (pc := 158) C (x := zI (cSt (ds 401) 3)) dL_law_158 rfl ?_
    refine zP_isub (K := fun v => some v) (r := cSt (E 401) 3 - cSt (ds 401) 3) (pc := 160) C dL_law_160 (by rw [zl_n, zw_id (by omega) (by omega)]) fun v hv q => ?_
    cases q
    refine zP_icmp_ne (β := Unit) (r := ()) (A := some ()) (B := some ()) (pc := 161) (tgt := 198) C dL_law_161 rfl hw hw (by split <;> rfl) (fun h _ => absurd rfl h) (fun _ _ => ?_)
    refine zP_aload_n (pc := 164) C (x := zad V 0) dL_law_164 rfl rfl ?_
    refine zP_bipush (pc := 165) C dL_law_165 rfl ?_
    refine zP_callV (pc := 167) (As := [.int (zI 9)]) (st := []) C m99_97 dL_law_167 (s_X11 hT) rfl (t_X11_count hT (zRk rfl) m9 (z_u y9)) ⟨Nat.le_of_ble_eq_true rfl, Nat.le_of_ble_eq_true rfl⟩ rfl (Nat.le_of_ble_eq_true rfl) hkn fun _ => ?_
    refine zP_iload (pc := 170) C (x := zI (cSt (E 401) 3)) dL_law_170 rfl ?_
    refine zP_icmp_ne (β := Unit) (r := ()) (A := some ()) (B := some ()) (pc := 172) (tgt := 198) C dL_law_172 rfl y9 y9 (by split <;> rfl) (fun h _ => absurd rfl h) (fun _ _ => ?_)
    refine zP_iload (pc := 175) C (x := zI w) dL_law_175 rfl ?_
    refine zP_iconst (pc := 177) C dL_law_177 ?_
    refine zP_icmp_eq (β := Unit) (r := ()) (A := some ()) (B := some ()) (pc := 178) (tgt := 200) C dL_law_178 rfl rw' (zRk rfl) (by split <;> rfl) (fun _ _ => last) (fun hw1 _ => ?_)
    refine zP_iload (pc := 181) C (x := zI w) dL_law_181 rfl ?_
    refine zP_iload (pc := 183) C (x := zI T) dL_law_183 rfl ?_
    refine zP_icmp_gt (β := Unit) (r := ()) (A := some ()) (B := some ()) (pc := 185) (tgt := 200) C dL_law_185 rfl rw' rT' (by split <;> rfl) (fun _ _ => last) (fun hw2 _ => ?_)
    obtain ⟨hw3, e, dx, g1, g2, g3, g4⟩ := b3.resolve_left hw1
    have hst := A_still g1 g2 g3 e3 (by omega)
    obtain ⟨-, -, ei2, -⟩ := LR_2 g2
    have hfull := cSt_full ei2 g4 hst
    refine zP_iload (pc := 188) C (x := zI (cSt (E 401) 3)) dL_law_188 rfl ?_
    refine zP_aload_n (pc := 190) C (x := zad V 0) dL_law_190 rfl rfl ?_
    refine zP_iconst (pc := 191) C dL_law_191 ?_
    refine zP_callV (pc := 192) (As := [.int (zI 2)]) (st := [.int (zI (cSt (E 401) 3))]) C m99_97 dL_law_192 (s_X11 hT) rfl (t_X11_count hT (zRk rfl) m2 (z_u r2')) ⟨Nat.le_of_ble_eq_true rfl, Nat.le_of_ble_eq_true rfl⟩ rfl (Nat.le_of_ble_eq_true rfl) hkn fun _ => ?_
    exact zP_icmp_eq (β := Unit) (r := ()) (A := some ()) (B := some ()) (pc := 195) (tgt := 200) C dL_law_195 rfl y9 r2' (by split <;> rfl) (fun _ _ => last) (fun h _ => absurd hfull h)
  have f3 : FA d1 d3 := fun c c7 hc => (e2 c c7 hc).trans (b2 c c7 hc)
  have e32 : s1 401 2 = ds 401 2 := by rw [a3]
  obtain ⟨c2', -⟩ := LR_c hg3.1
  rw [e32] at c2'
  refine zP_aload_n (pc := 131) C (x := zad V 0) dL_law_131 rfl rfl ?_
  refine zP_iconst (pc := 132) C dL_law_132 ?_
  refine zP_callV (pc := 133) (As := [.int (zI 2)]) (st := []) C m99_97 dL_law_133 (s_X11 hT) rfl (t_X11_count hT (zRk rfl) c2' (z_u r2)) ⟨Nat.le_of_ble_eq_true rfl, Nat.le_of_ble_eq_true rfl⟩ rfl (Nat.le_of_ble_eq_true rfl) hkn fun _ => ?_
  refine zP_if_le (β := Unit) (r := ()) (A := some ()) (B := some ()) (pc := 136) (tgt := 147) C dL_law_136 rfl r2 (by split <;> rfl) (fun h0 _ => ?_) (fun h0 _ => ?_)
  · refine zP_iconst (pc := 147) C dL_law_147 ?_
    exact tail (-1) d3 (zRk rfl) f3 fun h => absurd h (by omega)
  · obtain ⟨f, d4, g1, g2, g3⟩ := A_delivers (x := 0) hg3.1 (by omega) (by rw [a3]; omega)
    refine zP_aload_n (pc := 139) C (x := zad V 0) dL_law_139 rfl rfl ?_
    refine zP_iconst (pc := 140) C dL_law_140 ?_
    refine zP_callV (pc := 141) (As := [.int (zI 0)]) (st := []) C m99_186 dL_law_141 (s_X11 hT) rfl (t_X11_deliversIn hT (zRk rfl) g1 (by omega)) ⟨Nat.le_of_ble_eq_true rfl, Nat.le_of_ble_eq_true rfl⟩ rfl (Nat.le_of_ble_eq_true rfl) hkn fun hw => ?_
    refine zP_goto (pc := 144) (tgt := 148) C dL_law_144 rfl ?_
    refine tail f d4 hw (fun c c7 hc => (g2 c c7 hc).trans (f3 c c7 hc)) fun _ => ?_
    rcases g3 with g3 | ⟨g3, ⟨e, dx, g4, g5, g6, g7⟩, g8⟩
    · exact ⟨Or.inl g3, fun h => by omega⟩
    · exact ⟨Or.inr fun h => (A_still g4 g5 g6 e3 (by omega)).2 0 g7, fun h => g8 T.toNat E (by omega) e3⟩
end LAW
