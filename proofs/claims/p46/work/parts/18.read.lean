/-! The readers' methods over the pure heap. -/
def f_X9_addByte  (x1 : Int) (d : zD) : Option (Int × zD) :=
  zl (d 10 1) fun v1 =>
  if (600 : Int) ≤ v1 then (
    some (0, d))
  else (
    zl (d 10 1) fun v15 =>
    zg 600 v15 <| zl (zu d 11 (v15 : Int).toNat x1) fun d =>
    zl (d 10 1) fun v22 =>
    zl (zw (v22 + 1)) fun v26 =>
    zl (zu d 10 1 v26) fun d =>
    some (0, d))
theorem t_X9_addByte {V : zW}  (hT : zo9 V) {x1 : Int} (hx1 : zR x1) {d dz : zD} {rv : Int} (h : f_X9_addByte  x1 d = some (rv, dz)) : zMet V 0 yX9_addByte cX9_addByte 2 none [.ref (zad V 10), .int (zI x1)] d none (rv = 0) dz := by
  refine zMet_by RX9 pn9 rfl (Nat.le_of_ble_eq_true rfl) [some (.ref (zad V 10)), some (.int (zI x1))] rfl fun X C E => ?_
  refine zP_aload_n (pc := 0) C (x := zad V 10) dX9_addByte_0 rfl rfl ?_
  refine zP_getI (pc := 1) (a := 10) C g9_15 dX9_addByte_1 (s_X9 hT) rfl h fun v1 hv1 h => ?_
  refine zP_sipush (pc := 4) C dX9_addByte_4 rfl ?_
  refine zP_icmp_ge (pc := 7) (tgt := 30) C dX9_addByte_7 rfl hv1 (zRk rfl) h (fun _ h => ?_) (fun _ h => ?_)
  · exact zP_vret (pc := 30) C E dX9_addByte_30 h
  · refine zP_aload_n (pc := 10) C (x := zad V 10) dX9_addByte_10 rfl rfl ?_
    refine zP_getR (pc := 11) (a := 10) (t := 11) C g9_9 dX9_addByte_11 (s_X9 hT) rfl ?_
    refine zP_aload_n (pc := 14) C (x := zad V 10) dX9_addByte_14 rfl rfl ?_
    refine zP_getI (pc := 15) (a := 10) C g9_15 dX9_addByte_15 (s_X9 hT) rfl h fun v15 hv15 h => ?_
    refine zP_iload_n (pc := 18) C (x := zI x1) dX9_addByte_18 rfl rfl ?_
    refine zP_iast (pc := 19) (a := 11) C dX9_addByte_19 (s_X9_bytes hT) hv15 hx1 h fun d h => ?_
    refine zP_aload_n (pc := 20) C (x := zad V 10) dX9_addByte_20 rfl rfl ?_
    refine zP_dup (pc := 21) C dX9_addByte_21 rfl ?_
    refine zP_getI (pc := 22) (a := 10) C g9_15 dX9_addByte_22 (s_X9 hT) rfl h fun v22 hv22 h => ?_
    refine zP_iconst (pc := 25) C dX9_addByte_25 ?_
    refine zP_iadd (pc := 26) C dX9_addByte_26 h fun v26 hv26 h => ?_
    refine zP_putI (pc := 27) (a := 10) C p9_15 dX9_addByte_27 (s_X9 hT) rfl hv26 h fun d h => ?_
    exact zP_vret (pc := 30) C E dX9_addByte_30 h
def l_X9_addFourBytes_3F  (r3 : Int → Int → zD → Option (Int × zD)) (x1 x2 : Int) (d : zD) : Option (Int × zD) :=
  if (x2 : Int) < 0 then (
    some (0, d))
  else (
    zl (zshr x1 x2) fun v10 =>
    zl (zand v10 255) fun v14 =>
    zc (f_X9_addByte  v14 d) fun _ d =>
    zl (zw (x2 + (-8))) fun v18 =>
    r3 x1 v18 d)
theorem wl_X9_addFourBytes_3F {V : zW} {X : zX}  (hT : zo9 V) (C : zOk V X cX9_addFourBytes RX9 3 (zrm 1) none) {rv : Int} {dz : zD} (E : zEnd V X none (rv = 0) dz) {r3 : Int → Int → zD → Option (Int × zD)} (hr3 : ∀ {x1 x2 : Int} {d : zD}, zR x1 → zR x2 → r3 x1 x2 d = some (rv, dz) → zP V X 3 0 0 3 [some (.ref (zad V 10)), some (.int (zI x1)), some (.int (zI x2))] [] d) {x1 x2 : Int} (hx1 : zR x1) (hx2 : zR x2) {d : zD} (h : l_X9_addFourBytes_3F  r3 x1 x2 d = some (rv, dz)) : zP V X 3 0 0 3 [some (.ref (zad V 10)), some (.int (zI x1)), some (.int (zI x2))] [] d := by
  refine zP_iload_n (pc := 3) C (x := zI x2) dX9_addFourBytes_3 rfl rfl ?_
  refine zP_if_lt (pc := 4) (tgt := 24) C dX9_addFourBytes_4 rfl hx2 h (fun _ h => ?_) (fun _ h => ?_)
  · exact zP_vret (pc := 24) C E dX9_addFourBytes_24 h
  · refine zP_aload_n (pc := 7) C (x := zad V 10) dX9_addFourBytes_7 rfl rfl ?_
    refine zP_iload_n (pc := 8) C (x := zI x1) dX9_addFourBytes_8 rfl rfl ?_
    refine zP_iload_n (pc := 9) C (x := zI x2) dX9_addFourBytes_9 rfl rfl ?_
    refine zP_ishr (pc := 10) C dX9_addFourBytes_10 h fun v10 hv10 h => ?_
    refine zP_sipush (pc := 11) C dX9_addFourBytes_11 rfl ?_
    refine zP_iand (pc := 14) C dX9_addFourBytes_14 h fun v14 hv14 h => ?_
    obtain ⟨_, d1, hc, h⟩ := zc_h h
    refine zP_callV (pc := 15) (As := [.int (zI v14)]) (st := []) C m9_34 dX9_addFourBytes_15 (s_X9 hT) rfl (t_X9_addByte hT hv14 hc) ⟨Nat.le_of_ble_eq_true rfl, Nat.le_of_ble_eq_true rfl⟩ rfl (Nat.le_of_ble_eq_true rfl) ⟨Nat.zero_le _, Nat.zero_le _⟩ fun hw => ?_
    clear hc hw
    show zP V X 3 0 0 18 _ [] d1
    revert h
    generalize d1 = d
    intro h
    refine zP_iinc (pc := 18) C (x := x2) dX9_addFourBytes_18 rfl (Nat.le_of_ble_eq_true rfl) rfl h fun v18 hv18 h => ?_
    show zP V X 3 0 0 21 [some (.ref (zad V 10)), some (.int (zI x1)), some (.int (zI v18))] _ _
    refine zP_goto (pc := 21) (tgt := 3) C dX9_addFourBytes_21 rfl ?_
    exact zP_mask [true, true, true] (hr3 hx1 hv18 h)
def l_X9_addFourBytes_3   : Nat → Int → Int → zD → Option (Int × zD)
  | 0, _, _, _ => none
  | q + 1, x1, x2, d => l_X9_addFourBytes_3F   (l_X9_addFourBytes_3   q) x1 x2 d
theorem wl_X9_addFourBytes_3 {V : zW} {X : zX}  (hT : zo9 V) (C : zOk V X cX9_addFourBytes RX9 3 (zrm 1) none) {rv : Int} {dz : zD} (E : zEnd V X none (rv = 0) dz)  : ∀ (q : Nat) {x1 x2 : Int} (hx1 : zR x1) (hx2 : zR x2) {d : zD} (h : l_X9_addFourBytes_3   q x1 x2 d = some (rv, dz)), zP V X 3 0 0 3 [some (.ref (zad V 10)), some (.int (zI x1)), some (.int (zI x2))] [] d := by
  intro q
  induction q with
  | zero => intro x1 x2 hx1 hx2 d h; cases (show (none : Option (Int × zD)) = some (rv, dz) from h)
  | succ q ih =>
    intro x1 x2 hx1 hx2 d h
    exact wl_X9_addFourBytes_3F hT C E  (fun  hx1 hx2 h => ih hx1 hx2 h) hx1 hx2 h
def f_X9_addFourBytes  (x1 : Int) (d : zD) : Option (Int × zD) :=
  l_X9_addFourBytes_3   zF x1 24 d
theorem t_X9_addFourBytes {V : zW}  (hT : zo9 V) {x1 : Int} (hx1 : zR x1) {d dz : zD} {rv : Int} (h : f_X9_addFourBytes  x1 d = some (rv, dz)) : zMet V 1 yX9_addFourBytes cX9_addFourBytes 3 none [.ref (zad V 10), .int (zI x1)] d none (rv = 0) dz := by
  refine zMet_by RX9 pn9 rfl (Nat.le_of_ble_eq_true rfl) [some (.ref (zad V 10)), some (.int (zI x1)), none] rfl fun X C E => ?_
  refine zP_bipush (pc := 0) C dX9_addFourBytes_0 rfl ?_
  refine zP_istore_n (pc := 2) C (L' := [some (.ref (zad V 10)), some (.int (zI x1)), some (.int (zI 24))]) dX9_addFourBytes_2 rfl (Nat.le_of_ble_eq_true rfl) rfl rfl ?_
  exact zP_mask [true, true, true] (wl_X9_addFourBytes_3 hT C E  zF hx1 (zRk rfl) h)
def j_X9_advance_255   (x1 : Int) (d : zD) : Option (Int × zD) :=
  if (x1 : Int) = 59 then (
    zl (zu d 10 2 2) fun d =>
    some (0, d))
  else (
    zl (zu d 10 2 4) fun d =>
    some (0, d))
theorem wj_X9_advance_255 {V : zW} {X : zX}  (hT : zo9 V) (C : zOk V X cX9_advance RX9 2 (zrm 0) none) {rv : Int} {dz : zD} (E : zEnd V X none (rv = 0) dz)  {x1 : Int} (hx1 : zR x1) {d : zD} (h : j_X9_advance_255   x1 d = some (rv, dz)) : zP V X 2 0 0 255 [some (.ref (zad V 10)), some (.int (zI x1))] [] d := by
  refine zP_aload_n (pc := 255) C (x := zad V 10) dX9_advance_255 rfl rfl ?_
  refine zP_iload_n (pc := 256) C (x := zI x1) dX9_advance_256 rfl rfl ?_
  refine zP_bipush (pc := 257) C dX9_advance_257 rfl ?_
  refine zP_icmp_ne (pc := 259) (tgt := 266) C dX9_advance_259 rfl hx1 (zRk rfl) h (fun _ h => ?_) (fun _ h => ?_)
  · refine zP_iconst (pc := 266) C dX9_advance_266 ?_
    refine zP_putI (pc := 267) (a := 10) C p9_19 dX9_advance_267 (s_X9 hT) rfl (zRk rfl) h fun d h => ?_
    exact zP_vret (pc := 270) C E dX9_advance_270 h
  · refine zP_iconst (pc := 262) C dX9_advance_262 ?_
    refine zP_goto (pc := 263) (tgt := 267) C dX9_advance_263 rfl ?_
    refine zP_putI (pc := 267) (a := 10) C p9_19 dX9_advance_267 (s_X9 hT) rfl (zRk rfl) h fun d h => ?_
    exact zP_vret (pc := 270) C E dX9_advance_270 h
def j_X9_advance_230   (d : zD) : Option (Int × zD) :=
  zl (d 10 4) fun v232 =>
  zl (d 10 3) fun v236 =>
  zl (zw (v232 - v236)) fun v239 =>
  if (v239 : Int) ≤ 4 then (
    zl (zu d 10 2 1) fun d =>
    some (0, d))
  else (
    zl (zu d 10 2 4) fun d =>
    some (0, d))
theorem wj_X9_advance_230 {V : zW} {X : zX}  (hT : zo9 V) (C : zOk V X cX9_advance RX9 2 (zrm 0) none) {rv : Int} {dz : zD} (E : zEnd V X none (rv = 0) dz)    {d : zD} (h : j_X9_advance_230    d = some (rv, dz)) : zP V X 2 0 0 230 [some (.ref (zad V 10)), none] [] d := by
  refine zP_aload_n (pc := 230) C (x := zad V 10) dX9_advance_230 rfl rfl ?_
  refine zP_aload_n (pc := 231) C (x := zad V 10) dX9_advance_231 rfl rfl ?_
  refine zP_getI (pc := 232) (a := 10) C g9_25 dX9_advance_232 (s_X9 hT) rfl h fun v232 hv232 h => ?_
  refine zP_aload_n (pc := 235) C (x := zad V 10) dX9_advance_235 rfl rfl ?_
  refine zP_getI (pc := 236) (a := 10) C g9_22 dX9_advance_236 (s_X9 hT) rfl h fun v236 hv236 h => ?_
  refine zP_isub (pc := 239) C dX9_advance_239 h fun v239 hv239 h => ?_
  refine zP_iconst (pc := 240) C dX9_advance_240 ?_
  refine zP_icmp_le (pc := 241) (tgt := 248) C dX9_advance_241 rfl hv239 (zRk rfl) h (fun _ h => ?_) (fun _ h => ?_)
  · refine zP_iconst (pc := 248) C dX9_advance_248 ?_
    refine zP_putI (pc := 249) (a := 10) C p9_19 dX9_advance_249 (s_X9 hT) rfl (zRk rfl) h fun d h => ?_
    refine zP_goto (pc := 252) (tgt := 270) C dX9_advance_252 rfl ?_
    exact zP_vret (pc := 270) C E dX9_advance_270 h
  · refine zP_iconst (pc := 244) C dX9_advance_244 ?_
    refine zP_goto (pc := 245) (tgt := 249) C dX9_advance_245 rfl ?_
    refine zP_putI (pc := 249) (a := 10) C p9_19 dX9_advance_249 (s_X9 hT) rfl (zRk rfl) h fun d h => ?_
    refine zP_goto (pc := 252) (tgt := 270) C dX9_advance_252 rfl ?_
    exact zP_vret (pc := 270) C E dX9_advance_270 h
def l_X9_advance_178F  (r178 : zD → Option (Int × zD)) (d : zD) : Option (Int × zD) :=
  zl (d 10 4) fun v179 =>
  zl (d 10 1) fun v183 =>
  if (v183 : Int) ≤ v179 then (
    j_X9_advance_230    d)
  else (
    zl (d 10 4) fun v194 =>
    zg 600 v194 <| zl (d 11 (v194 : Int).toNat) fun v197 =>
    if (v197 : Int) < 48 then (
      j_X9_advance_230    d)
    else (
      zl (d 10 4) fun v208 =>
      zg 600 v208 <| zl (d 11 (v208 : Int).toNat) fun v211 =>
      if (57 : Int) < v211 then (
        j_X9_advance_230    d)
      else (
        zl (d 10 4) fun v219 =>
        zl (zw (v219 + 1)) fun v223 =>
        zl (zu d 10 4 v223) fun d =>
        r178  d)))
theorem wl_X9_advance_178F {V : zW} {X : zX}  (hT : zo9 V) (C : zOk V X cX9_advance RX9 2 (zrm 0) none) {rv : Int} {dz : zD} (E : zEnd V X none (rv = 0) dz) {r178 : zD → Option (Int × zD)} (hr178 : ∀ {d : zD}, r178  d = some (rv, dz) → zP V X 2 0 0 178 [some (.ref (zad V 10)), none] [] d)   {d : zD} (h : l_X9_advance_178F  r178  d = some (rv, dz)) : zP V X 2 0 0 178 [some (.ref (zad V 10)), none] [] d := by
  refine zP_aload_n (pc := 178) C (x := zad V 10) dX9_advance_178 rfl rfl ?_
  refine zP_getI (pc := 179) (a := 10) C g9_25 dX9_advance_179 (s_X9 hT) rfl h fun v179 hv179 h => ?_
  refine zP_aload_n (pc := 182) C (x := zad V 10) dX9_advance_182 rfl rfl ?_
  refine zP_getI (pc := 183) (a := 10) C g9_15 dX9_advance_183 (s_X9 hT) rfl h fun v183 hv183 h => ?_
  refine zP_icmp_ge (pc := 186) (tgt := 230) C dX9_advance_186 rfl hv179 hv183 h (fun _ h => ?_) (fun _ h => ?_)
  · exact zP_mask [true, false] (wj_X9_advance_230 hT C E   h)
  · refine zP_aload_n (pc := 189) C (x := zad V 10) dX9_advance_189 rfl rfl ?_
    refine zP_getR (pc := 190) (a := 10) (t := 11) C g9_9 dX9_advance_190 (s_X9 hT) rfl ?_
    refine zP_aload_n (pc := 193) C (x := zad V 10) dX9_advance_193 rfl rfl ?_
    refine zP_getI (pc := 194) (a := 10) C g9_25 dX9_advance_194 (s_X9 hT) rfl h fun v194 hv194 h => ?_
    refine zP_iald (pc := 197) (a := 11) C dX9_advance_197 (s_X9_bytes hT) hv194 h fun v197 hv197 h => ?_
    refine zP_bipush (pc := 198) C dX9_advance_198 rfl ?_
    refine zP_icmp_lt (pc := 200) (tgt := 230) C dX9_advance_200 rfl hv197 (zRk rfl) h (fun _ h => ?_) (fun _ h => ?_)
    · exact zP_mask [true, false] (wj_X9_advance_230 hT C E   h)
    · refine zP_aload_n (pc := 203) C (x := zad V 10) dX9_advance_203 rfl rfl ?_
      refine zP_getR (pc := 204) (a := 10) (t := 11) C g9_9 dX9_advance_204 (s_X9 hT) rfl ?_
      refine zP_aload_n (pc := 207) C (x := zad V 10) dX9_advance_207 rfl rfl ?_
      refine zP_getI (pc := 208) (a := 10) C g9_25 dX9_advance_208 (s_X9 hT) rfl h fun v208 hv208 h => ?_
      refine zP_iald (pc := 211) (a := 11) C dX9_advance_211 (s_X9_bytes hT) hv208 h fun v211 hv211 h => ?_
      refine zP_bipush (pc := 212) C dX9_advance_212 rfl ?_
      refine zP_icmp_gt (pc := 214) (tgt := 230) C dX9_advance_214 rfl hv211 (zRk rfl) h (fun _ h => ?_) (fun _ h => ?_)
      · exact zP_mask [true, false] (wj_X9_advance_230 hT C E   h)
      · refine zP_aload_n (pc := 217) C (x := zad V 10) dX9_advance_217 rfl rfl ?_
        refine zP_dup (pc := 218) C dX9_advance_218 rfl ?_
        refine zP_getI (pc := 219) (a := 10) C g9_25 dX9_advance_219 (s_X9 hT) rfl h fun v219 hv219 h => ?_
        refine zP_iconst (pc := 222) C dX9_advance_222 ?_
        refine zP_iadd (pc := 223) C dX9_advance_223 h fun v223 hv223 h => ?_
        refine zP_putI (pc := 224) (a := 10) C p9_25 dX9_advance_224 (s_X9 hT) rfl hv223 h fun d h => ?_
        refine zP_goto (pc := 227) (tgt := 178) C dX9_advance_227 rfl ?_
        exact zP_mask [true, false] (hr178  h)
def l_X9_advance_178   : Nat → zD → Option (Int × zD)
  | 0, _ => none
  | q + 1, d => l_X9_advance_178F   (l_X9_advance_178   q)  d
theorem wl_X9_advance_178 {V : zW} {X : zX}  (hT : zo9 V) (C : zOk V X cX9_advance RX9 2 (zrm 0) none) {rv : Int} {dz : zD} (E : zEnd V X none (rv = 0) dz)  : ∀ (q : Nat)   {d : zD} (h : l_X9_advance_178   q  d = some (rv, dz)), zP V X 2 0 0 178 [some (.ref (zad V 10)), none] [] d := by
  intro q
  induction q with
  | zero => intro   d h; cases (show (none : Option (Int × zD)) = some (rv, dz) from h)
  | succ q ih =>
    intro   d h
    exact wl_X9_advance_178F hT C E  (fun   h => ih  h)  h
def j_X9_advance_166   (x1 : Int) (d : zD) : Option (Int × zD) :=
  if (x1 : Int) < 48 then (
    j_X9_advance_255   x1 d)
  else (
    if (57 : Int) < x1 then (
      j_X9_advance_255   x1 d)
    else (
      l_X9_advance_178   zF  d))
theorem wj_X9_advance_166 {V : zW} {X : zX}  (hT : zo9 V) (C : zOk V X cX9_advance RX9 2 (zrm 0) none) {rv : Int} {dz : zD} (E : zEnd V X none (rv = 0) dz)  {x1 : Int} (hx1 : zR x1) {d : zD} (h : j_X9_advance_166   x1 d = some (rv, dz)) : zP V X 2 0 0 166 [some (.ref (zad V 10)), some (.int (zI x1))] [] d := by
  refine zP_iload_n (pc := 166) C (x := zI x1) dX9_advance_166 rfl rfl ?_
  refine zP_bipush (pc := 167) C dX9_advance_167 rfl ?_
  refine zP_icmp_lt (pc := 169) (tgt := 255) C dX9_advance_169 rfl hx1 (zRk rfl) h (fun _ h => ?_) (fun _ h => ?_)
  · exact zP_mask [true, true] (wj_X9_advance_255 hT C E  hx1 h)
  · refine zP_iload_n (pc := 172) C (x := zI x1) dX9_advance_172 rfl rfl ?_
    refine zP_bipush (pc := 173) C dX9_advance_173 rfl ?_
    refine zP_icmp_gt (pc := 175) (tgt := 255) C dX9_advance_175 rfl hx1 (zRk rfl) h (fun _ h => ?_) (fun _ h => ?_)
    · exact zP_mask [true, true] (wj_X9_advance_255 hT C E  hx1 h)
    · exact zP_mask [true, false] (wl_X9_advance_178 hT C E  zF  h)
def l_X9_advance_114F  (r114 : zD → Option (Int × zD)) (d : zD) : Option (Int × zD) :=
  zl (d 10 4) fun v115 =>
  zl (d 10 1) fun v119 =>
  if (v119 : Int) ≤ v115 then (
    some (0, d))
  else (
    zl (d 10 4) fun v130 =>
    zg 600 v130 <| zl (d 11 (v130 : Int).toNat) fun v133 =>
    if (v133 : Int) < 97 then (
      some (0, d))
    else (
      zl (d 10 4) fun v144 =>
      zg 600 v144 <| zl (d 11 (v144 : Int).toNat) fun v147 =>
      if (122 : Int) < v147 then (
        some (0, d))
      else (
        zl (d 10 4) fun v155 =>
        zl (zw (v155 + 1)) fun v159 =>
        zl (zu d 10 4 v159) fun d =>
        r114  d)))
theorem wl_X9_advance_114F {V : zW} {X : zX}  (hT : zo9 V) (C : zOk V X cX9_advance RX9 2 (zrm 0) none) {rv : Int} {dz : zD} (E : zEnd V X none (rv = 0) dz) {r114 : zD → Option (Int × zD)} (hr114 : ∀ {d : zD}, r114  d = some (rv, dz) → zP V X 2 0 0 114 [some (.ref (zad V 10)), none] [] d)   {d : zD} (h : l_X9_advance_114F  r114  d = some (rv, dz)) : zP V X 2 0 0 114 [some (.ref (zad V 10)), none] [] d := by
  refine zP_aload_n (pc := 114) C (x := zad V 10) dX9_advance_114 rfl rfl ?_
  refine zP_getI (pc := 115) (a := 10) C g9_25 dX9_advance_115 (s_X9 hT) rfl h fun v115 hv115 h => ?_
  refine zP_aload_n (pc := 118) C (x := zad V 10) dX9_advance_118 rfl rfl ?_
  refine zP_getI (pc := 119) (a := 10) C g9_15 dX9_advance_119 (s_X9 hT) rfl h fun v119 hv119 h => ?_
  refine zP_icmp_ge (pc := 122) (tgt := 270) C dX9_advance_122 rfl hv115 hv119 h (fun _ h => ?_) (fun _ h => ?_)
  · exact zP_vret (pc := 270) C E dX9_advance_270 h
  · refine zP_aload_n (pc := 125) C (x := zad V 10) dX9_advance_125 rfl rfl ?_
    refine zP_getR (pc := 126) (a := 10) (t := 11) C g9_9 dX9_advance_126 (s_X9 hT) rfl ?_
    refine zP_aload_n (pc := 129) C (x := zad V 10) dX9_advance_129 rfl rfl ?_
    refine zP_getI (pc := 130) (a := 10) C g9_25 dX9_advance_130 (s_X9 hT) rfl h fun v130 hv130 h => ?_
    refine zP_iald (pc := 133) (a := 11) C dX9_advance_133 (s_X9_bytes hT) hv130 h fun v133 hv133 h => ?_
    refine zP_bipush (pc := 134) C dX9_advance_134 rfl ?_
    refine zP_icmp_lt (pc := 136) (tgt := 270) C dX9_advance_136 rfl hv133 (zRk rfl) h (fun _ h => ?_) (fun _ h => ?_)
    · exact zP_vret (pc := 270) C E dX9_advance_270 h
    · refine zP_aload_n (pc := 139) C (x := zad V 10) dX9_advance_139 rfl rfl ?_
      refine zP_getR (pc := 140) (a := 10) (t := 11) C g9_9 dX9_advance_140 (s_X9 hT) rfl ?_
      refine zP_aload_n (pc := 143) C (x := zad V 10) dX9_advance_143 rfl rfl ?_
      refine zP_getI (pc := 144) (a := 10) C g9_25 dX9_advance_144 (s_X9 hT) rfl h fun v144 hv144 h => ?_
      refine zP_iald (pc := 147) (a := 11) C dX9_advance_147 (s_X9_bytes hT) hv144 h fun v147 hv147 h => ?_
      refine zP_bipush (pc := 148) C dX9_advance_148 rfl ?_
      refine zP_icmp_gt (pc := 150) (tgt := 270) C dX9_advance_150 rfl hv147 (zRk rfl) h (fun _ h => ?_) (fun _ h => ?_)
      · exact zP_vret (pc := 270) C E dX9_advance_270 h
      · refine zP_aload_n (pc := 153) C (x := zad V 10) dX9_advance_153 rfl rfl ?_
        refine zP_dup (pc := 154) C dX9_advance_154 rfl ?_
        refine zP_getI (pc := 155) (a := 10) C g9_25 dX9_advance_155 (s_X9 hT) rfl h fun v155 hv155 h => ?_
        refine zP_iconst (pc := 158) C dX9_advance_158 ?_
        refine zP_iadd (pc := 159) C dX9_advance_159 h fun v159 hv159 h => ?_
        refine zP_putI (pc := 160) (a := 10) C p9_25 dX9_advance_160 (s_X9 hT) rfl hv159 h fun d h => ?_
        refine zP_goto (pc := 163) (tgt := 114) C dX9_advance_163 rfl ?_
        exact zP_mask [true, false] (hr114  h)
def l_X9_advance_114   : Nat → zD → Option (Int × zD)
  | 0, _ => none
  | q + 1, d => l_X9_advance_114F   (l_X9_advance_114   q)  d
theorem wl_X9_advance_114 {V : zW} {X : zX}  (hT : zo9 V) (C : zOk V X cX9_advance RX9 2 (zrm 0) none) {rv : Int} {dz : zD} (E : zEnd V X none (rv = 0) dz)  : ∀ (q : Nat)   {d : zD} (h : l_X9_advance_114   q  d = some (rv, dz)), zP V X 2 0 0 114 [some (.ref (zad V 10)), none] [] d := by
  intro q
  induction q with
  | zero => intro   d h; cases (show (none : Option (Int × zD)) = some (rv, dz) from h)
  | succ q ih =>
    intro   d h
    exact wl_X9_advance_114F hT C E  (fun   h => ih  h)  h
def j_X9_advance_52   (d : zD) : Option (Int × zD) :=
  zl (d 10 4) fun v54 =>
  zl (zu d 10 3 v54) fun d =>
  zl (d 10 4) fun v61 =>
  zl (d 10 1) fun v65 =>
  if (v61 : Int) < v65 then (
    zl (d 10 4) fun v82 =>
    zg 600 v82 <| zl (d 11 (v82 : Int).toNat) fun v85 =>
    zl (d 10 4) fun v89 =>
    zl (zw (v89 + 1)) fun v93 =>
    zl (zu d 10 4 v93) fun d =>
    if (v85 : Int) < 97 then (
      j_X9_advance_166   v85 d)
    else (
      if (122 : Int) < v85 then (
        j_X9_advance_166   v85 d)
      else (
        zl (zu d 10 2 0) fun d =>
        l_X9_advance_114   zF  d)))
  else (
    zl (zu d 10 2 3) fun d =>
    some (0, d))
theorem wj_X9_advance_52 {V : zW} {X : zX}  (hT : zo9 V) (C : zOk V X cX9_advance RX9 2 (zrm 0) none) {rv : Int} {dz : zD} (E : zEnd V X none (rv = 0) dz)    {d : zD} (h : j_X9_advance_52    d = some (rv, dz)) : zP V X 2 0 0 52 [some (.ref (zad V 10)), none] [] d := by
  refine zP_aload_n (pc := 52) C (x := zad V 10) dX9_advance_52 rfl rfl ?_
  refine zP_aload_n (pc := 53) C (x := zad V 10) dX9_advance_53 rfl rfl ?_
  refine zP_getI (pc := 54) (a := 10) C g9_25 dX9_advance_54 (s_X9 hT) rfl h fun v54 hv54 h => ?_
  refine zP_putI (pc := 57) (a := 10) C p9_22 dX9_advance_57 (s_X9 hT) rfl hv54 h fun d h => ?_
  refine zP_aload_n (pc := 60) C (x := zad V 10) dX9_advance_60 rfl rfl ?_
  refine zP_getI (pc := 61) (a := 10) C g9_25 dX9_advance_61 (s_X9 hT) rfl h fun v61 hv61 h => ?_
  refine zP_aload_n (pc := 64) C (x := zad V 10) dX9_advance_64 rfl rfl ?_
  refine zP_getI (pc := 65) (a := 10) C g9_15 dX9_advance_65 (s_X9 hT) rfl h fun v65 hv65 h => ?_
  refine zP_icmp_lt (pc := 68) (tgt := 77) C dX9_advance_68 rfl hv61 hv65 h (fun _ h => ?_) (fun _ h => ?_)
  · refine zP_aload_n (pc := 77) C (x := zad V 10) dX9_advance_77 rfl rfl ?_
    refine zP_getR (pc := 78) (a := 10) (t := 11) C g9_9 dX9_advance_78 (s_X9 hT) rfl ?_
    refine zP_aload_n (pc := 81) C (x := zad V 10) dX9_advance_81 rfl rfl ?_
    refine zP_getI (pc := 82) (a := 10) C g9_25 dX9_advance_82 (s_X9 hT) rfl h fun v82 hv82 h => ?_
    refine zP_iald (pc := 85) (a := 11) C dX9_advance_85 (s_X9_bytes hT) hv82 h fun v85 hv85 h => ?_
    refine zP_istore_n (pc := 86) C (L' := [some (.ref (zad V 10)), some (.int (zI v85))]) dX9_advance_86 rfl (Nat.le_of_ble_eq_true rfl) rfl rfl ?_
    refine zP_aload_n (pc := 87) C (x := zad V 10) dX9_advance_87 rfl rfl ?_
    refine zP_dup (pc := 88) C dX9_advance_88 rfl ?_
    refine zP_getI (pc := 89) (a := 10) C g9_25 dX9_advance_89 (s_X9 hT) rfl h fun v89 hv89 h => ?_
    refine zP_iconst (pc := 92) C dX9_advance_92 ?_
    refine zP_iadd (pc := 93) C dX9_advance_93 h fun v93 hv93 h => ?_
    refine zP_putI (pc := 94) (a := 10) C p9_25 dX9_advance_94 (s_X9 hT) rfl hv93 h fun d h => ?_
    refine zP_iload_n (pc := 97) C (x := zI v85) dX9_advance_97 rfl rfl ?_
    refine zP_bipush (pc := 98) C dX9_advance_98 rfl ?_
    refine zP_icmp_lt (pc := 100) (tgt := 166) C dX9_advance_100 rfl hv85 (zRk rfl) h (fun _ h => ?_) (fun _ h => ?_)
    · exact zP_mask [true, true] (wj_X9_advance_166 hT C E  hv85 h)
    · refine zP_iload_n (pc := 103) C (x := zI v85) dX9_advance_103 rfl rfl ?_
      refine zP_bipush (pc := 104) C dX9_advance_104 rfl ?_
      refine zP_icmp_gt (pc := 106) (tgt := 166) C dX9_advance_106 rfl hv85 (zRk rfl) h (fun _ h => ?_) (fun _ h => ?_)
      · exact zP_mask [true, true] (wj_X9_advance_166 hT C E  hv85 h)
      · refine zP_aload_n (pc := 109) C (x := zad V 10) dX9_advance_109 rfl rfl ?_
        refine zP_iconst (pc := 110) C dX9_advance_110 ?_
        refine zP_putI (pc := 111) (a := 10) C p9_19 dX9_advance_111 (s_X9 hT) rfl (zRk rfl) h fun d h => ?_
        exact zP_mask [true, false] (wl_X9_advance_114 hT C E  zF  h)
  · refine zP_aload_n (pc := 71) C (x := zad V 10) dX9_advance_71 rfl rfl ?_
    refine zP_iconst (pc := 72) C dX9_advance_72 ?_
    refine zP_putI (pc := 73) (a := 10) C p9_19 dX9_advance_73 (s_X9 hT) rfl (zRk rfl) h fun d h => ?_
    exact zP_vret (pc := 76) C E dX9_advance_76 h
def j_X9_advance_39  (r0 : zD → Option (Int × zD)) (d : zD) : Option (Int × zD) :=
  zl (d 10 4) fun v41 =>
  zl (zw (v41 + 1)) fun v45 =>
  zl (zu d 10 4 v45) fun d =>
  r0  d
theorem wj_X9_advance_39 {V : zW} {X : zX}  (hT : zo9 V) (C : zOk V X cX9_advance RX9 2 (zrm 0) none) {rv : Int} {dz : zD} (E : zEnd V X none (rv = 0) dz) {r0 : zD → Option (Int × zD)} (hr0 : ∀ {d : zD}, r0  d = some (rv, dz) → zP V X 2 0 0 0 [some (.ref (zad V 10)), none] [] d)   {d : zD} (h : j_X9_advance_39  r0  d = some (rv, dz)) : zP V X 2 0 0 39 [some (.ref (zad V 10)), none] [] d := by
  refine zP_aload_n (pc := 39) C (x := zad V 10) dX9_advance_39 rfl rfl ?_
  refine zP_dup (pc := 40) C dX9_advance_40 rfl ?_
  refine zP_getI (pc := 41) (a := 10) C g9_25 dX9_advance_41 (s_X9 hT) rfl h fun v41 hv41 h => ?_
  refine zP_iconst (pc := 44) C dX9_advance_44 ?_
  refine zP_iadd (pc := 45) C dX9_advance_45 h fun v45 hv45 h => ?_
  refine zP_putI (pc := 46) (a := 10) C p9_25 dX9_advance_46 (s_X9 hT) rfl hv45 h fun d h => ?_
  refine zP_goto (pc := 49) (tgt := 0) C dX9_advance_49 rfl ?_
  exact zP_mask [true, false] (hr0  h)
def l_X9_advance_0F  (r0 : zD → Option (Int × zD)) (d : zD) : Option (Int × zD) :=
  zl (d 10 4) fun v1 =>
  zl (d 10 1) fun v5 =>
  if (v5 : Int) ≤ v1 then (
    j_X9_advance_52    d)
  else (
    zl (d 10 4) fun v16 =>
    zg 600 v16 <| zl (d 11 (v16 : Int).toNat) fun v19 =>
    if (v19 : Int) = 32 then (
      j_X9_advance_39  r0  d)
    else (
      zl (d 10 4) fun v30 =>
      zg 600 v30 <| zl (d 11 (v30 : Int).toNat) fun v33 =>
      if (v33 : Int) = 10 then (
        j_X9_advance_39  r0  d)
      else (
        j_X9_advance_52    d)))
theorem wl_X9_advance_0F {V : zW} {X : zX}  (hT : zo9 V) (C : zOk V X cX9_advance RX9 2 (zrm 0) none) {rv : Int} {dz : zD} (E : zEnd V X none (rv = 0) dz) {r0 : zD → Option (Int × zD)} (hr0 : ∀ {d : zD}, r0  d = some (rv, dz) → zP V X 2 0 0 0 [some (.ref (zad V 10)), none] [] d)   {d : zD} (h : l_X9_advance_0F  r0  d = some (rv, dz)) : zP V X 2 0 0 0 [some (.ref (zad V 10)), none] [] d := by
  refine zP_aload_n (pc := 0) C (x := zad V 10) dX9_advance_0 rfl rfl ?_
  refine zP_getI (pc := 1) (a := 10) C g9_25 dX9_advance_1 (s_X9 hT) rfl h fun v1 hv1 h => ?_
  refine zP_aload_n (pc := 4) C (x := zad V 10) dX9_advance_4 rfl rfl ?_
  refine zP_getI (pc := 5) (a := 10) C g9_15 dX9_advance_5 (s_X9 hT) rfl h fun v5 hv5 h => ?_
  refine zP_icmp_ge (pc := 8) (tgt := 52) C dX9_advance_8 rfl hv1 hv5 h (fun _ h => ?_) (fun _ h => ?_)
  · exact zP_mask [true, false] (wj_X9_advance_52 hT C E   h)
  · refine zP_aload_n (pc := 11) C (x := zad V 10) dX9_advance_11 rfl rfl ?_
    refine zP_getR (pc := 12) (a := 10) (t := 11) C g9_9 dX9_advance_12 (s_X9 hT) rfl ?_
    refine zP_aload_n (pc := 15) C (x := zad V 10) dX9_advance_15 rfl rfl ?_
    refine zP_getI (pc := 16) (a := 10) C g9_25 dX9_advance_16 (s_X9 hT) rfl h fun v16 hv16 h => ?_
    refine zP_iald (pc := 19) (a := 11) C dX9_advance_19 (s_X9_bytes hT) hv16 h fun v19 hv19 h => ?_
    refine zP_bipush (pc := 20) C dX9_advance_20 rfl ?_
    refine zP_icmp_eq (pc := 22) (tgt := 39) C dX9_advance_22 rfl hv19 (zRk rfl) h (fun _ h => ?_) (fun _ h => ?_)
    · exact zP_mask [true, false] (wj_X9_advance_39 hT C E hr0  h)
    · refine zP_aload_n (pc := 25) C (x := zad V 10) dX9_advance_25 rfl rfl ?_
      refine zP_getR (pc := 26) (a := 10) (t := 11) C g9_9 dX9_advance_26 (s_X9 hT) rfl ?_
      refine zP_aload_n (pc := 29) C (x := zad V 10) dX9_advance_29 rfl rfl ?_
      refine zP_getI (pc := 30) (a := 10) C g9_25 dX9_advance_30 (s_X9 hT) rfl h fun v30 hv30 h => ?_
      refine zP_iald (pc := 33) (a := 11) C dX9_advance_33 (s_X9_bytes hT) hv30 h fun v33 hv33 h => ?_
      refine zP_bipush (pc := 34) C dX9_advance_34 rfl ?_
      refine zP_icmp_ne (pc := 36) (tgt := 52) C dX9_advance_36 rfl hv33 (zRk rfl) h (fun _ h => ?_) (fun _ h => ?_)
      · exact zP_mask [true, false] (wj_X9_advance_52 hT C E   h)
      · exact zP_mask [true, false] (wj_X9_advance_39 hT C E hr0  h)
def l_X9_advance_0   : Nat → zD → Option (Int × zD)
  | 0, _ => none
  | q + 1, d => l_X9_advance_0F   (l_X9_advance_0   q)  d
theorem wl_X9_advance_0 {V : zW} {X : zX}  (hT : zo9 V) (C : zOk V X cX9_advance RX9 2 (zrm 0) none) {rv : Int} {dz : zD} (E : zEnd V X none (rv = 0) dz)  : ∀ (q : Nat)   {d : zD} (h : l_X9_advance_0   q  d = some (rv, dz)), zP V X 2 0 0 0 [some (.ref (zad V 10)), none] [] d := by
  intro q
  induction q with
  | zero => intro   d h; cases (show (none : Option (Int × zD)) = some (rv, dz) from h)
  | succ q ih =>
    intro   d h
    exact wl_X9_advance_0F hT C E  (fun   h => ih  h)  h
def f_X9_advance  (d : zD) : Option (Int × zD) :=
  l_X9_advance_0   zF  d
theorem t_X9_advance {V : zW}  (hT : zo9 V)   {d dz : zD} {rv : Int} (h : f_X9_advance   d = some (rv, dz)) : zMet V 0 yX9_advance cX9_advance 2 none [.ref (zad V 10)] d none (rv = 0) dz := by
  refine zMet_by RX9 pn9 rfl (Nat.le_of_ble_eq_true rfl) [some (.ref (zad V 10)), none] rfl fun X C E => ?_
  exact zP_mask [true, false] (wl_X9_advance_0 hT C E  zF  h)
def f_X9_begin  (d : zD) : Option (Int × zD) :=
  zl (zu d 10 5 0) fun d =>
  zl (zu d 10 6 (-1)) fun d =>
  zl (zu d 10 4 0) fun d =>
  zc (f_X9_advance   d) fun _ d =>
  some (0, d)
theorem t_X9_begin {V : zW}  (hT : zo9 V)   {d dz : zD} {rv : Int} (h : f_X9_begin   d = some (rv, dz)) : zMet V 1 yX9_begin cX9_begin 1 none [.ref (zad V 10)] d none (rv = 0) dz := by
  refine zMet_by RX9 pn9 rfl (Nat.le_of_ble_eq_true rfl) [some (.ref (zad V 10))] rfl fun X C E => ?_
  refine zP_aload_n (pc := 0) C (x := zad V 10) dX9_begin_0 rfl rfl ?_
  refine zP_iconst (pc := 1) C dX9_begin_1 ?_
  refine zP_putI (pc := 2) (a := 10) C p9_28 dX9_begin_2 (s_X9 hT) rfl (zRk rfl) h fun d h => ?_
  refine zP_aload_n (pc := 5) C (x := zad V 10) dX9_begin_5 rfl rfl ?_
  refine zP_iconst (pc := 6) C dX9_begin_6 ?_
  refine zP_putI (pc := 7) (a := 10) C p9_31 dX9_begin_7 (s_X9 hT) rfl (zRk rfl) h fun d h => ?_
  refine zP_aload_n (pc := 10) C (x := zad V 10) dX9_begin_10 rfl rfl ?_
  refine zP_iconst (pc := 11) C dX9_begin_11 ?_
  refine zP_putI (pc := 12) (a := 10) C p9_25 dX9_begin_12 (s_X9 hT) rfl (zRk rfl) h fun d h => ?_
  refine zP_aload_n (pc := 15) C (x := zad V 10) dX9_begin_15 rfl rfl ?_
  obtain ⟨_, d1, hc, h⟩ := zc_h h
  refine zP_callV (pc := 16) (As := []) (st := []) C m9_38 dX9_begin_16 (s_X9 hT) rfl (t_X9_advance hT  hc) ⟨Nat.le_of_ble_eq_true rfl, Nat.le_of_ble_eq_true rfl⟩ rfl (Nat.le_of_ble_eq_true rfl) ⟨Nat.zero_le _, Nat.zero_le _⟩ fun hw => ?_
  clear hc hw
  show zP V X 1 0 0 19 _ [] d1
  revert h
  generalize d1 = d
  intro h
  exact zP_vret (pc := 19) C E dX9_begin_19 h
def f_X9_isAtEnd  (d : zD) : Option (Int × zD) :=
  zl (d 10 2) fun v1 =>
  if (v1 : Int) = 3 then (
    some (1, d))
  else (
    some (0, d))
theorem t_X9_isAtEnd {V : zW}  (hT : zo9 V)   {d dz : zD} {rv : Int} (h : f_X9_isAtEnd   d = some (rv, dz)) : zMet V 0 yX9_isAtEnd cX9_isAtEnd 1 (some .boolean) [.ref (zad V 10)] d (some (.int (zI rv))) (rv = 0 ∨ rv = 1) dz := by
  refine zMet_by RX9 pn9 rfl (Nat.le_of_ble_eq_true rfl) [some (.ref (zad V 10))] rfl fun X C E => ?_
  refine zP_aload_n (pc := 0) C (x := zad V 10) dX9_isAtEnd_0 rfl rfl ?_
  refine zP_getI (pc := 1) (a := 10) C g9_19 dX9_isAtEnd_1 (s_X9 hT) rfl h fun v1 hv1 h => ?_
  refine zP_iconst (pc := 4) C dX9_isAtEnd_4 ?_
  refine zP_icmp_ne (pc := 5) (tgt := 12) C dX9_isAtEnd_5 rfl hv1 (zRk rfl) h (fun _ h => ?_) (fun _ h => ?_)
  · refine zP_iconst (pc := 12) C dX9_isAtEnd_12 ?_
    exact zP_zret (pc := 13) C E dX9_isAtEnd_13 (Or.inl rfl) h
  · refine zP_iconst (pc := 8) C dX9_isAtEnd_8 ?_
    refine zP_goto (pc := 9) (tgt := 13) C dX9_isAtEnd_9 rfl ?_
    exact zP_zret (pc := 13) C E dX9_isAtEnd_13 (Or.inr rfl) h
def l_X9_isAtWord_27F (t1 : Nat) (r27 : Int → zD → Option (Int × zD)) (x2 : Int) (d : zD) : Option (Int × zD) :=
  zl (zslen t1 : Int) fun v29 =>
  if (v29 : Int) ≤ x2 then (
    some (1, d))
  else (
    zl (d 10 3) fun v40 =>
    zl (zw (v40 + x2)) fun v44 =>
    zg 600 v44 <| zl (d 11 (v44 : Int).toNat) fun v45 =>
    zg (zslen t1) x2 <| zl (zsch t1 (x2 : Int).toNat) fun v48 =>
    if (v45 : Int) = v48 then (
      zl (zw (x2 + 1)) fun v56 =>
      r27 v56 d)
    else (
      some (0, d)))
theorem wl_X9_isAtWord_27F {V : zW} {X : zX} {t1 : Nat} (hT : zo9 V) (ht1 : zbad t1 < 1) (C : zOk V X cX9_isAtWord RX9 3 (zrm 7) (some .boolean)) {rv : Int} {dz : zD} (E : zEnd V X (some (.int (zI rv))) (rv = 0 ∨ rv = 1) dz) {r27 : Int → zD → Option (Int × zD)} (hr27 : ∀ {x2 : Int} {d : zD}, zR x2 → r27 x2 d = some (rv, dz) → zP V X 3 0 0 27 [some (.ref (zad V 10)), some (.ref (zsa V t1)), some (.int (zI x2))] [] d) {x2 : Int} (hx2 : zR x2) {d : zD} (h : l_X9_isAtWord_27F t1 r27 x2 d = some (rv, dz)) : zP V X 3 0 0 27 [some (.ref (zad V 10)), some (.ref (zsa V t1)), some (.int (zI x2))] [] d := by
  refine zP_iload_n (pc := 27) C (x := zI x2) dX9_isAtWord_27 rfl rfl ?_
  refine zP_aload_n (pc := 28) C (x := zsa V t1) dX9_isAtWord_28 rfl rfl ?_
  refine zP_slen (pc := 29) (t := t1) C sl9_41 ht1 dX9_isAtWord_29 ⟨Nat.le_of_ble_eq_true rfl, Nat.le_of_ble_eq_true rfl⟩ (Nat.le_of_ble_eq_true rfl) ⟨Nat.zero_le _, Nat.zero_le _⟩ h fun v29 hv29 h => ?_
  refine zP_icmp_ge (pc := 32) (tgt := 62) C dX9_isAtWord_32 rfl hx2 hv29 h (fun _ h => ?_) (fun _ h => ?_)
  · refine zP_iconst (pc := 62) C dX9_isAtWord_62 ?_
    exact zP_zret (pc := 63) C E dX9_isAtWord_63 (Or.inr rfl) h
  · refine zP_aload_n (pc := 35) C (x := zad V 10) dX9_isAtWord_35 rfl rfl ?_
    refine zP_getR (pc := 36) (a := 10) (t := 11) C g9_9 dX9_isAtWord_36 (s_X9 hT) rfl ?_
    refine zP_aload_n (pc := 39) C (x := zad V 10) dX9_isAtWord_39 rfl rfl ?_
    refine zP_getI (pc := 40) (a := 10) C g9_22 dX9_isAtWord_40 (s_X9 hT) rfl h fun v40 hv40 h => ?_
    refine zP_iload_n (pc := 43) C (x := zI x2) dX9_isAtWord_43 rfl rfl ?_
    refine zP_iadd (pc := 44) C dX9_isAtWord_44 h fun v44 hv44 h => ?_
    refine zP_iald (pc := 45) (a := 11) C dX9_isAtWord_45 (s_X9_bytes hT) hv44 h fun v45 hv45 h => ?_
    refine zP_aload_n (pc := 46) C (x := zsa V t1) dX9_isAtWord_46 rfl rfl ?_
    refine zP_iload_n (pc := 47) C (x := zI x2) dX9_isAtWord_47 rfl rfl ?_
    refine zP_sch (pc := 48) (t := t1) C sc9_46 ht1 dX9_isAtWord_48 hx2 ⟨Nat.le_of_ble_eq_true rfl, Nat.le_of_ble_eq_true rfl⟩ (Nat.le_of_ble_eq_true rfl) ⟨Nat.zero_le _, Nat.zero_le _⟩ h fun v48 hv48 h => ?_
    refine zP_icmp_eq (pc := 51) (tgt := 56) C dX9_isAtWord_51 rfl hv45 hv48 h (fun _ h => ?_) (fun _ h => ?_)
    · refine zP_iinc (pc := 56) C (x := x2) dX9_isAtWord_56 rfl (Nat.le_of_ble_eq_true rfl) rfl h fun v56 hv56 h => ?_
      show zP V X 3 0 0 59 [some (.ref (zad V 10)), some (.ref (zsa V t1)), some (.int (zI v56))] _ _
      refine zP_goto (pc := 59) (tgt := 27) C dX9_isAtWord_59 rfl ?_
      exact zP_mask [true, true, true] (hr27 hv56 h)
    · refine zP_iconst (pc := 54) C dX9_isAtWord_54 ?_
      exact zP_zret (pc := 55) C E dX9_isAtWord_55 (Or.inl rfl) h
def l_X9_isAtWord_27 (t1 : Nat)  : Nat → Int → zD → Option (Int × zD)
  | 0, _, _ => none
  | q + 1, x2, d => l_X9_isAtWord_27F t1  (l_X9_isAtWord_27 t1  q) x2 d
theorem wl_X9_isAtWord_27 {V : zW} {X : zX} {t1 : Nat} (hT : zo9 V) (ht1 : zbad t1 < 1) (C : zOk V X cX9_isAtWord RX9 3 (zrm 7) (some .boolean)) {rv : Int} {dz : zD} (E : zEnd V X (some (.int (zI rv))) (rv = 0 ∨ rv = 1) dz)  : ∀ (q : Nat) {x2 : Int} (hx2 : zR x2) {d : zD} (h : l_X9_isAtWord_27 t1  q x2 d = some (rv, dz)), zP V X 3 0 0 27 [some (.ref (zad V 10)), some (.ref (zsa V t1)), some (.int (zI x2))] [] d := by
  intro q
  induction q with
  | zero => intro x2 hx2 d h; cases (show (none : Option (Int × zD)) = some (rv, dz) from h)
  | succ q ih =>
    intro x2 hx2 d h
    exact wl_X9_isAtWord_27F hT ht1 C E  (fun  hx2 h => ih hx2 h) hx2 h
def f_X9_isAtWord (t1 : Nat) (d : zD) : Option (Int × zD) :=
  zl (d 10 2) fun v1 =>
  if (v1 : Int) = 0 then (
    zl (d 10 4) fun v8 =>
    zl (d 10 3) fun v12 =>
    zl (zw (v8 - v12)) fun v15 =>
    zl (zslen t1 : Int) fun v17 =>
    if (v15 : Int) = v17 then (
      l_X9_isAtWord_27 t1  zF 0 d)
    else (
      some (0, d)))
  else (
    some (0, d))
theorem t_X9_isAtWord {V : zW} {t1 : Nat} (hT : zo9 V) (ht1 : zbad t1 < 1)   {d dz : zD} {rv : Int} (h : f_X9_isAtWord t1  d = some (rv, dz)) : zMet V 7 yX9_isAtWord cX9_isAtWord 3 (some .boolean) [.ref (zad V 10), .ref (zsa V t1)] d (some (.int (zI rv))) (rv = 0 ∨ rv = 1) dz := by
  refine zMet_by RX9 pn9 rfl (Nat.le_of_ble_eq_true rfl) [some (.ref (zad V 10)), some (.ref (zsa V t1)), none] rfl fun X C E => ?_
  refine zP_aload_n (pc := 0) C (x := zad V 10) dX9_isAtWord_0 rfl rfl ?_
  refine zP_getI (pc := 1) (a := 10) C g9_19 dX9_isAtWord_1 (s_X9 hT) rfl h fun v1 hv1 h => ?_
  refine zP_if_ne (pc := 4) (tgt := 23) C dX9_isAtWord_4 rfl hv1 h (fun _ h => ?_) (fun _ h => ?_)
  · refine zP_iconst (pc := 23) C dX9_isAtWord_23 ?_
    exact zP_zret (pc := 24) C E dX9_isAtWord_24 (Or.inl rfl) h
  · refine zP_aload_n (pc := 7) C (x := zad V 10) dX9_isAtWord_7 rfl rfl ?_
    refine zP_getI (pc := 8) (a := 10) C g9_25 dX9_isAtWord_8 (s_X9 hT) rfl h fun v8 hv8 h => ?_
    refine zP_aload_n (pc := 11) C (x := zad V 10) dX9_isAtWord_11 rfl rfl ?_
    refine zP_getI (pc := 12) (a := 10) C g9_22 dX9_isAtWord_12 (s_X9 hT) rfl h fun v12 hv12 h => ?_
    refine zP_isub (pc := 15) C dX9_isAtWord_15 h fun v15 hv15 h => ?_
    refine zP_aload_n (pc := 16) C (x := zsa V t1) dX9_isAtWord_16 rfl rfl ?_
    refine zP_slen (pc := 17) (t := t1) C sl9_41 ht1 dX9_isAtWord_17 ⟨Nat.le_of_ble_eq_true rfl, Nat.le_of_ble_eq_true rfl⟩ (Nat.le_of_ble_eq_true rfl) ⟨Nat.zero_le _, Nat.zero_le _⟩ h fun v17 hv17 h => ?_
    refine zP_icmp_eq (pc := 20) (tgt := 25) C dX9_isAtWord_20 rfl hv15 hv17 h (fun _ h => ?_) (fun _ h => ?_)
    · refine zP_iconst (pc := 25) C dX9_isAtWord_25 ?_
      refine zP_istore_n (pc := 26) C (L' := [some (.ref (zad V 10)), some (.ref (zsa V t1)), some (.int (zI 0))]) dX9_isAtWord_26 rfl (Nat.le_of_ble_eq_true rfl) rfl rfl ?_
      exact zP_mask [true, true, true] (wl_X9_isAtWord_27 hT ht1 C E  zF (zRk rfl) h)
    · refine zP_iconst (pc := 23) C dX9_isAtWord_23 ?_
      exact zP_zret (pc := 24) C E dX9_isAtWord_24 (Or.inl rfl) h
def f_X9_fail  (x1 : Int) (d : zD) : Option (Int × zD) :=
  zl (zu d 10 5 x1) fun d =>
  zl (d 10 3) fun v7 =>
  zl (zu d 10 6 v7) fun d =>
  some (0, d)
theorem t_X9_fail {V : zW}  (hT : zo9 V) {x1 : Int} (hx1 : zR x1) {d dz : zD} {rv : Int} (h : f_X9_fail  x1 d = some (rv, dz)) : zMet V 0 yX9_fail cX9_fail 2 (some .boolean) [.ref (zad V 10), .int (zI x1)] d (some (.int (zI rv))) (rv = 0 ∨ rv = 1) dz := by
  refine zMet_by RX9 pn9 rfl (Nat.le_of_ble_eq_true rfl) [some (.ref (zad V 10)), some (.int (zI x1))] rfl fun X C E => ?_
  refine zP_aload_n (pc := 0) C (x := zad V 10) dX9_fail_0 rfl rfl ?_
  refine zP_iload_n (pc := 1) C (x := zI x1) dX9_fail_1 rfl rfl ?_
  refine zP_putI (pc := 2) (a := 10) C p9_28 dX9_fail_2 (s_X9 hT) rfl hx1 h fun d h => ?_
  refine zP_aload_n (pc := 5) C (x := zad V 10) dX9_fail_5 rfl rfl ?_
  refine zP_aload_n (pc := 6) C (x := zad V 10) dX9_fail_6 rfl rfl ?_
  refine zP_getI (pc := 7) (a := 10) C g9_22 dX9_fail_7 (s_X9 hT) rfl h fun v7 hv7 h => ?_
  refine zP_putI (pc := 10) (a := 10) C p9_31 dX9_fail_10 (s_X9 hT) rfl hv7 h fun d h => ?_
  refine zP_iconst (pc := 13) C dX9_fail_13 ?_
  exact zP_zret (pc := 14) C E dX9_fail_14 (Or.inl rfl) h
def l_X9_nameHere_41F  (r41 : Int → Int → zD → Option (Int × zD)) (x1 x2 : Int) (d : zD) : Option (Int × zD) :=
  zl (d 10 3) fun v43 =>
  if (x2 : Int) < v43 then (
    some (x1, d))
  else (
    zl (zshl x1 5) fun v51 =>
    zg 600 x2 <| zl (d 11 (x2 : Int).toNat) fun v57 =>
    zl (zw (v57 - 97)) fun v60 =>
    zl (zw (v60 + 1)) fun v62 =>
    zl (zor v51 v62) fun v63 =>
    zl (zw (x2 + (-1))) fun v65 =>
    r41 v63 v65 d)
theorem wl_X9_nameHere_41F {V : zW} {X : zX}  (hT : zo9 V) (C : zOk V X cX9_nameHere RX9 3 (zrm 8) (some .int)) {rv : Int} {dz : zD} (E : zEnd V X (some (.int (zI rv))) (zR rv) dz) {r41 : Int → Int → zD → Option (Int × zD)} (hr41 : ∀ {x1 x2 : Int} {d : zD}, zR x1 → zR x2 → r41 x1 x2 d = some (rv, dz) → zP V X 3 0 0 41 [some (.ref (zad V 10)), some (.int (zI x1)), some (.int (zI x2))] [] d) {x1 x2 : Int} (hx1 : zR x1) (hx2 : zR x2) {d : zD} (h : l_X9_nameHere_41F  r41 x1 x2 d = some (rv, dz)) : zP V X 3 0 0 41 [some (.ref (zad V 10)), some (.int (zI x1)), some (.int (zI x2))] [] d := by
  refine zP_iload_n (pc := 41) C (x := zI x2) dX9_nameHere_41 rfl rfl ?_
  refine zP_aload_n (pc := 42) C (x := zad V 10) dX9_nameHere_42 rfl rfl ?_
  refine zP_getI (pc := 43) (a := 10) C g9_22 dX9_nameHere_43 (s_X9 hT) rfl h fun v43 hv43 h => ?_
  refine zP_icmp_lt (pc := 46) (tgt := 71) C dX9_nameHere_46 rfl hx2 hv43 h (fun _ h => ?_) (fun _ h => ?_)
  · refine zP_iload_n (pc := 71) C (x := zI x1) dX9_nameHere_71 rfl rfl ?_
    exact zP_iret (pc := 72) C E dX9_nameHere_72 hx1 h
  · refine zP_iload_n (pc := 49) C (x := zI x1) dX9_nameHere_49 rfl rfl ?_
    refine zP_iconst (pc := 50) C dX9_nameHere_50 ?_
    refine zP_ishl (pc := 51) C dX9_nameHere_51 h fun v51 hv51 h => ?_
    refine zP_aload_n (pc := 52) C (x := zad V 10) dX9_nameHere_52 rfl rfl ?_
    refine zP_getR (pc := 53) (a := 10) (t := 11) C g9_9 dX9_nameHere_53 (s_X9 hT) rfl ?_
    refine zP_iload_n (pc := 56) C (x := zI x2) dX9_nameHere_56 rfl rfl ?_
    refine zP_iald (pc := 57) (a := 11) C dX9_nameHere_57 (s_X9_bytes hT) hx2 h fun v57 hv57 h => ?_
    refine zP_bipush (pc := 58) C dX9_nameHere_58 rfl ?_
    refine zP_isub (pc := 60) C dX9_nameHere_60 h fun v60 hv60 h => ?_
    refine zP_iconst (pc := 61) C dX9_nameHere_61 ?_
    refine zP_iadd (pc := 62) C dX9_nameHere_62 h fun v62 hv62 h => ?_
    refine zP_ior (pc := 63) C dX9_nameHere_63 h fun v63 hv63 h => ?_
    refine zP_istore_n (pc := 64) C (L' := [some (.ref (zad V 10)), some (.int (zI v63)), some (.int (zI x2))]) dX9_nameHere_64 rfl (Nat.le_of_ble_eq_true rfl) rfl rfl ?_
    refine zP_iinc (pc := 65) C (x := x2) dX9_nameHere_65 rfl (Nat.le_of_ble_eq_true rfl) rfl h fun v65 hv65 h => ?_
    show zP V X 3 0 0 68 [some (.ref (zad V 10)), some (.int (zI v63)), some (.int (zI v65))] _ _
    refine zP_goto (pc := 68) (tgt := 41) C dX9_nameHere_68 rfl ?_
    exact zP_mask [true, true, true] (hr41 hv63 hv65 h)
def l_X9_nameHere_41   : Nat → Int → Int → zD → Option (Int × zD)
  | 0, _, _, _ => none
  | q + 1, x1, x2, d => l_X9_nameHere_41F   (l_X9_nameHere_41   q) x1 x2 d
theorem wl_X9_nameHere_41 {V : zW} {X : zX}  (hT : zo9 V) (C : zOk V X cX9_nameHere RX9 3 (zrm 8) (some .int)) {rv : Int} {dz : zD} (E : zEnd V X (some (.int (zI rv))) (zR rv) dz)  : ∀ (q : Nat) {x1 x2 : Int} (hx1 : zR x1) (hx2 : zR x2) {d : zD} (h : l_X9_nameHere_41   q x1 x2 d = some (rv, dz)), zP V X 3 0 0 41 [some (.ref (zad V 10)), some (.int (zI x1)), some (.int (zI x2))] [] d := by
  intro q
  induction q with
  | zero => intro x1 x2 hx1 hx2 d h; cases (show (none : Option (Int × zD)) = some (rv, dz) from h)
  | succ q ih =>
    intro x1 x2 hx1 hx2 d h
    exact wl_X9_nameHere_41F hT C E  (fun  hx1 hx2 h => ih hx1 hx2 h) hx1 hx2 h
def f_X9_nameHere  (d : zD) : Option (Int × zD) :=
  zl (d 10 2) fun v1 =>
  if (v1 : Int) = 0 then (
    zl (d 10 4) fun v8 =>
    zl (d 10 3) fun v12 =>
    zl (zw (v8 - v12)) fun v15 =>
    if (6 : Int) < v15 then (
      some ((-1), d))
    else (
      zc (f_X9_isAtWord 16  d) fun v24 d =>
      if (v24 : Int) = 0 then (
        zl (d 10 4) fun v35 =>
        zl (zw (v35 - 1)) fun v39 =>
        l_X9_nameHere_41   zF 0 v39 d)
      else (
        some ((-1), d))))
  else (
    some ((-1), d))
theorem t_X9_nameHere {V : zW}  (hT : zo9 V)   {d dz : zD} {rv : Int} (h : f_X9_nameHere   d = some (rv, dz)) : zMet V 8 yX9_nameHere cX9_nameHere 3 (some .int) [.ref (zad V 10)] d (some (.int (zI rv))) (zR rv) dz := by
  refine zMet_by RX9 pn9 rfl (Nat.le_of_ble_eq_true rfl) [some (.ref (zad V 10)), none, none] rfl fun X C E => ?_
  refine zP_aload_n (pc := 0) C (x := zad V 10) dX9_nameHere_0 rfl rfl ?_
  refine zP_getI (pc := 1) (a := 10) C g9_19 dX9_nameHere_1 (s_X9 hT) rfl h fun v1 hv1 h => ?_
  refine zP_if_ne (pc := 4) (tgt := 30) C dX9_nameHere_4 rfl hv1 h (fun _ h => ?_) (fun _ h => ?_)
  · refine zP_iconst (pc := 30) C dX9_nameHere_30 ?_
    exact zP_iret (pc := 31) C E dX9_nameHere_31 (zRk rfl) h
  · refine zP_aload_n (pc := 7) C (x := zad V 10) dX9_nameHere_7 rfl rfl ?_
    refine zP_getI (pc := 8) (a := 10) C g9_25 dX9_nameHere_8 (s_X9 hT) rfl h fun v8 hv8 h => ?_
    refine zP_aload_n (pc := 11) C (x := zad V 10) dX9_nameHere_11 rfl rfl ?_
    refine zP_getI (pc := 12) (a := 10) C g9_22 dX9_nameHere_12 (s_X9 hT) rfl h fun v12 hv12 h => ?_
    refine zP_isub (pc := 15) C dX9_nameHere_15 h fun v15 hv15 h => ?_
    refine zP_bipush (pc := 16) C dX9_nameHere_16 rfl ?_
    refine zP_icmp_gt (pc := 18) (tgt := 30) C dX9_nameHere_18 rfl hv15 (zRk rfl) h (fun _ h => ?_) (fun _ h => ?_)
    · refine zP_iconst (pc := 30) C dX9_nameHere_30 ?_
      exact zP_iret (pc := 31) C E dX9_nameHere_31 (zRk rfl) h
    · refine zP_aload_n (pc := 21) C (x := zad V 10) dX9_nameHere_21 rfl rfl ?_
      refine zP_ldcT (pc := 22) C (i := 16) (Nat.le_of_ble_eq_true rfl) rfl rfl dX9_nameHere_22 ?_
      obtain ⟨v24, d1, hc, h⟩ := zc_h h
      refine zP_callV (pc := 24) (As := [.ref (zsa V 16)]) (st := []) C m9_52 dX9_nameHere_24 (s_X9 hT) rfl (t_X9_isAtWord hT (Nat.le_of_ble_eq_true rfl)  hc) ⟨Nat.le_of_ble_eq_true rfl, Nat.le_of_ble_eq_true rfl⟩ rfl (Nat.le_of_ble_eq_true rfl) ⟨Nat.zero_le _, Nat.zero_le _⟩ fun hw => ?_
      have hbv24 := hw
      have hv24 := z01 hw
      clear hc hw
      show zP V X 3 0 0 27 _ [.int (zI v24)] d1
      revert h
      generalize d1 = d
      intro h
      refine zP_if_eq (pc := 27) (tgt := 32) C dX9_nameHere_27 rfl hv24 h (fun _ h => ?_) (fun _ h => ?_)
      · refine zP_iconst (pc := 32) C dX9_nameHere_32 ?_
        refine zP_istore_n (pc := 33) C (L' := [some (.ref (zad V 10)), some (.int (zI 0)), none]) dX9_nameHere_33 rfl (Nat.le_of_ble_eq_true rfl) rfl rfl ?_
        refine zP_aload_n (pc := 34) C (x := zad V 10) dX9_nameHere_34 rfl rfl ?_
        refine zP_getI (pc := 35) (a := 10) C g9_25 dX9_nameHere_35 (s_X9 hT) rfl h fun v35 hv35 h => ?_
        refine zP_iconst (pc := 38) C dX9_nameHere_38 ?_
        refine zP_isub (pc := 39) C dX9_nameHere_39 h fun v39 hv39 h => ?_
        refine zP_istore_n (pc := 40) C (L' := [some (.ref (zad V 10)), some (.int (zI 0)), some (.int (zI v39))]) dX9_nameHere_40 rfl (Nat.le_of_ble_eq_true rfl) rfl rfl ?_
        exact zP_mask [true, true, true] (wl_X9_nameHere_41 hT C E  zF (zRk rfl) hv39 h)
      · refine zP_iconst (pc := 30) C dX9_nameHere_30 ?_
        exact zP_iret (pc := 31) C E dX9_nameHere_31 (zRk rfl) h
def l_X9_numberHere_7F  (r7 : Int → Int → zD → Option (Int × zD)) (x1 x2 : Int) (d : zD) : Option (Int × zD) :=
  zl (d 10 4) fun v9 =>
  if (v9 : Int) ≤ x2 then (
    some (x1, d))
  else (
    zl (zw (10 * x1)) fun v18 =>
    zg 600 x2 <| zl (d 11 (x2 : Int).toNat) fun v24 =>
    zl (zw (v18 + v24)) fun v25 =>
    zl (zw (v25 - 48)) fun v28 =>
    zl (zw (x2 + 1)) fun v30 =>
    r7 v28 v30 d)
theorem wl_X9_numberHere_7F {V : zW} {X : zX}  (hT : zo9 V) (C : zOk V X cX9_numberHere RX9 3 (zrm 0) (some .int)) {rv : Int} {dz : zD} (E : zEnd V X (some (.int (zI rv))) (zR rv) dz) {r7 : Int → Int → zD → Option (Int × zD)} (hr7 : ∀ {x1 x2 : Int} {d : zD}, zR x1 → zR x2 → r7 x1 x2 d = some (rv, dz) → zP V X 3 0 0 7 [some (.ref (zad V 10)), some (.int (zI x1)), some (.int (zI x2))] [] d) {x1 x2 : Int} (hx1 : zR x1) (hx2 : zR x2) {d : zD} (h : l_X9_numberHere_7F  r7 x1 x2 d = some (rv, dz)) : zP V X 3 0 0 7 [some (.ref (zad V 10)), some (.int (zI x1)), some (.int (zI x2))] [] d := by
  refine zP_iload_n (pc := 7) C (x := zI x2) dX9_numberHere_7 rfl rfl ?_
  refine zP_aload_n (pc := 8) C (x := zad V 10) dX9_numberHere_8 rfl rfl ?_
  refine zP_getI (pc := 9) (a := 10) C g9_25 dX9_numberHere_9 (s_X9 hT) rfl h fun v9 hv9 h => ?_
  refine zP_icmp_ge (pc := 12) (tgt := 36) C dX9_numberHere_12 rfl hx2 hv9 h (fun _ h => ?_) (fun _ h => ?_)
  · refine zP_iload_n (pc := 36) C (x := zI x1) dX9_numberHere_36 rfl rfl ?_
    exact zP_iret (pc := 37) C E dX9_numberHere_37 hx1 h
  · refine zP_bipush (pc := 15) C dX9_numberHere_15 rfl ?_
    refine zP_iload_n (pc := 17) C (x := zI x1) dX9_numberHere_17 rfl rfl ?_
    refine zP_imul (pc := 18) C dX9_numberHere_18 h fun v18 hv18 h => ?_
    refine zP_aload_n (pc := 19) C (x := zad V 10) dX9_numberHere_19 rfl rfl ?_
    refine zP_getR (pc := 20) (a := 10) (t := 11) C g9_9 dX9_numberHere_20 (s_X9 hT) rfl ?_
    refine zP_iload_n (pc := 23) C (x := zI x2) dX9_numberHere_23 rfl rfl ?_
    refine zP_iald (pc := 24) (a := 11) C dX9_numberHere_24 (s_X9_bytes hT) hx2 h fun v24 hv24 h => ?_
    refine zP_iadd (pc := 25) C dX9_numberHere_25 h fun v25 hv25 h => ?_
    refine zP_bipush (pc := 26) C dX9_numberHere_26 rfl ?_
    refine zP_isub (pc := 28) C dX9_numberHere_28 h fun v28 hv28 h => ?_
    refine zP_istore_n (pc := 29) C (L' := [some (.ref (zad V 10)), some (.int (zI v28)), some (.int (zI x2))]) dX9_numberHere_29 rfl (Nat.le_of_ble_eq_true rfl) rfl rfl ?_
    refine zP_iinc (pc := 30) C (x := x2) dX9_numberHere_30 rfl (Nat.le_of_ble_eq_true rfl) rfl h fun v30 hv30 h => ?_
    show zP V X 3 0 0 33 [some (.ref (zad V 10)), some (.int (zI v28)), some (.int (zI v30))] _ _
    refine zP_goto (pc := 33) (tgt := 7) C dX9_numberHere_33 rfl ?_
    exact zP_mask [true, true, true] (hr7 hv28 hv30 h)
def l_X9_numberHere_7   : Nat → Int → Int → zD → Option (Int × zD)
  | 0, _, _, _ => none
  | q + 1, x1, x2, d => l_X9_numberHere_7F   (l_X9_numberHere_7   q) x1 x2 d
theorem wl_X9_numberHere_7 {V : zW} {X : zX}  (hT : zo9 V) (C : zOk V X cX9_numberHere RX9 3 (zrm 0) (some .int)) {rv : Int} {dz : zD} (E : zEnd V X (some (.int (zI rv))) (zR rv) dz)  : ∀ (q : Nat) {x1 x2 : Int} (hx1 : zR x1) (hx2 : zR x2) {d : zD} (h : l_X9_numberHere_7   q x1 x2 d = some (rv, dz)), zP V X 3 0 0 7 [some (.ref (zad V 10)), some (.int (zI x1)), some (.int (zI x2))] [] d := by
  intro q
  induction q with
  | zero => intro x1 x2 hx1 hx2 d h; cases (show (none : Option (Int × zD)) = some (rv, dz) from h)
  | succ q ih =>
    intro x1 x2 hx1 hx2 d h
    exact wl_X9_numberHere_7F hT C E  (fun  hx1 hx2 h => ih hx1 hx2 h) hx1 hx2 h
def f_X9_numberHere  (d : zD) : Option (Int × zD) :=
  zl (d 10 3) fun v3 =>
  l_X9_numberHere_7   zF 0 v3 d
theorem t_X9_numberHere {V : zW}  (hT : zo9 V)   {d dz : zD} {rv : Int} (h : f_X9_numberHere   d = some (rv, dz)) : zMet V 0 yX9_numberHere cX9_numberHere 3 (some .int) [.ref (zad V 10)] d (some (.int (zI rv))) (zR rv) dz := by
  refine zMet_by RX9 pn9 rfl (Nat.le_of_ble_eq_true rfl) [some (.ref (zad V 10)), none, none] rfl fun X C E => ?_
  refine zP_iconst (pc := 0) C dX9_numberHere_0 ?_
  refine zP_istore_n (pc := 1) C (L' := [some (.ref (zad V 10)), some (.int (zI 0)), none]) dX9_numberHere_1 rfl (Nat.le_of_ble_eq_true rfl) rfl rfl ?_
  refine zP_aload_n (pc := 2) C (x := zad V 10) dX9_numberHere_2 rfl rfl ?_
  refine zP_getI (pc := 3) (a := 10) C g9_22 dX9_numberHere_3 (s_X9 hT) rfl h fun v3 hv3 h => ?_
  refine zP_istore_n (pc := 6) C (L' := [some (.ref (zad V 10)), some (.int (zI 0)), some (.int (zI v3))]) dX9_numberHere_6 rfl (Nat.le_of_ble_eq_true rfl) rfl rfl ?_
  exact zP_mask [true, true, true] (wl_X9_numberHere_7 hT C E  zF (zRk rfl) hv3 h)
def j_X9_readNumber_31   (d : zD) : Option (Int × zD) :=
  zc (f_X9_fail  2 d) fun v33 d =>
  some ((-1), d)
theorem wj_X9_readNumber_31 {V : zW} {X : zX}  (hT : zo9 V) (C : zOk V X cX9_readNumber RX9 4 (zrm 1) (some .int)) {rv : Int} {dz : zD} (E : zEnd V X (some (.int (zI rv))) (zR rv) dz)    {d : zD} (h : j_X9_readNumber_31    d = some (rv, dz)) : zP V X 4 0 0 31 [some (.ref (zad V 10)), none, none, none] [] d := by
  refine zP_aload_n (pc := 31) C (x := zad V 10) dX9_readNumber_31 rfl rfl ?_
  refine zP_iconst (pc := 32) C dX9_readNumber_32 ?_
  obtain ⟨v33, d1, hc, h⟩ := zc_h h
  refine zP_callV (pc := 33) (As := [.int (zI 2)]) (st := []) C m9_58 dX9_readNumber_33 (s_X9 hT) rfl (t_X9_fail hT (zRk rfl) hc) ⟨Nat.le_of_ble_eq_true rfl, Nat.le_of_ble_eq_true rfl⟩ rfl (Nat.le_of_ble_eq_true rfl) ⟨Nat.zero_le _, Nat.zero_le _⟩ fun hw => ?_
  have hbv33 := hw
  have hv33 := z01 hw
  clear hc hw
  show zP V X 4 0 0 36 _ [.int (zI v33)] d1
  revert h
  generalize d1 = d
  intro h
  refine zP_pop (pc := 36) C dX9_readNumber_36 rfl ?_
  refine zP_iconst (pc := 37) C dX9_readNumber_37 ?_
  exact zP_iret (pc := 38) C E dX9_readNumber_38 (zRk rfl) h
def f_X9_readNumber  (x1 x2 : Int) (d : zD) : Option (Int × zD) :=
  zl (d 10 2) fun v1 =>
  if (v1 : Int) = 1 then (
    zc (f_X9_numberHere   d) fun v17 d =>
    if (v17 : Int) < x1 then (
      j_X9_readNumber_31    d)
    else (
      if (v17 : Int) ≤ x2 then (
        zc (f_X9_advance   d) fun _ d =>
        some (v17, d))
      else (
        j_X9_readNumber_31    d)))
  else (
    zc (f_X9_fail  1 d) fun v10 d =>
    some ((-1), d))
theorem t_X9_readNumber {V : zW}  (hT : zo9 V) {x1 x2 : Int} (hx1 : zR x1) (hx2 : zR x2) {d dz : zD} {rv : Int} (h : f_X9_readNumber  x1 x2 d = some (rv, dz)) : zMet V 1 yX9_readNumber cX9_readNumber 4 (some .int) [.ref (zad V 10), .int (zI x1), .int (zI x2)] d (some (.int (zI rv))) (zR rv) dz := by
  refine zMet_by RX9 pn9 rfl (Nat.le_of_ble_eq_true rfl) [some (.ref (zad V 10)), some (.int (zI x1)), some (.int (zI x2)), none] rfl fun X C E => ?_
  refine zP_aload_n (pc := 0) C (x := zad V 10) dX9_readNumber_0 rfl rfl ?_
  refine zP_getI (pc := 1) (a := 10) C g9_19 dX9_readNumber_1 (s_X9 hT) rfl h fun v1 hv1 h => ?_
  refine zP_iconst (pc := 4) C dX9_readNumber_4 ?_
  refine zP_icmp_eq (pc := 5) (tgt := 16) C dX9_readNumber_5 rfl hv1 (zRk rfl) h (fun _ h => ?_) (fun _ h => ?_)
  · refine zP_aload_n (pc := 16) C (x := zad V 10) dX9_readNumber_16 rfl rfl ?_
    obtain ⟨v17, d1, hc, h⟩ := zc_h h
    refine zP_callV (pc := 17) (As := []) (st := []) C m9_62 dX9_readNumber_17 (s_X9 hT) rfl (t_X9_numberHere hT  hc) ⟨Nat.le_of_ble_eq_true rfl, Nat.le_of_ble_eq_true rfl⟩ rfl (Nat.le_of_ble_eq_true rfl) ⟨Nat.zero_le _, Nat.zero_le _⟩ fun hw => ?_
    have hv17 := hw
    clear hc hw
    show zP V X 4 0 0 20 _ [.int (zI v17)] d1
    revert h
    generalize d1 = d
    intro h
    refine zP_istore_n (pc := 20) C (L' := [some (.ref (zad V 10)), some (.int (zI x1)), some (.int (zI x2)), some (.int (zI v17))]) dX9_readNumber_20 rfl (Nat.le_of_ble_eq_true rfl) rfl rfl ?_
    refine zP_iload_n (pc := 21) C (x := zI v17) dX9_readNumber_21 rfl rfl ?_
    refine zP_iload_n (pc := 22) C (x := zI x1) dX9_readNumber_22 rfl rfl ?_
    refine zP_icmp_lt (pc := 23) (tgt := 31) C dX9_readNumber_23 rfl hv17 hx1 h (fun _ h => ?_) (fun _ h => ?_)
    · exact zP_mask [true, false, false, false] (wj_X9_readNumber_31 hT C E   h)
    · refine zP_iload_n (pc := 26) C (x := zI v17) dX9_readNumber_26 rfl rfl ?_
      refine zP_iload_n (pc := 27) C (x := zI x2) dX9_readNumber_27 rfl rfl ?_
      refine zP_icmp_le (pc := 28) (tgt := 39) C dX9_readNumber_28 rfl hv17 hx2 h (fun _ h => ?_) (fun _ h => ?_)
      · refine zP_aload_n (pc := 39) C (x := zad V 10) dX9_readNumber_39 rfl rfl ?_
        obtain ⟨_, d1, hc, h⟩ := zc_h h
        refine zP_callV (pc := 40) (As := []) (st := []) C m9_38 dX9_readNumber_40 (s_X9 hT) rfl (t_X9_advance hT  hc) ⟨Nat.le_of_ble_eq_true rfl, Nat.le_of_ble_eq_true rfl⟩ rfl (Nat.le_of_ble_eq_true rfl) ⟨Nat.zero_le _, Nat.zero_le _⟩ fun hw => ?_
        clear hc hw
        show zP V X 4 0 0 43 _ [] d1
        revert h
        generalize d1 = d
        intro h
        refine zP_iload_n (pc := 43) C (x := zI v17) dX9_readNumber_43 rfl rfl ?_
        exact zP_iret (pc := 44) C E dX9_readNumber_44 hv17 h
      · exact zP_mask [true, false, false, false] (wj_X9_readNumber_31 hT C E   h)
  · refine zP_aload_n (pc := 8) C (x := zad V 10) dX9_readNumber_8 rfl rfl ?_
    refine zP_iconst (pc := 9) C dX9_readNumber_9 ?_
    obtain ⟨v10, d1, hc, h⟩ := zc_h h
    refine zP_callV (pc := 10) (As := [.int (zI 1)]) (st := []) C m9_58 dX9_readNumber_10 (s_X9 hT) rfl (t_X9_fail hT (zRk rfl) hc) ⟨Nat.le_of_ble_eq_true rfl, Nat.le_of_ble_eq_true rfl⟩ rfl (Nat.le_of_ble_eq_true rfl) ⟨Nat.zero_le _, Nat.zero_le _⟩ fun hw => ?_
    have hbv10 := hw
    have hv10 := z01 hw
    clear hc hw
    show zP V X 4 0 0 13 _ [.int (zI v10)] d1
    revert h
    generalize d1 = d
    intro h
    refine zP_pop (pc := 13) C dX9_readNumber_13 rfl ?_
    refine zP_iconst (pc := 14) C dX9_readNumber_14 ?_
    exact zP_iret (pc := 15) C E dX9_readNumber_15 (zRk rfl) h
def f_X7_readOption (t1 : Nat) (a2 : Nat) (n2 : Nat) (x3 x4 : Int) (d : zD) : Option (Int × zD) :=
  zc (f_X9_isAtWord t1  d) fun v5 d =>
  if (v5 : Int) = 0 then (
    some (1, d))
  else (
    zc (f_X9_advance   d) fun _ d =>
    zc (f_X9_readNumber  x3 x4 d) fun v27 d =>
    zl (d 13 0) fun v36 =>
    zl (zw (v36 - 1)) fun v40 =>
    if (v27 : Int) = (-1) then (
      some (0, d))
    else (
      if (0 : Int) ≤ v40 then (
        zg n2 v40 <| zl (zu d a2 (v40 : Int).toNat v27) fun d =>
        some (1, d))
      else (
        some (0, d))))
theorem t_X7_readOption {V : zW} {t1 : Nat} {a2 : Nat} {n2 : Nat} (hT : zo7 V) (ht1 : zbad t1 < 1) (ha2 : zsh V a2 = some (1, n2, zk0)) {x3 x4 : Int} (hx3 : zR x3) (hx4 : zR x4) {d dz : zD} {rv : Int} (h : f_X7_readOption t1 a2 n2 x3 x4 d = some (rv, dz)) : zMet V 8 yX7_readOption cX7_readOption 7 (some .boolean) [.ref (zad V 12), .ref (zsa V t1), .ref (zad V a2), .int (zI x3), .int (zI x4)] d (some (.int (zI rv))) (rv = 0 ∨ rv = 1) dz := by
  refine zMet_by RX7 pn7 rfl (Nat.le_of_ble_eq_true rfl) [some (.ref (zad V 12)), some (.ref (zsa V t1)), some (.ref (zad V a2)), some (.int (zI x3)), some (.int (zI x4)), none, none] rfl fun X C E => ?_
  refine zP_aload_n (pc := 0) C (x := zad V 12) dX7_readOption_0 rfl rfl ?_
  refine zP_getR (pc := 1) (a := 12) (t := 10) C g7_35 dX7_readOption_1 (s_X7 hT) rfl ?_
  refine zP_aload_n (pc := 4) C (x := zsa V t1) dX7_readOption_4 rfl rfl ?_
  obtain ⟨v5, d1, hc, h⟩ := zc_h h
  refine zP_callV (pc := 5) (As := [.ref (zsa V t1)]) (st := []) C m7_72 dX7_readOption_5 (s_X9 (o_X7_tokens hT)) rfl (t_X9_isAtWord (o_X7_tokens hT) ht1  hc) ⟨Nat.le_of_ble_eq_true rfl, Nat.le_of_ble_eq_true rfl⟩ rfl (Nat.le_of_ble_eq_true rfl) ⟨Nat.zero_le _, Nat.zero_le _⟩ fun hw => ?_
  have hbv5 := hw
  have hv5 := z01 hw
  clear hc hw
  show zP V X 7 0 0 8 _ [.int (zI v5)] d1
  revert h
  generalize d1 = d
  intro h
  refine zP_if_ne (pc := 8) (tgt := 13) C dX7_readOption_8 rfl hv5 h (fun _ h => ?_) (fun _ h => ?_)
  · refine zP_aload_n (pc := 13) C (x := zad V 12) dX7_readOption_13 rfl rfl ?_
    refine zP_getR (pc := 14) (a := 12) (t := 10) C g7_35 dX7_readOption_14 (s_X7 hT) rfl ?_
    obtain ⟨_, d1, hc, h⟩ := zc_h h
    refine zP_callV (pc := 17) (As := []) (st := []) C m7_99 dX7_readOption_17 (s_X9 (o_X7_tokens hT)) rfl (t_X9_advance (o_X7_tokens hT)  hc) ⟨Nat.le_of_ble_eq_true rfl, Nat.le_of_ble_eq_true rfl⟩ rfl (Nat.le_of_ble_eq_true rfl) ⟨Nat.zero_le _, Nat.zero_le _⟩ fun hw => ?_
    clear hc hw
    show zP V X 7 0 0 20 _ [] d1
    revert h
    generalize d1 = d
    intro h
    refine zP_aload_n (pc := 20) C (x := zad V 12) dX7_readOption_20 rfl rfl ?_
    refine zP_getR (pc := 21) (a := 12) (t := 10) C g7_35 dX7_readOption_21 (s_X7 hT) rfl ?_
    refine zP_iload_n (pc := 24) C (x := zI x3) dX7_readOption_24 rfl rfl ?_
    refine zP_iload (pc := 25) C (x := zI x4) dX7_readOption_25 rfl ?_
    obtain ⟨v27, d1, hc, h⟩ := zc_h h
    refine zP_callV (pc := 27) (As := [.int (zI x3), .int (zI x4)]) (st := []) C m7_133 dX7_readOption_27 (s_X9 (o_X7_tokens hT)) rfl (t_X9_readNumber (o_X7_tokens hT) hx3 hx4 hc) ⟨Nat.le_of_ble_eq_true rfl, Nat.le_of_ble_eq_true rfl⟩ rfl (Nat.le_of_ble_eq_true rfl) ⟨Nat.zero_le _, Nat.zero_le _⟩ fun hw => ?_
    have hv27 := hw
    clear hc hw
    show zP V X 7 0 0 30 _ [.int (zI v27)] d1
    revert h
    generalize d1 = d
    intro h
    refine zP_istore (pc := 30) C (L' := [some (.ref (zad V 12)), some (.ref (zsa V t1)), some (.ref (zad V a2)), some (.int (zI x3)), some (.int (zI x4)), some (.int (zI v27)), none]) dX7_readOption_30 (Nat.le_of_ble_eq_true rfl) rfl rfl ?_
    refine zP_aload_n (pc := 32) C (x := zad V 12) dX7_readOption_32 rfl rfl ?_
    refine zP_getR (pc := 33) (a := 12) (t := 13) C g7_12 dX7_readOption_33 (s_X7 hT) rfl ?_
    refine zP_getI (pc := 36) (a := 13) C g7_39 dX7_readOption_36 (s_X6 (o_X7_draft hT)) rfl h fun v36 hv36 h => ?_
    refine zP_iconst (pc := 39) C dX7_readOption_39 ?_
    refine zP_isub (pc := 40) C dX7_readOption_40 h fun v40 hv40 h => ?_
    refine zP_istore (pc := 41) C (L' := [some (.ref (zad V 12)), some (.ref (zsa V t1)), some (.ref (zad V a2)), some (.int (zI x3)), some (.int (zI x4)), some (.int (zI v27)), some (.int (zI v40))]) dX7_readOption_41 (Nat.le_of_ble_eq_true rfl) rfl rfl ?_
    refine zP_iload (pc := 43) C (x := zI v27) dX7_readOption_43 rfl ?_
    refine zP_iconst (pc := 45) C dX7_readOption_45 ?_
    refine zP_icmp_eq (pc := 46) (tgt := 54) C dX7_readOption_46 rfl hv27 (zRk rfl) h (fun _ h => ?_) (fun _ h => ?_)
    · refine zP_iconst (pc := 54) C dX7_readOption_54 ?_
      exact zP_zret (pc := 55) C E dX7_readOption_55 (Or.inl rfl) h
    · refine zP_iload (pc := 49) C (x := zI v40) dX7_readOption_49 rfl ?_
      refine zP_if_ge (pc := 51) (tgt := 56) C dX7_readOption_51 rfl hv40 h (fun _ h => ?_) (fun _ h => ?_)
      · refine zP_aload_n (pc := 56) C (x := zad V a2) dX7_readOption_56 rfl rfl ?_
        refine zP_iload (pc := 57) C (x := zI v40) dX7_readOption_57 rfl ?_
        refine zP_iload (pc := 59) C (x := zI v27) dX7_readOption_59 rfl ?_
        refine zP_iast (pc := 61) (a := a2) C dX7_readOption_61 ha2 hv40 hv27 h fun d h => ?_
        refine zP_iconst (pc := 62) C dX7_readOption_62 ?_
        exact zP_zret (pc := 63) C E dX7_readOption_63 (Or.inr rfl) h
      · refine zP_iconst (pc := 54) C dX7_readOption_54 ?_
        exact zP_zret (pc := 55) C E dX7_readOption_55 (Or.inl rfl) h
  · refine zP_iconst (pc := 11) C dX7_readOption_11 ?_
    exact zP_zret (pc := 12) C E dX7_readOption_12 (Or.inr rfl) h
def f_X7_readTerminal  (d : zD) : Option (Int × zD) :=
  zl (d 13 0) fun v4 =>
  if (v4 : Int) < 8 then (
    zc (f_X9_advance   d) fun _ d =>
    zc (f_X9_nameHere   d) fun v32 d =>
    if (v32 : Int) = (-1) then (
      zc (f_X9_fail  1 d) fun v46 d =>
      some (v46, d))
    else (
      zc (f_X6_find 13 v32 d) fun v55 d =>
      if (v55 : Int) = (-1) then (
        zc (f_X6_addTerminal 13 v32 d) fun _ d =>
        zc (f_X9_advance   d) fun _ d =>
        zc (f_X7_readOption 6 (13 + 2) 8 1 9 d) fun v99 d =>
        if (v99 : Int) = 0 then (
          some (0, d))
        else (
          zc (f_X7_readOption 7 (13 + 3) 8 1 4 d) fun v117 d =>
          if (v117 : Int) = 0 then (
            some (0, d))
          else (
            zc (f_X7_readOption 8 (13 + 4) 8 0 30 d) fun v136 d =>
            if (v136 : Int) = 0 then (
              some (0, d))
            else (
              some (1, d)))))
      else (
        zc (f_X9_fail  4 d) fun v67 d =>
        some (v67, d))))
  else (
    zc (f_X9_fail  5 d) fun v17 d =>
    some (v17, d))
theorem t_X7_readTerminal {V : zW}  (hT : zo7 V)   {d dz : zD} {rv : Int} (h : f_X7_readTerminal   d = some (rv, dz)) : zMet V 9 yX7_readTerminal cX7_readTerminal 2 (some .boolean) [.ref (zad V 12)] d (some (.int (zI rv))) (rv = 0 ∨ rv = 1) dz := by
  refine zMet_by RX7 pn7 rfl (Nat.le_of_ble_eq_true rfl) [some (.ref (zad V 12)), none] rfl fun X C E => ?_
  refine zP_aload_n (pc := 0) C (x := zad V 12) dX7_readTerminal_0 rfl rfl ?_
  refine zP_getR (pc := 1) (a := 12) (t := 13) C g7_12 dX7_readTerminal_1 (s_X7 hT) rfl ?_
  refine zP_getI (pc := 4) (a := 13) C g7_39 dX7_readTerminal_4 (s_X6 (o_X7_draft hT)) rfl h fun v4 hv4 h => ?_
  refine zP_bipush (pc := 7) C dX7_readTerminal_7 rfl ?_
  refine zP_icmp_lt (pc := 9) (tgt := 21) C dX7_readTerminal_9 rfl hv4 (zRk rfl) h (fun _ h => ?_) (fun _ h => ?_)
  · refine zP_aload_n (pc := 21) C (x := zad V 12) dX7_readTerminal_21 rfl rfl ?_
    refine zP_getR (pc := 22) (a := 12) (t := 10) C g7_35 dX7_readTerminal_22 (s_X7 hT) rfl ?_
    obtain ⟨_, d1, hc, h⟩ := zc_h h
    refine zP_callV (pc := 25) (As := []) (st := []) C m7_99 dX7_readTerminal_25 (s_X9 (o_X7_tokens hT)) rfl (t_X9_advance (o_X7_tokens hT)  hc) ⟨Nat.le_of_ble_eq_true rfl, Nat.le_of_ble_eq_true rfl⟩ rfl (Nat.le_of_ble_eq_true rfl) ⟨Nat.zero_le _, Nat.zero_le _⟩ fun hw => ?_
    clear hc hw
    show zP V X 2 0 0 28 _ [] d1
    revert h
    generalize d1 = d
    intro h
    refine zP_aload_n (pc := 28) C (x := zad V 12) dX7_readTerminal_28 rfl rfl ?_
    refine zP_getR (pc := 29) (a := 12) (t := 10) C g7_35 dX7_readTerminal_29 (s_X7 hT) rfl ?_
    obtain ⟨v32, d1, hc, h⟩ := zc_h h
    refine zP_callV (pc := 32) (As := []) (st := []) C m7_102 dX7_readTerminal_32 (s_X9 (o_X7_tokens hT)) rfl (t_X9_nameHere (o_X7_tokens hT)  hc) ⟨Nat.le_of_ble_eq_true rfl, Nat.le_of_ble_eq_true rfl⟩ rfl (Nat.le_of_ble_eq_true rfl) ⟨Nat.zero_le _, Nat.zero_le _⟩ fun hw => ?_
    have hv32 := hw
    clear hc hw
    show zP V X 2 0 0 35 _ [.int (zI v32)] d1
    revert h
    generalize d1 = d
    intro h
    refine zP_istore_n (pc := 35) C (L' := [some (.ref (zad V 12)), some (.int (zI v32))]) dX7_readTerminal_35 rfl (Nat.le_of_ble_eq_true rfl) rfl rfl ?_
    refine zP_iload_n (pc := 36) C (x := zI v32) dX7_readTerminal_36 rfl rfl ?_
    refine zP_iconst (pc := 37) C dX7_readTerminal_37 ?_
    refine zP_icmp_ne (pc := 38) (tgt := 50) C dX7_readTerminal_38 rfl hv32 (zRk rfl) h (fun _ h => ?_) (fun _ h => ?_)
    · refine zP_aload_n (pc := 50) C (x := zad V 12) dX7_readTerminal_50 rfl rfl ?_
      refine zP_getR (pc := 51) (a := 12) (t := 13) C g7_12 dX7_readTerminal_51 (s_X7 hT) rfl ?_
      refine zP_iload_n (pc := 54) C (x := zI v32) dX7_readTerminal_54 rfl rfl ?_
      obtain ⟨v55, d1, hc, h⟩ := zc_h h
      refine zP_callV (pc := 55) (As := [.int (zI v32)]) (st := []) C m7_106 dX7_readTerminal_55 (s_X6 (o_X7_draft hT)) rfl (t_X6_find (o_X7_draft hT) hv32 hc) ⟨Nat.le_of_ble_eq_true rfl, Nat.le_of_ble_eq_true rfl⟩ rfl (Nat.le_of_ble_eq_true rfl) ⟨Nat.zero_le _, Nat.zero_le _⟩ fun hw => ?_
      have hv55 := hw
      clear hc hw
      show zP V X 2 0 0 58 _ [.int (zI v55)] d1
      revert h
      generalize d1 = d
      intro h
      refine zP_iconst (pc := 58) C dX7_readTerminal_58 ?_
      refine zP_icmp_eq (pc := 59) (tgt := 71) C dX7_readTerminal_59 rfl hv55 (zRk rfl) h (fun _ h => ?_) (fun _ h => ?_)
      · refine zP_aload_n (pc := 71) C (x := zad V 12) dX7_readTerminal_71 rfl rfl ?_
        refine zP_getR (pc := 72) (a := 12) (t := 13) C g7_12 dX7_readTerminal_72 (s_X7 hT) rfl ?_
        refine zP_iload_n (pc := 75) C (x := zI v32) dX7_readTerminal_75 rfl rfl ?_
        obtain ⟨_, d1, hc, h⟩ := zc_h h
        refine zP_callV (pc := 76) (As := [.int (zI v32)]) (st := []) C m7_110 dX7_readTerminal_76 (s_X6 (o_X7_draft hT)) rfl (t_X6_addTerminal (o_X7_draft hT) hv32 hc) ⟨Nat.le_of_ble_eq_true rfl, Nat.le_of_ble_eq_true rfl⟩ rfl (Nat.le_of_ble_eq_true rfl) ⟨Nat.zero_le _, Nat.zero_le _⟩ fun hw => ?_
        clear hc hw
        show zP V X 2 0 0 79 _ [] d1
        revert h
        generalize d1 = d
        intro h
        refine zP_aload_n (pc := 79) C (x := zad V 12) dX7_readTerminal_79 rfl rfl ?_
        refine zP_getR (pc := 80) (a := 12) (t := 10) C g7_35 dX7_readTerminal_80 (s_X7 hT) rfl ?_
        obtain ⟨_, d1, hc, h⟩ := zc_h h
        refine zP_callV (pc := 83) (As := []) (st := []) C m7_99 dX7_readTerminal_83 (s_X9 (o_X7_tokens hT)) rfl (t_X9_advance (o_X7_tokens hT)  hc) ⟨Nat.le_of_ble_eq_true rfl, Nat.le_of_ble_eq_true rfl⟩ rfl (Nat.le_of_ble_eq_true rfl) ⟨Nat.zero_le _, Nat.zero_le _⟩ fun hw => ?_
        clear hc hw
        show zP V X 2 0 0 86 _ [] d1
        revert h
        generalize d1 = d
        intro h
        refine zP_aload_n (pc := 86) C (x := zad V 12) dX7_readTerminal_86 rfl rfl ?_
        refine zP_ldcT (pc := 87) C (i := 6) (Nat.le_of_ble_eq_true rfl) rfl rfl dX7_readTerminal_87 ?_
        refine zP_aload_n (pc := 89) C (x := zad V 12) dX7_readTerminal_89 rfl rfl ?_
        refine zP_getR (pc := 90) (a := 12) (t := 13) C g7_12 dX7_readTerminal_90 (s_X7 hT) rfl ?_
        refine zP_getR (pc := 93) (a := 13) (t := 13 + 2) C g7_116 dX7_readTerminal_93 (s_X6 (o_X7_draft hT)) rfl ?_
        refine zP_iconst (pc := 96) C dX7_readTerminal_96 ?_
        refine zP_bipush (pc := 97) C dX7_readTerminal_97 rfl ?_
        obtain ⟨v99, d1, hc, h⟩ := zc_h h
        refine zP_callV (pc := 99) (As := [.ref (zsa V 6), .ref (zad V (13 + 2)), .int (zI 1), .int (zI 9)]) (st := []) C m7_119 dX7_readTerminal_99 (s_X7 hT) rfl (t_X7_readOption hT (Nat.le_of_ble_eq_true rfl) (s_X6_delays (o_X7_draft hT)) (zRk rfl) (zRk rfl) hc) ⟨Nat.le_of_ble_eq_true rfl, Nat.le_of_ble_eq_true rfl⟩ rfl (Nat.le_of_ble_eq_true rfl) ⟨Nat.zero_le _, Nat.zero_le _⟩ fun hw => ?_
        have hbv99 := hw
        have hv99 := z01 hw
        clear hc hw
        show zP V X 2 0 0 102 _ [.int (zI v99)] d1
        revert h
        generalize d1 = d
        intro h
        refine zP_if_eq (pc := 102) (tgt := 146) C dX7_readTerminal_102 rfl hv99 h (fun _ h => ?_) (fun _ h => ?_)
        · refine zP_iconst (pc := 146) C dX7_readTerminal_146 ?_
          exact zP_zret (pc := 147) C E dX7_readTerminal_147 (Or.inl rfl) h
        · refine zP_aload_n (pc := 105) C (x := zad V 12) dX7_readTerminal_105 rfl rfl ?_
          refine zP_ldcT (pc := 106) C (i := 7) (Nat.le_of_ble_eq_true rfl) rfl rfl dX7_readTerminal_106 ?_
          refine zP_aload_n (pc := 108) C (x := zad V 12) dX7_readTerminal_108 rfl rfl ?_
          refine zP_getR (pc := 109) (a := 12) (t := 13) C g7_12 dX7_readTerminal_109 (s_X7 hT) rfl ?_
          refine zP_getR (pc := 112) (a := 13) (t := 13 + 3) C g7_125 dX7_readTerminal_112 (s_X6 (o_X7_draft hT)) rfl ?_
          refine zP_iconst (pc := 115) C dX7_readTerminal_115 ?_
          refine zP_iconst (pc := 116) C dX7_readTerminal_116 ?_
          obtain ⟨v117, d1, hc, h⟩ := zc_h h
          refine zP_callV (pc := 117) (As := [.ref (zsa V 7), .ref (zad V (13 + 3)), .int (zI 1), .int (zI 4)]) (st := []) C m7_119 dX7_readTerminal_117 (s_X7 hT) rfl (t_X7_readOption hT (Nat.le_of_ble_eq_true rfl) (s_X6_rooms (o_X7_draft hT)) (zRk rfl) (zRk rfl) hc) ⟨Nat.le_of_ble_eq_true rfl, Nat.le_of_ble_eq_true rfl⟩ rfl (Nat.le_of_ble_eq_true rfl) ⟨Nat.zero_le _, Nat.zero_le _⟩ fun hw => ?_
          have hbv117 := hw
          have hv117 := z01 hw
          clear hc hw
          show zP V X 2 0 0 120 _ [.int (zI v117)] d1
          revert h
          generalize d1 = d
          intro h
          refine zP_if_eq (pc := 120) (tgt := 146) C dX7_readTerminal_120 rfl hv117 h (fun _ h => ?_) (fun _ h => ?_)
          · refine zP_iconst (pc := 146) C dX7_readTerminal_146 ?_
            exact zP_zret (pc := 147) C E dX7_readTerminal_147 (Or.inl rfl) h
          · refine zP_aload_n (pc := 123) C (x := zad V 12) dX7_readTerminal_123 rfl rfl ?_
            refine zP_ldcT (pc := 124) C (i := 8) (Nat.le_of_ble_eq_true rfl) rfl rfl dX7_readTerminal_124 ?_
            refine zP_aload_n (pc := 126) C (x := zad V 12) dX7_readTerminal_126 rfl rfl ?_
            refine zP_getR (pc := 127) (a := 12) (t := 13) C g7_12 dX7_readTerminal_127 (s_X7 hT) rfl ?_
            refine zP_getR (pc := 130) (a := 13) (t := 13 + 4) C g7_130 dX7_readTerminal_130 (s_X6 (o_X7_draft hT)) rfl ?_
            refine zP_iconst (pc := 133) C dX7_readTerminal_133 ?_
            refine zP_bipush (pc := 134) C dX7_readTerminal_134 rfl ?_
            obtain ⟨v136, d1, hc, h⟩ := zc_h h
            refine zP_callV (pc := 136) (As := [.ref (zsa V 8), .ref (zad V (13 + 4)), .int (zI 0), .int (zI 30)]) (st := []) C m7_119 dX7_readTerminal_136 (s_X7 hT) rfl (t_X7_readOption hT (Nat.le_of_ble_eq_true rfl) (s_X6_prints (o_X7_draft hT)) (zRk rfl) (zRk rfl) hc) ⟨Nat.le_of_ble_eq_true rfl, Nat.le_of_ble_eq_true rfl⟩ rfl (Nat.le_of_ble_eq_true rfl) ⟨Nat.zero_le _, Nat.zero_le _⟩ fun hw => ?_
            have hbv136 := hw
            have hv136 := z01 hw
            clear hc hw
            show zP V X 2 0 0 139 _ [.int (zI v136)] d1
            revert h
            generalize d1 = d
            intro h
            refine zP_if_eq (pc := 139) (tgt := 146) C dX7_readTerminal_139 rfl hv136 h (fun _ h => ?_) (fun _ h => ?_)
            · refine zP_iconst (pc := 146) C dX7_readTerminal_146 ?_
              exact zP_zret (pc := 147) C E dX7_readTerminal_147 (Or.inl rfl) h
            · refine zP_iconst (pc := 142) C dX7_readTerminal_142 ?_
              refine zP_goto (pc := 143) (tgt := 147) C dX7_readTerminal_143 rfl ?_
              exact zP_zret (pc := 147) C E dX7_readTerminal_147 (Or.inr rfl) h
      · refine zP_aload_n (pc := 62) C (x := zad V 12) dX7_readTerminal_62 rfl rfl ?_
        refine zP_getR (pc := 63) (a := 12) (t := 10) C g7_35 dX7_readTerminal_63 (s_X7 hT) rfl ?_
        refine zP_iconst (pc := 66) C dX7_readTerminal_66 ?_
        obtain ⟨v67, d1, hc, h⟩ := zc_h h
        refine zP_callV (pc := 67) (As := [.int (zI 4)]) (st := []) C m7_66 dX7_readTerminal_67 (s_X9 (o_X7_tokens hT)) rfl (t_X9_fail (o_X7_tokens hT) (zRk rfl) hc) ⟨Nat.le_of_ble_eq_true rfl, Nat.le_of_ble_eq_true rfl⟩ rfl (Nat.le_of_ble_eq_true rfl) ⟨Nat.zero_le _, Nat.zero_le _⟩ fun hw => ?_
        have hbv67 := hw
        have hv67 := z01 hw
        clear hc hw
        show zP V X 2 0 0 70 _ [.int (zI v67)] d1
        revert h
        generalize d1 = d
        intro h
        exact zP_zret (pc := 70) C E dX7_readTerminal_70 hbv67 h
    · refine zP_aload_n (pc := 41) C (x := zad V 12) dX7_readTerminal_41 rfl rfl ?_
      refine zP_getR (pc := 42) (a := 12) (t := 10) C g7_35 dX7_readTerminal_42 (s_X7 hT) rfl ?_
      refine zP_iconst (pc := 45) C dX7_readTerminal_45 ?_
      obtain ⟨v46, d1, hc, h⟩ := zc_h h
      refine zP_callV (pc := 46) (As := [.int (zI 1)]) (st := []) C m7_66 dX7_readTerminal_46 (s_X9 (o_X7_tokens hT)) rfl (t_X9_fail (o_X7_tokens hT) (zRk rfl) hc) ⟨Nat.le_of_ble_eq_true rfl, Nat.le_of_ble_eq_true rfl⟩ rfl (Nat.le_of_ble_eq_true rfl) ⟨Nat.zero_le _, Nat.zero_le _⟩ fun hw => ?_
      have hbv46 := hw
      have hv46 := z01 hw
      clear hc hw
      show zP V X 2 0 0 49 _ [.int (zI v46)] d1
      revert h
      generalize d1 = d
      intro h
      exact zP_zret (pc := 49) C E dX7_readTerminal_49 hbv46 h
  · refine zP_aload_n (pc := 12) C (x := zad V 12) dX7_readTerminal_12 rfl rfl ?_
    refine zP_getR (pc := 13) (a := 12) (t := 10) C g7_35 dX7_readTerminal_13 (s_X7 hT) rfl ?_
    refine zP_iconst (pc := 16) C dX7_readTerminal_16 ?_
    obtain ⟨v17, d1, hc, h⟩ := zc_h h
    refine zP_callV (pc := 17) (As := [.int (zI 5)]) (st := []) C m7_66 dX7_readTerminal_17 (s_X9 (o_X7_tokens hT)) rfl (t_X9_fail (o_X7_tokens hT) (zRk rfl) hc) ⟨Nat.le_of_ble_eq_true rfl, Nat.le_of_ble_eq_true rfl⟩ rfl (Nat.le_of_ble_eq_true rfl) ⟨Nat.zero_le _, Nat.zero_le _⟩ fun hw => ?_
    have hbv17 := hw
    have hv17 := z01 hw
    clear hc hw
    show zP V X 2 0 0 20 _ [.int (zI v17)] d1
    revert h
    generalize d1 = d
    intro h
    exact zP_zret (pc := 20) C E dX7_readTerminal_20 hbv17 h
def f_X7_beginOnce  (x1 : Int) (d : zD) : Option (Int × zD) :=
  zl (d 12 6) fun v1 =>
  zl (zand v1 x1) fun v5 =>
  if (v5 : Int) = 0 then (
    zl (d 12 6) fun v20 =>
    zl (zor v20 x1) fun v24 =>
    zl (zu d 12 6 v24) fun d =>
    zc (f_X9_advance   d) fun _ d =>
    some (1, d))
  else (
    zc (f_X9_fail  4 d) fun v14 d =>
    some (v14, d))
theorem t_X7_beginOnce {V : zW}  (hT : zo7 V) {x1 : Int} (hx1 : zR x1) {d dz : zD} {rv : Int} (h : f_X7_beginOnce  x1 d = some (rv, dz)) : zMet V 1 yX7_beginOnce cX7_beginOnce 2 (some .boolean) [.ref (zad V 12), .int (zI x1)] d (some (.int (zI rv))) (rv = 0 ∨ rv = 1) dz := by
  refine zMet_by RX7 pn7 rfl (Nat.le_of_ble_eq_true rfl) [some (.ref (zad V 12)), some (.int (zI x1))] rfl fun X C E => ?_
  refine zP_aload_n (pc := 0) C (x := zad V 12) dX7_beginOnce_0 rfl rfl ?_
  refine zP_getI (pc := 1) (a := 12) C g7_32 dX7_beginOnce_1 (s_X7 hT) rfl h fun v1 hv1 h => ?_
  refine zP_iload_n (pc := 4) C (x := zI x1) dX7_beginOnce_4 rfl rfl ?_
  refine zP_iand (pc := 5) C dX7_beginOnce_5 h fun v5 hv5 h => ?_
  refine zP_if_eq (pc := 6) (tgt := 18) C dX7_beginOnce_6 rfl hv5 h (fun _ h => ?_) (fun _ h => ?_)
  · refine zP_aload_n (pc := 18) C (x := zad V 12) dX7_beginOnce_18 rfl rfl ?_
    refine zP_dup (pc := 19) C dX7_beginOnce_19 rfl ?_
    refine zP_getI (pc := 20) (a := 12) C g7_32 dX7_beginOnce_20 (s_X7 hT) rfl h fun v20 hv20 h => ?_
    refine zP_iload_n (pc := 23) C (x := zI x1) dX7_beginOnce_23 rfl rfl ?_
    refine zP_ior (pc := 24) C dX7_beginOnce_24 h fun v24 hv24 h => ?_
    refine zP_putI (pc := 25) (a := 12) C p7_32 dX7_beginOnce_25 (s_X7 hT) rfl hv24 h fun d h => ?_
    refine zP_aload_n (pc := 28) C (x := zad V 12) dX7_beginOnce_28 rfl rfl ?_
    refine zP_getR (pc := 29) (a := 12) (t := 10) C g7_35 dX7_beginOnce_29 (s_X7 hT) rfl ?_
    obtain ⟨_, d1, hc, h⟩ := zc_h h
    refine zP_callV (pc := 32) (As := []) (st := []) C m7_99 dX7_beginOnce_32 (s_X9 (o_X7_tokens hT)) rfl (t_X9_advance (o_X7_tokens hT)  hc) ⟨Nat.le_of_ble_eq_true rfl, Nat.le_of_ble_eq_true rfl⟩ rfl (Nat.le_of_ble_eq_true rfl) ⟨Nat.zero_le _, Nat.zero_le _⟩ fun hw => ?_
    clear hc hw
    show zP V X 2 0 0 35 _ [] d1
    revert h
    generalize d1 = d
    intro h
    refine zP_iconst (pc := 35) C dX7_beginOnce_35 ?_
    exact zP_zret (pc := 36) C E dX7_beginOnce_36 (Or.inr rfl) h
  · refine zP_aload_n (pc := 9) C (x := zad V 12) dX7_beginOnce_9 rfl rfl ?_
    refine zP_getR (pc := 10) (a := 12) (t := 10) C g7_35 dX7_beginOnce_10 (s_X7 hT) rfl ?_
    refine zP_iconst (pc := 13) C dX7_beginOnce_13 ?_
    obtain ⟨v14, d1, hc, h⟩ := zc_h h
    refine zP_callV (pc := 14) (As := [.int (zI 4)]) (st := []) C m7_66 dX7_beginOnce_14 (s_X9 (o_X7_tokens hT)) rfl (t_X9_fail (o_X7_tokens hT) (zRk rfl) hc) ⟨Nat.le_of_ble_eq_true rfl, Nat.le_of_ble_eq_true rfl⟩ rfl (Nat.le_of_ble_eq_true rfl) ⟨Nat.zero_le _, Nat.zero_le _⟩ fun hw => ?_
    have hbv14 := hw
    have hv14 := z01 hw
    clear hc hw
    show zP V X 2 0 0 17 _ [.int (zI v14)] d1
    revert h
    generalize d1 = d
    intro h
    exact zP_zret (pc := 17) C E dX7_beginOnce_17 hbv14 h
def l_X7_readList_2F  (r2 : Int → zD → Option (Int × zD)) (x1 : Int) (d : zD) : Option (Int × zD) :=
  if (600 : Int) ≤ x1 then (
    zc (f_X9_fail  1 d) fun v125 d =>
    some (v125, d))
  else (
    zc (f_X9_nameHere   d) fun v13 d =>
    if (v13 : Int) = (-1) then (
      zl (d 12 4) fun v23 =>
      if (0 : Int) < v23 then (
        some (1, d))
      else (
        zc (f_X9_fail  1 d) fun v34 d =>
        if (v34 : Int) = 0 then (
          some (0, d))
        else (
          some (1, d))))
    else (
      zc (f_X6_find 13 v13 d) fun v51 d =>
      if (v51 : Int) = (-1) then (
        zc (f_X9_fail  3 d) fun v65 d =>
        some (v65, d))
      else (
        zl (d 12 4) fun v70 =>
        if (v70 : Int) < 16 then (
          zl (d 12 4) fun v92 =>
          zg 16 v92 <| zl (zu d 19 (v92 : Int).toNat v51) fun d =>
          zl (d 12 4) fun v99 =>
          zl (zw (v99 + 1)) fun v103 =>
          zl (zu d 12 4 v103) fun d =>
          zc (f_X9_advance   d) fun _ d =>
          zl (zw (x1 + 1)) fun v114 =>
          r2 v114 d)
        else (
          zc (f_X9_fail  5 d) fun v83 d =>
          some (v83, d)))))
theorem wl_X7_readList_2F {V : zW} {X : zX}  (hT : zo7 V) (C : zOk V X cX7_readList RX7 4 (zrm 9) (some .boolean)) {rv : Int} {dz : zD} (E : zEnd V X (some (.int (zI rv))) (rv = 0 ∨ rv = 1) dz) {r2 : Int → zD → Option (Int × zD)} (hr2 : ∀ {x1 : Int} {d : zD}, zR x1 → r2 x1 d = some (rv, dz) → zP V X 4 0 0 2 [some (.ref (zad V 12)), some (.int (zI x1)), none, none] [] d) {x1 : Int} (hx1 : zR x1) {d : zD} (h : l_X7_readList_2F  r2 x1 d = some (rv, dz)) : zP V X 4 0 0 2 [some (.ref (zad V 12)), some (.int (zI x1)), none, none] [] d := by
  refine zP_iload_n (pc := 2) C (x := zI x1) dX7_readList_2 rfl rfl ?_
  refine zP_sipush (pc := 3) C dX7_readList_3 rfl ?_
  refine zP_icmp_ge (pc := 6) (tgt := 120) C dX7_readList_6 rfl hx1 (zRk rfl) h (fun _ h => ?_) (fun _ h => ?_)
  · refine zP_aload_n (pc := 120) C (x := zad V 12) dX7_readList_120 rfl rfl ?_
    refine zP_getR (pc := 121) (a := 12) (t := 10) C g7_35 dX7_readList_121 (s_X7 hT) rfl ?_
    refine zP_iconst (pc := 124) C dX7_readList_124 ?_
    obtain ⟨v125, d1, hc, h⟩ := zc_h h
    refine zP_callV (pc := 125) (As := [.int (zI 1)]) (st := []) C m7_66 dX7_readList_125 (s_X9 (o_X7_tokens hT)) rfl (t_X9_fail (o_X7_tokens hT) (zRk rfl) hc) ⟨Nat.le_of_ble_eq_true rfl, Nat.le_of_ble_eq_true rfl⟩ rfl (Nat.le_of_ble_eq_true rfl) ⟨Nat.zero_le _, Nat.zero_le _⟩ fun hw => ?_
    have hbv125 := hw
    have hv125 := z01 hw
    clear hc hw
    show zP V X 4 0 0 128 _ [.int (zI v125)] d1
    revert h
    generalize d1 = d
    intro h
    exact zP_zret (pc := 128) C E dX7_readList_128 hbv125 h
  · refine zP_aload_n (pc := 9) C (x := zad V 12) dX7_readList_9 rfl rfl ?_
    refine zP_getR (pc := 10) (a := 12) (t := 10) C g7_35 dX7_readList_10 (s_X7 hT) rfl ?_
    obtain ⟨v13, d1, hc, h⟩ := zc_h h
    refine zP_callV (pc := 13) (As := []) (st := []) C m7_102 dX7_readList_13 (s_X9 (o_X7_tokens hT)) rfl (t_X9_nameHere (o_X7_tokens hT)  hc) ⟨Nat.le_of_ble_eq_true rfl, Nat.le_of_ble_eq_true rfl⟩ rfl (Nat.le_of_ble_eq_true rfl) ⟨Nat.zero_le _, Nat.zero_le _⟩ fun hw => ?_
    have hv13 := hw
    clear hc hw
    show zP V X 4 0 0 16 _ [.int (zI v13)] d1
    revert h
    generalize d1 = d
    intro h
    refine zP_istore_n (pc := 16) C (L' := [some (.ref (zad V 12)), some (.int (zI x1)), some (.int (zI v13)), none]) dX7_readList_16 rfl (Nat.le_of_ble_eq_true rfl) rfl rfl ?_
    refine zP_iload_n (pc := 17) C (x := zI v13) dX7_readList_17 rfl rfl ?_
    refine zP_iconst (pc := 18) C dX7_readList_18 ?_
    refine zP_icmp_ne (pc := 19) (tgt := 46) C dX7_readList_19 rfl hv13 (zRk rfl) h (fun _ h => ?_) (fun _ h => ?_)
    · refine zP_aload_n (pc := 46) C (x := zad V 12) dX7_readList_46 rfl rfl ?_
      refine zP_getR (pc := 47) (a := 12) (t := 13) C g7_12 dX7_readList_47 (s_X7 hT) rfl ?_
      refine zP_iload_n (pc := 50) C (x := zI v13) dX7_readList_50 rfl rfl ?_
      obtain ⟨v51, d1, hc, h⟩ := zc_h h
      refine zP_callV (pc := 51) (As := [.int (zI v13)]) (st := []) C m7_106 dX7_readList_51 (s_X6 (o_X7_draft hT)) rfl (t_X6_find (o_X7_draft hT) hv13 hc) ⟨Nat.le_of_ble_eq_true rfl, Nat.le_of_ble_eq_true rfl⟩ rfl (Nat.le_of_ble_eq_true rfl) ⟨Nat.zero_le _, Nat.zero_le _⟩ fun hw => ?_
      have hv51 := hw
      clear hc hw
      show zP V X 4 0 0 54 _ [.int (zI v51)] d1
      revert h
      generalize d1 = d
      intro h
      refine zP_istore_n (pc := 54) C (L' := [some (.ref (zad V 12)), some (.int (zI x1)), some (.int (zI v13)), some (.int (zI v51))]) dX7_readList_54 rfl (Nat.le_of_ble_eq_true rfl) rfl rfl ?_
      refine zP_iload_n (pc := 55) C (x := zI v51) dX7_readList_55 rfl rfl ?_
      refine zP_iconst (pc := 56) C dX7_readList_56 ?_
      refine zP_icmp_ne (pc := 57) (tgt := 69) C dX7_readList_57 rfl hv51 (zRk rfl) h (fun _ h => ?_) (fun _ h => ?_)
      · refine zP_aload_n (pc := 69) C (x := zad V 12) dX7_readList_69 rfl rfl ?_
        refine zP_getI (pc := 70) (a := 12) C g7_25 dX7_readList_70 (s_X7 hT) rfl h fun v70 hv70 h => ?_
        refine zP_bipush (pc := 73) C dX7_readList_73 rfl ?_
        refine zP_icmp_lt (pc := 75) (tgt := 87) C dX7_readList_75 rfl hv70 (zRk rfl) h (fun _ h => ?_) (fun _ h => ?_)
        · refine zP_aload_n (pc := 87) C (x := zad V 12) dX7_readList_87 rfl rfl ?_
          refine zP_getR (pc := 88) (a := 12) (t := 19) C g7_22 dX7_readList_88 (s_X7 hT) rfl ?_
          refine zP_aload_n (pc := 91) C (x := zad V 12) dX7_readList_91 rfl rfl ?_
          refine zP_getI (pc := 92) (a := 12) C g7_25 dX7_readList_92 (s_X7 hT) rfl h fun v92 hv92 h => ?_
          refine zP_iload_n (pc := 95) C (x := zI v51) dX7_readList_95 rfl rfl ?_
          refine zP_iast (pc := 96) (a := 19) C dX7_readList_96 (s_X7_list hT) hv92 hv51 h fun d h => ?_
          refine zP_aload_n (pc := 97) C (x := zad V 12) dX7_readList_97 rfl rfl ?_
          refine zP_dup (pc := 98) C dX7_readList_98 rfl ?_
          refine zP_getI (pc := 99) (a := 12) C g7_25 dX7_readList_99 (s_X7 hT) rfl h fun v99 hv99 h => ?_
          refine zP_iconst (pc := 102) C dX7_readList_102 ?_
          refine zP_iadd (pc := 103) C dX7_readList_103 h fun v103 hv103 h => ?_
          refine zP_putI (pc := 104) (a := 12) C p7_25 dX7_readList_104 (s_X7 hT) rfl hv103 h fun d h => ?_
          refine zP_aload_n (pc := 107) C (x := zad V 12) dX7_readList_107 rfl rfl ?_
          refine zP_getR (pc := 108) (a := 12) (t := 10) C g7_35 dX7_readList_108 (s_X7 hT) rfl ?_
          obtain ⟨_, d1, hc, h⟩ := zc_h h
          refine zP_callV (pc := 111) (As := []) (st := []) C m7_99 dX7_readList_111 (s_X9 (o_X7_tokens hT)) rfl (t_X9_advance (o_X7_tokens hT)  hc) ⟨Nat.le_of_ble_eq_true rfl, Nat.le_of_ble_eq_true rfl⟩ rfl (Nat.le_of_ble_eq_true rfl) ⟨Nat.zero_le _, Nat.zero_le _⟩ fun hw => ?_
          clear hc hw
          show zP V X 4 0 0 114 _ [] d1
          revert h
          generalize d1 = d
          intro h
          refine zP_iinc (pc := 114) C (x := x1) dX7_readList_114 rfl (Nat.le_of_ble_eq_true rfl) rfl h fun v114 hv114 h => ?_
          show zP V X 4 0 0 117 [some (.ref (zad V 12)), some (.int (zI v114)), some (.int (zI v13)), some (.int (zI v51))] _ _
          refine zP_goto (pc := 117) (tgt := 2) C dX7_readList_117 rfl ?_
          exact zP_mask [true, true, false, false] (hr2 hv114 h)
        · refine zP_aload_n (pc := 78) C (x := zad V 12) dX7_readList_78 rfl rfl ?_
          refine zP_getR (pc := 79) (a := 12) (t := 10) C g7_35 dX7_readList_79 (s_X7 hT) rfl ?_
          refine zP_iconst (pc := 82) C dX7_readList_82 ?_
          obtain ⟨v83, d1, hc, h⟩ := zc_h h
          refine zP_callV (pc := 83) (As := [.int (zI 5)]) (st := []) C m7_66 dX7_readList_83 (s_X9 (o_X7_tokens hT)) rfl (t_X9_fail (o_X7_tokens hT) (zRk rfl) hc) ⟨Nat.le_of_ble_eq_true rfl, Nat.le_of_ble_eq_true rfl⟩ rfl (Nat.le_of_ble_eq_true rfl) ⟨Nat.zero_le _, Nat.zero_le _⟩ fun hw => ?_
          have hbv83 := hw
          have hv83 := z01 hw
          clear hc hw
          show zP V X 4 0 0 86 _ [.int (zI v83)] d1
          revert h
          generalize d1 = d
          intro h
          exact zP_zret (pc := 86) C E dX7_readList_86 hbv83 h
      · refine zP_aload_n (pc := 60) C (x := zad V 12) dX7_readList_60 rfl rfl ?_
        refine zP_getR (pc := 61) (a := 12) (t := 10) C g7_35 dX7_readList_61 (s_X7 hT) rfl ?_
        refine zP_iconst (pc := 64) C dX7_readList_64 ?_
        obtain ⟨v65, d1, hc, h⟩ := zc_h h
        refine zP_callV (pc := 65) (As := [.int (zI 3)]) (st := []) C m7_66 dX7_readList_65 (s_X9 (o_X7_tokens hT)) rfl (t_X9_fail (o_X7_tokens hT) (zRk rfl) hc) ⟨Nat.le_of_ble_eq_true rfl, Nat.le_of_ble_eq_true rfl⟩ rfl (Nat.le_of_ble_eq_true rfl) ⟨Nat.zero_le _, Nat.zero_le _⟩ fun hw => ?_
        have hbv65 := hw
        have hv65 := z01 hw
        clear hc hw
        show zP V X 4 0 0 68 _ [.int (zI v65)] d1
        revert h
        generalize d1 = d
        intro h
        exact zP_zret (pc := 68) C E dX7_readList_68 hbv65 h
    · refine zP_aload_n (pc := 22) C (x := zad V 12) dX7_readList_22 rfl rfl ?_
      refine zP_getI (pc := 23) (a := 12) C g7_25 dX7_readList_23 (s_X7 hT) rfl h fun v23 hv23 h => ?_
      refine zP_if_gt (pc := 26) (tgt := 40) C dX7_readList_26 rfl hv23 h (fun _ h => ?_) (fun _ h => ?_)
      · refine zP_iconst (pc := 40) C dX7_readList_40 ?_
        refine zP_goto (pc := 41) (tgt := 45) C dX7_readList_41 rfl ?_
        exact zP_zret (pc := 45) C E dX7_readList_45 (Or.inr rfl) h
      · refine zP_aload_n (pc := 29) C (x := zad V 12) dX7_readList_29 rfl rfl ?_
        refine zP_getR (pc := 30) (a := 12) (t := 10) C g7_35 dX7_readList_30 (s_X7 hT) rfl ?_
        refine zP_iconst (pc := 33) C dX7_readList_33 ?_
        obtain ⟨v34, d1, hc, h⟩ := zc_h h
        refine zP_callV (pc := 34) (As := [.int (zI 1)]) (st := []) C m7_66 dX7_readList_34 (s_X9 (o_X7_tokens hT)) rfl (t_X9_fail (o_X7_tokens hT) (zRk rfl) hc) ⟨Nat.le_of_ble_eq_true rfl, Nat.le_of_ble_eq_true rfl⟩ rfl (Nat.le_of_ble_eq_true rfl) ⟨Nat.zero_le _, Nat.zero_le _⟩ fun hw => ?_
        have hbv34 := hw
        have hv34 := z01 hw
        clear hc hw
        show zP V X 4 0 0 37 _ [.int (zI v34)] d1
        revert h
        generalize d1 = d
        intro h
        refine zP_if_eq (pc := 37) (tgt := 44) C dX7_readList_37 rfl hv34 h (fun _ h => ?_) (fun _ h => ?_)
        · refine zP_iconst (pc := 44) C dX7_readList_44 ?_
          exact zP_zret (pc := 45) C E dX7_readList_45 (Or.inl rfl) h
        · refine zP_iconst (pc := 40) C dX7_readList_40 ?_
          refine zP_goto (pc := 41) (tgt := 45) C dX7_readList_41 rfl ?_
          exact zP_zret (pc := 45) C E dX7_readList_45 (Or.inr rfl) h
def l_X7_readList_2   : Nat → Int → zD → Option (Int × zD)
  | 0, _, _ => none
  | q + 1, x1, d => l_X7_readList_2F   (l_X7_readList_2   q) x1 d
theorem wl_X7_readList_2 {V : zW} {X : zX}  (hT : zo7 V) (C : zOk V X cX7_readList RX7 4 (zrm 9) (some .boolean)) {rv : Int} {dz : zD} (E : zEnd V X (some (.int (zI rv))) (rv = 0 ∨ rv = 1) dz)  : ∀ (q : Nat) {x1 : Int} (hx1 : zR x1) {d : zD} (h : l_X7_readList_2   q x1 d = some (rv, dz)), zP V X 4 0 0 2 [some (.ref (zad V 12)), some (.int (zI x1)), none, none] [] d := by
  intro q
  induction q with
  | zero => intro x1 hx1 d h; cases (show (none : Option (Int × zD)) = some (rv, dz) from h)
  | succ q ih =>
    intro x1 hx1 d h
    exact wl_X7_readList_2F hT C E  (fun  hx1 h => ih hx1 h) hx1 h
def f_X7_readList  (d : zD) : Option (Int × zD) :=
  l_X7_readList_2   zF 0 d
theorem t_X7_readList {V : zW}  (hT : zo7 V)   {d dz : zD} {rv : Int} (h : f_X7_readList   d = some (rv, dz)) : zMet V 9 yX7_readList cX7_readList 4 (some .boolean) [.ref (zad V 12)] d (some (.int (zI rv))) (rv = 0 ∨ rv = 1) dz := by
  refine zMet_by RX7 pn7 rfl (Nat.le_of_ble_eq_true rfl) [some (.ref (zad V 12)), none, none, none] rfl fun X C E => ?_
  refine zP_iconst (pc := 0) C dX7_readList_0 ?_
  refine zP_istore_n (pc := 1) C (L' := [some (.ref (zad V 12)), some (.int (zI 0)), none, none]) dX7_readList_1 rfl (Nat.le_of_ble_eq_true rfl) rfl rfl ?_
  exact zP_mask [true, true, false, false] (wl_X7_readList_2 hT C E  zF (zRk rfl) h)
def l_X7_readSettings_2F  (r2 : Int → Int → zD → Option (Int × zD)) (x2 x3 : Int) (d : zD) : Option (Int × zD) :=
  if (x2 : Int) < x3 then (
    some (1, d))
  else (
    zg 6 x3 <| zl (ztab 0 (x3 : Int).toNat) fun v15 =>
    zg 6 x3 <| zl (ztab 1 (x3 : Int).toNat) fun v20 =>
    zc (f_X9_readNumber  v15 v20 d) fun v21 d =>
    if (v21 : Int) = (-1) then (
      some (0, d))
    else (
      zg 6 x3 <| zl (zu d 18 (x3 : Int).toNat v21) fun d =>
      zl (zw (x3 + 1)) fun v42 =>
      r2 x2 v42 d))
theorem wl_X7_readSettings_2F {V : zW} {X : zX}  (hT : zo7 V) (C : zOk V X cX7_readSettings RX7 5 (zrm 2) (some .boolean)) {rv : Int} {dz : zD} (E : zEnd V X (some (.int (zI rv))) (rv = 0 ∨ rv = 1) dz) {r2 : Int → Int → zD → Option (Int × zD)} (hr2 : ∀ {x2 x3 : Int} {d : zD}, zR x2 → zR x3 → r2 x2 x3 d = some (rv, dz) → zP V X 5 0 0 2 [some (.ref (zad V 12)), none, some (.int (zI x2)), some (.int (zI x3)), none] [] d) {x2 x3 : Int} (hx2 : zR x2) (hx3 : zR x3) {d : zD} (h : l_X7_readSettings_2F  r2 x2 x3 d = some (rv, dz)) : zP V X 5 0 0 2 [some (.ref (zad V 12)), none, some (.int (zI x2)), some (.int (zI x3)), none] [] d := by
  refine zP_iload_n (pc := 2) C (x := zI x3) dX7_readSettings_2 rfl rfl ?_
  refine zP_iload_n (pc := 3) C (x := zI x2) dX7_readSettings_3 rfl rfl ?_
  refine zP_icmp_gt (pc := 4) (tgt := 48) C dX7_readSettings_4 rfl hx3 hx2 h (fun _ h => ?_) (fun _ h => ?_)
  · refine zP_iconst (pc := 48) C dX7_readSettings_48 ?_
    exact zP_zret (pc := 49) C E dX7_readSettings_49 (Or.inr rfl) h
  · refine zP_aload_n (pc := 7) C (x := zad V 12) dX7_readSettings_7 rfl rfl ?_
    refine zP_getR (pc := 8) (a := 12) (t := 10) C g7_35 dX7_readSettings_8 (s_X7 hT) rfl ?_
    refine zP_getsN (pc := 11) (t := 0) C (Nat.le_of_ble_eq_true rfl) dX7_readSettings_11 ?_
    refine zP_iload_n (pc := 14) C (x := zI x3) dX7_readSettings_14 rfl rfl ?_
    refine zP_stld (pc := 15) (t := 0) C (Nat.le_of_ble_eq_true rfl) dX7_readSettings_15 hx3 h fun v15 hv15 h => ?_
    refine zP_getsN (pc := 16) (t := 1) C (Nat.le_of_ble_eq_true rfl) dX7_readSettings_16 ?_
    refine zP_iload_n (pc := 19) C (x := zI x3) dX7_readSettings_19 rfl rfl ?_
    refine zP_stld (pc := 20) (t := 1) C (Nat.le_of_ble_eq_true rfl) dX7_readSettings_20 hx3 h fun v20 hv20 h => ?_
    obtain ⟨v21, d1, hc, h⟩ := zc_h h
    refine zP_callV (pc := 21) (As := [.int (zI v15), .int (zI v20)]) (st := []) C m7_133 dX7_readSettings_21 (s_X9 (o_X7_tokens hT)) rfl (t_X9_readNumber (o_X7_tokens hT) hv15 hv20 hc) ⟨Nat.le_of_ble_eq_true rfl, Nat.le_of_ble_eq_true rfl⟩ rfl (Nat.le_of_ble_eq_true rfl) ⟨Nat.zero_le _, Nat.zero_le _⟩ fun hw => ?_
    have hv21 := hw
    clear hc hw
    show zP V X 5 0 0 24 _ [.int (zI v21)] d1
    revert h
    generalize d1 = d
    intro h
    refine zP_istore (pc := 24) C (L' := [some (.ref (zad V 12)), none, some (.int (zI x2)), some (.int (zI x3)), some (.int (zI v21))]) dX7_readSettings_24 (Nat.le_of_ble_eq_true rfl) rfl rfl ?_
    refine zP_iload (pc := 26) C (x := zI v21) dX7_readSettings_26 rfl ?_
    refine zP_iconst (pc := 28) C dX7_readSettings_28 ?_
    refine zP_icmp_ne (pc := 29) (tgt := 34) C dX7_readSettings_29 rfl hv21 (zRk rfl) h (fun _ h => ?_) (fun _ h => ?_)
    · refine zP_aload_n (pc := 34) C (x := zad V 12) dX7_readSettings_34 rfl rfl ?_
      refine zP_getR (pc := 35) (a := 12) (t := 18) C g7_18 dX7_readSettings_35 (s_X7 hT) rfl ?_
      refine zP_iload_n (pc := 38) C (x := zI x3) dX7_readSettings_38 rfl rfl ?_
      refine zP_iload (pc := 39) C (x := zI v21) dX7_readSettings_39 rfl ?_
      refine zP_iast (pc := 41) (a := 18) C dX7_readSettings_41 (s_X7_settings hT) hx3 hv21 h fun d h => ?_
      refine zP_iinc (pc := 42) C (x := x3) dX7_readSettings_42 rfl (Nat.le_of_ble_eq_true rfl) rfl h fun v42 hv42 h => ?_
      show zP V X 5 0 0 45 [some (.ref (zad V 12)), none, some (.int (zI x2)), some (.int (zI v42)), some (.int (zI v21))] _ _
      refine zP_goto (pc := 45) (tgt := 2) C dX7_readSettings_45 rfl ?_
      exact zP_mask [true, false, true, true, false] (hr2 hx2 hv42 h)
    · refine zP_iconst (pc := 32) C dX7_readSettings_32 ?_
      exact zP_zret (pc := 33) C E dX7_readSettings_33 (Or.inl rfl) h
def l_X7_readSettings_2   : Nat → Int → Int → zD → Option (Int × zD)
  | 0, _, _, _ => none
  | q + 1, x2, x3, d => l_X7_readSettings_2F   (l_X7_readSettings_2   q) x2 x3 d
theorem wl_X7_readSettings_2 {V : zW} {X : zX}  (hT : zo7 V) (C : zOk V X cX7_readSettings RX7 5 (zrm 2) (some .boolean)) {rv : Int} {dz : zD} (E : zEnd V X (some (.int (zI rv))) (rv = 0 ∨ rv = 1) dz)  : ∀ (q : Nat) {x2 x3 : Int} (hx2 : zR x2) (hx3 : zR x3) {d : zD} (h : l_X7_readSettings_2   q x2 x3 d = some (rv, dz)), zP V X 5 0 0 2 [some (.ref (zad V 12)), none, some (.int (zI x2)), some (.int (zI x3)), none] [] d := by
  intro q
  induction q with
  | zero => intro x2 x3 hx2 hx3 d h; cases (show (none : Option (Int × zD)) = some (rv, dz) from h)
  | succ q ih =>
    intro x2 x3 hx2 hx3 d h
    exact wl_X7_readSettings_2F hT C E  (fun  hx2 hx3 h => ih hx2 hx3 h) hx2 hx3 h
def f_X7_readSettings  (x1 x2 : Int) (d : zD) : Option (Int × zD) :=
  l_X7_readSettings_2   zF x2 x1 d
theorem t_X7_readSettings {V : zW}  (hT : zo7 V) {x1 x2 : Int} (hx1 : zR x1) (hx2 : zR x2) {d dz : zD} {rv : Int} (h : f_X7_readSettings  x1 x2 d = some (rv, dz)) : zMet V 2 yX7_readSettings cX7_readSettings 5 (some .boolean) [.ref (zad V 12), .int (zI x1), .int (zI x2)] d (some (.int (zI rv))) (rv = 0 ∨ rv = 1) dz := by
  refine zMet_by RX7 pn7 rfl (Nat.le_of_ble_eq_true rfl) [some (.ref (zad V 12)), some (.int (zI x1)), some (.int (zI x2)), none, none] rfl fun X C E => ?_
  refine zP_iload_n (pc := 0) C (x := zI x1) dX7_readSettings_0 rfl rfl ?_
  refine zP_istore_n (pc := 1) C (L' := [some (.ref (zad V 12)), some (.int (zI x1)), some (.int (zI x2)), some (.int (zI x1)), none]) dX7_readSettings_1 rfl (Nat.le_of_ble_eq_true rfl) rfl rfl ?_
  exact zP_mask [true, false, true, true, false] (wl_X7_readSettings_2 hT C E  zF hx2 hx1 h)
def f_X7_readSeed  (d : zD) : Option (Int × zD) :=
  zc (f_X9_readNumber  0 9999 d) fun v8 d =>
  if (v8 : Int) = (-1) then (
    some (0, d))
  else (
    zl (zu d 12 5 v8) fun d =>
    some (1, d))
theorem t_X7_readSeed {V : zW}  (hT : zo7 V)   {d dz : zD} {rv : Int} (h : f_X7_readSeed   d = some (rv, dz)) : zMet V 2 yX7_readSeed cX7_readSeed 2 (some .boolean) [.ref (zad V 12)] d (some (.int (zI rv))) (rv = 0 ∨ rv = 1) dz := by
  refine zMet_by RX7 pn7 rfl (Nat.le_of_ble_eq_true rfl) [some (.ref (zad V 12)), none] rfl fun X C E => ?_
  refine zP_aload_n (pc := 0) C (x := zad V 12) dX7_readSeed_0 rfl rfl ?_
  refine zP_getR (pc := 1) (a := 12) (t := 10) C g7_35 dX7_readSeed_1 (s_X7 hT) rfl ?_
  refine zP_iconst (pc := 4) C dX7_readSeed_4 ?_
  refine zP_sipush (pc := 5) C dX7_readSeed_5 rfl ?_
  obtain ⟨v8, d1, hc, h⟩ := zc_h h
  refine zP_callV (pc := 8) (As := [.int (zI 0), .int (zI 9999)]) (st := []) C m7_133 dX7_readSeed_8 (s_X9 (o_X7_tokens hT)) rfl (t_X9_readNumber (o_X7_tokens hT) (zRk rfl) (zRk rfl) hc) ⟨Nat.le_of_ble_eq_true rfl, Nat.le_of_ble_eq_true rfl⟩ rfl (Nat.le_of_ble_eq_true rfl) ⟨Nat.zero_le _, Nat.zero_le _⟩ fun hw => ?_
  have hv8 := hw
  clear hc hw
  show zP V X 2 0 0 11 _ [.int (zI v8)] d1
  revert h
  generalize d1 = d
  intro h
  refine zP_istore_n (pc := 11) C (L' := [some (.ref (zad V 12)), some (.int (zI v8))]) dX7_readSeed_11 rfl (Nat.le_of_ble_eq_true rfl) rfl rfl ?_
  refine zP_iload_n (pc := 12) C (x := zI v8) dX7_readSeed_12 rfl rfl ?_
  refine zP_iconst (pc := 13) C dX7_readSeed_13 ?_
  refine zP_icmp_ne (pc := 14) (tgt := 19) C dX7_readSeed_14 rfl hv8 (zRk rfl) h (fun _ h => ?_) (fun _ h => ?_)
  · refine zP_aload_n (pc := 19) C (x := zad V 12) dX7_readSeed_19 rfl rfl ?_
    refine zP_iload_n (pc := 20) C (x := zI v8) dX7_readSeed_20 rfl rfl ?_
    refine zP_putI (pc := 21) (a := 12) C p7_29 dX7_readSeed_21 (s_X7 hT) rfl hv8 h fun d h => ?_
    refine zP_iconst (pc := 24) C dX7_readSeed_24 ?_
    exact zP_zret (pc := 25) C E dX7_readSeed_25 (Or.inr rfl) h
  · refine zP_iconst (pc := 17) C dX7_readSeed_17 ?_
    exact zP_zret (pc := 18) C E dX7_readSeed_18 (Or.inl rfl) h
def f_X7_readStatement  (d : zD) : Option (Int × zD) :=
  zc (f_X9_isAtWord 1  d) fun v6 d =>
  if (v6 : Int) = 0 then (
    zc (f_X9_isAtWord 2  d) fun v23 d =>
    if (v23 : Int) = 0 then (
      zc (f_X9_isAtWord 3  d) fun v56 d =>
      if (v56 : Int) = 0 then (
        zc (f_X9_isAtWord 4  d) fun v91 d =>
        if (v91 : Int) = 0 then (
          zc (f_X9_isAtWord 5  d) fun v126 d =>
          if (v126 : Int) = 0 then (
            zc (f_X9_fail  1 d) fun v168 d =>
            some (v168, d))
          else (
            zc (f_X7_beginOnce  8 d) fun v135 d =>
            if (v135 : Int) = 0 then (
              some (0, d))
            else (
              zc (f_X7_readSettings  5 5 d) fun v144 d =>
              if (v144 : Int) = 0 then (
                some (0, d))
              else (
                zc (f_X7_readSeed   d) fun v151 d =>
                if (v151 : Int) = 0 then (
                  some (0, d))
                else (
                  some (1, d))))))
        else (
          zc (f_X7_beginOnce  4 d) fun v99 d =>
          if (v99 : Int) = 0 then (
            some (0, d))
          else (
            zc (f_X7_readSettings  4 4 d) fun v108 d =>
            if (v108 : Int) = 0 then (
              some (0, d))
            else (
              some (1, d)))))
      else (
        zc (f_X7_beginOnce  2 d) fun v64 d =>
        if (v64 : Int) = 0 then (
          some (0, d))
        else (
          zc (f_X7_readSettings  0 3 d) fun v73 d =>
          if (v73 : Int) = 0 then (
            some (0, d))
          else (
            some (1, d)))))
    else (
      zc (f_X7_beginOnce  1 d) fun v31 d =>
      if (v31 : Int) = 0 then (
        some (0, d))
      else (
        zc (f_X7_readList   d) fun v38 d =>
        if (v38 : Int) = 0 then (
          some (0, d))
        else (
          some (1, d)))))
  else (
    zc (f_X7_readTerminal   d) fun v13 d =>
    some (v13, d))
theorem t_X7_readStatement {V : zW}  (hT : zo7 V)   {d dz : zD} {rv : Int} (h : f_X7_readStatement   d = some (rv, dz)) : zMet V 10 yX7_readStatement cX7_readStatement 1 (some .boolean) [.ref (zad V 12)] d (some (.int (zI rv))) (rv = 0 ∨ rv = 1) dz := by
  refine zMet_by RX7 pn7 rfl (Nat.le_of_ble_eq_true rfl) [some (.ref (zad V 12))] rfl fun X C E => ?_
  refine zP_aload_n (pc := 0) C (x := zad V 12) dX7_readStatement_0 rfl rfl ?_
  refine zP_getR (pc := 1) (a := 12) (t := 10) C g7_35 dX7_readStatement_1 (s_X7 hT) rfl ?_
  refine zP_ldcT (pc := 4) C (i := 1) (Nat.le_of_ble_eq_true rfl) rfl rfl dX7_readStatement_4 ?_
  obtain ⟨v6, d1, hc, h⟩ := zc_h h
  refine zP_callV (pc := 6) (As := [.ref (zsa V 1)]) (st := []) C m7_72 dX7_readStatement_6 (s_X9 (o_X7_tokens hT)) rfl (t_X9_isAtWord (o_X7_tokens hT) (Nat.le_of_ble_eq_true rfl)  hc) ⟨Nat.le_of_ble_eq_true rfl, Nat.le_of_ble_eq_true rfl⟩ rfl (Nat.le_of_ble_eq_true rfl) ⟨Nat.zero_le _, Nat.zero_le _⟩ fun hw => ?_
  have hbv6 := hw
  have hv6 := z01 hw
  clear hc hw
  show zP V X 1 0 0 9 _ [.int (zI v6)] d1
  revert h
  generalize d1 = d
  intro h
  refine zP_if_eq (pc := 9) (tgt := 17) C dX7_readStatement_9 rfl hv6 h (fun _ h => ?_) (fun _ h => ?_)
  · refine zP_aload_n (pc := 17) C (x := zad V 12) dX7_readStatement_17 rfl rfl ?_
    refine zP_getR (pc := 18) (a := 12) (t := 10) C g7_35 dX7_readStatement_18 (s_X7 hT) rfl ?_
    refine zP_ldcT (pc := 21) C (i := 2) (Nat.le_of_ble_eq_true rfl) rfl rfl dX7_readStatement_21 ?_
    obtain ⟨v23, d1, hc, h⟩ := zc_h h
    refine zP_callV (pc := 23) (As := [.ref (zsa V 2)]) (st := []) C m7_72 dX7_readStatement_23 (s_X9 (o_X7_tokens hT)) rfl (t_X9_isAtWord (o_X7_tokens hT) (Nat.le_of_ble_eq_true rfl)  hc) ⟨Nat.le_of_ble_eq_true rfl, Nat.le_of_ble_eq_true rfl⟩ rfl (Nat.le_of_ble_eq_true rfl) ⟨Nat.zero_le _, Nat.zero_le _⟩ fun hw => ?_
    have hbv23 := hw
    have hv23 := z01 hw
    clear hc hw
    show zP V X 1 0 0 26 _ [.int (zI v23)] d1
    revert h
    generalize d1 = d
    intro h
    refine zP_if_eq (pc := 26) (tgt := 50) C dX7_readStatement_26 rfl hv23 h (fun _ h => ?_) (fun _ h => ?_)
    · refine zP_aload_n (pc := 50) C (x := zad V 12) dX7_readStatement_50 rfl rfl ?_
      refine zP_getR (pc := 51) (a := 12) (t := 10) C g7_35 dX7_readStatement_51 (s_X7 hT) rfl ?_
      refine zP_ldcT (pc := 54) C (i := 3) (Nat.le_of_ble_eq_true rfl) rfl rfl dX7_readStatement_54 ?_
      obtain ⟨v56, d1, hc, h⟩ := zc_h h
      refine zP_callV (pc := 56) (As := [.ref (zsa V 3)]) (st := []) C m7_72 dX7_readStatement_56 (s_X9 (o_X7_tokens hT)) rfl (t_X9_isAtWord (o_X7_tokens hT) (Nat.le_of_ble_eq_true rfl)  hc) ⟨Nat.le_of_ble_eq_true rfl, Nat.le_of_ble_eq_true rfl⟩ rfl (Nat.le_of_ble_eq_true rfl) ⟨Nat.zero_le _, Nat.zero_le _⟩ fun hw => ?_
      have hbv56 := hw
      have hv56 := z01 hw
      clear hc hw
      show zP V X 1 0 0 59 _ [.int (zI v56)] d1
      revert h
      generalize d1 = d
      intro h
      refine zP_if_eq (pc := 59) (tgt := 85) C dX7_readStatement_59 rfl hv56 h (fun _ h => ?_) (fun _ h => ?_)
      · refine zP_aload_n (pc := 85) C (x := zad V 12) dX7_readStatement_85 rfl rfl ?_
        refine zP_getR (pc := 86) (a := 12) (t := 10) C g7_35 dX7_readStatement_86 (s_X7 hT) rfl ?_
        refine zP_ldcT (pc := 89) C (i := 4) (Nat.le_of_ble_eq_true rfl) rfl rfl dX7_readStatement_89 ?_
        obtain ⟨v91, d1, hc, h⟩ := zc_h h
        refine zP_callV (pc := 91) (As := [.ref (zsa V 4)]) (st := []) C m7_72 dX7_readStatement_91 (s_X9 (o_X7_tokens hT)) rfl (t_X9_isAtWord (o_X7_tokens hT) (Nat.le_of_ble_eq_true rfl)  hc) ⟨Nat.le_of_ble_eq_true rfl, Nat.le_of_ble_eq_true rfl⟩ rfl (Nat.le_of_ble_eq_true rfl) ⟨Nat.zero_le _, Nat.zero_le _⟩ fun hw => ?_
        have hbv91 := hw
        have hv91 := z01 hw
        clear hc hw
        show zP V X 1 0 0 94 _ [.int (zI v91)] d1
        revert h
        generalize d1 = d
        intro h
        refine zP_if_eq (pc := 94) (tgt := 120) C dX7_readStatement_94 rfl hv91 h (fun _ h => ?_) (fun _ h => ?_)
        · refine zP_aload_n (pc := 120) C (x := zad V 12) dX7_readStatement_120 rfl rfl ?_
          refine zP_getR (pc := 121) (a := 12) (t := 10) C g7_35 dX7_readStatement_121 (s_X7 hT) rfl ?_
          refine zP_ldcT (pc := 124) C (i := 5) (Nat.le_of_ble_eq_true rfl) rfl rfl dX7_readStatement_124 ?_
          obtain ⟨v126, d1, hc, h⟩ := zc_h h
          refine zP_callV (pc := 126) (As := [.ref (zsa V 5)]) (st := []) C m7_72 dX7_readStatement_126 (s_X9 (o_X7_tokens hT)) rfl (t_X9_isAtWord (o_X7_tokens hT) (Nat.le_of_ble_eq_true rfl)  hc) ⟨Nat.le_of_ble_eq_true rfl, Nat.le_of_ble_eq_true rfl⟩ rfl (Nat.le_of_ble_eq_true rfl) ⟨Nat.zero_le _, Nat.zero_le _⟩ fun hw => ?_
          have hbv126 := hw
          have hv126 := z01 hw
          clear hc hw
          show zP V X 1 0 0 129 _ [.int (zI v126)] d1
          revert h
          generalize d1 = d
          intro h
          refine zP_if_eq (pc := 129) (tgt := 163) C dX7_readStatement_129 rfl hv126 h (fun _ h => ?_) (fun _ h => ?_)
          · refine zP_aload_n (pc := 163) C (x := zad V 12) dX7_readStatement_163 rfl rfl ?_
            refine zP_getR (pc := 164) (a := 12) (t := 10) C g7_35 dX7_readStatement_164 (s_X7 hT) rfl ?_
            refine zP_iconst (pc := 167) C dX7_readStatement_167 ?_
            obtain ⟨v168, d1, hc, h⟩ := zc_h h
            refine zP_callV (pc := 168) (As := [.int (zI 1)]) (st := []) C m7_66 dX7_readStatement_168 (s_X9 (o_X7_tokens hT)) rfl (t_X9_fail (o_X7_tokens hT) (zRk rfl) hc) ⟨Nat.le_of_ble_eq_true rfl, Nat.le_of_ble_eq_true rfl⟩ rfl (Nat.le_of_ble_eq_true rfl) ⟨Nat.zero_le _, Nat.zero_le _⟩ fun hw => ?_
            have hbv168 := hw
            have hv168 := z01 hw
            clear hc hw
            show zP V X 1 0 0 171 _ [.int (zI v168)] d1
            revert h
            generalize d1 = d
            intro h
            exact zP_zret (pc := 171) C E dX7_readStatement_171 hbv168 h
          · refine zP_aload_n (pc := 132) C (x := zad V 12) dX7_readStatement_132 rfl rfl ?_
            refine zP_bipush (pc := 133) C dX7_readStatement_133 rfl ?_
            obtain ⟨v135, d1, hc, h⟩ := zc_h h
            refine zP_callV (pc := 135) (As := [.int (zI 8)]) (st := []) C m7_80 dX7_readStatement_135 (s_X7 hT) rfl (t_X7_beginOnce hT (zRk rfl) hc) ⟨Nat.le_of_ble_eq_true rfl, Nat.le_of_ble_eq_true rfl⟩ rfl (Nat.le_of_ble_eq_true rfl) ⟨Nat.zero_le _, Nat.zero_le _⟩ fun hw => ?_
            have hbv135 := hw
            have hv135 := z01 hw
            clear hc hw
            show zP V X 1 0 0 138 _ [.int (zI v135)] d1
            revert h
            generalize d1 = d
            intro h
            refine zP_if_eq (pc := 138) (tgt := 161) C dX7_readStatement_138 rfl hv135 h (fun _ h => ?_) (fun _ h => ?_)
            · refine zP_iconst (pc := 161) C dX7_readStatement_161 ?_
              exact zP_zret (pc := 162) C E dX7_readStatement_162 (Or.inl rfl) h
            · refine zP_aload_n (pc := 141) C (x := zad V 12) dX7_readStatement_141 rfl rfl ?_
              refine zP_iconst (pc := 142) C dX7_readStatement_142 ?_
              refine zP_iconst (pc := 143) C dX7_readStatement_143 ?_
              obtain ⟨v144, d1, hc, h⟩ := zc_h h
              refine zP_callV (pc := 144) (As := [.int (zI 5), .int (zI 5)]) (st := []) C m7_88 dX7_readStatement_144 (s_X7 hT) rfl (t_X7_readSettings hT (zRk rfl) (zRk rfl) hc) ⟨Nat.le_of_ble_eq_true rfl, Nat.le_of_ble_eq_true rfl⟩ rfl (Nat.le_of_ble_eq_true rfl) ⟨Nat.zero_le _, Nat.zero_le _⟩ fun hw => ?_
              have hbv144 := hw
              have hv144 := z01 hw
              clear hc hw
              show zP V X 1 0 0 147 _ [.int (zI v144)] d1
              revert h
              generalize d1 = d
              intro h
              refine zP_if_eq (pc := 147) (tgt := 161) C dX7_readStatement_147 rfl hv144 h (fun _ h => ?_) (fun _ h => ?_)
              · refine zP_iconst (pc := 161) C dX7_readStatement_161 ?_
                exact zP_zret (pc := 162) C E dX7_readStatement_162 (Or.inl rfl) h
              · refine zP_aload_n (pc := 150) C (x := zad V 12) dX7_readStatement_150 rfl rfl ?_
                obtain ⟨v151, d1, hc, h⟩ := zc_h h
                refine zP_callV (pc := 151) (As := []) (st := []) C m7_96 dX7_readStatement_151 (s_X7 hT) rfl (t_X7_readSeed hT  hc) ⟨Nat.le_of_ble_eq_true rfl, Nat.le_of_ble_eq_true rfl⟩ rfl (Nat.le_of_ble_eq_true rfl) ⟨Nat.zero_le _, Nat.zero_le _⟩ fun hw => ?_
                have hbv151 := hw
                have hv151 := z01 hw
                clear hc hw
                show zP V X 1 0 0 154 _ [.int (zI v151)] d1
                revert h
                generalize d1 = d
                intro h
                refine zP_if_eq (pc := 154) (tgt := 161) C dX7_readStatement_154 rfl hv151 h (fun _ h => ?_) (fun _ h => ?_)
                · refine zP_iconst (pc := 161) C dX7_readStatement_161 ?_
                  exact zP_zret (pc := 162) C E dX7_readStatement_162 (Or.inl rfl) h
                · refine zP_iconst (pc := 157) C dX7_readStatement_157 ?_
                  refine zP_goto (pc := 158) (tgt := 162) C dX7_readStatement_158 rfl ?_
                  exact zP_zret (pc := 162) C E dX7_readStatement_162 (Or.inr rfl) h
        · refine zP_aload_n (pc := 97) C (x := zad V 12) dX7_readStatement_97 rfl rfl ?_
          refine zP_iconst (pc := 98) C dX7_readStatement_98 ?_
          obtain ⟨v99, d1, hc, h⟩ := zc_h h
          refine zP_callV (pc := 99) (As := [.int (zI 4)]) (st := []) C m7_80 dX7_readStatement_99 (s_X7 hT) rfl (t_X7_beginOnce hT (zRk rfl) hc) ⟨Nat.le_of_ble_eq_true rfl, Nat.le_of_ble_eq_true rfl⟩ rfl (Nat.le_of_ble_eq_true rfl) ⟨Nat.zero_le _, Nat.zero_le _⟩ fun hw => ?_
          have hbv99 := hw
          have hv99 := z01 hw
          clear hc hw
          show zP V X 1 0 0 102 _ [.int (zI v99)] d1
          revert h
          generalize d1 = d
          intro h
          refine zP_if_eq (pc := 102) (tgt := 118) C dX7_readStatement_102 rfl hv99 h (fun _ h => ?_) (fun _ h => ?_)
          · refine zP_iconst (pc := 118) C dX7_readStatement_118 ?_
            exact zP_zret (pc := 119) C E dX7_readStatement_119 (Or.inl rfl) h
          · refine zP_aload_n (pc := 105) C (x := zad V 12) dX7_readStatement_105 rfl rfl ?_
            refine zP_iconst (pc := 106) C dX7_readStatement_106 ?_
            refine zP_iconst (pc := 107) C dX7_readStatement_107 ?_
            obtain ⟨v108, d1, hc, h⟩ := zc_h h
            refine zP_callV (pc := 108) (As := [.int (zI 4), .int (zI 4)]) (st := []) C m7_88 dX7_readStatement_108 (s_X7 hT) rfl (t_X7_readSettings hT (zRk rfl) (zRk rfl) hc) ⟨Nat.le_of_ble_eq_true rfl, Nat.le_of_ble_eq_true rfl⟩ rfl (Nat.le_of_ble_eq_true rfl) ⟨Nat.zero_le _, Nat.zero_le _⟩ fun hw => ?_
            have hbv108 := hw
            have hv108 := z01 hw
            clear hc hw
            show zP V X 1 0 0 111 _ [.int (zI v108)] d1
            revert h
            generalize d1 = d
            intro h
            refine zP_if_eq (pc := 111) (tgt := 118) C dX7_readStatement_111 rfl hv108 h (fun _ h => ?_) (fun _ h => ?_)
            · refine zP_iconst (pc := 118) C dX7_readStatement_118 ?_
              exact zP_zret (pc := 119) C E dX7_readStatement_119 (Or.inl rfl) h
            · refine zP_iconst (pc := 114) C dX7_readStatement_114 ?_
              refine zP_goto (pc := 115) (tgt := 119) C dX7_readStatement_115 rfl ?_
              exact zP_zret (pc := 119) C E dX7_readStatement_119 (Or.inr rfl) h
      · refine zP_aload_n (pc := 62) C (x := zad V 12) dX7_readStatement_62 rfl rfl ?_
        refine zP_iconst (pc := 63) C dX7_readStatement_63 ?_
        obtain ⟨v64, d1, hc, h⟩ := zc_h h
        refine zP_callV (pc := 64) (As := [.int (zI 2)]) (st := []) C m7_80 dX7_readStatement_64 (s_X7 hT) rfl (t_X7_beginOnce hT (zRk rfl) hc) ⟨Nat.le_of_ble_eq_true rfl, Nat.le_of_ble_eq_true rfl⟩ rfl (Nat.le_of_ble_eq_true rfl) ⟨Nat.zero_le _, Nat.zero_le _⟩ fun hw => ?_
        have hbv64 := hw
        have hv64 := z01 hw
        clear hc hw
        show zP V X 1 0 0 67 _ [.int (zI v64)] d1
        revert h
        generalize d1 = d
        intro h
        refine zP_if_eq (pc := 67) (tgt := 83) C dX7_readStatement_67 rfl hv64 h (fun _ h => ?_) (fun _ h => ?_)
        · refine zP_iconst (pc := 83) C dX7_readStatement_83 ?_
          exact zP_zret (pc := 84) C E dX7_readStatement_84 (Or.inl rfl) h
        · refine zP_aload_n (pc := 70) C (x := zad V 12) dX7_readStatement_70 rfl rfl ?_
          refine zP_iconst (pc := 71) C dX7_readStatement_71 ?_
          refine zP_iconst (pc := 72) C dX7_readStatement_72 ?_
          obtain ⟨v73, d1, hc, h⟩ := zc_h h
          refine zP_callV (pc := 73) (As := [.int (zI 0), .int (zI 3)]) (st := []) C m7_88 dX7_readStatement_73 (s_X7 hT) rfl (t_X7_readSettings hT (zRk rfl) (zRk rfl) hc) ⟨Nat.le_of_ble_eq_true rfl, Nat.le_of_ble_eq_true rfl⟩ rfl (Nat.le_of_ble_eq_true rfl) ⟨Nat.zero_le _, Nat.zero_le _⟩ fun hw => ?_
          have hbv73 := hw
          have hv73 := z01 hw
          clear hc hw
          show zP V X 1 0 0 76 _ [.int (zI v73)] d1
          revert h
          generalize d1 = d
          intro h
          refine zP_if_eq (pc := 76) (tgt := 83) C dX7_readStatement_76 rfl hv73 h (fun _ h => ?_) (fun _ h => ?_)
          · refine zP_iconst (pc := 83) C dX7_readStatement_83 ?_
            exact zP_zret (pc := 84) C E dX7_readStatement_84 (Or.inl rfl) h
          · refine zP_iconst (pc := 79) C dX7_readStatement_79 ?_
            refine zP_goto (pc := 80) (tgt := 84) C dX7_readStatement_80 rfl ?_
            exact zP_zret (pc := 84) C E dX7_readStatement_84 (Or.inr rfl) h
    · refine zP_aload_n (pc := 29) C (x := zad V 12) dX7_readStatement_29 rfl rfl ?_
      refine zP_iconst (pc := 30) C dX7_readStatement_30 ?_
      obtain ⟨v31, d1, hc, h⟩ := zc_h h
      refine zP_callV (pc := 31) (As := [.int (zI 1)]) (st := []) C m7_80 dX7_readStatement_31 (s_X7 hT) rfl (t_X7_beginOnce hT (zRk rfl) hc) ⟨Nat.le_of_ble_eq_true rfl, Nat.le_of_ble_eq_true rfl⟩ rfl (Nat.le_of_ble_eq_true rfl) ⟨Nat.zero_le _, Nat.zero_le _⟩ fun hw => ?_
      have hbv31 := hw
      have hv31 := z01 hw
      clear hc hw
      show zP V X 1 0 0 34 _ [.int (zI v31)] d1
      revert h
      generalize d1 = d
      intro h
      refine zP_if_eq (pc := 34) (tgt := 48) C dX7_readStatement_34 rfl hv31 h (fun _ h => ?_) (fun _ h => ?_)
      · refine zP_iconst (pc := 48) C dX7_readStatement_48 ?_
        exact zP_zret (pc := 49) C E dX7_readStatement_49 (Or.inl rfl) h
      · refine zP_aload_n (pc := 37) C (x := zad V 12) dX7_readStatement_37 rfl rfl ?_
        obtain ⟨v38, d1, hc, h⟩ := zc_h h
        refine zP_callV (pc := 38) (As := []) (st := []) C m7_83 dX7_readStatement_38 (s_X7 hT) rfl (t_X7_readList hT  hc) ⟨Nat.le_of_ble_eq_true rfl, Nat.le_of_ble_eq_true rfl⟩ rfl (Nat.le_of_ble_eq_true rfl) ⟨Nat.zero_le _, Nat.zero_le _⟩ fun hw => ?_
        have hbv38 := hw
        have hv38 := z01 hw
        clear hc hw
        show zP V X 1 0 0 41 _ [.int (zI v38)] d1
        revert h
        generalize d1 = d
        intro h
        refine zP_if_eq (pc := 41) (tgt := 48) C dX7_readStatement_41 rfl hv38 h (fun _ h => ?_) (fun _ h => ?_)
        · refine zP_iconst (pc := 48) C dX7_readStatement_48 ?_
          exact zP_zret (pc := 49) C E dX7_readStatement_49 (Or.inl rfl) h
        · refine zP_iconst (pc := 44) C dX7_readStatement_44 ?_
          refine zP_goto (pc := 45) (tgt := 49) C dX7_readStatement_45 rfl ?_
          exact zP_zret (pc := 49) C E dX7_readStatement_49 (Or.inr rfl) h
  · refine zP_aload_n (pc := 12) C (x := zad V 12) dX7_readStatement_12 rfl rfl ?_
    obtain ⟨v13, d1, hc, h⟩ := zc_h h
    refine zP_callV (pc := 13) (As := []) (st := []) C m7_76 dX7_readStatement_13 (s_X7 hT) rfl (t_X7_readTerminal hT  hc) ⟨Nat.le_of_ble_eq_true rfl, Nat.le_of_ble_eq_true rfl⟩ rfl (Nat.le_of_ble_eq_true rfl) ⟨Nat.zero_le _, Nat.zero_le _⟩ fun hw => ?_
    have hbv13 := hw
    have hv13 := z01 hw
    clear hc hw
    show zP V X 1 0 0 16 _ [.int (zI v13)] d1
    revert h
    generalize d1 = d
    intro h
    exact zP_zret (pc := 16) C E dX7_readStatement_16 hbv13 h
def f_X9_readSemicolon  (d : zD) : Option (Int × zD) :=
  zl (d 10 2) fun v1 =>
  if (v1 : Int) = 2 then (
    zc (f_X9_advance   d) fun _ d =>
    some (1, d))
  else (
    zc (f_X9_fail  1 d) fun v10 d =>
    some (v10, d))
theorem t_X9_readSemicolon {V : zW}  (hT : zo9 V)   {d dz : zD} {rv : Int} (h : f_X9_readSemicolon   d = some (rv, dz)) : zMet V 1 yX9_readSemicolon cX9_readSemicolon 1 (some .boolean) [.ref (zad V 10)] d (some (.int (zI rv))) (rv = 0 ∨ rv = 1) dz := by
  refine zMet_by RX9 pn9 rfl (Nat.le_of_ble_eq_true rfl) [some (.ref (zad V 10))] rfl fun X C E => ?_
  refine zP_aload_n (pc := 0) C (x := zad V 10) dX9_readSemicolon_0 rfl rfl ?_
  refine zP_getI (pc := 1) (a := 10) C g9_19 dX9_readSemicolon_1 (s_X9 hT) rfl h fun v1 hv1 h => ?_
  refine zP_iconst (pc := 4) C dX9_readSemicolon_4 ?_
  refine zP_icmp_eq (pc := 5) (tgt := 14) C dX9_readSemicolon_5 rfl hv1 (zRk rfl) h (fun _ h => ?_) (fun _ h => ?_)
  · refine zP_aload_n (pc := 14) C (x := zad V 10) dX9_readSemicolon_14 rfl rfl ?_
    obtain ⟨_, d1, hc, h⟩ := zc_h h
    refine zP_callV (pc := 15) (As := []) (st := []) C m9_38 dX9_readSemicolon_15 (s_X9 hT) rfl (t_X9_advance hT  hc) ⟨Nat.le_of_ble_eq_true rfl, Nat.le_of_ble_eq_true rfl⟩ rfl (Nat.le_of_ble_eq_true rfl) ⟨Nat.zero_le _, Nat.zero_le _⟩ fun hw => ?_
    clear hc hw
    show zP V X 1 0 0 18 _ [] d1
    revert h
    generalize d1 = d
    intro h
    refine zP_iconst (pc := 18) C dX9_readSemicolon_18 ?_
    exact zP_zret (pc := 19) C E dX9_readSemicolon_19 (Or.inr rfl) h
  · refine zP_aload_n (pc := 8) C (x := zad V 10) dX9_readSemicolon_8 rfl rfl ?_
    refine zP_iconst (pc := 9) C dX9_readSemicolon_9 ?_
    obtain ⟨v10, d1, hc, h⟩ := zc_h h
    refine zP_callV (pc := 10) (As := [.int (zI 1)]) (st := []) C m9_58 dX9_readSemicolon_10 (s_X9 hT) rfl (t_X9_fail hT (zRk rfl) hc) ⟨Nat.le_of_ble_eq_true rfl, Nat.le_of_ble_eq_true rfl⟩ rfl (Nat.le_of_ble_eq_true rfl) ⟨Nat.zero_le _, Nat.zero_le _⟩ fun hw => ?_
    have hbv10 := hw
    have hv10 := z01 hw
    clear hc hw
    show zP V X 1 0 0 13 _ [.int (zI v10)] d1
    revert h
    generalize d1 = d
    intro h
    exact zP_zret (pc := 13) C E dX9_readSemicolon_13 hbv10 h
def j_X7_readText_88   (d : zD) : Option (Int × zD) :=
  zl (d 13 0) fun v92 =>
  if (0 : Int) < v92 then (
    some (1, d))
  else (
    zc (f_X9_fail  1 d) fun v103 d =>
    if (v103 : Int) = 0 then (
      some (0, d))
    else (
      some (1, d)))
theorem wj_X7_readText_88 {V : zW} {X : zX}  (hT : zo7 V) (C : zOk V X cX7_readText RX7 2 (zrm 11) (some .boolean)) {rv : Int} {dz : zD} (E : zEnd V X (some (.int (zI rv))) (rv = 0 ∨ rv = 1) dz)    {d : zD} (h : j_X7_readText_88    d = some (rv, dz)) : zP V X 2 0 0 88 [some (.ref (zad V 12)), none] [] d := by
  refine zP_aload_n (pc := 88) C (x := zad V 12) dX7_readText_88 rfl rfl ?_
  refine zP_getR (pc := 89) (a := 12) (t := 13) C g7_12 dX7_readText_89 (s_X7 hT) rfl ?_
  refine zP_getI (pc := 92) (a := 13) C g7_39 dX7_readText_92 (s_X6 (o_X7_draft hT)) rfl h fun v92 hv92 h => ?_
  refine zP_if_gt (pc := 95) (tgt := 109) C dX7_readText_95 rfl hv92 h (fun _ h => ?_) (fun _ h => ?_)
  · refine zP_iconst (pc := 109) C dX7_readText_109 ?_
    refine zP_goto (pc := 110) (tgt := 114) C dX7_readText_110 rfl ?_
    exact zP_zret (pc := 114) C E dX7_readText_114 (Or.inr rfl) h
  · refine zP_aload_n (pc := 98) C (x := zad V 12) dX7_readText_98 rfl rfl ?_
    refine zP_getR (pc := 99) (a := 12) (t := 10) C g7_35 dX7_readText_99 (s_X7 hT) rfl ?_
    refine zP_iconst (pc := 102) C dX7_readText_102 ?_
    obtain ⟨v103, d1, hc, h⟩ := zc_h h
    refine zP_callV (pc := 103) (As := [.int (zI 1)]) (st := []) C m7_66 dX7_readText_103 (s_X9 (o_X7_tokens hT)) rfl (t_X9_fail (o_X7_tokens hT) (zRk rfl) hc) ⟨Nat.le_of_ble_eq_true rfl, Nat.le_of_ble_eq_true rfl⟩ rfl (Nat.le_of_ble_eq_true rfl) ⟨Nat.zero_le _, Nat.zero_le _⟩ fun hw => ?_
    have hbv103 := hw
    have hv103 := z01 hw
    clear hc hw
    show zP V X 2 0 0 106 _ [.int (zI v103)] d1
    revert h
    generalize d1 = d
    intro h
    refine zP_if_eq (pc := 106) (tgt := 113) C dX7_readText_106 rfl hv103 h (fun _ h => ?_) (fun _ h => ?_)
    · refine zP_iconst (pc := 113) C dX7_readText_113 ?_
      exact zP_zret (pc := 114) C E dX7_readText_114 (Or.inl rfl) h
    · refine zP_iconst (pc := 109) C dX7_readText_109 ?_
      refine zP_goto (pc := 110) (tgt := 114) C dX7_readText_110 rfl ?_
      exact zP_zret (pc := 114) C E dX7_readText_114 (Or.inr rfl) h
def l_X7_readText_46F  (r46 : Int → zD → Option (Int × zD)) (x1 : Int) (d : zD) : Option (Int × zD) :=
  if (600 : Int) ≤ x1 then (
    j_X7_readText_88    d)
  else (
    zc (f_X9_isAtEnd   d) fun v57 d =>
    if (v57 : Int) = 0 then (
      zc (f_X7_readStatement   d) fun v64 d =>
      if (v64 : Int) = 0 then (
        some (0, d))
      else (
        zc (f_X9_readSemicolon   d) fun v74 d =>
        if (v74 : Int) = 0 then (
          some (0, d))
        else (
          zl (zw (x1 + 1)) fun v82 =>
          r46 v82 d)))
    else (
      j_X7_readText_88    d))
theorem wl_X7_readText_46F {V : zW} {X : zX}  (hT : zo7 V) (C : zOk V X cX7_readText RX7 2 (zrm 11) (some .boolean)) {rv : Int} {dz : zD} (E : zEnd V X (some (.int (zI rv))) (rv = 0 ∨ rv = 1) dz) {r46 : Int → zD → Option (Int × zD)} (hr46 : ∀ {x1 : Int} {d : zD}, zR x1 → r46 x1 d = some (rv, dz) → zP V X 2 0 0 46 [some (.ref (zad V 12)), some (.int (zI x1))] [] d) {x1 : Int} (hx1 : zR x1) {d : zD} (h : l_X7_readText_46F  r46 x1 d = some (rv, dz)) : zP V X 2 0 0 46 [some (.ref (zad V 12)), some (.int (zI x1))] [] d := by
  refine zP_iload_n (pc := 46) C (x := zI x1) dX7_readText_46 rfl rfl ?_
  refine zP_sipush (pc := 47) C dX7_readText_47 rfl ?_
  refine zP_icmp_ge (pc := 50) (tgt := 88) C dX7_readText_50 rfl hx1 (zRk rfl) h (fun _ h => ?_) (fun _ h => ?_)
  · exact zP_mask [true, false] (wj_X7_readText_88 hT C E   h)
  · refine zP_aload_n (pc := 53) C (x := zad V 12) dX7_readText_53 rfl rfl ?_
    refine zP_getR (pc := 54) (a := 12) (t := 10) C g7_35 dX7_readText_54 (s_X7 hT) rfl ?_
    obtain ⟨v57, d1, hc, h⟩ := zc_h h
    refine zP_callV (pc := 57) (As := []) (st := []) C m7_56 dX7_readText_57 (s_X9 (o_X7_tokens hT)) rfl (t_X9_isAtEnd (o_X7_tokens hT)  hc) ⟨Nat.le_of_ble_eq_true rfl, Nat.le_of_ble_eq_true rfl⟩ rfl (Nat.le_of_ble_eq_true rfl) ⟨Nat.zero_le _, Nat.zero_le _⟩ fun hw => ?_
    have hbv57 := hw
    have hv57 := z01 hw
    clear hc hw
    show zP V X 2 0 0 60 _ [.int (zI v57)] d1
    revert h
    generalize d1 = d
    intro h
    refine zP_if_ne (pc := 60) (tgt := 88) C dX7_readText_60 rfl hv57 h (fun _ h => ?_) (fun _ h => ?_)
    · exact zP_mask [true, false] (wj_X7_readText_88 hT C E   h)
    · refine zP_aload_n (pc := 63) C (x := zad V 12) dX7_readText_63 rfl rfl ?_
      obtain ⟨v64, d1, hc, h⟩ := zc_h h
      refine zP_callV (pc := 64) (As := []) (st := []) C m7_60 dX7_readText_64 (s_X7 hT) rfl (t_X7_readStatement hT  hc) ⟨Nat.le_of_ble_eq_true rfl, Nat.le_of_ble_eq_true rfl⟩ rfl (Nat.le_of_ble_eq_true rfl) ⟨Nat.zero_le _, Nat.zero_le _⟩ fun hw => ?_
      have hbv64 := hw
      have hv64 := z01 hw
      clear hc hw
      show zP V X 2 0 0 67 _ [.int (zI v64)] d1
      revert h
      generalize d1 = d
      intro h
      refine zP_if_eq (pc := 67) (tgt := 80) C dX7_readText_67 rfl hv64 h (fun _ h => ?_) (fun _ h => ?_)
      · refine zP_iconst (pc := 80) C dX7_readText_80 ?_
        exact zP_zret (pc := 81) C E dX7_readText_81 (Or.inl rfl) h
      · refine zP_aload_n (pc := 70) C (x := zad V 12) dX7_readText_70 rfl rfl ?_
        refine zP_getR (pc := 71) (a := 12) (t := 10) C g7_35 dX7_readText_71 (s_X7 hT) rfl ?_
        obtain ⟨v74, d1, hc, h⟩ := zc_h h
        refine zP_callV (pc := 74) (As := []) (st := []) C m7_63 dX7_readText_74 (s_X9 (o_X7_tokens hT)) rfl (t_X9_readSemicolon (o_X7_tokens hT)  hc) ⟨Nat.le_of_ble_eq_true rfl, Nat.le_of_ble_eq_true rfl⟩ rfl (Nat.le_of_ble_eq_true rfl) ⟨Nat.zero_le _, Nat.zero_le _⟩ fun hw => ?_
        have hbv74 := hw
        have hv74 := z01 hw
        clear hc hw
        show zP V X 2 0 0 77 _ [.int (zI v74)] d1
        revert h
        generalize d1 = d
        intro h
        refine zP_if_ne (pc := 77) (tgt := 82) C dX7_readText_77 rfl hv74 h (fun _ h => ?_) (fun _ h => ?_)
        · refine zP_iinc (pc := 82) C (x := x1) dX7_readText_82 rfl (Nat.le_of_ble_eq_true rfl) rfl h fun v82 hv82 h => ?_
          show zP V X 2 0 0 85 [some (.ref (zad V 12)), some (.int (zI v82))] _ _
          refine zP_goto (pc := 85) (tgt := 46) C dX7_readText_85 rfl ?_
          exact zP_mask [true, true] (hr46 hv82 h)
        · refine zP_iconst (pc := 80) C dX7_readText_80 ?_
          exact zP_zret (pc := 81) C E dX7_readText_81 (Or.inl rfl) h
def l_X7_readText_46   : Nat → Int → zD → Option (Int × zD)
  | 0, _, _ => none
  | q + 1, x1, d => l_X7_readText_46F   (l_X7_readText_46   q) x1 d
theorem wl_X7_readText_46 {V : zW} {X : zX}  (hT : zo7 V) (C : zOk V X cX7_readText RX7 2 (zrm 11) (some .boolean)) {rv : Int} {dz : zD} (E : zEnd V X (some (.int (zI rv))) (rv = 0 ∨ rv = 1) dz)  : ∀ (q : Nat) {x1 : Int} (hx1 : zR x1) {d : zD} (h : l_X7_readText_46   q x1 d = some (rv, dz)), zP V X 2 0 0 46 [some (.ref (zad V 12)), some (.int (zI x1))] [] d := by
  intro q
  induction q with
  | zero => intro x1 hx1 d h; cases (show (none : Option (Int × zD)) = some (rv, dz) from h)
  | succ q ih =>
    intro x1 hx1 d h
    exact wl_X7_readText_46F hT C E  (fun  hx1 h => ih hx1 h) hx1 h
def f_X7_readText  (d : zD) : Option (Int × zD) :=
  zl (zu d 13 0 0) fun d =>
  zcg 6 6 0 0 6 <| zl (zcp d (ztab 2) (0 : Int).toNat 18 (0 : Int).toNat (6 : Int).toNat) fun d =>
  zl (zu d 12 4 0) fun d =>
  zl (zu d 12 5 1) fun d =>
  zl (zu d 12 6 0) fun d =>
  zc (f_X9_begin   d) fun _ d =>
  l_X7_readText_46   zF 0 d
theorem t_X7_readText {V : zW}  (hT : zo7 V)   {d dz : zD} {rv : Int} (h : f_X7_readText   d = some (rv, dz)) : zMet V 11 yX7_readText cX7_readText 2 (some .boolean) [.ref (zad V 12)] d (some (.int (zI rv))) (rv = 0 ∨ rv = 1) dz := by
  refine zMet_by RX7 pn7 rfl (Nat.le_of_ble_eq_true rfl) [some (.ref (zad V 12)), none] rfl fun X C E => ?_
  refine zP_aload_n (pc := 0) C (x := zad V 12) dX7_readText_0 rfl rfl ?_
  refine zP_getR (pc := 1) (a := 12) (t := 13) C g7_12 dX7_readText_1 (s_X7 hT) rfl ?_
  refine zP_iconst (pc := 4) C dX7_readText_4 ?_
  refine zP_putI (pc := 5) (a := 13) C p7_39 dX7_readText_5 (s_X6 (o_X7_draft hT)) rfl (zRk rfl) h fun d h => ?_
  refine zP_getsN (pc := 8) (t := 2) C (Nat.le_of_ble_eq_true rfl) dX7_readText_8 ?_
  refine zP_iconst (pc := 11) C dX7_readText_11 ?_
  refine zP_aload_n (pc := 12) C (x := zad V 12) dX7_readText_12 rfl rfl ?_
  refine zP_getR (pc := 13) (a := 12) (t := 18) C g7_18 dX7_readText_13 (s_X7 hT) rfl ?_
  refine zP_iconst (pc := 16) C dX7_readText_16 ?_
  refine zP_bipush (pc := 17) C dX7_readText_17 rfl ?_
  refine zP_copyS (pc := 19) (t := 2) (a := 18) C (Nat.le_of_ble_eq_true rfl) ac7_45 dX7_readText_19 (s_X7_settings hT) (zRk rfl) (zRk rfl) (zRk rfl) ⟨Nat.le_of_ble_eq_true rfl, Nat.le_of_ble_eq_true rfl⟩ h fun d h => ?_
  refine zP_aload_n (pc := 22) C (x := zad V 12) dX7_readText_22 rfl rfl ?_
  refine zP_iconst (pc := 23) C dX7_readText_23 ?_
  refine zP_putI (pc := 24) (a := 12) C p7_25 dX7_readText_24 (s_X7 hT) rfl (zRk rfl) h fun d h => ?_
  refine zP_aload_n (pc := 27) C (x := zad V 12) dX7_readText_27 rfl rfl ?_
  refine zP_iconst (pc := 28) C dX7_readText_28 ?_
  refine zP_putI (pc := 29) (a := 12) C p7_29 dX7_readText_29 (s_X7 hT) rfl (zRk rfl) h fun d h => ?_
  refine zP_aload_n (pc := 32) C (x := zad V 12) dX7_readText_32 rfl rfl ?_
  refine zP_iconst (pc := 33) C dX7_readText_33 ?_
  refine zP_putI (pc := 34) (a := 12) C p7_32 dX7_readText_34 (s_X7 hT) rfl (zRk rfl) h fun d h => ?_
  refine zP_aload_n (pc := 37) C (x := zad V 12) dX7_readText_37 rfl rfl ?_
  refine zP_getR (pc := 38) (a := 12) (t := 10) C g7_35 dX7_readText_38 (s_X7 hT) rfl ?_
  obtain ⟨_, d1, hc, h⟩ := zc_h h
  refine zP_callV (pc := 41) (As := []) (st := []) C m7_51 dX7_readText_41 (s_X9 (o_X7_tokens hT)) rfl (t_X9_begin (o_X7_tokens hT)  hc) ⟨Nat.le_of_ble_eq_true rfl, Nat.le_of_ble_eq_true rfl⟩ rfl (Nat.le_of_ble_eq_true rfl) ⟨Nat.zero_le _, Nat.zero_le _⟩ fun hw => ?_
  clear hc hw
  show zP V X 2 0 0 44 _ [] d1
  revert h
  generalize d1 = d
  intro h
  refine zP_iconst (pc := 44) C dX7_readText_44 ?_
  refine zP_istore_n (pc := 45) C (L' := [some (.ref (zad V 12)), some (.int (zI 0))]) dX7_readText_45 rfl (Nat.le_of_ble_eq_true rfl) rfl rfl ?_
  exact zP_mask [true, true] (wl_X7_readText_46 hT C E  zF (zRk rfl) h)
def f_X5_verbHere  (d : zD) : Option (Int × zD) :=
  zc (f_X9_isAtWord 9  d) fun v6 d =>
  if (v6 : Int) = 0 then (
    zc (f_X9_isAtWord 10  d) fun v20 d =>
    if (v20 : Int) = 0 then (
      zc (f_X9_isAtWord 11  d) fun v34 d =>
      if (v34 : Int) = 0 then (
        zc (f_X9_isAtWord 12  d) fun v48 d =>
        if (v48 : Int) = 0 then (
          zc (f_X9_isAtWord 13  d) fun v62 d =>
          if (v62 : Int) = 0 then (
            zc (f_X9_isAtWord 14  d) fun v76 d =>
            if (v76 : Int) = 0 then (
              some ((-1), d))
            else (
              some (5, d)))
          else (
            some (4, d)))
        else (
          some (3, d)))
      else (
        some (2, d)))
    else (
      some (1, d)))
  else (
    some (0, d))
def j_X5_readWho_57   (x1 x2 : Int) (d : zD) : Option (Int × zD) :=
  if (x2 : Int) = x1 then (
    zc (f_X9_fail  4 d) fun v67 d =>
    some ((-2), d))
  else (
    zc (f_X9_advance   d) fun _ d =>
    some (x2, d))
def j_X5_readWho_50   (s0 : Int) (d : zD) : Option (Int × zD) :=
  zc (f_X9_fail  s0 d) fun v50 d =>
  some ((-2), d)
def f_X5_readWho  (x1 : Int) (d : zD) : Option (Int × zD) :=
  zc (f_X9_isAtWord 15  d) fun v8 d =>
  if (v8 : Int) = 0 then (
    zc (f_X9_nameHere   d) fun v18 d =>
    zc (f_X6_find 1 v18 d) fun v27 d =>
    if (v27 : Int) = (-1) then (
      if (v18 : Int) = (-1) then (
        j_X5_readWho_50   1 d)
      else (
        j_X5_readWho_50   3 d))
    else (
      j_X5_readWho_57   x1 v27 d))
  else (
    j_X5_readWho_57   x1 (-1) d)
def f_X5_readPost  (d : zD) : Option (Int × zD) :=
  zl (d 20 6) fun v5 =>
  zc (f_X5_readWho  (-2) d) fun v11 d =>
  zg 30 v5 <| zl (zu d 22 (v5 : Int).toNat v11) fun d =>
  zl (d 20 6) fun v20 =>
  zg 30 v20 <| zl (d 22 (v20 : Int).toNat) fun v23 =>
  if (v23 : Int) = (-2) then (
    some (0, d))
  else (
    zl (d 20 6) fun v36 =>
    zl (d 20 6) fun v45 =>
    zg 30 v45 <| zl (d 22 (v45 : Int).toNat) fun v48 =>
    zc (f_X5_readWho  v48 d) fun v49 d =>
    zg 30 v36 <| zl (zu d 23 (v36 : Int).toNat v49) fun d =>
    zl (d 20 6) fun v58 =>
    zg 30 v58 <| zl (d 23 (v58 : Int).toNat) fun v61 =>
    if (v61 : Int) = (-2) then (
      some (0, d))
    else (
      zl (d 20 6) fun v74 =>
      zc (f_X9_readNumber  1 20 d) fun v84 d =>
      zg 30 v74 <| zl (zu d 24 (v74 : Int).toNat v84) fun d =>
      zl (d 20 6) fun v93 =>
      zg 30 v93 <| zl (d 24 (v93 : Int).toNat) fun v96 =>
      if (v96 : Int) = (-1) then (
        some (0, d))
      else (
        some (1, d))))
def f_X5_readRest  (x1 : Int) (d : zD) : Option (Int × zD) :=
  zsw x1 [(0, (
    zc (f_X5_readPost   d) fun v37 d =>
    some (v37, d))), (3, (
    zl (d 20 6) fun v46 =>
    zc (f_X9_readNumber  1 50 d) fun v56 d =>
    zg 30 v46 <| zl (zu d 22 (v46 : Int).toNat v56) fun d =>
    zl (d 20 6) fun v65 =>
    zg 30 v65 <| zl (d 22 (v65 : Int).toNat) fun v68 =>
    if (v68 : Int) = (-1) then (
      some (0, d))
    else (
      some (1, d)))), (5, (
    zl (d 20 6) fun v84 =>
    zc (f_X9_readNumber  0 15 d) fun v94 d =>
    zg 30 v84 <| zl (zu d 22 (v84 : Int).toNat v94) fun d =>
    zl (d 20 6) fun v103 =>
    zg 30 v103 <| zl (d 22 (v103 : Int).toNat) fun v106 =>
    if (v106 : Int) = (-1) then (
      some (0, d))
    else (
      some (1, d))))] (
    zc (f_X9_isAtWord 15  d) fun v123 d =>
    if (v123 : Int) = 0 then (
      zl (d 20 6) fun v143 =>
      zc (f_X5_readWho  (-2) d) fun v149 d =>
      zg 30 v143 <| zl (zu d 22 (v143 : Int).toNat v149) fun d =>
      zl (d 20 6) fun v158 =>
      zg 30 v158 <| zl (d 22 (v158 : Int).toNat) fun v161 =>
      if (v161 : Int) = (-2) then (
        some (0, d))
      else (
        some (1, d)))
    else (
      zc (f_X9_fail  1 d) fun v134 d =>
      some (v134, d)))
def l_X5_readText_14F  (r14 : Int → zD → Option (Int × zD)) (x1 : Int) (d : zD) : Option (Int × zD) :=
  if (600 : Int) ≤ x1 then (
    some (1, d))
  else (
    zc (f_X9_isAtEnd   d) fun v25 d =>
    if (v25 : Int) = 0 then (
      zc (f_X5_verbHere   d) fun v32 d =>
      if (v32 : Int) = (-1) then (
        zc (f_X9_fail  1 d) fun v46 d =>
        some (v46, d))
      else (
        zl (d 20 6) fun v51 =>
        if (v51 : Int) < 30 then (
          zc (f_X9_advance   d) fun _ d =>
          zl (d 20 6) fun v80 =>
          zg 30 v80 <| zl (zu d 21 (v80 : Int).toNat v32) fun d =>
          zc (f_X5_readRest  v32 d) fun v87 d =>
          if (v87 : Int) = 0 then (
            some (0, d))
          else (
            zc (f_X9_readSemicolon   d) fun v97 d =>
            if (v97 : Int) = 0 then (
              some (0, d))
            else (
              zl (d 20 6) fun v107 =>
              zl (zw (v107 + 1)) fun v111 =>
              zl (zu d 20 6 v111) fun d =>
              zl (zw (x1 + 1)) fun v115 =>
              r14 v115 d)))
        else (
          zc (f_X9_fail  5 d) fun v64 d =>
          some (v64, d))))
    else (
      some (1, d)))
def l_X5_readText_14   : Nat → Int → zD → Option (Int × zD)
  | 0, _, _ => none
  | q + 1, x1, d => l_X5_readText_14F   (l_X5_readText_14   q) x1 d
def f_X5_readText  (d : zD) : Option (Int × zD) :=
  zl (zu d 20 6 0) fun d =>
  zc (f_X9_begin   d) fun _ d =>
  l_X5_readText_14   zF 0 d